/-! CoderTables.inLowestTerms(JJ)J -/
abbrev rm_X_inLowestTerms : Room := { frames := 0, cells := 0, slots := 0, locals := 0 }
def q_X_inLowestTerms_44 (x0 : Int64) (x4 : Int64) (u : CT) (post : Int64 → CT → Prop) : Prop :=
  ((¬ (lg_cmp (x4) ((0 : Int64))) = 0 → (¬ (x4) = 0 ∧ post ((x0) / (x4)) (u))) ∧ ((lg_cmp (x4) ((0 : Int64))) = 0 → post (x0) (u)))
set_option maxRecDepth 100000 in
theorem w_X_inLowestTerms_44 {p : Program} {l : Launch} {e : Env} {s : State} {m : MethodId} {args : Array Value} {below : List Frame} {meth : Method} {c : Code} {Z : ZT} {ad : Nat → Nat} {u0 : CT} {post : Int64 → CT → Prop} (C : CX "CoderTables" b_X_inLowestTerms 11 (some .long) Z (va_A (cX Z ad u0) s.heap.size) p l s m args meth c) (htab : ∀ x ∈ c.exceptionTable.toList, False) (x0 : Int64) (x4 : Int64) (u : CT) (H : Heap) (locs : List Loc) (ls : Array Slot) (hw : WD Z (va_A (cX Z ad u0) s.heap.size) s (cX Z ad u) H locs) (hl : lv_has ls 11 [(0, .long (x0)), (4, .long (x4))]) (h : q_X_inLowestTerms_44 x0 x4 u post) : W p l e rm_X_inLowestTerms s m args below meth c H locs 0 0 (vx_MQ below (pQl Z (cX Z ad) (cX Z ad u0) s.heap.size post) (pX Z (cX Z ad) (cX Z ad u0) s.heap.size (fun _ _ => False)) args s 0 0 rm_X_inLowestTerms.cells rm_X_inLowestTerms.slots (va_A (cX Z ad u0) s.heap.size)) (F0 m 44 ls []) := by
  unfold q_X_inLowestTerms_44 at h
  refine lv_lload C.2.1 C.2.2.1 d_X_inLowestTerms_44 (lv_at hl 1 rfl) ?_
  refine lv_lconst (v := 0) C.2.1 C.2.2.1 d_X_inLowestTerms_46 (by decide) ?_
  refine W.lcmp C.2.1 C.2.2.1 d_X_inLowestTerms_47 ?_
  refine lv_if_ne (tgt := 55) C.2.1 C.2.2.1 d_X_inLowestTerms_48 (by decide) (fun c => ?_) (fun c => ?_)
  · have h := h.1 c
    refine lv_lload_n C.2.1 C.2.2.1 d_X_inLowestTerms_55 rfl (lv_at hl 0 rfl) ?_
    refine lv_lload C.2.1 C.2.2.1 d_X_inLowestTerms_56 (lv_at hl 1 rfl) ?_
    obtain ⟨h0, h⟩ := h
    refine lv_ldiv C.2.1 C.2.2.1 d_X_inLowestTerms_58 h0 ?_
    exact g_lret C hw h d_X_inLowestTerms_59
  · have h := h.2 c
    refine lv_lload_n C.2.1 C.2.2.1 d_X_inLowestTerms_51 rfl (lv_at hl 0 rfl) ?_
    refine lv_goto (tgt := 59) C.2.1 C.2.2.1 d_X_inLowestTerms_52 (by decide) ?_
    exact g_lret C hw h d_X_inLowestTerms_59
def q_X_inLowestTerms_9 (K9 : Int64 → Int64 → Int64 → Int32 → CT → Prop) (x0 : Int64) (x4 : Int64) (x6 : Int64) (x8 : Int32) (u : CT) (post : Int64 → CT → Prop) : Prop :=
  (((((100) : Int32)) ≤ (x8) → q_X_inLowestTerms_44 (x0) (x4) (u) post) ∧ (¬ (((100) : Int32)) ≤ (x8) → (((lg_cmp (x6) ((0 : Int64))) = 0 → q_X_inLowestTerms_44 (x0) (x4) (u) post) ∧ (¬ (lg_cmp (x6) ((0 : Int64))) = 0 → (¬ (x6) = 0 ∧ K9 (x0) (x6) ((x4) - (x4) / (x6) * (x6)) ((x8) + 1) (u))))))
set_option maxRecDepth 100000 in
theorem w_X_inLowestTerms_9 {p : Program} {l : Launch} {e : Env} {s : State} {m : MethodId} {args : Array Value} {below : List Frame} {meth : Method} {c : Code} {Z : ZT} {ad : Nat → Nat} {u0 : CT} {post : Int64 → CT → Prop} {K9 : Int64 → Int64 → Int64 → Int32 → CT → Prop} (C : CX "CoderTables" b_X_inLowestTerms 11 (some .long) Z (va_A (cX Z ad u0) s.heap.size) p l s m args meth c) (htab : ∀ x ∈ c.exceptionTable.toList, False) (hK9 : ∀ (x0 : Int64) (x4 : Int64) (x6 : Int64) (x8 : Int32) (u : CT) (H : Heap) (locs : List Loc) (ls : Array Slot), K9 x0 x4 x6 x8 u → WD Z (va_A (cX Z ad u0) s.heap.size) s (cX Z ad u) H locs → lv_has ls 11 [(0, .long (x0)), (4, .long (x4)), (6, .long (x6)), (8, .int (x8))] → W p l e rm_X_inLowestTerms s m args below meth c H locs 0 0 (vx_MQ below (pQl Z (cX Z ad) (cX Z ad u0) s.heap.size post) (pX Z (cX Z ad) (cX Z ad u0) s.heap.size (fun _ _ => False)) args s 0 0 rm_X_inLowestTerms.cells rm_X_inLowestTerms.slots (va_A (cX Z ad u0) s.heap.size)) (F0 m 9 ls [])) (x0 : Int64) (x4 : Int64) (x6 : Int64) (x8 : Int32) (u : CT) (H : Heap) (locs : List Loc) (ls : Array Slot) (hw : WD Z (va_A (cX Z ad u0) s.heap.size) s (cX Z ad u) H locs) (hl : lv_has ls 11 [(0, .long (x0)), (4, .long (x4)), (6, .long (x6)), (8, .int (x8))]) (h : q_X_inLowestTerms_9 K9 x0 x4 x6 x8 u post) : W p l e rm_X_inLowestTerms s m args below meth c H locs 0 0 (vx_MQ below (pQl Z (cX Z ad) (cX Z ad u0) s.heap.size post) (pX Z (cX Z ad) (cX Z ad u0) s.heap.size (fun _ _ => False)) args s 0 0 rm_X_inLowestTerms.cells rm_X_inLowestTerms.slots (va_A (cX Z ad u0) s.heap.size)) (F0 m 9 ls []) := by
  unfold q_X_inLowestTerms_9 at h
  refine lv_iload C.2.1 C.2.2.1 d_X_inLowestTerms_9 (lv_at hl 3 rfl) ?_
  refine lv_bipush (v := (100)) C.2.1 C.2.2.1 d_X_inLowestTerms_11 (by decide) ?_
  refine lv_icmp_ge (tgt := 44) C.2.1 C.2.2.1 d_X_inLowestTerms_13 (by decide) (fun c => ?_) (fun c => ?_)
  · have h := h.1 c
    exact w_X_inLowestTerms_44 C htab (x0) (x4) _ _ _ _ hw (lv_sub hl [0, 1] rfl) h
  · have h := h.2 c
    refine lv_lload C.2.1 C.2.2.1 d_X_inLowestTerms_16 (lv_at hl 2 rfl) ?_
    refine lv_lconst (v := 0) C.2.1 C.2.2.1 d_X_inLowestTerms_18 (by decide) ?_
    refine W.lcmp C.2.1 C.2.2.1 d_X_inLowestTerms_19 ?_
    refine lv_if_eq (tgt := 44) C.2.1 C.2.2.1 d_X_inLowestTerms_20 (by decide) (fun c => ?_) (fun c => ?_)
    · have h := h.1 c
      exact w_X_inLowestTerms_44 C htab (x0) (x4) _ _ _ _ hw (lv_sub hl [0, 1] rfl) h
    · have h := h.2 c
      refine lv_lload C.2.1 C.2.2.1 d_X_inLowestTerms_23 (lv_at hl 1 rfl) ?_
      refine lv_lload C.2.1 C.2.2.1 d_X_inLowestTerms_25 (lv_at hl 2 rfl) ?_
      obtain ⟨h0, h⟩ := h
      refine lv_lrem C.2.1 C.2.2.1 d_X_inLowestTerms_27 h0 ?_
      refine lv_lstore (lv' := [(9, .long ((x4) - (x4) / (x6) * (x6))), (0, .long (x0)), (4, .long (x4)), (6, .long (x6)), (8, .int (x8))]) C.2.1 C.2.2.1 d_X_inLowestTerms_28 hl (by decide) rfl (fun ls hl => ?_)
      refine lv_lload C.2.1 C.2.2.1 d_X_inLowestTerms_30 (lv_at hl 3 rfl) ?_
      refine lv_lstore (lv' := [(4, .long (x6)), (9, .long ((x4) - (x4) / (x6) * (x6))), (0, .long (x0)), (6, .long (x6)), (8, .int (x8))]) C.2.1 C.2.2.1 d_X_inLowestTerms_32 hl (by decide) rfl (fun ls hl => ?_)
      refine lv_lload C.2.1 C.2.2.1 d_X_inLowestTerms_34 (lv_at hl 1 rfl) ?_
      refine lv_lstore (lv' := [(6, .long ((x4) - (x4) / (x6) * (x6))), (4, .long (x6)), (9, .long ((x4) - (x4) / (x6) * (x6))), (0, .long (x0)), (8, .int (x8))]) C.2.1 C.2.2.1 d_X_inLowestTerms_36 hl (by decide) rfl (fun ls hl => ?_)
      refine lv_iinc (v := (x8) + 1) (lv' := [(8, .int ((x8) + 1)), (6, .long ((x4) - (x4) / (x6) * (x6))), (4, .long (x6)), (9, .long ((x4) - (x4) / (x6) * (x6))), (0, .long (x0))]) C.2.1 C.2.2.1 d_X_inLowestTerms_38 hl (k := 4) rfl rfl (by decide) rfl (fun ls hl => ?_)
      refine lv_goto (tgt := 9) C.2.1 C.2.2.1 d_X_inLowestTerms_41 (by decide) ?_
      exact hK9 (x0) (x6) ((x4) - (x4) / (x6) * (x6)) ((x8) + 1) _ _ _ _ h hw (lv_sub hl [4, 2, 1, 0] rfl)
def q_X_inLowestTerms_9N : Nat → Int64 → Int64 → Int64 → Int32 → CT → (Int64 → CT → Prop) → Prop
  | 0 => fun _ _ _ _ _ _ => False
  | n + 1 => fun x0 x4 x6 x8 u post => q_X_inLowestTerms_9 (fun x0 x4 x6 x8 u => q_X_inLowestTerms_9N n x0 x4 x6 x8 u post) x0 x4 x6 x8 u post
theorem w_X_inLowestTerms_9N {p : Program} {l : Launch} {e : Env} {s : State} {m : MethodId} {args : Array Value} {below : List Frame} {meth : Method} {c : Code} {Z : ZT} {ad : Nat → Nat} {u0 : CT} {post : Int64 → CT → Prop} (C : CX "CoderTables" b_X_inLowestTerms 11 (some .long) Z (va_A (cX Z ad u0) s.heap.size) p l s m args meth c) (htab : ∀ x ∈ c.exceptionTable.toList, False) : ∀ (n : Nat) (x0 : Int64) (x4 : Int64) (x6 : Int64) (x8 : Int32) (u : CT) (H : Heap) (locs : List Loc) (ls : Array Slot), WD Z (va_A (cX Z ad u0) s.heap.size) s (cX Z ad u) H locs → lv_has ls 11 [(0, .long (x0)), (4, .long (x4)), (6, .long (x6)), (8, .int (x8))] → q_X_inLowestTerms_9N n x0 x4 x6 x8 u post → W p l e rm_X_inLowestTerms s m args below meth c H locs 0 0 (vx_MQ below (pQl Z (cX Z ad) (cX Z ad u0) s.heap.size post) (pX Z (cX Z ad) (cX Z ad u0) s.heap.size (fun _ _ => False)) args s 0 0 rm_X_inLowestTerms.cells rm_X_inLowestTerms.slots (va_A (cX Z ad u0) s.heap.size)) (F0 m 9 ls []) := by
  intro n
  induction n with
  | zero => intro x0 x4 x6 x8 u H locs ls hw hl h; exact h.elim
  | succ n ih => intro x0 x4 x6 x8 u H locs ls hw hl h; exact w_X_inLowestTerms_9 C htab (fun x0 x4 x6 x8 u H locs ls h hw hl => ih x0 x4 x6 x8 u H locs ls hw hl h) x0 x4 x6 x8 u H locs ls hw hl h
def q_X_inLowestTerms (p0 : Int64) (p2 : Int64) (u : CT) (post : Int64 → CT → Prop) : Prop :=
  ∃ n, q_X_inLowestTerms_9N n (p0) (p0) (p2) (((0) : Int32)) (u) post
set_option maxRecDepth 100000 in
theorem c_X_inLowestTerms {l : Launch} {Z : ZT} {ad : Nat → Nat} {u : CT} {post : Int64 → CT → Prop} {p0 : Int64} {p2 : Int64} (hl0 : l.stackTraces = false) (h : q_X_inLowestTerms p0 p2 u post) : ∀ sz, vx_Met l y_X_inLowestTerms (Cond.code y_X_inLowestTerms b_X_inLowestTerms 11 (some .long) :: GW) rm_X_inLowestTerms (pP Z [.long (p0), .long (p2)] (cX Z ad u) sz) (pQl Z (cX Z ad) (cX Z ad u) sz post) (pX Z (cX Z ad) (cX Z ad u) sz (fun _ _ => False)) 0 0 rm_X_inLowestTerms.cells rm_X_inLowestTerms.slots (va_A (cX Z ad u) sz) := by
  refine g_ent (f := cX Z ad) (Qc := fun sz => pQl Z (cX Z ad) (cX Z ad u) sz post) (XC := fun sz => pX Z (cX Z ad) (cX Z ad u) sz (fun _ _ => False)) hl0 (by decide +kernel) (Nat.le_of_ble_eq_true rfl) ?_
  intro p e s m args below meth c ls C htab hw hl
  have hl : lv_has ls 11 [(0, .long (p0)), (2, .long (p2))] := hl
  unfold q_X_inLowestTerms at h
  refine lv_lload_n C.2.1 C.2.2.1 d_X_inLowestTerms_0 rfl (lv_at hl 0 rfl) ?_
  refine lv_lstore (lv' := [(4, .long (p0)), (0, .long (p0)), (2, .long (p2))]) C.2.1 C.2.2.1 d_X_inLowestTerms_1 hl (by decide) rfl (fun ls hl => ?_)
  refine lv_lload_n C.2.1 C.2.2.1 d_X_inLowestTerms_3 rfl (lv_at hl 2 rfl) ?_
  refine lv_lstore (lv' := [(6, .long (p2)), (4, .long (p0)), (0, .long (p0)), (2, .long (p2))]) C.2.1 C.2.2.1 d_X_inLowestTerms_4 hl (by decide) rfl (fun ls hl => ?_)
  refine lv_iconst (v := (0)) C.2.1 C.2.2.1 d_X_inLowestTerms_6 (by decide) ?_
  refine lv_istore (lv' := [(8, .int (((0) : Int32))), (6, .long (p2)), (4, .long (p0)), (0, .long (p0)), (2, .long (p2))]) C.2.1 C.2.2.1 d_X_inLowestTerms_7 hl (by decide) rfl (fun ls hl => ?_)
  obtain ⟨n, h⟩ := h
  exact w_X_inLowestTerms_9N C htab n (p0) (p0) (p2) (((0) : Int32)) _ _ _ _ hw (lv_sub hl [3, 2, 1, 0] rfl) h
section KR
variable {own host : String} {cc bytes : ByteArray} {nL maxL index n : Nat} {rt0 rt : Option FieldType} {Z : ZT} {ad : Nat → Nat} {A : Nat → Prop}
variable {p : Program} {l : Launch} {e : Env} {R : Room} {s : State} {m : MethodId} {args : Array Value} {below : List Frame} {meth : Method} {c : Code} {H : Heap} {locs : List Loc} {cells slots : Nat} {Q : State → Prop} {rest : List Value} {pc : Nat} {ls : Array Slot}
theorem k_X_130 {u : CT} {p0 : Int64} {p2 : Int64} {post : Int64 → CT → Prop} (C : CX "CoderTables" cc nL rt0 Z A p l s m args meth c) (hw : WD Z A s (cX Z ad u) H locs) (h : q_X_inLowestTerms p0 p2 u post) (hR : rmOk rm_X_inLowestTerms 11 R cells slots) (hl : ls.size = nL) (hW : (rest.map fun v => v.category).sum ≤ 8) (hdg : decode cc pc = .ok (.invokestatic 130, 3)) (kk : ∀ (r : Int64) (u' : CT) (H1 : Heap) (locs1 : List Loc), post r u' → WD Z A s (cX Z ad u') H1 locs1 → W p l e R s m args below meth c H1 locs1 cells slots Q (F0 m (pc + 3) ls (.long r :: rest))) : W p l e R s m args below meth c H locs cells slots Q (F0 m pc ls (.long (p2) :: .long (p0) :: rest)) :=
  g_S0_l (n := 2) (f := cX Z ad) (As := [.long (p0), .long (p2)]) C hw (c_X_inLowestTerms C.1 h) ⟨w440, w441, w53, w442, (by decide +kernel), (by decide +kernel), (by decide +kernel)⟩ hR rfl hl rfl hW hdg (fun _ _ _ _ _ _ h => h.elim) kk
end KR
/-! CoderTables.mean(IZ)J -/
abbrev rm_X_mean : Room := { frames := 7, cells := 1, slots := 6, locals := 111 }
def q_X_mean (p1 : Int32) (p2 : Int32) (u : CT) (post : Int64 → CT → Prop) (ex : String → CT → Prop) : Prop :=
  q_X_needCoder (p1) (u) (fun u2 => q_X_needCounted (p1) (u2) (fun u4 => q_X_sumOf (p1) (u4) (fun r5 u6 => q_X_countedOf (p1) (u6) (fun r7 u8 => (((p2) = 0 → q_X_inLowestTerms ((r7).toInt64) (r5) (u8) (fun r9 u10 => post (r9) (u10))) ∧ (¬ (p2) = 0 → q_X_inLowestTerms (r5) ((r7).toInt64) (u8) (fun r11 u12 => post (r11) (u12))))))) ex) ex
set_option maxRecDepth 100000 in
theorem c_X_mean {l : Launch} {Z : ZT} {ad : Nat → Nat} {u : CT} {post : Int64 → CT → Prop} {ex : String → CT → Prop} {p1 : Int32} {p2 : Int32} (hl0 : l.stackTraces = false) (h : q_X_mean p1 p2 u post ex) : ∀ sz, vx_Met l y_X_mean (Cond.code y_X_mean b_X_mean 7 (some .long) :: GW) rm_X_mean (pP Z [.ref (ad 0), .int (p1), .int (p2)] (cX Z ad u) sz) (pQl Z (cX Z ad) (cX Z ad u) sz post) (pX Z (cX Z ad) (cX Z ad u) sz ex) 0 0 rm_X_mean.cells rm_X_mean.slots (va_A (cX Z ad u) sz) := by
  refine g_ent (f := cX Z ad) (Qc := fun sz => pQl Z (cX Z ad) (cX Z ad u) sz post) (XC := fun sz => pX Z (cX Z ad) (cX Z ad u) sz ex) hl0 (by decide +kernel) (Nat.le_of_ble_eq_true rfl) ?_
  intro p e s m args below meth c ls C htab hw hl
  have hl : lv_has ls 7 [(0, .ref (ad 0)), (1, .int (p1)), (2, .int (p2))] := hl
  unfold q_X_mean at h
  refine lv_aload_n C.2.1 C.2.2.1 d_X_mean_0 rfl (lv_at hl 0 rfl) ?_
  refine lv_iload_n C.2.1 C.2.2.1 d_X_mean_1 rfl (lv_at hl 1 rfl) ?_
  refine k_X_114 C hw h ⟨Nat.le_of_ble_eq_true rfl, Nat.le_of_ble_eq_true rfl, Nat.le_of_ble_eq_true rfl, Nat.le_of_ble_eq_true rfl⟩ hl.1 (Nat.le_of_ble_eq_true rfl) d_X_mean_2 (fun _ _ _ _ _ _ he hw h1 h2 h3 => g_out C htab hw he h1 h2 h3 (Nat.le_of_ble_eq_true rfl) (Nat.le_of_ble_eq_true rfl)) (fun u2 H locs h hw => ?_)
  refine lv_aload_n C.2.1 C.2.2.1 d_X_mean_5 rfl (lv_at hl 0 rfl) ?_
  refine lv_iload_n C.2.1 C.2.2.1 d_X_mean_6 rfl (lv_at hl 1 rfl) ?_
  refine k_X_127 C hw h ⟨Nat.le_of_ble_eq_true rfl, Nat.le_of_ble_eq_true rfl, Nat.le_of_ble_eq_true rfl, Nat.le_of_ble_eq_true rfl⟩ hl.1 (Nat.le_of_ble_eq_true rfl) d_X_mean_7 (fun _ _ _ _ _ _ he hw h1 h2 h3 => g_out C htab hw he h1 h2 h3 (Nat.le_of_ble_eq_true rfl) (Nat.le_of_ble_eq_true rfl)) (fun u4 H locs h hw => ?_)
  refine lv_aload_n C.2.1 C.2.2.1 d_X_mean_10 rfl (lv_at hl 0 rfl) ?_
  refine lv_iload_n C.2.1 C.2.2.1 d_X_mean_11 rfl (lv_at hl 1 rfl) ?_
  refine k_X_123 C hw h ⟨Nat.le_of_ble_eq_true rfl, Nat.le_of_ble_eq_true rfl, Nat.le_of_ble_eq_true rfl, Nat.le_of_ble_eq_true rfl⟩ hl.1 (Nat.le_of_ble_eq_true rfl) d_X_mean_12 (fun r5 u6 H locs h hw => ?_)
  refine lv_lstore_n (lv' := [(3, .long (r5)), (0, .ref (ad 0)), (1, .int (p1)), (2, .int (p2))]) C.2.1 C.2.2.1 d_X_mean_15 rfl hl (by decide) rfl (fun ls hl => ?_)
  refine lv_aload_n C.2.1 C.2.2.1 d_X_mean_16 rfl (lv_at hl 1 rfl) ?_
  refine lv_iload_n C.2.1 C.2.2.1 d_X_mean_17 rfl (lv_at hl 2 rfl) ?_
  refine k_X_117 C hw h ⟨Nat.le_of_ble_eq_true rfl, Nat.le_of_ble_eq_true rfl, Nat.le_of_ble_eq_true rfl, Nat.le_of_ble_eq_true rfl⟩ hl.1 (Nat.le_of_ble_eq_true rfl) d_X_mean_18 (fun r7 u8 H locs h hw => ?_)
  refine lv_i2l C.2.1 C.2.2.1 d_X_mean_21 rfl ?_
  refine lv_lstore (lv' := [(5, .long ((r7).toInt64)), (3, .long (r5)), (0, .ref (ad 0)), (1, .int (p1)), (2, .int (p2))]) C.2.1 C.2.2.1 d_X_mean_22 hl (by decide) rfl (fun ls hl => ?_)
  refine lv_iload_n C.2.1 C.2.2.1 d_X_mean_24 rfl (lv_at hl 4 rfl) ?_
  refine lv_if_eq (tgt := 37) C.2.1 C.2.2.1 d_X_mean_25 (by decide) (fun c => ?_) (fun c => ?_)
  · have h := h.1 c
    refine lv_lload C.2.1 C.2.2.1 d_X_mean_37 (lv_at hl 0 rfl) ?_
    refine lv_lload_n C.2.1 C.2.2.1 d_X_mean_39 rfl (lv_at hl 1 rfl) ?_
    refine k_X_130 C hw h ⟨Nat.le_of_ble_eq_true rfl, Nat.le_of_ble_eq_true rfl, Nat.le_of_ble_eq_true rfl, Nat.le_of_ble_eq_true rfl⟩ hl.1 (Nat.le_of_ble_eq_true rfl) d_X_mean_40 (fun r9 u10 H locs h hw => ?_)
    exact g_lret C hw h d_X_mean_43
  · have h := h.2 c
    refine lv_lload_n C.2.1 C.2.2.1 d_X_mean_28 rfl (lv_at hl 1 rfl) ?_
    refine lv_lload C.2.1 C.2.2.1 d_X_mean_29 (lv_at hl 0 rfl) ?_
    refine k_X_130 C hw h ⟨Nat.le_of_ble_eq_true rfl, Nat.le_of_ble_eq_true rfl, Nat.le_of_ble_eq_true rfl, Nat.le_of_ble_eq_true rfl⟩ hl.1 (Nat.le_of_ble_eq_true rfl) d_X_mean_31 (fun r11 u12 H locs h hw => ?_)
    refine lv_goto (tgt := 43) C.2.1 C.2.2.1 d_X_mean_34 (by decide) ?_
    exact g_lret C hw h d_X_mean_43
/-! java/lang/Long.compare(JJ)I -/
abbrev rm_J_compare : Room := { frames := 0, cells := 0, slots := 0, locals := 0 }
def q_J_compare (p0 : Int64) (p2 : Int64) (u : CT) (post : Int32 → CT → Prop) : Prop :=
  ((0 ≤ (lg_cmp (p0) (p2)) → ((¬ (lg_cmp (p0) (p2)) = 0 → post (((1) : Int32)) (u)) ∧ ((lg_cmp (p0) (p2)) = 0 → post (((0) : Int32)) (u)))) ∧ (¬ 0 ≤ (lg_cmp (p0) (p2)) → post (((-1) : Int32)) (u)))
set_option maxRecDepth 100000 in
theorem c_J_compare {l : Launch} {Z : ZT} {ad : Nat → Nat} {u : CT} {post : Int32 → CT → Prop} {p0 : Int64} {p2 : Int64} (hl0 : l.stackTraces = false) (h : q_J_compare p0 p2 u post) : ∀ sz, vx_Met l y_J_compare (Cond.code y_J_compare b_J_compare 4 (some .int) :: GW) rm_J_compare (pP Z [.long (p0), .long (p2)] (cX Z ad u) sz) (pQi Z (cX Z ad) (cX Z ad u) sz post) (pX Z (cX Z ad) (cX Z ad u) sz (fun _ _ => False)) 0 0 rm_J_compare.cells rm_J_compare.slots (va_A (cX Z ad u) sz) := by
  refine g_ent (f := cX Z ad) (Qc := fun sz => pQi Z (cX Z ad) (cX Z ad u) sz post) (XC := fun sz => pX Z (cX Z ad) (cX Z ad u) sz (fun _ _ => False)) hl0 (by decide +kernel) (Nat.le_of_ble_eq_true rfl) ?_
  intro p e s m args below meth c ls C htab hw hl
  have hl : lv_has ls 4 [(0, .long (p0)), (2, .long (p2))] := hl
  unfold q_J_compare at h
  refine lv_lload_n C.2.1 C.2.2.1 d_J_compare_0 rfl (lv_at hl 0 rfl) ?_
  refine lv_lload_n C.2.1 C.2.2.1 d_J_compare_1 rfl (lv_at hl 1 rfl) ?_
  refine W.lcmp C.2.1 C.2.2.1 d_J_compare_2 ?_
  refine lv_if_ge (tgt := 10) C.2.1 C.2.2.1 d_J_compare_3 (by decide) (fun c => ?_) (fun c => ?_)
  · have h := h.1 c
    refine lv_lload_n C.2.1 C.2.2.1 d_J_compare_10 rfl (lv_at hl 0 rfl) ?_
    refine lv_lload_n C.2.1 C.2.2.1 d_J_compare_11 rfl (lv_at hl 1 rfl) ?_
    refine W.lcmp C.2.1 C.2.2.1 d_J_compare_12 ?_
    refine lv_if_ne (tgt := 20) C.2.1 C.2.2.1 d_J_compare_13 (by decide) (fun c => ?_) (fun c => ?_)
    · have h := h.1 c
      refine lv_iconst (v := (1)) C.2.1 C.2.2.1 d_J_compare_20 (by decide) ?_
      exact g_iret C hw rfl h d_J_compare_21
    · have h := h.2 c
      refine lv_iconst (v := (0)) C.2.1 C.2.2.1 d_J_compare_16 (by decide) ?_
      refine lv_goto (tgt := 21) C.2.1 C.2.2.1 d_J_compare_17 (by decide) ?_
      exact g_iret C hw rfl h d_J_compare_21
  · have h := h.2 c
    refine lv_iconst (v := (-1)) C.2.1 C.2.2.1 d_J_compare_6 (by decide) ?_
    refine lv_goto (tgt := 21) C.2.1 C.2.2.1 d_J_compare_7 (by decide) ?_
    exact g_iret C hw rfl h d_J_compare_21
section KR
variable {own host : String} {cc bytes : ByteArray} {nL maxL index n : Nat} {rt0 rt : Option FieldType} {Z : ZT} {ad : Nat → Nat} {A : Nat → Prop}
variable {p : Program} {l : Launch} {e : Env} {R : Room} {s : State} {m : MethodId} {args : Array Value} {below : List Frame} {meth : Method} {c : Code} {H : Heap} {locs : List Loc} {cells slots : Nat} {Q : State → Prop} {rest : List Value} {pc : Nat} {ls : Array Slot}
theorem k_X_228 {u : CT} {p0 : Int64} {p2 : Int64} {post : Int32 → CT → Prop} (C : CX "CoderTables" cc nL rt0 Z A p l s m args meth c) (hw : WD Z A s (cX Z ad u) H locs) (h : q_J_compare p0 p2 u post) (hR : rmOk rm_J_compare 4 R cells slots) (hl : ls.size = nL) (hW : (rest.map fun v => v.category).sum ≤ 8) (hdg : decode cc pc = .ok (.invokestatic 228, 3)) (kk : ∀ (r : Int32) (u' : CT) (H1 : Heap) (locs1 : List Loc), post r u' → WD Z A s (cX Z ad u') H1 locs1 → W p l e R s m args below meth c H1 locs1 cells slots Q (F0 m (pc + 3) ls (.int r :: rest))) : W p l e R s m args below meth c H locs cells slots Q (F0 m pc ls (.long (p2) :: .long (p0) :: rest)) :=
  g_S0_i (n := 2) (f := cX Z ad) (As := [.long (p0), .long (p2)]) C hw (c_J_compare C.1 h) ⟨w213, w214, w64, w215, (by decide +kernel), (by decide +kernel), (by decide +kernel)⟩ hR rfl hl rfl hW hdg (fun _ _ _ _ _ _ h => h.elim) kk
end KR
/-! CoderTables.rankOf(I)I -/
abbrev rm_X_rankOf : Room := { frames := 2, cells := 0, slots := 0, locals := 46 }
def q_X_rankOf_85 (K23 : Int64 → Int64 → Int32 → Int32 → Int32 → CT → Prop) (x2 : Int64) (x4 : Int64) (x6 : Int32) (x7 : Int32) (x8 : Int32) (u : CT) (post : Int32 → CT → Prop) : Prop :=
  K23 (x2) (x4) (x6) (x7) ((x8) + 1) (u)
set_option maxRecDepth 100000 in
theorem w_X_rankOf_85 {p : Program} {l : Launch} {e : Env} {s : State} {m : MethodId} {args : Array Value} {below : List Frame} {meth : Method} {c : Code} {Z : ZT} {ad : Nat → Nat} {u0 : CT} {post : Int32 → CT → Prop} {K23 : Int64 → Int64 → Int32 → Int32 → Int32 → CT → Prop} (C : CX "CoderTables" b_X_rankOf 12 (some .int) Z (va_A (cX Z ad u0) s.heap.size) p l s m args meth c) (htab : ∀ x ∈ c.exceptionTable.toList, False) (hK23 : ∀ (x2 : Int64) (x4 : Int64) (x6 : Int32) (x7 : Int32) (x8 : Int32) (u : CT) (H : Heap) (locs : List Loc) (ls : Array Slot), K23 x2 x4 x6 x7 x8 u → WD Z (va_A (cX Z ad u0) s.heap.size) s (cX Z ad u) H locs → lv_has ls 12 [(0, .ref (ad 0)), (2, .long (x2)), (4, .long (x4)), (6, .int (x6)), (7, .int (x7)), (8, .int (x8))] → W p l e rm_X_rankOf s m args below meth c H locs 0 0 (vx_MQ below (pQi Z (cX Z ad) (cX Z ad u0) s.heap.size post) (pX Z (cX Z ad) (cX Z ad u0) s.heap.size (fun _ _ => False)) args s 0 0 rm_X_rankOf.cells rm_X_rankOf.slots (va_A (cX Z ad u0) s.heap.size)) (F0 m 23 ls [])) (x2 : Int64) (x4 : Int64) (x6 : Int32) (x7 : Int32) (x8 : Int32) (u : CT) (H : Heap) (locs : List Loc) (ls : Array Slot) (hw : WD Z (va_A (cX Z ad u0) s.heap.size) s (cX Z ad u) H locs) (hl : lv_has ls 12 [(0, .ref (ad 0)), (2, .long (x2)), (4, .long (x4)), (6, .int (x6)), (7, .int (x7)), (8, .int (x8))]) (h : q_X_rankOf_85 K23 x2 x4 x6 x7 x8 u post) : W p l e rm_X_rankOf s m args below meth c H locs 0 0 (vx_MQ below (pQi Z (cX Z ad) (cX Z ad u0) s.heap.size post) (pX Z (cX Z ad) (cX Z ad u0) s.heap.size (fun _ _ => False)) args s 0 0 rm_X_rankOf.cells rm_X_rankOf.slots (va_A (cX Z ad u0) s.heap.size)) (F0 m 85 ls []) := by
  unfold q_X_rankOf_85 at h
  refine lv_iinc (v := (x8) + 1) (lv' := [(8, .int ((x8) + 1)), (0, .ref (ad 0)), (2, .long (x2)), (4, .long (x4)), (6, .int (x6)), (7, .int (x7))]) C.2.1 C.2.2.1 d_X_rankOf_85 hl (k := 5) rfl rfl (by decide) rfl (fun ls hl => ?_)
  refine lv_goto (tgt := 23) C.2.1 C.2.2.1 d_X_rankOf_88 (by decide) ?_
  exact hK23 (x2) (x4) (x6) (x7) ((x8) + 1) _ _ _ _ h hw (lv_sub hl [1, 2, 3, 4, 5, 0] rfl)
def q_X_rankOf_23 (K23 : Int64 → Int64 → Int32 → Int32 → Int32 → CT → Prop) (x2 : Int64) (x4 : Int64) (x6 : Int32) (x7 : Int32) (x8 : Int32) (u : CT) (post : Int32 → CT → Prop) : Prop :=
  (((x_coders (u)) ≤ (x8) → post ((((((2) : Int32)) * (x6)) + (x7)) + (((1) : Int32))) (u)) ∧ (¬ (x_coders (u)) ≤ (x8) → q_X_countedOf (x8) (u) (fun r1 u2 => (((lg_cmp ((r1).toInt64) ((0 : Int64))) ≤ 0 → q_X_rankOf_85 K23 (x2) (x4) (x6) (x7) (x8) (u2) post) ∧ (¬ (lg_cmp ((r1).toInt64) ((0 : Int64))) ≤ 0 → q_X_sumOf (x8) (u2) (fun r3 u4 => q_J_compare ((r3) * (x4)) ((x2) * ((r1).toInt64)) (u4) (fun r5 u6 => ((0 ≤ (r5) → ((¬ (r5) = 0 → q_X_rankOf_85 K23 (x2) (x4) (x6) (x7) (x8) (u6) post) ∧ ((r5) = 0 → q_X_rankOf_85 K23 (x2) (x4) (x6) ((x7) + 1) (x8) (u6) post))) ∧ (¬ 0 ≤ (r5) → q_X_rankOf_85 K23 (x2) (x4) ((x6) + 1) (x7) (x8) (u6) post)))))))))
set_option maxRecDepth 100000 in
theorem w_X_rankOf_23 {p : Program} {l : Launch} {e : Env} {s : State} {m : MethodId} {args : Array Value} {below : List Frame} {meth : Method} {c : Code} {Z : ZT} {ad : Nat → Nat} {u0 : CT} {post : Int32 → CT → Prop} {K23 : Int64 → Int64 → Int32 → Int32 → Int32 → CT → Prop} (C : CX "CoderTables" b_X_rankOf 12 (some .int) Z (va_A (cX Z ad u0) s.heap.size) p l s m args meth c) (htab : ∀ x ∈ c.exceptionTable.toList, False) (hK23 : ∀ (x2 : Int64) (x4 : Int64) (x6 : Int32) (x7 : Int32) (x8 : Int32) (u : CT) (H : Heap) (locs : List Loc) (ls : Array Slot), K23 x2 x4 x6 x7 x8 u → WD Z (va_A (cX Z ad u0) s.heap.size) s (cX Z ad u) H locs → lv_has ls 12 [(0, .ref (ad 0)), (2, .long (x2)), (4, .long (x4)), (6, .int (x6)), (7, .int (x7)), (8, .int (x8))] → W p l e rm_X_rankOf s m args below meth c H locs 0 0 (vx_MQ below (pQi Z (cX Z ad) (cX Z ad u0) s.heap.size post) (pX Z (cX Z ad) (cX Z ad u0) s.heap.size (fun _ _ => False)) args s 0 0 rm_X_rankOf.cells rm_X_rankOf.slots (va_A (cX Z ad u0) s.heap.size)) (F0 m 23 ls [])) (x2 : Int64) (x4 : Int64) (x6 : Int32) (x7 : Int32) (x8 : Int32) (u : CT) (H : Heap) (locs : List Loc) (ls : Array Slot) (hw : WD Z (va_A (cX Z ad u0) s.heap.size) s (cX Z ad u) H locs) (hl : lv_has ls 12 [(0, .ref (ad 0)), (2, .long (x2)), (4, .long (x4)), (6, .int (x6)), (7, .int (x7)), (8, .int (x8))]) (h : q_X_rankOf_23 K23 x2 x4 x6 x7 x8 u post) : W p l e rm_X_rankOf s m args below meth c H locs 0 0 (vx_MQ below (pQi Z (cX Z ad) (cX Z ad u0) s.heap.size post) (pX Z (cX Z ad) (cX Z ad u0) s.heap.size (fun _ _ => False)) args s 0 0 rm_X_rankOf.cells rm_X_rankOf.slots (va_A (cX Z ad u0) s.heap.size)) (F0 m 23 ls []) := by
  unfold q_X_rankOf_23 at h
  refine lv_iload C.2.1 C.2.2.1 d_X_rankOf_23 (lv_at hl 5 rfl) ?_
  refine lv_aload_n C.2.1 C.2.2.1 d_X_rankOf_25 rfl (lv_at hl 0 rfl) ?_
  refine r_X_9 C hw d_X_rankOf_26 ?_
  refine lv_icmp_ge (tgt := 91) C.2.1 C.2.2.1 d_X_rankOf_29 (by decide) (fun c => ?_) (fun c => ?_)
  · have h := h.1 c
    refine lv_iconst (v := (2)) C.2.1 C.2.2.1 d_X_rankOf_91 (by decide) ?_
    refine lv_iload C.2.1 C.2.2.1 d_X_rankOf_92 (lv_at hl 3 rfl) ?_
    refine lv_imul C.2.1 C.2.2.1 d_X_rankOf_94 ?_
    refine lv_iload C.2.1 C.2.2.1 d_X_rankOf_95 (lv_at hl 4 rfl) ?_
    refine lv_iadd C.2.1 C.2.2.1 d_X_rankOf_97 ?_
    refine lv_iconst (v := (1)) C.2.1 C.2.2.1 d_X_rankOf_98 (by decide) ?_
    refine lv_iadd C.2.1 C.2.2.1 d_X_rankOf_99 ?_
    exact g_iret C hw rfl h d_X_rankOf_100
  · have h := h.2 c
    refine lv_aload_n C.2.1 C.2.2.1 d_X_rankOf_32 rfl (lv_at hl 0 rfl) ?_
    refine lv_iload C.2.1 C.2.2.1 d_X_rankOf_33 (lv_at hl 5 rfl) ?_
    refine k_X_117 C hw h ⟨Nat.le_of_ble_eq_true rfl, Nat.le_of_ble_eq_true rfl, Nat.le_of_ble_eq_true rfl, Nat.le_of_ble_eq_true rfl⟩ hl.1 (Nat.le_of_ble_eq_true rfl) d_X_rankOf_35 (fun r1 u2 H locs h hw => ?_)
    refine lv_i2l C.2.1 C.2.2.1 d_X_rankOf_38 rfl ?_
    refine lv_lstore (lv' := [(9, .long ((r1).toInt64)), (0, .ref (ad 0)), (2, .long (x2)), (4, .long (x4)), (6, .int (x6)), (7, .int (x7)), (8, .int (x8))]) C.2.1 C.2.2.1 d_X_rankOf_39 hl (by decide) rfl (fun ls hl => ?_)
    refine lv_lload C.2.1 C.2.2.1 d_X_rankOf_41 (lv_at hl 0 rfl) ?_
    refine lv_lconst (v := 0) C.2.1 C.2.2.1 d_X_rankOf_43 (by decide) ?_
    refine W.lcmp C.2.1 C.2.2.1 d_X_rankOf_44 ?_
    refine lv_if_le (tgt := 85) C.2.1 C.2.2.1 d_X_rankOf_45 (by decide) (fun c => ?_) (fun c => ?_)
    · have h := h.1 c
      exact w_X_rankOf_85 C htab hK23 (x2) (x4) (x6) (x7) (x8) _ _ _ _ hw (lv_sub hl [1, 2, 3, 4, 5, 6] rfl) h
    · have h := h.2 c
      refine lv_aload_n C.2.1 C.2.2.1 d_X_rankOf_48 rfl (lv_at hl 1 rfl) ?_
      refine lv_iload C.2.1 C.2.2.1 d_X_rankOf_49 (lv_at hl 6 rfl) ?_
      refine k_X_123 C hw h ⟨Nat.le_of_ble_eq_true rfl, Nat.le_of_ble_eq_true rfl, Nat.le_of_ble_eq_true rfl, Nat.le_of_ble_eq_true rfl⟩ hl.1 (Nat.le_of_ble_eq_true rfl) d_X_rankOf_51 (fun r3 u4 H locs h hw => ?_)
      refine lv_lload C.2.1 C.2.2.1 d_X_rankOf_54 (lv_at hl 3 rfl) ?_
      refine lv_lmul C.2.1 C.2.2.1 d_X_rankOf_56 ?_
      refine lv_lload_n C.2.1 C.2.2.1 d_X_rankOf_57 rfl (lv_at hl 2 rfl) ?_
      refine lv_lload C.2.1 C.2.2.1 d_X_rankOf_58 (lv_at hl 0 rfl) ?_
      refine lv_lmul C.2.1 C.2.2.1 d_X_rankOf_60 ?_
      refine k_X_228 C hw h ⟨Nat.le_of_ble_eq_true rfl, Nat.le_of_ble_eq_true rfl, Nat.le_of_ble_eq_true rfl, Nat.le_of_ble_eq_true rfl⟩ hl.1 (Nat.le_of_ble_eq_true rfl) d_X_rankOf_61 (fun r5 u6 H locs h hw => ?_)
      refine lv_istore (lv' := [(11, .int (r5)), (9, .long ((r1).toInt64)), (0, .ref (ad 0)), (2, .long (x2)), (4, .long (x4)), (6, .int (x6)), (7, .int (x7)), (8, .int (x8))]) C.2.1 C.2.2.1 d_X_rankOf_64 hl (by decide) rfl (fun ls hl => ?_)
      refine lv_iload C.2.1 C.2.2.1 d_X_rankOf_66 (lv_at hl 0 rfl) ?_
      refine lv_if_ge (tgt := 77) C.2.1 C.2.2.1 d_X_rankOf_68 (by decide) (fun c => ?_) (fun c => ?_)
      · have h := h.1 c
        refine lv_iload C.2.1 C.2.2.1 d_X_rankOf_77 (lv_at hl 0 rfl) ?_
        refine lv_if_ne (tgt := 85) C.2.1 C.2.2.1 d_X_rankOf_79 (by decide) (fun c => ?_) (fun c => ?_)
        · have h := h.1 c
          exact w_X_rankOf_85 C htab hK23 (x2) (x4) (x6) (x7) (x8) _ _ _ _ hw (lv_sub hl [2, 3, 4, 5, 6, 7] rfl) h
        · have h := h.2 c
          refine lv_iinc (v := (x7) + 1) (lv' := [(7, .int ((x7) + 1)), (11, .int (r5)), (9, .long ((r1).toInt64)), (0, .ref (ad 0)), (2, .long (x2)), (4, .long (x4)), (6, .int (x6)), (8, .int (x8))]) C.2.1 C.2.2.1 d_X_rankOf_82 hl (k := 6) rfl rfl (by decide) rfl (fun ls hl => ?_)
          exact w_X_rankOf_85 C htab hK23 (x2) (x4) (x6) ((x7) + 1) (x8) _ _ _ _ hw (lv_sub hl [3, 4, 5, 6, 0, 7] rfl) h
      · have h := h.2 c
        refine lv_iinc (v := (x6) + 1) (lv' := [(6, .int ((x6) + 1)), (11, .int (r5)), (9, .long ((r1).toInt64)), (0, .ref (ad 0)), (2, .long (x2)), (4, .long (x4)), (7, .int (x7)), (8, .int (x8))]) C.2.1 C.2.2.1 d_X_rankOf_71 hl (k := 5) rfl rfl (by decide) rfl (fun ls hl => ?_)
        refine lv_goto (tgt := 85) C.2.1 C.2.2.1 d_X_rankOf_74 (by decide) ?_
        exact w_X_rankOf_85 C htab hK23 (x2) (x4) ((x6) + 1) (x7) (x8) _ _ _ _ hw (lv_sub hl [3, 4, 5, 0, 6, 7] rfl) h
def q_X_rankOf_23N : Nat → Int64 → Int64 → Int32 → Int32 → Int32 → CT → (Int32 → CT → Prop) → Prop
  | 0 => fun _ _ _ _ _ _ _ => False
  | n + 1 => fun x2 x4 x6 x7 x8 u post => q_X_rankOf_23 (fun x2 x4 x6 x7 x8 u => q_X_rankOf_23N n x2 x4 x6 x7 x8 u post) x2 x4 x6 x7 x8 u post
theorem w_X_rankOf_23N {p : Program} {l : Launch} {e : Env} {s : State} {m : MethodId} {args : Array Value} {below : List Frame} {meth : Method} {c : Code} {Z : ZT} {ad : Nat → Nat} {u0 : CT} {post : Int32 → CT → Prop} (C : CX "CoderTables" b_X_rankOf 12 (some .int) Z (va_A (cX Z ad u0) s.heap.size) p l s m args meth c) (htab : ∀ x ∈ c.exceptionTable.toList, False) : ∀ (n : Nat) (x2 : Int64) (x4 : Int64) (x6 : Int32) (x7 : Int32) (x8 : Int32) (u : CT) (H : Heap) (locs : List Loc) (ls : Array Slot), WD Z (va_A (cX Z ad u0) s.heap.size) s (cX Z ad u) H locs → lv_has ls 12 [(0, .ref (ad 0)), (2, .long (x2)), (4, .long (x4)), (6, .int (x6)), (7, .int (x7)), (8, .int (x8))] → q_X_rankOf_23N n x2 x4 x6 x7 x8 u post → W p l e rm_X_rankOf s m args below meth c H locs 0 0 (vx_MQ below (pQi Z (cX Z ad) (cX Z ad u0) s.heap.size post) (pX Z (cX Z ad) (cX Z ad u0) s.heap.size (fun _ _ => False)) args s 0 0 rm_X_rankOf.cells rm_X_rankOf.slots (va_A (cX Z ad u0) s.heap.size)) (F0 m 23 ls []) := by
  intro n
  induction n with
  | zero => intro x2 x4 x6 x7 x8 u H locs ls hw hl h; exact h.elim
  | succ n ih => intro x2 x4 x6 x7 x8 u H locs ls hw hl h; exact w_X_rankOf_23 C htab (fun x2 x4 x6 x7 x8 u H locs ls h hw hl => ih x2 x4 x6 x7 x8 u H locs ls hw hl h) x2 x4 x6 x7 x8 u H locs ls hw hl h
def q_X_rankOf (p1 : Int32) (u : CT) (post : Int32 → CT → Prop) : Prop :=
  q_X_sumOf (p1) (u) (fun r7 u8 => q_X_countedOf (p1) (u8) (fun r9 u10 => ∃ n, q_X_rankOf_23N n (r7) ((r9).toInt64) (((0) : Int32)) (((0) : Int32)) (((0) : Int32)) (u10) post))
set_option maxRecDepth 100000 in
theorem c_X_rankOf {l : Launch} {Z : ZT} {ad : Nat → Nat} {u : CT} {post : Int32 → CT → Prop} {p1 : Int32} (hl0 : l.stackTraces = false) (h : q_X_rankOf p1 u post) : ∀ sz, vx_Met l y_X_rankOf (Cond.code y_X_rankOf b_X_rankOf 12 (some .int) :: GW) rm_X_rankOf (pP Z [.ref (ad 0), .int (p1)] (cX Z ad u) sz) (pQi Z (cX Z ad) (cX Z ad u) sz post) (pX Z (cX Z ad) (cX Z ad u) sz (fun _ _ => False)) 0 0 rm_X_rankOf.cells rm_X_rankOf.slots (va_A (cX Z ad u) sz) := by
  refine g_ent (f := cX Z ad) (Qc := fun sz => pQi Z (cX Z ad) (cX Z ad u) sz post) (XC := fun sz => pX Z (cX Z ad) (cX Z ad u) sz (fun _ _ => False)) hl0 (by decide +kernel) (Nat.le_of_ble_eq_true rfl) ?_
  intro p e s m args below meth c ls C htab hw hl
  have hl : lv_has ls 12 [(0, .ref (ad 0)), (1, .int (p1))] := hl
  unfold q_X_rankOf at h
  refine lv_aload_n C.2.1 C.2.2.1 d_X_rankOf_0 rfl (lv_at hl 0 rfl) ?_
  refine lv_iload_n C.2.1 C.2.2.1 d_X_rankOf_1 rfl (lv_at hl 1 rfl) ?_
  refine k_X_123 C hw h ⟨Nat.le_of_ble_eq_true rfl, Nat.le_of_ble_eq_true rfl, Nat.le_of_ble_eq_true rfl, Nat.le_of_ble_eq_true rfl⟩ hl.1 (Nat.le_of_ble_eq_true rfl) d_X_rankOf_2 (fun r7 u8 H locs h hw => ?_)
  refine lv_lstore_n (lv' := [(2, .long (r7)), (0, .ref (ad 0)), (1, .int (p1))]) C.2.1 C.2.2.1 d_X_rankOf_5 rfl hl (by decide) rfl (fun ls hl => ?_)
  refine lv_aload_n C.2.1 C.2.2.1 d_X_rankOf_6 rfl (lv_at hl 1 rfl) ?_
  refine lv_iload_n C.2.1 C.2.2.1 d_X_rankOf_7 rfl (lv_at hl 2 rfl) ?_
  refine k_X_117 C hw h ⟨Nat.le_of_ble_eq_true rfl, Nat.le_of_ble_eq_true rfl, Nat.le_of_ble_eq_true rfl, Nat.le_of_ble_eq_true rfl⟩ hl.1 (Nat.le_of_ble_eq_true rfl) d_X_rankOf_8 (fun r9 u10 H locs h hw => ?_)
  refine lv_i2l C.2.1 C.2.2.1 d_X_rankOf_11 rfl ?_
  refine lv_lstore (lv' := [(4, .long ((r9).toInt64)), (2, .long (r7)), (0, .ref (ad 0)), (1, .int (p1))]) C.2.1 C.2.2.1 d_X_rankOf_12 hl (by decide) rfl (fun ls hl => ?_)
  refine lv_iconst (v := (0)) C.2.1 C.2.2.1 d_X_rankOf_14 (by decide) ?_
  refine lv_istore (lv' := [(6, .int (((0) : Int32))), (4, .long ((r9).toInt64)), (2, .long (r7)), (0, .ref (ad 0)), (1, .int (p1))]) C.2.1 C.2.2.1 d_X_rankOf_15 hl (by decide) rfl (fun ls hl => ?_)
  refine lv_iconst (v := (0)) C.2.1 C.2.2.1 d_X_rankOf_17 (by decide) ?_
  refine lv_istore (lv' := [(7, .int (((0) : Int32))), (6, .int (((0) : Int32))), (4, .long ((r9).toInt64)), (2, .long (r7)), (0, .ref (ad 0)), (1, .int (p1))]) C.2.1 C.2.2.1 d_X_rankOf_18 hl (by decide) rfl (fun ls hl => ?_)
  refine lv_iconst (v := (0)) C.2.1 C.2.2.1 d_X_rankOf_20 (by decide) ?_
  refine lv_istore (lv' := [(8, .int (((0) : Int32))), (7, .int (((0) : Int32))), (6, .int (((0) : Int32))), (4, .long ((r9).toInt64)), (2, .long (r7)), (0, .ref (ad 0)), (1, .int (p1))]) C.2.1 C.2.2.1 d_X_rankOf_21 hl (by decide) rfl (fun ls hl => ?_)
  obtain ⟨n, h⟩ := h
  exact w_X_rankOf_23N C htab n (r7) ((r9).toInt64) (((0) : Int32)) (((0) : Int32)) (((0) : Int32)) _ _ _ _ hw (lv_sub hl [5, 4, 3, 2, 1, 0] rfl) h
section KR
variable {own host : String} {cc bytes : ByteArray} {nL maxL index n : Nat} {rt0 rt : Option FieldType} {Z : ZT} {ad : Nat → Nat} {A : Nat → Prop}
variable {p : Program} {l : Launch} {e : Env} {R : Room} {s : State} {m : MethodId} {args : Array Value} {below : List Frame} {meth : Method} {c : Code} {H : Heap} {locs : List Loc} {cells slots : Nat} {Q : State → Prop} {rest : List Value} {pc : Nat} {ls : Array Slot}
theorem k_X_134 {u : CT} {p1 : Int32} {post : Int32 → CT → Prop} (C : CX "CoderTables" cc nL rt0 Z A p l s m args meth c) (hw : WD Z A s (cX Z ad u) H locs) (h : q_X_rankOf p1 u post) (hR : rmOk rm_X_rankOf 12 R cells slots) (hl : ls.size = nL) (hW : (rest.map fun v => v.category).sum ≤ 8) (hdg : decode cc pc = .ok (.invokevirtual 134, 3)) (kk : ∀ (r : Int32) (u' : CT) (H1 : Heap) (locs1 : List Loc), post r u' → WD Z A s (cX Z ad u') H1 locs1 → W p l e R s m args below meth c H1 locs1 cells slots Q (F0 m (pc + 3) ls (.int r :: rest))) : W p l e R s m args below meth c H locs cells slots Q (F0 m pc ls (.int (p1) :: .ref (ad 0) :: rest)) :=
  g_V0_i (n := 1) (f := cX Z ad) (As := [.int (p1)]) C hw (c_X_rankOf C.1 h) ⟨w209, w211, w12, w53, w212, (by decide +kernel), (by decide +kernel), (by decide +kernel)⟩ hR 0 rfl rfl rfl hl rfl hW hdg (fun _ _ _ _ _ _ h => h.elim) kk
end KR
/-! CoderTables.rank(I)I -/
abbrev rm_X_rank : Room := { frames := 7, cells := 1, slots := 6, locals := 111 }
def q_X_rank (p1 : Int32) (u : CT) (post : Int32 → CT → Prop) (ex : String → CT → Prop) : Prop :=
  q_X_needCoder (p1) (u) (fun u2 => q_X_needCounted (p1) (u2) (fun u4 => q_X_rankOf (p1) (u4) (fun r5 u6 => post (r5) (u6))) ex) ex
set_option maxRecDepth 100000 in
theorem c_X_rank {l : Launch} {Z : ZT} {ad : Nat → Nat} {u : CT} {post : Int32 → CT → Prop} {ex : String → CT → Prop} {p1 : Int32} (hl0 : l.stackTraces = false) (h : q_X_rank p1 u post ex) : ∀ sz, vx_Met l y_X_rank (Cond.code y_X_rank b_X_rank 2 (some .int) :: GW) rm_X_rank (pP Z [.ref (ad 0), .int (p1)] (cX Z ad u) sz) (pQi Z (cX Z ad) (cX Z ad u) sz post) (pX Z (cX Z ad) (cX Z ad u) sz ex) 0 0 rm_X_rank.cells rm_X_rank.slots (va_A (cX Z ad u) sz) := by
  refine g_ent (f := cX Z ad) (Qc := fun sz => pQi Z (cX Z ad) (cX Z ad u) sz post) (XC := fun sz => pX Z (cX Z ad) (cX Z ad u) sz ex) hl0 (by decide +kernel) (Nat.le_of_ble_eq_true rfl) ?_
  intro p e s m args below meth c ls C htab hw hl
  have hl : lv_has ls 2 [(0, .ref (ad 0)), (1, .int (p1))] := hl
  unfold q_X_rank at h
  refine lv_aload_n C.2.1 C.2.2.1 d_X_rank_0 rfl (lv_at hl 0 rfl) ?_
  refine lv_iload_n C.2.1 C.2.2.1 d_X_rank_1 rfl (lv_at hl 1 rfl) ?_
  refine k_X_114 C hw h ⟨Nat.le_of_ble_eq_true rfl, Nat.le_of_ble_eq_true rfl, Nat.le_of_ble_eq_true rfl, Nat.le_of_ble_eq_true rfl⟩ hl.1 (Nat.le_of_ble_eq_true rfl) d_X_rank_2 (fun _ _ _ _ _ _ he hw h1 h2 h3 => g_out C htab hw he h1 h2 h3 (Nat.le_of_ble_eq_true rfl) (Nat.le_of_ble_eq_true rfl)) (fun u2 H locs h hw => ?_)
  refine lv_aload_n C.2.1 C.2.2.1 d_X_rank_5 rfl (lv_at hl 0 rfl) ?_
  refine lv_iload_n C.2.1 C.2.2.1 d_X_rank_6 rfl (lv_at hl 1 rfl) ?_
  refine k_X_127 C hw h ⟨Nat.le_of_ble_eq_true rfl, Nat.le_of_ble_eq_true rfl, Nat.le_of_ble_eq_true rfl, Nat.le_of_ble_eq_true rfl⟩ hl.1 (Nat.le_of_ble_eq_true rfl) d_X_rank_7 (fun _ _ _ _ _ _ he hw h1 h2 h3 => g_out C htab hw he h1 h2 h3 (Nat.le_of_ble_eq_true rfl) (Nat.le_of_ble_eq_true rfl)) (fun u4 H locs h hw => ?_)
  refine lv_aload_n C.2.1 C.2.2.1 d_X_rank_10 rfl (lv_at hl 0 rfl) ?_
  refine lv_iload_n C.2.1 C.2.2.1 d_X_rank_11 rfl (lv_at hl 1 rfl) ?_
  refine k_X_134 C hw h ⟨Nat.le_of_ble_eq_true rfl, Nat.le_of_ble_eq_true rfl, Nat.le_of_ble_eq_true rfl, Nat.le_of_ble_eq_true rfl⟩ hl.1 (Nat.le_of_ble_eq_true rfl) d_X_rank_12 (fun r5 u6 H locs h hw => ?_)
  exact g_iret C hw rfl h d_X_rank_15
/-! CoderTables.isBefore(II)Z -/
abbrev rm_X_isBefore : Room := { frames := 0, cells := 0, slots := 0, locals := 0 }
def q_X_isBefore (p1 : Int32) (p2 : Int32) (u : CT) (post : Int32 → CT → Prop) : Prop :=
  (vp_in (p1) 1152 ∧ (vp_in (p2) 1152 ∧ (((x_pointBytes (u) (p1).toNatClampNeg) = (x_pointBytes (u) (p2).toNatClampNeg) → (vp_in (p1) 1152 ∧ (vp_in (p2) 1152 ∧ (((x_pointErrors (u) (p2).toNatClampNeg) ≤ (x_pointErrors (u) (p1).toNatClampNeg) → (narrow .boolean (.int (((0) : Int32))) = .int (((0) : Int32)) ∧ post (((0) : Int32)) (u))) ∧ (¬ (x_pointErrors (u) (p2).toNatClampNeg) ≤ (x_pointErrors (u) (p1).toNatClampNeg) → (narrow .boolean (.int (((1) : Int32))) = .int (((1) : Int32)) ∧ post (((1) : Int32)) (u))))))) ∧ (¬ (x_pointBytes (u) (p1).toNatClampNeg) = (x_pointBytes (u) (p2).toNatClampNeg) → (vp_in (p1) 1152 ∧ (vp_in (p2) 1152 ∧ (((x_pointBytes (u) (p2).toNatClampNeg) ≤ (x_pointBytes (u) (p1).toNatClampNeg) → (narrow .boolean (.int (((0) : Int32))) = .int (((0) : Int32)) ∧ post (((0) : Int32)) (u))) ∧ (¬ (x_pointBytes (u) (p2).toNatClampNeg) ≤ (x_pointBytes (u) (p1).toNatClampNeg) → (narrow .boolean (.int (((1) : Int32))) = .int (((1) : Int32)) ∧ post (((1) : Int32)) (u))))))))))
set_option maxRecDepth 100000 in
theorem c_X_isBefore {l : Launch} {Z : ZT} {ad : Nat → Nat} {u : CT} {post : Int32 → CT → Prop} {p1 : Int32} {p2 : Int32} (hl0 : l.stackTraces = false) (h : q_X_isBefore p1 p2 u post) : ∀ sz, vx_Met l y_X_isBefore (Cond.code y_X_isBefore b_X_isBefore 3 (some .boolean) :: GW) rm_X_isBefore (pP Z [.ref (ad 0), .int (p1), .int (p2)] (cX Z ad u) sz) (pQi Z (cX Z ad) (cX Z ad u) sz post) (pX Z (cX Z ad) (cX Z ad u) sz (fun _ _ => False)) 0 0 rm_X_isBefore.cells rm_X_isBefore.slots (va_A (cX Z ad u) sz) := by
  refine g_ent (f := cX Z ad) (Qc := fun sz => pQi Z (cX Z ad) (cX Z ad u) sz post) (XC := fun sz => pX Z (cX Z ad) (cX Z ad u) sz (fun _ _ => False)) hl0 (by decide +kernel) (Nat.le_of_ble_eq_true rfl) ?_
  intro p e s m args below meth c ls C htab hw hl
  have hl : lv_has ls 3 [(0, .ref (ad 0)), (1, .int (p1)), (2, .int (p2))] := hl
  unfold q_X_isBefore at h
  refine lv_aload_n C.2.1 C.2.2.1 d_X_isBefore_0 rfl (lv_at hl 0 rfl) ?_
  refine r_X_23 C hw d_X_isBefore_1 ?_
  refine lv_iload_n C.2.1 C.2.2.1 d_X_isBefore_4 rfl (lv_at hl 1 rfl) ?_
  obtain ⟨hi, h⟩ := h
  refine al_X_3 C hw hi d_X_isBefore_5 ?_
  refine lv_aload_n C.2.1 C.2.2.1 d_X_isBefore_6 rfl (lv_at hl 0 rfl) ?_
  refine r_X_23 C hw d_X_isBefore_7 ?_
  refine lv_iload_n C.2.1 C.2.2.1 d_X_isBefore_10 rfl (lv_at hl 2 rfl) ?_
  obtain ⟨hi, h⟩ := h
  refine al_X_3 C hw hi d_X_isBefore_11 ?_
  refine lv_icmp_eq (tgt := 36) C.2.1 C.2.2.1 d_X_isBefore_12 (by decide) (fun c => ?_) (fun c => ?_)
  · have h := h.1 c
    refine lv_aload_n C.2.1 C.2.2.1 d_X_isBefore_36 rfl (lv_at hl 0 rfl) ?_
    refine r_X_26 C hw d_X_isBefore_37 ?_
    refine lv_iload_n C.2.1 C.2.2.1 d_X_isBefore_40 rfl (lv_at hl 1 rfl) ?_
    obtain ⟨hi, h⟩ := h
    refine al_X_4 C hw hi d_X_isBefore_41 ?_
    refine lv_aload_n C.2.1 C.2.2.1 d_X_isBefore_42 rfl (lv_at hl 0 rfl) ?_
    refine r_X_26 C hw d_X_isBefore_43 ?_
    refine lv_iload_n C.2.1 C.2.2.1 d_X_isBefore_46 rfl (lv_at hl 2 rfl) ?_
    obtain ⟨hi, h⟩ := h
    refine al_X_4 C hw hi d_X_isBefore_47 ?_
    refine lv_icmp_ge (tgt := 55) C.2.1 C.2.2.1 d_X_isBefore_48 (by decide) (fun c => ?_) (fun c => ?_)
    · have h := h.1 c
      refine lv_iconst (v := (0)) C.2.1 C.2.2.1 d_X_isBefore_55 (by decide) ?_
      exact g_iret C hw h.1 h.2 d_X_isBefore_56
    · have h := h.2 c
      refine lv_iconst (v := (1)) C.2.1 C.2.2.1 d_X_isBefore_51 (by decide) ?_
      refine lv_goto (tgt := 56) C.2.1 C.2.2.1 d_X_isBefore_52 (by decide) ?_
      exact g_iret C hw h.1 h.2 d_X_isBefore_56
  · have h := h.2 c
    refine lv_aload_n C.2.1 C.2.2.1 d_X_isBefore_15 rfl (lv_at hl 0 rfl) ?_
    refine r_X_23 C hw d_X_isBefore_16 ?_
    refine lv_iload_n C.2.1 C.2.2.1 d_X_isBefore_19 rfl (lv_at hl 1 rfl) ?_
    obtain ⟨hi, h⟩ := h
    refine al_X_3 C hw hi d_X_isBefore_20 ?_
    refine lv_aload_n C.2.1 C.2.2.1 d_X_isBefore_21 rfl (lv_at hl 0 rfl) ?_
    refine r_X_23 C hw d_X_isBefore_22 ?_
    refine lv_iload_n C.2.1 C.2.2.1 d_X_isBefore_25 rfl (lv_at hl 2 rfl) ?_
    obtain ⟨hi, h⟩ := h
    refine al_X_3 C hw hi d_X_isBefore_26 ?_
    refine lv_icmp_ge (tgt := 34) C.2.1 C.2.2.1 d_X_isBefore_27 (by decide) (fun c => ?_) (fun c => ?_)
    · have h := h.1 c
      refine lv_iconst (v := (0)) C.2.1 C.2.2.1 d_X_isBefore_34 (by decide) ?_
      exact g_iret C hw h.1 h.2 d_X_isBefore_35
    · have h := h.2 c
      refine lv_iconst (v := (1)) C.2.1 C.2.2.1 d_X_isBefore_30 (by decide) ?_
      refine lv_goto (tgt := 35) C.2.1 C.2.2.1 d_X_isBefore_31 (by decide) ?_
      exact g_iret C hw h.1 h.2 d_X_isBefore_35
section KR
variable {own host : String} {cc bytes : ByteArray} {nL maxL index n : Nat} {rt0 rt : Option FieldType} {Z : ZT} {ad : Nat → Nat} {A : Nat → Prop}
variable {p : Program} {l : Launch} {e : Env} {R : Room} {s : State} {m : MethodId} {args : Array Value} {below : List Frame} {meth : Method} {c : Code} {H : Heap} {locs : List Loc} {cells slots : Nat} {Q : State → Prop} {rest : List Value} {pc : Nat} {ls : Array Slot}
theorem k_X_240 {u : CT} {p1 : Int32} {p2 : Int32} {post : Int32 → CT → Prop} (C : CX "CoderTables" cc nL rt0 Z A p l s m args meth c) (hw : WD Z A s (cX Z ad u) H locs) (h : q_X_isBefore p1 p2 u post) (hR : rmOk rm_X_isBefore 3 R cells slots) (hl : ls.size = nL) (hW : (rest.map fun v => v.category).sum ≤ 8) (hdg : decode cc pc = .ok (.invokevirtual 240, 3)) (kk : ∀ (r : Int32) (u' : CT) (H1 : Heap) (locs1 : List Loc), post r u' → WD Z A s (cX Z ad u') H1 locs1 → W p l e R s m args below meth c H1 locs1 cells slots Q (F0 m (pc + 3) ls (.int r :: rest))) : W p l e R s m args below meth c H locs cells slots Q (F0 m pc ls (.int (p2) :: .int (p1) :: .ref (ad 0) :: rest)) :=
  g_V0_i (n := 2) (f := cX Z ad) (As := [.int (p1), .int (p2)]) C hw (c_X_isBefore C.1 h) ⟨w465, w467, w23, w53, w468, (by decide +kernel), (by decide +kernel), (by decide +kernel)⟩ hR 0 rfl rfl rfl hl rfl hW hdg (fun _ _ _ _ _ _ h => h.elim) kk
end KR
/-! CoderTables.firstOfRow(I)I -/
abbrev rm_X_firstOfRow : Room := { frames := 1, cells := 0, slots := 0, locals := 22 }
def q_X_firstOfRow_41 (K10 : Int32 → Int32 → Int32 → Int32 → CT → Prop) (x1 : Int32) (x2 : Int32) (x3 : Int32) (x4 : Int32) (u : CT) (post : Int32 → CT → Prop) : Prop :=
  K10 (x1) (x2) (x3) ((x4) + 1) (u)
set_option maxRecDepth 100000 in
theorem w_X_firstOfRow_41 {p : Program} {l : Launch} {e : Env} {s : State} {m : MethodId} {args : Array Value} {below : List Frame} {meth : Method} {c : Code} {Z : ZT} {ad : Nat → Nat} {u0 : CT} {post : Int32 → CT → Prop} {K10 : Int32 → Int32 → Int32 → Int32 → CT → Prop} (C : CX "CoderTables" b_X_firstOfRow 5 (some .int) Z (va_A (cX Z ad u0) s.heap.size) p l s m args meth c) (htab : ∀ x ∈ c.exceptionTable.toList, False) (hK10 : ∀ (x1 : Int32) (x2 : Int32) (x3 : Int32) (x4 : Int32) (u : CT) (H : Heap) (locs : List Loc) (ls : Array Slot), K10 x1 x2 x3 x4 u → WD Z (va_A (cX Z ad u0) s.heap.size) s (cX Z ad u) H locs → lv_has ls 5 [(0, .ref (ad 0)), (1, .int (x1)), (2, .int (x2)), (3, .int (x3)), (4, .int (x4))] → W p l e rm_X_firstOfRow s m args below meth c H locs 0 0 (vx_MQ below (pQi Z (cX Z ad) (cX Z ad u0) s.heap.size post) (pX Z (cX Z ad) (cX Z ad u0) s.heap.size (fun _ _ => False)) args s 0 0 rm_X_firstOfRow.cells rm_X_firstOfRow.slots (va_A (cX Z ad u0) s.heap.size)) (F0 m 10 ls [])) (x1 : Int32) (x2 : Int32) (x3 : Int32) (x4 : Int32) (u : CT) (H : Heap) (locs : List Loc) (ls : Array Slot) (hw : WD Z (va_A (cX Z ad u0) s.heap.size) s (cX Z ad u) H locs) (hl : lv_has ls 5 [(0, .ref (ad 0)), (1, .int (x1)), (2, .int (x2)), (3, .int (x3)), (4, .int (x4))]) (h : q_X_firstOfRow_41 K10 x1 x2 x3 x4 u post) : W p l e rm_X_firstOfRow s m args below meth c H locs 0 0 (vx_MQ below (pQi Z (cX Z ad) (cX Z ad u0) s.heap.size post) (pX Z (cX Z ad) (cX Z ad u0) s.heap.size (fun _ _ => False)) args s 0 0 rm_X_firstOfRow.cells rm_X_firstOfRow.slots (va_A (cX Z ad u0) s.heap.size)) (F0 m 41 ls []) := by
  unfold q_X_firstOfRow_41 at h
  refine lv_iinc (v := (x4) + 1) (lv' := [(4, .int ((x4) + 1)), (0, .ref (ad 0)), (1, .int (x1)), (2, .int (x2)), (3, .int (x3))]) C.2.1 C.2.2.1 d_X_firstOfRow_41 hl (k := 4) rfl rfl (by decide) rfl (fun ls hl => ?_)
  refine lv_goto (tgt := 10) C.2.1 C.2.2.1 d_X_firstOfRow_44 (by decide) ?_
  exact hK10 (x1) (x2) (x3) ((x4) + 1) _ _ _ _ h hw (lv_sub hl [1, 2, 3, 4, 0] rfl)
def q_X_firstOfRow_38 (K10 : Int32 → Int32 → Int32 → Int32 → CT → Prop) (x1 : Int32) (x3 : Int32) (x4 : Int32) (u : CT) (post : Int32 → CT → Prop) : Prop :=
  q_X_firstOfRow_41 K10 (x1) (x4) (x3) (x4) (u) post
set_option maxRecDepth 100000 in
theorem w_X_firstOfRow_38 {p : Program} {l : Launch} {e : Env} {s : State} {m : MethodId} {args : Array Value} {below : List Frame} {meth : Method} {c : Code} {Z : ZT} {ad : Nat → Nat} {u0 : CT} {post : Int32 → CT → Prop} {K10 : Int32 → Int32 → Int32 → Int32 → CT → Prop} (C : CX "CoderTables" b_X_firstOfRow 5 (some .int) Z (va_A (cX Z ad u0) s.heap.size) p l s m args meth c) (htab : ∀ x ∈ c.exceptionTable.toList, False) (hK10 : ∀ (x1 : Int32) (x2 : Int32) (x3 : Int32) (x4 : Int32) (u : CT) (H : Heap) (locs : List Loc) (ls : Array Slot), K10 x1 x2 x3 x4 u → WD Z (va_A (cX Z ad u0) s.heap.size) s (cX Z ad u) H locs → lv_has ls 5 [(0, .ref (ad 0)), (1, .int (x1)), (2, .int (x2)), (3, .int (x3)), (4, .int (x4))] → W p l e rm_X_firstOfRow s m args below meth c H locs 0 0 (vx_MQ below (pQi Z (cX Z ad) (cX Z ad u0) s.heap.size post) (pX Z (cX Z ad) (cX Z ad u0) s.heap.size (fun _ _ => False)) args s 0 0 rm_X_firstOfRow.cells rm_X_firstOfRow.slots (va_A (cX Z ad u0) s.heap.size)) (F0 m 10 ls [])) (x1 : Int32) (x3 : Int32) (x4 : Int32) (u : CT) (H : Heap) (locs : List Loc) (ls : Array Slot) (hw : WD Z (va_A (cX Z ad u0) s.heap.size) s (cX Z ad u) H locs) (hl : lv_has ls 5 [(0, .ref (ad 0)), (1, .int (x1)), (3, .int (x3)), (4, .int (x4))]) (h : q_X_firstOfRow_38 K10 x1 x3 x4 u post) : W p l e rm_X_firstOfRow s m args below meth c H locs 0 0 (vx_MQ below (pQi Z (cX Z ad) (cX Z ad u0) s.heap.size post) (pX Z (cX Z ad) (cX Z ad u0) s.heap.size (fun _ _ => False)) args s 0 0 rm_X_firstOfRow.cells rm_X_firstOfRow.slots (va_A (cX Z ad u0) s.heap.size)) (F0 m 38 ls []) := by
  unfold q_X_firstOfRow_38 at h
  refine lv_iload C.2.1 C.2.2.1 d_X_firstOfRow_38 (lv_at hl 3 rfl) ?_
  refine lv_istore_n (lv' := [(2, .int (x4)), (0, .ref (ad 0)), (1, .int (x1)), (3, .int (x3)), (4, .int (x4))]) C.2.1 C.2.2.1 d_X_firstOfRow_40 rfl hl (by decide) rfl (fun ls hl => ?_)
  exact w_X_firstOfRow_41 C htab hK10 (x1) (x4) (x3) (x4) _ _ _ _ hw (lv_sub hl [1, 2, 0, 3, 4] rfl) h
def q_X_firstOfRow_10 (K10 : Int32 → Int32 → Int32 → Int32 → CT → Prop) (x1 : Int32) (x2 : Int32) (x3 : Int32) (x4 : Int32) (u : CT) (post : Int32 → CT → Prop) : Prop :=
  (vp_in (x1) 192 ∧ ((((x3) + (x_pointCounts (u) (x1).toNatClampNeg)) ≤ (x4) → post (x2) (u)) ∧ (¬ ((x3) + (x_pointCounts (u) (x1).toNatClampNeg)) ≤ (x4) → (((x2) = (((-1) : Int32)) → q_X_firstOfRow_38 K10 (x1) (x3) (x4) (u) post) ∧ (¬ (x2) = (((-1) : Int32)) → q_X_isBefore (x4) (x2) (u) (fun r1 u2 => (((r1) = 0 → q_X_firstOfRow_41 K10 (x1) (x2) (x3) (x4) (u2) post) ∧ (¬ (r1) = 0 → q_X_firstOfRow_38 K10 (x1) (x3) (x4) (u2) post))))))))
set_option maxRecDepth 100000 in
theorem w_X_firstOfRow_10 {p : Program} {l : Launch} {e : Env} {s : State} {m : MethodId} {args : Array Value} {below : List Frame} {meth : Method} {c : Code} {Z : ZT} {ad : Nat → Nat} {u0 : CT} {post : Int32 → CT → Prop} {K10 : Int32 → Int32 → Int32 → Int32 → CT → Prop} (C : CX "CoderTables" b_X_firstOfRow 5 (some .int) Z (va_A (cX Z ad u0) s.heap.size) p l s m args meth c) (htab : ∀ x ∈ c.exceptionTable.toList, False) (hK10 : ∀ (x1 : Int32) (x2 : Int32) (x3 : Int32) (x4 : Int32) (u : CT) (H : Heap) (locs : List Loc) (ls : Array Slot), K10 x1 x2 x3 x4 u → WD Z (va_A (cX Z ad u0) s.heap.size) s (cX Z ad u) H locs → lv_has ls 5 [(0, .ref (ad 0)), (1, .int (x1)), (2, .int (x2)), (3, .int (x3)), (4, .int (x4))] → W p l e rm_X_firstOfRow s m args below meth c H locs 0 0 (vx_MQ below (pQi Z (cX Z ad) (cX Z ad u0) s.heap.size post) (pX Z (cX Z ad) (cX Z ad u0) s.heap.size (fun _ _ => False)) args s 0 0 rm_X_firstOfRow.cells rm_X_firstOfRow.slots (va_A (cX Z ad u0) s.heap.size)) (F0 m 10 ls [])) (x1 : Int32) (x2 : Int32) (x3 : Int32) (x4 : Int32) (u : CT) (H : Heap) (locs : List Loc) (ls : Array Slot) (hw : WD Z (va_A (cX Z ad u0) s.heap.size) s (cX Z ad u) H locs) (hl : lv_has ls 5 [(0, .ref (ad 0)), (1, .int (x1)), (2, .int (x2)), (3, .int (x3)), (4, .int (x4))]) (h : q_X_firstOfRow_10 K10 x1 x2 x3 x4 u post) : W p l e rm_X_firstOfRow s m args below meth c H locs 0 0 (vx_MQ below (pQi Z (cX Z ad) (cX Z ad u0) s.heap.size post) (pX Z (cX Z ad) (cX Z ad u0) s.heap.size (fun _ _ => False)) args s 0 0 rm_X_firstOfRow.cells rm_X_firstOfRow.slots (va_A (cX Z ad u0) s.heap.size)) (F0 m 10 ls []) := by
  unfold q_X_firstOfRow_10 at h
  refine lv_iload C.2.1 C.2.2.1 d_X_firstOfRow_10 (lv_at hl 4 rfl) ?_
  refine lv_iload_n C.2.1 C.2.2.1 d_X_firstOfRow_12 rfl (lv_at hl 3 rfl) ?_
  refine lv_aload_n C.2.1 C.2.2.1 d_X_firstOfRow_13 rfl (lv_at hl 0 rfl) ?_
  refine r_X_16 C hw d_X_firstOfRow_14 ?_
  refine lv_iload_n C.2.1 C.2.2.1 d_X_firstOfRow_17 rfl (lv_at hl 1 rfl) ?_
  obtain ⟨hi, h⟩ := h
  refine al_X_1 C hw hi d_X_firstOfRow_18 ?_
  refine lv_iadd C.2.1 C.2.2.1 d_X_firstOfRow_19 ?_
  refine lv_icmp_ge (tgt := 47) C.2.1 C.2.2.1 d_X_firstOfRow_20 (by decide) (fun c => ?_) (fun c => ?_)
  · have h := h.1 c
    refine lv_iload_n C.2.1 C.2.2.1 d_X_firstOfRow_47 rfl (lv_at hl 2 rfl) ?_
    exact g_iret C hw rfl h d_X_firstOfRow_48
  · have h := h.2 c
    refine lv_iload_n C.2.1 C.2.2.1 d_X_firstOfRow_23 rfl (lv_at hl 2 rfl) ?_
    refine lv_iconst (v := (-1)) C.2.1 C.2.2.1 d_X_firstOfRow_24 (by decide) ?_
    refine lv_icmp_eq (tgt := 38) C.2.1 C.2.2.1 d_X_firstOfRow_25 (by decide) (fun c => ?_) (fun c => ?_)
    · have h := h.1 c
      exact w_X_firstOfRow_38 C htab hK10 (x1) (x3) (x4) _ _ _ _ hw (lv_sub hl [0, 1, 3, 4] rfl) h
    · have h := h.2 c
      refine lv_aload_n C.2.1 C.2.2.1 d_X_firstOfRow_28 rfl (lv_at hl 0 rfl) ?_
      refine lv_iload C.2.1 C.2.2.1 d_X_firstOfRow_29 (lv_at hl 4 rfl) ?_
      refine lv_iload_n C.2.1 C.2.2.1 d_X_firstOfRow_31 rfl (lv_at hl 2 rfl) ?_
      refine k_X_240 C hw h ⟨Nat.le_of_ble_eq_true rfl, Nat.le_of_ble_eq_true rfl, Nat.le_of_ble_eq_true rfl, Nat.le_of_ble_eq_true rfl⟩ hl.1 (Nat.le_of_ble_eq_true rfl) d_X_firstOfRow_32 (fun r1 u2 H locs h hw => ?_)
      refine lv_if_eq (tgt := 41) C.2.1 C.2.2.1 d_X_firstOfRow_35 (by decide) (fun c => ?_) (fun c => ?_)
      · have h := h.1 c
        exact w_X_firstOfRow_41 C htab hK10 (x1) (x2) (x3) (x4) _ _ _ _ hw (lv_sub hl [0, 1, 2, 3, 4] rfl) h
      · have h := h.2 c
        exact w_X_firstOfRow_38 C htab hK10 (x1) (x3) (x4) _ _ _ _ hw (lv_sub hl [0, 1, 3, 4] rfl) h
def q_X_firstOfRow_10N : Nat → Int32 → Int32 → Int32 → Int32 → CT → (Int32 → CT → Prop) → Prop
  | 0 => fun _ _ _ _ _ _ => False
  | n + 1 => fun x1 x2 x3 x4 u post => q_X_firstOfRow_10 (fun x1 x2 x3 x4 u => q_X_firstOfRow_10N n x1 x2 x3 x4 u post) x1 x2 x3 x4 u post
theorem w_X_firstOfRow_10N {p : Program} {l : Launch} {e : Env} {s : State} {m : MethodId} {args : Array Value} {below : List Frame} {meth : Method} {c : Code} {Z : ZT} {ad : Nat → Nat} {u0 : CT} {post : Int32 → CT → Prop} (C : CX "CoderTables" b_X_firstOfRow 5 (some .int) Z (va_A (cX Z ad u0) s.heap.size) p l s m args meth c) (htab : ∀ x ∈ c.exceptionTable.toList, False) : ∀ (n : Nat) (x1 : Int32) (x2 : Int32) (x3 : Int32) (x4 : Int32) (u : CT) (H : Heap) (locs : List Loc) (ls : Array Slot), WD Z (va_A (cX Z ad u0) s.heap.size) s (cX Z ad u) H locs → lv_has ls 5 [(0, .ref (ad 0)), (1, .int (x1)), (2, .int (x2)), (3, .int (x3)), (4, .int (x4))] → q_X_firstOfRow_10N n x1 x2 x3 x4 u post → W p l e rm_X_firstOfRow s m args below meth c H locs 0 0 (vx_MQ below (pQi Z (cX Z ad) (cX Z ad u0) s.heap.size post) (pX Z (cX Z ad) (cX Z ad u0) s.heap.size (fun _ _ => False)) args s 0 0 rm_X_firstOfRow.cells rm_X_firstOfRow.slots (va_A (cX Z ad u0) s.heap.size)) (F0 m 10 ls []) := by
  intro n
  induction n with
  | zero => intro x1 x2 x3 x4 u H locs ls hw hl h; exact h.elim
  | succ n ih => intro x1 x2 x3 x4 u H locs ls hw hl h; exact w_X_firstOfRow_10 C htab (fun x1 x2 x3 x4 u H locs ls h hw hl => ih x1 x2 x3 x4 u H locs ls hw hl h) x1 x2 x3 x4 u H locs ls hw hl h
def q_X_firstOfRow (p1 : Int32) (u : CT) (post : Int32 → CT → Prop) : Prop :=
  ∃ n, q_X_firstOfRow_10N n (p1) (((-1) : Int32)) ((p1) * (((6) : Int32))) ((p1) * (((6) : Int32))) (u) post
set_option maxRecDepth 100000 in
theorem c_X_firstOfRow {l : Launch} {Z : ZT} {ad : Nat → Nat} {u : CT} {post : Int32 → CT → Prop} {p1 : Int32} (hl0 : l.stackTraces = false) (h : q_X_firstOfRow p1 u post) : ∀ sz, vx_Met l y_X_firstOfRow (Cond.code y_X_firstOfRow b_X_firstOfRow 5 (some .int) :: GW) rm_X_firstOfRow (pP Z [.ref (ad 0), .int (p1)] (cX Z ad u) sz) (pQi Z (cX Z ad) (cX Z ad u) sz post) (pX Z (cX Z ad) (cX Z ad u) sz (fun _ _ => False)) 0 0 rm_X_firstOfRow.cells rm_X_firstOfRow.slots (va_A (cX Z ad u) sz) := by
  refine g_ent (f := cX Z ad) (Qc := fun sz => pQi Z (cX Z ad) (cX Z ad u) sz post) (XC := fun sz => pX Z (cX Z ad) (cX Z ad u) sz (fun _ _ => False)) hl0 (by decide +kernel) (Nat.le_of_ble_eq_true rfl) ?_
  intro p e s m args below meth c ls C htab hw hl
  have hl : lv_has ls 5 [(0, .ref (ad 0)), (1, .int (p1))] := hl
  unfold q_X_firstOfRow at h
  refine lv_iconst (v := (-1)) C.2.1 C.2.2.1 d_X_firstOfRow_0 (by decide) ?_
  refine lv_istore_n (lv' := [(2, .int (((-1) : Int32))), (0, .ref (ad 0)), (1, .int (p1))]) C.2.1 C.2.2.1 d_X_firstOfRow_1 rfl hl (by decide) rfl (fun ls hl => ?_)
  refine lv_iload_n C.2.1 C.2.2.1 d_X_firstOfRow_2 rfl (lv_at hl 2 rfl) ?_
  refine lv_bipush (v := (6)) C.2.1 C.2.2.1 d_X_firstOfRow_3 (by decide) ?_
  refine lv_imul C.2.1 C.2.2.1 d_X_firstOfRow_5 ?_
  refine lv_istore_n (lv' := [(3, .int ((p1) * (((6) : Int32)))), (2, .int (((-1) : Int32))), (0, .ref (ad 0)), (1, .int (p1))]) C.2.1 C.2.2.1 d_X_firstOfRow_6 rfl hl (by decide) rfl (fun ls hl => ?_)
  refine lv_iload_n C.2.1 C.2.2.1 d_X_firstOfRow_7 rfl (lv_at hl 0 rfl) ?_
  refine lv_istore (lv' := [(4, .int ((p1) * (((6) : Int32)))), (3, .int ((p1) * (((6) : Int32)))), (2, .int (((-1) : Int32))), (0, .ref (ad 0)), (1, .int (p1))]) C.2.1 C.2.2.1 d_X_firstOfRow_8 hl (by decide) rfl (fun ls hl => ?_)
  obtain ⟨n, h⟩ := h
  exact w_X_firstOfRow_10N C htab n (p1) (((-1) : Int32)) ((p1) * (((6) : Int32))) ((p1) * (((6) : Int32))) _ _ _ _ hw (lv_sub hl [3, 4, 2, 1, 0] rfl) h
section KR
variable {own host : String} {cc bytes : ByteArray} {nL maxL index n : Nat} {rt0 rt : Option FieldType} {Z : ZT} {ad : Nat → Nat} {A : Nat → Prop}
variable {p : Program} {l : Launch} {e : Env} {R : Room} {s : State} {m : MethodId} {args : Array Value} {below : List Frame} {meth : Method} {c : Code} {H : Heap} {locs : List Loc} {cells slots : Nat} {Q : State → Prop} {rest : List Value} {pc : Nat} {ls : Array Slot}
theorem k_X_234 {u : CT} {p1 : Int32} {post : Int32 → CT → Prop} (C : CX "CoderTables" cc nL rt0 Z A p l s m args meth c) (hw : WD Z A s (cX Z ad u) H locs) (h : q_X_firstOfRow p1 u post) (hR : rmOk rm_X_firstOfRow 5 R cells slots) (hl : ls.size = nL) (hW : (rest.map fun v => v.category).sum ≤ 8) (hdg : decode cc pc = .ok (.invokevirtual 234, 3)) (kk : ∀ (r : Int32) (u' : CT) (H1 : Heap) (locs1 : List Loc), post r u' → WD Z A s (cX Z ad u') H1 locs1 → W p l e R s m args below meth c H1 locs1 cells slots Q (F0 m (pc + 3) ls (.int r :: rest))) : W p l e R s m args below meth c H locs cells slots Q (F0 m pc ls (.int (p1) :: .ref (ad 0) :: rest)) :=
  g_V0_i (n := 1) (f := cX Z ad) (As := [.int (p1)]) C hw (c_X_firstOfRow C.1 h) ⟨w461, w463, w22, w53, w464, (by decide +kernel), (by decide +kernel), (by decide +kernel)⟩ hR 0 rfl rfl rfl hl rfl hW hdg (fun _ _ _ _ _ _ h => h.elim) kk
end KR
/-! CoderTables.growthTo(II)J -/
abbrev rm_X_growthTo : Room := { frames := 0, cells := 0, slots := 0, locals := 0 }
def q_X_growthTo (p1 : Int32) (p2 : Int32) (u : CT) (post : Int64 → CT → Prop) : Prop :=
  (vp_in (p2) 1152 ∧ (vp_in (p1) 1152 ∧ post (((x_pointBytes (u) (p2).toNatClampNeg).toInt64) - ((x_pointBytes (u) (p1).toNatClampNeg).toInt64)) (u)))
set_option maxRecDepth 100000 in
theorem c_X_growthTo {l : Launch} {Z : ZT} {ad : Nat → Nat} {u : CT} {post : Int64 → CT → Prop} {p1 : Int32} {p2 : Int32} (hl0 : l.stackTraces = false) (h : q_X_growthTo p1 p2 u post) : ∀ sz, vx_Met l y_X_growthTo (Cond.code y_X_growthTo b_X_growthTo 3 (some .long) :: GW) rm_X_growthTo (pP Z [.ref (ad 0), .int (p1), .int (p2)] (cX Z ad u) sz) (pQl Z (cX Z ad) (cX Z ad u) sz post) (pX Z (cX Z ad) (cX Z ad u) sz (fun _ _ => False)) 0 0 rm_X_growthTo.cells rm_X_growthTo.slots (va_A (cX Z ad u) sz) := by
  refine g_ent (f := cX Z ad) (Qc := fun sz => pQl Z (cX Z ad) (cX Z ad u) sz post) (XC := fun sz => pX Z (cX Z ad) (cX Z ad u) sz (fun _ _ => False)) hl0 (by decide +kernel) (Nat.le_of_ble_eq_true rfl) ?_
  intro p e s m args below meth c ls C htab hw hl
  have hl : lv_has ls 3 [(0, .ref (ad 0)), (1, .int (p1)), (2, .int (p2))] := hl
  unfold q_X_growthTo at h
  refine lv_aload_n C.2.1 C.2.2.1 d_X_growthTo_0 rfl (lv_at hl 0 rfl) ?_
  refine r_X_23 C hw d_X_growthTo_1 ?_
  refine lv_iload_n C.2.1 C.2.2.1 d_X_growthTo_4 rfl (lv_at hl 2 rfl) ?_
  obtain ⟨hi, h⟩ := h
  refine al_X_3 C hw hi d_X_growthTo_5 ?_
  refine lv_i2l C.2.1 C.2.2.1 d_X_growthTo_6 rfl ?_
  refine lv_aload_n C.2.1 C.2.2.1 d_X_growthTo_7 rfl (lv_at hl 0 rfl) ?_
  refine r_X_23 C hw d_X_growthTo_8 ?_
  refine lv_iload_n C.2.1 C.2.2.1 d_X_growthTo_11 rfl (lv_at hl 1 rfl) ?_
  obtain ⟨hi, h⟩ := h
  refine al_X_3 C hw hi d_X_growthTo_12 ?_
  refine lv_i2l C.2.1 C.2.2.1 d_X_growthTo_13 rfl ?_
  refine lv_lsub C.2.1 C.2.2.1 d_X_growthTo_14 ?_
  exact g_lret C hw h d_X_growthTo_15
section KR
variable {own host : String} {cc bytes : ByteArray} {nL maxL index n : Nat} {rt0 rt : Option FieldType} {Z : ZT} {ad : Nat → Nat} {A : Nat → Prop}
variable {p : Program} {l : Launch} {e : Env} {R : Room} {s : State} {m : MethodId} {args : Array Value} {below : List Frame} {meth : Method} {c : Code} {H : Heap} {locs : List Loc} {cells slots : Nat} {Q : State → Prop} {rest : List Value} {pc : Nat} {ls : Array Slot}
theorem k_X_150 {u : CT} {p1 : Int32} {p2 : Int32} {post : Int64 → CT → Prop} (C : CX "CoderTables" cc nL rt0 Z A p l s m args meth c) (hw : WD Z A s (cX Z ad u) H locs) (h : q_X_growthTo p1 p2 u post) (hR : rmOk rm_X_growthTo 3 R cells slots) (hl : ls.size = nL) (hW : (rest.map fun v => v.category).sum ≤ 8) (hdg : decode cc pc = .ok (.invokevirtual 150, 3)) (kk : ∀ (r : Int64) (u' : CT) (H1 : Heap) (locs1 : List Loc), post r u' → WD Z A s (cX Z ad u') H1 locs1 → W p l e R s m args below meth c H1 locs1 cells slots Q (F0 m (pc + 3) ls (.long r :: rest))) : W p l e R s m args below meth c H locs cells slots Q (F0 m pc ls (.int (p2) :: .int (p1) :: .ref (ad 0) :: rest)) :=
  g_V0_l (n := 2) (f := cX Z ad) (As := [.int (p1), .int (p2)]) C hw (c_X_growthTo C.1 h) ⟨w473, w475, w25, w53, w476, (by decide +kernel), (by decide +kernel), (by decide +kernel)⟩ hR 0 rfl rfl rfl hl rfl hW hdg (fun _ _ _ _ _ _ h => h.elim) kk
end KR
/-! CoderTables.fallTo(II)J -/
abbrev rm_X_fallTo : Room := { frames := 0, cells := 0, slots := 0, locals := 0 }
def q_X_fallTo (p1 : Int32) (p2 : Int32) (u : CT) (post : Int64 → CT → Prop) : Prop :=
  (vp_in (p1) 1152 ∧ (vp_in (p2) 1152 ∧ post (((x_pointErrors (u) (p1).toNatClampNeg).toInt64) - ((x_pointErrors (u) (p2).toNatClampNeg).toInt64)) (u)))
set_option maxRecDepth 100000 in
theorem c_X_fallTo {l : Launch} {Z : ZT} {ad : Nat → Nat} {u : CT} {post : Int64 → CT → Prop} {p1 : Int32} {p2 : Int32} (hl0 : l.stackTraces = false) (h : q_X_fallTo p1 p2 u post) : ∀ sz, vx_Met l y_X_fallTo (Cond.code y_X_fallTo b_X_fallTo 3 (some .long) :: GW) rm_X_fallTo (pP Z [.ref (ad 0), .int (p1), .int (p2)] (cX Z ad u) sz) (pQl Z (cX Z ad) (cX Z ad u) sz post) (pX Z (cX Z ad) (cX Z ad u) sz (fun _ _ => False)) 0 0 rm_X_fallTo.cells rm_X_fallTo.slots (va_A (cX Z ad u) sz) := by
  refine g_ent (f := cX Z ad) (Qc := fun sz => pQl Z (cX Z ad) (cX Z ad u) sz post) (XC := fun sz => pX Z (cX Z ad) (cX Z ad u) sz (fun _ _ => False)) hl0 (by decide +kernel) (Nat.le_of_ble_eq_true rfl) ?_
  intro p e s m args below meth c ls C htab hw hl
  have hl : lv_has ls 3 [(0, .ref (ad 0)), (1, .int (p1)), (2, .int (p2))] := hl
  unfold q_X_fallTo at h
  refine lv_aload_n C.2.1 C.2.2.1 d_X_fallTo_0 rfl (lv_at hl 0 rfl) ?_
  refine r_X_26 C hw d_X_fallTo_1 ?_
  refine lv_iload_n C.2.1 C.2.2.1 d_X_fallTo_4 rfl (lv_at hl 1 rfl) ?_
  obtain ⟨hi, h⟩ := h
  refine al_X_4 C hw hi d_X_fallTo_5 ?_
  refine lv_i2l C.2.1 C.2.2.1 d_X_fallTo_6 rfl ?_
  refine lv_aload_n C.2.1 C.2.2.1 d_X_fallTo_7 rfl (lv_at hl 0 rfl) ?_
  refine r_X_26 C hw d_X_fallTo_8 ?_
  refine lv_iload_n C.2.1 C.2.2.1 d_X_fallTo_11 rfl (lv_at hl 2 rfl) ?_
  obtain ⟨hi, h⟩ := h
  refine al_X_4 C hw hi d_X_fallTo_12 ?_
  refine lv_i2l C.2.1 C.2.2.1 d_X_fallTo_13 rfl ?_
  refine lv_lsub C.2.1 C.2.2.1 d_X_fallTo_14 ?_
  exact g_lret C hw h d_X_fallTo_15
section KR
variable {own host : String} {cc bytes : ByteArray} {nL maxL index n : Nat} {rt0 rt : Option FieldType} {Z : ZT} {ad : Nat → Nat} {A : Nat → Prop}
variable {p : Program} {l : Launch} {e : Env} {R : Room} {s : State} {m : MethodId} {args : Array Value} {below : List Frame} {meth : Method} {c : Code} {H : Heap} {locs : List Loc} {cells slots : Nat} {Q : State → Prop} {rest : List Value} {pc : Nat} {ls : Array Slot}
theorem k_X_146 {u : CT} {p1 : Int32} {p2 : Int32} {post : Int64 → CT → Prop} (C : CX "CoderTables" cc nL rt0 Z A p l s m args meth c) (hw : WD Z A s (cX Z ad u) H locs) (h : q_X_fallTo p1 p2 u post) (hR : rmOk rm_X_fallTo 3 R cells slots) (hl : ls.size = nL) (hW : (rest.map fun v => v.category).sum ≤ 8) (hdg : decode cc pc = .ok (.invokevirtual 146, 3)) (kk : ∀ (r : Int64) (u' : CT) (H1 : Heap) (locs1 : List Loc), post r u' → WD Z A s (cX Z ad u') H1 locs1 → W p l e R s m args below meth c H1 locs1 cells slots Q (F0 m (pc + 3) ls (.long r :: rest))) : W p l e R s m args below meth c H locs cells slots Q (F0 m pc ls (.int (p2) :: .int (p1) :: .ref (ad 0) :: rest)) :=
  g_V0_l (n := 2) (f := cX Z ad) (As := [.int (p1), .int (p2)]) C hw (c_X_fallTo C.1 h) ⟨w477, w479, w26, w53, w480, (by decide +kernel), (by decide +kernel), (by decide +kernel)⟩ hR 0 rfl rfl rfl hl rfl hW hdg (fun _ _ _ _ _ _ h => h.elim) kk
end KR
