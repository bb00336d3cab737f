/-! CoderTables.coder()I -/
abbrev rm_X_coder : Room := { frames := 6, cells := 1, slots := 6, locals := 90 }
def q_X_coder (u : CT) (post : Int32 → CT → Prop) (ex : String → CT → Prop) : Prop :=
  (((x_coders (u)) < (((8) : Int32)) → post ((x_coders (x_coders_s (u) ((x_coders (u)) + (((1) : Int32))))) - (((1) : Int32))) (x_coders_s (u) ((x_coders (u)) + (((1) : Int32))))) ∧ (¬ (x_coders (u)) < (((8) : Int32)) → ex "java/lang/UnsupportedOperationException" (u)))
set_option maxRecDepth 100000 in
theorem c_X_coder {l : Launch} {Z : ZT} {ad : Nat → Nat} {u : CT} {post : Int32 → CT → Prop} {ex : String → CT → Prop} (hl0 : l.stackTraces = false) (h : q_X_coder u post ex) : ∀ sz, vx_Met l y_X_coder (Cond.code y_X_coder b_X_coder 1 (some .int) :: GW) rm_X_coder (pP Z [.ref (ad 0)] (cX Z ad u) sz) (pQi Z (cX Z ad) (cX Z ad u) sz post) (pX Z (cX Z ad) (cX Z ad u) sz ex) 0 0 rm_X_coder.cells rm_X_coder.slots (va_A (cX Z ad u) sz) := by
  refine g_ent (f := cX Z ad) (Qc := fun sz => pQi Z (cX Z ad) (cX Z ad u) sz post) (XC := fun sz => pX Z (cX Z ad) (cX Z ad u) sz ex) hl0 (by decide +kernel) (Nat.le_of_ble_eq_true rfl) ?_
  intro p e s m args below meth c ls C htab hw hl
  have hl : lv_has ls 1 [(0, .ref (ad 0))] := hl
  unfold q_X_coder at h
  refine lv_aload_n C.2.1 C.2.2.1 d_X_coder_0 rfl (lv_at hl 0 rfl) ?_
  refine r_X_9 C hw d_X_coder_1 ?_
  refine lv_bipush (v := (8)) C.2.1 C.2.2.1 d_X_coder_4 (by decide) ?_
  refine lv_icmp_lt (tgt := 19) C.2.1 C.2.2.1 d_X_coder_6 (by decide) (fun c => ?_) (fun c => ?_)
  · have h := h.1 c
    refine lv_aload_n C.2.1 C.2.2.1 d_X_coder_19 rfl (lv_at hl 0 rfl) ?_
    refine lv_dup C.2.1 C.2.2.1 d_X_coder_20 rfl ?_
    refine r_X_9 C hw d_X_coder_21 ?_
    refine lv_iconst (v := (1)) C.2.1 C.2.2.1 d_X_coder_24 (by decide) ?_
    refine lv_iadd C.2.1 C.2.2.1 d_X_coder_25 ?_
    refine s_X_9 C hw d_X_coder_26 (fun H locs hw => ?_)
    refine lv_aload_n C.2.1 C.2.2.1 d_X_coder_29 rfl (lv_at hl 0 rfl) ?_
    refine r_X_9 C hw d_X_coder_30 ?_
    refine lv_iconst (v := (1)) C.2.1 C.2.2.1 d_X_coder_33 (by decide) ?_
    refine lv_isub C.2.1 C.2.2.1 d_X_coder_34 ?_
    exact g_iret C hw rfl h d_X_coder_35
  · have h := h.2 c
    exact g_throw C htab hw hE_U sg_63 h hl.1 d_X_coder_9 d_X_coder_12 d_X_coder_13 d_X_coder_15 d_X_coder_18 ⟨Nat.le_of_ble_eq_true rfl, Nat.le_of_ble_eq_true rfl, Nat.le_of_ble_eq_true rfl, Nat.le_of_ble_eq_true rfl⟩ (Nat.le_of_ble_eq_true rfl) (Nat.le_of_ble_eq_true rfl)
/-! CoderTables.picture()I -/
abbrev rm_X_picture : Room := { frames := 6, cells := 1, slots := 6, locals := 90 }
def q_X_picture (u : CT) (post : Int32 → CT → Prop) (ex : String → CT → Prop) : Prop :=
  (((x_pictures (u)) < (((24) : Int32)) → post ((x_pictures (x_pictures_s (u) ((x_pictures (u)) + (((1) : Int32))))) - (((1) : Int32))) (x_pictures_s (u) ((x_pictures (u)) + (((1) : Int32))))) ∧ (¬ (x_pictures (u)) < (((24) : Int32)) → ex "java/lang/UnsupportedOperationException" (u)))
set_option maxRecDepth 100000 in
theorem c_X_picture {l : Launch} {Z : ZT} {ad : Nat → Nat} {u : CT} {post : Int32 → CT → Prop} {ex : String → CT → Prop} (hl0 : l.stackTraces = false) (h : q_X_picture u post ex) : ∀ sz, vx_Met l y_X_picture (Cond.code y_X_picture b_X_picture 1 (some .int) :: GW) rm_X_picture (pP Z [.ref (ad 0)] (cX Z ad u) sz) (pQi Z (cX Z ad) (cX Z ad u) sz post) (pX Z (cX Z ad) (cX Z ad u) sz ex) 0 0 rm_X_picture.cells rm_X_picture.slots (va_A (cX Z ad u) sz) := by
  refine g_ent (f := cX Z ad) (Qc := fun sz => pQi Z (cX Z ad) (cX Z ad u) sz post) (XC := fun sz => pX Z (cX Z ad) (cX Z ad u) sz ex) hl0 (by decide +kernel) (Nat.le_of_ble_eq_true rfl) ?_
  intro p e s m args below meth c ls C htab hw hl
  have hl : lv_has ls 1 [(0, .ref (ad 0))] := hl
  unfold q_X_picture at h
  refine lv_aload_n C.2.1 C.2.2.1 d_X_picture_0 rfl (lv_at hl 0 rfl) ?_
  refine r_X_13 C hw d_X_picture_1 ?_
  refine lv_bipush (v := (24)) C.2.1 C.2.2.1 d_X_picture_4 (by decide) ?_
  refine lv_icmp_lt (tgt := 19) C.2.1 C.2.2.1 d_X_picture_6 (by decide) (fun c => ?_) (fun c => ?_)
  · have h := h.1 c
    refine lv_aload_n C.2.1 C.2.2.1 d_X_picture_19 rfl (lv_at hl 0 rfl) ?_
    refine lv_dup C.2.1 C.2.2.1 d_X_picture_20 rfl ?_
    refine r_X_13 C hw d_X_picture_21 ?_
    refine lv_iconst (v := (1)) C.2.1 C.2.2.1 d_X_picture_24 (by decide) ?_
    refine lv_iadd C.2.1 C.2.2.1 d_X_picture_25 ?_
    refine s_X_13 C hw d_X_picture_26 (fun H locs hw => ?_)
    refine lv_aload_n C.2.1 C.2.2.1 d_X_picture_29 rfl (lv_at hl 0 rfl) ?_
    refine r_X_13 C hw d_X_picture_30 ?_
    refine lv_iconst (v := (1)) C.2.1 C.2.2.1 d_X_picture_33 (by decide) ?_
    refine lv_isub C.2.1 C.2.2.1 d_X_picture_34 ?_
    exact g_iret C hw rfl h d_X_picture_35
  · have h := h.2 c
    exact g_throw C htab hw hE_U sg_68 h hl.1 d_X_picture_9 d_X_picture_12 d_X_picture_13 d_X_picture_15 d_X_picture_18 ⟨Nat.le_of_ble_eq_true rfl, Nat.le_of_ble_eq_true rfl, Nat.le_of_ble_eq_true rfl, Nat.le_of_ble_eq_true rfl⟩ (Nat.le_of_ble_eq_true rfl) (Nat.le_of_ble_eq_true rfl)
/-! CoderTables.needCoder(I)V -/
abbrev rm_X_needCoder : Room := { frames := 6, cells := 1, slots := 6, locals := 90 }
def q_X_needCoder_12  (u : CT) (post : CT → Prop) (ex : String → CT → Prop) : Prop :=
  ex "java/lang/IndexOutOfBoundsException" (u)
set_option maxRecDepth 100000 in
theorem w_X_needCoder_12 {p : Program} {l : Launch} {e : Env} {s : State} {m : MethodId} {args : Array Value} {below : List Frame} {meth : Method} {c : Code} {Z : ZT} {ad : Nat → Nat} {u0 : CT} {post : CT → Prop} {ex : String → CT → Prop} (C : CX "CoderTables" b_X_needCoder 2 none Z (va_A (cX Z ad u0) s.heap.size) p l s m args meth c) (htab : ∀ x ∈ c.exceptionTable.toList, False)  (u : CT) (H : Heap) (locs : List Loc) (ls : Array Slot) (hw : WD Z (va_A (cX Z ad u0) s.heap.size) s (cX Z ad u) H locs) (hl : lv_has ls 2 []) (h : q_X_needCoder_12  u post ex) : W p l e rm_X_needCoder s m args below meth c H locs 0 0 (vx_MQ below (pQv Z (cX Z ad) (cX Z ad u0) s.heap.size post) (pX Z (cX Z ad) (cX Z ad u0) s.heap.size ex) args s 0 0 rm_X_needCoder.cells rm_X_needCoder.slots (va_A (cX Z ad u0) s.heap.size)) (F0 m 12 ls []) := by
  unfold q_X_needCoder_12 at h
  exact g_throw C htab hw hE_O sg_215 h hl.1 d_X_needCoder_12 d_X_needCoder_15 d_X_needCoder_16 d_X_needCoder_18 d_X_needCoder_21 ⟨Nat.le_of_ble_eq_true rfl, Nat.le_of_ble_eq_true rfl, Nat.le_of_ble_eq_true rfl, Nat.le_of_ble_eq_true rfl⟩ (Nat.le_of_ble_eq_true rfl) (Nat.le_of_ble_eq_true rfl)
def q_X_needCoder (p1 : Int32) (u : CT) (post : CT → Prop) (ex : String → CT → Prop) : Prop :=
  (((p1) < 0 → q_X_needCoder_12  (u) post ex) ∧ (¬ (p1) < 0 → (((p1) < (x_coders (u)) → post (u)) ∧ (¬ (p1) < (x_coders (u)) → q_X_needCoder_12  (u) post ex))))
set_option maxRecDepth 100000 in
theorem c_X_needCoder {l : Launch} {Z : ZT} {ad : Nat → Nat} {u : CT} {post : CT → Prop} {ex : String → CT → Prop} {p1 : Int32} (hl0 : l.stackTraces = false) (h : q_X_needCoder p1 u post ex) : ∀ sz, vx_Met l y_X_needCoder (Cond.code y_X_needCoder b_X_needCoder 2 none :: GW) rm_X_needCoder (pP Z [.ref (ad 0), .int (p1)] (cX Z ad u) sz) (pQv Z (cX Z ad) (cX Z ad u) sz post) (pX Z (cX Z ad) (cX Z ad u) sz ex) 0 0 rm_X_needCoder.cells rm_X_needCoder.slots (va_A (cX Z ad u) sz) := by
  refine g_ent (f := cX Z ad) (Qc := fun sz => pQv Z (cX Z ad) (cX Z ad u) sz post) (XC := fun sz => pX Z (cX Z ad) (cX Z ad u) sz ex) hl0 (by decide +kernel) (Nat.le_of_ble_eq_true rfl) ?_
  intro p e s m args below meth c ls C htab hw hl
  have hl : lv_has ls 2 [(0, .ref (ad 0)), (1, .int (p1))] := hl
  unfold q_X_needCoder at h
  refine lv_iload_n C.2.1 C.2.2.1 d_X_needCoder_0 rfl (lv_at hl 1 rfl) ?_
  refine lv_if_lt (tgt := 12) C.2.1 C.2.2.1 d_X_needCoder_1 (by decide) (fun c => ?_) (fun c => ?_)
  · have h := h.1 c
    exact w_X_needCoder_12 C htab  _ _ _ _ hw (lv_sub hl [] rfl) h
  · have h := h.2 c
    refine lv_iload_n C.2.1 C.2.2.1 d_X_needCoder_4 rfl (lv_at hl 1 rfl) ?_
    refine lv_aload_n C.2.1 C.2.2.1 d_X_needCoder_5 rfl (lv_at hl 0 rfl) ?_
    refine r_X_9 C hw d_X_needCoder_6 ?_
    refine lv_icmp_lt (tgt := 22) C.2.1 C.2.2.1 d_X_needCoder_9 (by decide) (fun c => ?_) (fun c => ?_)
    · have h := h.1 c
      exact g_vret C hw h d_X_needCoder_22
    · have h := h.2 c
      exact w_X_needCoder_12 C htab  _ _ _ _ hw (lv_sub hl [] rfl) h
section KR
variable {own host : String} {cc bytes : ByteArray} {nL maxL index n : Nat} {rt0 rt : Option FieldType} {Z : ZT} {ad : Nat → Nat} {A : Nat → Prop}
variable {p : Program} {l : Launch} {e : Env} {R : Room} {s : State} {m : MethodId} {args : Array Value} {below : List Frame} {meth : Method} {c : Code} {H : Heap} {locs : List Loc} {cells slots : Nat} {Q : State → Prop} {rest : List Value} {pc : Nat} {ls : Array Slot}
theorem k_X_114 {u : CT} {p1 : Int32} {post : CT → Prop} {ex : String → CT → Prop} (C : CX "CoderTables" cc nL rt0 Z A p l s m args meth c) (hw : WD Z A s (cX Z ad u) H locs) (h : q_X_needCoder p1 u post ex) (hR : rmOk rm_X_needCoder 2 R cells slots) (hl : ls.size = nL) (hW : (rest.map fun v => v.category).sum ≤ 8) (hdg : decode cc pc = .ok (.invokevirtual 114, 3)) (kx : ∀ (E : String) (u' : CT) (q9 : Addr) (ce : Cell) (H1 : Heap) (locs1 : List Loc), ex E u' → WD Z A s (cX Z ad u') H1 locs1 → H1[q9]? = some ce → ce.vm = .none → s.vm.findClass E = some ce.cls → vx_W p l e R s m args below meth c H1 locs1 (cells + rm_X_needCoder.cells) (slots + rm_X_needCoder.slots) Q (F0 m pc ls rest) q9) (kk : ∀ (u' : CT) (H1 : Heap) (locs1 : List Loc), post u' → WD Z A s (cX Z ad u') H1 locs1 → W p l e R s m args below meth c H1 locs1 cells slots Q (F0 m (pc + 3) ls (rest))) : W p l e R s m args below meth c H locs cells slots Q (F0 m pc ls (.int (p1) :: .ref (ad 0) :: rest)) :=
  g_V0_v (n := 1) (f := cX Z ad) (As := [.int (p1)]) C hw (c_X_needCoder C.1 h) ⟨w331, w333, w17, w53, w334, (by decide +kernel), (by decide +kernel), (by decide +kernel)⟩ hR 0 rfl rfl rfl hl rfl hW hdg kx kk
end KR
/-! CoderTables.needPicture(I)V -/
abbrev rm_X_needPicture : Room := { frames := 6, cells := 1, slots := 6, locals := 90 }
def q_X_needPicture_12  (u : CT) (post : CT → Prop) (ex : String → CT → Prop) : Prop :=
  ex "java/lang/IndexOutOfBoundsException" (u)
set_option maxRecDepth 100000 in
theorem w_X_needPicture_12 {p : Program} {l : Launch} {e : Env} {s : State} {m : MethodId} {args : Array Value} {below : List Frame} {meth : Method} {c : Code} {Z : ZT} {ad : Nat → Nat} {u0 : CT} {post : CT → Prop} {ex : String → CT → Prop} (C : CX "CoderTables" b_X_needPicture 2 none Z (va_A (cX Z ad u0) s.heap.size) p l s m args meth c) (htab : ∀ x ∈ c.exceptionTable.toList, False)  (u : CT) (H : Heap) (locs : List Loc) (ls : Array Slot) (hw : WD Z (va_A (cX Z ad u0) s.heap.size) s (cX Z ad u) H locs) (hl : lv_has ls 2 []) (h : q_X_needPicture_12  u post ex) : W p l e rm_X_needPicture s m args below meth c H locs 0 0 (vx_MQ below (pQv Z (cX Z ad) (cX Z ad u0) s.heap.size post) (pX Z (cX Z ad) (cX Z ad u0) s.heap.size ex) args s 0 0 rm_X_needPicture.cells rm_X_needPicture.slots (va_A (cX Z ad u0) s.heap.size)) (F0 m 12 ls []) := by
  unfold q_X_needPicture_12 at h
  exact g_throw C htab hw hE_O sg_217 h hl.1 d_X_needPicture_12 d_X_needPicture_15 d_X_needPicture_16 d_X_needPicture_18 d_X_needPicture_21 ⟨Nat.le_of_ble_eq_true rfl, Nat.le_of_ble_eq_true rfl, Nat.le_of_ble_eq_true rfl, Nat.le_of_ble_eq_true rfl⟩ (Nat.le_of_ble_eq_true rfl) (Nat.le_of_ble_eq_true rfl)
def q_X_needPicture (p1 : Int32) (u : CT) (post : CT → Prop) (ex : String → CT → Prop) : Prop :=
  (((p1) < 0 → q_X_needPicture_12  (u) post ex) ∧ (¬ (p1) < 0 → (((p1) < (x_pictures (u)) → post (u)) ∧ (¬ (p1) < (x_pictures (u)) → q_X_needPicture_12  (u) post ex))))
set_option maxRecDepth 100000 in
theorem c_X_needPicture {l : Launch} {Z : ZT} {ad : Nat → Nat} {u : CT} {post : CT → Prop} {ex : String → CT → Prop} {p1 : Int32} (hl0 : l.stackTraces = false) (h : q_X_needPicture p1 u post ex) : ∀ sz, vx_Met l y_X_needPicture (Cond.code y_X_needPicture b_X_needPicture 2 none :: GW) rm_X_needPicture (pP Z [.ref (ad 0), .int (p1)] (cX Z ad u) sz) (pQv Z (cX Z ad) (cX Z ad u) sz post) (pX Z (cX Z ad) (cX Z ad u) sz ex) 0 0 rm_X_needPicture.cells rm_X_needPicture.slots (va_A (cX Z ad u) sz) := by
  refine g_ent (f := cX Z ad) (Qc := fun sz => pQv Z (cX Z ad) (cX Z ad u) sz post) (XC := fun sz => pX Z (cX Z ad) (cX Z ad u) sz ex) hl0 (by decide +kernel) (Nat.le_of_ble_eq_true rfl) ?_
  intro p e s m args below meth c ls C htab hw hl
  have hl : lv_has ls 2 [(0, .ref (ad 0)), (1, .int (p1))] := hl
  unfold q_X_needPicture at h
  refine lv_iload_n C.2.1 C.2.2.1 d_X_needPicture_0 rfl (lv_at hl 1 rfl) ?_
  refine lv_if_lt (tgt := 12) C.2.1 C.2.2.1 d_X_needPicture_1 (by decide) (fun c => ?_) (fun c => ?_)
  · have h := h.1 c
    exact w_X_needPicture_12 C htab  _ _ _ _ hw (lv_sub hl [] rfl) h
  · have h := h.2 c
    refine lv_iload_n C.2.1 C.2.2.1 d_X_needPicture_4 rfl (lv_at hl 1 rfl) ?_
    refine lv_aload_n C.2.1 C.2.2.1 d_X_needPicture_5 rfl (lv_at hl 0 rfl) ?_
    refine r_X_13 C hw d_X_needPicture_6 ?_
    refine lv_icmp_lt (tgt := 22) C.2.1 C.2.2.1 d_X_needPicture_9 (by decide) (fun c => ?_) (fun c => ?_)
    · have h := h.1 c
      exact g_vret C hw h d_X_needPicture_22
    · have h := h.2 c
      exact w_X_needPicture_12 C htab  _ _ _ _ hw (lv_sub hl [] rfl) h
section KR
variable {own host : String} {cc bytes : ByteArray} {nL maxL index n : Nat} {rt0 rt : Option FieldType} {Z : ZT} {ad : Nat → Nat} {A : Nat → Prop}
variable {p : Program} {l : Launch} {e : Env} {R : Room} {s : State} {m : MethodId} {args : Array Value} {below : List Frame} {meth : Method} {c : Code} {H : Heap} {locs : List Loc} {cells slots : Nat} {Q : State → Prop} {rest : List Value} {pc : Nat} {ls : Array Slot}
theorem k_X_106 {u : CT} {p1 : Int32} {post : CT → Prop} {ex : String → CT → Prop} (C : CX "CoderTables" cc nL rt0 Z A p l s m args meth c) (hw : WD Z A s (cX Z ad u) H locs) (h : q_X_needPicture p1 u post ex) (hR : rmOk rm_X_needPicture 2 R cells slots) (hl : ls.size = nL) (hW : (rest.map fun v => v.category).sum ≤ 8) (hdg : decode cc pc = .ok (.invokevirtual 106, 3)) (kx : ∀ (E : String) (u' : CT) (q9 : Addr) (ce : Cell) (H1 : Heap) (locs1 : List Loc), ex E u' → WD Z A s (cX Z ad u') H1 locs1 → H1[q9]? = some ce → ce.vm = .none → s.vm.findClass E = some ce.cls → vx_W p l e R s m args below meth c H1 locs1 (cells + rm_X_needPicture.cells) (slots + rm_X_needPicture.slots) Q (F0 m pc ls rest) q9) (kk : ∀ (u' : CT) (H1 : Heap) (locs1 : List Loc), post u' → WD Z A s (cX Z ad u') H1 locs1 → W p l e R s m args below meth c H1 locs1 cells slots Q (F0 m (pc + 3) ls (rest))) : W p l e R s m args below meth c H locs cells slots Q (F0 m pc ls (.int (p1) :: .ref (ad 0) :: rest)) :=
  g_V0_v (n := 1) (f := cX Z ad) (As := [.int (p1)]) C hw (c_X_needPicture C.1 h) ⟨w351, w353, w18, w53, w354, (by decide +kernel), (by decide +kernel), (by decide +kernel)⟩ hR 0 rfl rfl rfl hl rfl hW hdg kx kk
end KR
/-! CoderTables.pairOf(II)I -/
abbrev rm_X_pairOf : Room := { frames := 7, cells := 1, slots := 6, locals := 111 }
def q_X_pairOf (p1 : Int32) (p2 : Int32) (u : CT) (post : Int32 → CT → Prop) (ex : String → CT → Prop) : Prop :=
  q_X_needCoder (p1) (u) (fun u2 => q_X_needPicture (p2) (u2) (fun u4 => post (((p1) * (((24) : Int32))) + (p2)) (u4)) ex) ex
set_option maxRecDepth 100000 in
theorem c_X_pairOf {l : Launch} {Z : ZT} {ad : Nat → Nat} {u : CT} {post : Int32 → CT → Prop} {ex : String → CT → Prop} {p1 : Int32} {p2 : Int32} (hl0 : l.stackTraces = false) (h : q_X_pairOf p1 p2 u post ex) : ∀ sz, vx_Met l y_X_pairOf (Cond.code y_X_pairOf b_X_pairOf 3 (some .int) :: GW) rm_X_pairOf (pP Z [.ref (ad 0), .int (p1), .int (p2)] (cX Z ad u) sz) (pQi Z (cX Z ad) (cX Z ad u) sz post) (pX Z (cX Z ad) (cX Z ad u) sz ex) 0 0 rm_X_pairOf.cells rm_X_pairOf.slots (va_A (cX Z ad u) sz) := by
  refine g_ent (f := cX Z ad) (Qc := fun sz => pQi Z (cX Z ad) (cX Z ad u) sz post) (XC := fun sz => pX Z (cX Z ad) (cX Z ad u) sz ex) hl0 (by decide +kernel) (Nat.le_of_ble_eq_true rfl) ?_
  intro p e s m args below meth c ls C htab hw hl
  have hl : lv_has ls 3 [(0, .ref (ad 0)), (1, .int (p1)), (2, .int (p2))] := hl
  unfold q_X_pairOf at h
  refine lv_aload_n C.2.1 C.2.2.1 d_X_pairOf_0 rfl (lv_at hl 0 rfl) ?_
  refine lv_iload_n C.2.1 C.2.2.1 d_X_pairOf_1 rfl (lv_at hl 1 rfl) ?_
  refine k_X_114 C hw h ⟨Nat.le_of_ble_eq_true rfl, Nat.le_of_ble_eq_true rfl, Nat.le_of_ble_eq_true rfl, Nat.le_of_ble_eq_true rfl⟩ hl.1 (Nat.le_of_ble_eq_true rfl) d_X_pairOf_2 (fun _ _ _ _ _ _ he hw h1 h2 h3 => g_out C htab hw he h1 h2 h3 (Nat.le_of_ble_eq_true rfl) (Nat.le_of_ble_eq_true rfl)) (fun u2 H locs h hw => ?_)
  refine lv_aload_n C.2.1 C.2.2.1 d_X_pairOf_5 rfl (lv_at hl 0 rfl) ?_
  refine lv_iload_n C.2.1 C.2.2.1 d_X_pairOf_6 rfl (lv_at hl 2 rfl) ?_
  refine k_X_106 C hw h ⟨Nat.le_of_ble_eq_true rfl, Nat.le_of_ble_eq_true rfl, Nat.le_of_ble_eq_true rfl, Nat.le_of_ble_eq_true rfl⟩ hl.1 (Nat.le_of_ble_eq_true rfl) d_X_pairOf_7 (fun _ _ _ _ _ _ he hw h1 h2 h3 => g_out C htab hw he h1 h2 h3 (Nat.le_of_ble_eq_true rfl) (Nat.le_of_ble_eq_true rfl)) (fun u4 H locs h hw => ?_)
  refine lv_iload_n C.2.1 C.2.2.1 d_X_pairOf_10 rfl (lv_at hl 1 rfl) ?_
  refine lv_bipush (v := (24)) C.2.1 C.2.2.1 d_X_pairOf_11 (by decide) ?_
  refine lv_imul C.2.1 C.2.2.1 d_X_pairOf_13 ?_
  refine lv_iload_n C.2.1 C.2.2.1 d_X_pairOf_14 rfl (lv_at hl 2 rfl) ?_
  refine lv_iadd C.2.1 C.2.2.1 d_X_pairOf_15 ?_
  exact g_iret C hw rfl h d_X_pairOf_16
section KR
variable {own host : String} {cc bytes : ByteArray} {nL maxL index n : Nat} {rt0 rt : Option FieldType} {Z : ZT} {ad : Nat → Nat} {A : Nat → Prop}
variable {p : Program} {l : Launch} {e : Env} {R : Room} {s : State} {m : MethodId} {args : Array Value} {below : List Frame} {meth : Method} {c : Code} {H : Heap} {locs : List Loc} {cells slots : Nat} {Q : State → Prop} {rest : List Value} {pc : Nat} {ls : Array Slot}
theorem k_X_70 {u : CT} {p1 : Int32} {p2 : Int32} {post : Int32 → CT → Prop} {ex : String → CT → Prop} (C : CX "CoderTables" cc nL rt0 Z A p l s m args meth c) (hw : WD Z A s (cX Z ad u) H locs) (h : q_X_pairOf p1 p2 u post ex) (hR : rmOk rm_X_pairOf 3 R cells slots) (hl : ls.size = nL) (hW : (rest.map fun v => v.category).sum ≤ 8) (hdg : decode cc pc = .ok (.invokevirtual 70, 3)) (kx : ∀ (E : String) (u' : CT) (q9 : Addr) (ce : Cell) (H1 : Heap) (locs1 : List Loc), ex E u' → WD Z A s (cX Z ad u') H1 locs1 → H1[q9]? = some ce → ce.vm = .none → s.vm.findClass E = some ce.cls → vx_W p l e R s m args below meth c H1 locs1 (cells + rm_X_pairOf.cells) (slots + rm_X_pairOf.slots) Q (F0 m pc ls rest) q9) (kk : ∀ (r : Int32) (u' : CT) (H1 : Heap) (locs1 : List Loc), post r u' → WD Z A s (cX Z ad u') H1 locs1 → W p l e R s m args below meth c H1 locs1 cells slots Q (F0 m (pc + 3) ls (.int r :: rest))) : W p l e R s m args below meth c H locs cells slots Q (F0 m pc ls (.int (p2) :: .int (p1) :: .ref (ad 0) :: rest)) :=
  g_V0_i (n := 2) (f := cX Z ad) (As := [.int (p1), .int (p2)]) C hw (c_X_pairOf C.1 h) ⟨w327, w329, w16, w53, w330, (by decide +kernel), (by decide +kernel), (by decide +kernel)⟩ hR 0 rfl rfl rfl hl rfl hW hdg kx kk
end KR
/-! CoderTables.addPoint(III)V -/
abbrev rm_X_addPoint : Room := { frames := 0, cells := 0, slots := 0, locals := 0 }
def q_X_addPoint_68 (x1 : Int32) (x4 : Int32) (u : CT) (post : CT → Prop) : Prop :=
  (vp_in (x1) 192 ∧ post (x_pointCounts_s (u) (upd (x_pointCounts (u)) (x1).toNatClampNeg ((x4) + (((1) : Int32))))))
set_option maxRecDepth 100000 in
theorem w_X_addPoint_68 {p : Program} {l : Launch} {e : Env} {s : State} {m : MethodId} {args : Array Value} {below : List Frame} {meth : Method} {c : Code} {Z : ZT} {ad : Nat → Nat} {u0 : CT} {post : CT → Prop} (C : CX "CoderTables" b_X_addPoint 6 none Z (va_A (cX Z ad u0) s.heap.size) p l s m args meth c) (htab : ∀ x ∈ c.exceptionTable.toList, False) (x1 : Int32) (x4 : Int32) (u : CT) (H : Heap) (locs : List Loc) (ls : Array Slot) (hw : WD Z (va_A (cX Z ad u0) s.heap.size) s (cX Z ad u) H locs) (hl : lv_has ls 6 [(0, .ref (ad 0)), (1, .int (x1)), (4, .int (x4))]) (h : q_X_addPoint_68 x1 x4 u post) : W p l e rm_X_addPoint s m args below meth c H locs 0 0 (vx_MQ below (pQv Z (cX Z ad) (cX Z ad u0) s.heap.size post) (pX Z (cX Z ad) (cX Z ad u0) s.heap.size (fun _ _ => False)) args s 0 0 rm_X_addPoint.cells rm_X_addPoint.slots (va_A (cX Z ad u0) s.heap.size)) (F0 m 68 ls []) := by
  unfold q_X_addPoint_68 at h
  refine lv_aload_n C.2.1 C.2.2.1 d_X_addPoint_68 rfl (lv_at hl 0 rfl) ?_
  refine r_X_16 C hw d_X_addPoint_69 ?_
  refine lv_iload_n C.2.1 C.2.2.1 d_X_addPoint_72 rfl (lv_at hl 1 rfl) ?_
  refine lv_iload C.2.1 C.2.2.1 d_X_addPoint_73 (lv_at hl 2 rfl) ?_
  refine lv_iconst (v := (1)) C.2.1 C.2.2.1 d_X_addPoint_75 (by decide) ?_
  refine lv_iadd C.2.1 C.2.2.1 d_X_addPoint_76 ?_
  obtain ⟨hi, h⟩ := h
  refine as_X_1 C hw hi d_X_addPoint_77 (fun H locs hw => ?_)
  exact g_vret C hw h d_X_addPoint_78
def q_X_addPoint_61 (x1 : Int32) (x2 : Int32) (x4 : Int32) (u : CT) (post : CT → Prop) : Prop :=
  (vp_in (x1) 192 ∧ q_X_addPoint_68 (x1) (x4) (x_leastBytes_s (u) (upd (x_leastBytes (u)) (x1).toNatClampNeg (x2))) post)
set_option maxRecDepth 100000 in
theorem w_X_addPoint_61 {p : Program} {l : Launch} {e : Env} {s : State} {m : MethodId} {args : Array Value} {below : List Frame} {meth : Method} {c : Code} {Z : ZT} {ad : Nat → Nat} {u0 : CT} {post : CT → Prop} (C : CX "CoderTables" b_X_addPoint 6 none Z (va_A (cX Z ad u0) s.heap.size) p l s m args meth c) (htab : ∀ x ∈ c.exceptionTable.toList, False) (x1 : Int32) (x2 : Int32) (x4 : Int32) (u : CT) (H : Heap) (locs : List Loc) (ls : Array Slot) (hw : WD Z (va_A (cX Z ad u0) s.heap.size) s (cX Z ad u) H locs) (hl : lv_has ls 6 [(0, .ref (ad 0)), (1, .int (x1)), (2, .int (x2)), (4, .int (x4))]) (h : q_X_addPoint_61 x1 x2 x4 u post) : W p l e rm_X_addPoint s m args below meth c H locs 0 0 (vx_MQ below (pQv Z (cX Z ad) (cX Z ad u0) s.heap.size post) (pX Z (cX Z ad) (cX Z ad u0) s.heap.size (fun _ _ => False)) args s 0 0 rm_X_addPoint.cells rm_X_addPoint.slots (va_A (cX Z ad u0) s.heap.size)) (F0 m 61 ls []) := by
  unfold q_X_addPoint_61 at h
  refine lv_aload_n C.2.1 C.2.2.1 d_X_addPoint_61 rfl (lv_at hl 0 rfl) ?_
  refine r_X_20 C hw d_X_addPoint_62 ?_
  refine lv_iload_n C.2.1 C.2.2.1 d_X_addPoint_65 rfl (lv_at hl 1 rfl) ?_
  refine lv_iload_n C.2.1 C.2.2.1 d_X_addPoint_66 rfl (lv_at hl 2 rfl) ?_
  obtain ⟨hi, h⟩ := h
  refine as_X_2 C hw hi d_X_addPoint_67 (fun H locs hw => ?_)
  exact w_X_addPoint_68 C htab (x1) (x4) _ _ _ _ hw (lv_sub hl [0, 1, 3] rfl) h
def q_X_addPoint (p1 : Int32) (p2 : Int32) (p3 : Int32) (u : CT) (post : CT → Prop) : Prop :=
  (vp_in (p1) 192 ∧ (((x_pointCounts (u) (p1).toNatClampNeg) < 0 → post (u)) ∧ (¬ (x_pointCounts (u) (p1).toNatClampNeg) < 0 → (((x_pointCounts (u) (p1).toNatClampNeg) < (((6) : Int32)) → (vp_in (((p1) * (((6) : Int32))) + (x_pointCounts (u) (p1).toNatClampNeg)) 1152 ∧ (vp_in (((p1) * (((6) : Int32))) + (x_pointCounts (u) (p1).toNatClampNeg)) 1152 ∧ (((x_pointCounts (u) (p1).toNatClampNeg) = 0 → q_X_addPoint_61 (p1) (p2) (x_pointCounts (u) (p1).toNatClampNeg) (x_pointErrors_s (x_pointBytes_s (u) (upd (x_pointBytes (u)) (((p1) * (((6) : Int32))) + (x_pointCounts (u) (p1).toNatClampNeg)).toNatClampNeg (p2))) (upd (x_pointErrors (x_pointBytes_s (u) (upd (x_pointBytes (u)) (((p1) * (((6) : Int32))) + (x_pointCounts (u) (p1).toNatClampNeg)).toNatClampNeg (p2)))) (((p1) * (((6) : Int32))) + (x_pointCounts (u) (p1).toNatClampNeg)).toNatClampNeg (p3))) post) ∧ (¬ (x_pointCounts (u) (p1).toNatClampNeg) = 0 → (vp_in (p1) 192 ∧ (((x_leastBytes (x_pointErrors_s (x_pointBytes_s (u) (upd (x_pointBytes (u)) (((p1) * (((6) : Int32))) + (x_pointCounts (u) (p1).toNatClampNeg)).toNatClampNeg (p2))) (upd (x_pointErrors (x_pointBytes_s (u) (upd (x_pointBytes (u)) (((p1) * (((6) : Int32))) + (x_pointCounts (u) (p1).toNatClampNeg)).toNatClampNeg (p2)))) (((p1) * (((6) : Int32))) + (x_pointCounts (u) (p1).toNatClampNeg)).toNatClampNeg (p3))) (p1).toNatClampNeg) ≤ (p2) → q_X_addPoint_68 (p1) (x_pointCounts (u) (p1).toNatClampNeg) (x_pointErrors_s (x_pointBytes_s (u) (upd (x_pointBytes (u)) (((p1) * (((6) : Int32))) + (x_pointCounts (u) (p1).toNatClampNeg)).toNatClampNeg (p2))) (upd (x_pointErrors (x_pointBytes_s (u) (upd (x_pointBytes (u)) (((p1) * (((6) : Int32))) + (x_pointCounts (u) (p1).toNatClampNeg)).toNatClampNeg (p2)))) (((p1) * (((6) : Int32))) + (x_pointCounts (u) (p1).toNatClampNeg)).toNatClampNeg (p3))) post) ∧ (¬ (x_leastBytes (x_pointErrors_s (x_pointBytes_s (u) (upd (x_pointBytes (u)) (((p1) * (((6) : Int32))) + (x_pointCounts (u) (p1).toNatClampNeg)).toNatClampNeg (p2))) (upd (x_pointErrors (x_pointBytes_s (u) (upd (x_pointBytes (u)) (((p1) * (((6) : Int32))) + (x_pointCounts (u) (p1).toNatClampNeg)).toNatClampNeg (p2)))) (((p1) * (((6) : Int32))) + (x_pointCounts (u) (p1).toNatClampNeg)).toNatClampNeg (p3))) (p1).toNatClampNeg) ≤ (p2) → q_X_addPoint_61 (p1) (p2) (x_pointCounts (u) (p1).toNatClampNeg) (x_pointErrors_s (x_pointBytes_s (u) (upd (x_pointBytes (u)) (((p1) * (((6) : Int32))) + (x_pointCounts (u) (p1).toNatClampNeg)).toNatClampNeg (p2))) (upd (x_pointErrors (x_pointBytes_s (u) (upd (x_pointBytes (u)) (((p1) * (((6) : Int32))) + (x_pointCounts (u) (p1).toNatClampNeg)).toNatClampNeg (p2)))) (((p1) * (((6) : Int32))) + (x_pointCounts (u) (p1).toNatClampNeg)).toNatClampNeg (p3))) post)))))))) ∧ (¬ (x_pointCounts (u) (p1).toNatClampNeg) < (((6) : Int32)) → post (u))))))
set_option maxRecDepth 100000 in
theorem c_X_addPoint {l : Launch} {Z : ZT} {ad : Nat → Nat} {u : CT} {post : CT → Prop} {p1 : Int32} {p2 : Int32} {p3 : Int32} (hl0 : l.stackTraces = false) (h : q_X_addPoint p1 p2 p3 u post) : ∀ sz, vx_Met l y_X_addPoint (Cond.code y_X_addPoint b_X_addPoint 6 none :: GW) rm_X_addPoint (pP Z [.ref (ad 0), .int (p1), .int (p2), .int (p3)] (cX Z ad u) sz) (pQv Z (cX Z ad) (cX Z ad u) sz post) (pX Z (cX Z ad) (cX Z ad u) sz (fun _ _ => False)) 0 0 rm_X_addPoint.cells rm_X_addPoint.slots (va_A (cX Z ad u) sz) := by
  refine g_ent (f := cX Z ad) (Qc := fun sz => pQv Z (cX Z ad) (cX Z ad u) sz post) (XC := fun sz => pX Z (cX Z ad) (cX Z ad u) sz (fun _ _ => False)) hl0 (by decide +kernel) (Nat.le_of_ble_eq_true rfl) ?_
  intro p e s m args below meth c ls C htab hw hl
  have hl : lv_has ls 6 [(0, .ref (ad 0)), (1, .int (p1)), (2, .int (p2)), (3, .int (p3))] := hl
  unfold q_X_addPoint at h
  refine lv_aload_n C.2.1 C.2.2.1 d_X_addPoint_0 rfl (lv_at hl 0 rfl) ?_
  refine r_X_16 C hw d_X_addPoint_1 ?_
  refine lv_iload_n C.2.1 C.2.2.1 d_X_addPoint_4 rfl (lv_at hl 1 rfl) ?_
  obtain ⟨hi, h⟩ := h
  refine al_X_1 C hw hi d_X_addPoint_5 ?_
  refine lv_istore (lv' := [(4, .int (x_pointCounts (u) (p1).toNatClampNeg)), (0, .ref (ad 0)), (1, .int (p1)), (2, .int (p2)), (3, .int (p3))]) C.2.1 C.2.2.1 d_X_addPoint_6 hl (by decide) rfl (fun ls hl => ?_)
  refine lv_iload C.2.1 C.2.2.1 d_X_addPoint_8 (lv_at hl 0 rfl) ?_
  refine lv_if_lt (tgt := 20) C.2.1 C.2.2.1 d_X_addPoint_10 (by decide) (fun c => ?_) (fun c => ?_)
  · have h := h.1 c
    exact g_vret C hw h d_X_addPoint_20
  · have h := h.2 c
    refine lv_iload C.2.1 C.2.2.1 d_X_addPoint_13 (lv_at hl 0 rfl) ?_
    refine lv_bipush (v := (6)) C.2.1 C.2.2.1 d_X_addPoint_15 (by decide) ?_
    refine lv_icmp_lt (tgt := 21) C.2.1 C.2.2.1 d_X_addPoint_17 (by decide) (fun c => ?_) (fun c => ?_)
    · have h := h.1 c
      refine lv_iload_n C.2.1 C.2.2.1 d_X_addPoint_21 rfl (lv_at hl 2 rfl) ?_
      refine lv_bipush (v := (6)) C.2.1 C.2.2.1 d_X_addPoint_22 (by decide) ?_
      refine lv_imul C.2.1 C.2.2.1 d_X_addPoint_24 ?_
      refine lv_iload C.2.1 C.2.2.1 d_X_addPoint_25 (lv_at hl 0 rfl) ?_
      refine lv_iadd C.2.1 C.2.2.1 d_X_addPoint_27 ?_
      refine lv_istore (lv' := [(5, .int (((p1) * (((6) : Int32))) + (x_pointCounts (u) (p1).toNatClampNeg))), (4, .int (x_pointCounts (u) (p1).toNatClampNeg)), (0, .ref (ad 0)), (1, .int (p1)), (2, .int (p2)), (3, .int (p3))]) C.2.1 C.2.2.1 d_X_addPoint_28 hl (by decide) rfl (fun ls hl => ?_)
      refine lv_aload_n C.2.1 C.2.2.1 d_X_addPoint_30 rfl (lv_at hl 2 rfl) ?_
      refine r_X_23 C hw d_X_addPoint_31 ?_
      refine lv_iload C.2.1 C.2.2.1 d_X_addPoint_34 (lv_at hl 0 rfl) ?_
      refine lv_iload_n C.2.1 C.2.2.1 d_X_addPoint_36 rfl (lv_at hl 4 rfl) ?_
      obtain ⟨hi, h⟩ := h
      refine as_X_3 C hw hi d_X_addPoint_37 (fun H locs hw => ?_)
      refine lv_aload_n C.2.1 C.2.2.1 d_X_addPoint_38 rfl (lv_at hl 2 rfl) ?_
      refine r_X_26 C hw d_X_addPoint_39 ?_
      refine lv_iload C.2.1 C.2.2.1 d_X_addPoint_42 (lv_at hl 0 rfl) ?_
      refine lv_iload_n C.2.1 C.2.2.1 d_X_addPoint_44 rfl (lv_at hl 5 rfl) ?_
      obtain ⟨hi, h⟩ := h
      refine as_X_4 C hw hi d_X_addPoint_45 (fun H locs hw => ?_)
      refine lv_iload C.2.1 C.2.2.1 d_X_addPoint_46 (lv_at hl 1 rfl) ?_
      refine lv_if_eq (tgt := 61) C.2.1 C.2.2.1 d_X_addPoint_48 (by decide) (fun c => ?_) (fun c => ?_)
      · have h := h.1 c
        exact w_X_addPoint_61 C htab (p1) (p2) (x_pointCounts (u) (p1).toNatClampNeg) _ _ _ _ hw (lv_sub hl [2, 3, 4, 1] rfl) h
      · have h := h.2 c
        refine lv_iload_n C.2.1 C.2.2.1 d_X_addPoint_51 rfl (lv_at hl 4 rfl) ?_
        refine lv_aload_n C.2.1 C.2.2.1 d_X_addPoint_52 rfl (lv_at hl 2 rfl) ?_
        refine r_X_20 C hw d_X_addPoint_53 ?_
        refine lv_iload_n C.2.1 C.2.2.1 d_X_addPoint_56 rfl (lv_at hl 3 rfl) ?_
        obtain ⟨hi, h⟩ := h
        refine al_X_2 C hw hi d_X_addPoint_57 ?_
        refine lv_icmp_ge (tgt := 68) C.2.1 C.2.2.1 d_X_addPoint_58 (by decide) (fun c => ?_) (fun c => ?_)
        · have h := h.1 c
          exact w_X_addPoint_68 C htab (p1) (x_pointCounts (u) (p1).toNatClampNeg) _ _ _ _ hw (lv_sub hl [2, 3, 1] rfl) h
        · have h := h.2 c
          exact w_X_addPoint_61 C htab (p1) (p2) (x_pointCounts (u) (p1).toNatClampNeg) _ _ _ _ hw (lv_sub hl [2, 3, 4, 1] rfl) h
    · have h := h.2 c
      exact g_vret C hw h d_X_addPoint_20
section KR
variable {own host : String} {cc bytes : ByteArray} {nL maxL index n : Nat} {rt0 rt : Option FieldType} {Z : ZT} {ad : Nat → Nat} {A : Nat → Prop}
variable {p : Program} {l : Launch} {e : Env} {R : Room} {s : State} {m : MethodId} {args : Array Value} {below : List Frame} {meth : Method} {c : Code} {H : Heap} {locs : List Loc} {cells slots : Nat} {Q : State → Prop} {rest : List Value} {pc : Nat} {ls : Array Slot}
theorem k_X_89 {u : CT} {p1 : Int32} {p2 : Int32} {p3 : Int32} {post : CT → Prop} (C : CX "CoderTables" cc nL rt0 Z A p l s m args meth c) (hw : WD Z A s (cX Z ad u) H locs) (h : q_X_addPoint p1 p2 p3 u post) (hR : rmOk rm_X_addPoint 6 R cells slots) (hl : ls.size = nL) (hW : (rest.map fun v => v.category).sum ≤ 8) (hdg : decode cc pc = .ok (.invokevirtual 89, 3)) (kk : ∀ (u' : CT) (H1 : Heap) (locs1 : List Loc), post u' → WD Z A s (cX Z ad u') H1 locs1 → W p l e R s m args below meth c H1 locs1 cells slots Q (F0 m (pc + 3) ls (rest))) : W p l e R s m args below meth c H locs cells slots Q (F0 m pc ls (.int (p3) :: .int (p2) :: .int (p1) :: .ref (ad 0) :: rest)) :=
  g_V0_v (n := 3) (f := cX Z ad) (As := [.int (p1), .int (p2), .int (p3)]) C hw (c_X_addPoint C.1 h) ⟨w174, w176, w5, w53, w177, (by decide +kernel), (by decide +kernel), (by decide +kernel)⟩ hR 0 rfl rfl rfl hl rfl hW hdg (fun _ _ _ _ _ _ h => h.elim) kk
end KR
/-! CoderTables.point(IIII)I -/
abbrev rm_X_point : Room := { frames := 8, cells := 1, slots := 6, locals := 133 }
def q_X_point_19  (u : CT) (post : Int32 → CT → Prop) (ex : String → CT → Prop) : Prop :=
  ex "java/lang/IllegalArgumentException" (u)
set_option maxRecDepth 100000 in
theorem w_X_point_19 {p : Program} {l : Launch} {e : Env} {s : State} {m : MethodId} {args : Array Value} {below : List Frame} {meth : Method} {c : Code} {Z : ZT} {ad : Nat → Nat} {u0 : CT} {post : Int32 → CT → Prop} {ex : String → CT → Prop} (C : CX "CoderTables" b_X_point 6 (some .int) Z (va_A (cX Z ad u0) s.heap.size) p l s m args meth c) (htab : ∀ x ∈ c.exceptionTable.toList, False)  (u : CT) (H : Heap) (locs : List Loc) (ls : Array Slot) (hw : WD Z (va_A (cX Z ad u0) s.heap.size) s (cX Z ad u) H locs) (hl : lv_has ls 6 []) (h : q_X_point_19  u post ex) : W p l e rm_X_point s m args below meth c H locs 0 0 (vx_MQ below (pQi Z (cX Z ad) (cX Z ad u0) s.heap.size post) (pX Z (cX Z ad) (cX Z ad u0) s.heap.size ex) args s 0 0 rm_X_point.cells rm_X_point.slots (va_A (cX Z ad u0) s.heap.size)) (F0 m 19 ls []) := by
  unfold q_X_point_19 at h
  exact g_throw C htab hw hE_G sg_77 h hl.1 d_X_point_19 d_X_point_22 d_X_point_23 d_X_point_25 d_X_point_28 ⟨Nat.le_of_ble_eq_true rfl, Nat.le_of_ble_eq_true rfl, Nat.le_of_ble_eq_true rfl, Nat.le_of_ble_eq_true rfl⟩ (Nat.le_of_ble_eq_true rfl) (Nat.le_of_ble_eq_true rfl)
def q_X_point_41  (u : CT) (post : Int32 → CT → Prop) (ex : String → CT → Prop) : Prop :=
  ex "java/lang/IllegalArgumentException" (u)
set_option maxRecDepth 100000 in
theorem w_X_point_41 {p : Program} {l : Launch} {e : Env} {s : State} {m : MethodId} {args : Array Value} {below : List Frame} {meth : Method} {c : Code} {Z : ZT} {ad : Nat → Nat} {u0 : CT} {post : Int32 → CT → Prop} {ex : String → CT → Prop} (C : CX "CoderTables" b_X_point 6 (some .int) Z (va_A (cX Z ad u0) s.heap.size) p l s m args meth c) (htab : ∀ x ∈ c.exceptionTable.toList, False)  (u : CT) (H : Heap) (locs : List Loc) (ls : Array Slot) (hw : WD Z (va_A (cX Z ad u0) s.heap.size) s (cX Z ad u) H locs) (hl : lv_has ls 6 []) (h : q_X_point_41  u post ex) : W p l e rm_X_point s m args below meth c H locs 0 0 (vx_MQ below (pQi Z (cX Z ad) (cX Z ad u0) s.heap.size post) (pX Z (cX Z ad) (cX Z ad u0) s.heap.size ex) args s 0 0 rm_X_point.cells rm_X_point.slots (va_A (cX Z ad u0) s.heap.size)) (F0 m 41 ls []) := by
  unfold q_X_point_41 at h
  exact g_throw C htab hw hE_G sg_80 h hl.1 d_X_point_41 d_X_point_44 d_X_point_45 d_X_point_47 d_X_point_50 ⟨Nat.le_of_ble_eq_true rfl, Nat.le_of_ble_eq_true rfl, Nat.le_of_ble_eq_true rfl, Nat.le_of_ble_eq_true rfl⟩ (Nat.le_of_ble_eq_true rfl) (Nat.le_of_ble_eq_true rfl)
def q_X_point (p1 : Int32) (p2 : Int32) (p3 : Int32) (p4 : Int32) (u : CT) (post : Int32 → CT → Prop) (ex : String → CT → Prop) : Prop :=
  q_X_pairOf (p1) (p2) (u) (fun r1 u2 => (((p3) < (((1) : Int32)) → q_X_point_19  (u2) post ex) ∧ (¬ (p3) < (((1) : Int32)) → (((p3) ≤ ((1000000000 : Int32)) → (((p4) < 0 → q_X_point_41  (u2) post ex) ∧ (¬ (p4) < 0 → (((p4) ≤ ((1000000000 : Int32)) → (vp_in (r1) 192 ∧ ((¬ (x_pointCounts (u2) (r1).toNatClampNeg) = (((-1) : Int32)) → (vp_in (r1) 192 ∧ (((x_pointCounts (u2) (r1).toNatClampNeg) < (((6) : Int32)) → q_X_addPoint (r1) (p3) (p4) (u2) (fun u4 => (vp_in (r1) 192 ∧ post (x_pointCounts (u4) (r1).toNatClampNeg) (u4)))) ∧ (¬ (x_pointCounts (u2) (r1).toNatClampNeg) < (((6) : Int32)) → ex "java/lang/UnsupportedOperationException" (u2))))) ∧ ((x_pointCounts (u2) (r1).toNatClampNeg) = (((-1) : Int32)) → ex "java/lang/IllegalStateException" (u2))))) ∧ (¬ (p4) ≤ ((1000000000 : Int32)) → q_X_point_41  (u2) post ex))))) ∧ (¬ (p3) ≤ ((1000000000 : Int32)) → q_X_point_19  (u2) post ex))))) ex
set_option maxRecDepth 100000 in
theorem c_X_point {l : Launch} {Z : ZT} {ad : Nat → Nat} {u : CT} {post : Int32 → CT → Prop} {ex : String → CT → Prop} {p1 : Int32} {p2 : Int32} {p3 : Int32} {p4 : Int32} (hl0 : l.stackTraces = false) (h : q_X_point p1 p2 p3 p4 u post ex) : ∀ sz, vx_Met l y_X_point (Cond.code y_X_point b_X_point 6 (some .int) :: GW) rm_X_point (pP Z [.ref (ad 0), .int (p1), .int (p2), .int (p3), .int (p4)] (cX Z ad u) sz) (pQi Z (cX Z ad) (cX Z ad u) sz post) (pX Z (cX Z ad) (cX Z ad u) sz ex) 0 0 rm_X_point.cells rm_X_point.slots (va_A (cX Z ad u) sz) := by
  refine g_ent (f := cX Z ad) (Qc := fun sz => pQi Z (cX Z ad) (cX Z ad u) sz post) (XC := fun sz => pX Z (cX Z ad) (cX Z ad u) sz ex) hl0 (by decide +kernel) (Nat.le_of_ble_eq_true rfl) ?_
  intro p e s m args below meth c ls C htab hw hl
  have hl : lv_has ls 6 [(0, .ref (ad 0)), (1, .int (p1)), (2, .int (p2)), (3, .int (p3)), (4, .int (p4))] := hl
  unfold q_X_point at h
  refine lv_aload_n C.2.1 C.2.2.1 d_X_point_0 rfl (lv_at hl 0 rfl) ?_
  refine lv_iload_n C.2.1 C.2.2.1 d_X_point_1 rfl (lv_at hl 1 rfl) ?_
  refine lv_iload_n C.2.1 C.2.2.1 d_X_point_2 rfl (lv_at hl 2 rfl) ?_
  refine k_X_70 C hw h ⟨Nat.le_of_ble_eq_true rfl, Nat.le_of_ble_eq_true rfl, Nat.le_of_ble_eq_true rfl, Nat.le_of_ble_eq_true rfl⟩ hl.1 (Nat.le_of_ble_eq_true rfl) d_X_point_3 (fun _ _ _ _ _ _ he hw h1 h2 h3 => g_out C htab hw he h1 h2 h3 (Nat.le_of_ble_eq_true rfl) (Nat.le_of_ble_eq_true rfl)) (fun r1 u2 H locs h hw => ?_)
  refine lv_istore (lv' := [(5, .int (r1)), (0, .ref (ad 0)), (1, .int (p1)), (2, .int (p2)), (3, .int (p3)), (4, .int (p4))]) C.2.1 C.2.2.1 d_X_point_6 hl (by decide) rfl (fun ls hl => ?_)
  refine lv_iload_n C.2.1 C.2.2.1 d_X_point_8 rfl (lv_at hl 4 rfl) ?_
  refine lv_iconst (v := (1)) C.2.1 C.2.2.1 d_X_point_9 (by decide) ?_
  refine lv_icmp_lt (tgt := 19) C.2.1 C.2.2.1 d_X_point_10 (by decide) (fun c => ?_) (fun c => ?_)
  · have h := h.1 c
    exact w_X_point_19 C htab  _ _ _ _ hw (lv_sub hl [] rfl) h
  · have h := h.2 c
    refine lv_iload_n C.2.1 C.2.2.1 d_X_point_13 rfl (lv_at hl 4 rfl) ?_
    refine lv_ldc (v := 1000000000) C.2.1 C.2.2.1 C.2.2.2.2.1 (C.2.2.2.2.2.1 _ w356) d_X_point_14 ?_
    refine lv_icmp_le (tgt := 29) C.2.1 C.2.2.1 d_X_point_16 (by decide) (fun c => ?_) (fun c => ?_)
    · have h := h.1 c
      refine lv_iload C.2.1 C.2.2.1 d_X_point_29 (lv_at hl 5 rfl) ?_
      refine lv_if_lt (tgt := 41) C.2.1 C.2.2.1 d_X_point_31 (by decide) (fun c => ?_) (fun c => ?_)
      · have h := h.1 c
        exact w_X_point_41 C htab  _ _ _ _ hw (lv_sub hl [] rfl) h
      · have h := h.2 c
        refine lv_iload C.2.1 C.2.2.1 d_X_point_34 (lv_at hl 5 rfl) ?_
        refine lv_ldc (v := 1000000000) C.2.1 C.2.2.1 C.2.2.2.2.1 (C.2.2.2.2.2.1 _ w356) d_X_point_36 ?_
        refine lv_icmp_le (tgt := 51) C.2.1 C.2.2.1 d_X_point_38 (by decide) (fun c => ?_) (fun c => ?_)
        · have h := h.1 c
          refine lv_aload_n C.2.1 C.2.2.1 d_X_point_51 rfl (lv_at hl 1 rfl) ?_
          refine r_X_16 C hw d_X_point_52 ?_
          refine lv_iload C.2.1 C.2.2.1 d_X_point_55 (lv_at hl 0 rfl) ?_
          obtain ⟨hi, h⟩ := h
          refine al_X_1 C hw hi d_X_point_57 ?_
          refine lv_iconst (v := (-1)) C.2.1 C.2.2.1 d_X_point_58 (by decide) ?_
          refine lv_icmp_ne (tgt := 72) C.2.1 C.2.2.1 d_X_point_59 (by decide) (fun c => ?_) (fun c => ?_)
          · have h := h.1 c
            refine lv_aload_n C.2.1 C.2.2.1 d_X_point_72 rfl (lv_at hl 1 rfl) ?_
            refine r_X_16 C hw d_X_point_73 ?_
            refine lv_iload C.2.1 C.2.2.1 d_X_point_76 (lv_at hl 0 rfl) ?_
            obtain ⟨hi, h⟩ := h
            refine al_X_1 C hw hi d_X_point_78 ?_
            refine lv_bipush (v := (6)) C.2.1 C.2.2.1 d_X_point_79 (by decide) ?_
            refine lv_icmp_lt (tgt := 94) C.2.1 C.2.2.1 d_X_point_81 (by decide) (fun c => ?_) (fun c => ?_)
            · have h := h.1 c
              refine lv_aload_n C.2.1 C.2.2.1 d_X_point_94 rfl (lv_at hl 1 rfl) ?_
              refine lv_iload C.2.1 C.2.2.1 d_X_point_95 (lv_at hl 0 rfl) ?_
              refine lv_iload_n C.2.1 C.2.2.1 d_X_point_97 rfl (lv_at hl 4 rfl) ?_
              refine lv_iload C.2.1 C.2.2.1 d_X_point_98 (lv_at hl 5 rfl) ?_
              refine k_X_89 C hw h ⟨Nat.le_of_ble_eq_true rfl, Nat.le_of_ble_eq_true rfl, Nat.le_of_ble_eq_true rfl, Nat.le_of_ble_eq_true rfl⟩ hl.1 (Nat.le_of_ble_eq_true rfl) d_X_point_100 (fun u4 H locs h hw => ?_)
              refine lv_aload_n C.2.1 C.2.2.1 d_X_point_103 rfl (lv_at hl 1 rfl) ?_
              refine r_X_16 C hw d_X_point_104 ?_
              refine lv_iload C.2.1 C.2.2.1 d_X_point_107 (lv_at hl 0 rfl) ?_
              obtain ⟨hi, h⟩ := h
              refine al_X_1 C hw hi d_X_point_109 ?_
              exact g_iret C hw rfl h d_X_point_110
            · have h := h.2 c
              exact g_throw C htab hw hE_U sg_87 h hl.1 d_X_point_84 d_X_point_87 d_X_point_88 d_X_point_90 d_X_point_93 ⟨Nat.le_of_ble_eq_true rfl, Nat.le_of_ble_eq_true rfl, Nat.le_of_ble_eq_true rfl, Nat.le_of_ble_eq_true rfl⟩ (Nat.le_of_ble_eq_true rfl) (Nat.le_of_ble_eq_true rfl)
          · have h := h.2 c
            exact g_throw C htab hw hE_T sg_84 h hl.1 d_X_point_62 d_X_point_65 d_X_point_66 d_X_point_68 d_X_point_71 ⟨Nat.le_of_ble_eq_true rfl, Nat.le_of_ble_eq_true rfl, Nat.le_of_ble_eq_true rfl, Nat.le_of_ble_eq_true rfl⟩ (Nat.le_of_ble_eq_true rfl) (Nat.le_of_ble_eq_true rfl)
        · have h := h.2 c
          exact w_X_point_41 C htab  _ _ _ _ hw (lv_sub hl [] rfl) h
    · have h := h.2 c
      exact w_X_point_19 C htab  _ _ _ _ hw (lv_sub hl [] rfl) h
/-! CoderTables.markFailed(I)V -/
abbrev rm_X_markFailed : Room := { frames := 0, cells := 0, slots := 0, locals := 0 }
def q_X_markFailed (p1 : Int32) (u : CT) (post : CT → Prop) : Prop :=
  (((((192) : Int32)) ≤ (x_failedCount (u)) → post (u)) ∧ (¬ (((192) : Int32)) ≤ (x_failedCount (u)) → (vp_in (p1) 192 ∧ (vp_in (x_failedCount (x_pointCounts_s (u) (upd (x_pointCounts (u)) (p1).toNatClampNeg (((-1) : Int32))))) 192 ∧ post (x_failedCount_s (x_failedPairs_s (x_pointCounts_s (u) (upd (x_pointCounts (u)) (p1).toNatClampNeg (((-1) : Int32)))) (upd (x_failedPairs (x_pointCounts_s (u) (upd (x_pointCounts (u)) (p1).toNatClampNeg (((-1) : Int32))))) (x_failedCount (x_pointCounts_s (u) (upd (x_pointCounts (u)) (p1).toNatClampNeg (((-1) : Int32))))).toNatClampNeg (p1))) ((x_failedCount (x_failedPairs_s (x_pointCounts_s (u) (upd (x_pointCounts (u)) (p1).toNatClampNeg (((-1) : Int32)))) (upd (x_failedPairs (x_pointCounts_s (u) (upd (x_pointCounts (u)) (p1).toNatClampNeg (((-1) : Int32))))) (x_failedCount (x_pointCounts_s (u) (upd (x_pointCounts (u)) (p1).toNatClampNeg (((-1) : Int32))))).toNatClampNeg (p1)))) + (((1) : Int32))))))))
set_option maxRecDepth 100000 in
theorem c_X_markFailed {l : Launch} {Z : ZT} {ad : Nat → Nat} {u : CT} {post : CT → Prop} {p1 : Int32} (hl0 : l.stackTraces = false) (h : q_X_markFailed p1 u post) : ∀ sz, vx_Met l y_X_markFailed (Cond.code y_X_markFailed b_X_markFailed 2 none :: GW) rm_X_markFailed (pP Z [.ref (ad 0), .int (p1)] (cX Z ad u) sz) (pQv Z (cX Z ad) (cX Z ad u) sz post) (pX Z (cX Z ad) (cX Z ad u) sz (fun _ _ => False)) 0 0 rm_X_markFailed.cells rm_X_markFailed.slots (va_A (cX Z ad u) sz) := by
  refine g_ent (f := cX Z ad) (Qc := fun sz => pQv Z (cX Z ad) (cX Z ad u) sz post) (XC := fun sz => pX Z (cX Z ad) (cX Z ad u) sz (fun _ _ => False)) hl0 (by decide +kernel) (Nat.le_of_ble_eq_true rfl) ?_
  intro p e s m args below meth c ls C htab hw hl
  have hl : lv_has ls 2 [(0, .ref (ad 0)), (1, .int (p1))] := hl
  unfold q_X_markFailed at h
  refine lv_aload_n C.2.1 C.2.2.1 d_X_markFailed_0 rfl (lv_at hl 0 rfl) ?_
  refine r_X_32 C hw d_X_markFailed_1 ?_
  refine lv_sipush (v := (192)) C.2.1 C.2.2.1 d_X_markFailed_4 (by decide) ?_
  refine lv_icmp_ge (tgt := 37) C.2.1 C.2.2.1 d_X_markFailed_7 (by decide) (fun c => ?_) (fun c => ?_)
  · have h := h.1 c
    exact g_vret C hw h d_X_markFailed_37
  · have h := h.2 c
    refine lv_aload_n C.2.1 C.2.2.1 d_X_markFailed_10 rfl (lv_at hl 0 rfl) ?_
    refine r_X_16 C hw d_X_markFailed_11 ?_
    refine lv_iload_n C.2.1 C.2.2.1 d_X_markFailed_14 rfl (lv_at hl 1 rfl) ?_
    refine lv_iconst (v := (-1)) C.2.1 C.2.2.1 d_X_markFailed_15 (by decide) ?_
    obtain ⟨hi, h⟩ := h
    refine as_X_1 C hw hi d_X_markFailed_16 (fun H locs hw => ?_)
    refine lv_aload_n C.2.1 C.2.2.1 d_X_markFailed_17 rfl (lv_at hl 0 rfl) ?_
    refine r_X_29 C hw d_X_markFailed_18 ?_
    refine lv_aload_n C.2.1 C.2.2.1 d_X_markFailed_21 rfl (lv_at hl 0 rfl) ?_
    refine r_X_32 C hw d_X_markFailed_22 ?_
    refine lv_iload_n C.2.1 C.2.2.1 d_X_markFailed_25 rfl (lv_at hl 1 rfl) ?_
    obtain ⟨hi, h⟩ := h
    refine as_X_5 C hw hi d_X_markFailed_26 (fun H locs hw => ?_)
    refine lv_aload_n C.2.1 C.2.2.1 d_X_markFailed_27 rfl (lv_at hl 0 rfl) ?_
    refine lv_dup C.2.1 C.2.2.1 d_X_markFailed_28 rfl ?_
    refine r_X_32 C hw d_X_markFailed_29 ?_
    refine lv_iconst (v := (1)) C.2.1 C.2.2.1 d_X_markFailed_32 (by decide) ?_
    refine lv_iadd C.2.1 C.2.2.1 d_X_markFailed_33 ?_
    refine s_X_32 C hw d_X_markFailed_34 (fun H locs hw => ?_)
    exact g_vret C hw h d_X_markFailed_37
section KR
variable {own host : String} {cc bytes : ByteArray} {nL maxL index n : Nat} {rt0 rt : Option FieldType} {Z : ZT} {ad : Nat → Nat} {A : Nat → Prop}
variable {p : Program} {l : Launch} {e : Env} {R : Room} {s : State} {m : MethodId} {args : Array Value} {below : List Frame} {meth : Method} {c : Code} {H : Heap} {locs : List Loc} {cells slots : Nat} {Q : State → Prop} {rest : List Value} {pc : Nat} {ls : Array Slot}
theorem k_X_95 {u : CT} {p1 : Int32} {post : CT → Prop} (C : CX "CoderTables" cc nL rt0 Z A p l s m args meth c) (hw : WD Z A s (cX Z ad u) H locs) (h : q_X_markFailed p1 u post) (hR : rmOk rm_X_markFailed 2 R cells slots) (hl : ls.size = nL) (hW : (rest.map fun v => v.category).sum ≤ 8) (hdg : decode cc pc = .ok (.invokevirtual 95, 3)) (kk : ∀ (u' : CT) (H1 : Heap) (locs1 : List Loc), post u' → WD Z A s (cX Z ad u') H1 locs1 → W p l e R s m args below meth c H1 locs1 cells slots Q (F0 m (pc + 3) ls (rest))) : W p l e R s m args below meth c H locs cells slots Q (F0 m pc ls (.int (p1) :: .ref (ad 0) :: rest)) :=
  g_V0_v (n := 1) (f := cX Z ad) (As := [.int (p1)]) C hw (c_X_markFailed C.1 h) ⟨w170, w172, w4, w53, w173, (by decide +kernel), (by decide +kernel), (by decide +kernel)⟩ hR 0 rfl rfl rfl hl rfl hW hdg (fun _ _ _ _ _ _ h => h.elim) kk
end KR
/-! CoderTables.fails(II)I -/
abbrev rm_X_fails : Room := { frames := 8, cells := 1, slots := 6, locals := 133 }
def q_X_fails (p1 : Int32) (p2 : Int32) (u : CT) (post : Int32 → CT → Prop) (ex : String → CT → Prop) : Prop :=
  q_X_pairOf (p1) (p2) (u) (fun r1 u2 => (vp_in (r1) 192 ∧ ((¬ (x_pointCounts (u2) (r1).toNatClampNeg) = (((-1) : Int32)) → q_X_markFailed (r1) (u2) (fun u4 => post (x_pointCounts (u2) (r1).toNatClampNeg) (u4))) ∧ ((x_pointCounts (u2) (r1).toNatClampNeg) = (((-1) : Int32)) → ex "java/lang/IllegalStateException" (u2))))) ex
set_option maxRecDepth 100000 in
theorem c_X_fails {l : Launch} {Z : ZT} {ad : Nat → Nat} {u : CT} {post : Int32 → CT → Prop} {ex : String → CT → Prop} {p1 : Int32} {p2 : Int32} (hl0 : l.stackTraces = false) (h : q_X_fails p1 p2 u post ex) : ∀ sz, vx_Met l y_X_fails (Cond.code y_X_fails b_X_fails 5 (some .int) :: GW) rm_X_fails (pP Z [.ref (ad 0), .int (p1), .int (p2)] (cX Z ad u) sz) (pQi Z (cX Z ad) (cX Z ad u) sz post) (pX Z (cX Z ad) (cX Z ad u) sz ex) 0 0 rm_X_fails.cells rm_X_fails.slots (va_A (cX Z ad u) sz) := by
  refine g_ent (f := cX Z ad) (Qc := fun sz => pQi Z (cX Z ad) (cX Z ad u) sz post) (XC := fun sz => pX Z (cX Z ad) (cX Z ad u) sz ex) hl0 (by decide +kernel) (Nat.le_of_ble_eq_true rfl) ?_
  intro p e s m args below meth c ls C htab hw hl
  have hl : lv_has ls 5 [(0, .ref (ad 0)), (1, .int (p1)), (2, .int (p2))] := hl
  unfold q_X_fails at h
  refine lv_aload_n C.2.1 C.2.2.1 d_X_fails_0 rfl (lv_at hl 0 rfl) ?_
  refine lv_iload_n C.2.1 C.2.2.1 d_X_fails_1 rfl (lv_at hl 1 rfl) ?_
  refine lv_iload_n C.2.1 C.2.2.1 d_X_fails_2 rfl (lv_at hl 2 rfl) ?_
  refine k_X_70 C hw h ⟨Nat.le_of_ble_eq_true rfl, Nat.le_of_ble_eq_true rfl, Nat.le_of_ble_eq_true rfl, Nat.le_of_ble_eq_true rfl⟩ hl.1 (Nat.le_of_ble_eq_true rfl) d_X_fails_3 (fun _ _ _ _ _ _ he hw h1 h2 h3 => g_out C htab hw he h1 h2 h3 (Nat.le_of_ble_eq_true rfl) (Nat.le_of_ble_eq_true rfl)) (fun r1 u2 H locs h hw => ?_)
  refine lv_istore_n (lv' := [(3, .int (r1)), (0, .ref (ad 0)), (1, .int (p1)), (2, .int (p2))]) C.2.1 C.2.2.1 d_X_fails_6 rfl hl (by decide) rfl (fun ls hl => ?_)
  refine lv_aload_n C.2.1 C.2.2.1 d_X_fails_7 rfl (lv_at hl 1 rfl) ?_
  refine r_X_16 C hw d_X_fails_8 ?_
  refine lv_iload_n C.2.1 C.2.2.1 d_X_fails_11 rfl (lv_at hl 0 rfl) ?_
  obtain ⟨hi, h⟩ := h
  refine al_X_1 C hw hi d_X_fails_12 ?_
  refine lv_istore (lv' := [(4, .int (x_pointCounts (u2) (r1).toNatClampNeg)), (3, .int (r1)), (0, .ref (ad 0)), (1, .int (p1)), (2, .int (p2))]) C.2.1 C.2.2.1 d_X_fails_13 hl (by decide) rfl (fun ls hl => ?_)
  refine lv_iload C.2.1 C.2.2.1 d_X_fails_15 (lv_at hl 0 rfl) ?_
  refine lv_iconst (v := (-1)) C.2.1 C.2.2.1 d_X_fails_17 (by decide) ?_
  refine lv_icmp_ne (tgt := 31) C.2.1 C.2.2.1 d_X_fails_18 (by decide) (fun c => ?_) (fun c => ?_)
  · have h := h.1 c
    refine lv_aload_n C.2.1 C.2.2.1 d_X_fails_31 rfl (lv_at hl 2 rfl) ?_
    refine lv_iload_n C.2.1 C.2.2.1 d_X_fails_32 rfl (lv_at hl 1 rfl) ?_
    refine k_X_95 C hw h ⟨Nat.le_of_ble_eq_true rfl, Nat.le_of_ble_eq_true rfl, Nat.le_of_ble_eq_true rfl, Nat.le_of_ble_eq_true rfl⟩ hl.1 (Nat.le_of_ble_eq_true rfl) d_X_fails_33 (fun u4 H locs h hw => ?_)
    refine lv_iload C.2.1 C.2.2.1 d_X_fails_36 (lv_at hl 0 rfl) ?_
    exact g_iret C hw rfl h d_X_fails_38
  · have h := h.2 c
    exact g_throw C htab hw hE_T sg_93 h hl.1 d_X_fails_21 d_X_fails_24 d_X_fails_25 d_X_fails_27 d_X_fails_30 ⟨Nat.le_of_ble_eq_true rfl, Nat.le_of_ble_eq_true rfl, Nat.le_of_ble_eq_true rfl, Nat.le_of_ble_eq_true rfl⟩ (Nat.le_of_ble_eq_true rfl) (Nat.le_of_ble_eq_true rfl)
