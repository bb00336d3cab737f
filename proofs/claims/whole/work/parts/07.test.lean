/-! CoderTables.coder()I -/
abbrev rm_X_coder : Room := { frames := 6, cells := 1, slots := 6, locals := 90 }
def q_X_coder (u : CT) (post : Int32 → CT → Prop) (ex : String → CT → Prop) : Prop :=
  (((x_coders (u)) < (((8) : Int32)) → post ((x_coders (x_coders_s (u) ((x_coders (u)) + (((1) : Int32))))) - (((1) : Int32))) (x_coders_s (u) ((x_coders (u)) + (((1) : Int32))))) ∧ (¬ (x_coders (u)) < (((8) : Int32)) → ex "java/lang/UnsupportedOperationException" (u)))
set_option maxRecDepth 100000 in
theorem c_X_coder {l : Launch} {Z : ZT} {ad : Nat → Nat} {u : CT} {post : Int32 → CT → Prop} {ex : String → CT → Prop} (hl0 : l.stackTraces = false) (h : q_X_coder u post ex) : ∀ sz, vx_Met l y_X_coder (Cond.code y_X_coder b_X_coder 1 (some .int) :: GW) rm_X_coder (pP Z [.ref (ad 0)] (cX Z ad u) sz) (pQi Z (cX Z ad) (cX Z ad u) sz post) (pX Z (cX Z ad) (cX Z ad u) sz ex) 0 0 rm_X_coder.cells rm_X_coder.slots (va_A (cX Z ad u) sz) := by
  refine g_ent (f := cX Z ad) (Qc := fun sz => pQi Z (cX Z ad) (cX Z ad u) sz post) (XC := fun sz => pX Z (cX Z ad) (cX Z ad u) sz ex) hl0 (by decide +kernel) (Nat.le_of_ble_eq_true rfl) ?_
  intro p e s m args below meth c ls C htab hw hl
  have hl : lv_has ls 1 [(0, .ref (ad 0))] := hl
  unfold q_X_coder at h
  refine lv_aload_n C.2.1 C.2.2.1 d_X_coder_0 rfl (lv_at hl 0 rfl) ?_
  refine r_X_9 C hw d_X_coder_1 ?_
  refine lv_bipush (v := (8)) C.2.1 C.2.2.1 d_X_coder_4 (by decide) ?_
  refine lv_icmp_lt (tgt := 19) C.2.1 C.2.2.1 d_X_coder_6 (by decide) (fun c => ?_) (fun c => ?_)
  · have h := h.1 c
    refine lv_aload_n C.2.1 C.2.2.1 d_X_coder_19 rfl (lv_at hl 0 rfl) ?_
    refine lv_dup C.2.1 C.2.2.1 d_X_coder_20 rfl ?_
    refine r_X_9 C hw d_X_coder_21 ?_
    refine lv_iconst (v := (1)) C.2.1 C.2.2.1 d_X_coder_24 (by decide) ?_
    refine lv_iadd C.2.1 C.2.2.1 d_X_coder_25 ?_
    refine s_X_9 C hw d_X_coder_26 (fun H locs hw => ?_)
    refine lv_aload_n C.2.1 C.2.2.1 d_X_coder_29 rfl (lv_at hl 0 rfl) ?_
    refine r_X_9 C hw d_X_coder_30 ?_
    refine lv_iconst (v := (1)) C.2.1 C.2.2.1 d_X_coder_33 (by decide) ?_
    refine lv_isub C.2.1 C.2.2.1 d_X_coder_34 ?_
    exact g_iret C hw rfl h d_X_coder_35
  · have h := h.2 c
    exact g_throw C htab hw hE_U sg_63 h hl.1 d_X_coder_9 d_X_coder_12 d_X_coder_13 d_X_coder_15 d_X_coder_18 ⟨Nat.le_of_ble_eq_true rfl, Nat.le_of_ble_eq_true rfl, Nat.le_of_ble_eq_true rfl, Nat.le_of_ble_eq_true rfl⟩ (Nat.le_of_ble_eq_true rfl) (Nat.le_of_ble_eq_true rfl)
/-! CoderTables.picture()I -/
abbrev rm_X_picture : Room := { frames := 6, cells := 1, slots := 6, locals := 90 }
def q_X_picture (u : CT) (post : Int32 → CT → Prop) (ex : String → CT → Prop) : Prop :=
  (((x_pictures (u)) < (((24) : Int32)) → post ((x_pictures (x_pictures_s (u) ((x_pictures (u)) + (((1) : Int32))))) - (((1) : Int32))) (x_pictures_s (u) ((x_pictures (u)) + (((1) : Int32))))) ∧ (¬ (x_pictures (u)) < (((24) : Int32)) → ex "java/lang/UnsupportedOperationException" (u)))
set_option maxRecDepth 100000 in
theorem c_X_picture {l : Launch} {Z : ZT} {ad : Nat → Nat} {u : CT} {post : Int32 → CT → Prop} {ex : String → CT → Prop} (hl0 : l.stackTraces = false) (h : q_X_picture u post ex) : ∀ sz, vx_Met l y_X_picture (Cond.code y_X_picture b_X_picture 1 (some .int) :: GW) rm_X_picture (pP Z [.ref (ad 0)] (cX Z ad u) sz) (pQi Z (cX Z ad) (cX Z ad u) sz post) (pX Z (cX Z ad) (cX Z ad u) sz ex) 0 0 rm_X_picture.cells rm_X_picture.slots (va_A (cX Z ad u) sz) := by
  refine g_ent (f := cX Z ad) (Qc := fun sz => pQi Z (cX Z ad) (cX Z ad u) sz post) (XC := fun sz => pX Z (cX Z ad) (cX Z ad u) sz ex) hl0 (by decide +kernel) (Nat.le_of_ble_eq_true rfl) ?_
  intro p e s m args below meth c ls C htab hw hl
  have hl : lv_has ls 1 [(0, .ref (ad 0))] := hl
  unfold q_X_picture at h
  refine lv_aload_n C.2.1 C.2.2.1 d_X_picture_0 rfl (lv_at hl 0 rfl) ?_
  refine r_X_13 C hw d_X_picture_1 ?_
  refine lv_bipush (v := (24)) C.2.1 C.2.2.1 d_X_picture_4 (by decide) ?_
  refine lv_icmp_lt (tgt := 19) C.2.1 C.2.2.1 d_X_picture_6 (by decide) (fun c => ?_) (fun c => ?_)
  · have h := h.1 c
    refine lv_aload_n C.2.1 C.2.2.1 d_X_picture_19 rfl (lv_at hl 0 rfl) ?_
    refine lv_dup C.2.1 C.2.2.1 d_X_picture_20 rfl ?_
    refine r_X_13 C hw d_X_picture_21 ?_
    refine lv_iconst (v := (1)) C.2.1 C.2.2.1 d_X_picture_24 (by decide) ?_
    refine lv_iadd C.2.1 C.2.2.1 d_X_picture_25 ?_
    refine s_X_13 C hw d_X_picture_26 (fun H locs hw => ?_)
    refine lv_aload_n C.2.1 C.2.2.1 d_X_picture_29 rfl (lv_at hl 0 rfl) ?_
    refine r_X_13 C hw d_X_picture_30 ?_
    refine lv_iconst (v := (1)) C.2.1 C.2.2.1 d_X_picture_33 (by decide) ?_
    refine lv_isub C.2.1 C.2.2.1 d_X_picture_34 ?_
    exact g_iret C hw rfl h d_X_picture_35
  · have h := h.2 c
    exact g_throw C htab hw hE_U sg_68 h hl.1 d_X_picture_9 d_X_picture_12 d_X_picture_13 d_X_picture_15 d_X_picture_18 ⟨Nat.le_of_ble_eq_true rfl, Nat.le_of_ble_eq_true rfl, Nat.le_of_ble_eq_true rfl, Nat.le_of_ble_eq_true rfl⟩ (Nat.le_of_ble_eq_true rfl) (Nat.le_of_ble_eq_true rfl)
/-! CoderTables.needCoder(I)V -/
abbrev rm_X_needCoder : Room := { frames := 6, cells := 1, slots := 6, locals := 90 }
def q_X_needCoder_12  (u : CT) (post : CT → Prop) (ex : String → CT → Prop) : Prop :=
  ex "java/lang/IndexOutOfBoundsException" (u)
set_option maxRecDepth 100000 in
theorem w_X_needCoder_12 {p : Program} {l : Launch} {e : Env} {s : State} {m : MethodId} {args : Array Value} {below : List Frame} {meth : Method} {c : Code} {Z : ZT} {ad : Nat → Nat} {u0 : CT} {post : CT → Prop} {ex : String → CT → Prop} (C : CX "CoderTables" b_X_needCoder 2 none Z (va_A (cX Z ad u0) s.heap.size) p l s m args meth c) (htab : ∀ x ∈ c.exceptionTable.toList, False)  (u : CT) (H : Heap) (locs : List Loc) (ls : Array Slot) (hw : WD Z (va_A (cX Z ad u0) s.heap.size) s (cX Z ad u) H locs) (hl : lv_has ls 2 []) (h : q_X_needCoder_12  u post ex) : W p l e rm_X_needCoder s m args below meth c H locs 0 0 (vx_MQ below (pQv Z (cX Z ad) (cX Z ad u0) s.heap.size post) (pX Z (cX Z ad) (cX Z ad u0) s.heap.size ex) args s 0 0 rm_X_needCoder.cells rm_X_needCoder.slots (va_A (cX Z ad u0) s.heap.size)) (F0 m 12 ls []) := by
  unfold q_X_needCoder_12 at h
  exact g_throw C htab hw hE_O sg_215 h hl.1 d_X_needCoder_12 d_X_needCoder_15 d_X_needCoder_16 d_X_needCoder_18 d_X_needCoder_21 ⟨Nat.le_of_ble_eq_true rfl, Nat.le_of_ble_eq_true rfl, Nat.le_of_ble_eq_true rfl, Nat.le_of_ble_eq_true rfl⟩ (Nat.le_of_ble_eq_true rfl) (Nat.le_of_ble_eq_true rfl)
def q_X_needCoder (p1 : Int32) (u : CT) (post : CT → Prop) (ex : String → CT → Prop) : Prop :=
  (((p1) < 0 → q_X_needCoder_12  (u) post ex) ∧ (¬ (p1) < 0 → (((p1) < (x_coders (u)) → post (u)) ∧ (¬ (p1) < (x_coders (u)) → q_X_needCoder_12  (u) post ex))))
set_option maxRecDepth 100000 in
theorem c_X_needCoder {l : Launch} {Z : ZT} {ad : Nat → Nat} {u : CT} {post : CT → Prop} {ex : String → CT → Prop} {p1 : Int32} (hl0 : l.stackTraces = false) (h : q_X_needCoder p1 u post ex) : ∀ sz, vx_Met l y_X_needCoder (Cond.code y_X_needCoder b_X_needCoder 2 none :: GW) rm_X_needCoder (pP Z [.ref (ad 0), .int (p1)] (cX Z ad u) sz) (pQv Z (cX Z ad) (cX Z ad u) sz post) (pX Z (cX Z ad) (cX Z ad u) sz ex) 0 0 rm_X_needCoder.cells rm_X_needCoder.slots (va_A (cX Z ad u) sz) := by
  refine g_ent (f := cX Z ad) (Qc := fun sz => pQv Z (cX Z ad) (cX Z ad u) sz post) (XC := fun sz => pX Z (cX Z ad) (cX Z ad u) sz ex) hl0 (by decide +kernel) (Nat.le_of_ble_eq_true rfl) ?_
  intro p e s m args below meth c ls C htab hw hl
  have hl : lv_has ls 2 [(0, .ref (ad 0)), (1, .int (p1))] := hl
  unfold q_X_needCoder at h
  refine lv_iload_n C.2.1 C.2.2.1 d_X_needCoder_0 rfl (lv_at hl 1 rfl) ?_
  refine lv_if_lt (tgt := 12) C.2.1 C.2.2.1 d_X_needCoder_1 (by decide) (fun c => ?_) (fun c => ?_)
  · have h := h.1 c
    exact w_X_needCoder_12 C htab  _ _ _ _ hw (lv_sub hl [] rfl) h
  · have h := h.2 c
    refine lv_iload_n C.2.1 C.2.2.1 d_X_needCoder_4 rfl (lv_at hl 1 rfl) ?_
    refine lv_aload_n C.2.1 C.2.2.1 d_X_needCoder_5 rfl (lv_at hl 0 rfl) ?_
    refine r_X_9 C hw d_X_needCoder_6 ?_
    refine lv_icmp_lt (tgt := 22) C.2.1 C.2.2.1 d_X_needCoder_9 (by decide) (fun c => ?_) (fun c => ?_)
    · have h := h.1 c
      exact g_vret C hw h d_X_needCoder_22
    · have h := h.2 c
      exact w_X_needCoder_12 C htab  _ _ _ _ hw (lv_sub hl [] rfl) h
section KR
variable {own host : String} {cc bytes : ByteArray} {nL maxL index n : Nat} {rt0 rt : Option FieldType} {Z : ZT} {ad : Nat → Nat} {A : Nat → Prop}
variable {p : Program} {l : Launch} {e : Env} {R : Room} {s : State} {m : MethodId} {args : Array Value} {below : List Frame} {meth : Method} {c : Code} {H : Heap} {locs : List Loc} {cells slots : Nat} {Q : State → Prop} {rest : List Value} {pc : Nat} {ls : Array Slot}
theorem k_X_114 {u : CT} {p1 : Int32} {post : CT → Prop} {ex : String → CT → Prop} (C : CX "CoderTables" cc nL rt0 Z A p l s m args meth c) (hw : WD Z A s (cX Z ad u) H locs) (h : q_X_needCoder p1 u post ex) (hR : rmOk rm_X_needCoder 2 R cells slots) (hl : ls.size = nL) (hW : (rest.map fun v => v.category).sum ≤ 8) (hdg : decode cc pc = .ok (.invokevirtual 114, 3)) (kx : ∀ (E : String) (u' : CT) (q9 : Addr) (ce : Cell) (H1 : Heap) (locs1 : List Loc), ex E u' → WD Z A s (cX Z ad u') H1 locs1 → H1[q9]? = some ce → ce.vm = .none → s.vm.findClass E = some ce.cls → vx_W p l e R s m args below meth c H1 locs1 (cells + rm_X_needCoder.cells) (slots + rm_X_needCoder.slots) Q (F0 m pc ls rest) q9) (kk : ∀ (u' : CT) (H1 : Heap) (locs1 : List Loc), post u' → WD Z A s (cX Z ad u') H1 locs1 → W p l e R s m args below meth c H1 locs1 cells slots Q (F0 m (pc + 3) ls (rest))) : W p l e R s m args below meth c H locs cells slots Q (F0 m pc ls (.int (p1) :: .ref (ad 0) :: rest)) :=
  g_V0_v (f := cX Z ad) (As := [.int (p1)]) C hw (c_X_needCoder C.1 h) ⟨w331, w333, w17, w53, w334, (by decide +kernel), (by decide +kernel), (by decide +kernel)⟩ hR 0 rfl rfl rfl hl rfl hW hdg kx kk
end KR
/-! CoderTables.needPicture(I)V -/
abbrev rm_X_needPicture : Room := { frames := 6, cells := 1, slots := 6, locals := 90 }
def q_X_needPicture_12  (u : CT) (post : CT → Prop) (ex : String → CT → Prop) : Prop :=
  ex "java/lang/IndexOutOfBoundsException" (u)
set_option maxRecDepth 100000 in
theorem w_X_needPicture_12 {p : Program} {l : Launch} {e : Env} {s : State} {m : MethodId} {args : Array Value} {below : List Frame} {meth : Method} {c : Code} {Z : ZT} {ad : Nat → Nat} {u0 : CT} {post : CT → Prop} {ex : String → CT → Prop} (C : CX "CoderTables" b_X_needPicture 2 none Z (va_A (cX Z ad u0) s.heap.size) p l s m args meth c) (htab : ∀ x ∈ c.exceptionTable.toList, False)  (u : CT) (H : Heap) (locs : List Loc) (ls : Array Slot) (hw : WD Z (va_A (cX Z ad u0) s.heap.size) s (cX Z ad u) H locs) (hl : lv_has ls 2 []) (h : q_X_needPicture_12  u post ex) : W p l e rm_X_needPicture s m args below meth c H locs 0 0 (vx_MQ below (pQv Z (cX Z ad) (cX Z ad u0) s.heap.size post) (pX Z (cX Z ad) (cX Z ad u0) s.heap.size ex) args s 0 0 rm_X_needPicture.cells rm_X_needPicture.slots (va_A (cX Z ad u0) s.heap.size)) (F0 m 12 ls []) := by
  unfold q_X_needPicture_12 at h
  exact g_throw C htab hw hE_O sg_217 h hl.1 d_X_needPicture_12 d_X_needPicture_15 d_X_needPicture_16 d_X_needPicture_18 d_X_needPicture_21 ⟨Nat.le_of_ble_eq_true rfl, Nat.le_of_ble_eq_true rfl, Nat.le_of_ble_eq_true rfl, Nat.le_of_ble_eq_true rfl⟩ (Nat.le_of_ble_eq_true rfl) (Nat.le_of_ble_eq_true rfl)
def q_X_needPicture (p1 : Int32) (u : CT) (post : CT → Prop) (ex : String → CT → Prop) : Prop :=
  (((p1) < 0 → q_X_needPicture_12  (u) post ex) ∧ (¬ (p1) < 0 → (((p1) < (x_pictures (u)) → post (u)) ∧ (¬ (p1) < (x_pictures (u)) → q_X_needPicture_12  (u) post ex))))
set_option maxRecDepth 100000 in
theorem c_X_needPicture {l : Launch} {Z : ZT} {ad : Nat → Nat} {u : CT} {post : CT → Prop} {ex : String → CT → Prop} {p1 : Int32} (hl0 : l.stackTraces = false) (h : q_X_needPicture p1 u post ex) : ∀ sz, vx_Met l y_X_needPicture (Cond.code y_X_needPicture b_X_needPicture 2 none :: GW) rm_X_needPicture (pP Z [.ref (ad 0), .int (p1)] (cX Z ad u) sz) (pQv Z (cX Z ad) (cX Z ad u) sz post) (pX Z (cX Z ad) (cX Z ad u) sz ex) 0 0 rm_X_needPicture.cells rm_X_needPicture.slots (va_A (cX Z ad u) sz) := by
  refine g_ent (f := cX Z ad) (Qc := fun sz => pQv Z (cX Z ad) (cX Z ad u) sz post) (XC := fun sz => pX Z (cX Z ad) (cX Z ad u) sz ex) hl0 (by decide +kernel) (Nat.le_of_ble_eq_true rfl) ?_
  intro p e s m args below meth c ls C htab hw hl
  have hl : lv_has ls 2 [(0, .ref (ad 0)), (1, .int (p1))] := hl
  unfold q_X_needPicture at h
  refine lv_iload_n C.2.1 C.2.2.1 d_X_needPicture_0 rfl (lv_at hl 1 rfl) ?_
  refine lv_if_lt (tgt := 12) C.2.1 C.2.2.1 d_X_needPicture_1 (by decide) (fun c => ?_) (fun c => ?_)
  · have h := h.1 c
    exact w_X_needPicture_12 C htab  _ _ _ _ hw (lv_sub hl [] rfl) h
  · have h := h.2 c
    refine lv_iload_n C.2.1 C.2.2.1 d_X_needPicture_4 rfl (lv_at hl 1 rfl) ?_
    refine lv_aload_n C.2.1 C.2.2.1 d_X_needPicture_5 rfl (lv_at hl 0 rfl) ?_
    refine r_X_13 C hw d_X_needPicture_6 ?_
    refine lv_icmp_lt (tgt := 22) C.2.1 C.2.2.1 d_X_needPicture_9 (by decide) (fun c => ?_) (fun c => ?_)
    · have h := h.1 c
      exact g_vret C hw h d_X_needPicture_22
    · have h := h.2 c
      exact w_X_needPicture_12 C htab  _ _ _ _ hw (lv_sub hl [] rfl) h
section KR
variable {own host : String} {cc bytes : ByteArray} {nL maxL index n : Nat} {rt0 rt : Option FieldType} {Z : ZT} {ad : Nat → Nat} {A : Nat → Prop}
variable {p : Program} {l : Launch} {e : Env} {R : Room} {s : State} {m : MethodId} {args : Array Value} {below : List Frame} {meth : Method} {c : Code} {H : Heap} {locs : List Loc} {cells slots : Nat} {Q : State → Prop} {rest : List Value} {pc : Nat} {ls : Array Slot}
theorem k_X_106 {u : CT} {p1 : Int32} {post : CT → Prop} {ex : String → CT → Prop} (C : CX "CoderTables" cc nL rt0 Z A p l s m args meth c) (hw : WD Z A s (cX Z ad u) H locs) (h : q_X_needPicture p1 u post ex) (hR : rmOk rm_X_needPicture 2 R cells slots) (hl : ls.size = nL) (hW : (rest.map fun v => v.category).sum ≤ 8) (hdg : decode cc pc = .ok (.invokevirtual 106, 3)) (kx : ∀ (E : String) (u' : CT) (q9 : Addr) (ce : Cell) (H1 : Heap) (locs1 : List Loc), ex E u' → WD Z A s (cX Z ad u') H1 locs1 → H1[q9]? = some ce → ce.vm = .none → s.vm.findClass E = some ce.cls → vx_W p l e R s m args below meth c H1 locs1 (cells + rm_X_needPicture.cells) (slots + rm_X_needPicture.slots) Q (F0 m pc ls rest) q9) (kk : ∀ (u' : CT) (H1 : Heap) (locs1 : List Loc), post u' → WD Z A s (cX Z ad u') H1 locs1 → W p l e R s m args below meth c H1 locs1 cells slots Q (F0 m (pc + 3) ls (rest))) : W p l e R s m args below meth c H locs cells slots Q (F0 m pc ls (.int (p1) :: .ref (ad 0) :: rest)) :=
  g_V0_v (f := cX Z ad) (As := [.int (p1)]) C hw (c_X_needPicture C.1 h) ⟨w351, w353, w18, w53, w354, (by decide +kernel), (by decide +kernel), (by decide +kernel)⟩ hR 0 rfl rfl rfl hl rfl hW hdg kx kk
end KR
/-! CoderTables.pairOf(II)I -/
abbrev rm_X_pairOf : Room := { frames := 7, cells := 1, slots := 6, locals := 111 }
def q_X_pairOf (p1 : Int32) (p2 : Int32) (u : CT) (post : Int32 → CT → Prop) (ex : String → CT → Prop) : Prop :=
  q_X_needCoder (p1) (u) (fun u2 => q_X_needPicture (p2) (u2) (fun u4 => post (((p1) * (((24) : Int32))) + (p2)) (u4)) ex) ex
set_option maxRecDepth 100000 in
theorem c_X_pairOf {l : Launch} {Z : ZT} {ad : Nat → Nat} {u : CT} {post : Int32 → CT → Prop} {ex : String → CT → Prop} {p1 : Int32} {p2 : Int32} (hl0 : l.stackTraces = false) (h : q_X_pairOf p1 p2 u post ex) : ∀ sz, vx_Met l y_X_pairOf (Cond.code y_X_pairOf b_X_pairOf 3 (some .int) :: GW) rm_X_pairOf (pP Z [.ref (ad 0), .int (p1), .int (p2)] (cX Z ad u) sz) (pQi Z (cX Z ad) (cX Z ad u) sz post) (pX Z (cX Z ad) (cX Z ad u) sz ex) 0 0 rm_X_pairOf.cells rm_X_pairOf.slots (va_A (cX Z ad u) sz) := by
  refine g_ent (f := cX Z ad) (Qc := fun sz => pQi Z (cX Z ad) (cX Z ad u) sz post) (XC := fun sz => pX Z (cX Z ad) (cX Z ad u) sz ex) hl0 (by decide +kernel) (Nat.le_of_ble_eq_true rfl) ?_
  intro p e s m args below meth c ls C htab hw hl
  have hl : lv_has ls 3 [(0, .ref (ad 0)), (1, .int (p1)), (2, .int (p2))] := hl
  unfold q_X_pairOf at h
  refine lv_aload_n C.2.1 C.2.2.1 d_X_pairOf_0 rfl (lv_at hl 0 rfl) ?_
  refine lv_iload_n C.2.1 C.2.2.1 d_X_pairOf_1 rfl (lv_at hl 1 rfl) ?_
  refine k_X_114 C hw h ⟨Nat.le_of_ble_eq_true rfl, Nat.le_of_ble_eq_true rfl, Nat.le_of_ble_eq_true rfl, Nat.le_of_ble_eq_true rfl⟩ hl.1 (Nat.le_of_ble_eq_true rfl) d_X_pairOf_2 (fun _ _ _ _ _ _ he hw h1 h2 h3 => g_out C htab hw he h1 h2 h3 (Nat.le_of_ble_eq_true rfl) (Nat.le_of_ble_eq_true rfl)) (fun u2 H locs h hw => ?_)
  refine lv_aload_n C.2.1 C.2.2.1 d_X_pairOf_5 rfl (lv_at hl 0 rfl) ?_
  refine lv_iload_n C.2.1 C.2.2.1 d_X_pairOf_6 rfl (lv_at hl 2 rfl) ?_
  refine k_X_106 C hw h ⟨Nat.le_of_ble_eq_true rfl, Nat.le_of_ble_eq_true rfl, Nat.le_of_ble_eq_true rfl, Nat.le_of_ble_eq_true rfl⟩ hl.1 (Nat.le_of_ble_eq_true rfl) d_X_pairOf_7 (fun _ _ _ _ _ _ he hw h1 h2 h3 => g_out C htab hw he h1 h2 h3 (Nat.le_of_ble_eq_true rfl) (Nat.le_of_ble_eq_true rfl)) (fun u4 H locs h hw => ?_)
  refine lv_iload_n C.2.1 C.2.2.1 d_X_pairOf_10 rfl (lv_at hl 1 rfl) ?_
  refine lv_bipush (v := (24)) C.2.1 C.2.2.1 d_X_pairOf_11 (by decide) ?_
  refine lv_imul C.2.1 C.2.2.1 d_X_pairOf_13 ?_
  refine lv_iload_n C.2.1 C.2.2.1 d_X_pairOf_14 rfl (lv_at hl 2 rfl) ?_
  refine lv_iadd C.2.1 C.2.2.1 d_X_pairOf_15 ?_
  exact g_iret C hw rfl h d_X_pairOf_16
section KR
variable {own host : String} {cc bytes : ByteArray} {nL maxL index n : Nat} {rt0 rt : Option FieldType} {Z : ZT} {ad : Nat → Nat} {A : Nat → Prop}
variable {p : Program} {l : Launch} {e : Env} {R : Room} {s : State} {m : MethodId} {args : Array Value} {below : List Frame} {meth : Method} {c : Code} {H : Heap} {locs : List Loc} {cells slots : Nat} {Q : State → Prop} {rest : List Value} {pc : Nat} {ls : Array Slot}
theorem k_X_70 {u : CT} {p1 : Int32} {p2 : Int32} {post : Int32 → CT → Prop} {ex : String → CT → Prop} (C : CX "CoderTables" cc nL rt0 Z A p l s m args meth c) (hw : WD Z A s (cX Z ad u) H locs) (h : q_X_pairOf p1 p2 u post ex) (hR : rmOk rm_X_pairOf 3 R cells slots) (hl : ls.size = nL) (hW : (rest.map fun v => v.category).sum ≤ 8) (hdg : decode cc pc = .ok (.invokevirtual 70, 3)) (kx : ∀ (E : String) (u' : CT) (q9 : Addr) (ce : Cell) (H1 : Heap) (locs1 : List Loc), ex E u' → WD Z A s (cX Z ad u') H1 locs1 → H1[q9]? = some ce → ce.vm = .none → s.vm.findClass E = some ce.cls → vx_W p l e R s m args below meth c H1 locs1 (cells + rm_X_pairOf.cells) (slots + rm_X_pairOf.slots) Q (F0 m pc ls rest) q9) (kk : ∀ (r : Int32) (u' : CT) (H1 : Heap) (locs1 : List Loc), post r u' → WD Z A s (cX Z ad u') H1 locs1 → W p l e R s m args below meth c H1 locs1 cells slots Q (F0 m (pc + 3) ls (.int r :: rest))) : W p l e R s m args below meth c H locs cells slots Q (F0 m pc ls (.int (p2) :: .int (p1) :: .ref (ad 0) :: rest)) :=
  g_V0_i (f := cX Z ad) (As := [.int (p1), .int (p2)]) C hw (c_X_pairOf C.1 h) ⟨w327, w329, w16, w53, w330, (by decide +kernel), (by decide +kernel), (by decide +kernel)⟩ hR 0 rfl rfl rfl hl rfl hW hdg kx kk
end KR
/-! CoderTables.addPoint(III)V -/
abbrev rm_X_addPoint : Room := { frames := 0, cells := 0, slots := 0, locals := 0 }
def q_X_addPoint_68 (x1 : Int32) (x4 : Int32) (u : CT) (post : CT → Prop) : Prop :=
  (vp_in (x1) 192 ∧ post (x_pointCounts_s (u) (upd (x_pointCounts (u)) (x1).toNatClampNeg ((x4) + (((1) : Int32))))))
set_option maxRecDepth 100000 in
theorem w_X_addPoint_68 {p : Program} {l : Launch} {e : Env} {s : State} {m : MethodId} {args : Array Value} {below : List Frame} {meth : Method} {c : Code} {Z : ZT} {ad : Nat → Nat} {u0 : CT} {post : CT → Prop} (C : CX "CoderTables" b_X_addPoint 6 none Z (va_A (cX Z ad u0) s.heap.size) p l s m args meth c) (htab : ∀ x ∈ c.exceptionTable.toList, False) (x1 : Int32) (x4 : Int32) (u : CT) (H : Heap) (locs : List Loc) (ls : Array Slot) (hw : WD Z (va_A (cX Z ad u0) s.heap.size) s (cX Z ad u) H locs) (hl : lv_has ls 6 [(0, .ref (ad 0)), (1, .int (x1)), (4, .int (x4))]) (h : q_X_addPoint_68 x1 x4 u post) : W p l e rm_X_addPoint s m args below meth c H locs 0 0 (vx_MQ below (pQv Z (cX Z ad) (cX Z ad u0) s.heap.size post) (pX Z (cX Z ad) (cX Z ad u0) s.heap.size (fun _ _ => False)) args s 0 0 rm_X_addPoint.cells rm_X_addPoint.slots (va_A (cX Z ad u0) s.heap.size)) (F0 m 68 ls []) := by
  unfold q_X_addPoint_68 at h
  refine lv_aload_n C.2.1 C.2.2.1 d_X_addPoint_68 rfl (lv_at hl 0 rfl) ?_
  refine r_X_16 C hw d_X_addPoint_69 ?_
  refine lv_iload_n C.2.1 C.2.2.1 d_X_addPoint_72 rfl (lv_at hl 1 rfl) ?_
  refine lv_iload C.2.1 C.2.2.1 d_X_addPoint_73 (lv_at hl 2 rfl) ?_
  refine lv_iconst (v := (1)) C.2.1 C.2.2.1 d_X_addPoint_75 (by decide) ?_
  refine lv_iadd C.2.1 C.2.2.1 d_X_addPoint_76 ?_
  obtain ⟨hi, h⟩ := h
  refine as_X_1 C hw hi d_X_addPoint_77 (fun H locs hw => ?_)
  exact g_vret C hw h d_X_addPoint_78
def q_X_addPoint_61 (x1 : Int32) (x2 : Int32) (x4 : Int32) (u : CT) (post : CT → Prop) : Prop :=
  (vp_in (x1) 192 ∧ q_X_addPoint_68 (x1) (x4) (x_leastBytes_s (u) (upd (x_leastBytes (u)) (x1).toNatClampNeg (x2))) post)
set_option maxRecDepth 100000 in
theorem w_X_addPoint_61 {p : Program} {l : Launch} {e : Env} {s : State} {m : MethodId} {args : Array Value} {below : List Frame} {meth : Method} {c : Code} {Z : ZT} {ad : Nat → Nat} {u0 : CT} {post : CT → Prop} (C : CX "CoderTables" b_X_addPoint 6 none Z (va_A (cX Z ad u0) s.heap.size) p l s m args meth c) (htab : ∀ x ∈ c.exceptionTable.toList, False) (x1 : Int32) (x2 : Int32) (x4 : Int32) (u : CT) (H : Heap) (locs : List Loc) (ls : Array Slot) (hw : WD Z (va_A (cX Z ad u0) s.heap.size) s (cX Z ad u) H locs) (hl : lv_has ls 6 [(0, .ref (ad 0)), (1, .int (x1)), (2, .int (x2)), (4, .int (x4))]) (h : q_X_addPoint_61 x1 x2 x4 u post) : W p l e rm_X_addPoint s m args below meth c H locs 0 0 (vx_MQ below (pQv Z (cX Z ad) (cX Z ad u0) s.heap.size post) (pX Z (cX Z ad) (cX Z ad u0) s.heap.size (fun _ _ => False)) args s 0 0 rm_X_addPoint.cells rm_X_addPoint.slots (va_A (cX Z ad u0) s.heap.size)) (F0 m 61 ls []) := by
  unfold q_X_addPoint_61 at h
  refine lv_aload_n C.2.1 C.2.2.1 d_X_addPoint_61 rfl (lv_at hl 0 rfl) ?_
  refine r_X_20 C hw d_X_addPoint_62 ?_
  refine lv_iload_n C.2.1 C.2.2.1 d_X_addPoint_65 rfl (lv_at hl 1 rfl) ?_
  refine lv_iload_n C.2.1 C.2.2.1 d_X_addPoint_66 rfl (lv_at hl 2 rfl) ?_
  obtain ⟨hi, h⟩ := h
  refine as_X_2 C hw hi d_X_addPoint_67 (fun H locs hw => ?_)
  exact w_X_addPoint_68 C htab (x1) (x4) _ _ _ _ hw (lv_sub hl [0, 1, 3] rfl) h
def q_X_addPoint (p1 : Int32) (p2 : Int32) (p3 : Int32) (u : CT) (post : CT → Prop) : Prop :=
  (vp_in (p1) 192 ∧ (((x_pointCounts (u) (p1).toNatClampNeg) < 0 → post (u)) ∧ (¬ (x_pointCounts (u) (p1).toNatClampNeg) < 0 → (((x_pointCounts (u) (p1).toNatClampNeg) < (((6) : Int32)) → (vp_in (((p1) * (((6) : Int32))) + (x_pointCounts (u) (p1).toNatClampNeg)) 1152 ∧ (vp_in (((p1) * (((6) : Int32))) + (x_pointCounts (u) (p1).toNatClampNeg)) 1152 ∧ (((x_pointCounts (u) (p1).toNatClampNeg) = 0 → q_X_addPoint_61 (p1) (p2) (x_pointCounts (u) (p1).toNatClampNeg) (x_pointErrors_s (x_pointBytes_s (u) (upd (x_pointBytes (u)) (((p1) * (((6) : Int32))) + (x_pointCounts (u) (p1).toNatClampNeg)).toNatClampNeg (p2))) (upd (x_pointErrors (x_pointBytes_s (u) (upd (x_pointBytes (u)) (((p1) * (((6) : Int32))) + (x_pointCounts (u) (p1).toNatClampNeg)).toNatClampNeg (p2)))) (((p1) * (((6) : Int32))) + (x_pointCounts (u) (p1).toNatClampNeg)).toNatClampNeg (p3))) post) ∧ (¬ (x_pointCounts (u) (p1).toNatClampNeg) = 0 → (vp_in (p1) 192 ∧ (((x_leastBytes (x_pointErrors_s (x_pointBytes_s (u) (upd (x_pointBytes (u)) (((p1) * (((6) : Int32))) + (x_pointCounts (u) (p1).toNatClampNeg)).toNatClampNeg (p2))) (upd (x_pointErrors (x_pointBytes_s (u) (upd (x_pointBytes (u)) (((p1) * (((6) : Int32))) + (x_pointCounts (u) (p1).toNatClampNeg)).toNatClampNeg (p2)))) (((p1) * (((6) : Int32))) + (x_pointCounts (u) (p1).toNatClampNeg)).toNatClampNeg (p3))) (p1).toNatClampNeg) ≤ (p2) → q_X_addPoint_68 (p1) (x_pointCounts (u) (p1).toNatClampNeg) (x_pointErrors_s (x_pointBytes_s (u) (upd (x_pointBytes (u)) (((p1) * (((6) : Int32))) + (x_pointCounts (u) (p1).toNatClampNeg)).toNatClampNeg (p2))) (upd (x_pointErrors (x_pointBytes_s (u) (upd (x_pointBytes (u)) (((p1) * (((6) : Int32))) + (x_pointCounts (u) (p1).toNatClampNeg)).toNatClampNeg (p2)))) (((p1) * (((6) : Int32))) + (x_pointCounts (u) (p1).toNatClampNeg)).toNatClampNeg (p3))) post) ∧ (¬ (x_leastBytes (x_pointErrors_s (x_pointBytes_s (u) (upd (x_pointBytes (u)) (((p1) * (((6) : Int32))) + (x_pointCounts (u) (p1).toNatClampNeg)).toNatClampNeg (p2))) (upd (x_pointErrors (x_pointBytes_s (u) (upd (x_pointBytes (u)) (((p1) * (((6) : Int32))) + (x_pointCounts (u) (p1).toNatClampNeg)).toNatClampNeg (p2)))) (((p1) * (((6) : Int32))) + (x_pointCounts (u) (p1).toNatClampNeg)).toNatClampNeg (p3))) (p1).toNatClampNeg) ≤ (p2) → q_X_addPoint_61 (p1) (p2) (x_pointCounts (u) (p1).toNatClampNeg) (x_pointErrors_s (x_pointBytes_s (u) (upd (x_pointBytes (u)) (((p1) * (((6) : Int32))) + (x_pointCounts (u) (p1).toNatClampNeg)).toNatClampNeg (p2))) (upd (x_pointErrors (x_pointBytes_s (u) (upd (x_pointBytes (u)) (((p1) * (((6) : Int32))) + (x_pointCounts (u) (p1).toNatClampNeg)).toNatClampNeg (p2)))) (((p1) * (((6) : Int32))) + (x_pointCounts (u) (p1).toNatClampNeg)).toNatClampNeg (p3))) post)))))))) ∧ (¬ (x_pointCounts (u) (p1).toNatClampNeg) < (((6) : Int32)) → post (u))))))
set_option maxRecDepth 100000 in
theorem c_X_addPoint {l : Launch} {Z : ZT} {ad : Nat → Nat} {u : CT} {post : CT → Prop} {p1 : Int32} {p2 : Int32} {p3 : Int32} (hl0 : l.stackTraces = false) (h : q_X_addPoint p1 p2 p3 u post) : ∀ sz, vx_Met l y_X_addPoint (Cond.code y_X_addPoint b_X_addPoint 6 none :: GW) rm_X_addPoint (pP Z [.ref (ad 0), .int (p1), .int (p2), .int (p3)] (cX Z ad u) sz) (pQv Z (cX Z ad) (cX Z ad u) sz post) (pX Z (cX Z ad) (cX Z ad u) sz (fun _ _ => False)) 0 0 rm_X_addPoint.cells rm_X_addPoint.slots (va_A (cX Z ad u) sz) := by
  refine g_ent (f := cX Z ad) (Qc := fun sz => pQv Z (cX Z ad) (cX Z ad u) sz post) (XC := fun sz => pX Z (cX Z ad) (cX Z ad u) sz (fun _ _ => False)) hl0 (by decide +kernel) (Nat.le_of_ble_eq_true rfl) ?_
  intro p e s m args below meth c ls C htab hw hl
  have hl : lv_has ls 6 [(0, .ref (ad 0)), (1, .int (p1)), (2, .int (p2)), (3, .int (p3))] := hl
  unfold q_X_addPoint at h
  refine lv_aload_n C.2.1 C.2.2.1 d_X_addPoint_0 rfl (lv_at hl 0 rfl) ?_
  refine r_X_16 C hw d_X_addPoint_1 ?_
  refine lv_iload_n C.2.1 C.2.2.1 d_X_addPoint_4 rfl (lv_at hl 1 rfl) ?_
  obtain ⟨hi, h⟩ := h
  refine al_X_1 C hw hi d_X_addPoint_5 ?_
  refine lv_istore (lv' := [(4, .int (x_pointCounts (u) (p1).toNatClampNeg)), (0, .ref (ad 0)), (1, .int (p1)), (2, .int (p2)), (3, .int (p3))]) C.2.1 C.2.2.1 d_X_addPoint_6 hl (by decide) rfl (fun ls hl => ?_)
  refine lv_iload C.2.1 C.2.2.1 d_X_addPoint_8 (lv_at hl 0 rfl) ?_
  refine lv_if_lt (tgt := 20) C.2.1 C.2.2.1 d_X_addPoint_10 (by decide) (fun c => ?_) (fun c => ?_)
  · have h := h.1 c
    exact g_vret C hw h d_X_addPoint_20
  · have h := h.2 c
    refine lv_iload C.2.1 C.2.2.1 d_X_addPoint_13 (lv_at hl 0 rfl) ?_
    refine lv_bipush (v := (6)) C.2.1 C.2.2.1 d_X_addPoint_15 (by decide) ?_
    refine lv_icmp_lt (tgt := 21) C.2.1 C.2.2.1 d_X_addPoint_17 (by decide) (fun c => ?_) (fun c => ?_)
    · have h := h.1 c
      refine lv_iload_n C.2.1 C.2.2.1 d_X_addPoint_21 rfl (lv_at hl 2 rfl) ?_
      refine lv_bipush (v := (6)) C.2.1 C.2.2.1 d_X_addPoint_22 (by decide) ?_
      refine lv_imul C.2.1 C.2.2.1 d_X_addPoint_24 ?_
      refine lv_iload C.2.1 C.2.2.1 d_X_addPoint_25 (lv_at hl 0 rfl) ?_
      refine lv_iadd C.2.1 C.2.2.1 d_X_addPoint_27 ?_
      refine lv_istore (lv' := [(5, .int (((p1) * (((6) : Int32))) + (x_pointCounts (u) (p1).toNatClampNeg))), (4, .int (x_pointCounts (u) (p1).toNatClampNeg)), (0, .ref (ad 0)), (1, .int (p1)), (2, .int (p2)), (3, .int (p3))]) C.2.1 C.2.2.1 d_X_addPoint_28 hl (by decide) rfl (fun ls hl => ?_)
      refine lv_aload_n C.2.1 C.2.2.1 d_X_addPoint_30 rfl (lv_at hl 2 rfl) ?_
      refine r_X_23 C hw d_X_addPoint_31 ?_
      refine lv_iload C.2.1 C.2.2.1 d_X_addPoint_34 (lv_at hl 0 rfl) ?_
      refine lv_iload_n C.2.1 C.2.2.1 d_X_addPoint_36 rfl (lv_at hl 4 rfl) ?_
      obtain ⟨hi, h⟩ := h
      refine as_X_3 C hw hi d_X_addPoint_37 (fun H locs hw => ?_)
      refine lv_aload_n C.2.1 C.2.2.1 d_X_addPoint_38 rfl (lv_at hl 2 rfl) ?_
      refine r_X_26 C hw d_X_addPoint_39 ?_
      refine lv_iload C.2.1 C.2.2.1 d_X_addPoint_42 (lv_at hl 0 rfl) ?_
      refine lv_iload_n C.2.1 C.2.2.1 d_X_addPoint_44 rfl (lv_at hl 5 rfl) ?_
      obtain ⟨hi, h⟩ := h
      refine as_X_4 C hw hi d_X_addPoint_45 (fun H locs hw => ?_)
      refine lv_iload C.2.1 C.2.2.1 d_X_addPoint_46 (lv_at hl 1 rfl) ?_
      refine lv_if_eq (tgt := 61) C.2.1 C.2.2.1 d_X_addPoint_48 (by decide) (fun c => ?_) (fun c => ?_)
      · have h := h.1 c
        exact w_X_addPoint_61 C htab (p1) (p2) (x_pointCounts (u) (p1).toNatClampNeg) _ _ _ _ hw (lv_sub hl [2, 3, 4, 1] rfl) h
      · have h := h.2 c
        refine lv_iload_n C.2.1 C.2.2.1 d_X_addPoint_51 rfl (lv_at hl 4 rfl) ?_
        refine lv_aload_n C.2.1 C.2.2.1 d_X_addPoint_52 rfl (lv_at hl 2 rfl) ?_
        refine r_X_20 C hw d_X_addPoint_53 ?_
        refine lv_iload_n C.2.1 C.2.2.1 d_X_addPoint_56 rfl (lv_at hl 3 rfl) ?_
        obtain ⟨hi, h⟩ := h
        refine al_X_2 C hw hi d_X_addPoint_57 ?_
        refine lv_icmp_ge (tgt := 68) C.2.1 C.2.2.1 d_X_addPoint_58 (by decide) (fun c => ?_) (fun c => ?_)
        · have h := h.1 c
          exact w_X_addPoint_68 C htab (p1) (x_pointCounts (u) (p1).toNatClampNeg) _ _ _ _ hw (lv_sub hl [2, 3, 1] rfl) h
        · have h := h.2 c
          exact w_X_addPoint_61 C htab (p1) (p2) (x_pointCounts (u) (p1).toNatClampNeg) _ _ _ _ hw (lv_sub hl [2, 3, 4, 1] rfl) h
    · have h := h.2 c
      exact g_vret C hw h d_X_addPoint_20
section KR
variable {own host : String} {cc bytes : ByteArray} {nL maxL index n : Nat} {rt0 rt : Option FieldType} {Z : ZT} {ad : Nat → Nat} {A : Nat → Prop}
variable {p : Program} {l : Launch} {e : Env} {R : Room} {s : State} {m : MethodId} {args : Array Value} {below : List Frame} {meth : Method} {c : Code} {H : Heap} {locs : List Loc} {cells slots : Nat} {Q : State → Prop} {rest : List Value} {pc : Nat} {ls : Array Slot}
theorem k_X_89 {u : CT} {p1 : Int32} {p2 : Int32} {p3 : Int32} {post : CT → Prop} (C : CX "CoderTables" cc nL rt0 Z A p l s m args meth c) (hw : WD Z A s (cX Z ad u) H locs) (h : q_X_addPoint p1 p2 p3 u post) (hR : rmOk rm_X_addPoint 6 R cells slots) (hl : ls.size = nL) (hW : (rest.map fun v => v.category).sum ≤ 8) (hdg : decode cc pc = .ok (.invokevirtual 89, 3)) (kk : ∀ (u' : CT) (H1 : Heap) (locs1 : List Loc), post u' → WD Z A s (cX Z ad u') H1 locs1 → W p l e R s m args below meth c H1 locs1 cells slots Q (F0 m (pc + 3) ls (rest))) : W p l e R s m args below meth c H locs cells slots Q (F0 m pc ls (.int (p3) :: .int (p2) :: .int (p1) :: .ref (ad 0) :: rest)) :=
  g_V0_v (f := cX Z ad) (As := [.int (p1), .int (p2), .int (p3)]) C hw (c_X_addPoint C.1 h) ⟨w174, w176, w5, w53, w177, (by decide +kernel), (by decide +kernel), (by decide +kernel)⟩ hR 0 rfl rfl rfl hl rfl hW hdg (fun _ _ _ _ _ _ h => h.elim) kk
end KR
/-! CoderTables.isCounted(I)Z -/
abbrev rm_X_isCounted : Room := { frames := 0, cells := 0, slots := 0, locals := 0 }
def q_X_isCounted (p1 : Int32) (u : CT) (post : Int32 → CT → Prop) : Prop :=
  (vp_in (p1) 192 ∧ (((x_pointCounts (u) (p1).toNatClampNeg) ≤ 0 → (narrow .boolean (.int (((0) : Int32))) = .int (((0) : Int32)) ∧ post (((0) : Int32)) (u))) ∧ (¬ (x_pointCounts (u) (p1).toNatClampNeg) ≤ 0 → (narrow .boolean (.int (((1) : Int32))) = .int (((1) : Int32)) ∧ post (((1) : Int32)) (u)))))
set_option maxRecDepth 100000 in
theorem c_X_isCounted {l : Launch} {Z : ZT} {ad : Nat → Nat} {u : CT} {post : Int32 → CT → Prop} {p1 : Int32} (hl0 : l.stackTraces = false) (h : q_X_isCounted p1 u post) : ∀ sz, vx_Met l y_X_isCounted (Cond.code y_X_isCounted b_X_isCounted 2 (some .boolean) :: GW) rm_X_isCounted (pP Z [.ref (ad 0), .int (p1)] (cX Z ad u) sz) (pQi Z (cX Z ad) (cX Z ad u) sz post) (pX Z (cX Z ad) (cX Z ad u) sz (fun _ _ => False)) 0 0 rm_X_isCounted.cells rm_X_isCounted.slots (va_A (cX Z ad u) sz) := by
  refine g_ent (f := cX Z ad) (Qc := fun sz => pQi Z (cX Z ad) (cX Z ad u) sz post) (XC := fun sz => pX Z (cX Z ad) (cX Z ad u) sz (fun _ _ => False)) hl0 (by decide +kernel) (Nat.le_of_ble_eq_true rfl) ?_
  intro p e s m args below meth c ls C htab hw hl
  have hl : lv_has ls 2 [(0, .ref (ad 0)), (1, .int (p1))] := hl
  unfold q_X_isCounted at h
  refine lv_aload_n C.2.1 C.2.2.1 d_X_isCounted_0 rfl (lv_at hl 0 rfl) ?_
  refine r_X_16 C hw d_X_isCounted_1 ?_
  refine lv_iload_n C.2.1 C.2.2.1 d_X_isCounted_4 rfl (lv_at hl 1 rfl) ?_
  obtain ⟨hi, h⟩ := h
  refine al_X_1 C hw hi d_X_isCounted_5 ?_
  refine lv_if_le (tgt := 13) C.2.1 C.2.2.1 d_X_isCounted_6 (by decide) (fun c => ?_) (fun c => ?_)
  · have h := h.1 c
    refine lv_iconst (v := (0)) C.2.1 C.2.2.1 d_X_isCounted_13 (by decide) ?_
    exact g_iret C hw h.1 h.2 d_X_isCounted_14
  · have h := h.2 c
    refine lv_iconst (v := (1)) C.2.1 C.2.2.1 d_X_isCounted_9 (by decide) ?_
    refine lv_goto (tgt := 14) C.2.1 C.2.2.1 d_X_isCounted_10 (by decide) ?_
    exact g_iret C hw h.1 h.2 d_X_isCounted_14
section KR
variable {own host : String} {cc bytes : ByteArray} {nL maxL index n : Nat} {rt0 rt : Option FieldType} {Z : ZT} {ad : Nat → Nat} {A : Nat → Prop}
variable {p : Program} {l : Launch} {e : Env} {R : Room} {s : State} {m : MethodId} {args : Array Value} {below : List Frame} {meth : Method} {c : Code} {H : Heap} {locs : List Loc} {cells slots : Nat} {Q : State → Prop} {rest : List Value} {pc : Nat} {ls : Array Slot}
theorem k_X_224 {u : CT} {p1 : Int32} {post : Int32 → CT → Prop} (C : CX "CoderTables" cc nL rt0 Z A p l s m args meth c) (hw : WD Z A s (cX Z ad u) H locs) (h : q_X_isCounted p1 u post) (hR : rmOk rm_X_isCounted 2 R cells slots) (hl : ls.size = nL) (hW : (rest.map fun v => v.category).sum ≤ 8) (hdg : decode cc pc = .ok (.invokevirtual 224, 3)) (kk : ∀ (r : Int32) (u' : CT) (H1 : Heap) (locs1 : List Loc), post r u' → WD Z A s (cX Z ad u') H1 locs1 → W p l e R s m args below meth c H1 locs1 cells slots Q (F0 m (pc + 3) ls (.int r :: rest))) : W p l e R s m args below meth c H locs cells slots Q (F0 m pc ls (.int (p1) :: .ref (ad 0) :: rest)) :=
  g_V0_i (f := cX Z ad) (As := [.int (p1)]) C hw (c_X_isCounted C.1 h) ⟨w201, w203, w10, w53, w204, (by decide +kernel), (by decide +kernel), (by decide +kernel)⟩ hR 0 rfl rfl rfl hl rfl hW hdg (fun _ _ _ _ _ _ h => h.elim) kk
end KR
/-! CoderTables.countedOf(I)I -/
abbrev rm_X_countedOf : Room := { frames := 1, cells := 0, slots := 0, locals := 21 }
def q_X_countedOf_28 (K4 : Int32 → Int32 → Int32 → CT → Prop) (x1 : Int32) (x2 : Int32) (x3 : Int32) (u : CT) (post : Int32 → CT → Prop) : Prop :=
  K4 (x1) (x2) ((x3) + 1) (u)
set_option maxRecDepth 100000 in
theorem w_X_countedOf_28 {p : Program} {l : Launch} {e : Env} {s : State} {m : MethodId} {args : Array Value} {below : List Frame} {meth : Method} {c : Code} {Z : ZT} {ad : Nat → Nat} {u0 : CT} {post : Int32 → CT → Prop} {K4 : Int32 → Int32 → Int32 → CT → Prop} (C : CX "CoderTables" b_X_countedOf 4 (some .int) Z (va_A (cX Z ad u0) s.heap.size) p l s m args meth c) (htab : ∀ x ∈ c.exceptionTable.toList, False) (hK4 : ∀ (x1 : Int32) (x2 : Int32) (x3 : Int32) (u : CT) (H : Heap) (locs : List Loc) (ls : Array Slot), K4 x1 x2 x3 u → WD Z (va_A (cX Z ad u0) s.heap.size) s (cX Z ad u) H locs → lv_has ls 4 [(0, .ref (ad 0)), (1, .int (x1)), (2, .int (x2)), (3, .int (x3))] → W p l e rm_X_countedOf s m args below meth c H locs 0 0 (vx_MQ below (pQi Z (cX Z ad) (cX Z ad u0) s.heap.size post) (pX Z (cX Z ad) (cX Z ad u0) s.heap.size (fun _ _ => False)) args s 0 0 rm_X_countedOf.cells rm_X_countedOf.slots (va_A (cX Z ad u0) s.heap.size)) (F0 m 4 ls [])) (x1 : Int32) (x2 : Int32) (x3 : Int32) (u : CT) (H : Heap) (locs : List Loc) (ls : Array Slot) (hw : WD Z (va_A (cX Z ad u0) s.heap.size) s (cX Z ad u) H locs) (hl : lv_has ls 4 [(0, .ref (ad 0)), (1, .int (x1)), (2, .int (x2)), (3, .int (x3))]) (h : q_X_countedOf_28 K4 x1 x2 x3 u post) : W p l e rm_X_countedOf s m args below meth c H locs 0 0 (vx_MQ below (pQi Z (cX Z ad) (cX Z ad u0) s.heap.size post) (pX Z (cX Z ad) (cX Z ad u0) s.heap.size (fun _ _ => False)) args s 0 0 rm_X_countedOf.cells rm_X_countedOf.slots (va_A (cX Z ad u0) s.heap.size)) (F0 m 28 ls []) := by
  unfold q_X_countedOf_28 at h
  refine lv_iinc (v := (x3) + 1) (lv' := [(3, .int ((x3) + 1)), (0, .ref (ad 0)), (1, .int (x1)), (2, .int (x2))]) C.2.1 C.2.2.1 d_X_countedOf_28 hl (k := 3) rfl rfl (by decide) rfl (fun ls hl => ?_)
  refine lv_goto (tgt := 4) C.2.1 C.2.2.1 d_X_countedOf_31 (by decide) ?_
  exact hK4 (x1) (x2) ((x3) + 1) _ _ _ _ h hw (lv_sub hl [1, 2, 3, 0] rfl)
def q_X_countedOf_4 (K4 : Int32 → Int32 → Int32 → CT → Prop) (x1 : Int32) (x2 : Int32) (x3 : Int32) (u : CT) (post : Int32 → CT → Prop) : Prop :=
  (((x_pictures (u)) ≤ (x3) → post (x2) (u)) ∧ (¬ (x_pictures (u)) ≤ (x3) → q_X_isCounted (((x1) * (((24) : Int32))) + (x3)) (u) (fun r1 u2 => (((r1) = 0 → q_X_countedOf_28 K4 (x1) (x2) (x3) (u2) post) ∧ (¬ (r1) = 0 → q_X_countedOf_28 K4 (x1) ((x2) + 1) (x3) (u2) post)))))
set_option maxRecDepth 100000 in
theorem w_X_countedOf_4 {p : Program} {l : Launch} {e : Env} {s : State} {m : MethodId} {args : Array Value} {below : List Frame} {meth : Method} {c : Code} {Z : ZT} {ad : Nat → Nat} {u0 : CT} {post : Int32 → CT → Prop} {K4 : Int32 → Int32 → Int32 → CT → Prop} (C : CX "CoderTables" b_X_countedOf 4 (some .int) Z (va_A (cX Z ad u0) s.heap.size) p l s m args meth c) (htab : ∀ x ∈ c.exceptionTable.toList, False) (hK4 : ∀ (x1 : Int32) (x2 : Int32) (x3 : Int32) (u : CT) (H : Heap) (locs : List Loc) (ls : Array Slot), K4 x1 x2 x3 u → WD Z (va_A (cX Z ad u0) s.heap.size) s (cX Z ad u) H locs → lv_has ls 4 [(0, .ref (ad 0)), (1, .int (x1)), (2, .int (x2)), (3, .int (x3))] → W p l e rm_X_countedOf s m args below meth c H locs 0 0 (vx_MQ below (pQi Z (cX Z ad) (cX Z ad u0) s.heap.size post) (pX Z (cX Z ad) (cX Z ad u0) s.heap.size (fun _ _ => False)) args s 0 0 rm_X_countedOf.cells rm_X_countedOf.slots (va_A (cX Z ad u0) s.heap.size)) (F0 m 4 ls [])) (x1 : Int32) (x2 : Int32) (x3 : Int32) (u : CT) (H : Heap) (locs : List Loc) (ls : Array Slot) (hw : WD Z (va_A (cX Z ad u0) s.heap.size) s (cX Z ad u) H locs) (hl : lv_has ls 4 [(0, .ref (ad 0)), (1, .int (x1)), (2, .int (x2)), (3, .int (x3))]) (h : q_X_countedOf_4 K4 x1 x2 x3 u post) : W p l e rm_X_countedOf s m args below meth c H locs 0 0 (vx_MQ below (pQi Z (cX Z ad) (cX Z ad u0) s.heap.size post) (pX Z (cX Z ad) (cX Z ad u0) s.heap.size (fun _ _ => False)) args s 0 0 rm_X_countedOf.cells rm_X_countedOf.slots (va_A (cX Z ad u0) s.heap.size)) (F0 m 4 ls []) := by
  unfold q_X_countedOf_4 at h
  refine lv_iload_n C.2.1 C.2.2.1 d_X_countedOf_4 rfl (lv_at hl 3 rfl) ?_
  refine lv_aload_n C.2.1 C.2.2.1 d_X_countedOf_5 rfl (lv_at hl 0 rfl) ?_
  refine r_X_13 C hw d_X_countedOf_6 ?_
  refine lv_icmp_ge (tgt := 34) C.2.1 C.2.2.1 d_X_countedOf_9 (by decide) (fun c => ?_) (fun c => ?_)
  · have h := h.1 c
    refine lv_iload_n C.2.1 C.2.2.1 d_X_countedOf_34 rfl (lv_at hl 2 rfl) ?_
    exact g_iret C hw rfl h d_X_countedOf_35
  · have h := h.2 c
    refine lv_aload_n C.2.1 C.2.2.1 d_X_countedOf_12 rfl (lv_at hl 0 rfl) ?_
    refine lv_iload_n C.2.1 C.2.2.1 d_X_countedOf_13 rfl (lv_at hl 1 rfl) ?_
    refine lv_bipush (v := (24)) C.2.1 C.2.2.1 d_X_countedOf_14 (by decide) ?_
    refine lv_imul C.2.1 C.2.2.1 d_X_countedOf_16 ?_
    refine lv_iload_n C.2.1 C.2.2.1 d_X_countedOf_17 rfl (lv_at hl 3 rfl) ?_
    refine lv_iadd C.2.1 C.2.2.1 d_X_countedOf_18 ?_
    refine k_X_224 C hw h ⟨Nat.le_of_ble_eq_true rfl, Nat.le_of_ble_eq_true rfl, Nat.le_of_ble_eq_true rfl, Nat.le_of_ble_eq_true rfl⟩ hl.1 (Nat.le_of_ble_eq_true rfl) d_X_countedOf_19 (fun r1 u2 H locs h hw => ?_)
    refine lv_if_eq (tgt := 28) C.2.1 C.2.2.1 d_X_countedOf_22 (by decide) (fun c => ?_) (fun c => ?_)
    · have h := h.1 c
      exact w_X_countedOf_28 C htab hK4 (x1) (x2) (x3) _ _ _ _ hw (lv_sub hl [0, 1, 2, 3] rfl) h
    · have h := h.2 c
      refine lv_iinc (v := (x2) + 1) (lv' := [(2, .int ((x2) + 1)), (0, .ref (ad 0)), (1, .int (x1)), (3, .int (x3))]) C.2.1 C.2.2.1 d_X_countedOf_25 hl (k := 2) rfl rfl (by decide) rfl (fun ls hl => ?_)
      exact w_X_countedOf_28 C htab hK4 (x1) ((x2) + 1) (x3) _ _ _ _ hw (lv_sub hl [1, 2, 0, 3] rfl) h
def q_X_countedOf_4N : Nat → Int32 → Int32 → Int32 → CT → (Int32 → CT → Prop) → Prop
  | 0 => fun _ _ _ _ _ => False
  | n + 1 => fun x1 x2 x3 u post => q_X_countedOf_4 (fun x1 x2 x3 u => q_X_countedOf_4N n x1 x2 x3 u post) x1 x2 x3 u post
theorem w_X_countedOf_4N {p : Program} {l : Launch} {e : Env} {s : State} {m : MethodId} {args : Array Value} {below : List Frame} {meth : Method} {c : Code} {Z : ZT} {ad : Nat → Nat} {u0 : CT} {post : Int32 → CT → Prop} (C : CX "CoderTables" b_X_countedOf 4 (some .int) Z (va_A (cX Z ad u0) s.heap.size) p l s m args meth c) (htab : ∀ x ∈ c.exceptionTable.toList, False) : ∀ (n : Nat) (x1 : Int32) (x2 : Int32) (x3 : Int32) (u : CT) (H : Heap) (locs : List Loc) (ls : Array Slot), WD Z (va_A (cX Z ad u0) s.heap.size) s (cX Z ad u) H locs → lv_has ls 4 [(0, .ref (ad 0)), (1, .int (x1)), (2, .int (x2)), (3, .int (x3))] → q_X_countedOf_4N n x1 x2 x3 u post → W p l e rm_X_countedOf s m args below meth c H locs 0 0 (vx_MQ below (pQi Z (cX Z ad) (cX Z ad u0) s.heap.size post) (pX Z (cX Z ad) (cX Z ad u0) s.heap.size (fun _ _ => False)) args s 0 0 rm_X_countedOf.cells rm_X_countedOf.slots (va_A (cX Z ad u0) s.heap.size)) (F0 m 4 ls []) := by
  intro n
  induction n with
  | zero => intro x1 x2 x3 u H locs ls hw hl h; exact h.elim
  | succ n ih => intro x1 x2 x3 u H locs ls hw hl h; exact w_X_countedOf_4 C htab (fun x1 x2 x3 u H locs ls h hw hl => ih x1 x2 x3 u H locs ls hw hl h) x1 x2 x3 u H locs ls hw hl h
def q_X_countedOf (p1 : Int32) (u : CT) (post : Int32 → CT → Prop) : Prop :=
  ∃ n, q_X_countedOf_4N n (p1) (((0) : Int32)) (((0) : Int32)) (u) post
set_option maxRecDepth 100000 in
theorem c_X_countedOf {l : Launch} {Z : ZT} {ad : Nat → Nat} {u : CT} {post : Int32 → CT → Prop} {p1 : Int32} (hl0 : l.stackTraces = false) (h : q_X_countedOf p1 u post) : ∀ sz, vx_Met l y_X_countedOf (Cond.code y_X_countedOf b_X_countedOf 4 (some .int) :: GW) rm_X_countedOf (pP Z [.ref (ad 0), .int (p1)] (cX Z ad u) sz) (pQi Z (cX Z ad) (cX Z ad u) sz post) (pX Z (cX Z ad) (cX Z ad u) sz (fun _ _ => False)) 0 0 rm_X_countedOf.cells rm_X_countedOf.slots (va_A (cX Z ad u) sz) := by
  refine g_ent (f := cX Z ad) (Qc := fun sz => pQi Z (cX Z ad) (cX Z ad u) sz post) (XC := fun sz => pX Z (cX Z ad) (cX Z ad u) sz (fun _ _ => False)) hl0 (by decide +kernel) (Nat.le_of_ble_eq_true rfl) ?_
  intro p e s m args below meth c ls C htab hw hl
  have hl : lv_has ls 4 [(0, .ref (ad 0)), (1, .int (p1))] := hl
  unfold q_X_countedOf at h
  refine lv_iconst (v := (0)) C.2.1 C.2.2.1 d_X_countedOf_0 (by decide) ?_
  refine lv_istore_n (lv' := [(2, .int (((0) : Int32))), (0, .ref (ad 0)), (1, .int (p1))]) C.2.1 C.2.2.1 d_X_countedOf_1 rfl hl (by decide) rfl (fun ls hl => ?_)
  refine lv_iconst (v := (0)) C.2.1 C.2.2.1 d_X_countedOf_2 (by decide) ?_
  refine lv_istore_n (lv' := [(3, .int (((0) : Int32))), (2, .int (((0) : Int32))), (0, .ref (ad 0)), (1, .int (p1))]) C.2.1 C.2.2.1 d_X_countedOf_3 rfl hl (by decide) rfl (fun ls hl => ?_)
  obtain ⟨n, h⟩ := h
  exact w_X_countedOf_4N C htab n (p1) (((0) : Int32)) (((0) : Int32)) _ _ _ _ hw (lv_sub hl [2, 3, 1, 0] rfl) h
section KR
variable {own host : String} {cc bytes : ByteArray} {nL maxL index n : Nat} {rt0 rt : Option FieldType} {Z : ZT} {ad : Nat → Nat} {A : Nat → Prop}
variable {p : Program} {l : Launch} {e : Env} {R : Room} {s : State} {m : MethodId} {args : Array Value} {below : List Frame} {meth : Method} {c : Code} {H : Heap} {locs : List Loc} {cells slots : Nat} {Q : State → Prop} {rest : List Value} {pc : Nat} {ls : Array Slot}
theorem k_X_117 {u : CT} {p1 : Int32} {post : Int32 → CT → Prop} (C : CX "CoderTables" cc nL rt0 Z A p l s m args meth c) (hw : WD Z A s (cX Z ad u) H locs) (h : q_X_countedOf p1 u post) (hR : rmOk rm_X_countedOf 4 R cells slots) (hl : ls.size = nL) (hW : (rest.map fun v => v.category).sum ≤ 8) (hdg : decode cc pc = .ok (.invokevirtual 117, 3)) (kk : ∀ (r : Int32) (u' : CT) (H1 : Heap) (locs1 : List Loc), post r u' → WD Z A s (cX Z ad u') H1 locs1 → W p l e R s m args below meth c H1 locs1 cells slots Q (F0 m (pc + 3) ls (.int r :: rest))) : W p l e R s m args below meth c H locs cells slots Q (F0 m pc ls (.int (p1) :: .ref (ad 0) :: rest)) :=
  g_V0_i (f := cX Z ad) (As := [.int (p1)]) C hw (c_X_countedOf C.1 h) ⟨w197, w199, w9, w53, w200, (by decide +kernel), (by decide +kernel), (by decide +kernel)⟩ hR 0 rfl rfl rfl hl rfl hW hdg (fun _ _ _ _ _ _ h => h.elim) kk
end KR
