/-! ===== the law's helpers: methods with a table of their own ===== -/
abbrev oC (Z : ZT) (oa : Nat) (o : Nat → Int64) : Nat × va_E := (oa, .inl (Z.2.1 3, 1, .inr (.inl o)))
def fH (Z : ZT) (ad : Nat → Nat) (oa : Nat) (z : CT × (Nat → Int64)) : va_W := cX Z ad z.1 ++ [oC Z oa z.2]
def gH (own : String) (index : Nat) (y : MethodName) (bytes : ByteArray) (maxL : Nat) (rt : Option FieldType) (hh : List (Nat × Nat × Nat × Nat)) (n : Nat) : Prop :=
  Cond.methodLink own index y ∈ GW ∧ Cond.static y ∈ GW ∧ Cond.initialized y.cls ∈ GW ∧ Cond.codeWith y bytes maxL rt hh ∈ GW ∧ y.cls ≠ "java/lang/invoke/MethodHandle" ∧ y.cls ≠ "java/lang/invoke/VarHandle" ∧ (parseMethodDescriptor y.desc).map (fun d => d.parameters.length) = some n
theorem vin01 : vp_in (0 : Int32) 1 := by unfold vp_in; decide
section LWA
variable {σ : Type} {f : σ → va_W} {u : σ} {wr : va_W} {own : String} {cc bytes : ByteArray} {nL maxL index n : Nat} {rt0 rt : Option FieldType} {Z : ZT} {A : Nat → Prop} {hh : List (Nat × Nat × Nat × Nat)}
variable {p : Program} {l : Launch} {e : Env} {R : Room} {s : State} {m : MethodId} {args : Array Value} {below : List Frame} {meth : Method} {c : Code} {H : Heap} {locs : List Loc} {cells slots : Nat} {Q : State → Prop}
variable {y : MethodName} {rm : Room} {As rest st0 : List Value} {pc : Nat} {ls : Array Slot}
theorem g_H_i {post : Int32 → σ → Prop} (C : CX own cc nL rt0 Z A p l s m args meth c) (hw : WD Z A s (f u ++ wr) H locs)
    (hM : ∀ sz, Met l y (Cond.codeWith y bytes maxL rt hh :: GW) rm (pP Z As (f u) sz) (pQi Z f (f u) sz post) rm.cells rm.slots (va_A (f u) sz))
    (hg : gH own index y bytes maxL rt hh n) (hR : rmOk rm maxL R cells slots)
    (hn : As.length = n) (hl : ls.size = nL) (hst : st0 = As.reverse ++ rest) (hW : (rest.map fun v => v.category).sum ≤ 8) (hdg : decode cc pc = .ok (.invokestatic index, 3))
    (kk : ∀ (r : Int32) (u' : σ) (H1 : Heap) (locs1 : List Loc), post r u' → WD Z A s (f u' ++ wr) H1 locs1 → W p l e R s m args below meth c H1 locs1 (cells + rm.cells) (slots + rm.slots) Q (F0 m (pc + 3) ls (.int r :: rest))) : W p l e R s m args below meth c H locs cells slots Q (F0 m pc ls st0) := by
  obtain ⟨g1, g2, g4, g5, g6, g7, g8⟩ := hg
  obtain ⟨r1, r2, r3, r4⟩ := hR
  have hpre := g_pre C hw As
  have hF := o_free hw.2.1 hw.2.2 C.2.2.2.2.2.2.2.2.2.2
  have hgw := C.2.2.2.2.2.1
  subst hst
  refine va_calli (vx_runSW (As := As) (rest := rest) (hh := hh) ⟨C.2.1, C.2.2.1, C.2.2.2.1, C.2.2.2.2.1, hgw⟩ (hM H.size) ⟨⟨rfl, rfl, r1, r2, pay_in hgw (gw_cons g5), List.mem_cons_self⟩, hgw _ g5, hgw _ g4, ⟨g6, g7⟩, fun sig h => by rw [h] at g8; exact (Option.some.inj g8).symm, hgw _ g1, hgw _ g2⟩ ⟨pP_blind, hpre⟩ rfl hn hl rfl (lv_room hW) hdg ⟨r3, r4⟩) hw.2.2 (fun q _ h => hF q h) hF ?_
  intro r u' t H1 locs1 ht hvm hp hB hz hk hS1
  exact kk r u' H1 locs1 hp (g_join C hw ht hB hk hS1)
theorem g_entH {av : List Value} {Qc : Nat → Array Value → State → Outcome → State → Prop}
    (hl : l.stackTraces = false) (hy : plainName y.cls = true) (hav : (lg_sl av).length ≤ maxL)
    (body : ∀ (p : Program) (e : Env) (s : State) (m : MethodId) (args : Array Value) (below : List Frame) (meth : Method) (c : Code) (ls : Array Slot), CX y.cls bytes maxL rt Z (va_A (f u) s.heap.size) p l s m args meth c → c.exceptionTable.toList = tableOf hh → WD Z (va_A (f u) s.heap.size) s (f u) s.heap [] → lv_has ls maxL (lv_args 0 av) →
      W p l e rm s m args below meth c s.heap [] 0 0 (MQ below (Qc s.heap.size) args s rm.cells rm.slots (va_A (f u) s.heap.size)) (F0 m 0 ls [])) :
    ∀ sz, Met l y (Cond.codeWith y bytes maxL rt hh :: GW) rm (pP Z av (f u) sz) (Qc sz) rm.cells rm.slots (va_A (f u) sz) := by
  intro sz
  refine va_MetW (cc := bytes) (maxL := maxL) (ret := rt) (hh := hh) hy rfl ?_
  intro p e s m args below meth c s₁ B hml hv
  obtain ⟨rfl, hsz, hP, hK, hD0, hE⟩ := hv
  subst hsz
  have hts := atoms_spec (ws := Cond.codeWith y bytes maxL rt hh :: GW) B.pre
  have htab := vx_table (x := y) B (hts _ List.mem_cons_self)
  have hl9 := lv_entry av (n := maxL) hav
  rw [lg_entry_eq]
  exact body p e s m _ below meth c _ ⟨hl, B.exec, B.bytes, hml, findClass_of_methodNamed B.named, fun w h => hts w (List.mem_cons_of_mem _ h), B.returns, B.notSynchronized, hK, hE, fun q h => Or.inr h⟩ htab ⟨hP, hD0.self, va_S.rf⟩ hl9
theorem g_hret {u0 : σ} {v : Int32} {post : Int32 → σ → Prop} (C : CX own cc nL (some .int) Z (va_A (f u0) s.heap.size) p l s m args meth c) (hw : WD Z (va_A (f u0) s.heap.size) s (f u) H locs) (h : post v u) (hdg : decode cc pc = .ok (.ireturn, 1)) :
    W p l e R s m args below meth c H locs cells slots (MQ below (pQi Z f (f u0) s.heap.size post) args s cells slots (va_A (f u0) s.heap.size)) (F0 m pc ls [.int v]) :=
  W.zret C.2.1 C.2.2.1 C.2.2.2.2.2.2.1 rfl (fun t ht hW => ⟨⟨v, u, rfl, h, by rw [ht]; exact hw.1, hw.2.1⟩, hw.2.2.F ht⟩) hw.2.2.2.2 hdg C.2.2.2.2.2.2.2.1
theorem g_catch {E name : String} {ce : Cell} {q : Addr} {a b k t : Nat} (C : CX own cc nL rt0 Z A p l s m args meth c) (htab : c.exceptionTable.toList = tableOf hh) (i : Nat) (hi : hh[i]? = some (a, b, k, t)) (ha : a ≤ pc) (hb : pc < b) (ht0 : t ≠ 0)
    (hpass : ∀ z ∈ hh.take i, z.2.2.2 ≠ 0 ∧ ∃ nm : String, Cond.classLink own z.2.2.2 nm ∈ GW ∧ (E, nm) ∈ NC) (hlink : Cond.classLink own t name ∈ GW) (hcast : Cond.castable E name ∈ NG) (hcell : H[q]? = some ce) (hv : ce.vm = .none) (hcl : s.vm.findClass E = some ce.cls)
    (kk : W p l e R s m args below meth c H locs cells slots Q (F0 m k ls [.ref q])) : vx_W p l e R s m args below meth c H locs cells slots Q (F0 m pc ls rest) q := by
  have hgw := C.2.2.2.2.2.1
  have hEX := C.2.2.2.2.2.2.2.2.2.1
  have hlt := (List.getElem?_eq_some_iff.mp hi).1
  have hsp : hh = hh.take i ++ (a, b, k, t) :: hh.drop (i + 1) := by
    have h1 := (List.take_append_drop i hh).symm
    rw [List.drop_eq_getElem_cons hlt, (List.getElem?_eq_some_iff.mp hi).2] at h1
    exact h1
  refine vx_catch C.2.2.2.2.1 (tableOf (hh.take i)) ⟨a, b, k, t⟩ (tableOf (hh.drop (i + 1))) ?_ ?_ ?_ ht0 (hgw _ hlink) (va_Nw.use (NG_tab _ hcast) (hEX.1 _ hcast)) hcell hv hcl kk
  · rw [htab]
    conv => lhs; rw [hsp]
    simp [tableOf]
  · intro z hz
    simp only [tableOf, List.mem_map] at hz
    obtain ⟨w, hw, rfl⟩ := hz
    obtain ⟨h1, nm, h2, h3⟩ := hpass w hw
    exact Or.inr ⟨h1, nm, hgw _ h2, hEX.2.2.1 _ h3⟩
  · simp [covers, ha, hb]
end LWA
theorem W_x9 {p : Program} {l : Launch} {e : Env} {R : Room} {s : State} {m : MethodId} {args : Array Value} {below : List Frame} {meth : Method} {c : Code} {H : Heap} {locs : List Loc} {cells slots : Nat} {Q : State → Prop} {g : JFrame} {q : Addr} {k n : Nat} (h1 : cells ≤ k) (h2 : slots ≤ n) (kk : vx_W p l e R s m args below meth c H locs k n Q g q) : vx_W p l e R s m args below meth c H locs cells slots Q g q := vx_widen h1 h2 kk
abbrev rm_W_coder : Room := { frames := 7, cells := 1, slots := 6, locals := 110 }
abbrev hh_W_coder : List (Nat × Nat × Nat × Nat) := [(0, 8, 11, 13)]
def qh_W_coder (u : CT) (o : Nat → Int64) (post : Int32 → CT × (Nat → Int64) → Prop) : Prop :=
  q_X_coder u (fun r u' => post 0 (u', vp_updL o (0 : Int32).toNatClampNeg r.toInt64)) (fun E u' => (E = "java/lang/UnsupportedOperationException" ∧ post 1 (u', o)))
set_option maxRecDepth 100000 in
theorem ch_W_coder {l : Launch} {Z : ZT} {ad : Nat → Nat} {oa : Nat} {u : CT} {o : Nat → Int64} {post : Int32 → CT × (Nat → Int64) → Prop} (hl0 : l.stackTraces = false) (h : qh_W_coder u o post) : ∀ sz, Met l y_W_coder (Cond.codeWith y_W_coder b_W_coder 3 (some .int) hh_W_coder :: GW) rm_W_coder (pP Z [.ref (ad 0), .ref (oa)] (fH Z ad oa (u, o)) sz) (pQi Z (fH Z ad oa) (fH Z ad oa (u, o)) sz post) rm_W_coder.cells rm_W_coder.slots (va_A (fH Z ad oa (u, o)) sz) := by
  refine g_entH (f := fH Z ad oa) (Qc := fun sz => pQi Z (fH Z ad oa) (fH Z ad oa (u, o)) sz post) hl0 (by decide +kernel) (Nat.le_of_ble_eq_true rfl) ?_
  intro p e s m args below meth c ls C htab hw hl
  have hl : lv_has ls 3 [(0, .ref (ad 0)), (1, .ref (oa))] := hl
  unfold qh_W_coder at h
  refine lv_aload_n C.2.1 C.2.2.1 d_W_coder_0 rfl (lv_at hl 1 rfl) ?_
  refine lv_iconst (v := (0)) C.2.1 C.2.2.1 d_W_coder_1 (by decide) ?_
  refine lv_aload_n C.2.1 C.2.2.1 d_W_coder_2 rfl (lv_at hl 0 rfl) ?_
  refine g_V_i (n := 0) (f := cX Z ad) (u := u) (wr := [oC Z oa o]) (As := []) C hw (c_X_coder C.1 h) ⟨w236, w237, w238, w53, w239, (by decide +kernel), (by decide +kernel), (by decide +kernel)⟩ ⟨Nat.le_of_ble_eq_true rfl, Nat.le_of_ble_eq_true rfl, Nat.le_of_ble_eq_true rfl, Nat.le_of_ble_eq_true rfl⟩ 0 rfl rfl rfl hl.1 rfl (Nat.le_of_ble_eq_true rfl) d_W_coder_3 ?_ ?_
  · intro E u' q9 ce H locs he hw h1 h2 h3
    obtain ⟨rfl, he⟩ := he
    · refine W_x9 (k := 1) (n := 6) (Nat.le_of_ble_eq_true rfl) (Nat.le_of_ble_eq_true rfl) (g_catch C htab 0 rfl (by decide) (by decide) (by decide) (fun z hz => by simp at hz) w235 (by decide +kernel) h1 h2 h3 ?_)
      refine lv_astore_n (lv' := [(2, .ref (q9)), (0, .ref (ad 0)), (1, .ref (oa))]) C.2.1 C.2.2.1 d_W_coder_11 rfl hl (by decide) rfl (fun ls hl => ?_)
      refine lv_iconst (v := (1)) C.2.1 C.2.2.1 d_W_coder_12 (by decide) ?_
      exact g_hret (u := (u', o)) C hw he d_W_coder_13
  · intro r u' H locs hq hw
    refine lv_i2l C.2.1 C.2.2.1 d_W_coder_6 rfl ?_
    refine g_stl (k9 := 1) C hw 11 rfl vin01 d_W_coder_7 (fun H locs hw => ?_)
    have hw : WD Z _ s (fH Z ad oa (u', vp_updL o (0 : Int32).toNatClampNeg r.toInt64)) H locs := hw
    refine lv_goto (tgt := 14) C.2.1 C.2.2.1 d_W_coder_8 (by decide) ?_
    refine lv_iconst (v := (0)) C.2.1 C.2.2.1 d_W_coder_14 (by decide) ?_
    refine W.widen (k := 1) (n := 6) (Nat.le_of_ble_eq_true rfl) (Nat.le_of_ble_eq_true rfl) ?_
    exact g_hret (u := (u', vp_updL o (0 : Int32).toNatClampNeg r.toInt64)) C hw hq d_W_coder_15
abbrev rm_W_picture : Room := { frames := 7, cells := 1, slots := 6, locals := 110 }
abbrev hh_W_picture : List (Nat × Nat × Nat × Nat) := [(0, 8, 11, 13)]
def qh_W_picture (u : CT) (o : Nat → Int64) (post : Int32 → CT × (Nat → Int64) → Prop) : Prop :=
  q_X_picture u (fun r u' => post 0 (u', vp_updL o (0 : Int32).toNatClampNeg r.toInt64)) (fun E u' => (E = "java/lang/UnsupportedOperationException" ∧ post 1 (u', o)))
set_option maxRecDepth 100000 in
theorem ch_W_picture {l : Launch} {Z : ZT} {ad : Nat → Nat} {oa : Nat} {u : CT} {o : Nat → Int64} {post : Int32 → CT × (Nat → Int64) → Prop} (hl0 : l.stackTraces = false) (h : qh_W_picture u o post) : ∀ sz, Met l y_W_picture (Cond.codeWith y_W_picture b_W_picture 3 (some .int) hh_W_picture :: GW) rm_W_picture (pP Z [.ref (ad 0), .ref (oa)] (fH Z ad oa (u, o)) sz) (pQi Z (fH Z ad oa) (fH Z ad oa (u, o)) sz post) rm_W_picture.cells rm_W_picture.slots (va_A (fH Z ad oa (u, o)) sz) := by
  refine g_entH (f := fH Z ad oa) (Qc := fun sz => pQi Z (fH Z ad oa) (fH Z ad oa (u, o)) sz post) hl0 (by decide +kernel) (Nat.le_of_ble_eq_true rfl) ?_
  intro p e s m args below meth c ls C htab hw hl
  have hl : lv_has ls 3 [(0, .ref (ad 0)), (1, .ref (oa))] := hl
  unfold qh_W_picture at h
  refine lv_aload_n C.2.1 C.2.2.1 d_W_picture_0 rfl (lv_at hl 1 rfl) ?_
  refine lv_iconst (v := (0)) C.2.1 C.2.2.1 d_W_picture_1 (by decide) ?_
  refine lv_aload_n C.2.1 C.2.2.1 d_W_picture_2 rfl (lv_at hl 0 rfl) ?_
  refine g_V_i (n := 0) (f := cX Z ad) (u := u) (wr := [oC Z oa o]) (As := []) C hw (c_X_picture C.1 h) ⟨w312, w313, w314, w53, w315, (by decide +kernel), (by decide +kernel), (by decide +kernel)⟩ ⟨Nat.le_of_ble_eq_true rfl, Nat.le_of_ble_eq_true rfl, Nat.le_of_ble_eq_true rfl, Nat.le_of_ble_eq_true rfl⟩ 0 rfl rfl rfl hl.1 rfl (Nat.le_of_ble_eq_true rfl) d_W_picture_3 ?_ ?_
  · intro E u' q9 ce H locs he hw h1 h2 h3
    obtain ⟨rfl, he⟩ := he
    · refine W_x9 (k := 1) (n := 6) (Nat.le_of_ble_eq_true rfl) (Nat.le_of_ble_eq_true rfl) (g_catch C htab 0 rfl (by decide) (by decide) (by decide) (fun z hz => by simp at hz) w235 (by decide +kernel) h1 h2 h3 ?_)
      refine lv_astore_n (lv' := [(2, .ref (q9)), (0, .ref (ad 0)), (1, .ref (oa))]) C.2.1 C.2.2.1 d_W_picture_11 rfl hl (by decide) rfl (fun ls hl => ?_)
      refine lv_iconst (v := (1)) C.2.1 C.2.2.1 d_W_picture_12 (by decide) ?_
      exact g_hret (u := (u', o)) C hw he d_W_picture_13
  · intro r u' H locs hq hw
    refine lv_i2l C.2.1 C.2.2.1 d_W_picture_6 rfl ?_
    refine g_stl (k9 := 1) C hw 11 rfl vin01 d_W_picture_7 (fun H locs hw => ?_)
    have hw : WD Z _ s (fH Z ad oa (u', vp_updL o (0 : Int32).toNatClampNeg r.toInt64)) H locs := hw
    refine lv_goto (tgt := 14) C.2.1 C.2.2.1 d_W_picture_8 (by decide) ?_
    refine lv_iconst (v := (0)) C.2.1 C.2.2.1 d_W_picture_14 (by decide) ?_
    refine W.widen (k := 1) (n := 6) (Nat.le_of_ble_eq_true rfl) (Nat.le_of_ble_eq_true rfl) ?_
    exact g_hret (u := (u', vp_updL o (0 : Int32).toNatClampNeg r.toInt64)) C hw hq d_W_picture_15
abbrev rm_W_point : Room := { frames := 9, cells := 1, slots := 6, locals := 158 }
abbrev hh_W_point : List (Nat × Nat × Nat × Nat) := [(0, 14, 17, 22), (0, 14, 21, 24), (0, 14, 25, 26), (0, 14, 29, 13)]
def qh_W_point (p1 : Int32) (p2 : Int32) (p3 : Int32) (p4 : Int32) (u : CT) (o : Nat → Int64) (post : Int32 → CT × (Nat → Int64) → Prop) : Prop :=
  q_X_point p1 p2 p3 p4 u (fun r u' => post 0 (u', vp_updL o (0 : Int32).toNatClampNeg r.toInt64)) (fun E u' => (E = "java/lang/IndexOutOfBoundsException" ∧ post 1 (u', o)) ∨ (E = "java/lang/IllegalArgumentException" ∧ post 2 (u', o)) ∨ (E = "java/lang/IllegalStateException" ∧ post 3 (u', o)) ∨ (E = "java/lang/UnsupportedOperationException" ∧ post 4 (u', o)))
set_option maxRecDepth 100000 in
theorem ch_W_point {l : Launch} {Z : ZT} {ad : Nat → Nat} {oa : Nat} {u : CT} {o : Nat → Int64} {p1 : Int32} {p2 : Int32} {p3 : Int32} {p4 : Int32} {post : Int32 → CT × (Nat → Int64) → Prop} (hl0 : l.stackTraces = false) (h : qh_W_point p1 p2 p3 p4 u o post) : ∀ sz, Met l y_W_point (Cond.codeWith y_W_point b_W_point 7 (some .int) hh_W_point :: GW) rm_W_point (pP Z [.ref (ad 0), .int (p1), .int (p2), .int (p3), .int (p4), .ref (oa)] (fH Z ad oa (u, o)) sz) (pQi Z (fH Z ad oa) (fH Z ad oa (u, o)) sz post) rm_W_point.cells rm_W_point.slots (va_A (fH Z ad oa (u, o)) sz) := by
  refine g_entH (f := fH Z ad oa) (Qc := fun sz => pQi Z (fH Z ad oa) (fH Z ad oa (u, o)) sz post) hl0 (by decide +kernel) (Nat.le_of_ble_eq_true rfl) ?_
  intro p e s m args below meth c ls C htab hw hl
  have hl : lv_has ls 7 [(0, .ref (ad 0)), (1, .int (p1)), (2, .int (p2)), (3, .int (p3)), (4, .int (p4)), (5, .ref (oa))] := hl
  unfold qh_W_point at h
  refine lv_aload C.2.1 C.2.2.1 d_W_point_0 (lv_at hl 5 rfl) ?_
  refine lv_iconst (v := (0)) C.2.1 C.2.2.1 d_W_point_2 (by decide) ?_
  refine lv_aload_n C.2.1 C.2.2.1 d_W_point_3 rfl (lv_at hl 0 rfl) ?_
  refine lv_iload_n C.2.1 C.2.2.1 d_W_point_4 rfl (lv_at hl 1 rfl) ?_
  refine lv_iload_n C.2.1 C.2.2.1 d_W_point_5 rfl (lv_at hl 2 rfl) ?_
  refine lv_iload_n C.2.1 C.2.2.1 d_W_point_6 rfl (lv_at hl 3 rfl) ?_
  refine lv_iload C.2.1 C.2.2.1 d_W_point_7 (lv_at hl 4 rfl) ?_
  refine g_V_i (n := 4) (f := cX Z ad) (u := u) (wr := [oC Z oa o]) (As := [.int (p1), .int (p2), .int (p3), .int (p4)]) C hw (c_X_point C.1 h) ⟨w323, w324, w325, w53, w326, (by decide +kernel), (by decide +kernel), (by decide +kernel)⟩ ⟨Nat.le_of_ble_eq_true rfl, Nat.le_of_ble_eq_true rfl, Nat.le_of_ble_eq_true rfl, Nat.le_of_ble_eq_true rfl⟩ 0 rfl rfl rfl hl.1 rfl (Nat.le_of_ble_eq_true rfl) d_W_point_9 ?_ ?_
  · intro E u' q9 ce H locs he hw h1 h2 h3
    rcases he with ⟨rfl, he⟩ | ⟨rfl, he⟩ | ⟨rfl, he⟩ | ⟨rfl, he⟩
    · refine W_x9 (k := 1) (n := 6) (Nat.le_of_ble_eq_true rfl) (Nat.le_of_ble_eq_true rfl) (g_catch C htab 0 rfl (by decide) (by decide) (by decide) (fun z hz => by simp at hz) w320 (by decide +kernel) h1 h2 h3 ?_)
      refine lv_astore (lv' := [(6, .ref (q9)), (0, .ref (ad 0)), (1, .int (p1)), (2, .int (p2)), (3, .int (p3)), (4, .int (p4)), (5, .ref (oa))]) C.2.1 C.2.2.1 d_W_point_17 hl (by decide) rfl (fun ls hl => ?_)
      refine lv_iconst (v := (1)) C.2.1 C.2.2.1 d_W_point_19 (by decide) ?_
      exact g_hret (u := (u', o)) C hw he d_W_point_20
    · refine W_x9 (k := 1) (n := 6) (Nat.le_of_ble_eq_true rfl) (Nat.le_of_ble_eq_true rfl) (g_catch C htab 1 rfl (by decide) (by decide) (by decide) (fun z hz => by
      simp only [List.take, List.mem_cons, List.not_mem_nil, or_false] at hz
      rcases hz with rfl
      · exact ⟨by decide, "java/lang/IndexOutOfBoundsException", w320, by decide +kernel⟩) w321 (by decide +kernel) h1 h2 h3 ?_)
      refine lv_astore (lv' := [(6, .ref (q9)), (0, .ref (ad 0)), (1, .int (p1)), (2, .int (p2)), (3, .int (p3)), (4, .int (p4)), (5, .ref (oa))]) C.2.1 C.2.2.1 d_W_point_21 hl (by decide) rfl (fun ls hl => ?_)
      refine lv_iconst (v := (2)) C.2.1 C.2.2.1 d_W_point_23 (by decide) ?_
      exact g_hret (u := (u', o)) C hw he d_W_point_24
    · refine W_x9 (k := 1) (n := 6) (Nat.le_of_ble_eq_true rfl) (Nat.le_of_ble_eq_true rfl) (g_catch C htab 2 rfl (by decide) (by decide) (by decide) (fun z hz => by
      simp only [List.take, List.mem_cons, List.not_mem_nil, or_false] at hz
      rcases hz with rfl | rfl
      · exact ⟨by decide, "java/lang/IndexOutOfBoundsException", w320, by decide +kernel⟩
      · exact ⟨by decide, "java/lang/IllegalArgumentException", w321, by decide +kernel⟩) w322 (by decide +kernel) h1 h2 h3 ?_)
      refine lv_astore (lv' := [(6, .ref (q9)), (0, .ref (ad 0)), (1, .int (p1)), (2, .int (p2)), (3, .int (p3)), (4, .int (p4)), (5, .ref (oa))]) C.2.1 C.2.2.1 d_W_point_25 hl (by decide) rfl (fun ls hl => ?_)
      refine lv_iconst (v := (3)) C.2.1 C.2.2.1 d_W_point_27 (by decide) ?_
      exact g_hret (u := (u', o)) C hw he d_W_point_28
    · refine W_x9 (k := 1) (n := 6) (Nat.le_of_ble_eq_true rfl) (Nat.le_of_ble_eq_true rfl) (g_catch C htab 3 rfl (by decide) (by decide) (by decide) (fun z hz => by
      simp only [List.take, List.mem_cons, List.not_mem_nil, or_false] at hz
      rcases hz with rfl | rfl | rfl
      · exact ⟨by decide, "java/lang/IndexOutOfBoundsException", w320, by decide +kernel⟩
      · exact ⟨by decide, "java/lang/IllegalArgumentException", w321, by decide +kernel⟩
      · exact ⟨by decide, "java/lang/IllegalStateException", w322, by decide +kernel⟩) w235 (by decide +kernel) h1 h2 h3 ?_)
      refine lv_astore (lv' := [(6, .ref (q9)), (0, .ref (ad 0)), (1, .int (p1)), (2, .int (p2)), (3, .int (p3)), (4, .int (p4)), (5, .ref (oa))]) C.2.1 C.2.2.1 d_W_point_29 hl (by decide) rfl (fun ls hl => ?_)
      refine lv_iconst (v := (4)) C.2.1 C.2.2.1 d_W_point_31 (by decide) ?_
      exact g_hret (u := (u', o)) C hw he d_W_point_32
  · intro r u' H locs hq hw
    refine lv_i2l C.2.1 C.2.2.1 d_W_point_12 rfl ?_
    refine g_stl (k9 := 1) C hw 11 rfl vin01 d_W_point_13 (fun H locs hw => ?_)
    have hw : WD Z _ s (fH Z ad oa (u', vp_updL o (0 : Int32).toNatClampNeg r.toInt64)) H locs := hw
    refine lv_goto (tgt := 33) C.2.1 C.2.2.1 d_W_point_14 (by decide) ?_
    refine lv_iconst (v := (0)) C.2.1 C.2.2.1 d_W_point_33 (by decide) ?_
    refine W.widen (k := 1) (n := 6) (Nat.le_of_ble_eq_true rfl) (Nat.le_of_ble_eq_true rfl) ?_
    exact g_hret (u := (u', vp_updL o (0 : Int32).toNatClampNeg r.toInt64)) C hw hq d_W_point_34
abbrev rm_W_fails : Room := { frames := 9, cells := 1, slots := 6, locals := 157 }
abbrev hh_W_fails : List (Nat × Nat × Nat × Nat) := [(0, 10, 13, 22), (0, 10, 17, 26)]
def qh_W_fails (p1 : Int32) (p2 : Int32) (u : CT) (o : Nat → Int64) (post : Int32 → CT × (Nat → Int64) → Prop) : Prop :=
  q_X_fails p1 p2 u (fun r u' => post 0 (u', vp_updL o (0 : Int32).toNatClampNeg r.toInt64)) (fun E u' => (E = "java/lang/IndexOutOfBoundsException" ∧ post 1 (u', o)) ∨ (E = "java/lang/IllegalStateException" ∧ post 2 (u', o)))
set_option maxRecDepth 100000 in
theorem ch_W_fails {l : Launch} {Z : ZT} {ad : Nat → Nat} {oa : Nat} {u : CT} {o : Nat → Int64} {p1 : Int32} {p2 : Int32} {post : Int32 → CT × (Nat → Int64) → Prop} (hl0 : l.stackTraces = false) (h : qh_W_fails p1 p2 u o post) : ∀ sz, Met l y_W_fails (Cond.codeWith y_W_fails b_W_fails 5 (some .int) hh_W_fails :: GW) rm_W_fails (pP Z [.ref (ad 0), .int (p1), .int (p2), .ref (oa)] (fH Z ad oa (u, o)) sz) (pQi Z (fH Z ad oa) (fH Z ad oa (u, o)) sz post) rm_W_fails.cells rm_W_fails.slots (va_A (fH Z ad oa (u, o)) sz) := by
  refine g_entH (f := fH Z ad oa) (Qc := fun sz => pQi Z (fH Z ad oa) (fH Z ad oa (u, o)) sz post) hl0 (by decide +kernel) (Nat.le_of_ble_eq_true rfl) ?_
  intro p e s m args below meth c ls C htab hw hl
  have hl : lv_has ls 5 [(0, .ref (ad 0)), (1, .int (p1)), (2, .int (p2)), (3, .ref (oa))] := hl
  unfold qh_W_fails at h
  refine lv_aload_n C.2.1 C.2.2.1 d_W_fails_0 rfl (lv_at hl 3 rfl) ?_
  refine lv_iconst (v := (0)) C.2.1 C.2.2.1 d_W_fails_1 (by decide) ?_
  refine lv_aload_n C.2.1 C.2.2.1 d_W_fails_2 rfl (lv_at hl 0 rfl) ?_
  refine lv_iload_n C.2.1 C.2.2.1 d_W_fails_3 rfl (lv_at hl 1 rfl) ?_
  refine lv_iload_n C.2.1 C.2.2.1 d_W_fails_4 rfl (lv_at hl 2 rfl) ?_
  refine g_V_i (n := 2) (f := cX Z ad) (u := u) (wr := [oC Z oa o]) (As := [.int (p1), .int (p2)]) C hw (c_X_fails C.1 h) ⟨w394, w395, w396, w53, w397, (by decide +kernel), (by decide +kernel), (by decide +kernel)⟩ ⟨Nat.le_of_ble_eq_true rfl, Nat.le_of_ble_eq_true rfl, Nat.le_of_ble_eq_true rfl, Nat.le_of_ble_eq_true rfl⟩ 0 rfl rfl rfl hl.1 rfl (Nat.le_of_ble_eq_true rfl) d_W_fails_5 ?_ ?_
  · intro E u' q9 ce H locs he hw h1 h2 h3
    rcases he with ⟨rfl, he⟩ | ⟨rfl, he⟩
    · refine W_x9 (k := 1) (n := 6) (Nat.le_of_ble_eq_true rfl) (Nat.le_of_ble_eq_true rfl) (g_catch C htab 0 rfl (by decide) (by decide) (by decide) (fun z hz => by simp at hz) w320 (by decide +kernel) h1 h2 h3 ?_)
      refine lv_astore (lv' := [(4, .ref (q9)), (0, .ref (ad 0)), (1, .int (p1)), (2, .int (p2)), (3, .ref (oa))]) C.2.1 C.2.2.1 d_W_fails_13 hl (by decide) rfl (fun ls hl => ?_)
      refine lv_iconst (v := (1)) C.2.1 C.2.2.1 d_W_fails_15 (by decide) ?_
      exact g_hret (u := (u', o)) C hw he d_W_fails_16
    · refine W_x9 (k := 1) (n := 6) (Nat.le_of_ble_eq_true rfl) (Nat.le_of_ble_eq_true rfl) (g_catch C htab 1 rfl (by decide) (by decide) (by decide) (fun z hz => by
      simp only [List.take, List.mem_cons, List.not_mem_nil, or_false] at hz
      rcases hz with rfl
      · exact ⟨by decide, "java/lang/IndexOutOfBoundsException", w320, by decide +kernel⟩) w322 (by decide +kernel) h1 h2 h3 ?_)
      refine lv_astore (lv' := [(4, .ref (q9)), (0, .ref (ad 0)), (1, .int (p1)), (2, .int (p2)), (3, .ref (oa))]) C.2.1 C.2.2.1 d_W_fails_17 hl (by decide) rfl (fun ls hl => ?_)
      refine lv_iconst (v := (2)) C.2.1 C.2.2.1 d_W_fails_19 (by decide) ?_
      exact g_hret (u := (u', o)) C hw he d_W_fails_20
  · intro r u' H locs hq hw
    refine lv_i2l C.2.1 C.2.2.1 d_W_fails_8 rfl ?_
    refine g_stl (k9 := 1) C hw 11 rfl vin01 d_W_fails_9 (fun H locs hw => ?_)
    have hw : WD Z _ s (fH Z ad oa (u', vp_updL o (0 : Int32).toNatClampNeg r.toInt64)) H locs := hw
    refine lv_goto (tgt := 21) C.2.1 C.2.2.1 d_W_fails_10 (by decide) ?_
    refine lv_iconst (v := (0)) C.2.1 C.2.2.1 d_W_fails_21 (by decide) ?_
    refine W.widen (k := 1) (n := 6) (Nat.le_of_ble_eq_true rfl) (Nat.le_of_ble_eq_true rfl) ?_
    exact g_hret (u := (u', vp_updL o (0 : Int32).toNatClampNeg r.toInt64)) C hw hq d_W_fails_22
abbrev rm_W_failing : Room := { frames := 7, cells := 1, slots := 6, locals := 113 }
abbrev hh_W_failing : List (Nat × Nat × Nat × Nat) := [(0, 10, 13, 22), (0, 10, 17, 24)]
def qh_W_failing (p1 : Int32) (p2 : Int32) (u : CT) (o : Nat → Int64) (post : Int32 → CT × (Nat → Int64) → Prop) : Prop :=
  q_X_failing p1 p2 u (fun r u' => post 0 (u', vp_updL o (0 : Int32).toNatClampNeg r.toInt64)) (fun E u' => (E = "java/lang/IndexOutOfBoundsException" ∧ post 1 (u', o)) ∨ (E = "java/lang/IllegalArgumentException" ∧ post 2 (u', o)))
set_option maxRecDepth 100000 in
theorem ch_W_failing {l : Launch} {Z : ZT} {ad : Nat → Nat} {oa : Nat} {u : CT} {o : Nat → Int64} {p1 : Int32} {p2 : Int32} {post : Int32 → CT × (Nat → Int64) → Prop} (hl0 : l.stackTraces = false) (h : qh_W_failing p1 p2 u o post) : ∀ sz, Met l y_W_failing (Cond.codeWith y_W_failing b_W_failing 5 (some .int) hh_W_failing :: GW) rm_W_failing (pP Z [.ref (ad 0), .int (p1), .int (p2), .ref (oa)] (fH Z ad oa (u, o)) sz) (pQi Z (fH Z ad oa) (fH Z ad oa (u, o)) sz post) rm_W_failing.cells rm_W_failing.slots (va_A (fH Z ad oa (u, o)) sz) := by
  refine g_entH (f := fH Z ad oa) (Qc := fun sz => pQi Z (fH Z ad oa) (fH Z ad oa (u, o)) sz post) hl0 (by decide +kernel) (Nat.le_of_ble_eq_true rfl) ?_
  intro p e s m args below meth c ls C htab hw hl
  have hl : lv_has ls 5 [(0, .ref (ad 0)), (1, .int (p1)), (2, .int (p2)), (3, .ref (oa))] := hl
  unfold qh_W_failing at h
  refine lv_aload_n C.2.1 C.2.2.1 d_W_failing_0 rfl (lv_at hl 3 rfl) ?_
  refine lv_iconst (v := (0)) C.2.1 C.2.2.1 d_W_failing_1 (by decide) ?_
  refine lv_aload_n C.2.1 C.2.2.1 d_W_failing_2 rfl (lv_at hl 0 rfl) ?_
  refine lv_iload_n C.2.1 C.2.2.1 d_W_failing_3 rfl (lv_at hl 1 rfl) ?_
  refine lv_iload_n C.2.1 C.2.2.1 d_W_failing_4 rfl (lv_at hl 2 rfl) ?_
  refine g_V_i (n := 2) (f := cX Z ad) (u := u) (wr := [oC Z oa o]) (As := [.int (p1), .int (p2)]) C hw (c_X_failing C.1 h) ⟨w402, w403, w404, w53, w405, (by decide +kernel), (by decide +kernel), (by decide +kernel)⟩ ⟨Nat.le_of_ble_eq_true rfl, Nat.le_of_ble_eq_true rfl, Nat.le_of_ble_eq_true rfl, Nat.le_of_ble_eq_true rfl⟩ 0 rfl rfl rfl hl.1 rfl (Nat.le_of_ble_eq_true rfl) d_W_failing_5 ?_ ?_
  · intro E u' q9 ce H locs he hw h1 h2 h3
    rcases he with ⟨rfl, he⟩ | ⟨rfl, he⟩
    · refine W_x9 (k := 1) (n := 6) (Nat.le_of_ble_eq_true rfl) (Nat.le_of_ble_eq_true rfl) (g_catch C htab 0 rfl (by decide) (by decide) (by decide) (fun z hz => by simp at hz) w320 (by decide +kernel) h1 h2 h3 ?_)
      refine lv_astore (lv' := [(4, .ref (q9)), (0, .ref (ad 0)), (1, .int (p1)), (2, .int (p2)), (3, .ref (oa))]) C.2.1 C.2.2.1 d_W_failing_13 hl (by decide) rfl (fun ls hl => ?_)
      refine lv_iconst (v := (1)) C.2.1 C.2.2.1 d_W_failing_15 (by decide) ?_
      exact g_hret (u := (u', o)) C hw he d_W_failing_16
    · refine W_x9 (k := 1) (n := 6) (Nat.le_of_ble_eq_true rfl) (Nat.le_of_ble_eq_true rfl) (g_catch C htab 1 rfl (by decide) (by decide) (by decide) (fun z hz => by
      simp only [List.take, List.mem_cons, List.not_mem_nil, or_false] at hz
      rcases hz with rfl
      · exact ⟨by decide, "java/lang/IndexOutOfBoundsException", w320, by decide +kernel⟩) w321 (by decide +kernel) h1 h2 h3 ?_)
      refine lv_astore (lv' := [(4, .ref (q9)), (0, .ref (ad 0)), (1, .int (p1)), (2, .int (p2)), (3, .ref (oa))]) C.2.1 C.2.2.1 d_W_failing_17 hl (by decide) rfl (fun ls hl => ?_)
      refine lv_iconst (v := (2)) C.2.1 C.2.2.1 d_W_failing_19 (by decide) ?_
      exact g_hret (u := (u', o)) C hw he d_W_failing_20
  · intro r u' H locs hq hw
    refine lv_i2l C.2.1 C.2.2.1 d_W_failing_8 rfl ?_
    refine g_stl (k9 := 1) C hw 11 rfl vin01 d_W_failing_9 (fun H locs hw => ?_)
    have hw : WD Z _ s (fH Z ad oa (u', vp_updL o (0 : Int32).toNatClampNeg r.toInt64)) H locs := hw
    refine lv_goto (tgt := 21) C.2.1 C.2.2.1 d_W_failing_10 (by decide) ?_
    refine lv_iconst (v := (0)) C.2.1 C.2.2.1 d_W_failing_21 (by decide) ?_
    refine W.widen (k := 1) (n := 6) (Nat.le_of_ble_eq_true rfl) (Nat.le_of_ble_eq_true rfl) ?_
    exact g_hret (u := (u', vp_updL o (0 : Int32).toNatClampNeg r.toInt64)) C hw hq d_W_failing_22
abbrev rm_W_least : Room := { frames := 8, cells := 1, slots := 6, locals := 137 }
abbrev hh_W_least : List (Nat × Nat × Nat × Nat) := [(0, 10, 13, 22), (0, 10, 17, 24)]
def qh_W_least (p1 : Int32) (p2 : Int32) (u : CT) (o : Nat → Int64) (post : Int32 → CT × (Nat → Int64) → Prop) : Prop :=
  q_X_least p1 p2 u (fun r u' => post 0 (u', vp_updL o (0 : Int32).toNatClampNeg r.toInt64)) (fun E u' => (E = "java/lang/IndexOutOfBoundsException" ∧ post 1 (u', o)) ∨ (E = "java/lang/IllegalArgumentException" ∧ post 2 (u', o)))
set_option maxRecDepth 100000 in
theorem ch_W_least {l : Launch} {Z : ZT} {ad : Nat → Nat} {oa : Nat} {u : CT} {o : Nat → Int64} {p1 : Int32} {p2 : Int32} {post : Int32 → CT × (Nat → Int64) → Prop} (hl0 : l.stackTraces = false) (h : qh_W_least p1 p2 u o post) : ∀ sz, Met l y_W_least (Cond.codeWith y_W_least b_W_least 5 (some .int) hh_W_least :: GW) rm_W_least (pP Z [.ref (ad 0), .int (p1), .int (p2), .ref (oa)] (fH Z ad oa (u, o)) sz) (pQi Z (fH Z ad oa) (fH Z ad oa (u, o)) sz post) rm_W_least.cells rm_W_least.slots (va_A (fH Z ad oa (u, o)) sz) := by
  refine g_entH (f := fH Z ad oa) (Qc := fun sz => pQi Z (fH Z ad oa) (fH Z ad oa (u, o)) sz post) hl0 (by decide +kernel) (Nat.le_of_ble_eq_true rfl) ?_
  intro p e s m args below meth c ls C htab hw hl
  have hl : lv_has ls 5 [(0, .ref (ad 0)), (1, .int (p1)), (2, .int (p2)), (3, .ref (oa))] := hl
  unfold qh_W_least at h
  refine lv_aload_n C.2.1 C.2.2.1 d_W_least_0 rfl (lv_at hl 3 rfl) ?_
  refine lv_iconst (v := (0)) C.2.1 C.2.2.1 d_W_least_1 (by decide) ?_
  refine lv_aload_n C.2.1 C.2.2.1 d_W_least_2 rfl (lv_at hl 0 rfl) ?_
  refine lv_iload_n C.2.1 C.2.2.1 d_W_least_3 rfl (lv_at hl 1 rfl) ?_
  refine lv_iload_n C.2.1 C.2.2.1 d_W_least_4 rfl (lv_at hl 2 rfl) ?_
  refine g_V_i (n := 2) (f := cX Z ad) (u := u) (wr := [oC Z oa o]) (As := [.int (p1), .int (p2)]) C hw (c_X_least C.1 h) ⟨w411, w412, w413, w53, w414, (by decide +kernel), (by decide +kernel), (by decide +kernel)⟩ ⟨Nat.le_of_ble_eq_true rfl, Nat.le_of_ble_eq_true rfl, Nat.le_of_ble_eq_true rfl, Nat.le_of_ble_eq_true rfl⟩ 0 rfl rfl rfl hl.1 rfl (Nat.le_of_ble_eq_true rfl) d_W_least_5 ?_ ?_
  · intro E u' q9 ce H locs he hw h1 h2 h3
    rcases he with ⟨rfl, he⟩ | ⟨rfl, he⟩
    · refine W_x9 (k := 1) (n := 6) (Nat.le_of_ble_eq_true rfl) (Nat.le_of_ble_eq_true rfl) (g_catch C htab 0 rfl (by decide) (by decide) (by decide) (fun z hz => by simp at hz) w320 (by decide +kernel) h1 h2 h3 ?_)
      refine lv_astore (lv' := [(4, .ref (q9)), (0, .ref (ad 0)), (1, .int (p1)), (2, .int (p2)), (3, .ref (oa))]) C.2.1 C.2.2.1 d_W_least_13 hl (by decide) rfl (fun ls hl => ?_)
      refine lv_iconst (v := (1)) C.2.1 C.2.2.1 d_W_least_15 (by decide) ?_
      exact g_hret (u := (u', o)) C hw he d_W_least_16
    · refine W_x9 (k := 1) (n := 6) (Nat.le_of_ble_eq_true rfl) (Nat.le_of_ble_eq_true rfl) (g_catch C htab 1 rfl (by decide) (by decide) (by decide) (fun z hz => by
      simp only [List.take, List.mem_cons, List.not_mem_nil, or_false] at hz
      rcases hz with rfl
      · exact ⟨by decide, "java/lang/IndexOutOfBoundsException", w320, by decide +kernel⟩) w321 (by decide +kernel) h1 h2 h3 ?_)
      refine lv_astore (lv' := [(4, .ref (q9)), (0, .ref (ad 0)), (1, .int (p1)), (2, .int (p2)), (3, .ref (oa))]) C.2.1 C.2.2.1 d_W_least_17 hl (by decide) rfl (fun ls hl => ?_)
      refine lv_iconst (v := (2)) C.2.1 C.2.2.1 d_W_least_19 (by decide) ?_
      exact g_hret (u := (u', o)) C hw he d_W_least_20
  · intro r u' H locs hq hw
    refine lv_i2l C.2.1 C.2.2.1 d_W_least_8 rfl ?_
    refine g_stl (k9 := 1) C hw 11 rfl vin01 d_W_least_9 (fun H locs hw => ?_)
    have hw : WD Z _ s (fH Z ad oa (u', vp_updL o (0 : Int32).toNatClampNeg r.toInt64)) H locs := hw
    refine lv_goto (tgt := 21) C.2.1 C.2.2.1 d_W_least_10 (by decide) ?_
    refine lv_iconst (v := (0)) C.2.1 C.2.2.1 d_W_least_21 (by decide) ?_
    refine W.widen (k := 1) (n := 6) (Nat.le_of_ble_eq_true rfl) (Nat.le_of_ble_eq_true rfl) ?_
    exact g_hret (u := (u', vp_updL o (0 : Int32).toNatClampNeg r.toInt64)) C hw hq d_W_least_22
abbrev rm_W_sum : Room := { frames := 8, cells := 1, slots := 6, locals := 132 }
abbrev hh_W_sum : List (Nat × Nat × Nat × Nat) := [(0, 8, 11, 22)]
def qh_W_sum (p1 : Int32) (u : CT) (o : Nat → Int64) (post : Int32 → CT × (Nat → Int64) → Prop) : Prop :=
  q_X_sum p1 u (fun r u' => post 0 (u', vp_updL o (0 : Int32).toNatClampNeg r)) (fun E u' => (E = "java/lang/IndexOutOfBoundsException" ∧ post 1 (u', o)))
set_option maxRecDepth 100000 in
theorem ch_W_sum {l : Launch} {Z : ZT} {ad : Nat → Nat} {oa : Nat} {u : CT} {o : Nat → Int64} {p1 : Int32} {post : Int32 → CT × (Nat → Int64) → Prop} (hl0 : l.stackTraces = false) (h : qh_W_sum p1 u o post) : ∀ sz, Met l y_W_sum (Cond.codeWith y_W_sum b_W_sum 4 (some .int) hh_W_sum :: GW) rm_W_sum (pP Z [.ref (ad 0), .int (p1), .ref (oa)] (fH Z ad oa (u, o)) sz) (pQi Z (fH Z ad oa) (fH Z ad oa (u, o)) sz post) rm_W_sum.cells rm_W_sum.slots (va_A (fH Z ad oa (u, o)) sz) := by
  refine g_entH (f := fH Z ad oa) (Qc := fun sz => pQi Z (fH Z ad oa) (fH Z ad oa (u, o)) sz post) hl0 (by decide +kernel) (Nat.le_of_ble_eq_true rfl) ?_
  intro p e s m args below meth c ls C htab hw hl
  have hl : lv_has ls 4 [(0, .ref (ad 0)), (1, .int (p1)), (2, .ref (oa))] := hl
  unfold qh_W_sum at h
  refine lv_aload_n C.2.1 C.2.2.1 d_W_sum_0 rfl (lv_at hl 2 rfl) ?_
  refine lv_iconst (v := (0)) C.2.1 C.2.2.1 d_W_sum_1 (by decide) ?_
  refine lv_aload_n C.2.1 C.2.2.1 d_W_sum_2 rfl (lv_at hl 0 rfl) ?_
  refine lv_iload_n C.2.1 C.2.2.1 d_W_sum_3 rfl (lv_at hl 1 rfl) ?_
  refine g_V_l (n := 1) (f := cX Z ad) (u := u) (wr := [oC Z oa o]) (As := [.int (p1)]) C hw (c_X_sum C.1 h) ⟨w423, w424, w425, w53, w426, (by decide +kernel), (by decide +kernel), (by decide +kernel)⟩ ⟨Nat.le_of_ble_eq_true rfl, Nat.le_of_ble_eq_true rfl, Nat.le_of_ble_eq_true rfl, Nat.le_of_ble_eq_true rfl⟩ 0 rfl rfl rfl hl.1 rfl (Nat.le_of_ble_eq_true rfl) d_W_sum_4 ?_ ?_
  · intro E u' q9 ce H locs he hw h1 h2 h3
    obtain ⟨rfl, he⟩ := he
    · refine W_x9 (k := 1) (n := 6) (Nat.le_of_ble_eq_true rfl) (Nat.le_of_ble_eq_true rfl) (g_catch C htab 0 rfl (by decide) (by decide) (by decide) (fun z hz => by simp at hz) w320 (by decide +kernel) h1 h2 h3 ?_)
      refine lv_astore_n (lv' := [(3, .ref (q9)), (0, .ref (ad 0)), (1, .int (p1)), (2, .ref (oa))]) C.2.1 C.2.2.1 d_W_sum_11 rfl hl (by decide) rfl (fun ls hl => ?_)
      refine lv_iconst (v := (1)) C.2.1 C.2.2.1 d_W_sum_12 (by decide) ?_
      exact g_hret (u := (u', o)) C hw he d_W_sum_13
  · intro r u' H locs hq hw
    refine g_stl (k9 := 1) C hw 11 rfl vin01 d_W_sum_7 (fun H locs hw => ?_)
    have hw : WD Z _ s (fH Z ad oa (u', vp_updL o (0 : Int32).toNatClampNeg r)) H locs := hw
    refine lv_goto (tgt := 14) C.2.1 C.2.2.1 d_W_sum_8 (by decide) ?_
    refine lv_iconst (v := (0)) C.2.1 C.2.2.1 d_W_sum_14 (by decide) ?_
    refine W.widen (k := 1) (n := 6) (Nat.le_of_ble_eq_true rfl) (Nat.le_of_ble_eq_true rfl) ?_
    exact g_hret (u := (u', vp_updL o (0 : Int32).toNatClampNeg r)) C hw hq d_W_sum_15
abbrev rm_W_mean : Room := { frames := 8, cells := 1, slots := 6, locals := 137 }
abbrev hh_W_mean : List (Nat × Nat × Nat × Nat) := [(0, 9, 12, 22), (0, 9, 16, 26)]
def qh_W_mean (p1 : Int32) (p2 : Int32) (u : CT) (o : Nat → Int64) (post : Int32 → CT × (Nat → Int64) → Prop) : Prop :=
  q_X_mean p1 p2 u (fun r u' => post 0 (u', vp_updL o (0 : Int32).toNatClampNeg r)) (fun E u' => (E = "java/lang/IndexOutOfBoundsException" ∧ post 1 (u', o)) ∨ (E = "java/lang/IllegalStateException" ∧ post 2 (u', o)))
set_option maxRecDepth 100000 in
theorem ch_W_mean {l : Launch} {Z : ZT} {ad : Nat → Nat} {oa : Nat} {u : CT} {o : Nat → Int64} {p1 : Int32} {p2 : Int32} {post : Int32 → CT × (Nat → Int64) → Prop} (hl0 : l.stackTraces = false) (h : qh_W_mean p1 p2 u o post) : ∀ sz, Met l y_W_mean (Cond.codeWith y_W_mean b_W_mean 5 (some .int) hh_W_mean :: GW) rm_W_mean (pP Z [.ref (ad 0), .int (p1), .int (p2), .ref (oa)] (fH Z ad oa (u, o)) sz) (pQi Z (fH Z ad oa) (fH Z ad oa (u, o)) sz post) rm_W_mean.cells rm_W_mean.slots (va_A (fH Z ad oa (u, o)) sz) := by
  refine g_entH (f := fH Z ad oa) (Qc := fun sz => pQi Z (fH Z ad oa) (fH Z ad oa (u, o)) sz post) hl0 (by decide +kernel) (Nat.le_of_ble_eq_true rfl) ?_
  intro p e s m args below meth c ls C htab hw hl
  have hl : lv_has ls 5 [(0, .ref (ad 0)), (1, .int (p1)), (2, .int (p2)), (3, .ref (oa))] := hl
  unfold qh_W_mean at h
  refine lv_aload_n C.2.1 C.2.2.1 d_W_mean_0 rfl (lv_at hl 3 rfl) ?_
  refine lv_iconst (v := (0)) C.2.1 C.2.2.1 d_W_mean_1 (by decide) ?_
  refine lv_aload_n C.2.1 C.2.2.1 d_W_mean_2 rfl (lv_at hl 0 rfl) ?_
  refine lv_iload_n C.2.1 C.2.2.1 d_W_mean_3 rfl (lv_at hl 1 rfl) ?_
  refine lv_iload_n C.2.1 C.2.2.1 d_W_mean_4 rfl (lv_at hl 2 rfl) ?_
  refine g_V_l (n := 2) (f := cX Z ad) (u := u) (wr := [oC Z oa o]) (As := [.int (p1), .int (p2)]) C hw (c_X_mean C.1 h) ⟨w431, w432, w433, w53, w434, (by decide +kernel), (by decide +kernel), (by decide +kernel)⟩ ⟨Nat.le_of_ble_eq_true rfl, Nat.le_of_ble_eq_true rfl, Nat.le_of_ble_eq_true rfl, Nat.le_of_ble_eq_true rfl⟩ 0 rfl rfl rfl hl.1 rfl (Nat.le_of_ble_eq_true rfl) d_W_mean_5 ?_ ?_
  · intro E u' q9 ce H locs he hw h1 h2 h3
    rcases he with ⟨rfl, he⟩ | ⟨rfl, he⟩
    · refine W_x9 (k := 1) (n := 6) (Nat.le_of_ble_eq_true rfl) (Nat.le_of_ble_eq_true rfl) (g_catch C htab 0 rfl (by decide) (by decide) (by decide) (fun z hz => by simp at hz) w320 (by decide +kernel) h1 h2 h3 ?_)
      refine lv_astore (lv' := [(4, .ref (q9)), (0, .ref (ad 0)), (1, .int (p1)), (2, .int (p2)), (3, .ref (oa))]) C.2.1 C.2.2.1 d_W_mean_12 hl (by decide) rfl (fun ls hl => ?_)
      refine lv_iconst (v := (1)) C.2.1 C.2.2.1 d_W_mean_14 (by decide) ?_
      exact g_hret (u := (u', o)) C hw he d_W_mean_15
    · refine W_x9 (k := 1) (n := 6) (Nat.le_of_ble_eq_true rfl) (Nat.le_of_ble_eq_true rfl) (g_catch C htab 1 rfl (by decide) (by decide) (by decide) (fun z hz => by
      simp only [List.take, List.mem_cons, List.not_mem_nil, or_false] at hz
      rcases hz with rfl
      · exact ⟨by decide, "java/lang/IndexOutOfBoundsException", w320, by decide +kernel⟩) w322 (by decide +kernel) h1 h2 h3 ?_)
      refine lv_astore (lv' := [(4, .ref (q9)), (0, .ref (ad 0)), (1, .int (p1)), (2, .int (p2)), (3, .ref (oa))]) C.2.1 C.2.2.1 d_W_mean_16 hl (by decide) rfl (fun ls hl => ?_)
      refine lv_iconst (v := (2)) C.2.1 C.2.2.1 d_W_mean_18 (by decide) ?_
      exact g_hret (u := (u', o)) C hw he d_W_mean_19
  · intro r u' H locs hq hw
    refine g_stl (k9 := 1) C hw 11 rfl vin01 d_W_mean_8 (fun H locs hw => ?_)
    have hw : WD Z _ s (fH Z ad oa (u', vp_updL o (0 : Int32).toNatClampNeg r)) H locs := hw
    refine lv_goto (tgt := 20) C.2.1 C.2.2.1 d_W_mean_9 (by decide) ?_
    refine lv_iconst (v := (0)) C.2.1 C.2.2.1 d_W_mean_20 (by decide) ?_
    refine W.widen (k := 1) (n := 6) (Nat.le_of_ble_eq_true rfl) (Nat.le_of_ble_eq_true rfl) ?_
    exact g_hret (u := (u', vp_updL o (0 : Int32).toNatClampNeg r)) C hw hq d_W_mean_21
abbrev rm_W_rank : Room := { frames := 8, cells := 1, slots := 6, locals := 132 }
abbrev hh_W_rank : List (Nat × Nat × Nat × Nat) := [(0, 9, 12, 22), (0, 9, 15, 26)]
def qh_W_rank (p1 : Int32) (u : CT) (o : Nat → Int64) (post : Int32 → CT × (Nat → Int64) → Prop) : Prop :=
  q_X_rank p1 u (fun r u' => post 0 (u', vp_updL o (0 : Int32).toNatClampNeg r.toInt64)) (fun E u' => (E = "java/lang/IndexOutOfBoundsException" ∧ post 1 (u', o)) ∨ (E = "java/lang/IllegalStateException" ∧ post 2 (u', o)))
set_option maxRecDepth 100000 in
theorem ch_W_rank {l : Launch} {Z : ZT} {ad : Nat → Nat} {oa : Nat} {u : CT} {o : Nat → Int64} {p1 : Int32} {post : Int32 → CT × (Nat → Int64) → Prop} (hl0 : l.stackTraces = false) (h : qh_W_rank p1 u o post) : ∀ sz, Met l y_W_rank (Cond.codeWith y_W_rank b_W_rank 4 (some .int) hh_W_rank :: GW) rm_W_rank (pP Z [.ref (ad 0), .int (p1), .ref (oa)] (fH Z ad oa (u, o)) sz) (pQi Z (fH Z ad oa) (fH Z ad oa (u, o)) sz post) rm_W_rank.cells rm_W_rank.slots (va_A (fH Z ad oa (u, o)) sz) := by
  refine g_entH (f := fH Z ad oa) (Qc := fun sz => pQi Z (fH Z ad oa) (fH Z ad oa (u, o)) sz post) hl0 (by decide +kernel) (Nat.le_of_ble_eq_true rfl) ?_
  intro p e s m args below meth c ls C htab hw hl
  have hl : lv_has ls 4 [(0, .ref (ad 0)), (1, .int (p1)), (2, .ref (oa))] := hl
  unfold qh_W_rank at h
  refine lv_aload_n C.2.1 C.2.2.1 d_W_rank_0 rfl (lv_at hl 2 rfl) ?_
  refine lv_iconst (v := (0)) C.2.1 C.2.2.1 d_W_rank_1 (by decide) ?_
  refine lv_aload_n C.2.1 C.2.2.1 d_W_rank_2 rfl (lv_at hl 0 rfl) ?_
  refine lv_iload_n C.2.1 C.2.2.1 d_W_rank_3 rfl (lv_at hl 1 rfl) ?_
  refine g_V_i (n := 1) (f := cX Z ad) (u := u) (wr := [oC Z oa o]) (As := [.int (p1)]) C hw (c_X_rank C.1 h) ⟨w446, w447, w448, w53, w449, (by decide +kernel), (by decide +kernel), (by decide +kernel)⟩ ⟨Nat.le_of_ble_eq_true rfl, Nat.le_of_ble_eq_true rfl, Nat.le_of_ble_eq_true rfl, Nat.le_of_ble_eq_true rfl⟩ 0 rfl rfl rfl hl.1 rfl (Nat.le_of_ble_eq_true rfl) d_W_rank_4 ?_ ?_
  · intro E u' q9 ce H locs he hw h1 h2 h3
    rcases he with ⟨rfl, he⟩ | ⟨rfl, he⟩
    · refine W_x9 (k := 1) (n := 6) (Nat.le_of_ble_eq_true rfl) (Nat.le_of_ble_eq_true rfl) (g_catch C htab 0 rfl (by decide) (by decide) (by decide) (fun z hz => by simp at hz) w320 (by decide +kernel) h1 h2 h3 ?_)
      refine lv_astore_n (lv' := [(3, .ref (q9)), (0, .ref (ad 0)), (1, .int (p1)), (2, .ref (oa))]) C.2.1 C.2.2.1 d_W_rank_12 rfl hl (by decide) rfl (fun ls hl => ?_)
      refine lv_iconst (v := (1)) C.2.1 C.2.2.1 d_W_rank_13 (by decide) ?_
      exact g_hret (u := (u', o)) C hw he d_W_rank_14
    · refine W_x9 (k := 1) (n := 6) (Nat.le_of_ble_eq_true rfl) (Nat.le_of_ble_eq_true rfl) (g_catch C htab 1 rfl (by decide) (by decide) (by decide) (fun z hz => by
      simp only [List.take, List.mem_cons, List.not_mem_nil, or_false] at hz
      rcases hz with rfl
      · exact ⟨by decide, "java/lang/IndexOutOfBoundsException", w320, by decide +kernel⟩) w322 (by decide +kernel) h1 h2 h3 ?_)
      refine lv_astore_n (lv' := [(3, .ref (q9)), (0, .ref (ad 0)), (1, .int (p1)), (2, .ref (oa))]) C.2.1 C.2.2.1 d_W_rank_15 rfl hl (by decide) rfl (fun ls hl => ?_)
      refine lv_iconst (v := (2)) C.2.1 C.2.2.1 d_W_rank_16 (by decide) ?_
      exact g_hret (u := (u', o)) C hw he d_W_rank_17
  · intro r u' H locs hq hw
    refine lv_i2l C.2.1 C.2.2.1 d_W_rank_7 rfl ?_
    refine g_stl (k9 := 1) C hw 11 rfl vin01 d_W_rank_8 (fun H locs hw => ?_)
    have hw : WD Z _ s (fH Z ad oa (u', vp_updL o (0 : Int32).toNatClampNeg r.toInt64)) H locs := hw
    refine lv_goto (tgt := 18) C.2.1 C.2.2.1 d_W_rank_9 (by decide) ?_
    refine lv_iconst (v := (0)) C.2.1 C.2.2.1 d_W_rank_18 (by decide) ?_
    refine W.widen (k := 1) (n := 6) (Nat.le_of_ble_eq_true rfl) (Nat.le_of_ble_eq_true rfl) ?_
    exact g_hret (u := (u', vp_updL o (0 : Int32).toNatClampNeg r.toInt64)) C hw hq d_W_rank_19
abbrev rm_W_hull : Room := { frames := 9, cells := 1, slots := 6, locals := 155 }
abbrev hh_W_hull : List (Nat × Nat × Nat × Nat) := [(0, 10, 13, 22)]
def qh_W_hull (p1 : Int32) (p2 : Int32) (u : CT) (o : Nat → Int64) (post : Int32 → CT × (Nat → Int64) → Prop) : Prop :=
  q_X_hull p1 p2 u (fun r u' => post 0 (u', vp_updL o (0 : Int32).toNatClampNeg r.toInt64)) (fun E u' => (E = "java/lang/IndexOutOfBoundsException" ∧ post 1 (u', o)))
set_option maxRecDepth 100000 in
theorem ch_W_hull {l : Launch} {Z : ZT} {ad : Nat → Nat} {oa : Nat} {u : CT} {o : Nat → Int64} {p1 : Int32} {p2 : Int32} {post : Int32 → CT × (Nat → Int64) → Prop} (hl0 : l.stackTraces = false) (h : qh_W_hull p1 p2 u o post) : ∀ sz, Met l y_W_hull (Cond.codeWith y_W_hull b_W_hull 5 (some .int) hh_W_hull :: GW) rm_W_hull (pP Z [.ref (ad 0), .int (p1), .int (p2), .ref (oa)] (fH Z ad oa (u, o)) sz) (pQi Z (fH Z ad oa) (fH Z ad oa (u, o)) sz post) rm_W_hull.cells rm_W_hull.slots (va_A (fH Z ad oa (u, o)) sz) := by
  refine g_entH (f := fH Z ad oa) (Qc := fun sz => pQi Z (fH Z ad oa) (fH Z ad oa (u, o)) sz post) hl0 (by decide +kernel) (Nat.le_of_ble_eq_true rfl) ?_
  intro p e s m args below meth c ls C htab hw hl
  have hl : lv_has ls 5 [(0, .ref (ad 0)), (1, .int (p1)), (2, .int (p2)), (3, .ref (oa))] := hl
  unfold qh_W_hull at h
  refine lv_aload_n C.2.1 C.2.2.1 d_W_hull_0 rfl (lv_at hl 3 rfl) ?_
  refine lv_iconst (v := (0)) C.2.1 C.2.2.1 d_W_hull_1 (by decide) ?_
  refine lv_aload_n C.2.1 C.2.2.1 d_W_hull_2 rfl (lv_at hl 0 rfl) ?_
  refine lv_iload_n C.2.1 C.2.2.1 d_W_hull_3 rfl (lv_at hl 1 rfl) ?_
  refine lv_iload_n C.2.1 C.2.2.1 d_W_hull_4 rfl (lv_at hl 2 rfl) ?_
  refine g_V_i (n := 2) (f := cX Z ad) (u := u) (wr := [oC Z oa o]) (As := [.int (p1), .int (p2)]) C hw (c_X_hull C.1 h) ⟨w453, w454, w455, w53, w456, (by decide +kernel), (by decide +kernel), (by decide +kernel)⟩ ⟨Nat.le_of_ble_eq_true rfl, Nat.le_of_ble_eq_true rfl, Nat.le_of_ble_eq_true rfl, Nat.le_of_ble_eq_true rfl⟩ 0 rfl rfl rfl hl.1 rfl (Nat.le_of_ble_eq_true rfl) d_W_hull_5 ?_ ?_
  · intro E u' q9 ce H locs he hw h1 h2 h3
    obtain ⟨rfl, he⟩ := he
    · refine W_x9 (k := 1) (n := 6) (Nat.le_of_ble_eq_true rfl) (Nat.le_of_ble_eq_true rfl) (g_catch C htab 0 rfl (by decide) (by decide) (by decide) (fun z hz => by simp at hz) w320 (by decide +kernel) h1 h2 h3 ?_)
      refine lv_astore (lv' := [(4, .ref (q9)), (0, .ref (ad 0)), (1, .int (p1)), (2, .int (p2)), (3, .ref (oa))]) C.2.1 C.2.2.1 d_W_hull_13 hl (by decide) rfl (fun ls hl => ?_)
      refine lv_iconst (v := (1)) C.2.1 C.2.2.1 d_W_hull_15 (by decide) ?_
      exact g_hret (u := (u', o)) C hw he d_W_hull_16
  · intro r u' H locs hq hw
    refine lv_i2l C.2.1 C.2.2.1 d_W_hull_8 rfl ?_
    refine g_stl (k9 := 1) C hw 11 rfl vin01 d_W_hull_9 (fun H locs hw => ?_)
    have hw : WD Z _ s (fH Z ad oa (u', vp_updL o (0 : Int32).toNatClampNeg r.toInt64)) H locs := hw
    refine lv_goto (tgt := 17) C.2.1 C.2.2.1 d_W_hull_10 (by decide) ?_
    refine lv_iconst (v := (0)) C.2.1 C.2.2.1 d_W_hull_17 (by decide) ?_
    refine W.widen (k := 1) (n := 6) (Nat.le_of_ble_eq_true rfl) (Nat.le_of_ble_eq_true rfl) ?_
    exact g_hret (u := (u', vp_updL o (0 : Int32).toNatClampNeg r.toInt64)) C hw hq d_W_hull_18
abbrev rm_W_onHull : Room := { frames := 9, cells := 1, slots := 6, locals := 158 }
abbrev hh_W_onHull : List (Nat × Nat × Nat × Nat) := [(0, 14, 17, 22), (0, 14, 21, 24)]
def qh_W_onHull (p1 : Int32) (p2 : Int32) (p3 : Int32) (p4 : Int32) (u : CT) (o : Nat → Int64) (post : Int32 → CT × (Nat → Int64) → Prop) : Prop :=
  q_X_onHull p1 p2 p3 p4 u (fun r u' => post 0 (u', vp_updL o (0 : Int32).toNatClampNeg r.toInt64)) (fun E u' => (E = "java/lang/IndexOutOfBoundsException" ∧ post 1 (u', o)) ∨ (E = "java/lang/IllegalArgumentException" ∧ post 2 (u', o)))
set_option maxRecDepth 100000 in
theorem ch_W_onHull {l : Launch} {Z : ZT} {ad : Nat → Nat} {oa : Nat} {u : CT} {o : Nat → Int64} {p1 : Int32} {p2 : Int32} {p3 : Int32} {p4 : Int32} {post : Int32 → CT × (Nat → Int64) → Prop} (hl0 : l.stackTraces = false) (h : qh_W_onHull p1 p2 p3 p4 u o post) : ∀ sz, Met l y_W_onHull (Cond.codeWith y_W_onHull b_W_onHull 7 (some .int) hh_W_onHull :: GW) rm_W_onHull (pP Z [.ref (ad 0), .int (p1), .int (p2), .int (p3), .int (p4), .ref (oa)] (fH Z ad oa (u, o)) sz) (pQi Z (fH Z ad oa) (fH Z ad oa (u, o)) sz post) rm_W_onHull.cells rm_W_onHull.slots (va_A (fH Z ad oa (u, o)) sz) := by
  refine g_entH (f := fH Z ad oa) (Qc := fun sz => pQi Z (fH Z ad oa) (fH Z ad oa (u, o)) sz post) hl0 (by decide +kernel) (Nat.le_of_ble_eq_true rfl) ?_
  intro p e s m args below meth c ls C htab hw hl
  have hl : lv_has ls 7 [(0, .ref (ad 0)), (1, .int (p1)), (2, .int (p2)), (3, .int (p3)), (4, .int (p4)), (5, .ref (oa))] := hl
  unfold qh_W_onHull at h
  refine lv_aload C.2.1 C.2.2.1 d_W_onHull_0 (lv_at hl 5 rfl) ?_
  refine lv_iconst (v := (0)) C.2.1 C.2.2.1 d_W_onHull_2 (by decide) ?_
  refine lv_aload_n C.2.1 C.2.2.1 d_W_onHull_3 rfl (lv_at hl 0 rfl) ?_
  refine lv_iload_n C.2.1 C.2.2.1 d_W_onHull_4 rfl (lv_at hl 1 rfl) ?_
  refine lv_iload_n C.2.1 C.2.2.1 d_W_onHull_5 rfl (lv_at hl 2 rfl) ?_
  refine lv_iload_n C.2.1 C.2.2.1 d_W_onHull_6 rfl (lv_at hl 3 rfl) ?_
  refine lv_iload C.2.1 C.2.2.1 d_W_onHull_7 (lv_at hl 4 rfl) ?_
  refine g_V_i (n := 4) (f := cX Z ad) (u := u) (wr := [oC Z oa o]) (As := [.int (p1), .int (p2), .int (p3), .int (p4)]) C hw (c_X_onHull C.1 h) ⟨w488, w489, w490, w53, w491, (by decide +kernel), (by decide +kernel), (by decide +kernel)⟩ ⟨Nat.le_of_ble_eq_true rfl, Nat.le_of_ble_eq_true rfl, Nat.le_of_ble_eq_true rfl, Nat.le_of_ble_eq_true rfl⟩ 0 rfl rfl rfl hl.1 rfl (Nat.le_of_ble_eq_true rfl) d_W_onHull_9 ?_ ?_
  · intro E u' q9 ce H locs he hw h1 h2 h3
    rcases he with ⟨rfl, he⟩ | ⟨rfl, he⟩
    · refine W_x9 (k := 1) (n := 6) (Nat.le_of_ble_eq_true rfl) (Nat.le_of_ble_eq_true rfl) (g_catch C htab 0 rfl (by decide) (by decide) (by decide) (fun z hz => by simp at hz) w320 (by decide +kernel) h1 h2 h3 ?_)
      refine lv_astore (lv' := [(6, .ref (q9)), (0, .ref (ad 0)), (1, .int (p1)), (2, .int (p2)), (3, .int (p3)), (4, .int (p4)), (5, .ref (oa))]) C.2.1 C.2.2.1 d_W_onHull_17 hl (by decide) rfl (fun ls hl => ?_)
      refine lv_iconst (v := (1)) C.2.1 C.2.2.1 d_W_onHull_19 (by decide) ?_
      exact g_hret (u := (u', o)) C hw he d_W_onHull_20
    · refine W_x9 (k := 1) (n := 6) (Nat.le_of_ble_eq_true rfl) (Nat.le_of_ble_eq_true rfl) (g_catch C htab 1 rfl (by decide) (by decide) (by decide) (fun z hz => by
      simp only [List.take, List.mem_cons, List.not_mem_nil, or_false] at hz
      rcases hz with rfl
      · exact ⟨by decide, "java/lang/IndexOutOfBoundsException", w320, by decide +kernel⟩) w321 (by decide +kernel) h1 h2 h3 ?_)
      refine lv_astore (lv' := [(6, .ref (q9)), (0, .ref (ad 0)), (1, .int (p1)), (2, .int (p2)), (3, .int (p3)), (4, .int (p4)), (5, .ref (oa))]) C.2.1 C.2.2.1 d_W_onHull_21 hl (by decide) rfl (fun ls hl => ?_)
      refine lv_iconst (v := (2)) C.2.1 C.2.2.1 d_W_onHull_23 (by decide) ?_
      exact g_hret (u := (u', o)) C hw he d_W_onHull_24
  · intro r u' H locs hq hw
    refine lv_i2l C.2.1 C.2.2.1 d_W_onHull_12 rfl ?_
    refine g_stl (k9 := 1) C hw 11 rfl vin01 d_W_onHull_13 (fun H locs hw => ?_)
    have hw : WD Z _ s (fH Z ad oa (u', vp_updL o (0 : Int32).toNatClampNeg r.toInt64)) H locs := hw
    refine lv_goto (tgt := 25) C.2.1 C.2.2.1 d_W_onHull_14 (by decide) ?_
    refine lv_iconst (v := (0)) C.2.1 C.2.2.1 d_W_onHull_25 (by decide) ?_
    refine W.widen (k := 1) (n := 6) (Nat.le_of_ble_eq_true rfl) (Nat.le_of_ble_eq_true rfl) ?_
    exact g_hret (u := (u', vp_updL o (0 : Int32).toNatClampNeg r.toInt64)) C hw hq d_W_onHull_26
abbrev rm_W_slope : Room := { frames := 9, cells := 1, slots := 6, locals := 161 }
abbrev hh_W_slope : List (Nat × Nat × Nat × Nat) := [(0, 13, 16, 22)]
def qh_W_slope (p1 : Int32) (p2 : Int32) (p3 : Int32) (p4 : Int32) (u : CT) (o : Nat → Int64) (post : Int32 → CT × (Nat → Int64) → Prop) : Prop :=
  q_X_slope p1 p2 p3 p4 u (fun r u' => post 0 (u', vp_updL o (0 : Int32).toNatClampNeg r)) (fun E u' => (E = "java/lang/IndexOutOfBoundsException" ∧ post 1 (u', o)))
set_option maxRecDepth 100000 in
theorem ch_W_slope {l : Launch} {Z : ZT} {ad : Nat → Nat} {oa : Nat} {u : CT} {o : Nat → Int64} {p1 : Int32} {p2 : Int32} {p3 : Int32} {p4 : Int32} {post : Int32 → CT × (Nat → Int64) → Prop} (hl0 : l.stackTraces = false) (h : qh_W_slope p1 p2 p3 p4 u o post) : ∀ sz, Met l y_W_slope (Cond.codeWith y_W_slope b_W_slope 7 (some .int) hh_W_slope :: GW) rm_W_slope (pP Z [.ref (ad 0), .int (p1), .int (p2), .int (p3), .int (p4), .ref (oa)] (fH Z ad oa (u, o)) sz) (pQi Z (fH Z ad oa) (fH Z ad oa (u, o)) sz post) rm_W_slope.cells rm_W_slope.slots (va_A (fH Z ad oa (u, o)) sz) := by
  refine g_entH (f := fH Z ad oa) (Qc := fun sz => pQi Z (fH Z ad oa) (fH Z ad oa (u, o)) sz post) hl0 (by decide +kernel) (Nat.le_of_ble_eq_true rfl) ?_
  intro p e s m args below meth c ls C htab hw hl
  have hl : lv_has ls 7 [(0, .ref (ad 0)), (1, .int (p1)), (2, .int (p2)), (3, .int (p3)), (4, .int (p4)), (5, .ref (oa))] := hl
  unfold qh_W_slope at h
  refine lv_aload C.2.1 C.2.2.1 d_W_slope_0 (lv_at hl 5 rfl) ?_
  refine lv_iconst (v := (0)) C.2.1 C.2.2.1 d_W_slope_2 (by decide) ?_
  refine lv_aload_n C.2.1 C.2.2.1 d_W_slope_3 rfl (lv_at hl 0 rfl) ?_
  refine lv_iload_n C.2.1 C.2.2.1 d_W_slope_4 rfl (lv_at hl 1 rfl) ?_
  refine lv_iload_n C.2.1 C.2.2.1 d_W_slope_5 rfl (lv_at hl 2 rfl) ?_
  refine lv_iload_n C.2.1 C.2.2.1 d_W_slope_6 rfl (lv_at hl 3 rfl) ?_
  refine lv_iload C.2.1 C.2.2.1 d_W_slope_7 (lv_at hl 4 rfl) ?_
  refine g_V_l (n := 4) (f := cX Z ad) (u := u) (wr := [oC Z oa o]) (As := [.int (p1), .int (p2), .int (p3), .int (p4)]) C hw (c_X_slope C.1 h) ⟨w497, w498, w499, w53, w500, (by decide +kernel), (by decide +kernel), (by decide +kernel)⟩ ⟨Nat.le_of_ble_eq_true rfl, Nat.le_of_ble_eq_true rfl, Nat.le_of_ble_eq_true rfl, Nat.le_of_ble_eq_true rfl⟩ 0 rfl rfl rfl hl.1 rfl (Nat.le_of_ble_eq_true rfl) d_W_slope_9 ?_ ?_
  · intro E u' q9 ce H locs he hw h1 h2 h3
    obtain ⟨rfl, he⟩ := he
    · refine W_x9 (k := 1) (n := 6) (Nat.le_of_ble_eq_true rfl) (Nat.le_of_ble_eq_true rfl) (g_catch C htab 0 rfl (by decide) (by decide) (by decide) (fun z hz => by simp at hz) w320 (by decide +kernel) h1 h2 h3 ?_)
      refine lv_astore (lv' := [(6, .ref (q9)), (0, .ref (ad 0)), (1, .int (p1)), (2, .int (p2)), (3, .int (p3)), (4, .int (p4)), (5, .ref (oa))]) C.2.1 C.2.2.1 d_W_slope_16 hl (by decide) rfl (fun ls hl => ?_)
      refine lv_iconst (v := (1)) C.2.1 C.2.2.1 d_W_slope_18 (by decide) ?_
      exact g_hret (u := (u', o)) C hw he d_W_slope_19
  · intro r u' H locs hq hw
    refine g_stl (k9 := 1) C hw 11 rfl vin01 d_W_slope_12 (fun H locs hw => ?_)
    have hw : WD Z _ s (fH Z ad oa (u', vp_updL o (0 : Int32).toNatClampNeg r)) H locs := hw
    refine lv_goto (tgt := 20) C.2.1 C.2.2.1 d_W_slope_13 (by decide) ?_
    refine lv_iconst (v := (0)) C.2.1 C.2.2.1 d_W_slope_20 (by decide) ?_
    refine W.widen (k := 1) (n := 6) (Nat.le_of_ble_eq_true rfl) (Nat.le_of_ble_eq_true rfl) ?_
    exact g_hret (u := (u', vp_updL o (0 : Int32).toNatClampNeg r)) C hw hq d_W_slope_21
abbrev rm_W_signs : Room := { frames := 8, cells := 1, slots := 6, locals := 136 }
abbrev hh_W_signs : List (Nat × Nat × Nat × Nat) := [(0, 11, 14, 22), (0, 11, 18, 24)]
def qh_W_signs (p1 : Int32) (p2 : Int32) (p3 : Int32) (u : CT) (o : Nat → Int64) (post : Int32 → CT × (Nat → Int64) → Prop) : Prop :=
  q_X_signs p1 p2 p3 u (fun r u' => post 0 (u', vp_updL o (0 : Int32).toNatClampNeg r)) (fun E u' => (E = "java/lang/IndexOutOfBoundsException" ∧ post 1 (u', o)) ∨ (E = "java/lang/IllegalArgumentException" ∧ post 2 (u', o)))
set_option maxRecDepth 100000 in
theorem ch_W_signs {l : Launch} {Z : ZT} {ad : Nat → Nat} {oa : Nat} {u : CT} {o : Nat → Int64} {p1 : Int32} {p2 : Int32} {p3 : Int32} {post : Int32 → CT × (Nat → Int64) → Prop} (hl0 : l.stackTraces = false) (h : qh_W_signs p1 p2 p3 u o post) : ∀ sz, Met l y_W_signs (Cond.codeWith y_W_signs b_W_signs 6 (some .int) hh_W_signs :: GW) rm_W_signs (pP Z [.ref (ad 0), .int (p1), .int (p2), .int (p3), .ref (oa)] (fH Z ad oa (u, o)) sz) (pQi Z (fH Z ad oa) (fH Z ad oa (u, o)) sz post) rm_W_signs.cells rm_W_signs.slots (va_A (fH Z ad oa (u, o)) sz) := by
  refine g_entH (f := fH Z ad oa) (Qc := fun sz => pQi Z (fH Z ad oa) (fH Z ad oa (u, o)) sz post) hl0 (by decide +kernel) (Nat.le_of_ble_eq_true rfl) ?_
  intro p e s m args below meth c ls C htab hw hl
  have hl : lv_has ls 6 [(0, .ref (ad 0)), (1, .int (p1)), (2, .int (p2)), (3, .int (p3)), (4, .ref (oa))] := hl
  unfold qh_W_signs at h
  refine lv_aload C.2.1 C.2.2.1 d_W_signs_0 (lv_at hl 4 rfl) ?_
  refine lv_iconst (v := (0)) C.2.1 C.2.2.1 d_W_signs_2 (by decide) ?_
  refine lv_aload_n C.2.1 C.2.2.1 d_W_signs_3 rfl (lv_at hl 0 rfl) ?_
  refine lv_iload_n C.2.1 C.2.2.1 d_W_signs_4 rfl (lv_at hl 1 rfl) ?_
  refine lv_iload_n C.2.1 C.2.2.1 d_W_signs_5 rfl (lv_at hl 2 rfl) ?_
  refine lv_iload_n C.2.1 C.2.2.1 d_W_signs_6 rfl (lv_at hl 3 rfl) ?_
  refine g_V_l (n := 3) (f := cX Z ad) (u := u) (wr := [oC Z oa o]) (As := [.int (p1), .int (p2), .int (p3)]) C hw (c_X_signs C.1 h) ⟨w505, w506, w507, w53, w508, (by decide +kernel), (by decide +kernel), (by decide +kernel)⟩ ⟨Nat.le_of_ble_eq_true rfl, Nat.le_of_ble_eq_true rfl, Nat.le_of_ble_eq_true rfl, Nat.le_of_ble_eq_true rfl⟩ 0 rfl rfl rfl hl.1 rfl (Nat.le_of_ble_eq_true rfl) d_W_signs_7 ?_ ?_
  · intro E u' q9 ce H locs he hw h1 h2 h3
    rcases he with ⟨rfl, he⟩ | ⟨rfl, he⟩
    · refine W_x9 (k := 1) (n := 6) (Nat.le_of_ble_eq_true rfl) (Nat.le_of_ble_eq_true rfl) (g_catch C htab 0 rfl (by decide) (by decide) (by decide) (fun z hz => by simp at hz) w320 (by decide +kernel) h1 h2 h3 ?_)
      refine lv_astore (lv' := [(5, .ref (q9)), (0, .ref (ad 0)), (1, .int (p1)), (2, .int (p2)), (3, .int (p3)), (4, .ref (oa))]) C.2.1 C.2.2.1 d_W_signs_14 hl (by decide) rfl (fun ls hl => ?_)
      refine lv_iconst (v := (1)) C.2.1 C.2.2.1 d_W_signs_16 (by decide) ?_
      exact g_hret (u := (u', o)) C hw he d_W_signs_17
    · refine W_x9 (k := 1) (n := 6) (Nat.le_of_ble_eq_true rfl) (Nat.le_of_ble_eq_true rfl) (g_catch C htab 1 rfl (by decide) (by decide) (by decide) (fun z hz => by
      simp only [List.take, List.mem_cons, List.not_mem_nil, or_false] at hz
      rcases hz with rfl
      · exact ⟨by decide, "java/lang/IndexOutOfBoundsException", w320, by decide +kernel⟩) w321 (by decide +kernel) h1 h2 h3 ?_)
      refine lv_astore (lv' := [(5, .ref (q9)), (0, .ref (ad 0)), (1, .int (p1)), (2, .int (p2)), (3, .int (p3)), (4, .ref (oa))]) C.2.1 C.2.2.1 d_W_signs_18 hl (by decide) rfl (fun ls hl => ?_)
      refine lv_iconst (v := (2)) C.2.1 C.2.2.1 d_W_signs_20 (by decide) ?_
      exact g_hret (u := (u', o)) C hw he d_W_signs_21
  · intro r u' H locs hq hw
    refine g_stl (k9 := 1) C hw 11 rfl vin01 d_W_signs_10 (fun H locs hw => ?_)
    have hw : WD Z _ s (fH Z ad oa (u', vp_updL o (0 : Int32).toNatClampNeg r)) H locs := hw
    refine lv_goto (tgt := 22) C.2.1 C.2.2.1 d_W_signs_11 (by decide) ?_
    refine lv_iconst (v := (0)) C.2.1 C.2.2.1 d_W_signs_22 (by decide) ?_
    refine W.widen (k := 1) (n := 6) (Nat.le_of_ble_eq_true rfl) (Nat.le_of_ble_eq_true rfl) ?_
    exact g_hret (u := (u', vp_updL o (0 : Int32).toNatClampNeg r)) C hw hq d_W_signs_23
abbrev rm_W_draws : Room := { frames := 8, cells := 1, slots := 6, locals := 138 }
abbrev hh_W_draws : List (Nat × Nat × Nat × Nat) := [(0, 14, 17, 22), (0, 14, 21, 24), (0, 14, 25, 26)]
def qh_W_draws (p1 : Int32) (p2 : Int32) (p3 : Int64) (p5 : Int32) (u : CT) (o : Nat → Int64) (post : Int32 → CT × (Nat → Int64) → Prop) : Prop :=
  q_X_draws p1 p2 p3 p5 u (fun r u' => post 0 (u', vp_updL o (0 : Int32).toNatClampNeg r.toInt64)) (fun E u' => (E = "java/lang/IndexOutOfBoundsException" ∧ post 1 (u', o)) ∨ (E = "java/lang/IllegalArgumentException" ∧ post 2 (u', o)) ∨ (E = "java/lang/IllegalStateException" ∧ post 3 (u', o)))
set_option maxRecDepth 100000 in
theorem ch_W_draws {l : Launch} {Z : ZT} {ad : Nat → Nat} {oa : Nat} {u : CT} {o : Nat → Int64} {p1 : Int32} {p2 : Int32} {p3 : Int64} {p5 : Int32} {post : Int32 → CT × (Nat → Int64) → Prop} (hl0 : l.stackTraces = false) (h : qh_W_draws p1 p2 p3 p5 u o post) : ∀ sz, Met l y_W_draws (Cond.codeWith y_W_draws b_W_draws 8 (some .int) hh_W_draws :: GW) rm_W_draws (pP Z [.ref (ad 0), .int (p1), .int (p2), .long (p3), .int (p5), .ref (oa)] (fH Z ad oa (u, o)) sz) (pQi Z (fH Z ad oa) (fH Z ad oa (u, o)) sz post) rm_W_draws.cells rm_W_draws.slots (va_A (fH Z ad oa (u, o)) sz) := by
  refine g_entH (f := fH Z ad oa) (Qc := fun sz => pQi Z (fH Z ad oa) (fH Z ad oa (u, o)) sz post) hl0 (by decide +kernel) (Nat.le_of_ble_eq_true rfl) ?_
  intro p e s m args below meth c ls C htab hw hl
  have hl : lv_has ls 8 [(0, .ref (ad 0)), (1, .int (p1)), (2, .int (p2)), (3, .long (p3)), (5, .int (p5)), (6, .ref (oa))] := hl
  unfold qh_W_draws at h
  refine lv_aload C.2.1 C.2.2.1 d_W_draws_0 (lv_at hl 5 rfl) ?_
  refine lv_iconst (v := (0)) C.2.1 C.2.2.1 d_W_draws_2 (by decide) ?_
  refine lv_aload_n C.2.1 C.2.2.1 d_W_draws_3 rfl (lv_at hl 0 rfl) ?_
  refine lv_iload_n C.2.1 C.2.2.1 d_W_draws_4 rfl (lv_at hl 1 rfl) ?_
  refine lv_iload_n C.2.1 C.2.2.1 d_W_draws_5 rfl (lv_at hl 2 rfl) ?_
  refine lv_lload_n C.2.1 C.2.2.1 d_W_draws_6 rfl (lv_at hl 3 rfl) ?_
  refine lv_iload C.2.1 C.2.2.1 d_W_draws_7 (lv_at hl 4 rfl) ?_
  refine g_V_i (n := 4) (f := cX Z ad) (u := u) (wr := [oC Z oa o]) (As := [.int (p1), .int (p2), .long (p3), .int (p5)]) C hw (c_X_draws C.1 h) ⟨w531, w532, w533, w53, w534, (by decide +kernel), (by decide +kernel), (by decide +kernel)⟩ ⟨Nat.le_of_ble_eq_true rfl, Nat.le_of_ble_eq_true rfl, Nat.le_of_ble_eq_true rfl, Nat.le_of_ble_eq_true rfl⟩ 0 rfl rfl rfl hl.1 rfl (Nat.le_of_ble_eq_true rfl) d_W_draws_9 ?_ ?_
  · intro E u' q9 ce H locs he hw h1 h2 h3
    rcases he with ⟨rfl, he⟩ | ⟨rfl, he⟩ | ⟨rfl, he⟩
    · refine W_x9 (k := 1) (n := 6) (Nat.le_of_ble_eq_true rfl) (Nat.le_of_ble_eq_true rfl) (g_catch C htab 0 rfl (by decide) (by decide) (by decide) (fun z hz => by simp at hz) w320 (by decide +kernel) h1 h2 h3 ?_)
      refine lv_astore (lv' := [(7, .ref (q9)), (0, .ref (ad 0)), (1, .int (p1)), (2, .int (p2)), (3, .long (p3)), (5, .int (p5)), (6, .ref (oa))]) C.2.1 C.2.2.1 d_W_draws_17 hl (by decide) rfl (fun ls hl => ?_)
      refine lv_iconst (v := (1)) C.2.1 C.2.2.1 d_W_draws_19 (by decide) ?_
      exact g_hret (u := (u', o)) C hw he d_W_draws_20
    · refine W_x9 (k := 1) (n := 6) (Nat.le_of_ble_eq_true rfl) (Nat.le_of_ble_eq_true rfl) (g_catch C htab 1 rfl (by decide) (by decide) (by decide) (fun z hz => by
      simp only [List.take, List.mem_cons, List.not_mem_nil, or_false] at hz
      rcases hz with rfl
      · exact ⟨by decide, "java/lang/IndexOutOfBoundsException", w320, by decide +kernel⟩) w321 (by decide +kernel) h1 h2 h3 ?_)
      refine lv_astore (lv' := [(7, .ref (q9)), (0, .ref (ad 0)), (1, .int (p1)), (2, .int (p2)), (3, .long (p3)), (5, .int (p5)), (6, .ref (oa))]) C.2.1 C.2.2.1 d_W_draws_21 hl (by decide) rfl (fun ls hl => ?_)
      refine lv_iconst (v := (2)) C.2.1 C.2.2.1 d_W_draws_23 (by decide) ?_
      exact g_hret (u := (u', o)) C hw he d_W_draws_24
    · refine W_x9 (k := 1) (n := 6) (Nat.le_of_ble_eq_true rfl) (Nat.le_of_ble_eq_true rfl) (g_catch C htab 2 rfl (by decide) (by decide) (by decide) (fun z hz => by
      simp only [List.take, List.mem_cons, List.not_mem_nil, or_false] at hz
      rcases hz with rfl | rfl
      · exact ⟨by decide, "java/lang/IndexOutOfBoundsException", w320, by decide +kernel⟩
      · exact ⟨by decide, "java/lang/IllegalArgumentException", w321, by decide +kernel⟩) w322 (by decide +kernel) h1 h2 h3 ?_)
      refine lv_astore (lv' := [(7, .ref (q9)), (0, .ref (ad 0)), (1, .int (p1)), (2, .int (p2)), (3, .long (p3)), (5, .int (p5)), (6, .ref (oa))]) C.2.1 C.2.2.1 d_W_draws_25 hl (by decide) rfl (fun ls hl => ?_)
      refine lv_iconst (v := (3)) C.2.1 C.2.2.1 d_W_draws_27 (by decide) ?_
      exact g_hret (u := (u', o)) C hw he d_W_draws_28
  · intro r u' H locs hq hw
    refine lv_i2l C.2.1 C.2.2.1 d_W_draws_12 rfl ?_
    refine g_stl (k9 := 1) C hw 11 rfl vin01 d_W_draws_13 (fun H locs hw => ?_)
    have hw : WD Z _ s (fH Z ad oa (u', vp_updL o (0 : Int32).toNatClampNeg r.toInt64)) H locs := hw
    refine lv_goto (tgt := 29) C.2.1 C.2.2.1 d_W_draws_14 (by decide) ?_
    refine lv_iconst (v := (0)) C.2.1 C.2.2.1 d_W_draws_29 (by decide) ?_
    refine W.widen (k := 1) (n := 6) (Nat.le_of_ble_eq_true rfl) (Nat.le_of_ble_eq_true rfl) ?_
    exact g_hret (u := (u', vp_updL o (0 : Int32).toNatClampNeg r.toInt64)) C hw hq d_W_draws_30
abbrev rm_W_charAt : Room := { frames := 7, cells := 1, slots := 6, locals := 111 }
abbrev hh_W_charAt : List (Nat × Nat × Nat × Nat) := [(0, 9, 12, 22)]
def qh_W_charAt (p1 : Int32) (u : CT) (o : Nat → Int64) (post : Int32 → CT × (Nat → Int64) → Prop) : Prop :=
  q_X_charAt p1 u (fun r u' => post 0 (u', vp_updL o (0 : Int32).toNatClampNeg r.toInt64)) (fun E u' => (E = "java/lang/IndexOutOfBoundsException" ∧ post 1 (u', o)))
set_option maxRecDepth 100000 in
theorem ch_W_charAt {l : Launch} {Z : ZT} {ad : Nat → Nat} {oa : Nat} {u : CT} {o : Nat → Int64} {p1 : Int32} {post : Int32 → CT × (Nat → Int64) → Prop} (hl0 : l.stackTraces = false) (h : qh_W_charAt p1 u o post) : ∀ sz, Met l y_W_charAt (Cond.codeWith y_W_charAt b_W_charAt 4 (some .int) hh_W_charAt :: GW) rm_W_charAt (pP Z [.ref (ad 0), .int (p1), .ref (oa)] (fH Z ad oa (u, o)) sz) (pQi Z (fH Z ad oa) (fH Z ad oa (u, o)) sz post) rm_W_charAt.cells rm_W_charAt.slots (va_A (fH Z ad oa (u, o)) sz) := by
  refine g_entH (f := fH Z ad oa) (Qc := fun sz => pQi Z (fH Z ad oa) (fH Z ad oa (u, o)) sz post) hl0 (by decide +kernel) (Nat.le_of_ble_eq_true rfl) ?_
  intro p e s m args below meth c ls C htab hw hl
  have hl : lv_has ls 4 [(0, .ref (ad 0)), (1, .int (p1)), (2, .ref (oa))] := hl
  unfold qh_W_charAt at h
  refine lv_aload_n C.2.1 C.2.2.1 d_W_charAt_0 rfl (lv_at hl 2 rfl) ?_
  refine lv_iconst (v := (0)) C.2.1 C.2.2.1 d_W_charAt_1 (by decide) ?_
  refine lv_aload_n C.2.1 C.2.2.1 d_W_charAt_2 rfl (lv_at hl 0 rfl) ?_
  refine lv_iload_n C.2.1 C.2.2.1 d_W_charAt_3 rfl (lv_at hl 1 rfl) ?_
  refine g_V_i (n := 1) (f := cX Z ad) (u := u) (wr := [oC Z oa o]) (As := [.int (p1)]) C hw (c_X_charAt C.1 h) ⟨w544, w545, w546, w53, w547, (by decide +kernel), (by decide +kernel), (by decide +kernel)⟩ ⟨Nat.le_of_ble_eq_true rfl, Nat.le_of_ble_eq_true rfl, Nat.le_of_ble_eq_true rfl, Nat.le_of_ble_eq_true rfl⟩ 0 rfl rfl rfl hl.1 rfl (Nat.le_of_ble_eq_true rfl) d_W_charAt_4 ?_ ?_
  · intro E u' q9 ce H locs he hw h1 h2 h3
    obtain ⟨rfl, he⟩ := he
    · refine W_x9 (k := 1) (n := 6) (Nat.le_of_ble_eq_true rfl) (Nat.le_of_ble_eq_true rfl) (g_catch C htab 0 rfl (by decide) (by decide) (by decide) (fun z hz => by simp at hz) w320 (by decide +kernel) h1 h2 h3 ?_)
      refine lv_astore_n (lv' := [(3, .ref (q9)), (0, .ref (ad 0)), (1, .int (p1)), (2, .ref (oa))]) C.2.1 C.2.2.1 d_W_charAt_12 rfl hl (by decide) rfl (fun ls hl => ?_)
      refine lv_iconst (v := (1)) C.2.1 C.2.2.1 d_W_charAt_13 (by decide) ?_
      exact g_hret (u := (u', o)) C hw he d_W_charAt_14
  · intro r u' H locs hq hw
    refine lv_i2l C.2.1 C.2.2.1 d_W_charAt_7 rfl ?_
    refine g_stl (k9 := 1) C hw 11 rfl vin01 d_W_charAt_8 (fun H locs hw => ?_)
    have hw : WD Z _ s (fH Z ad oa (u', vp_updL o (0 : Int32).toNatClampNeg r.toInt64)) H locs := hw
    refine lv_goto (tgt := 15) C.2.1 C.2.2.1 d_W_charAt_9 (by decide) ?_
    refine lv_iconst (v := (0)) C.2.1 C.2.2.1 d_W_charAt_15 (by decide) ?_
    refine W.widen (k := 1) (n := 6) (Nat.le_of_ble_eq_true rfl) (Nat.le_of_ble_eq_true rfl) ?_
    exact g_hret (u := (u', vp_updL o (0 : Int32).toNatClampNeg r.toInt64)) C hw hq d_W_charAt_16
