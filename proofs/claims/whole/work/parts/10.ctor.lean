/-! ===== constructors ===== -/
theorem ra_uni {s : State} {c c' : ClassId} {ty : FieldType} (h : va_RA s c ty) (h' : va_RA s c' ty) : c = c' := by
  cases ty with
  | object C =>
    obtain ⟨_, _, _, _, _, h4⟩ := h
    obtain ⟨_, _, _, _, _, h4'⟩ := h'
    exact Option.some.inj (h4.symm.trans h4')
  | _ => exact Option.some.inj ((show s.vm.findClass _ = some c from h).symm.trans h')
theorem WD.swap {Z : ZT} {A : Nat → Prop} {s : State} {a b : va_W} {H : Heap} {locs : List Loc} (h : WD Z A s (a ++ b) H locs) : WD Z A s (b ++ a) H locs :=
  ⟨(o_right h.1).app (o_left h.1), (o_dright h.2.1).app (o_dleft h.2.1) (fun i j p q hp hq e => o_dne h.2.1 hq hp e.symm), h.2.2⟩
def gI (own : String) (index : Nat) (y : MethodName) (bytes : ByteArray) (maxL : Nat) (n : Nat) : Prop :=
  Cond.methodLink own index y ∈ GW ∧ Cond.instanceMethod y ∈ GW ∧ y.name = "<init>" ∧ Cond.initialized y.cls ∈ GW ∧ Cond.code y bytes maxL none ∈ GW ∧ y.cls ≠ "java/lang/invoke/MethodHandle" ∧ y.cls ≠ "java/lang/invoke/VarHandle" ∧ (parseMethodDescriptor y.desc).map (fun d => d.parameters.length) = some n
def gIN (own : String) (index : Nat) (y : MethodName) (host : String) (bytes : ByteArray) (maxL : Nat) (n : Nat) : Prop :=
  Cond.methodLinkNest own index y host ∈ NG ∧ Cond.instanceMethod y ∈ GW ∧ y.name = "<init>" ∧ Cond.initialized y.cls ∈ GW ∧ Cond.code y bytes maxL none ∈ GW ∧ y.cls ≠ "java/lang/invoke/MethodHandle" ∧ y.cls ≠ "java/lang/invoke/VarHandle" ∧ (parseMethodDescriptor y.desc).map (fun d => d.parameters.length) = some n
section CTA
variable {σ : Type} {f : σ → va_W} {u : σ} {wr ws : va_W} {own host : String} {cc bytes : ByteArray} {nL maxL index n : Nat} {rt0 rt : Option FieldType} {Z : ZT} {A : Nat → Prop}
variable {p : Program} {l : Launch} {e : Env} {R : Room} {s : State} {m : MethodId} {args : Array Value} {below : List Frame} {meth : Method} {c : Code} {H : Heap} {locs : List Loc} {cells slots : Nat} {Q : State → Prop}
variable {y : MethodName} {rm : Room} {As rest st0 : List Value} {pc : Nat} {ls : Array Slot} {b : Addr} {ci : Nat} {fs : List Value} {T : u_T} {N a : Nat} {Cn : String}
theorem g_entM {av : List Value} {Qc : Nat → Array Value → State → Outcome → State → Prop}
    (hl : l.stackTraces = false) (hy : plainName y.cls = true) (hav : (lg_sl av).length ≤ maxL)
    (body : ∀ (p : Program) (e : Env) (s : State) (m : MethodId) (args : Array Value) (below : List Frame) (meth : Method) (c : Code) (ls : Array Slot), CX y.cls bytes maxL rt Z (va_A (f u) s.heap.size) p l s m args meth c → meth.name = y.name → WD Z (va_A (f u) s.heap.size) s (f u) s.heap [] → lv_has ls maxL (lv_args 0 av) →
      W p l e rm s m args below meth c s.heap [] 0 0 (MQ below (Qc s.heap.size) args s rm.cells rm.slots (va_A (f u) s.heap.size)) (F0 m 0 ls [])) :
    ∀ sz, Met l y (Cond.code y bytes maxL rt :: GW) rm (pP Z av (f u) sz) (Qc sz) rm.cells rm.slots (va_A (f u) sz) := by
  intro sz
  refine Met.ofW (cc := bytes) (maxL := maxL) (ret := rt) hy rfl ?_
  intro p e s m args below meth c s₁ B hml hv
  obtain ⟨rfl, hsz, hP, hK, hD0, hE⟩ := hv
  subst hsz
  have hts := atoms_spec (ws := Cond.code y bytes maxL rt :: GW) B.pre
  have hl9 := lv_entry av (n := maxL) hav
  rw [lg_entry_eq]
  exact body p e s m _ below meth c _ ⟨hl, B.exec, B.bytes, hml, findClass_of_methodNamed B.named, fun w h => hts w (List.mem_cons_of_mem _ h), B.returns, B.notSynchronized, hK, hE, fun q h => Or.inr h⟩ (name_of_methodNamed B.named B.method).1 ⟨hP, hD0.self, va_S.rf⟩ hl9
theorem g_mvret {u0 : σ} {post : σ → Prop} (C : CX own cc nL none Z (va_A (f u0) s.heap.size) p l s m args meth c) (hw : WD Z (va_A (f u0) s.heap.size) s (f u) H locs) (h : post u) (hdg : decode cc pc = .ok (.return_, 1)) :
    W p l e R s m args below meth c H locs cells slots (MQ below (pQv Z f (f u0) s.heap.size post) args s cells slots (va_A (f u0) s.heap.size)) (F0 m pc ls []) :=
  W.vret C.2.1 C.2.2.1 C.2.2.2.2.2.2.1 (fun t ht hW => ⟨⟨u, rfl, h, by rw [ht]; exact hw.1, hw.2.1⟩, hw.2.2.F ht⟩) hw.2.2.2.2 hdg C.2.2.2.2.2.2.2.1
theorem g_obj (C : CX own cc nL rt0 Z A p l s m args meth c) (h1 : Cond.methodLink own index objectInit ∈ GW) (h2 : Cond.instanceMethod objectInit ∈ GW) (h3 : Cond.code objectInit ⟨#[0xb1]⟩ 1 none ∈ GW) (hl : ls.size = nL) (hd : decode cc pc = .ok (.invokespecial index, 3)) (hR : 1 ≤ R.frames ∧ (rest.map fun v => v.category).sum + 12 ≤ R.locals)
    (kk : W p l e R s m args below meth c H locs cells slots Q (F0 m (pc + 3) ls rest)) : W p l e R s m args below meth c H locs cells slots Q (F0 m pc ls (.ref a :: rest)) :=
  W.objInit C.2.1 C.2.2.1 C.2.2.2.2.1 (C.2.2.2.2.2.1 _ h1) (C.2.2.2.2.2.1 _ h2) (C.2.2.2.2.2.1 _ h3) rfl (by rw [C.2.2.2.1]; exact hl) rfl hd hR.1 (by show 2 * 0 + _ + 12 ≤ _; have := hR.2; omega) kk
theorem g_newa {atype : ArrayType} {ty : FieldType} {t0 N' : Nat} {v : Int32} {a0 : vp_A} (C : CX own cc nL rt0 Z A p l s m args meth c) (hw : WD Z A s ws H locs) (hty : newarray.typeOf atype = ty) (harr : Cond.arrayClass ty ∈ GW) (ht : (tyl Z.2.1)[t0]? = some (Z.2.1 t0, ty))
    (ha : ∀ cA : ClassId, vp_cell cA a0 = arrV cA N' (fun _ => defaultValue ty)) (hn : ¬ v < 0) (hN : v.toNatClampNeg = N') (hbytes : N' * componentBytes ty ≤ 536870912) (hcells : cells + 1 ≤ R.cells) (hslots : slots + N' ≤ R.slots) (hdg : decode cc pc = .ok (.newarray atype, 2))
    (kk : ∀ (q : Nat) (H1 : Heap), WD Z A s (ws ++ [(q, .inl (Z.2.1 t0, a0))]) H1 locs → W p l e R s m args below meth c H1 locs (cells + 1) (slots + N') Q (F0 m (pc + 2) ls (.ref q :: rest))) : W p l e R s m args below meth c H locs cells slots Q (F0 m pc ls (.int v :: rest)) := by
  have hK : KX Z s := C.2.2.2.2.2.2.2.2.1
  refine va_newa C.2.1 C.2.2.1 (by rw [hty]; exact C.2.2.2.2.2.1 _ harr) hty hK hw.1 hw.2.1 hw.2.2 C.2.2.2.2.2.2.2.2.2.2 ha hn hN hbytes hcells hslots hdg (fun q cA H1 hK1 hP1 hD1 hS1 => ?_)
  have e1 : cA = Z.2.1 t0 := ra_uni (hK1.2 4 (cA, ty) rfl).2 (hK.2 t0 _ ht).2
  subst e1
  exact kk q H1 ⟨hP1, hD1, hS1⟩
theorem g_new (C : CX own cc nL rt0 Z A p l s m args meth c) (hw : WD Z A s ws H locs) (hin : ∀ w ∈ u_ws Cn T N, w ∈ GW) (ty : Nat → FieldType) (hty : ∀ k, k < N → parseFieldDescriptor (T k).2.2.1 = some (ty k)) (h1 : Cond.classLink own index Cn ∈ GW) (h2 : Cond.instantiable Cn N ∈ GW) (h3 : Cond.initialized Cn ∈ GW) (hc : cls4[ci]? = some (Cn, T, N)) (hfs : ∀ j, j < N → defaultValue (ty j) = vp_V fs j) (hcells : cells + 1 ≤ R.cells) (hslots : slots + N ≤ R.slots) (hdg : decode cc pc = .ok (.new index, 3))
    (kk : ∀ (q : Nat) (H1 : Heap), WD Z A s (ws ++ [(q, .inr (ci, fs))]) H1 locs → W p l e R s m args below meth c H1 locs (cells + 1) (slots + N) Q (F0 m (pc + 3) ls (.ref q :: rest))) : W p l e R s m args below meth c H locs cells slots Q (F0 m pc ls rest) :=
  va_new C.2.1 C.2.2.1 C.2.2.2.2.2.1 hin ty hty C.2.2.2.2.1 (C.2.2.2.2.2.1 _ h1) (C.2.2.2.2.2.1 _ h2) (C.2.2.2.2.2.1 _ h3) C.2.2.2.2.2.2.2.2.1 hw.1 hw.2.1 hw.2.2 C.2.2.2.2.2.2.2.2.2.2 hc hfs hcells hslots hdg (fun q H1 h1 h2 h3 => kk q H1 ⟨h1, h2, h3⟩)
theorem g_putF (C : CX own cc nL rt0 Z A p l s m args meth c) (hm : meth.name = "<init>") (hw : WD Z A s ws H locs) (q0 : Nat) (he : ws[q0]? = some (a, .inr (ci, fs))) (hc : cls4[ci]? = some (own, T, N)) (hin : ∀ w ∈ u_ws own T N, w ∈ GW) (ty0 : Nat → FieldType) (hty : ∀ k, k < N → parseFieldDescriptor (T k).2.2.1 = some (ty0 k)) (hnm : ∀ a, a < N → ∀ b, b < N → a ≠ b → (T a).2.1 ≠ (T b).2.1) (k : Nat) (hk : k < N) (hlink : Cond.fieldLink own index own (T k).2.1 (T k).2.2.1 ∈ GW) (hT : (T k).1 = own) (hfin : (T k).2.2.2 = true) {v : Value} (hn : narrow (ty0 k) v = v) (hfit : fits (ty0 k) v = true) (hl : k < fs.length) (hdg : decode cc pc = .ok (.putfield index, 3))
    (kk : ∀ (H1 : Heap) (locs1 : List Loc), WD Z A s (ws.set q0 (a, .inr (ci, fs.set k v))) H1 locs1 → W p l e R s m args below meth c H1 locs1 cells slots Q (F0 m (pc + 3) ls rest)) : W p l e R s m args below meth c H locs cells slots Q (F0 m pc ls (v :: .ref a :: rest)) :=
  va_putF C.2.1 C.2.2.1 C.2.2.2.2.2.1 hin ty0 hty hnm C.2.2.2.2.1 C.2.2.2.2.2.2.2.2.1 hw.1 hw.2.1 hw.2.2 q0 he hc k hk (C.2.2.2.2.2.1 _ hlink) (fun x h => by rw [hT] at h; exact h) hfin hm hT (hty k hk) hn hfit hl hdg (fun H1 locs1 h1 h2 h3 => kk H1 locs1 ⟨h1, h2, h3⟩)
theorem g_I_v {post : σ → Prop} (C : CX own cc nL rt0 Z A p l s m args meth c) (hw : WD Z A s (f u ++ wr) H locs)
    (hM : ∀ sz, Met l y (Cond.code y bytes maxL none :: GW) rm (pP Z (.ref b :: As) (f u) sz) (pQv Z f (f u) sz post) rm.cells rm.slots (va_A (f u) sz))
    (hg : gI own index y bytes maxL n) (hR : rmOk rm maxL R cells slots)
    (hn : As.length = n) (hl : ls.size = nL) (hst : st0 = As.reverse ++ .ref b :: rest) (hW : (rest.map fun v => v.category).sum ≤ 8) (hdg : decode cc pc = .ok (.invokespecial index, 3))
    (kk : ∀ (u' : σ) (H1 : Heap) (locs1 : List Loc), post u' → WD Z A s (f u' ++ wr) H1 locs1 → W p l e R s m args below meth c H1 locs1 (cells + rm.cells) (slots + rm.slots) Q (F0 m (pc + 3) ls rest)) : W p l e R s m args below meth c H locs cells slots Q (F0 m pc ls st0) := by
  obtain ⟨g1, g2, g3, g4, g5, g6, g7, g8⟩ := hg
  obtain ⟨r1, r2, r3, r4⟩ := hR
  have hpre := g_pre C hw (.ref b :: As)
  have hF := o_free hw.2.1 hw.2.2 C.2.2.2.2.2.2.2.2.2.2
  have hgw := C.2.2.2.2.2.1
  subst hst
  refine va_callv (va_runI (As := As) (rest := rest) ⟨C.2.1, C.2.2.1, C.2.2.2.1, C.2.2.2.2.1, hgw⟩ (hM H.size) (cwI n hgw (gw_cons g5) rfl rfl rfl (hgw _ g4) (hgw _ g1) (hgw _ g2) g3 ⟨g6, g7, g8⟩ ⟨r1, r2⟩) ⟨pP_blind, hpre⟩ rfl hn hl rfl (lv_room hW) hdg ⟨r3, r4⟩) hw.2.2 (fun q _ h => hF q h) hF ?_
  intro u' t H1 locs1 ht hvm hp hB hz hk hS1
  exact kk u' H1 locs1 hp (g_join C hw ht hB hk hS1)
theorem g_IN_v {post : σ → Prop} (C : CX own cc nL rt0 Z A p l s m args meth c) (hw : WD Z A s (f u ++ wr) H locs)
    (hM : ∀ sz, Met l y (Cond.code y bytes maxL none :: GW) rm (pP Z (.ref b :: As) (f u) sz) (pQv Z f (f u) sz post) rm.cells rm.slots (va_A (f u) sz))
    (hg : gIN own index y host bytes maxL n) (hR : rmOk rm maxL R cells slots)
    (hn : As.length = n) (hl : ls.size = nL) (hst : st0 = As.reverse ++ .ref b :: rest) (hW : (rest.map fun v => v.category).sum ≤ 8) (hdg : decode cc pc = .ok (.invokespecial index, 3))
    (kk : ∀ (u' : σ) (H1 : Heap) (locs1 : List Loc), post u' → WD Z A s (f u' ++ wr) H1 locs1 → W p l e R s m args below meth c H1 locs1 (cells + rm.cells) (slots + rm.slots) Q (F0 m (pc + 3) ls rest)) : W p l e R s m args below meth c H locs cells slots Q (F0 m pc ls st0) := by
  obtain ⟨g1, g2, g3, g4, g5, g6, g7, g8⟩ := hg
  obtain ⟨r1, r2, r3, r4⟩ := hR
  have hpre := g_pre C hw (.ref b :: As)
  have hF := o_free hw.2.1 hw.2.2 C.2.2.2.2.2.2.2.2.2.2
  have hgw := C.2.2.2.2.2.1
  subst hst
  refine va_callv (va_runIN (As := As) (rest := rest) ⟨C.2.1, C.2.2.1, C.2.2.2.1, C.2.2.2.2.1, hgw⟩ (hM H.size) ⟨va_cnB n hgw (gw_cons g5) rfl rfl rfl (C.2.2.2.2.2.2.2.2.2.1.1 _ g1) (hgw _ g4) ⟨g6, g7, g8⟩ ⟨r1, r2⟩, g3, hgw _ g2⟩ ⟨pP_blind, hpre⟩ rfl hn hl rfl (lv_room hW) hdg ⟨r3, r4⟩) hw.2.2 (fun q _ h => hF q h) hF ?_
  intro u' t H1 locs1 ht hvm hp hB hz hk hS1
  exact kk u' H1 locs1 hp (g_join C hw ht hB hk hS1)
end CTA
abbrev rm_N_init : Room := { frames := 1, cells := 0, slots := 0, locals := 12 }
theorem cc_N_init {l : Launch} {Z : ZT} {h0 : Nat} (hl0 : l.stackTraces = false) : ∀ sz, Met l y_N_init (Cond.code y_N_init b_N_init 1 none :: GW) rm_N_init (pP Z [.ref h0] [(h0, .inr (1, [.long 0]))] sz) (pQv Z (fun (_ : Unit) => [(h0, .inr (1, [.long 0]))]) [(h0, .inr (1, [.long 0]))] sz (fun _ => True)) rm_N_init.cells rm_N_init.slots (va_A [(h0, .inr (1, [.long 0]))] sz) := by
  refine g_entM (f := fun (_ : Unit) => [(h0, .inr (1, [.long 0]))]) (u := ()) (Qc := fun sz => pQv Z (fun (_ : Unit) => [(h0, .inr (1, [.long 0]))]) [(h0, .inr (1, [.long 0]))] sz (fun _ => True)) hl0 (by decide +kernel) (Nat.le_of_ble_eq_true rfl) ?_
  intro p e s m args below meth c ls C hm hw hl
  have hl : lv_has ls 1 [(0, .ref h0)] := hl
  refine lv_aload_n C.2.1 C.2.2.1 d_N_init_0 rfl (lv_at hl 0 rfl) ?_
  refine g_obj C w79 w72 w73 hl.1 d_N_init_1 ⟨Nat.le_of_ble_eq_true rfl, Nat.le_of_ble_eq_true rfl⟩ ?_
  exact g_mvret (f := fun (_ : Unit) => [(h0, .inr (1, [.long 0]))]) (u0 := ()) (u := ()) C hw trivial d_N_init_4
def fL (Z : ZT) (h0 : Nat) : Option Nat → va_W
  | none => [(h0, .inr (0, [.null, .int 0]))]
  | some q => [(h0, .inr (0, [.ref q, .int 0])), (q, .inl (Z.2.1 1, 136, .inl (fun _ => 0)))]
abbrev rm_L_init : Room := { frames := 1, cells := 1, slots := 136, locals := 12 }
theorem cc_L_init {l : Launch} {Z : ZT} {h0 : Nat} (hl0 : l.stackTraces = false) : ∀ sz, Met l y_L_init (Cond.code y_L_init b_L_init 1 none :: GW) rm_L_init (pP Z [.ref h0] (fL Z h0 none) sz) (pQv Z (fL Z h0) (fL Z h0 none) sz (fun u => ∃ q, u = some q)) rm_L_init.cells rm_L_init.slots (va_A (fL Z h0 none) sz) := by
  refine g_entM (f := fL Z h0) (u := none) (Qc := fun sz => pQv Z (fL Z h0) (fL Z h0 none) sz (fun u => ∃ q, u = some q)) hl0 (by decide +kernel) (Nat.le_of_ble_eq_true rfl) ?_
  intro p e s m args below meth c ls C hm hw hl
  have hl : lv_has ls 1 [(0, .ref h0)] := hl
  refine lv_aload_n C.2.1 C.2.2.1 d_L_init_0 rfl (lv_at hl 0 rfl) ?_
  refine g_obj C w90 w72 w73 hl.1 d_L_init_1 ⟨Nat.le_of_ble_eq_true rfl, Nat.le_of_ble_eq_true rfl⟩ ?_
  refine lv_aload_n C.2.1 C.2.2.1 d_L_init_4 rfl (lv_at hl 0 rfl) ?_
  refine lv_sipush (v := (136)) C.2.1 C.2.2.1 d_L_init_5 (by decide) ?_
  refine g_newa (atype := .char) (ty := .char) (t0 := 1) (N' := 136) (a0 := (136, .inl (fun _ => 0))) C hw rfl w100 rfl (fun _ => rfl) (by decide) (by decide) (by decide) (Nat.le_of_ble_eq_true rfl) (Nat.le_of_ble_eq_true rfl) d_L_init_8 (fun a1 H hw => ?_)
  have hw : WD Z _ s [(h0, .inr (0, [.null, .int 0])), (a1, .inl (Z.2.1 1, 136, .inl (fun _ => 0)))] H _ := hw
  refine g_putF C hm hw 0 rfl rfl in_L ty_L ty_L_ok nm_L 0 (by decide) w91 rfl rfl rfl rfl (Nat.le_of_ble_eq_true rfl) d_L_init_10 (fun H locs hw => ?_)
  have hw : WD Z _ s [(h0, .inr (0, [.ref a1, .int 0])), (a1, .inl (Z.2.1 1, 136, .inl (fun _ => 0)))] H _ := hw
  exact g_mvret (f := fL Z h0) (u0 := none) (u := some a1) C hw ⟨a1, rfl⟩ d_L_init_13
def x0 : CT := (0, 0, (fun _ => 0), (fun _ => 0), (fun _ => 0), (fun _ => 0), (fun _ => 0), 0, (fun _ => 0), 0, (fun _ => 0), 0, 0, (fun _ => 0), 0)
def fX0 (Z : ZT) (h0 : Nat) : Option (Nat → Nat) → va_W
  | none => [(h0, .inr (2, [.int 0, .int 0, .null, .null, .null, .null, .null, .int 0, .null, .int 0, .null, .int 0, .null, .null]))]
  | some ad => cX Z ad x0
abbrev rm_X_init : Room := { frames := 2, cells := 10, slots := 3049, locals := 52 }
set_option maxRecDepth 100000 in
theorem cc_X_init {l : Launch} {Z : ZT} {h0 : Nat} (hl0 : l.stackTraces = false) : ∀ sz, Met l y_X_init (Cond.code y_X_init b_X_init 1 none :: GW) rm_X_init (pP Z [.ref h0] (fX0 Z h0 none) sz) (pQv Z (fX0 Z h0) (fX0 Z h0 none) sz (fun u => ∃ ad : Nat → Nat, u = some ad ∧ ad 0 = h0)) rm_X_init.cells rm_X_init.slots (va_A (fX0 Z h0 none) sz) := by
  refine g_entM (f := fX0 Z h0) (u := none) (Qc := fun sz => pQv Z (fX0 Z h0) (fX0 Z h0 none) sz (fun u => ∃ ad : Nat → Nat, u = some ad ∧ ad 0 = h0)) hl0 (by decide +kernel) (Nat.le_of_ble_eq_true rfl) ?_
  intro p e s m args below meth c ls C hm hw hl
  have hl : lv_has ls 1 [(0, .ref h0)] := hl
  refine lv_aload_n C.2.1 C.2.2.1 d_X_init_0 rfl (lv_at hl 0 rfl) ?_
  refine g_obj C w71 w72 w73 hl.1 d_X_init_1 ⟨Nat.le_of_ble_eq_true rfl, Nat.le_of_ble_eq_true rfl⟩ ?_
  refine lv_aload_n C.2.1 C.2.2.1 d_X_init_4 rfl (lv_at hl 0 rfl) ?_
  refine lv_iconst (v := (0)) C.2.1 C.2.2.1 d_X_init_5 (by decide) ?_
  refine g_put C hw 0 rfl rfl in_X ty_X ty_X_ok nm_X 0 (by decide) w101 rfl rfl rfl rfl (Nat.le_of_ble_eq_true rfl) d_X_init_6 (fun H locs hw => ?_)
  have hw : WD Z _ s [(h0, .inr (2, [.int 0, .int 0, .null, .null, .null, .null, .null, .int 0, .null, .int 0, .null, .int 0, .null, .null]))] H _ := hw
  refine lv_aload_n C.2.1 C.2.2.1 d_X_init_9 rfl (lv_at hl 0 rfl) ?_
  refine lv_iconst (v := (0)) C.2.1 C.2.2.1 d_X_init_10 (by decide) ?_
  refine g_put C hw 0 rfl rfl in_X ty_X ty_X_ok nm_X 1 (by decide) w102 rfl rfl rfl rfl (Nat.le_of_ble_eq_true rfl) d_X_init_11 (fun H locs hw => ?_)
  have hw : WD Z _ s [(h0, .inr (2, [.int 0, .int 0, .null, .null, .null, .null, .null, .int 0, .null, .int 0, .null, .int 0, .null, .null]))] H _ := hw
  refine lv_aload_n C.2.1 C.2.2.1 d_X_init_14 rfl (lv_at hl 0 rfl) ?_
  refine lv_sipush (v := (192)) C.2.1 C.2.2.1 d_X_init_15 (by decide) ?_
  refine g_newa (atype := .int) (ty := .int) (t0 := 0) (N' := 192) (a0 := (192, .inl (fun _ => 0))) C hw rfl w84 rfl (fun _ => rfl) (by decide) (by decide) (by decide) (Nat.le_of_ble_eq_true rfl) (Nat.le_of_ble_eq_true rfl) d_X_init_18 (fun a1 H hw => ?_)
  have hw : WD Z _ s [(h0, .inr (2, [.int 0, .int 0, .null, .null, .null, .null, .null, .int 0, .null, .int 0, .null, .int 0, .null, .null])), (a1, .inl (Z.2.1 0, 192, .inl (fun _ => 0)))] H _ := hw
  refine g_putF C hm hw 0 rfl rfl in_X ty_X ty_X_ok nm_X 2 (by decide) w103 rfl rfl rfl rfl (Nat.le_of_ble_eq_true rfl) d_X_init_20 (fun H locs hw => ?_)
  have hw : WD Z _ s [(h0, .inr (2, [.int 0, .int 0, .ref a1, .null, .null, .null, .null, .int 0, .null, .int 0, .null, .int 0, .null, .null])), (a1, .inl (Z.2.1 0, 192, .inl (fun _ => 0)))] H _ := hw
  refine lv_aload_n C.2.1 C.2.2.1 d_X_init_23 rfl (lv_at hl 0 rfl) ?_
  refine lv_sipush (v := (192)) C.2.1 C.2.2.1 d_X_init_24 (by decide) ?_
  refine g_newa (atype := .int) (ty := .int) (t0 := 0) (N' := 192) (a0 := (192, .inl (fun _ => 0))) C hw rfl w84 rfl (fun _ => rfl) (by decide) (by decide) (by decide) (Nat.le_of_ble_eq_true rfl) (Nat.le_of_ble_eq_true rfl) d_X_init_27 (fun a2 H hw => ?_)
  have hw : WD Z _ s [(h0, .inr (2, [.int 0, .int 0, .ref a1, .null, .null, .null, .null, .int 0, .null, .int 0, .null, .int 0, .null, .null])), (a1, .inl (Z.2.1 0, 192, .inl (fun _ => 0))), (a2, .inl (Z.2.1 0, 192, .inl (fun _ => 0)))] H _ := hw
  refine g_putF C hm hw 0 rfl rfl in_X ty_X ty_X_ok nm_X 3 (by decide) w104 rfl rfl rfl rfl (Nat.le_of_ble_eq_true rfl) d_X_init_29 (fun H locs hw => ?_)
  have hw : WD Z _ s [(h0, .inr (2, [.int 0, .int 0, .ref a1, .ref a2, .null, .null, .null, .int 0, .null, .int 0, .null, .int 0, .null, .null])), (a1, .inl (Z.2.1 0, 192, .inl (fun _ => 0))), (a2, .inl (Z.2.1 0, 192, .inl (fun _ => 0)))] H _ := hw
  refine lv_aload_n C.2.1 C.2.2.1 d_X_init_32 rfl (lv_at hl 0 rfl) ?_
  refine lv_sipush (v := (1152)) C.2.1 C.2.2.1 d_X_init_33 (by decide) ?_
  refine g_newa (atype := .int) (ty := .int) (t0 := 0) (N' := 1152) (a0 := (1152, .inl (fun _ => 0))) C hw rfl w84 rfl (fun _ => rfl) (by decide) (by decide) (by decide) (Nat.le_of_ble_eq_true rfl) (Nat.le_of_ble_eq_true rfl) d_X_init_36 (fun a3 H hw => ?_)
  have hw : WD Z _ s [(h0, .inr (2, [.int 0, .int 0, .ref a1, .ref a2, .null, .null, .null, .int 0, .null, .int 0, .null, .int 0, .null, .null])), (a1, .inl (Z.2.1 0, 192, .inl (fun _ => 0))), (a2, .inl (Z.2.1 0, 192, .inl (fun _ => 0))), (a3, .inl (Z.2.1 0, 1152, .inl (fun _ => 0)))] H _ := hw
  refine g_putF C hm hw 0 rfl rfl in_X ty_X ty_X_ok nm_X 4 (by decide) w105 rfl rfl rfl rfl (Nat.le_of_ble_eq_true rfl) d_X_init_38 (fun H locs hw => ?_)
  have hw : WD Z _ s [(h0, .inr (2, [.int 0, .int 0, .ref a1, .ref a2, .ref a3, .null, .null, .int 0, .null, .int 0, .null, .int 0, .null, .null])), (a1, .inl (Z.2.1 0, 192, .inl (fun _ => 0))), (a2, .inl (Z.2.1 0, 192, .inl (fun _ => 0))), (a3, .inl (Z.2.1 0, 1152, .inl (fun _ => 0)))] H _ := hw
  refine lv_aload_n C.2.1 C.2.2.1 d_X_init_41 rfl (lv_at hl 0 rfl) ?_
  refine lv_sipush (v := (1152)) C.2.1 C.2.2.1 d_X_init_42 (by decide) ?_
  refine g_newa (atype := .int) (ty := .int) (t0 := 0) (N' := 1152) (a0 := (1152, .inl (fun _ => 0))) C hw rfl w84 rfl (fun _ => rfl) (by decide) (by decide) (by decide) (Nat.le_of_ble_eq_true rfl) (Nat.le_of_ble_eq_true rfl) d_X_init_45 (fun a4 H hw => ?_)
  have hw : WD Z _ s [(h0, .inr (2, [.int 0, .int 0, .ref a1, .ref a2, .ref a3, .null, .null, .int 0, .null, .int 0, .null, .int 0, .null, .null])), (a1, .inl (Z.2.1 0, 192, .inl (fun _ => 0))), (a2, .inl (Z.2.1 0, 192, .inl (fun _ => 0))), (a3, .inl (Z.2.1 0, 1152, .inl (fun _ => 0))), (a4, .inl (Z.2.1 0, 1152, .inl (fun _ => 0)))] H _ := hw
  refine g_putF C hm hw 0 rfl rfl in_X ty_X ty_X_ok nm_X 5 (by decide) w106 rfl rfl rfl rfl (Nat.le_of_ble_eq_true rfl) d_X_init_47 (fun H locs hw => ?_)
  have hw : WD Z _ s [(h0, .inr (2, [.int 0, .int 0, .ref a1, .ref a2, .ref a3, .ref a4, .null, .int 0, .null, .int 0, .null, .int 0, .null, .null])), (a1, .inl (Z.2.1 0, 192, .inl (fun _ => 0))), (a2, .inl (Z.2.1 0, 192, .inl (fun _ => 0))), (a3, .inl (Z.2.1 0, 1152, .inl (fun _ => 0))), (a4, .inl (Z.2.1 0, 1152, .inl (fun _ => 0)))] H _ := hw
  refine lv_aload_n C.2.1 C.2.2.1 d_X_init_50 rfl (lv_at hl 0 rfl) ?_
  refine lv_sipush (v := (192)) C.2.1 C.2.2.1 d_X_init_51 (by decide) ?_
  refine g_newa (atype := .int) (ty := .int) (t0 := 0) (N' := 192) (a0 := (192, .inl (fun _ => 0))) C hw rfl w84 rfl (fun _ => rfl) (by decide) (by decide) (by decide) (Nat.le_of_ble_eq_true rfl) (Nat.le_of_ble_eq_true rfl) d_X_init_54 (fun a5 H hw => ?_)
  have hw : WD Z _ s [(h0, .inr (2, [.int 0, .int 0, .ref a1, .ref a2, .ref a3, .ref a4, .null, .int 0, .null, .int 0, .null, .int 0, .null, .null])), (a1, .inl (Z.2.1 0, 192, .inl (fun _ => 0))), (a2, .inl (Z.2.1 0, 192, .inl (fun _ => 0))), (a3, .inl (Z.2.1 0, 1152, .inl (fun _ => 0))), (a4, .inl (Z.2.1 0, 1152, .inl (fun _ => 0))), (a5, .inl (Z.2.1 0, 192, .inl (fun _ => 0)))] H _ := hw
  refine g_putF C hm hw 0 rfl rfl in_X ty_X ty_X_ok nm_X 6 (by decide) w107 rfl rfl rfl rfl (Nat.le_of_ble_eq_true rfl) d_X_init_56 (fun H locs hw => ?_)
  have hw : WD Z _ s [(h0, .inr (2, [.int 0, .int 0, .ref a1, .ref a2, .ref a3, .ref a4, .ref a5, .int 0, .null, .int 0, .null, .int 0, .null, .null])), (a1, .inl (Z.2.1 0, 192, .inl (fun _ => 0))), (a2, .inl (Z.2.1 0, 192, .inl (fun _ => 0))), (a3, .inl (Z.2.1 0, 1152, .inl (fun _ => 0))), (a4, .inl (Z.2.1 0, 1152, .inl (fun _ => 0))), (a5, .inl (Z.2.1 0, 192, .inl (fun _ => 0)))] H _ := hw
  refine lv_aload_n C.2.1 C.2.2.1 d_X_init_59 rfl (lv_at hl 0 rfl) ?_
  refine lv_iconst (v := (0)) C.2.1 C.2.2.1 d_X_init_60 (by decide) ?_
  refine g_put C hw 0 rfl rfl in_X ty_X ty_X_ok nm_X 7 (by decide) w108 rfl rfl rfl rfl (Nat.le_of_ble_eq_true rfl) d_X_init_61 (fun H locs hw => ?_)
  have hw : WD Z _ s [(h0, .inr (2, [.int 0, .int 0, .ref a1, .ref a2, .ref a3, .ref a4, .ref a5, .int 0, .null, .int 0, .null, .int 0, .null, .null])), (a1, .inl (Z.2.1 0, 192, .inl (fun _ => 0))), (a2, .inl (Z.2.1 0, 192, .inl (fun _ => 0))), (a3, .inl (Z.2.1 0, 1152, .inl (fun _ => 0))), (a4, .inl (Z.2.1 0, 1152, .inl (fun _ => 0))), (a5, .inl (Z.2.1 0, 192, .inl (fun _ => 0)))] H _ := hw
  refine lv_aload_n C.2.1 C.2.2.1 d_X_init_64 rfl (lv_at hl 0 rfl) ?_
  refine lv_bipush (v := (6)) C.2.1 C.2.2.1 d_X_init_65 (by decide) ?_
  refine g_newa (atype := .int) (ty := .int) (t0 := 0) (N' := 6) (a0 := (6, .inl (fun _ => 0))) C hw rfl w84 rfl (fun _ => rfl) (by decide) (by decide) (by decide) (Nat.le_of_ble_eq_true rfl) (Nat.le_of_ble_eq_true rfl) d_X_init_67 (fun a6 H hw => ?_)
  have hw : WD Z _ s [(h0, .inr (2, [.int 0, .int 0, .ref a1, .ref a2, .ref a3, .ref a4, .ref a5, .int 0, .null, .int 0, .null, .int 0, .null, .null])), (a1, .inl (Z.2.1 0, 192, .inl (fun _ => 0))), (a2, .inl (Z.2.1 0, 192, .inl (fun _ => 0))), (a3, .inl (Z.2.1 0, 1152, .inl (fun _ => 0))), (a4, .inl (Z.2.1 0, 1152, .inl (fun _ => 0))), (a5, .inl (Z.2.1 0, 192, .inl (fun _ => 0))), (a6, .inl (Z.2.1 0, 6, .inl (fun _ => 0)))] H _ := hw
  refine g_putF C hm hw 0 rfl rfl in_X ty_X ty_X_ok nm_X 8 (by decide) w109 rfl rfl rfl rfl (Nat.le_of_ble_eq_true rfl) d_X_init_69 (fun H locs hw => ?_)
  have hw : WD Z _ s [(h0, .inr (2, [.int 0, .int 0, .ref a1, .ref a2, .ref a3, .ref a4, .ref a5, .int 0, .ref a6, .int 0, .null, .int 0, .null, .null])), (a1, .inl (Z.2.1 0, 192, .inl (fun _ => 0))), (a2, .inl (Z.2.1 0, 192, .inl (fun _ => 0))), (a3, .inl (Z.2.1 0, 1152, .inl (fun _ => 0))), (a4, .inl (Z.2.1 0, 1152, .inl (fun _ => 0))), (a5, .inl (Z.2.1 0, 192, .inl (fun _ => 0))), (a6, .inl (Z.2.1 0, 6, .inl (fun _ => 0)))] H _ := hw
  refine lv_aload_n C.2.1 C.2.2.1 d_X_init_72 rfl (lv_at hl 0 rfl) ?_
  refine lv_iconst (v := (0)) C.2.1 C.2.2.1 d_X_init_73 (by decide) ?_
  refine g_put C hw 0 rfl rfl in_X ty_X ty_X_ok nm_X 9 (by decide) w110 rfl rfl rfl rfl (Nat.le_of_ble_eq_true rfl) d_X_init_74 (fun H locs hw => ?_)
  have hw : WD Z _ s [(h0, .inr (2, [.int 0, .int 0, .ref a1, .ref a2, .ref a3, .ref a4, .ref a5, .int 0, .ref a6, .int 0, .null, .int 0, .null, .null])), (a1, .inl (Z.2.1 0, 192, .inl (fun _ => 0))), (a2, .inl (Z.2.1 0, 192, .inl (fun _ => 0))), (a3, .inl (Z.2.1 0, 1152, .inl (fun _ => 0))), (a4, .inl (Z.2.1 0, 1152, .inl (fun _ => 0))), (a5, .inl (Z.2.1 0, 192, .inl (fun _ => 0))), (a6, .inl (Z.2.1 0, 6, .inl (fun _ => 0)))] H _ := hw
  refine lv_aload_n C.2.1 C.2.2.1 d_X_init_77 rfl (lv_at hl 0 rfl) ?_
  refine lv_bipush (v := (24)) C.2.1 C.2.2.1 d_X_init_78 (by decide) ?_
  refine g_newa (atype := .int) (ty := .int) (t0 := 0) (N' := 24) (a0 := (24, .inl (fun _ => 0))) C hw rfl w84 rfl (fun _ => rfl) (by decide) (by decide) (by decide) (Nat.le_of_ble_eq_true rfl) (Nat.le_of_ble_eq_true rfl) d_X_init_80 (fun a7 H hw => ?_)
  have hw : WD Z _ s [(h0, .inr (2, [.int 0, .int 0, .ref a1, .ref a2, .ref a3, .ref a4, .ref a5, .int 0, .ref a6, .int 0, .null, .int 0, .null, .null])), (a1, .inl (Z.2.1 0, 192, .inl (fun _ => 0))), (a2, .inl (Z.2.1 0, 192, .inl (fun _ => 0))), (a3, .inl (Z.2.1 0, 1152, .inl (fun _ => 0))), (a4, .inl (Z.2.1 0, 1152, .inl (fun _ => 0))), (a5, .inl (Z.2.1 0, 192, .inl (fun _ => 0))), (a6, .inl (Z.2.1 0, 6, .inl (fun _ => 0))), (a7, .inl (Z.2.1 0, 24, .inl (fun _ => 0)))] H _ := hw
  refine g_putF C hm hw 0 rfl rfl in_X ty_X ty_X_ok nm_X 10 (by decide) w111 rfl rfl rfl rfl (Nat.le_of_ble_eq_true rfl) d_X_init_82 (fun H locs hw => ?_)
  have hw : WD Z _ s [(h0, .inr (2, [.int 0, .int 0, .ref a1, .ref a2, .ref a3, .ref a4, .ref a5, .int 0, .ref a6, .int 0, .ref a7, .int 0, .null, .null])), (a1, .inl (Z.2.1 0, 192, .inl (fun _ => 0))), (a2, .inl (Z.2.1 0, 192, .inl (fun _ => 0))), (a3, .inl (Z.2.1 0, 1152, .inl (fun _ => 0))), (a4, .inl (Z.2.1 0, 1152, .inl (fun _ => 0))), (a5, .inl (Z.2.1 0, 192, .inl (fun _ => 0))), (a6, .inl (Z.2.1 0, 6, .inl (fun _ => 0))), (a7, .inl (Z.2.1 0, 24, .inl (fun _ => 0)))] H _ := hw
  refine lv_aload_n C.2.1 C.2.2.1 d_X_init_85 rfl (lv_at hl 0 rfl) ?_
  refine lv_iconst (v := (0)) C.2.1 C.2.2.1 d_X_init_86 (by decide) ?_
  refine g_put C hw 0 rfl rfl in_X ty_X ty_X_ok nm_X 11 (by decide) w112 rfl rfl rfl rfl (Nat.le_of_ble_eq_true rfl) d_X_init_87 (fun H locs hw => ?_)
  have hw : WD Z _ s [(h0, .inr (2, [.int 0, .int 0, .ref a1, .ref a2, .ref a3, .ref a4, .ref a5, .int 0, .ref a6, .int 0, .ref a7, .int 0, .null, .null])), (a1, .inl (Z.2.1 0, 192, .inl (fun _ => 0))), (a2, .inl (Z.2.1 0, 192, .inl (fun _ => 0))), (a3, .inl (Z.2.1 0, 1152, .inl (fun _ => 0))), (a4, .inl (Z.2.1 0, 1152, .inl (fun _ => 0))), (a5, .inl (Z.2.1 0, 192, .inl (fun _ => 0))), (a6, .inl (Z.2.1 0, 6, .inl (fun _ => 0))), (a7, .inl (Z.2.1 0, 24, .inl (fun _ => 0)))] H _ := hw
  refine lv_aload_n C.2.1 C.2.2.1 d_X_init_90 rfl (lv_at hl 0 rfl) ?_
  refine g_new (ci := 1) (fs := [.long 0]) C hw in_N ty_N ty_N_ok w74 w75 w54 rfl (by decide) (Nat.le_of_ble_eq_true rfl) (Nat.le_of_ble_eq_true rfl) d_X_init_91 (fun a8 H hw => ?_)
  have hw : WD Z _ s [(h0, .inr (2, [.int 0, .int 0, .ref a1, .ref a2, .ref a3, .ref a4, .ref a5, .int 0, .ref a6, .int 0, .ref a7, .int 0, .null, .null])), (a1, .inl (Z.2.1 0, 192, .inl (fun _ => 0))), (a2, .inl (Z.2.1 0, 192, .inl (fun _ => 0))), (a3, .inl (Z.2.1 0, 1152, .inl (fun _ => 0))), (a4, .inl (Z.2.1 0, 1152, .inl (fun _ => 0))), (a5, .inl (Z.2.1 0, 192, .inl (fun _ => 0))), (a6, .inl (Z.2.1 0, 6, .inl (fun _ => 0))), (a7, .inl (Z.2.1 0, 24, .inl (fun _ => 0))), (a8, .inr (1, [.long 0]))] H _ := hw
  refine lv_dup C.2.1 C.2.2.1 d_X_init_94 rfl ?_
  refine g_IN_v (host := "CoderTables") (n := 0) (f := fun (_ : Unit) => [(a8, .inr (1, [.long 0]))]) (u := ()) (wr := [(h0, .inr (2, [.int 0, .int 0, .ref a1, .ref a2, .ref a3, .ref a4, .ref a5, .int 0, .ref a6, .int 0, .ref a7, .int 0, .null, .null])), (a1, .inl (Z.2.1 0, 192, .inl (fun _ => 0))), (a2, .inl (Z.2.1 0, 192, .inl (fun _ => 0))), (a3, .inl (Z.2.1 0, 1152, .inl (fun _ => 0))), (a4, .inl (Z.2.1 0, 1152, .inl (fun _ => 0))), (a5, .inl (Z.2.1 0, 192, .inl (fun _ => 0))), (a6, .inl (Z.2.1 0, 6, .inl (fun _ => 0))), (a7, .inl (Z.2.1 0, 24, .inl (fun _ => 0)))]) (As := []) C (WD.swap (a := [(h0, .inr (2, [.int 0, .int 0, .ref a1, .ref a2, .ref a3, .ref a4, .ref a5, .int 0, .ref a6, .int 0, .ref a7, .int 0, .null, .null])), (a1, .inl (Z.2.1 0, 192, .inl (fun _ => 0))), (a2, .inl (Z.2.1 0, 192, .inl (fun _ => 0))), (a3, .inl (Z.2.1 0, 1152, .inl (fun _ => 0))), (a4, .inl (Z.2.1 0, 1152, .inl (fun _ => 0))), (a5, .inl (Z.2.1 0, 192, .inl (fun _ => 0))), (a6, .inl (Z.2.1 0, 6, .inl (fun _ => 0))), (a7, .inl (Z.2.1 0, 24, .inl (fun _ => 0)))]) hw) (cc_N_init C.1) ⟨(by decide +kernel), w77, rfl, w54, w78, (by decide +kernel), (by decide +kernel), (by decide +kernel)⟩ ⟨Nat.le_of_ble_eq_true rfl, Nat.le_of_ble_eq_true rfl, Nat.le_of_ble_eq_true rfl, Nat.le_of_ble_eq_true rfl⟩ rfl hl.1 rfl (Nat.le_of_ble_eq_true rfl) d_X_init_95 (fun _ H locs _ hw => ?_)
  have hw := WD.swap (b := [(h0, .inr (2, [.int 0, .int 0, .ref a1, .ref a2, .ref a3, .ref a4, .ref a5, .int 0, .ref a6, .int 0, .ref a7, .int 0, .null, .null])), (a1, .inl (Z.2.1 0, 192, .inl (fun _ => 0))), (a2, .inl (Z.2.1 0, 192, .inl (fun _ => 0))), (a3, .inl (Z.2.1 0, 1152, .inl (fun _ => 0))), (a4, .inl (Z.2.1 0, 1152, .inl (fun _ => 0))), (a5, .inl (Z.2.1 0, 192, .inl (fun _ => 0))), (a6, .inl (Z.2.1 0, 6, .inl (fun _ => 0))), (a7, .inl (Z.2.1 0, 24, .inl (fun _ => 0)))]) hw
  have hw : WD Z _ s [(h0, .inr (2, [.int 0, .int 0, .ref a1, .ref a2, .ref a3, .ref a4, .ref a5, .int 0, .ref a6, .int 0, .ref a7, .int 0, .null, .null])), (a1, .inl (Z.2.1 0, 192, .inl (fun _ => 0))), (a2, .inl (Z.2.1 0, 192, .inl (fun _ => 0))), (a3, .inl (Z.2.1 0, 1152, .inl (fun _ => 0))), (a4, .inl (Z.2.1 0, 1152, .inl (fun _ => 0))), (a5, .inl (Z.2.1 0, 192, .inl (fun _ => 0))), (a6, .inl (Z.2.1 0, 6, .inl (fun _ => 0))), (a7, .inl (Z.2.1 0, 24, .inl (fun _ => 0))), (a8, .inr (1, [.long 0]))] H _ := hw
  refine g_putF C hm hw 0 rfl rfl in_X ty_X ty_X_ok nm_X 12 (by decide) w113 rfl rfl rfl rfl (Nat.le_of_ble_eq_true rfl) d_X_init_98 (fun H locs hw => ?_)
  have hw : WD Z _ s [(h0, .inr (2, [.int 0, .int 0, .ref a1, .ref a2, .ref a3, .ref a4, .ref a5, .int 0, .ref a6, .int 0, .ref a7, .int 0, .ref a8, .null])), (a1, .inl (Z.2.1 0, 192, .inl (fun _ => 0))), (a2, .inl (Z.2.1 0, 192, .inl (fun _ => 0))), (a3, .inl (Z.2.1 0, 1152, .inl (fun _ => 0))), (a4, .inl (Z.2.1 0, 1152, .inl (fun _ => 0))), (a5, .inl (Z.2.1 0, 192, .inl (fun _ => 0))), (a6, .inl (Z.2.1 0, 6, .inl (fun _ => 0))), (a7, .inl (Z.2.1 0, 24, .inl (fun _ => 0))), (a8, .inr (1, [.long 0]))] H _ := hw
  refine lv_aload_n C.2.1 C.2.2.1 d_X_init_101 rfl (lv_at hl 0 rfl) ?_
  refine g_new (ci := 0) (fs := [.null, .int 0]) C hw in_L ty_L ty_L_ok w85 w86 w55 rfl (by decide) (Nat.le_of_ble_eq_true rfl) (Nat.le_of_ble_eq_true rfl) d_X_init_102 (fun a9 H hw => ?_)
  have hw : WD Z _ s [(h0, .inr (2, [.int 0, .int 0, .ref a1, .ref a2, .ref a3, .ref a4, .ref a5, .int 0, .ref a6, .int 0, .ref a7, .int 0, .ref a8, .null])), (a1, .inl (Z.2.1 0, 192, .inl (fun _ => 0))), (a2, .inl (Z.2.1 0, 192, .inl (fun _ => 0))), (a3, .inl (Z.2.1 0, 1152, .inl (fun _ => 0))), (a4, .inl (Z.2.1 0, 1152, .inl (fun _ => 0))), (a5, .inl (Z.2.1 0, 192, .inl (fun _ => 0))), (a6, .inl (Z.2.1 0, 6, .inl (fun _ => 0))), (a7, .inl (Z.2.1 0, 24, .inl (fun _ => 0))), (a8, .inr (1, [.long 0])), (a9, .inr (0, [.null, .int 0]))] H _ := hw
  refine lv_dup C.2.1 C.2.2.1 d_X_init_105 rfl ?_
  refine g_IN_v (host := "CoderTables") (n := 0) (f := fL Z a9) (u := none) (wr := [(h0, .inr (2, [.int 0, .int 0, .ref a1, .ref a2, .ref a3, .ref a4, .ref a5, .int 0, .ref a6, .int 0, .ref a7, .int 0, .ref a8, .null])), (a1, .inl (Z.2.1 0, 192, .inl (fun _ => 0))), (a2, .inl (Z.2.1 0, 192, .inl (fun _ => 0))), (a3, .inl (Z.2.1 0, 1152, .inl (fun _ => 0))), (a4, .inl (Z.2.1 0, 1152, .inl (fun _ => 0))), (a5, .inl (Z.2.1 0, 192, .inl (fun _ => 0))), (a6, .inl (Z.2.1 0, 6, .inl (fun _ => 0))), (a7, .inl (Z.2.1 0, 24, .inl (fun _ => 0))), (a8, .inr (1, [.long 0]))]) (As := []) C (WD.swap (a := [(h0, .inr (2, [.int 0, .int 0, .ref a1, .ref a2, .ref a3, .ref a4, .ref a5, .int 0, .ref a6, .int 0, .ref a7, .int 0, .ref a8, .null])), (a1, .inl (Z.2.1 0, 192, .inl (fun _ => 0))), (a2, .inl (Z.2.1 0, 192, .inl (fun _ => 0))), (a3, .inl (Z.2.1 0, 1152, .inl (fun _ => 0))), (a4, .inl (Z.2.1 0, 1152, .inl (fun _ => 0))), (a5, .inl (Z.2.1 0, 192, .inl (fun _ => 0))), (a6, .inl (Z.2.1 0, 6, .inl (fun _ => 0))), (a7, .inl (Z.2.1 0, 24, .inl (fun _ => 0))), (a8, .inr (1, [.long 0]))]) hw) (cc_L_init C.1) ⟨(by decide +kernel), w88, rfl, w55, w89, (by decide +kernel), (by decide +kernel), (by decide +kernel)⟩ ⟨Nat.le_of_ble_eq_true rfl, Nat.le_of_ble_eq_true rfl, Nat.le_of_ble_eq_true rfl, Nat.le_of_ble_eq_true rfl⟩ rfl hl.1 rfl (Nat.le_of_ble_eq_true rfl) d_X_init_106 (fun u9 H locs h9 hw => ?_)
  obtain ⟨a10, rfl⟩ := h9
  have hw := WD.swap (b := [(h0, .inr (2, [.int 0, .int 0, .ref a1, .ref a2, .ref a3, .ref a4, .ref a5, .int 0, .ref a6, .int 0, .ref a7, .int 0, .ref a8, .null])), (a1, .inl (Z.2.1 0, 192, .inl (fun _ => 0))), (a2, .inl (Z.2.1 0, 192, .inl (fun _ => 0))), (a3, .inl (Z.2.1 0, 1152, .inl (fun _ => 0))), (a4, .inl (Z.2.1 0, 1152, .inl (fun _ => 0))), (a5, .inl (Z.2.1 0, 192, .inl (fun _ => 0))), (a6, .inl (Z.2.1 0, 6, .inl (fun _ => 0))), (a7, .inl (Z.2.1 0, 24, .inl (fun _ => 0))), (a8, .inr (1, [.long 0]))]) hw
  have hw : WD Z _ s [(h0, .inr (2, [.int 0, .int 0, .ref a1, .ref a2, .ref a3, .ref a4, .ref a5, .int 0, .ref a6, .int 0, .ref a7, .int 0, .ref a8, .null])), (a1, .inl (Z.2.1 0, 192, .inl (fun _ => 0))), (a2, .inl (Z.2.1 0, 192, .inl (fun _ => 0))), (a3, .inl (Z.2.1 0, 1152, .inl (fun _ => 0))), (a4, .inl (Z.2.1 0, 1152, .inl (fun _ => 0))), (a5, .inl (Z.2.1 0, 192, .inl (fun _ => 0))), (a6, .inl (Z.2.1 0, 6, .inl (fun _ => 0))), (a7, .inl (Z.2.1 0, 24, .inl (fun _ => 0))), (a8, .inr (1, [.long 0])), (a9, .inr (0, [.ref a10, .int 0])), (a10, .inl (Z.2.1 1, 136, .inl (fun _ => 0)))] H _ := hw
  refine g_putF C hm hw 0 rfl rfl in_X ty_X ty_X_ok nm_X 13 (by decide) w114 rfl rfl rfl rfl (Nat.le_of_ble_eq_true rfl) d_X_init_109 (fun H locs hw => ?_)
  have hw : WD Z _ s [(h0, .inr (2, [.int 0, .int 0, .ref a1, .ref a2, .ref a3, .ref a4, .ref a5, .int 0, .ref a6, .int 0, .ref a7, .int 0, .ref a8, .ref a9])), (a1, .inl (Z.2.1 0, 192, .inl (fun _ => 0))), (a2, .inl (Z.2.1 0, 192, .inl (fun _ => 0))), (a3, .inl (Z.2.1 0, 1152, .inl (fun _ => 0))), (a4, .inl (Z.2.1 0, 1152, .inl (fun _ => 0))), (a5, .inl (Z.2.1 0, 192, .inl (fun _ => 0))), (a6, .inl (Z.2.1 0, 6, .inl (fun _ => 0))), (a7, .inl (Z.2.1 0, 24, .inl (fun _ => 0))), (a8, .inr (1, [.long 0])), (a9, .inr (0, [.ref a10, .int 0])), (a10, .inl (Z.2.1 1, 136, .inl (fun _ => 0)))] H _ := hw
  exact g_mvret (f := fX0 Z h0) (u0 := none) (u := some (fun k => ([h0, a1, a2, a3, a4, a5, a6, a7, a8, a9, a10] : List Nat).getD k 0)) C hw ⟨_, rfl, rfl⟩ d_X_init_112
def m0 : MT := (0, 0, 0, (fun _ => 0), (fun _ => 0), (fun _ => 0), (fun _ => 0), 0, (fun _ => 0), 0, (fun _ => 0), 0, 0, (fun _ => 0), (fun _ => 0))
def fM0 (Z : ZT) (h0 : Nat) : Option (Nat → Nat) → va_W
  | none => [(h0, .inr (3, [.int 0, .int 0, .int 0, .null, .null, .null, .null, .int 0, .null, .int 0, .null, .long 0, .int 0, .null, .null]))]
  | some ad => cM Z ad m0
abbrev rm_M_init : Room := { frames := 1, cells := 8, slots := 3167, locals := 12 }
set_option maxRecDepth 100000 in
theorem cc_M_init {l : Launch} {Z : ZT} {h0 : Nat} (hl0 : l.stackTraces = false) : ∀ sz, Met l y_M_init (Cond.code y_M_init b_M_init 1 none :: GW) rm_M_init (pP Z [.ref h0] (fM0 Z h0 none) sz) (pQv Z (fM0 Z h0) (fM0 Z h0 none) sz (fun u => ∃ ad : Nat → Nat, u = some ad ∧ ad 0 = h0)) rm_M_init.cells rm_M_init.slots (va_A (fM0 Z h0 none) sz) := by
  refine g_entM (f := fM0 Z h0) (u := none) (Qc := fun sz => pQv Z (fM0 Z h0) (fM0 Z h0 none) sz (fun u => ∃ ad : Nat → Nat, u = some ad ∧ ad 0 = h0)) hl0 (by decide +kernel) (Nat.le_of_ble_eq_true rfl) ?_
  intro p e s m args below meth c ls C hm hw hl
  have hl : lv_has ls 1 [(0, .ref h0)] := hl
  refine lv_aload_n C.2.1 C.2.2.1 d_M_init_0 rfl (lv_at hl 0 rfl) ?_
  refine g_obj C w554 w72 w73 hl.1 d_M_init_1 ⟨Nat.le_of_ble_eq_true rfl, Nat.le_of_ble_eq_true rfl⟩ ?_
  refine lv_aload_n C.2.1 C.2.2.1 d_M_init_4 rfl (lv_at hl 0 rfl) ?_
  refine lv_sipush (v := (192)) C.2.1 C.2.2.1 d_M_init_5 (by decide) ?_
  refine g_newa (atype := .int) (ty := .int) (t0 := 0) (N' := 192) (a0 := (192, .inl (fun _ => 0))) C hw rfl w84 rfl (fun _ => rfl) (by decide) (by decide) (by decide) (Nat.le_of_ble_eq_true rfl) (Nat.le_of_ble_eq_true rfl) d_M_init_8 (fun a1 H hw => ?_)
  have hw : WD Z _ s [(h0, .inr (3, [.int 0, .int 0, .int 0, .null, .null, .null, .null, .int 0, .null, .int 0, .null, .long 0, .int 0, .null, .null])), (a1, .inl (Z.2.1 0, 192, .inl (fun _ => 0)))] H _ := hw
  refine g_putF C hm hw 0 rfl rfl in_M ty_M ty_M_ok nm_M 3 (by decide) w558 rfl rfl rfl rfl (Nat.le_of_ble_eq_true rfl) d_M_init_10 (fun H locs hw => ?_)
  have hw : WD Z _ s [(h0, .inr (3, [.int 0, .int 0, .int 0, .ref a1, .null, .null, .null, .int 0, .null, .int 0, .null, .long 0, .int 0, .null, .null])), (a1, .inl (Z.2.1 0, 192, .inl (fun _ => 0)))] H _ := hw
  refine lv_aload_n C.2.1 C.2.2.1 d_M_init_13 rfl (lv_at hl 0 rfl) ?_
  refine lv_sipush (v := (192)) C.2.1 C.2.2.1 d_M_init_14 (by decide) ?_
  refine g_newa (atype := .boolean) (ty := .boolean) (t0 := 2) (N' := 192) (a0 := (192, .inl (fun _ => 0))) C hw rfl w601 rfl (fun _ => rfl) (by decide) (by decide) (by decide) (Nat.le_of_ble_eq_true rfl) (Nat.le_of_ble_eq_true rfl) d_M_init_17 (fun a2 H hw => ?_)
  have hw : WD Z _ s [(h0, .inr (3, [.int 0, .int 0, .int 0, .ref a1, .null, .null, .null, .int 0, .null, .int 0, .null, .long 0, .int 0, .null, .null])), (a1, .inl (Z.2.1 0, 192, .inl (fun _ => 0))), (a2, .inl (Z.2.1 2, 192, .inl (fun _ => 0)))] H _ := hw
  refine g_putF C hm hw 0 rfl rfl in_M ty_M ty_M_ok nm_M 4 (by decide) w559 rfl rfl rfl rfl (Nat.le_of_ble_eq_true rfl) d_M_init_19 (fun H locs hw => ?_)
  have hw : WD Z _ s [(h0, .inr (3, [.int 0, .int 0, .int 0, .ref a1, .ref a2, .null, .null, .int 0, .null, .int 0, .null, .long 0, .int 0, .null, .null])), (a1, .inl (Z.2.1 0, 192, .inl (fun _ => 0))), (a2, .inl (Z.2.1 2, 192, .inl (fun _ => 0)))] H _ := hw
  refine lv_aload_n C.2.1 C.2.2.1 d_M_init_22 rfl (lv_at hl 0 rfl) ?_
  refine lv_sipush (v := (1152)) C.2.1 C.2.2.1 d_M_init_23 (by decide) ?_
  refine g_newa (atype := .int) (ty := .int) (t0 := 0) (N' := 1152) (a0 := (1152, .inl (fun _ => 0))) C hw rfl w84 rfl (fun _ => rfl) (by decide) (by decide) (by decide) (Nat.le_of_ble_eq_true rfl) (Nat.le_of_ble_eq_true rfl) d_M_init_26 (fun a3 H hw => ?_)
  have hw : WD Z _ s [(h0, .inr (3, [.int 0, .int 0, .int 0, .ref a1, .ref a2, .null, .null, .int 0, .null, .int 0, .null, .long 0, .int 0, .null, .null])), (a1, .inl (Z.2.1 0, 192, .inl (fun _ => 0))), (a2, .inl (Z.2.1 2, 192, .inl (fun _ => 0))), (a3, .inl (Z.2.1 0, 1152, .inl (fun _ => 0)))] H _ := hw
  refine g_putF C hm hw 0 rfl rfl in_M ty_M ty_M_ok nm_M 5 (by decide) w560 rfl rfl rfl rfl (Nat.le_of_ble_eq_true rfl) d_M_init_28 (fun H locs hw => ?_)
  have hw : WD Z _ s [(h0, .inr (3, [.int 0, .int 0, .int 0, .ref a1, .ref a2, .ref a3, .null, .int 0, .null, .int 0, .null, .long 0, .int 0, .null, .null])), (a1, .inl (Z.2.1 0, 192, .inl (fun _ => 0))), (a2, .inl (Z.2.1 2, 192, .inl (fun _ => 0))), (a3, .inl (Z.2.1 0, 1152, .inl (fun _ => 0)))] H _ := hw
  refine lv_aload_n C.2.1 C.2.2.1 d_M_init_31 rfl (lv_at hl 0 rfl) ?_
  refine lv_sipush (v := (1152)) C.2.1 C.2.2.1 d_M_init_32 (by decide) ?_
  refine g_newa (atype := .int) (ty := .int) (t0 := 0) (N' := 1152) (a0 := (1152, .inl (fun _ => 0))) C hw rfl w84 rfl (fun _ => rfl) (by decide) (by decide) (by decide) (Nat.le_of_ble_eq_true rfl) (Nat.le_of_ble_eq_true rfl) d_M_init_35 (fun a4 H hw => ?_)
  have hw : WD Z _ s [(h0, .inr (3, [.int 0, .int 0, .int 0, .ref a1, .ref a2, .ref a3, .null, .int 0, .null, .int 0, .null, .long 0, .int 0, .null, .null])), (a1, .inl (Z.2.1 0, 192, .inl (fun _ => 0))), (a2, .inl (Z.2.1 2, 192, .inl (fun _ => 0))), (a3, .inl (Z.2.1 0, 1152, .inl (fun _ => 0))), (a4, .inl (Z.2.1 0, 1152, .inl (fun _ => 0)))] H _ := hw
  refine g_putF C hm hw 0 rfl rfl in_M ty_M ty_M_ok nm_M 6 (by decide) w561 rfl rfl rfl rfl (Nat.le_of_ble_eq_true rfl) d_M_init_37 (fun H locs hw => ?_)
  have hw : WD Z _ s [(h0, .inr (3, [.int 0, .int 0, .int 0, .ref a1, .ref a2, .ref a3, .ref a4, .int 0, .null, .int 0, .null, .long 0, .int 0, .null, .null])), (a1, .inl (Z.2.1 0, 192, .inl (fun _ => 0))), (a2, .inl (Z.2.1 2, 192, .inl (fun _ => 0))), (a3, .inl (Z.2.1 0, 1152, .inl (fun _ => 0))), (a4, .inl (Z.2.1 0, 1152, .inl (fun _ => 0)))] H _ := hw
  refine lv_aload_n C.2.1 C.2.2.1 d_M_init_40 rfl (lv_at hl 0 rfl) ?_
  refine lv_sipush (v := (192)) C.2.1 C.2.2.1 d_M_init_41 (by decide) ?_
  refine g_newa (atype := .int) (ty := .int) (t0 := 0) (N' := 192) (a0 := (192, .inl (fun _ => 0))) C hw rfl w84 rfl (fun _ => rfl) (by decide) (by decide) (by decide) (Nat.le_of_ble_eq_true rfl) (Nat.le_of_ble_eq_true rfl) d_M_init_44 (fun a5 H hw => ?_)
  have hw : WD Z _ s [(h0, .inr (3, [.int 0, .int 0, .int 0, .ref a1, .ref a2, .ref a3, .ref a4, .int 0, .null, .int 0, .null, .long 0, .int 0, .null, .null])), (a1, .inl (Z.2.1 0, 192, .inl (fun _ => 0))), (a2, .inl (Z.2.1 2, 192, .inl (fun _ => 0))), (a3, .inl (Z.2.1 0, 1152, .inl (fun _ => 0))), (a4, .inl (Z.2.1 0, 1152, .inl (fun _ => 0))), (a5, .inl (Z.2.1 0, 192, .inl (fun _ => 0)))] H _ := hw
  refine g_putF C hm hw 0 rfl rfl in_M ty_M ty_M_ok nm_M 8 (by decide) w563 rfl rfl rfl rfl (Nat.le_of_ble_eq_true rfl) d_M_init_46 (fun H locs hw => ?_)
  have hw : WD Z _ s [(h0, .inr (3, [.int 0, .int 0, .int 0, .ref a1, .ref a2, .ref a3, .ref a4, .int 0, .ref a5, .int 0, .null, .long 0, .int 0, .null, .null])), (a1, .inl (Z.2.1 0, 192, .inl (fun _ => 0))), (a2, .inl (Z.2.1 2, 192, .inl (fun _ => 0))), (a3, .inl (Z.2.1 0, 1152, .inl (fun _ => 0))), (a4, .inl (Z.2.1 0, 1152, .inl (fun _ => 0))), (a5, .inl (Z.2.1 0, 192, .inl (fun _ => 0)))] H _ := hw
  refine lv_aload_n C.2.1 C.2.2.1 d_M_init_49 rfl (lv_at hl 0 rfl) ?_
  refine lv_sipush (v := (256)) C.2.1 C.2.2.1 d_M_init_50 (by decide) ?_
  refine g_newa (atype := .int) (ty := .int) (t0 := 0) (N' := 256) (a0 := (256, .inl (fun _ => 0))) C hw rfl w84 rfl (fun _ => rfl) (by decide) (by decide) (by decide) (Nat.le_of_ble_eq_true rfl) (Nat.le_of_ble_eq_true rfl) d_M_init_53 (fun a6 H hw => ?_)
  have hw : WD Z _ s [(h0, .inr (3, [.int 0, .int 0, .int 0, .ref a1, .ref a2, .ref a3, .ref a4, .int 0, .ref a5, .int 0, .null, .long 0, .int 0, .null, .null])), (a1, .inl (Z.2.1 0, 192, .inl (fun _ => 0))), (a2, .inl (Z.2.1 2, 192, .inl (fun _ => 0))), (a3, .inl (Z.2.1 0, 1152, .inl (fun _ => 0))), (a4, .inl (Z.2.1 0, 1152, .inl (fun _ => 0))), (a5, .inl (Z.2.1 0, 192, .inl (fun _ => 0))), (a6, .inl (Z.2.1 0, 256, .inl (fun _ => 0)))] H _ := hw
  refine g_putF C hm hw 0 rfl rfl in_M ty_M ty_M_ok nm_M 10 (by decide) w565 rfl rfl rfl rfl (Nat.le_of_ble_eq_true rfl) d_M_init_55 (fun H locs hw => ?_)
  have hw : WD Z _ s [(h0, .inr (3, [.int 0, .int 0, .int 0, .ref a1, .ref a2, .ref a3, .ref a4, .int 0, .ref a5, .int 0, .ref a6, .long 0, .int 0, .null, .null])), (a1, .inl (Z.2.1 0, 192, .inl (fun _ => 0))), (a2, .inl (Z.2.1 2, 192, .inl (fun _ => 0))), (a3, .inl (Z.2.1 0, 1152, .inl (fun _ => 0))), (a4, .inl (Z.2.1 0, 1152, .inl (fun _ => 0))), (a5, .inl (Z.2.1 0, 192, .inl (fun _ => 0))), (a6, .inl (Z.2.1 0, 256, .inl (fun _ => 0)))] H _ := hw
  refine lv_aload_n C.2.1 C.2.2.1 d_M_init_58 rfl (lv_at hl 0 rfl) ?_
  refine lv_bipush (v := (6)) C.2.1 C.2.2.1 d_M_init_59 (by decide) ?_
  refine g_newa (atype := .int) (ty := .int) (t0 := 0) (N' := 6) (a0 := (6, .inl (fun _ => 0))) C hw rfl w84 rfl (fun _ => rfl) (by decide) (by decide) (by decide) (Nat.le_of_ble_eq_true rfl) (Nat.le_of_ble_eq_true rfl) d_M_init_61 (fun a7 H hw => ?_)
  have hw : WD Z _ s [(h0, .inr (3, [.int 0, .int 0, .int 0, .ref a1, .ref a2, .ref a3, .ref a4, .int 0, .ref a5, .int 0, .ref a6, .long 0, .int 0, .null, .null])), (a1, .inl (Z.2.1 0, 192, .inl (fun _ => 0))), (a2, .inl (Z.2.1 2, 192, .inl (fun _ => 0))), (a3, .inl (Z.2.1 0, 1152, .inl (fun _ => 0))), (a4, .inl (Z.2.1 0, 1152, .inl (fun _ => 0))), (a5, .inl (Z.2.1 0, 192, .inl (fun _ => 0))), (a6, .inl (Z.2.1 0, 256, .inl (fun _ => 0))), (a7, .inl (Z.2.1 0, 6, .inl (fun _ => 0)))] H _ := hw
  refine g_putF C hm hw 0 rfl rfl in_M ty_M ty_M_ok nm_M 13 (by decide) w568 rfl rfl rfl rfl (Nat.le_of_ble_eq_true rfl) d_M_init_63 (fun H locs hw => ?_)
  have hw : WD Z _ s [(h0, .inr (3, [.int 0, .int 0, .int 0, .ref a1, .ref a2, .ref a3, .ref a4, .int 0, .ref a5, .int 0, .ref a6, .long 0, .int 0, .ref a7, .null])), (a1, .inl (Z.2.1 0, 192, .inl (fun _ => 0))), (a2, .inl (Z.2.1 2, 192, .inl (fun _ => 0))), (a3, .inl (Z.2.1 0, 1152, .inl (fun _ => 0))), (a4, .inl (Z.2.1 0, 1152, .inl (fun _ => 0))), (a5, .inl (Z.2.1 0, 192, .inl (fun _ => 0))), (a6, .inl (Z.2.1 0, 256, .inl (fun _ => 0))), (a7, .inl (Z.2.1 0, 6, .inl (fun _ => 0)))] H _ := hw
  refine lv_aload_n C.2.1 C.2.2.1 d_M_init_66 rfl (lv_at hl 0 rfl) ?_
  refine lv_bipush (v := (25)) C.2.1 C.2.2.1 d_M_init_67 (by decide) ?_
  refine g_newa (atype := .long) (ty := .long) (t0 := 3) (N' := 25) (a0 := (25, .inr (.inl (fun _ => 0)))) C hw rfl w602 rfl (fun _ => rfl) (by decide) (by decide) (by decide) (Nat.le_of_ble_eq_true rfl) (Nat.le_of_ble_eq_true rfl) d_M_init_69 (fun a8 H hw => ?_)
  have hw : WD Z _ s [(h0, .inr (3, [.int 0, .int 0, .int 0, .ref a1, .ref a2, .ref a3, .ref a4, .int 0, .ref a5, .int 0, .ref a6, .long 0, .int 0, .ref a7, .null])), (a1, .inl (Z.2.1 0, 192, .inl (fun _ => 0))), (a2, .inl (Z.2.1 2, 192, .inl (fun _ => 0))), (a3, .inl (Z.2.1 0, 1152, .inl (fun _ => 0))), (a4, .inl (Z.2.1 0, 1152, .inl (fun _ => 0))), (a5, .inl (Z.2.1 0, 192, .inl (fun _ => 0))), (a6, .inl (Z.2.1 0, 256, .inl (fun _ => 0))), (a7, .inl (Z.2.1 0, 6, .inl (fun _ => 0))), (a8, .inl (Z.2.1 3, 25, .inr (.inl (fun _ => 0))))] H _ := hw
  refine g_putF C hm hw 0 rfl rfl in_M ty_M ty_M_ok nm_M 14 (by decide) w569 rfl rfl rfl rfl (Nat.le_of_ble_eq_true rfl) d_M_init_71 (fun H locs hw => ?_)
  have hw : WD Z _ s [(h0, .inr (3, [.int 0, .int 0, .int 0, .ref a1, .ref a2, .ref a3, .ref a4, .int 0, .ref a5, .int 0, .ref a6, .long 0, .int 0, .ref a7, .ref a8])), (a1, .inl (Z.2.1 0, 192, .inl (fun _ => 0))), (a2, .inl (Z.2.1 2, 192, .inl (fun _ => 0))), (a3, .inl (Z.2.1 0, 1152, .inl (fun _ => 0))), (a4, .inl (Z.2.1 0, 1152, .inl (fun _ => 0))), (a5, .inl (Z.2.1 0, 192, .inl (fun _ => 0))), (a6, .inl (Z.2.1 0, 256, .inl (fun _ => 0))), (a7, .inl (Z.2.1 0, 6, .inl (fun _ => 0))), (a8, .inl (Z.2.1 3, 25, .inr (.inl (fun _ => 0))))] H _ := hw
  exact g_mvret (f := fM0 Z h0) (u0 := none) (u := some (fun k => ([h0, a1, a2, a3, a4, a5, a6, a7, a8] : List Nat).getD k 0)) C hw ⟨_, rfl, rfl⟩ d_M_init_74
