/-! ===== own rows: contracts over the cells that a state gives, with a frame behind them ===== -/
abbrev ZT : Type := va_G × (Nat → ClassId) × (Nat → Nat)
abbrev tyl (q : Nat → ClassId) : List (ClassId × FieldType) := [(q 0, .int), (q 1, .char), (q 2, .boolean), (q 3, .long)]
abbrev KX (Z : ZT) (U : State) : Prop := va_K Z.1 cls4 (tyl Z.2.1) U
def NG : List Cond := [Cond.methodLinkNest "CoderTables" 49 ⟨"CoderTables$Numbers", "<init>", "()V"⟩ "CoderTables", Cond.methodLinkNest "CoderTables" 56 ⟨"CoderTables$Lines", "<init>", "()V"⟩ "CoderTables", Cond.fieldLinkNest "CoderTables" 204 "CoderTables$Lines" "chars" "[C" "CoderTables", Cond.fieldLinkNest "CoderTables" 199 "CoderTables$Lines" "length" "I" "CoderTables", Cond.methodLinkNest "CoderTables" 176 ⟨"CoderTables$Numbers", "start", "(J)V"⟩ "CoderTables", Cond.methodLinkNest "CoderTables" 221 ⟨"CoderTables$Numbers", "below", "(I)I"⟩ "CoderTables", Cond.methodLinkNest "CoderTables" 190 ⟨"CoderTables$Lines", "start", "()V"⟩ "CoderTables", Cond.methodLinkNest "CoderTables" 192 ⟨"CoderTables$Lines", "putNumber", "(J)V"⟩ "CoderTables", Cond.methodLinkNest "CoderTables" 195 ⟨"CoderTables$Lines", "put", "(C)V"⟩ "CoderTables", Cond.castable "java/lang/UnsupportedOperationException" "java/lang/UnsupportedOperationException", Cond.declares ⟨"java/lang/RuntimeException", "<init>", "(Ljava/lang/String;)V"⟩, Cond.declares ⟨"java/lang/Exception", "<init>", "(Ljava/lang/String;)V"⟩, Cond.declares ⟨"java/lang/Throwable", "<init>", "(Ljava/lang/String;)V"⟩, Cond.castable "java/lang/IndexOutOfBoundsException" "java/lang/IndexOutOfBoundsException", Cond.castable "java/lang/IllegalArgumentException" "java/lang/IllegalArgumentException", Cond.castable "java/lang/IllegalStateException" "java/lang/IllegalStateException"]
def SG : List (Nat × String) := [(63, "there are eight coders already"), (68, "there are twenty-four pictures already"), (215, "there is no such coder"), (217, "there is no such picture"), (77, "bytes are 1 to 1000000000"), (80, "an error is 0 to 1000000000"), (84, "the pair has failed"), (87, "the pair has six points already"), (93, "the pair has failed already"), (101, "so many pairs have not failed"), (104, "what is 0 for the coder, 1 for the picture"), (109, "an error is not below 0"), (219, "the coder has no counted pair"), (140, "there is no such point on the hull"), (142, "what is 0 for bytes, 1 for the error"), (144, "there is no such slope on the hull"), (153, "what is 0 to 3"), (172, "the times are 0 to 200"), (174, "there is no picture that both have counted"), (202, "there is no such character")]
def NC : List (String × String) := [("java/lang/UnsupportedOperationException", "java/lang/IndexOutOfBoundsException"), ("java/lang/UnsupportedOperationException", "java/lang/IllegalArgumentException"), ("java/lang/UnsupportedOperationException", "java/lang/IllegalStateException"), ("java/lang/IndexOutOfBoundsException", "java/lang/UnsupportedOperationException"), ("java/lang/IndexOutOfBoundsException", "java/lang/IllegalArgumentException"), ("java/lang/IndexOutOfBoundsException", "java/lang/IllegalStateException"), ("java/lang/IllegalArgumentException", "java/lang/UnsupportedOperationException"), ("java/lang/IllegalArgumentException", "java/lang/IndexOutOfBoundsException"), ("java/lang/IllegalArgumentException", "java/lang/IllegalStateException"), ("java/lang/IllegalStateException", "java/lang/UnsupportedOperationException"), ("java/lang/IllegalStateException", "java/lang/IndexOutOfBoundsException"), ("java/lang/IllegalStateException", "java/lang/IllegalArgumentException")]
theorem NG_tab : ∀ w ∈ NG, w.onTables = true := by decide +kernel
theorem NG_warm {s U : State} (hW : s.WarmedH U.vm) (h : ∀ w ∈ NG, va_Nw w s) : ∀ w ∈ NG, va_Nw w U := by
  intro w hw
  have h1 := h w hw
  simp only [NG, List.mem_cons, List.not_mem_nil, or_false] at hw
  rcases hw with rfl | rfl | rfl | rfl | rfl | rfl | rfl | rfl | rfl | rfl | rfl | rfl | rfl | rfl | rfl | rfl
  · exact va_Nw.warmM hW h1
  · exact va_Nw.warmM hW h1
  · exact va_Nw.warmF hW h1
  · exact va_Nw.warmF hW h1
  · exact va_Nw.warmM hW h1
  · exact va_Nw.warmM hW h1
  · exact va_Nw.warmM hW h1
  · exact va_Nw.warmM hW h1
  · exact va_Nw.warmM hW h1
  · exact va_tabs rfl (rfl : (s.setVm U.vm).vm = U.vm) (by rw [Cond.castable_setVm hW.alike]; exact h1)
  · exact va_tabs rfl (rfl : (s.setVm U.vm).vm = U.vm) (by rw [Cond.declares_setVm hW.alike]; exact h1)
  · exact va_tabs rfl (rfl : (s.setVm U.vm).vm = U.vm) (by rw [Cond.declares_setVm hW.alike]; exact h1)
  · exact va_tabs rfl (rfl : (s.setVm U.vm).vm = U.vm) (by rw [Cond.declares_setVm hW.alike]; exact h1)
  · exact va_tabs rfl (rfl : (s.setVm U.vm).vm = U.vm) (by rw [Cond.castable_setVm hW.alike]; exact h1)
  · exact va_tabs rfl (rfl : (s.setVm U.vm).vm = U.vm) (by rw [Cond.castable_setVm hW.alike]; exact h1)
  · exact va_tabs rfl (rfl : (s.setVm U.vm).vm = U.vm) (by rw [Cond.castable_setVm hW.alike]; exact h1)
/-- what a state must hold beside the good words -/
def EX (sa : Nat → Nat) (A : Nat → Prop) (U : State) : Prop :=
  (∀ w ∈ NG, va_Nw w U) ∧ (∀ k ∈ SG, vk_R "CoderTables" k.1 k.2 (sa k.1) U) ∧ (∀ k ∈ NC, va_Nc k.1 k.2 U) ∧ vx_Zq Bundle.tN "UNASSIGNED_STACK" Bundle.steD A U U.heap ∧ vx_Zq Bundle.tN "SUPPRESSED_SENTINEL" Bundle.listD A U U.heap
theorem EX.go {sa : Nat → Nat} {A B : Nat → Prop} {s V : State} {H : Heap} (h : EX sa A s) (hS : ∀ a : Nat, a < s.heap.size → ¬ A a → H[a]? = s.heap[a]?) (hV : V.heap = H) (hW : s.WarmedH V.vm) (hAB : ∀ q, B q → A q) : EX sa B V := by
  obtain ⟨h1, h2, h3, h4, h5⟩ := h
  refine ⟨NG_warm hW h1, fun k hk => vk_R.warm hW (h2 k hk), fun k hk => va_Nc.moved hW.alike (h3 k hk), ?_, ?_⟩
  · rw [hV]; exact ((h4.kept hS).narrow hAB).moved hW.alike
  · rw [hV]; exact ((h5.kept hS).narrow hAB).moved hW.alike
theorem EX.same {sa : Nat → Nat} {A : Nat → Prop} {U V : State} (hv : U.vm = V.vm) (hh : V.heap = U.heap) (h : EX sa A U) : EX sa A V := by
  obtain ⟨h1, h2, h3, h4, h5⟩ := h
  have ha : U.vm.Alike V.vm := by rw [hv]; exact Vm.Alike.refl _
  refine ⟨fun w hw => va_Nw.same (NG_tab w hw) hv (h1 w hw), fun k hk => vk_R.same hv.symm (h2 k hk), fun k hk => va_Nc.moved ha (h3 k hk), ?_, ?_⟩
  · rw [hh]; exact h4.moved ha
  · rw [hh]; exact h5.moved ha
section OWJ
variable {D : va_G} {cl : List vw_C} {a b wc wr w1 : va_W} {H H1 : Heap} {A A0 : Nat → Prop}
theorem o_at {k : Nat} {q : Nat × va_E} (hk : a[k]? = some q) : (a ++ b)[k]? = some q := by
  rw [List.getElem?_append_left (List.getElem?_eq_some_iff.mp hk).1]; exact hk
theorem o_bt {k : Nat} {q : Nat × va_E} (hk : b[k]? = some q) : (a ++ b)[a.length + k]? = some q := by
  rw [List.getElem?_append_right (by omega)]
  rw [show a.length + k - a.length = k by omega]; exact hk
theorem o_left (h : va_P D cl (a ++ b) H) : va_P D cl a H := fun k q hk => h k q (o_at hk)
theorem o_right (h : va_P D cl (a ++ b) H) : va_P D cl b H := fun k q hk => h (a.length + k) q (o_bt hk)
theorem o_dleft (h : va_D A (a ++ b)) : va_D A a := ⟨fun i j p q hi hj e => h.1 i j p q (o_at hi) (o_at hj) e, fun k q hk => h.2 k q (o_at hk)⟩
theorem o_dright (h : va_D A (a ++ b)) : va_D A b := ⟨fun i j p q hi hj e => by have := h.1 _ _ p q (o_bt hi) (o_bt hj) e; omega, fun k q hk => h.2 _ q (o_bt hk)⟩
theorem o_dne {i j : Nat} {p q : Nat × va_E} (h : va_D A (a ++ b)) (hi : a[i]? = some p) (hj : b[j]? = some q) : p.1 ≠ q.1 := fun e => by
  have h1 := h.1 _ _ p q (o_at hi) (o_bt hj) e
  have h2 := (List.getElem?_eq_some_iff.mp hi).1
  omega
theorem o_join (hP : va_P D cl (wc ++ wr) H) (hD : va_D A0 (wc ++ wr)) (hk : ∀ q : Nat, q < H.size → ¬ va_A wc H.size q → H1[q]? = H[q]?) (hF : ∀ q, va_A wc H.size q → A0 q) (hP1 : va_P D cl w1 H1) (hD1 : va_D (va_A wc H.size) w1) : va_P D cl (w1 ++ wr) H1 ∧ va_D A0 (w1 ++ wr) := by
  have hr := o_right hP
  have hlt : ∀ (k : Nat) (q : Nat × va_E), wr[k]? = some q → q.1 < H.size := fun k q h => (hr k q h).lt
  have hna : ∀ (k : Nat) (q : Nat × va_E), wr[k]? = some q → ¬ va_A wc H.size q.1 := by
    intro k q hq hA
    rcases hA with ⟨i, e, hi⟩ | h
    · exact o_dne hD hi hq rfl
    · exact absurd (hlt k q hq) (Nat.not_lt.mpr h)
  exact ⟨hP1.app (hr.kept (fun k q hq => hk q.1 (hlt k q hq) (hna k q hq))), (hD1.weaken (fun _ q _ h => hF q.1 h)).app (o_dright hD) (fun i j p q hp hq e => hna j q hq (by rw [← e]; exact hD1.2 i p hp))⟩
theorem o_free {s : State} {locs : List Loc} (hD : va_D A (wc ++ wr)) (hS : va_S A s.heap H locs) (hA : ∀ q, s.heap.size ≤ q → A q) : ∀ q, va_A wc H.size q → A q := by
  intro q h
  rcases h with ⟨i, e, hi⟩ | h
  · exact hD.2 i _ (o_at hi)
  · exact hA q (Nat.le_trans hS.1 h)
end OWJ
/-- what a walk of a method stands on -/
def CX (own : String) (cc : ByteArray) (nL : Nat) (rt : Option FieldType) (Z : ZT) (A : Nat → Prop) (p : Program) (l : Launch) (s : State) (m : MethodId) (args : Array Value) (meth : Method) (c : Code) : Prop :=
  l.stackTraces = false ∧ p.tables.exec = Jvm.exec ∧ c.code = cc ∧ c.maxLocals = nL ∧ s.vm.findClass own = some m.cls ∧ (∀ w ∈ GW, w.before args s = true) ∧ meth.sig.returnType = rt ∧ meth.locks = false ∧ KX Z s ∧ EX Z.2.2 A s ∧ (∀ q, s.heap.size ≤ q → A q)
/-- the world: the cells ws in the heap H, apart, in A; nothing outside A has changed -/
def WD (Z : ZT) (A : Nat → Prop) (s : State) (ws : va_W) (H : Heap) (locs : List Loc) : Prop := va_P Z.1 cls4 ws H ∧ va_D A ws ∧ va_S A s.heap H locs
abbrev pP (Z : ZT) (av : List Value) (wc : va_W) (sz : Nat) : Array Value → State → Prop :=
  va_Pc av (fun U => U.heap.size = sz ∧ va_P Z.1 cls4 wc U.heap ∧ KX Z U ∧ va_D (fun _ => True) wc ∧ EX Z.2.2 (va_A wc sz) U)
theorem pP_blind {Z : ZT} {av : List Value} {wc : va_W} {sz : Nat} : FrameBlind (pP Z av wc sz) := fun a U g mk q => by
  obtain ⟨q0, q1, qP, qK, qD, qE⟩ := q
  exact ⟨q0, q1, qP, va_K.moved (u := U) (U := U.calling g mk a) (Vm.Alike.refl U.vm) qK, qD, EX.same (U := U) (V := U.calling g mk a) rfl rfl qE⟩
abbrev pB {σ : Type} (Z : ZT) (f : σ → va_W) (wc : va_W) (sz : Nat) (u : σ) (t : State) : Prop := va_P Z.1 cls4 (f u) t.heap ∧ va_D (va_A wc sz) (f u)
abbrev pQi {σ : Type} (Z : ZT) (f : σ → va_W) (wc : va_W) (sz : Nat) (post : Int32 → σ → Prop) : Array Value → State → Outcome → State → Prop := va_Qi post (pB Z f wc sz) (va_A wc sz)
abbrev pQl {σ : Type} (Z : ZT) (f : σ → va_W) (wc : va_W) (sz : Nat) (post : Int64 → σ → Prop) : Array Value → State → Outcome → State → Prop := va_Ql post (pB Z f wc sz) (va_A wc sz)
abbrev pQv {σ : Type} (Z : ZT) (f : σ → va_W) (wc : va_W) (sz : Nat) (post : σ → Prop) : Array Value → State → Outcome → State → Prop := va_Qv post (pB Z f wc sz) (va_A wc sz)
abbrev pX {σ : Type} (Z : ZT) (f : σ → va_W) (wc : va_W) (sz : Nat) (ex : String → σ → Prop) : String → State → State → Prop := vx_X (fun z : String × σ => ex z.1 z.2) (fun E z t => z.1 = E ∧ pB Z f wc sz z.2 t) (va_A wc sz)
theorem gw_cons {w : Cond} (h : w ∈ GW) : GoodIn GW (w :: GW) := fun v hv => (List.mem_cons.mp hv).elim (fun e => by rw [e]; exact gw_good _ h) (gw_good v)
/-- a call's words -/
def gV (own : String) (index : Nat) (y : MethodName) (bytes : ByteArray) (maxL : Nat) (rt : Option FieldType) (n : Nat) : Prop :=
  Cond.methodLink own index y ∈ GW ∧ Cond.instanceMethod y ∈ GW ∧ Cond.selects y.cls y y ∈ GW ∧ Cond.initialized y.cls ∈ GW ∧ Cond.code y bytes maxL rt ∈ GW ∧ y.cls ≠ "java/lang/invoke/MethodHandle" ∧ y.cls ≠ "java/lang/invoke/VarHandle" ∧ (parseMethodDescriptor y.desc).map (fun d => d.parameters.length) = some n
def gS (own : String) (index : Nat) (y : MethodName) (bytes : ByteArray) (maxL : Nat) (rt : Option FieldType) (n : Nat) : Prop :=
  Cond.methodLink own index y ∈ GW ∧ Cond.static y ∈ GW ∧ Cond.initialized y.cls ∈ GW ∧ Cond.code y bytes maxL rt ∈ GW ∧ y.cls ≠ "java/lang/invoke/MethodHandle" ∧ y.cls ≠ "java/lang/invoke/VarHandle" ∧ (parseMethodDescriptor y.desc).map (fun d => d.parameters.length) = some n
def gN (own : String) (index : Nat) (y : MethodName) (host : String) (bytes : ByteArray) (maxL : Nat) (rt : Option FieldType) (n : Nat) : Prop :=
  Cond.methodLinkNest own index y host ∈ NG ∧ Cond.instanceMethod y ∈ GW ∧ Cond.selects y.cls y y ∈ GW ∧ Cond.initialized y.cls ∈ GW ∧ Cond.code y bytes maxL rt ∈ GW ∧ y.cls ≠ "java/lang/invoke/MethodHandle" ∧ y.cls ≠ "java/lang/invoke/VarHandle" ∧ (parseMethodDescriptor y.desc).map (fun d => d.parameters.length) = some n
abbrev rmOk (rm : Room) (maxL : Nat) (R : Room) (cells slots : Nat) : Prop := rm.frames + 1 ≤ R.frames ∧ 8 + (maxL + 11) + rm.locals ≤ R.locals ∧ cells + rm.cells ≤ R.cells ∧ slots + rm.slots ≤ R.slots
section OWC
variable {σ : Type} {f : σ → va_W} {u : σ} {wr : va_W} {own host : String} {cc bytes : ByteArray} {nL maxL index n : Nat} {rt0 rt : Option FieldType} {Z : ZT} {A : Nat → Prop}
variable {p : Program} {l : Launch} {e : Env} {R : Room} {s : State} {m : MethodId} {args : Array Value} {below : List Frame} {meth : Method} {c : Code} {H : Heap} {locs : List Loc} {cells slots : Nat} {Q : State → Prop}
variable {y : MethodName} {rm : Room} {b : Addr} {As rest st0 : List Value} {ex : String → σ → Prop} {pc : Nat} {ls : Array Slot} {ci : Nat} {fs : List Value} {T : u_T} {N : Nat}
theorem g_pre (C : CX own cc nL rt0 Z A p l s m args meth c) (hw : WD Z A s (f u ++ wr) H locs) (av : List Value) : ∀ U : State, U.heap = H → s.WarmedH U.vm → pP Z av (f u) H.size av.toArray U := by
  intro U hU hW
  obtain ⟨hlt, hx, hb, hml, hown, hts, hr, hlk, hK, hE, hA⟩ := C
  obtain ⟨hP, hD, hS⟩ := hw
  exact ⟨rfl, by rw [hU], by rw [hU]; exact o_left hP, va_K.moved hW.alike hK, (o_dleft hD).weaken (fun _ _ _ _ => trivial), hE.go hS.2.1 hU hW (o_free hD hS hA)⟩
theorem g_join {u' : σ} {t : State} {H1 : Heap} {locs1 : List Loc} (C : CX own cc nL rt0 Z A p l s m args meth c) (hw : WD Z A s (f u ++ wr) H locs) (ht : t.heap = H1) (hB : pB Z f (f u) H.size u' t) (hk : ∀ q : Nat, q < H.size → ¬ va_A (f u) H.size q → H1[q]? = H[q]?) (hS1 : va_S A s.heap H1 locs1) : WD Z A s (f u' ++ wr) H1 locs1 := by
  obtain ⟨hlt, hx, hb, hml, hown, hts, hr, hlk, hK, hE, hA⟩ := C
  obtain ⟨hP, hD, hS⟩ := hw
  obtain ⟨hP1, hD1⟩ := hB
  rw [ht] at hP1
  obtain ⟨h1, h2⟩ := o_join hP hD hk (o_free hD hS hA) hP1 hD1
  exact ⟨h1, h2, hS1⟩
theorem g_V_i {post : Int32 → σ → Prop} (C : CX own cc nL rt0 Z A p l s m args meth c) (hw : WD Z A s (f u ++ wr) H locs)
    (hM : ∀ sz, vx_Met l y (Cond.code y bytes maxL rt :: GW) rm (pP Z (.ref b :: As) (f u) sz) (pQi Z f (f u) sz post) (pX Z f (f u) sz ex) 0 0 rm.cells rm.slots (va_A (f u) sz))
    (hg : gV own index y bytes maxL rt n) (hR : rmOk rm maxL R cells slots) (q0 : Nat) (he : (f u)[q0]? = some (b, .inr (ci, fs))) (hc : cls4[ci]? = some (y.cls, T, N))
    (hn : As.length = n) (hl : ls.size = nL) (hst : st0 = As.reverse ++ .ref b :: rest) (hW : (rest.map fun v => v.category).sum ≤ 8) (hdg : decode cc pc = .ok (.invokevirtual index, 3))
    (kx : ∀ (E : String) (u' : σ) (q9 : Addr) (ce : Cell) (H1 : Heap) (locs1 : List Loc), ex E u' → WD Z A s (f u' ++ wr) H1 locs1 → H1[q9]? = some ce → ce.vm = .none → s.vm.findClass E = some ce.cls → vx_W p l e R s m args below meth c H1 locs1 (cells + rm.cells) (slots + rm.slots) Q (F0 m pc ls rest) q9)
    (kk : ∀ (r : Int32) (u' : σ) (H1 : Heap) (locs1 : List Loc), post r u' → WD Z A s (f u' ++ wr) H1 locs1 → W p l e R s m args below meth c H1 locs1 cells slots Q (F0 m (pc + 3) ls (.int r :: rest))) : W p l e R s m args below meth c H locs cells slots Q (F0 m pc ls st0) := by
  obtain ⟨g1, g2, g3, g4, g5, g6, g7, g8⟩ := hg
  obtain ⟨r1, r2, r3, r4⟩ := hR
  have hpre := g_pre C hw (.ref b :: As)
  have hF := o_free hw.2.1 hw.2.2 C.2.2.2.2.2.2.2.2.2.2
  have hrec : ∃ cellB : Cell, H[b]? = some cellB ∧ cellB.vm.isStatics = false ∧ s.vm.findClass y.cls = some cellB.cls := va_recv C.2.2.2.2.2.2.2.2.1 (o_left hw.1) (q0 := q0) hc he
  have hgw := C.2.2.2.2.2.1
  subst hst
  refine vx_calli (vx_runV (As := As) (rest := rest) ⟨C.2.1, C.2.2.1, C.2.2.2.1, C.2.2.2.2.1, hgw⟩ (hM H.size) ⟨callB_of n hgw (gw_cons g5) rfl rfl rfl (hgw _ g4) (hgw _ g1) ⟨g6, g7, g8⟩ ⟨r1, r2⟩, hgw _ g2, hgw _ g3⟩ ⟨pP_blind, hrec, hpre⟩ rfl hn hl rfl (lv_room hW) hdg ⟨r3, r4⟩) hw.2.2 (fun q _ h => hF q h) hF (fun q _ h => hF q h) ?_ ?_
  · intro E ce q9 z t H1 locs1 ht hvm hp hB hz hk hS1 h1 h2 h3
    obtain ⟨E', u'⟩ := z
    obtain ⟨rfl, hB⟩ := hB
    exact kx _ u' q9 ce H1 locs1 hp (g_join C hw ht hB hk hS1) h1 h2 h3
  · intro r u' t H1 locs1 ht hvm hp hB hz hk hS1
    exact kk r u' H1 locs1 hp (g_join C hw ht hB hk hS1)
theorem g_S_i {post : Int32 → σ → Prop} (C : CX own cc nL rt0 Z A p l s m args meth c) (hw : WD Z A s (f u ++ wr) H locs)
    (hM : ∀ sz, vx_Met l y (Cond.code y bytes maxL rt :: GW) rm (pP Z As (f u) sz) (pQi Z f (f u) sz post) (pX Z f (f u) sz ex) 0 0 rm.cells rm.slots (va_A (f u) sz))
    (hg : gS own index y bytes maxL rt n) (hR : rmOk rm maxL R cells slots)
    (hn : As.length = n) (hl : ls.size = nL) (hst : st0 = As.reverse ++ rest) (hW : (rest.map fun v => v.category).sum ≤ 8) (hdg : decode cc pc = .ok (.invokestatic index, 3))
    (kx : ∀ (E : String) (u' : σ) (q9 : Addr) (ce : Cell) (H1 : Heap) (locs1 : List Loc), ex E u' → WD Z A s (f u' ++ wr) H1 locs1 → H1[q9]? = some ce → ce.vm = .none → s.vm.findClass E = some ce.cls → vx_W p l e R s m args below meth c H1 locs1 (cells + rm.cells) (slots + rm.slots) Q (F0 m pc ls rest) q9)
    (kk : ∀ (r : Int32) (u' : σ) (H1 : Heap) (locs1 : List Loc), post r u' → WD Z A s (f u' ++ wr) H1 locs1 → W p l e R s m args below meth c H1 locs1 cells slots Q (F0 m (pc + 3) ls (.int r :: rest))) : W p l e R s m args below meth c H locs cells slots Q (F0 m pc ls st0) := by
  obtain ⟨g1, g2, g4, g5, g6, g7, g8⟩ := hg
  obtain ⟨r1, r2, r3, r4⟩ := hR
  have hpre := g_pre C hw As
  have hF := o_free hw.2.1 hw.2.2 C.2.2.2.2.2.2.2.2.2.2
  have hgw := C.2.2.2.2.2.1
  subst hst
  refine vx_calli (vx_runS (As := As) (rest := rest) ⟨C.2.1, C.2.2.1, C.2.2.2.1, C.2.2.2.2.1, hgw⟩ (hM H.size) ⟨callB_of n hgw (gw_cons g5) rfl rfl rfl (hgw _ g4) (hgw _ g1) ⟨g6, g7, g8⟩ ⟨r1, r2⟩, hgw _ g2⟩ ⟨pP_blind, hpre⟩ rfl hn hl rfl (lv_room hW) hdg ⟨r3, r4⟩) hw.2.2 (fun q _ h => hF q h) hF (fun q _ h => hF q h) ?_ ?_
  · intro E ce q9 z t H1 locs1 ht hvm hp hB hz hk hS1 h1 h2 h3
    obtain ⟨E', u'⟩ := z
    obtain ⟨rfl, hB⟩ := hB
    exact kx _ u' q9 ce H1 locs1 hp (g_join C hw ht hB hk hS1) h1 h2 h3
  · intro r u' t H1 locs1 ht hvm hp hB hz hk hS1
    exact kk r u' H1 locs1 hp (g_join C hw ht hB hk hS1)
theorem g_N_i {post : Int32 → σ → Prop} (C : CX own cc nL rt0 Z A p l s m args meth c) (hw : WD Z A s (f u ++ wr) H locs)
    (hM : ∀ sz, Met l y (Cond.code y bytes maxL rt :: GW) rm (pP Z (.ref b :: As) (f u) sz) (pQi Z f (f u) sz post) 0 0 (va_A (f u) sz)) (hm0 : rm.cells = 0) (hs0 : rm.slots = 0)
    (hg : gN own index y host bytes maxL rt n) (hR : rmOk rm maxL R cells slots) (q0 : Nat) (he : (f u)[q0]? = some (b, .inr (ci, fs))) (hc : cls4[ci]? = some (y.cls, T, N))
    (hn : As.length = n) (hl : ls.size = nL) (hst : st0 = As.reverse ++ .ref b :: rest) (hW : (rest.map fun v => v.category).sum ≤ 8) (hdg : decode cc pc = .ok (.invokevirtual index, 3))
    (kk : ∀ (r : Int32) (u' : σ) (H1 : Heap) (locs1 : List Loc), post r u' → WD Z A s (f u' ++ wr) H1 locs1 → W p l e R s m args below meth c H1 locs1 cells slots Q (F0 m (pc + 3) ls (.int r :: rest))) : W p l e R s m args below meth c H locs cells slots Q (F0 m pc ls st0) := by
  obtain ⟨g1, g2, g3, g4, g5, g6, g7, g8⟩ := hg
  obtain ⟨r1, r2, r3, r4⟩ := hR
  have hpre := g_pre C hw (.ref b :: As)
  have hF := o_free hw.2.1 hw.2.2 C.2.2.2.2.2.2.2.2.2.2
  have hrec : ∃ cellB : Cell, H[b]? = some cellB ∧ cellB.vm.isStatics = false ∧ s.vm.findClass y.cls = some cellB.cls := va_recv C.2.2.2.2.2.2.2.2.1 (o_left hw.1) (q0 := q0) hc he
  have hgw := C.2.2.2.2.2.1
  subst hst
  refine va_calli (va_runVN (As := As) (rest := rest) (C := y.cls) ⟨C.2.1, C.2.2.1, C.2.2.2.1, C.2.2.2.2.1, hgw⟩ (hM H.size) ⟨va_cnB n hgw (gw_cons g5) rfl hm0 hs0 (C.2.2.2.2.2.2.2.2.2.1.1 _ g1) (hgw _ g4) ⟨g6, g7, g8⟩ ⟨r1, r2⟩, hgw _ g2, hgw _ g3⟩ ⟨pP_blind, hrec, hpre⟩ rfl hn hl rfl (lv_room hW) hdg ⟨by omega, by omega⟩) hw.2.2 (fun q _ h => hF q h) hF ?_
  intro r u' t H1 locs1 ht hvm hp hB hz hk hS1
  exact kk r u' H1 locs1 hp (g_join C hw ht hB hk hS1)
theorem g_V_l {post : Int64 → σ → Prop} (C : CX own cc nL rt0 Z A p l s m args meth c) (hw : WD Z A s (f u ++ wr) H locs)
    (hM : ∀ sz, vx_Met l y (Cond.code y bytes maxL rt :: GW) rm (pP Z (.ref b :: As) (f u) sz) (pQl Z f (f u) sz post) (pX Z f (f u) sz ex) 0 0 rm.cells rm.slots (va_A (f u) sz))
    (hg : gV own index y bytes maxL rt n) (hR : rmOk rm maxL R cells slots) (q0 : Nat) (he : (f u)[q0]? = some (b, .inr (ci, fs))) (hc : cls4[ci]? = some (y.cls, T, N))
    (hn : As.length = n) (hl : ls.size = nL) (hst : st0 = As.reverse ++ .ref b :: rest) (hW : (rest.map fun v => v.category).sum ≤ 8) (hdg : decode cc pc = .ok (.invokevirtual index, 3))
    (kx : ∀ (E : String) (u' : σ) (q9 : Addr) (ce : Cell) (H1 : Heap) (locs1 : List Loc), ex E u' → WD Z A s (f u' ++ wr) H1 locs1 → H1[q9]? = some ce → ce.vm = .none → s.vm.findClass E = some ce.cls → vx_W p l e R s m args below meth c H1 locs1 (cells + rm.cells) (slots + rm.slots) Q (F0 m pc ls rest) q9)
    (kk : ∀ (r : Int64) (u' : σ) (H1 : Heap) (locs1 : List Loc), post r u' → WD Z A s (f u' ++ wr) H1 locs1 → W p l e R s m args below meth c H1 locs1 cells slots Q (F0 m (pc + 3) ls (.long r :: rest))) : W p l e R s m args below meth c H locs cells slots Q (F0 m pc ls st0) := by
  obtain ⟨g1, g2, g3, g4, g5, g6, g7, g8⟩ := hg
  obtain ⟨r1, r2, r3, r4⟩ := hR
  have hpre := g_pre C hw (.ref b :: As)
  have hF := o_free hw.2.1 hw.2.2 C.2.2.2.2.2.2.2.2.2.2
  have hrec : ∃ cellB : Cell, H[b]? = some cellB ∧ cellB.vm.isStatics = false ∧ s.vm.findClass y.cls = some cellB.cls := va_recv C.2.2.2.2.2.2.2.2.1 (o_left hw.1) (q0 := q0) hc he
  have hgw := C.2.2.2.2.2.1
  subst hst
  refine vx_calll (vx_runV (As := As) (rest := rest) ⟨C.2.1, C.2.2.1, C.2.2.2.1, C.2.2.2.2.1, hgw⟩ (hM H.size) ⟨callB_of n hgw (gw_cons g5) rfl rfl rfl (hgw _ g4) (hgw _ g1) ⟨g6, g7, g8⟩ ⟨r1, r2⟩, hgw _ g2, hgw _ g3⟩ ⟨pP_blind, hrec, hpre⟩ rfl hn hl rfl (lv_room hW) hdg ⟨r3, r4⟩) hw.2.2 (fun q _ h => hF q h) hF (fun q _ h => hF q h) ?_ ?_
  · intro E ce q9 z t H1 locs1 ht hvm hp hB hz hk hS1 h1 h2 h3
    obtain ⟨E', u'⟩ := z
    obtain ⟨rfl, hB⟩ := hB
    exact kx _ u' q9 ce H1 locs1 hp (g_join C hw ht hB hk hS1) h1 h2 h3
  · intro r u' t H1 locs1 ht hvm hp hB hz hk hS1
    exact kk r u' H1 locs1 hp (g_join C hw ht hB hk hS1)
theorem g_S_l {post : Int64 → σ → Prop} (C : CX own cc nL rt0 Z A p l s m args meth c) (hw : WD Z A s (f u ++ wr) H locs)
    (hM : ∀ sz, vx_Met l y (Cond.code y bytes maxL rt :: GW) rm (pP Z As (f u) sz) (pQl Z f (f u) sz post) (pX Z f (f u) sz ex) 0 0 rm.cells rm.slots (va_A (f u) sz))
    (hg : gS own index y bytes maxL rt n) (hR : rmOk rm maxL R cells slots)
    (hn : As.length = n) (hl : ls.size = nL) (hst : st0 = As.reverse ++ rest) (hW : (rest.map fun v => v.category).sum ≤ 8) (hdg : decode cc pc = .ok (.invokestatic index, 3))
    (kx : ∀ (E : String) (u' : σ) (q9 : Addr) (ce : Cell) (H1 : Heap) (locs1 : List Loc), ex E u' → WD Z A s (f u' ++ wr) H1 locs1 → H1[q9]? = some ce → ce.vm = .none → s.vm.findClass E = some ce.cls → vx_W p l e R s m args below meth c H1 locs1 (cells + rm.cells) (slots + rm.slots) Q (F0 m pc ls rest) q9)
    (kk : ∀ (r : Int64) (u' : σ) (H1 : Heap) (locs1 : List Loc), post r u' → WD Z A s (f u' ++ wr) H1 locs1 → W p l e R s m args below meth c H1 locs1 cells slots Q (F0 m (pc + 3) ls (.long r :: rest))) : W p l e R s m args below meth c H locs cells slots Q (F0 m pc ls st0) := by
  obtain ⟨g1, g2, g4, g5, g6, g7, g8⟩ := hg
  obtain ⟨r1, r2, r3, r4⟩ := hR
  have hpre := g_pre C hw As
  have hF := o_free hw.2.1 hw.2.2 C.2.2.2.2.2.2.2.2.2.2
  have hgw := C.2.2.2.2.2.1
  subst hst
  refine vx_calll (vx_runS (As := As) (rest := rest) ⟨C.2.1, C.2.2.1, C.2.2.2.1, C.2.2.2.2.1, hgw⟩ (hM H.size) ⟨callB_of n hgw (gw_cons g5) rfl rfl rfl (hgw _ g4) (hgw _ g1) ⟨g6, g7, g8⟩ ⟨r1, r2⟩, hgw _ g2⟩ ⟨pP_blind, hpre⟩ rfl hn hl rfl (lv_room hW) hdg ⟨r3, r4⟩) hw.2.2 (fun q _ h => hF q h) hF (fun q _ h => hF q h) ?_ ?_
  · intro E ce q9 z t H1 locs1 ht hvm hp hB hz hk hS1 h1 h2 h3
    obtain ⟨E', u'⟩ := z
    obtain ⟨rfl, hB⟩ := hB
    exact kx _ u' q9 ce H1 locs1 hp (g_join C hw ht hB hk hS1) h1 h2 h3
  · intro r u' t H1 locs1 ht hvm hp hB hz hk hS1
    exact kk r u' H1 locs1 hp (g_join C hw ht hB hk hS1)
theorem g_N_l {post : Int64 → σ → Prop} (C : CX own cc nL rt0 Z A p l s m args meth c) (hw : WD Z A s (f u ++ wr) H locs)
    (hM : ∀ sz, Met l y (Cond.code y bytes maxL rt :: GW) rm (pP Z (.ref b :: As) (f u) sz) (pQl Z f (f u) sz post) 0 0 (va_A (f u) sz)) (hm0 : rm.cells = 0) (hs0 : rm.slots = 0)
    (hg : gN own index y host bytes maxL rt n) (hR : rmOk rm maxL R cells slots) (q0 : Nat) (he : (f u)[q0]? = some (b, .inr (ci, fs))) (hc : cls4[ci]? = some (y.cls, T, N))
    (hn : As.length = n) (hl : ls.size = nL) (hst : st0 = As.reverse ++ .ref b :: rest) (hW : (rest.map fun v => v.category).sum ≤ 8) (hdg : decode cc pc = .ok (.invokevirtual index, 3))
    (kk : ∀ (r : Int64) (u' : σ) (H1 : Heap) (locs1 : List Loc), post r u' → WD Z A s (f u' ++ wr) H1 locs1 → W p l e R s m args below meth c H1 locs1 cells slots Q (F0 m (pc + 3) ls (.long r :: rest))) : W p l e R s m args below meth c H locs cells slots Q (F0 m pc ls st0) := by
  obtain ⟨g1, g2, g3, g4, g5, g6, g7, g8⟩ := hg
  obtain ⟨r1, r2, r3, r4⟩ := hR
  have hpre := g_pre C hw (.ref b :: As)
  have hF := o_free hw.2.1 hw.2.2 C.2.2.2.2.2.2.2.2.2.2
  have hrec : ∃ cellB : Cell, H[b]? = some cellB ∧ cellB.vm.isStatics = false ∧ s.vm.findClass y.cls = some cellB.cls := va_recv C.2.2.2.2.2.2.2.2.1 (o_left hw.1) (q0 := q0) hc he
  have hgw := C.2.2.2.2.2.1
  subst hst
  refine va_calll (va_runVN (As := As) (rest := rest) (C := y.cls) ⟨C.2.1, C.2.2.1, C.2.2.2.1, C.2.2.2.2.1, hgw⟩ (hM H.size) ⟨va_cnB n hgw (gw_cons g5) rfl hm0 hs0 (C.2.2.2.2.2.2.2.2.2.1.1 _ g1) (hgw _ g4) ⟨g6, g7, g8⟩ ⟨r1, r2⟩, hgw _ g2, hgw _ g3⟩ ⟨pP_blind, hrec, hpre⟩ rfl hn hl rfl (lv_room hW) hdg ⟨by omega, by omega⟩) hw.2.2 (fun q _ h => hF q h) hF ?_
  intro r u' t H1 locs1 ht hvm hp hB hz hk hS1
  exact kk r u' H1 locs1 hp (g_join C hw ht hB hk hS1)
theorem g_V_v {post : σ → Prop} (C : CX own cc nL rt0 Z A p l s m args meth c) (hw : WD Z A s (f u ++ wr) H locs)
    (hM : ∀ sz, vx_Met l y (Cond.code y bytes maxL rt :: GW) rm (pP Z (.ref b :: As) (f u) sz) (pQv Z f (f u) sz post) (pX Z f (f u) sz ex) 0 0 rm.cells rm.slots (va_A (f u) sz))
    (hg : gV own index y bytes maxL rt n) (hR : rmOk rm maxL R cells slots) (q0 : Nat) (he : (f u)[q0]? = some (b, .inr (ci, fs))) (hc : cls4[ci]? = some (y.cls, T, N))
    (hn : As.length = n) (hl : ls.size = nL) (hst : st0 = As.reverse ++ .ref b :: rest) (hW : (rest.map fun v => v.category).sum ≤ 8) (hdg : decode cc pc = .ok (.invokevirtual index, 3))
    (kx : ∀ (E : String) (u' : σ) (q9 : Addr) (ce : Cell) (H1 : Heap) (locs1 : List Loc), ex E u' → WD Z A s (f u' ++ wr) H1 locs1 → H1[q9]? = some ce → ce.vm = .none → s.vm.findClass E = some ce.cls → vx_W p l e R s m args below meth c H1 locs1 (cells + rm.cells) (slots + rm.slots) Q (F0 m pc ls rest) q9)
    (kk : ∀ (u' : σ) (H1 : Heap) (locs1 : List Loc), post u' → WD Z A s (f u' ++ wr) H1 locs1 → W p l e R s m args below meth c H1 locs1 cells slots Q (F0 m (pc + 3) ls (rest))) : W p l e R s m args below meth c H locs cells slots Q (F0 m pc ls st0) := by
  obtain ⟨g1, g2, g3, g4, g5, g6, g7, g8⟩ := hg
  obtain ⟨r1, r2, r3, r4⟩ := hR
  have hpre := g_pre C hw (.ref b :: As)
  have hF := o_free hw.2.1 hw.2.2 C.2.2.2.2.2.2.2.2.2.2
  have hrec : ∃ cellB : Cell, H[b]? = some cellB ∧ cellB.vm.isStatics = false ∧ s.vm.findClass y.cls = some cellB.cls := va_recv C.2.2.2.2.2.2.2.2.1 (o_left hw.1) (q0 := q0) hc he
  have hgw := C.2.2.2.2.2.1
  subst hst
  refine vx_callv (vx_runV (As := As) (rest := rest) ⟨C.2.1, C.2.2.1, C.2.2.2.1, C.2.2.2.2.1, hgw⟩ (hM H.size) ⟨callB_of n hgw (gw_cons g5) rfl rfl rfl (hgw _ g4) (hgw _ g1) ⟨g6, g7, g8⟩ ⟨r1, r2⟩, hgw _ g2, hgw _ g3⟩ ⟨pP_blind, hrec, hpre⟩ rfl hn hl rfl (lv_room hW) hdg ⟨r3, r4⟩) hw.2.2 (fun q _ h => hF q h) hF (fun q _ h => hF q h) ?_ ?_
  · intro E ce q9 z t H1 locs1 ht hvm hp hB hz hk hS1 h1 h2 h3
    obtain ⟨E', u'⟩ := z
    obtain ⟨rfl, hB⟩ := hB
    exact kx _ u' q9 ce H1 locs1 hp (g_join C hw ht hB hk hS1) h1 h2 h3
  · intro u' t H1 locs1 ht hvm hp hB hz hk hS1
    exact kk u' H1 locs1 hp (g_join C hw ht hB hk hS1)
theorem g_S_v {post : σ → Prop} (C : CX own cc nL rt0 Z A p l s m args meth c) (hw : WD Z A s (f u ++ wr) H locs)
    (hM : ∀ sz, vx_Met l y (Cond.code y bytes maxL rt :: GW) rm (pP Z As (f u) sz) (pQv Z f (f u) sz post) (pX Z f (f u) sz ex) 0 0 rm.cells rm.slots (va_A (f u) sz))
    (hg : gS own index y bytes maxL rt n) (hR : rmOk rm maxL R cells slots)
    (hn : As.length = n) (hl : ls.size = nL) (hst : st0 = As.reverse ++ rest) (hW : (rest.map fun v => v.category).sum ≤ 8) (hdg : decode cc pc = .ok (.invokestatic index, 3))
    (kx : ∀ (E : String) (u' : σ) (q9 : Addr) (ce : Cell) (H1 : Heap) (locs1 : List Loc), ex E u' → WD Z A s (f u' ++ wr) H1 locs1 → H1[q9]? = some ce → ce.vm = .none → s.vm.findClass E = some ce.cls → vx_W p l e R s m args below meth c H1 locs1 (cells + rm.cells) (slots + rm.slots) Q (F0 m pc ls rest) q9)
    (kk : ∀ (u' : σ) (H1 : Heap) (locs1 : List Loc), post u' → WD Z A s (f u' ++ wr) H1 locs1 → W p l e R s m args below meth c H1 locs1 cells slots Q (F0 m (pc + 3) ls (rest))) : W p l e R s m args below meth c H locs cells slots Q (F0 m pc ls st0) := by
  obtain ⟨g1, g2, g4, g5, g6, g7, g8⟩ := hg
  obtain ⟨r1, r2, r3, r4⟩ := hR
  have hpre := g_pre C hw As
  have hF := o_free hw.2.1 hw.2.2 C.2.2.2.2.2.2.2.2.2.2
  have hgw := C.2.2.2.2.2.1
  subst hst
  refine vx_callv (vx_runS (As := As) (rest := rest) ⟨C.2.1, C.2.2.1, C.2.2.2.1, C.2.2.2.2.1, hgw⟩ (hM H.size) ⟨callB_of n hgw (gw_cons g5) rfl rfl rfl (hgw _ g4) (hgw _ g1) ⟨g6, g7, g8⟩ ⟨r1, r2⟩, hgw _ g2⟩ ⟨pP_blind, hpre⟩ rfl hn hl rfl (lv_room hW) hdg ⟨r3, r4⟩) hw.2.2 (fun q _ h => hF q h) hF (fun q _ h => hF q h) ?_ ?_
  · intro E ce q9 z t H1 locs1 ht hvm hp hB hz hk hS1 h1 h2 h3
    obtain ⟨E', u'⟩ := z
    obtain ⟨rfl, hB⟩ := hB
    exact kx _ u' q9 ce H1 locs1 hp (g_join C hw ht hB hk hS1) h1 h2 h3
  · intro u' t H1 locs1 ht hvm hp hB hz hk hS1
    exact kk u' H1 locs1 hp (g_join C hw ht hB hk hS1)
theorem g_N_v {post : σ → Prop} (C : CX own cc nL rt0 Z A p l s m args meth c) (hw : WD Z A s (f u ++ wr) H locs)
    (hM : ∀ sz, Met l y (Cond.code y bytes maxL rt :: GW) rm (pP Z (.ref b :: As) (f u) sz) (pQv Z f (f u) sz post) 0 0 (va_A (f u) sz)) (hm0 : rm.cells = 0) (hs0 : rm.slots = 0)
    (hg : gN own index y host bytes maxL rt n) (hR : rmOk rm maxL R cells slots) (q0 : Nat) (he : (f u)[q0]? = some (b, .inr (ci, fs))) (hc : cls4[ci]? = some (y.cls, T, N))
    (hn : As.length = n) (hl : ls.size = nL) (hst : st0 = As.reverse ++ .ref b :: rest) (hW : (rest.map fun v => v.category).sum ≤ 8) (hdg : decode cc pc = .ok (.invokevirtual index, 3))
    (kk : ∀ (u' : σ) (H1 : Heap) (locs1 : List Loc), post u' → WD Z A s (f u' ++ wr) H1 locs1 → W p l e R s m args below meth c H1 locs1 cells slots Q (F0 m (pc + 3) ls (rest))) : W p l e R s m args below meth c H locs cells slots Q (F0 m pc ls st0) := by
  obtain ⟨g1, g2, g3, g4, g5, g6, g7, g8⟩ := hg
  obtain ⟨r1, r2, r3, r4⟩ := hR
  have hpre := g_pre C hw (.ref b :: As)
  have hF := o_free hw.2.1 hw.2.2 C.2.2.2.2.2.2.2.2.2.2
  have hrec : ∃ cellB : Cell, H[b]? = some cellB ∧ cellB.vm.isStatics = false ∧ s.vm.findClass y.cls = some cellB.cls := va_recv C.2.2.2.2.2.2.2.2.1 (o_left hw.1) (q0 := q0) hc he
  have hgw := C.2.2.2.2.2.1
  subst hst
  refine va_callv (va_runVN (As := As) (rest := rest) (C := y.cls) ⟨C.2.1, C.2.2.1, C.2.2.2.1, C.2.2.2.2.1, hgw⟩ (hM H.size) ⟨va_cnB n hgw (gw_cons g5) rfl hm0 hs0 (C.2.2.2.2.2.2.2.2.2.1.1 _ g1) (hgw _ g4) ⟨g6, g7, g8⟩ ⟨r1, r2⟩, hgw _ g2, hgw _ g3⟩ ⟨pP_blind, hrec, hpre⟩ rfl hn hl rfl (lv_room hW) hdg ⟨by omega, by omega⟩) hw.2.2 (fun q _ h => hF q h) hF ?_
  intro u' t H1 locs1 ht hvm hp hB hz hk hS1
  exact kk u' H1 locs1 hp (g_join C hw ht hB hk hS1)
theorem g_V0_i {post : Int32 → σ → Prop} (C : CX own cc nL rt0 Z A p l s m args meth c) (hw : WD Z A s (f u) H locs)
    (hM : ∀ sz, vx_Met l y (Cond.code y bytes maxL rt :: GW) rm (pP Z (.ref b :: As) (f u) sz) (pQi Z f (f u) sz post) (pX Z f (f u) sz ex) 0 0 rm.cells rm.slots (va_A (f u) sz))
    (hg : gV own index y bytes maxL rt n) (hR : rmOk rm maxL R cells slots) (q0 : Nat) (he : (f u)[q0]? = some (b, .inr (ci, fs))) (hc : cls4[ci]? = some (y.cls, T, N))
    (hn : As.length = n) (hl : ls.size = nL) (hst : st0 = As.reverse ++ .ref b :: rest) (hW : (rest.map fun v => v.category).sum ≤ 8) (hdg : decode cc pc = .ok (.invokevirtual index, 3))
    (kx : ∀ (E : String) (u' : σ) (q9 : Addr) (ce : Cell) (H1 : Heap) (locs1 : List Loc), ex E u' → WD Z A s (f u') H1 locs1 → H1[q9]? = some ce → ce.vm = .none → s.vm.findClass E = some ce.cls → vx_W p l e R s m args below meth c H1 locs1 (cells + rm.cells) (slots + rm.slots) Q (F0 m pc ls rest) q9)
    (kk : ∀ (r : Int32) (u' : σ) (H1 : Heap) (locs1 : List Loc), post r u' → WD Z A s (f u') H1 locs1 → W p l e R s m args below meth c H1 locs1 cells slots Q (F0 m (pc + 3) ls (.int r :: rest))) : W p l e R s m args below meth c H locs cells slots Q (F0 m pc ls st0) :=
  g_V_i (wr := []) C (by rw [List.append_nil]; exact hw) hM hg hR q0 he hc hn hl hst hW hdg (fun E u' q9 ce H1 locs1 h1 h2 h3 h4 h5 => kx E u' q9 ce H1 locs1 h1 (by rw [List.append_nil] at h2; exact h2) h3 h4 h5) (fun r u' H1 locs1 h1 h2 => kk r u' H1 locs1 h1 (by rw [List.append_nil] at h2; exact h2))
theorem g_S0_i {post : Int32 → σ → Prop} (C : CX own cc nL rt0 Z A p l s m args meth c) (hw : WD Z A s (f u) H locs)
    (hM : ∀ sz, vx_Met l y (Cond.code y bytes maxL rt :: GW) rm (pP Z As (f u) sz) (pQi Z f (f u) sz post) (pX Z f (f u) sz ex) 0 0 rm.cells rm.slots (va_A (f u) sz))
    (hg : gS own index y bytes maxL rt n) (hR : rmOk rm maxL R cells slots)
    (hn : As.length = n) (hl : ls.size = nL) (hst : st0 = As.reverse ++ rest) (hW : (rest.map fun v => v.category).sum ≤ 8) (hdg : decode cc pc = .ok (.invokestatic index, 3))
    (kx : ∀ (E : String) (u' : σ) (q9 : Addr) (ce : Cell) (H1 : Heap) (locs1 : List Loc), ex E u' → WD Z A s (f u') H1 locs1 → H1[q9]? = some ce → ce.vm = .none → s.vm.findClass E = some ce.cls → vx_W p l e R s m args below meth c H1 locs1 (cells + rm.cells) (slots + rm.slots) Q (F0 m pc ls rest) q9)
    (kk : ∀ (r : Int32) (u' : σ) (H1 : Heap) (locs1 : List Loc), post r u' → WD Z A s (f u') H1 locs1 → W p l e R s m args below meth c H1 locs1 cells slots Q (F0 m (pc + 3) ls (.int r :: rest))) : W p l e R s m args below meth c H locs cells slots Q (F0 m pc ls st0) :=
  g_S_i (wr := []) C (by rw [List.append_nil]; exact hw) hM hg hR hn hl hst hW hdg (fun E u' q9 ce H1 locs1 h1 h2 h3 h4 h5 => kx E u' q9 ce H1 locs1 h1 (by rw [List.append_nil] at h2; exact h2) h3 h4 h5) (fun r u' H1 locs1 h1 h2 => kk r u' H1 locs1 h1 (by rw [List.append_nil] at h2; exact h2))
theorem g_N0_i {post : Int32 → σ → Prop} (C : CX own cc nL rt0 Z A p l s m args meth c) (hw : WD Z A s (f u) H locs)
    (hM : ∀ sz, Met l y (Cond.code y bytes maxL rt :: GW) rm (pP Z (.ref b :: As) (f u) sz) (pQi Z f (f u) sz post) 0 0 (va_A (f u) sz)) (hm0 : rm.cells = 0) (hs0 : rm.slots = 0)
    (hg : gN own index y host bytes maxL rt n) (hR : rmOk rm maxL R cells slots) (q0 : Nat) (he : (f u)[q0]? = some (b, .inr (ci, fs))) (hc : cls4[ci]? = some (y.cls, T, N))
    (hn : As.length = n) (hl : ls.size = nL) (hst : st0 = As.reverse ++ .ref b :: rest) (hW : (rest.map fun v => v.category).sum ≤ 8) (hdg : decode cc pc = .ok (.invokevirtual index, 3))
    (kk : ∀ (r : Int32) (u' : σ) (H1 : Heap) (locs1 : List Loc), post r u' → WD Z A s (f u') H1 locs1 → W p l e R s m args below meth c H1 locs1 cells slots Q (F0 m (pc + 3) ls (.int r :: rest))) : W p l e R s m args below meth c H locs cells slots Q (F0 m pc ls st0) :=
  g_N_i (wr := []) C (by rw [List.append_nil]; exact hw) hM hm0 hs0 hg hR q0 he hc hn hl hst hW hdg (fun r u' H1 locs1 h1 h2 => kk r u' H1 locs1 h1 (by rw [List.append_nil] at h2; exact h2))
theorem g_V0_l {post : Int64 → σ → Prop} (C : CX own cc nL rt0 Z A p l s m args meth c) (hw : WD Z A s (f u) H locs)
    (hM : ∀ sz, vx_Met l y (Cond.code y bytes maxL rt :: GW) rm (pP Z (.ref b :: As) (f u) sz) (pQl Z f (f u) sz post) (pX Z f (f u) sz ex) 0 0 rm.cells rm.slots (va_A (f u) sz))
    (hg : gV own index y bytes maxL rt n) (hR : rmOk rm maxL R cells slots) (q0 : Nat) (he : (f u)[q0]? = some (b, .inr (ci, fs))) (hc : cls4[ci]? = some (y.cls, T, N))
    (hn : As.length = n) (hl : ls.size = nL) (hst : st0 = As.reverse ++ .ref b :: rest) (hW : (rest.map fun v => v.category).sum ≤ 8) (hdg : decode cc pc = .ok (.invokevirtual index, 3))
    (kx : ∀ (E : String) (u' : σ) (q9 : Addr) (ce : Cell) (H1 : Heap) (locs1 : List Loc), ex E u' → WD Z A s (f u') H1 locs1 → H1[q9]? = some ce → ce.vm = .none → s.vm.findClass E = some ce.cls → vx_W p l e R s m args below meth c H1 locs1 (cells + rm.cells) (slots + rm.slots) Q (F0 m pc ls rest) q9)
    (kk : ∀ (r : Int64) (u' : σ) (H1 : Heap) (locs1 : List Loc), post r u' → WD Z A s (f u') H1 locs1 → W p l e R s m args below meth c H1 locs1 cells slots Q (F0 m (pc + 3) ls (.long r :: rest))) : W p l e R s m args below meth c H locs cells slots Q (F0 m pc ls st0) :=
  g_V_l (wr := []) C (by rw [List.append_nil]; exact hw) hM hg hR q0 he hc hn hl hst hW hdg (fun E u' q9 ce H1 locs1 h1 h2 h3 h4 h5 => kx E u' q9 ce H1 locs1 h1 (by rw [List.append_nil] at h2; exact h2) h3 h4 h5) (fun r u' H1 locs1 h1 h2 => kk r u' H1 locs1 h1 (by rw [List.append_nil] at h2; exact h2))
theorem g_S0_l {post : Int64 → σ → Prop} (C : CX own cc nL rt0 Z A p l s m args meth c) (hw : WD Z A s (f u) H locs)
    (hM : ∀ sz, vx_Met l y (Cond.code y bytes maxL rt :: GW) rm (pP Z As (f u) sz) (pQl Z f (f u) sz post) (pX Z f (f u) sz ex) 0 0 rm.cells rm.slots (va_A (f u) sz))
    (hg : gS own index y bytes maxL rt n) (hR : rmOk rm maxL R cells slots)
    (hn : As.length = n) (hl : ls.size = nL) (hst : st0 = As.reverse ++ rest) (hW : (rest.map fun v => v.category).sum ≤ 8) (hdg : decode cc pc = .ok (.invokestatic index, 3))
    (kx : ∀ (E : String) (u' : σ) (q9 : Addr) (ce : Cell) (H1 : Heap) (locs1 : List Loc), ex E u' → WD Z A s (f u') H1 locs1 → H1[q9]? = some ce → ce.vm = .none → s.vm.findClass E = some ce.cls → vx_W p l e R s m args below meth c H1 locs1 (cells + rm.cells) (slots + rm.slots) Q (F0 m pc ls rest) q9)
    (kk : ∀ (r : Int64) (u' : σ) (H1 : Heap) (locs1 : List Loc), post r u' → WD Z A s (f u') H1 locs1 → W p l e R s m args below meth c H1 locs1 cells slots Q (F0 m (pc + 3) ls (.long r :: rest))) : W p l e R s m args below meth c H locs cells slots Q (F0 m pc ls st0) :=
  g_S_l (wr := []) C (by rw [List.append_nil]; exact hw) hM hg hR hn hl hst hW hdg (fun E u' q9 ce H1 locs1 h1 h2 h3 h4 h5 => kx E u' q9 ce H1 locs1 h1 (by rw [List.append_nil] at h2; exact h2) h3 h4 h5) (fun r u' H1 locs1 h1 h2 => kk r u' H1 locs1 h1 (by rw [List.append_nil] at h2; exact h2))
theorem g_N0_l {post : Int64 → σ → Prop} (C : CX own cc nL rt0 Z A p l s m args meth c) (hw : WD Z A s (f u) H locs)
    (hM : ∀ sz, Met l y (Cond.code y bytes maxL rt :: GW) rm (pP Z (.ref b :: As) (f u) sz) (pQl Z f (f u) sz post) 0 0 (va_A (f u) sz)) (hm0 : rm.cells = 0) (hs0 : rm.slots = 0)
    (hg : gN own index y host bytes maxL rt n) (hR : rmOk rm maxL R cells slots) (q0 : Nat) (he : (f u)[q0]? = some (b, .inr (ci, fs))) (hc : cls4[ci]? = some (y.cls, T, N))
    (hn : As.length = n) (hl : ls.size = nL) (hst : st0 = As.reverse ++ .ref b :: rest) (hW : (rest.map fun v => v.category).sum ≤ 8) (hdg : decode cc pc = .ok (.invokevirtual index, 3))
    (kk : ∀ (r : Int64) (u' : σ) (H1 : Heap) (locs1 : List Loc), post r u' → WD Z A s (f u') H1 locs1 → W p l e R s m args below meth c H1 locs1 cells slots Q (F0 m (pc + 3) ls (.long r :: rest))) : W p l e R s m args below meth c H locs cells slots Q (F0 m pc ls st0) :=
  g_N_l (wr := []) C (by rw [List.append_nil]; exact hw) hM hm0 hs0 hg hR q0 he hc hn hl hst hW hdg (fun r u' H1 locs1 h1 h2 => kk r u' H1 locs1 h1 (by rw [List.append_nil] at h2; exact h2))
theorem g_V0_v {post : σ → Prop} (C : CX own cc nL rt0 Z A p l s m args meth c) (hw : WD Z A s (f u) H locs)
    (hM : ∀ sz, vx_Met l y (Cond.code y bytes maxL rt :: GW) rm (pP Z (.ref b :: As) (f u) sz) (pQv Z f (f u) sz post) (pX Z f (f u) sz ex) 0 0 rm.cells rm.slots (va_A (f u) sz))
    (hg : gV own index y bytes maxL rt n) (hR : rmOk rm maxL R cells slots) (q0 : Nat) (he : (f u)[q0]? = some (b, .inr (ci, fs))) (hc : cls4[ci]? = some (y.cls, T, N))
    (hn : As.length = n) (hl : ls.size = nL) (hst : st0 = As.reverse ++ .ref b :: rest) (hW : (rest.map fun v => v.category).sum ≤ 8) (hdg : decode cc pc = .ok (.invokevirtual index, 3))
    (kx : ∀ (E : String) (u' : σ) (q9 : Addr) (ce : Cell) (H1 : Heap) (locs1 : List Loc), ex E u' → WD Z A s (f u') H1 locs1 → H1[q9]? = some ce → ce.vm = .none → s.vm.findClass E = some ce.cls → vx_W p l e R s m args below meth c H1 locs1 (cells + rm.cells) (slots + rm.slots) Q (F0 m pc ls rest) q9)
    (kk : ∀ (u' : σ) (H1 : Heap) (locs1 : List Loc), post u' → WD Z A s (f u') H1 locs1 → W p l e R s m args below meth c H1 locs1 cells slots Q (F0 m (pc + 3) ls (rest))) : W p l e R s m args below meth c H locs cells slots Q (F0 m pc ls st0) :=
  g_V_v (wr := []) C (by rw [List.append_nil]; exact hw) hM hg hR q0 he hc hn hl hst hW hdg (fun E u' q9 ce H1 locs1 h1 h2 h3 h4 h5 => kx E u' q9 ce H1 locs1 h1 (by rw [List.append_nil] at h2; exact h2) h3 h4 h5) (fun u' H1 locs1 h1 h2 => kk u' H1 locs1 h1 (by rw [List.append_nil] at h2; exact h2))
theorem g_S0_v {post : σ → Prop} (C : CX own cc nL rt0 Z A p l s m args meth c) (hw : WD Z A s (f u) H locs)
    (hM : ∀ sz, vx_Met l y (Cond.code y bytes maxL rt :: GW) rm (pP Z As (f u) sz) (pQv Z f (f u) sz post) (pX Z f (f u) sz ex) 0 0 rm.cells rm.slots (va_A (f u) sz))
    (hg : gS own index y bytes maxL rt n) (hR : rmOk rm maxL R cells slots)
    (hn : As.length = n) (hl : ls.size = nL) (hst : st0 = As.reverse ++ rest) (hW : (rest.map fun v => v.category).sum ≤ 8) (hdg : decode cc pc = .ok (.invokestatic index, 3))
    (kx : ∀ (E : String) (u' : σ) (q9 : Addr) (ce : Cell) (H1 : Heap) (locs1 : List Loc), ex E u' → WD Z A s (f u') H1 locs1 → H1[q9]? = some ce → ce.vm = .none → s.vm.findClass E = some ce.cls → vx_W p l e R s m args below meth c H1 locs1 (cells + rm.cells) (slots + rm.slots) Q (F0 m pc ls rest) q9)
    (kk : ∀ (u' : σ) (H1 : Heap) (locs1 : List Loc), post u' → WD Z A s (f u') H1 locs1 → W p l e R s m args below meth c H1 locs1 cells slots Q (F0 m (pc + 3) ls (rest))) : W p l e R s m args below meth c H locs cells slots Q (F0 m pc ls st0) :=
  g_S_v (wr := []) C (by rw [List.append_nil]; exact hw) hM hg hR hn hl hst hW hdg (fun E u' q9 ce H1 locs1 h1 h2 h3 h4 h5 => kx E u' q9 ce H1 locs1 h1 (by rw [List.append_nil] at h2; exact h2) h3 h4 h5) (fun u' H1 locs1 h1 h2 => kk u' H1 locs1 h1 (by rw [List.append_nil] at h2; exact h2))
theorem g_N0_v {post : σ → Prop} (C : CX own cc nL rt0 Z A p l s m args meth c) (hw : WD Z A s (f u) H locs)
    (hM : ∀ sz, Met l y (Cond.code y bytes maxL rt :: GW) rm (pP Z (.ref b :: As) (f u) sz) (pQv Z f (f u) sz post) 0 0 (va_A (f u) sz)) (hm0 : rm.cells = 0) (hs0 : rm.slots = 0)
    (hg : gN own index y host bytes maxL rt n) (hR : rmOk rm maxL R cells slots) (q0 : Nat) (he : (f u)[q0]? = some (b, .inr (ci, fs))) (hc : cls4[ci]? = some (y.cls, T, N))
    (hn : As.length = n) (hl : ls.size = nL) (hst : st0 = As.reverse ++ .ref b :: rest) (hW : (rest.map fun v => v.category).sum ≤ 8) (hdg : decode cc pc = .ok (.invokevirtual index, 3))
    (kk : ∀ (u' : σ) (H1 : Heap) (locs1 : List Loc), post u' → WD Z A s (f u') H1 locs1 → W p l e R s m args below meth c H1 locs1 cells slots Q (F0 m (pc + 3) ls (rest))) : W p l e R s m args below meth c H locs cells slots Q (F0 m pc ls st0) :=
  g_N_v (wr := []) C (by rw [List.append_nil]; exact hw) hM hm0 hs0 hg hR q0 he hc hn hl hst hW hdg (fun u' H1 locs1 h1 h2 => kk u' H1 locs1 h1 (by rw [List.append_nil] at h2; exact h2))
/-- entry of a method without a table -/
theorem g_ent {av : List Value} {Qc : Nat → Array Value → State → Outcome → State → Prop} {XC : Nat → String → State → State → Prop}
    (hl : l.stackTraces = false) (hy : plainName y.cls = true) (hav : (lg_sl av).length ≤ maxL)
    (body : ∀ (p : Program) (e : Env) (s : State) (m : MethodId) (args : Array Value) (below : List Frame) (meth : Method) (c : Code) (ls : Array Slot), CX y.cls bytes maxL rt Z (va_A (f u) s.heap.size) p l s m args meth c → (∀ x ∈ c.exceptionTable.toList, False) → WD Z (va_A (f u) s.heap.size) s (f u) s.heap [] → lv_has ls maxL (lv_args 0 av) →
      W p l e rm s m args below meth c s.heap [] 0 0 (vx_MQ below (Qc s.heap.size) (XC s.heap.size) args s 0 0 rm.cells rm.slots (va_A (f u) s.heap.size)) (F0 m 0 ls [])) :
    ∀ sz, vx_Met l y (Cond.code y bytes maxL rt :: GW) rm (pP Z av (f u) sz) (Qc sz) (XC sz) 0 0 rm.cells rm.slots (va_A (f u) sz) := by
  intro sz
  refine vx_ofW (cc := bytes) (maxL := maxL) (ret := rt) hy rfl ?_
  intro p e s m args below meth c s₁ B hml htab hv
  obtain ⟨rfl, hsz, hP, hK, hD0, hE⟩ := hv
  subst hsz
  have hts := atoms_spec (ws := Cond.code y bytes maxL rt :: GW) B.pre
  have hl9 := lv_entry av (n := maxL) hav
  rw [lg_entry_eq]
  exact body p e s m _ below meth c _ ⟨hl, B.exec, B.bytes, hml, findClass_of_methodNamed B.named, fun w h => hts w (List.mem_cons_of_mem _ h), B.returns, B.notSynchronized, hK, hE, fun q h => Or.inr h⟩ htab ⟨hP, hD0.self, va_S.rf⟩ hl9
theorem vx_toMet {ws : List Cond} {Pc : Array Value → State → Prop} {Qc : Array Value → State → Outcome → State → Prop} {XC : String → State → State → Prop} {mc ms mx sx : Nat} {free : Addr → Prop} (h : vx_Met l y ws rm Pc Qc XC mc ms mx sx free) (hX : ∀ E st t, ¬ XC E st t) : Met l y ws rm Pc Qc mc ms free := by
  refine MetFree.mono h (fun _ _ h => h) (fun _ _ _ _ _ h => h) ?_
  intro a st o t _ hq
  rcases hq with hq | ⟨q, -, E, ce, L, hx, -⟩
  · exact hq
  · exact absurd hx (hX E st t)
section OWR
variable {u0 : σ} {mx sx : Nat} {XC : String → State → State → Prop}
theorem g_iret {ty : FieldType} {v : Int32} {post : Int32 → σ → Prop} (C : CX own cc nL (some ty) Z (va_A (f u0) s.heap.size) p l s m args meth c) (hw : WD Z (va_A (f u0) s.heap.size) s (f u) H locs) (hn : narrow ty (.int v) = .int v) (h : post v u) (hdg : decode cc pc = .ok (.ireturn, 1)) :
    W p l e R s m args below meth c H locs 0 0 (vx_MQ below (pQi Z f (f u0) s.heap.size post) XC args s 0 0 mx sx (va_A (f u0) s.heap.size)) (F0 m pc ls [.int v]) :=
  vx_ret (W.zret C.2.1 C.2.2.1 C.2.2.2.2.2.2.1 hn (fun t ht hW => ⟨⟨v, u, rfl, h, by rw [ht]; exact hw.1, hw.2.1⟩, hw.2.2.F ht⟩) hw.2.2.2.2 hdg C.2.2.2.2.2.2.2.1)
theorem g_lret {v : Int64} {post : Int64 → σ → Prop} (C : CX own cc nL (some .long) Z (va_A (f u0) s.heap.size) p l s m args meth c) (hw : WD Z (va_A (f u0) s.heap.size) s (f u) H locs) (h : post v u) (hdg : decode cc pc = .ok (.lreturn, 1)) :
    W p l e R s m args below meth c H locs 0 0 (vx_MQ below (pQl Z f (f u0) s.heap.size post) XC args s 0 0 mx sx (va_A (f u0) s.heap.size)) (F0 m pc ls [.long v]) :=
  vx_ret (W.lret C.2.1 C.2.2.1 C.2.2.2.2.2.2.1 (fun t ht hW => ⟨⟨v, u, rfl, h, by rw [ht]; exact hw.1, hw.2.1⟩, hw.2.2.F ht⟩) hw.2.2.2.2 hdg C.2.2.2.2.2.2.2.1)
theorem g_vret {post : σ → Prop} (C : CX own cc nL none Z (va_A (f u0) s.heap.size) p l s m args meth c) (hw : WD Z (va_A (f u0) s.heap.size) s (f u) H locs) (h : post u) (hdg : decode cc pc = .ok (.return_, 1)) :
    W p l e R s m args below meth c H locs 0 0 (vx_MQ below (pQv Z f (f u0) s.heap.size post) XC args s 0 0 mx sx (va_A (f u0) s.heap.size)) (F0 m pc ls []) :=
  vx_ret (W.vret C.2.1 C.2.2.1 C.2.2.2.2.2.2.1 (fun t ht hW => ⟨⟨u, rfl, h, by rw [ht]; exact hw.1, hw.2.1⟩, hw.2.2.F ht⟩) hw.2.2.2.2 hdg C.2.2.2.2.2.2.2.1)
theorem g_out {Qc : Array Value → State → Outcome → State → Prop} {E : String} {ce : Cell} {q9 : Addr} (C : CX own cc nL rt0 Z (va_A (f u0) s.heap.size) p l s m args meth c) (htab : ∀ x ∈ c.exceptionTable.toList, False) (hw : WD Z (va_A (f u0) s.heap.size) s (f u) H locs) (h : ex E u) (h1 : H[q9]? = some ce) (h2 : ce.vm = .none) (h3 : s.vm.findClass E = some ce.cls) (hc : cells ≤ mx) (hs : slots ≤ sx) :
    vx_W p l e R s m args below meth c H locs cells slots (vx_MQ below Qc (pX Z f (f u0) s.heap.size ex) args s 0 0 mx sx (va_A (f u0) s.heap.size)) (F0 m pc ls rest) q9 :=
  vx_out (fun x hx => (htab x hx).elim) C.2.2.2.2.2.2.2.1 h1 h2 h3 (fun t ht hvm => ⟨(E, u), h, ⟨rfl, by rw [ht]; exact hw.1, hw.2.1⟩, hw.2.2.F ht⟩) hw.2.2.2.2 hc hs
theorem g_throw {Qc : Array Value → State → Outcome → State → Prop} {E text : String} {ik is ic : Nat} (C : CX "CoderTables" cc nL rt0 Z (va_A (f u0) s.heap.size) p l s m args meth c) (htab : ∀ x ∈ c.exceptionTable.toList, False) (hw : WD Z (va_A (f u0) s.heap.size) s (f u) H locs)
    (hE : Bundle.fit E = true ∧ Cond.classLink "CoderTables" ik E ∈ GW ∧ Cond.initialized E ∈ GW ∧ (∀ w ∈ (vx_atS "CoderTables" ic E ["java/lang/RuntimeException", "java/lang/Exception"]).filter goodWord, w ∈ lw_tbl) ∧ (∀ w ∈ (vx_atS "CoderTables" ic E ["java/lang/RuntimeException", "java/lang/Exception"]).filter (fun w => !goodWord w), w ∈ NG) ∧ (∀ w ∈ Cond.classLink "CoderTables" ik E :: Cond.initialized E :: vx_atS "CoderTables" ic E ["java/lang/RuntimeException", "java/lang/Exception"], vx_ot w = true))
    (hk : (is, text) ∈ SG) (h : ex E u) (hl : ls.size = nL) (d0 : decode cc pc = .ok (.new ik, 3)) (d3 : decode cc (pc + 3) = .ok (.dup, 1)) (d4 : decode cc (pc + 4) = .ok (.ldc is, 2)) (d6 : decode cc (pc + 6) = .ok (.invokespecial ic, 3)) (d9 : decode cc (pc + 9) = .ok (.athrow, 1))
    (hR : 5 < R.frames ∧ (rest.map fun v => v.category).sum + 82 ≤ R.locals ∧ cells + 1 ≤ R.cells ∧ slots + 6 ≤ R.slots) (hc : cells + 1 ≤ mx) (hs : slots + 6 ≤ sx) :
    W p l e R s m args below meth c H locs cells slots (vx_MQ below Qc (pX Z f (f u0) s.heap.size ex) args s 0 0 mx sx (va_A (f u0) s.heap.size)) (F0 m pc ls rest) := by
  obtain ⟨e1, e2, e3, e4, e5, e7⟩ := hE
  obtain ⟨r1, r2, r3, r4⟩ := hR
  have hgw := C.2.2.2.2.2.1
  have hEX := C.2.2.2.2.2.2.2.2.2.1
  have hat : ∀ w ∈ vx_atS "CoderTables" ic E ["java/lang/RuntimeException", "java/lang/Exception"], w.before args s = true :=
    vx_hat (fun w hw => hgw w (List.mem_filter.mpr ⟨e4 w hw, (List.mem_filter.mp hw).2⟩)) e5 (fun w h => va_Nw.use (NG_tab w h) (hEX.1 w h))
  refine vx_throwS (own := "CoderTables") (cls := E) (text := text) (names := ["java/lang/RuntimeException", "java/lang/Exception"]) (sa := Z.2.2 is) C.2.1 C.2.2.1 C.1 C.2.2.2.2.1 e1 (by decide +kernel) (hgw _ e2) (hgw _ e3) (hEX.2.1 _ hk) hat e7 hEX.2.2.2.1 hEX.2.2.2.2 hw.2.2 (by rw [hl]; exact C.2.2.2.1.symm) d0 d3 d4 d6 d9 (fun x hx => (htab x hx).elim) r1 r2 r3 r4 C.2.2.2.2.2.2.2.1 ?_ hw.2.2.2.2 hc hs
  intro t hvm hle hq
  exact ⟨(E, u), h, ⟨rfl, hw.1.kept (fun k q hk => hq q.1 ((hw.1 k q hk).lt)), hw.2.1⟩, Nat.le_trans hw.2.2.1 hle, fun q h1 h2 => (hq q (Nat.lt_of_lt_of_le h1 hw.2.2.1)).trans (hw.2.2.2.1 q h1 h2)⟩
end OWR
section OWF
variable {ws : va_W} {a : Nat} {Cn : String}
theorem g_get (C : CX own cc nL rt0 Z A p l s m args meth c) (hw : WD Z A s ws H locs) (q0 : Nat) (he : ws[q0]? = some (a, .inr (ci, fs))) (hc : cls4[ci]? = some (Cn, T, N)) (hin : ∀ w ∈ u_ws Cn T N, w ∈ GW) (k : Nat) (hk : k < N) (hlink : Cond.fieldLink own index Cn (T k).2.1 (T k).2.2.1 ∈ GW) (hT : (T k).1 = Cn) {v : Value} (hv : fs[k]? = some v) (hdg : decode cc pc = .ok (.getfield index, 3))
    (kk : W p l e R s m args below meth c H locs cells slots Q (F0 m (pc + 3) ls (v :: rest))) : W p l e R s m args below meth c H locs cells slots Q (F0 m pc ls (.ref a :: rest)) :=
  va_get C.2.1 C.2.2.1 C.2.2.2.2.2.1 hin C.2.2.2.2.1 C.2.2.2.2.2.2.2.2.1 hw.1 q0 he hc k hk (C.2.2.2.2.2.1 _ hlink) (fun x h => by rw [hT] at h; exact h) hv hdg kk
theorem g_getN (C : CX own cc nL rt0 Z A p l s m args meth c) (hw : WD Z A s ws H locs) (q0 : Nat) (he : ws[q0]? = some (a, .inr (ci, fs))) (hc : cls4[ci]? = some (Cn, T, N)) (hin : ∀ w ∈ u_ws Cn T N, w ∈ GW) (k : Nat) (hk : k < N) (hlink : Cond.fieldLinkNest own index Cn (T k).2.1 (T k).2.2.1 host ∈ NG) (hT : (T k).1 = Cn) {v : Value} (hv : fs[k]? = some v) (hdg : decode cc pc = .ok (.getfield index, 3))
    (kk : W p l e R s m args below meth c H locs cells slots Q (F0 m (pc + 3) ls (v :: rest))) : W p l e R s m args below meth c H locs cells slots Q (F0 m pc ls (.ref a :: rest)) :=
  va_getN C.2.1 C.2.2.1 C.2.2.2.2.2.1 hin C.2.2.2.2.1 C.2.2.2.2.2.2.2.2.1 hw.1 q0 he hc k hk (va_Nw.use (NG_tab _ hlink) (C.2.2.2.2.2.2.2.2.2.1.1 _ hlink)) (fun x h => by rw [hT] at h; exact h) hv hdg kk
theorem g_put (C : CX own cc nL rt0 Z A p l s m args meth c) (hw : WD Z A s ws H locs) (q0 : Nat) (he : ws[q0]? = some (a, .inr (ci, fs))) (hc : cls4[ci]? = some (Cn, T, N)) (hin : ∀ w ∈ u_ws Cn T N, w ∈ GW) (ty0 : Nat → FieldType) (hty : ∀ k, k < N → parseFieldDescriptor (T k).2.2.1 = some (ty0 k)) (hnm : ∀ a, a < N → ∀ b, b < N → a ≠ b → (T a).2.1 ≠ (T b).2.1) (k : Nat) (hk : k < N) (hlink : Cond.fieldLink own index Cn (T k).2.1 (T k).2.2.1 ∈ GW) (hT : (T k).1 = Cn) (hfin : (T k).2.2.2 = false) {v : Value} (hn : narrow (ty0 k) v = v) (hfit : fits (ty0 k) v = true) (hl : k < fs.length) (hdg : decode cc pc = .ok (.putfield index, 3))
    (kk : ∀ (H1 : Heap) (locs1 : List Loc), WD Z A s (ws.set q0 (a, .inr (ci, fs.set k v))) H1 locs1 → W p l e R s m args below meth c H1 locs1 cells slots Q (F0 m (pc + 3) ls rest)) : W p l e R s m args below meth c H locs cells slots Q (F0 m pc ls (v :: .ref a :: rest)) :=
  va_put C.2.1 C.2.2.1 C.2.2.2.2.2.1 hin ty0 hty hnm C.2.2.2.2.1 C.2.2.2.2.2.2.2.2.1 hw.1 hw.2.1 hw.2.2 q0 he hc k hk (C.2.2.2.2.2.1 _ hlink) (fun x h => by rw [hT] at h; exact h) hfin (hty k hk) hn hfit hl hdg (fun H1 locs1 h1 h2 h3 => kk H1 locs1 ⟨h1, h2, h3⟩)
theorem g_ldi {k9 : Nat} {f : Nat → Int32} (C : CX own cc nL rt0 Z A p l s m args meth c) (hw : WD Z A s ws H locs) (q0 : Nat) (ha : ws[q0]? = some (a, .inl (Z.2.1 0, k9, .inl f))) {i : Int32} (hin : vp_in i k9) (hdg : decode cc pc = .ok (.iaload, 1))
    (kk : W p l e R s m args below meth c H locs cells slots Q (F0 m (pc + 1) ls (.int (f i.toNatClampNeg) :: rest))) : W p l e R s m args below meth c H locs cells slots Q (F0 m pc ls (.int i :: .ref a :: rest)) :=
  va_iald C.2.1 C.2.2.1 C.2.2.2.2.2.2.2.2.1 hw.1 q0 0 ha rfl hin hdg kk
theorem g_sti {k9 : Nat} {f : Nat → Int32} (C : CX own cc nL rt0 Z A p l s m args meth c) (hw : WD Z A s ws H locs) (q0 : Nat) (ha : ws[q0]? = some (a, .inl (Z.2.1 0, k9, .inl f))) {i : Int32} {x : Int32} (hin : vp_in i k9) (hdg : decode cc pc = .ok (.iastore, 1))
    (kk : ∀ (H1 : Heap) (locs1 : List Loc), WD Z A s (ws.set q0 (a, .inl (Z.2.1 0, k9, .inl (upd f i.toNatClampNeg x)))) H1 locs1 → W p l e R s m args below meth c H1 locs1 cells slots Q (F0 m (pc + 1) ls rest)) : W p l e R s m args below meth c H locs cells slots Q (F0 m pc ls (.int x :: .int i :: .ref a :: rest)) :=
  va_iast C.2.1 C.2.2.1 C.2.2.2.2.2.2.2.2.1 hw.1 hw.2.1 hw.2.2 q0 0 ha rfl hin hdg (fun H1 locs1 h1 h2 h3 => kk H1 locs1 ⟨h1, h2, h3⟩)
theorem g_ldc {k9 : Nat} {f : Nat → Int32} (C : CX own cc nL rt0 Z A p l s m args meth c) (hw : WD Z A s ws H locs) (q0 : Nat) (ha : ws[q0]? = some (a, .inl (Z.2.1 1, k9, .inl f))) {i : Int32} (hin : vp_in i k9) (hdg : decode cc pc = .ok (.caload, 1))
    (kk : W p l e R s m args below meth c H locs cells slots Q (F0 m (pc + 1) ls (.int (f i.toNatClampNeg) :: rest))) : W p l e R s m args below meth c H locs cells slots Q (F0 m pc ls (.int i :: .ref a :: rest)) :=
  va_cald C.2.1 C.2.2.1 C.2.2.2.2.2.2.2.2.1 hw.1 q0 1 ha rfl hin hdg kk
theorem g_stc {k9 : Nat} {f : Nat → Int32} (C : CX own cc nL rt0 Z A p l s m args meth c) (hw : WD Z A s ws H locs) (q0 : Nat) (ha : ws[q0]? = some (a, .inl (Z.2.1 1, k9, .inl f))) {i : Int32} {x : Int32} (hin : vp_in i k9) (hdg : decode cc pc = .ok (.castore, 1))
    (kk : ∀ (H1 : Heap) (locs1 : List Loc), WD Z A s (ws.set q0 (a, .inl (Z.2.1 1, k9, .inl (upd f i.toNatClampNeg (vp_nar .char x))))) H1 locs1 → W p l e R s m args below meth c H1 locs1 cells slots Q (F0 m (pc + 1) ls rest)) : W p l e R s m args below meth c H locs cells slots Q (F0 m pc ls (.int x :: .int i :: .ref a :: rest)) :=
  va_cast C.2.1 C.2.2.1 C.2.2.2.2.2.2.2.2.1 hw.1 hw.2.1 hw.2.2 q0 1 ha rfl hin hdg (fun H1 locs1 h1 h2 h3 => kk H1 locs1 ⟨h1, h2, h3⟩)
theorem g_ldz {k9 : Nat} {f : Nat → Int32} (C : CX own cc nL rt0 Z A p l s m args meth c) (hw : WD Z A s ws H locs) (q0 : Nat) (ha : ws[q0]? = some (a, .inl (Z.2.1 2, k9, .inl f))) {i : Int32} (hin : vp_in i k9) (hdg : decode cc pc = .ok (.baload, 1))
    (kk : W p l e R s m args below meth c H locs cells slots Q (F0 m (pc + 1) ls (.int (f i.toNatClampNeg) :: rest))) : W p l e R s m args below meth c H locs cells slots Q (F0 m pc ls (.int i :: .ref a :: rest)) :=
  va_zald C.2.1 C.2.2.1 C.2.2.2.2.2.2.2.2.1 hw.1 q0 2 ha rfl hin hdg kk
theorem g_stz {k9 : Nat} {f : Nat → Int32} (C : CX own cc nL rt0 Z A p l s m args meth c) (hw : WD Z A s ws H locs) (q0 : Nat) (ha : ws[q0]? = some (a, .inl (Z.2.1 2, k9, .inl f))) {i : Int32} {x : Int32} (hin : vp_in i k9) (hdg : decode cc pc = .ok (.bastore, 1))
    (kk : ∀ (H1 : Heap) (locs1 : List Loc), WD Z A s (ws.set q0 (a, .inl (Z.2.1 2, k9, .inl (upd f i.toNatClampNeg (vp_nar .boolean x))))) H1 locs1 → W p l e R s m args below meth c H1 locs1 cells slots Q (F0 m (pc + 1) ls rest)) : W p l e R s m args below meth c H locs cells slots Q (F0 m pc ls (.int x :: .int i :: .ref a :: rest)) :=
  va_zast C.2.1 C.2.2.1 C.2.2.2.2.2.2.2.2.1 hw.1 hw.2.1 hw.2.2 q0 2 ha rfl hin hdg (fun H1 locs1 h1 h2 h3 => kk H1 locs1 ⟨h1, h2, h3⟩)
theorem g_ldl {k9 : Nat} {f : Nat → Int64} (C : CX own cc nL rt0 Z A p l s m args meth c) (hw : WD Z A s ws H locs) (q0 : Nat) (ha : ws[q0]? = some (a, .inl (Z.2.1 3, k9, .inr (.inl f)))) {i : Int32} (hin : vp_in i k9) (hdg : decode cc pc = .ok (.laload, 1))
    (kk : W p l e R s m args below meth c H locs cells slots Q (F0 m (pc + 1) ls (.long (f i.toNatClampNeg) :: rest))) : W p l e R s m args below meth c H locs cells slots Q (F0 m pc ls (.int i :: .ref a :: rest)) :=
  va_lald C.2.1 C.2.2.1 C.2.2.2.2.2.2.2.2.1 hw.1 q0 3 ha rfl hin hdg kk
theorem g_stl {k9 : Nat} {f : Nat → Int64} (C : CX own cc nL rt0 Z A p l s m args meth c) (hw : WD Z A s ws H locs) (q0 : Nat) (ha : ws[q0]? = some (a, .inl (Z.2.1 3, k9, .inr (.inl f)))) {i : Int32} {x : Int64} (hin : vp_in i k9) (hdg : decode cc pc = .ok (.lastore, 1))
    (kk : ∀ (H1 : Heap) (locs1 : List Loc), WD Z A s (ws.set q0 (a, .inl (Z.2.1 3, k9, .inr (.inl (vp_updL f i.toNatClampNeg x))))) H1 locs1 → W p l e R s m args below meth c H1 locs1 cells slots Q (F0 m (pc + 1) ls rest)) : W p l e R s m args below meth c H locs cells slots Q (F0 m pc ls (.long x :: .int i :: .ref a :: rest)) :=
  va_last C.2.1 C.2.2.1 C.2.2.2.2.2.2.2.2.1 hw.1 hw.2.1 hw.2.2 q0 3 ha rfl hin hdg (fun H1 locs1 h1 h2 h3 => kk H1 locs1 ⟨h1, h2, h3⟩)
theorem g_len {k9 : vp_A} {t0 : Nat} {ty : FieldType} (C : CX own cc nL rt0 Z A p l s m args meth c) (hw : WD Z A s ws H locs) (q0 : Nat) (ha : ws[q0]? = some (a, .inl (Z.2.1 t0, k9))) (ht : (tyl Z.2.1)[t0]? = some (Z.2.1 t0, ty)) {v : Int32} (hv : Int32.ofNat k9.1 = v) (hdg : decode cc pc = .ok (.arraylength, 1))
    (kk : W p l e R s m args below meth c H locs cells slots Q (F0 m (pc + 1) ls (.int v :: rest))) : W p l e R s m args below meth c H locs cells slots Q (F0 m pc ls (.ref a :: rest)) :=
  va_alen C.2.1 C.2.2.1 C.2.2.2.2.2.2.2.2.1 hw.1 q0 t0 ha ht hv hdg kk

end OWF
end OWC
theorem hE_U : Bundle.fit "java/lang/UnsupportedOperationException" = true ∧ Cond.classLink "CoderTables" 61 "java/lang/UnsupportedOperationException" ∈ GW ∧ Cond.initialized "java/lang/UnsupportedOperationException" ∈ GW ∧ (∀ w ∈ (vx_atS "CoderTables" 65 "java/lang/UnsupportedOperationException" ["java/lang/RuntimeException", "java/lang/Exception"]).filter goodWord, w ∈ lw_tbl) ∧ (∀ w ∈ (vx_atS "CoderTables" 65 "java/lang/UnsupportedOperationException" ["java/lang/RuntimeException", "java/lang/Exception"]).filter (fun w => !goodWord w), w ∈ NG) ∧ (∀ w ∈ Cond.classLink "CoderTables" 61 "java/lang/UnsupportedOperationException" :: Cond.initialized "java/lang/UnsupportedOperationException" :: vx_atS "CoderTables" 65 "java/lang/UnsupportedOperationException" ["java/lang/RuntimeException", "java/lang/Exception"], vx_ot w = true) :=
  ⟨by decide +kernel, w240, w60, by decide +kernel, by decide +kernel, by decide +kernel⟩
theorem hE_O : Bundle.fit "java/lang/IndexOutOfBoundsException" = true ∧ Cond.classLink "CoderTables" 99 "java/lang/IndexOutOfBoundsException" ∈ GW ∧ Cond.initialized "java/lang/IndexOutOfBoundsException" ∈ GW ∧ (∀ w ∈ (vx_atS "CoderTables" 103 "java/lang/IndexOutOfBoundsException" ["java/lang/RuntimeException", "java/lang/Exception"]).filter goodWord, w ∈ lw_tbl) ∧ (∀ w ∈ (vx_atS "CoderTables" 103 "java/lang/IndexOutOfBoundsException" ["java/lang/RuntimeException", "java/lang/Exception"]).filter (fun w => !goodWord w), w ∈ NG) ∧ (∀ w ∈ Cond.classLink "CoderTables" 99 "java/lang/IndexOutOfBoundsException" :: Cond.initialized "java/lang/IndexOutOfBoundsException" :: vx_atS "CoderTables" 103 "java/lang/IndexOutOfBoundsException" ["java/lang/RuntimeException", "java/lang/Exception"], vx_ot w = true) :=
  ⟨by decide +kernel, w335, w61, by decide +kernel, by decide +kernel, by decide +kernel⟩
theorem hE_G : Bundle.fit "java/lang/IllegalArgumentException" = true ∧ Cond.classLink "CoderTables" 75 "java/lang/IllegalArgumentException" ∈ GW ∧ Cond.initialized "java/lang/IllegalArgumentException" ∈ GW ∧ (∀ w ∈ (vx_atS "CoderTables" 79 "java/lang/IllegalArgumentException" ["java/lang/RuntimeException", "java/lang/Exception"]).filter goodWord, w ∈ lw_tbl) ∧ (∀ w ∈ (vx_atS "CoderTables" 79 "java/lang/IllegalArgumentException" ["java/lang/RuntimeException", "java/lang/Exception"]).filter (fun w => !goodWord w), w ∈ NG) ∧ (∀ w ∈ Cond.classLink "CoderTables" 75 "java/lang/IllegalArgumentException" :: Cond.initialized "java/lang/IllegalArgumentException" :: vx_atS "CoderTables" 79 "java/lang/IllegalArgumentException" ["java/lang/RuntimeException", "java/lang/Exception"], vx_ot w = true) :=
  ⟨by decide +kernel, w357, w62, by decide +kernel, by decide +kernel, by decide +kernel⟩
theorem hE_T : Bundle.fit "java/lang/IllegalStateException" = true ∧ Cond.classLink "CoderTables" 82 "java/lang/IllegalStateException" ∈ GW ∧ Cond.initialized "java/lang/IllegalStateException" ∈ GW ∧ (∀ w ∈ (vx_atS "CoderTables" 86 "java/lang/IllegalStateException" ["java/lang/RuntimeException", "java/lang/Exception"]).filter goodWord, w ∈ lw_tbl) ∧ (∀ w ∈ (vx_atS "CoderTables" 86 "java/lang/IllegalStateException" ["java/lang/RuntimeException", "java/lang/Exception"]).filter (fun w => !goodWord w), w ∈ NG) ∧ (∀ w ∈ Cond.classLink "CoderTables" 82 "java/lang/IllegalStateException" :: Cond.initialized "java/lang/IllegalStateException" :: vx_atS "CoderTables" 86 "java/lang/IllegalStateException" ["java/lang/RuntimeException", "java/lang/Exception"], vx_ot w = true) :=
  ⟨by decide +kernel, w374, w63, by decide +kernel, by decide +kernel, by decide +kernel⟩
theorem sg_63 : (63, "there are eight coders already") ∈ SG := by decide +kernel
theorem sg_68 : (68, "there are twenty-four pictures already") ∈ SG := by decide +kernel
theorem sg_215 : (215, "there is no such coder") ∈ SG := by decide +kernel
theorem sg_217 : (217, "there is no such picture") ∈ SG := by decide +kernel
theorem sg_77 : (77, "bytes are 1 to 1000000000") ∈ SG := by decide +kernel
theorem sg_80 : (80, "an error is 0 to 1000000000") ∈ SG := by decide +kernel
theorem sg_84 : (84, "the pair has failed") ∈ SG := by decide +kernel
theorem sg_87 : (87, "the pair has six points already") ∈ SG := by decide +kernel
theorem sg_93 : (93, "the pair has failed already") ∈ SG := by decide +kernel
theorem sg_101 : (101, "so many pairs have not failed") ∈ SG := by decide +kernel
theorem sg_104 : (104, "what is 0 for the coder, 1 for the picture") ∈ SG := by decide +kernel
theorem sg_109 : (109, "an error is not below 0") ∈ SG := by decide +kernel
theorem sg_219 : (219, "the coder has no counted pair") ∈ SG := by decide +kernel
theorem sg_140 : (140, "there is no such point on the hull") ∈ SG := by decide +kernel
theorem sg_142 : (142, "what is 0 for bytes, 1 for the error") ∈ SG := by decide +kernel
theorem sg_144 : (144, "there is no such slope on the hull") ∈ SG := by decide +kernel
theorem sg_153 : (153, "what is 0 to 3") ∈ SG := by decide +kernel
theorem sg_172 : (172, "the times are 0 to 200") ∈ SG := by decide +kernel
theorem sg_174 : (174, "there is no picture that both have counted") ∈ SG := by decide +kernel
theorem sg_202 : (202, "there is no such character") ∈ SG := by decide +kernel
