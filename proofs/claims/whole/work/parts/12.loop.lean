/-! THE CLAIM OUT OF ONE WALK OF THE LAW'S BODY. Your part is whole_start (and what it stands on); all else here is the same for every law, but numbers. -/
def R_law : String := "CoderTablesLaw"
def lw_P (b : Addr) (xs : List Int32) (args : Array Value) (s : State) : Prop := args = #[.ref b] ∧ s.IntsAt b xs ∧ xs.length ≤ 3072 ∧ (Jvm.Cond.and given_1 narrow_1).before args s = true
def lw_Q (_ : Array Value) (s : State) (o : Outcome) (t : State) : Prop := o = .returned (some (.int 1)) ∧ Framed s o t [] 1065 14558
def lw_Z (below : List Frame) (a : Array Value) (s : State) : State → Prop := fun t => ∃ o, t.status = .running ∧ Ended t below o ∧ lw_Q a s o t
/-- the law's own end, with 1 on the stack, nothing written that was there before, its room as the claim has it -/
theorem lw_ret {p : Program} {l : Launch} {e : Env} {s : State} {m : MethodId} {below : List Frame} {meth : Method} {c : Code} {b : Nat} (hx : p.tables.exec = Jvm.exec) (hb : c.code = code) (hr : meth.sig.returnType = ret) (hlocks : meth.locks = false) {pc : Nat} {H : Heap} {ls : Array Slot} (hdg : decode code pc = .ok (.ireturn, 1)) : W p l e room_1 s m #[Value.ref b] below meth c H [] 1065 14558 (lw_Z below #[Value.ref b] s) (F0 m pc ls [.int 1]) := by
  intro T hT X
  obtain ⟨fs, hret, hrun, hended, hW, hframe⟩ := X.leave (v := some (.int 1)) (hlocks := hlocks) (fun h => by rw [hr] at h; cases h)
  have hmeth' : T.vm.method? m = some meth := X.method'
  refine ⟨T.setFrames fs, ?_, .returned (some (.int 1)), hrun, hended, rfl, ⟨_, rfl⟩, hW, hframe⟩
  jvm_step X.here [X.here.top, hx, hb, hdg, hmeth', hr, ret, narrow_b1]
  (try refine ⟨rfl, ?_⟩); (try refine ⟨rfl, ?_⟩)
  first | (intro acts; rw [hret _ acts rfl rfl rfl]) | rw [hret _ _ rfl rfl rfl]
  exact Steps.refl _
/-- what holds at the law's entry: the machine, the code, the tables' words (any of lw_tbl by 'hts w (by decide +kernel)'), the script of L ints xs at the cell b, what the Statement gives of the start (any of its parts by flat_of_before) -/
def lw_At (p : Program) (s : State) (m : MethodId) (meth : Method) (c : Code) (b L : Nat) (xs : Nat → Int32) : Prop :=
  p.tables.exec = Jvm.exec ∧ c.code = code ∧ meth.sig.returnType = ret ∧ c.maxLocals = 8 ∧ s.vm.findClass R_law = some m.cls ∧ (∀ w ∈ lw_tbl, w.before #[Value.ref b] s = true) ∧ va_X b L xs s s.heap ∧ b < s.heap.size ∧ meth.locks = false ∧ (Jvm.Cond.and given_1 narrow_1).before #[Value.ref b] s = true
/-- every call of the script, on states that are related, ends alike and on states that are related -/
def stepOk (Rel : CT → MT → Prop) (L : Nat) (xs : Nat → Int32) : Prop := ∀ (j : Nat) (u : CT) (v : MT) (o : Nat → Int64), 6 * j + 6 ≤ L → Rel u v →
  q_law_0 L xs (nI (6 * j)) u v o (fun u v _ => Rel u v) ∧ q_law_1 L xs (nI (6 * j)) u v o (fun u v _ => Rel u v) ∧ q_law_2 L xs (nI (6 * j)) u v o (fun u v _ => Rel u v) ∧ q_law_3 L xs (nI (6 * j)) u v o (fun u v _ => Rel u v) ∧ q_law_4 L xs (nI (6 * j)) u v o (fun u v _ => Rel u v) ∧ q_law_5 L xs (nI (6 * j)) u v o (fun u v _ => Rel u v) ∧ q_law_6 L xs (nI (6 * j)) u v o (fun u v _ => Rel u v) ∧ q_law_7 L xs (nI (6 * j)) u v o (fun u v _ => Rel u v) ∧ q_law_8 L xs (nI (6 * j)) u v o (fun u v _ => Rel u v) ∧ q_law_9 L xs (nI (6 * j)) u v o (fun u v _ => Rel u v) ∧ q_law_10 L xs (nI (6 * j)) u v o (fun u v _ => Rel u v) ∧ q_law_11 L xs (nI (6 * j)) u v o (fun u v _ => Rel u v) ∧ q_law_12 L xs (nI (6 * j)) u v o (fun u v _ => Rel u v) ∧ q_law_13 L xs (nI (6 * j)) u v o (fun u v _ => Rel u v) ∧ q_law_14 L xs (nI (6 * j)) u v o (fun u v _ => Rel u v) ∧ q_law_15 L xs (nI (6 * j)) u v o (fun u v _ => Rel u v) ∧ q_law_16 L xs (nI (6 * j)) u v o (fun u v _ => Rel u v) ∧ q_law_17 L xs (nI (6 * j)) u v o (fun u v _ => Rel u v) ∧ q_law_18 L xs (nI (6 * j)) u v o (fun u v _ => Rel u v) ∧ q_law_19 L xs (nI (6 * j)) u v o (fun u v _ => Rel u v)
theorem nI_sub6 {L : Nat} (hL : L ≤ 3072) : (Int32.ofNat L - 6).toInt = (L : Int) - 6 := by
  have h1 : (Int32.ofNat L).toInt = (L : Int) := nI_toInt (n := L) (by omega)
  rw [Int32.toInt_sub, h1]
  show Int.bmod ((L : Int) - (6 : Int32).toInt) (2 ^ 32) = _
  rw [show (6 : Int32).toInt = 6 from rfl]
  exact Int.bmod_eq_of_le (by omega) (by omega)
theorem nI_add6 (j : Nat) : nI (6 * j) + 6 = nI (6 * (j + 1)) := by
  rw [show (6 : Int32) = nI 6 from rfl, nI_add, show 6 * j + 6 = 6 * (j + 1) by omega]
set_option maxHeartbeats 4000000 in
set_option maxRecDepth 100000 in
theorem law_loop {p : Program} {l : Launch} {e : Env} {s : State} {m : MethodId} {below : List Frame} {meth : Method} {c : Code} {Z : ZT} {ad bd : Nat → Nat} {oa b L : Nat} {xs : Nat → Int32} {Rel : CT → MT → Prop} (hs : stepOk Rel L xs) (hL : L ≤ 3072) (C : CX "CoderTablesLaw" b_W_law 8 (some .boolean) Z (fun q => s.heap.size ≤ q) p l s m #[Value.ref b] meth c) (hX : va_X b L xs s s.heap) (hbl : b < s.heap.size) : ∀ (n j : Nat) (u : CT) (v : MT) (o : Nat → Int64) (H : Heap) (locs : List Loc) (ls : Array Slot), L < 6 * (j + n) → 6 * j ≤ L → Rel u v → WD Z (fun q => s.heap.size ≤ q) s (cLw Z ad bd oa u v o) H locs → lv_has ls 8 [(0, .ref (b)), (1, .ref (ad 0)), (2, .ref (bd 0)), (3, .ref (oa)), (4, .int (nI (6 * j)))] → W p l e room_1 s m #[Value.ref b] below meth c H locs (21 + j) (6246 + 6 * j) (lw_Z below #[Value.ref b] s) (F0 m 23 ls []) := by
  intro n
  induction n with
  | zero =>
    intro j u v o H locs ls hn hj hr hw hl
    refine lv_iload C.2.1 C.2.2.1 d_W_law_23 (lv_at hl 4 rfl) ?_
    refine lv_aload_n C.2.1 C.2.2.1 d_W_law_25 rfl (lv_at hl 0 rfl) ?_
    refine l_slen C hX hbl hw d_W_law_26 ?_
    refine lv_bipush (v := (6)) C.2.1 C.2.2.1 d_W_law_27 (by decide) ?_
    refine lv_isub C.2.1 C.2.2.1 d_W_law_29 ?_
    have h1 := nI_sub6 hL
    have h2 : (nI (6 * j)).toInt = ((6 * j : Nat) : Int) := nI_toInt (by omega)
    refine lv_icmp_gt (tgt := 1365) C.2.1 C.2.2.1 d_W_law_30 (by decide) (fun c9 => ?_) (fun c9 => ?_)
    · refine lv_iconst (v := (1)) C.2.1 C.2.2.1 d_W_law_1365 (by decide) ?_
      refine va_forget hw.2.2.2.2 ?_
      refine W.widen (k := 1065) (n := 14558) (by omega) (by omega) ?_
      exact lw_ret C.2.1 C.2.2.1 C.2.2.2.2.2.2.1 C.2.2.2.2.2.2.2.1 d_W_law_1366
    · rw [Int32.lt_iff_toInt_lt, h1, h2] at c9
      omega
  | succ n ih =>
    intro j u v o H locs ls hn hj hr hw hl
    refine lv_iload C.2.1 C.2.2.1 d_W_law_23 (lv_at hl 4 rfl) ?_
    refine lv_aload_n C.2.1 C.2.2.1 d_W_law_25 rfl (lv_at hl 0 rfl) ?_
    refine l_slen C hX hbl hw d_W_law_26 ?_
    refine lv_bipush (v := (6)) C.2.1 C.2.2.1 d_W_law_27 (by decide) ?_
    refine lv_isub C.2.1 C.2.2.1 d_W_law_29 ?_
    have h1 := nI_sub6 hL
    have h2 : (nI (6 * j)).toInt = ((6 * j : Nat) : Int) := nI_toInt (by omega)
    refine lv_icmp_gt (tgt := 1365) C.2.1 C.2.2.1 d_W_law_30 (by decide) (fun c9 => ?_) (fun c9 => ?_)
    · refine lv_iconst (v := (1)) C.2.1 C.2.2.1 d_W_law_1365 (by decide) ?_
      refine va_forget hw.2.2.2.2 ?_
      refine W.widen (k := 1065) (n := 14558) (by omega) (by omega) ?_
      exact lw_ret C.2.1 C.2.2.1 C.2.2.2.2.2.2.1 C.2.2.2.2.2.2.2.1 d_W_law_1366
    · rw [Int32.lt_iff_toInt_lt, h1, h2] at c9
      have hlt : 6 * j + 6 ≤ L := by omega
      have hst := hs j u v o hlt hr
      have hpost : ∀ (u : CT) (v : MT) (o : Nat → Int64) (H : Heap) (locs : List Loc) (ls : Array Slot), Rel u v → WD Z (fun q => s.heap.size ≤ q) s (cLw Z ad bd oa u v o) H locs → lv_has ls 8 [(0, .ref (b)), (1, .ref (ad 0)), (2, .ref (bd 0)), (3, .ref (oa)), (4, .int (nI (6 * j)))] → W p l e room_1 s m #[Value.ref b] below meth c H locs (21 + j + 1) (6246 + 6 * j + 6) (lw_Z below #[Value.ref b] s) (F0 m 1359 ls []) := by
        intro u v o H locs ls hr hw hl
        refine lv_iinc (v := nI (6 * (j + 1))) (lv' := [(4, .int (nI (6 * (j + 1)))), (0, .ref (b)), (1, .ref (ad 0)), (2, .ref (bd 0)), (3, .ref (oa))]) C.2.1 C.2.2.1 d_W_law_1359 hl (k := 4) rfl (nI_add6 j) (by decide) rfl (fun ls hl => ?_)
        refine lv_goto (tgt := 23) C.2.1 C.2.2.1 d_W_law_1362 (by decide) ?_
        exact ih (j + 1) u v o H locs ls (by omega) (by omega) hr hw (lv_sub hl [1, 2, 3, 4, 0] rfl)
      have hcs : 21 + j + 1 ≤ 1065 ∧ 6246 + 6 * j + 6 ≤ 14558 := ⟨by omega, by omega⟩
      refine lv_aload_n C.2.1 C.2.2.1 d_W_law_33 rfl (lv_at hl 0 rfl) ?_
      refine lv_iload C.2.1 C.2.2.1 d_W_law_34 (lv_at hl 4 rfl) ?_
      refine l_sld C hX hbl hw (vp_in_nI (by omega) (by omega)) d_W_law_36 ?_
      refine lv_bipush (v := (31)) C.2.1 C.2.2.1 d_W_law_37 (by decide) ?_
      refine lv_iand C.2.1 C.2.2.1 d_W_law_39 ?_
      refine lv_topi (fun op eop => ?_)
      by_cases hsw : op.toInt < 0 ∨ 19 < op.toInt
      · refine lv_tableOut (tgt := 1359) C.2.1 C.2.2.1 d_W_law_40 hsw (by decide) ?_
        refine W.widen (k := 21 + j + 1) (n := 6246 + 6 * j + 6) (by omega) (by omega) ?_
        exact hpost u v o H locs ls hr hw hl
      · obtain ⟨k, hk1, hk2⟩ : ∃ k : Nat, k < 20 ∧ op.toInt = (k : Int) := ⟨op.toInt.toNat, by omega, by omega⟩
        rcases (show k = 0 ∨ k = 1 ∨ k = 2 ∨ k = 3 ∨ k = 4 ∨ k = 5 ∨ k = 6 ∨ k = 7 ∨ k = 8 ∨ k = 9 ∨ k = 10 ∨ k = 11 ∨ k = 12 ∨ k = 13 ∨ k = 14 ∨ k = 15 ∨ k = 16 ∨ k = 17 ∨ k = 18 ∨ k = 19 by omega) with hk3 | hk3 | hk3 | hk3 | hk3 | hk3 | hk3 | hk3 | hk3 | hk3 | hk3 | hk3 | hk3 | hk3 | hk3 | hk3 | hk3 | hk3 | hk3 | hk3
        · refine lv_tableIn (off := 96) (tgt := 136) C.2.1 C.2.2.1 d_W_law_40 (by omega) (by omega) (by rw [show (op.toInt - 0).toNat = 0 by omega]; rfl) (by decide) ?_
          exact w_law_0 C hX hbl hcs hw hl hst.1 hpost
        · refine lv_tableIn (off := 140) (tgt := 180) C.2.1 C.2.2.1 d_W_law_40 (by omega) (by omega) (by rw [show (op.toInt - 0).toNat = 1 by omega]; rfl) (by decide) ?_
          exact w_law_1 C hX hbl hcs hw hl hst.2.1 hpost
        · refine lv_tableIn (off := 184) (tgt := 224) C.2.1 C.2.2.1 d_W_law_40 (by omega) (by omega) (by rw [show (op.toInt - 0).toNat = 2 by omega]; rfl) (by decide) ?_
          exact w_law_2 C hX hbl hcs hw hl hst.2.2.1 hpost
        · refine lv_tableIn (off := 276) (tgt := 316) C.2.1 C.2.2.1 d_W_law_40 (by omega) (by omega) (by rw [show (op.toInt - 0).toNat = 3 by omega]; rfl) (by decide) ?_
          exact w_law_3 C hX hbl hcs hw hl hst.2.2.2.1 hpost
        · refine lv_tableIn (off := 344) (tgt := 384) C.2.1 C.2.2.1 d_W_law_40 (by omega) (by omega) (by rw [show (op.toInt - 0).toNat = 4 by omega]; rfl) (by decide) ?_
          exact w_law_4 C hX hbl hcs hw hl hst.2.2.2.2.1 hpost
        · refine lv_tableIn (off := 357) (tgt := 397) C.2.1 C.2.2.1 d_W_law_40 (by omega) (by omega) (by rw [show (op.toInt - 0).toNat = 5 by omega]; rfl) (by decide) ?_
          exact w_law_5 C hX hbl hcs hw hl hst.2.2.2.2.2.1 hpost
        · refine lv_tableIn (off := 425) (tgt := 465) C.2.1 C.2.2.1 d_W_law_40 (by omega) (by omega) (by rw [show (op.toInt - 0).toNat = 6 by omega]; rfl) (by decide) ?_
          exact w_law_6 C hX hbl hcs hw hl hst.2.2.2.2.2.2.1 hpost
        · refine lv_tableIn (off := 493) (tgt := 533) C.2.1 C.2.2.1 d_W_law_40 (by omega) (by omega) (by rw [show (op.toInt - 0).toNat = 7 by omega]; rfl) (by decide) ?_
          exact w_law_7 C hX hbl hcs hw hl hst.2.2.2.2.2.2.2.1 hpost
        · refine lv_tableIn (off := 548) (tgt := 588) C.2.1 C.2.2.1 d_W_law_40 (by omega) (by omega) (by rw [show (op.toInt - 0).toNat = 8 by omega]; rfl) (by decide) ?_
          exact w_law_8 C hX hbl hcs hw hl hst.2.2.2.2.2.2.2.2.1 hpost
        · refine lv_tableIn (off := 631) (tgt := 671) C.2.1 C.2.2.1 d_W_law_40 (by omega) (by omega) (by rw [show (op.toInt - 0).toNat = 9 by omega]; rfl) (by decide) ?_
          exact w_law_9 C hX hbl hcs hw hl hst.2.2.2.2.2.2.2.2.2.1 hpost
        · refine lv_tableIn (off := 687) (tgt := 727) C.2.1 C.2.2.1 d_W_law_40 (by omega) (by omega) (by rw [show (op.toInt - 0).toNat = 10 by omega]; rfl) (by decide) ?_
          exact w_law_10 C hX hbl hcs hw hl hst.2.2.2.2.2.2.2.2.2.2.1 hpost
        · refine lv_tableIn (off := 755) (tgt := 795) C.2.1 C.2.2.1 d_W_law_40 (by omega) (by omega) (by rw [show (op.toInt - 0).toNat = 11 by omega]; rfl) (by decide) ?_
          exact w_law_11 C hX hbl hcs hw hl hst.2.2.2.2.2.2.2.2.2.2.2.1 hpost
        · refine lv_tableIn (off := 847) (tgt := 887) C.2.1 C.2.2.1 d_W_law_40 (by omega) (by omega) (by rw [show (op.toInt - 0).toNat = 12 by omega]; rfl) (by decide) ?_
          exact w_law_12 C hX hbl hcs hw hl hst.2.2.2.2.2.2.2.2.2.2.2.2.1 hpost
        · refine lv_tableIn (off := 954) (tgt := 994) C.2.1 C.2.2.1 d_W_law_40 (by omega) (by omega) (by rw [show (op.toInt - 0).toNat = 13 by omega]; rfl) (by decide) ?_
          exact w_law_13 C hX hbl hcs hw hl hst.2.2.2.2.2.2.2.2.2.2.2.2.2.1 hpost
        · refine lv_tableIn (off := 1033) (tgt := 1073) C.2.1 C.2.2.1 d_W_law_40 (by omega) (by omega) (by rw [show (op.toInt - 0).toNat = 14 by omega]; rfl) (by decide) ?_
          exact w_law_14 C hX hbl hcs hw hl hst.2.2.2.2.2.2.2.2.2.2.2.2.2.2.1 hpost
        · refine lv_tableIn (off := 1157) (tgt := 1197) C.2.1 C.2.2.1 d_W_law_40 (by omega) (by omega) (by rw [show (op.toInt - 0).toNat = 15 by omega]; rfl) (by decide) ?_
          exact w_law_15 C hX hbl hcs hw hl hst.2.2.2.2.2.2.2.2.2.2.2.2.2.2.2.1 hpost
        · refine lv_tableIn (off := 1214) (tgt := 1254) C.2.1 C.2.2.1 d_W_law_40 (by omega) (by omega) (by rw [show (op.toInt - 0).toNat = 16 by omega]; rfl) (by decide) ?_
          exact w_law_16 C hX hbl hcs hw hl hst.2.2.2.2.2.2.2.2.2.2.2.2.2.2.2.2.1 hpost
        · refine lv_tableIn (off := 1227) (tgt := 1267) C.2.1 C.2.2.1 d_W_law_40 (by omega) (by omega) (by rw [show (op.toInt - 0).toNat = 17 by omega]; rfl) (by decide) ?_
          exact w_law_17 C hX hbl hcs hw hl hst.2.2.2.2.2.2.2.2.2.2.2.2.2.2.2.2.2.1 hpost
        · refine lv_tableIn (off := 1283) (tgt := 1323) C.2.1 C.2.2.1 d_W_law_40 (by omega) (by omega) (by rw [show (op.toInt - 0).toNat = 18 by omega]; rfl) (by decide) ?_
          exact w_law_18 C hX hbl hcs hw hl hst.2.2.2.2.2.2.2.2.2.2.2.2.2.2.2.2.2.2.1 hpost
        · refine lv_tableIn (off := 1308) (tgt := 1348) C.2.1 C.2.2.1 d_W_law_40 (by omega) (by omega) (by rw [show (op.toInt - 0).toNat = 19 by omega]; rfl) (by decide) ?_
          exact w_law_19 C hX hbl hcs hw hl hst.2.2.2.2.2.2.2.2.2.2.2.2.2.2.2.2.2.2.2 hpost
theorem arr_known {s : State} {args : Array Value} {ty : FieldType} (h : (Cond.arrayClass ty).before args s = true) (hob : ∀ C, ty ≠ .object C) : ∃ c : ClassId, ArrOfT s c ty ∧ va_RA s c ty := by
  obtain ⟨c, k, comp, h1, h2, h3⟩ := Cond.arrayClass_spec h
  refine ⟨c, fun n z => ⟨fun k h => (by cases h), k, h2, comp, h3⟩, ?_⟩
  cases ty with
  | object C => exact absurd rfl (hob C)
  | _ => exact h1
theorem K_known {s : State} {args : Array Value} (hg : ∀ w ∈ GW, w.before args s = true) : ∃ (D : va_G) (q : Nat → ClassId), va_K D cls4 (tyl q) s := by
  obtain ⟨c0, i0, k0⟩ := u_known (C := "CoderTables$Lines") (T := T_L) (N := 2) (n := 2) hg in_L (hg _ w86)
  obtain ⟨c1, i1, k1⟩ := u_known (C := "CoderTables$Numbers") (T := T_N) (N := 1) (n := 1) hg in_N (hg _ w75)
  obtain ⟨c2, i2, k2⟩ := u_known (C := "CoderTables") (T := T_X) (N := 14) (n := 14) hg in_X (hg _ w67)
  obtain ⟨c3, i3, k3⟩ := u_known (C := "CoderTablesModel") (T := T_M) (N := 15) (n := 15) hg in_M (hg _ w550)
  obtain ⟨q0, a0, b0⟩ := arr_known (hg _ w84) (fun C h => by cases h)
  obtain ⟨q1, a1, b1⟩ := arr_known (hg _ w100) (fun C h => by cases h)
  obtain ⟨q2, a2, b2⟩ := arr_known (hg _ w601) (fun C h => by cases h)
  obtain ⟨q3, a3, b3⟩ := arr_known (hg _ w602) (fun C h => by cases h)
  refine ⟨(fun k => if k = 0 then c0 else if k = 1 then c1 else if k = 2 then c2 else c3, fun k => if k = 0 then i0 else if k = 1 then i1 else if k = 2 then i2 else i3), fun k => if k = 0 then q0 else if k = 1 then q1 else if k = 2 then q2 else q3, ?_, ?_⟩
  · intro k q hq
    match k, hq with
    | 0, hq => cases hq; exact k0
    | 1, hq => cases hq; exact k1
    | 2, hq => cases hq; exact k2
    | 3, hq => cases hq; exact k3
    | k + 4, hq => simp [cls4] at hq
  · intro k q hq
    match k, hq with
    | 0, hq => cases hq; exact ⟨a0, b0⟩
    | 1, hq => cases hq; exact ⟨a1, b1⟩
    | 2, hq => cases hq; exact ⟨a2, b2⟩
    | 3, hq => cases hq; exact ⟨a3, b3⟩
    | k + 4, hq => simp [tyl] at hq
theorem SG_lw : ∀ k ∈ SG, Cond.stringRef "CoderTables" k.1 k.2 ∈ lw_tbl := by decide +kernel
set_option maxRecDepth 100000 in
theorem SG_nar : ∀ k ∈ SG, Cond.exactly (.string "CoderTables" k.1) "java/lang/String" ∈ flatC (Jvm.Cond.and given_1 narrow_1) := by decide +kernel
set_option maxRecDepth 100000 in
theorem NC_nar : ∀ k ∈ NC, Cond.not (.castable k.1 k.2) ∈ flatC (Jvm.Cond.and given_1 narrow_1) := by decide +kernel
set_option maxRecDepth 100000 in
theorem UN_nar : Cond.isRef (.static Bundle.tN "UNASSIGNED_STACK" Bundle.steD) ∈ flatC (Jvm.Cond.and given_1 narrow_1) ∧ Cond.isRef (.static Bundle.tN "SUPPRESSED_SENTINEL" Bundle.listD) ∈ flatC (Jvm.Cond.and given_1 narrow_1) := by decide +kernel
theorem NG_lw : ∀ w ∈ NG, w ∈ lw_tbl := by decide +kernel
theorem LS_lw : Cond.laysStatic Bundle.tN "UNASSIGNED_STACK" Bundle.steD ∈ lw_tbl ∧ Cond.laysStatic Bundle.tN "SUPPRESSED_SENTINEL" Bundle.listD ∈ lw_tbl ∧ Cond.initialized Bundle.tN ∈ lw_tbl := by decide +kernel
theorem EX_known {s : State} {args : Array Value} (hts : ∀ w ∈ lw_tbl, w.before args s = true) (hgv : (Jvm.Cond.and given_1 narrow_1).before args s = true) : ∃ sa : Nat → Nat, EX sa (fun q => s.heap.size ≤ q) s := by
  have hf := flat_of_before _ hgv
  have hs : ∀ i : Nat, ∃ a : Nat, ∀ t, (i, t) ∈ SG → vk_R "CoderTables" i t a s := by
    intro i
    by_cases h : ∃ t, (i, t) ∈ SG
    · obtain ⟨t, ht⟩ := h
      obtain ⟨a, _, _, _, q1, -⟩ := Cond.exactly_spec (hf _ (SG_nar _ ht))
      refine ⟨a, fun t' ht' => ⟨?_, ?_⟩⟩
      · have h1 := hts _ (SG_lw _ ht')
        simp only [Cond.before, Cond.holds, Cond.value, State.names, State.poolOf?, State.resolvedAt?] at h1 ⊢
        exact h1
      · rw [Term.string_eval_of_vm (args := #[]) (rfl : s.vm = s.vm)]
        have h2 := q1
        simp only [Term.eval] at h2 ⊢
        exact h2
    · exact ⟨0, fun t ht => absurd ⟨t, ht⟩ h⟩
  obtain ⟨sa, hsa⟩ := Classical.axiomOfChoice hs
  have hA : ∀ a : Nat, a < s.heap.size → ¬ (fun q => s.heap.size ≤ q) a := fun a h h2 => absurd h (Nat.not_lt.mpr h2)
  refine ⟨sa, fun w hw => va_Nw.of (NG_tab w hw) (hts w (NG_lw w hw)), fun k hk => hsa k.1 k.2 hk, fun k hk => va_Nc.of (hf _ (NC_nar k hk)), ?_, ?_⟩
  · exact vx_Zqof (hts _ LS_lw.1) (hts _ LS_lw.2.2) (hf _ UN_nar.1) hA
  · exact vx_Zqof (hts _ LS_lw.2.1) (hts _ LS_lw.2.2) (hf _ UN_nar.2) hA
set_option maxHeartbeats 4000000 in
set_option maxRecDepth 100000 in
theorem law_start {p : Program} {e : Env} {s : State} {m : MethodId} {below : List Frame} {meth : Method} {c : Code} (l : Launch) {b L : Nat} {xs : Nat → Int32} {Rel : CT → MT → Prop} (hlt : l.stackTraces = false) (hs : stepOk Rel L xs) (h0 : Rel x0 m0) (hL : L ≤ 3072) (C0 : lw_At p s m meth c b L xs) : W p l e room_1 s m #[Value.ref b] below meth c s.heap [] 0 0 (lw_Z below #[Value.ref b] s) (entryFrame m ([Value.ref b] : List Value).toArray 8) := by
  obtain ⟨hx, hb, hr, hml, hown, hts, hX, hbl, hlocks, hgv⟩ := id C0
  have hg : ∀ w ∈ GW, w.before #[Value.ref b] s = true := fun w h => hts w (gw_lw h)
  obtain ⟨D, q, hK⟩ := K_known hg
  obtain ⟨sa, hE⟩ := EX_known hts hgv
  obtain ⟨Z, hZ⟩ : ∃ Z : ZT, Z = (D, q, sa) := ⟨_, rfl⟩
  have C : CX "CoderTablesLaw" b_W_law 8 (some .boolean) Z (fun q => s.heap.size ≤ q) p l s m #[Value.ref b] meth c := by
    rw [hZ]
    exact ⟨hlt, hx, hb, hml, hown, hg, hr, hlocks, hK, hE, fun _ h => h⟩
  have hw : WD Z (fun q => s.heap.size ≤ q) s [] s.heap [] := ⟨fun k q h => by simp at h, ⟨fun i j p q h => by simp at h, fun k q h => by simp at h⟩, va_S.rf⟩
  have hl := lv_entry ([.ref b]) (n := 8) (Nat.le_of_ble_eq_true rfl)
  rw [lg_entry_eq]
  generalize (lg_sl ([.ref b]) ++ List.replicate (8 - (lg_sl ([.ref b])).length) Slot.unset).toArray = ls at hl ⊢
  have hl : lv_has ls 8 [(0, .ref b)] := hl
  refine g_new (ci := 2) (fs := [.int 0, .int 0, .null, .null, .null, .null, .null, .int 0, .null, .int 0, .null, .int 0, .null, .null]) C hw in_X ty_X ty_X_ok w66 w67 w53 rfl (by decide) (Nat.le_of_ble_eq_true rfl) (Nat.le_of_ble_eq_true rfl) d_W_law_0 (fun a0 H hw => ?_)
  refine lv_dup C.2.1 C.2.2.1 d_W_law_3 rfl ?_
  refine g_I_v (n := 0) (f := fX0 Z a0) (u := none) (wr := []) (As := []) C hw (cc_X_init C.1) ⟨w68, w69, rfl, w53, w70, (by decide +kernel), (by decide +kernel), (by decide +kernel)⟩ ⟨Nat.le_of_ble_eq_true rfl, Nat.le_of_ble_eq_true rfl, Nat.le_of_ble_eq_true rfl, Nat.le_of_ble_eq_true rfl⟩ rfl hl.1 rfl (Nat.le_of_ble_eq_true rfl) d_W_law_4 (fun u9 H locs h9 hw => ?_)
  obtain ⟨ad, rfl, rfl⟩ := h9
  have hw : WD Z (fun q => s.heap.size ≤ q) s (cX Z ad x0) H locs := by
    have h := hw
    rw [List.append_nil] at h
    exact h
  refine lv_astore_n (lv' := [(1, .ref (ad 0)), (0, .ref b)]) C.2.1 C.2.2.1 d_W_law_7 rfl hl (by decide) rfl (fun ls hl => ?_)
  refine g_new (ci := 3) (fs := [.int 0, .int 0, .int 0, .null, .null, .null, .null, .int 0, .null, .int 0, .null, .long 0, .int 0, .null, .null]) C hw in_M ty_M ty_M_ok w549 w550 w56 rfl (by decide) (Nat.le_of_ble_eq_true rfl) (Nat.le_of_ble_eq_true rfl) d_W_law_8 (fun a0 H hw => ?_)
  refine lv_dup C.2.1 C.2.2.1 d_W_law_11 rfl ?_
  refine g_I_v (n := 0) (f := fM0 Z a0) (u := none) (wr := cX Z ad x0) (As := []) C (WD.swap hw) (cc_M_init C.1) ⟨w551, w552, rfl, w56, w553, (by decide +kernel), (by decide +kernel), (by decide +kernel)⟩ ⟨Nat.le_of_ble_eq_true rfl, Nat.le_of_ble_eq_true rfl, Nat.le_of_ble_eq_true rfl, Nat.le_of_ble_eq_true rfl⟩ rfl hl.1 rfl (Nat.le_of_ble_eq_true rfl) d_W_law_12 (fun u9 H locs h9 hw => ?_)
  obtain ⟨bd, rfl, rfl⟩ := h9
  have hw : WD Z (fun q => s.heap.size ≤ q) s (cM Z bd m0 ++ cX Z ad x0) H locs := hw
  refine lv_astore_n (lv' := [(2, .ref (bd 0)), (1, .ref (ad 0)), (0, .ref b)]) C.2.1 C.2.2.1 d_W_law_15 rfl hl (by decide) rfl (fun ls hl => ?_)
  refine lv_iconst (v := (1)) C.2.1 C.2.2.1 d_W_law_16 (by decide) ?_
  refine g_newa (atype := .long) (ty := .long) (t0 := 3) (N' := 1) (a0 := (1, .inr (.inl (fun _ => 0)))) C hw rfl w602 rfl (fun _ => rfl) (by decide) (by decide) (by decide) (Nat.le_of_ble_eq_true rfl) (Nat.le_of_ble_eq_true rfl) d_W_law_17 (fun oa H hw => ?_)
  have hw : WD Z (fun q => s.heap.size ≤ q) s (cLw Z ad bd oa x0 m0 (fun _ => 0)) H locs := by
    have h := hw
    rw [List.append_assoc] at h
    exact WD.swap h
  refine lv_astore_n (lv' := [(3, .ref oa), (2, .ref (bd 0)), (1, .ref (ad 0)), (0, .ref b)]) C.2.1 C.2.2.1 d_W_law_19 rfl hl (by decide) rfl (fun ls hl => ?_)
  refine lv_iconst (v := (0)) C.2.1 C.2.2.1 d_W_law_20 (by decide) ?_
  refine lv_istore (lv' := [(4, .int 0), (3, .ref oa), (2, .ref (bd 0)), (1, .ref (ad 0)), (0, .ref b)]) C.2.1 C.2.2.1 d_W_law_21 hl (by decide) rfl (fun ls hl => ?_)
  exact law_loop hs hL C hX hbl (L + 1) 0 x0 m0 (fun _ => 0) H locs ls (by omega) (by omega) h0 hw (lv_sub hl [4, 3, 2, 1, 0] rfl)
