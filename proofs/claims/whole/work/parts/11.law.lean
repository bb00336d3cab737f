/-! ===== the law: its calls, its cases ===== -/
def cLw (Z : ZT) (ad bd : Nat → Nat) (oa : Nat) (u : CT) (v : MT) (o : Nat → Int64) : va_W := fH Z ad oa (u, o) ++ cM Z bd v
section LWC
variable {cells slots pc : Nat} {H : Heap} {locs : List Loc} {ls : Array Slot} {rest : List Value} {p : Program} {l : Launch} {e : Env} {s : State} {m : MethodId} {args : Array Value} {below : List Frame} {meth : Method} {c : Code} {Z : ZT} {ad bd : Nat → Nat} {oa b L : Nat} {xs : Nat → Int32} {Q : State → Prop} {u : CT} {v : MT} {o : Nat → Int64}
theorem kLH_75 {post : Int32 → CT × (Nat → Int64) → Prop} (C : CX "CoderTablesLaw" b_W_law 8 (some .boolean) Z (fun q => s.heap.size ≤ q) p l s m args meth c) (hw : WD Z (fun q => s.heap.size ≤ q) s (cLw Z ad bd oa u v o) H locs) (h : qh_W_coder u o post) (hcs : cells + 1 ≤ 1065 ∧ slots + 6 ≤ 14558) (hl : ls.size = 8) (hW : (rest.map fun v => v.category).sum ≤ 8) (hdg : decode b_W_law pc = .ok (.invokestatic 75, 3)) (kk : ∀ (r : Int32) (u' : CT) (o' : Nat → Int64) (H : Heap) (locs : List Loc), post r (u', o') → WD Z (fun q => s.heap.size ≤ q) s (cLw Z ad bd oa u' v o') H locs → W p l e room_1 s m args below meth c H locs (cells + 1) (slots + 6) Q (F0 m (pc + 3) ls (.int r :: rest))) : W p l e room_1 s m args below meth c H locs cells slots Q (F0 m pc ls (.ref (oa) :: .ref (ad 0) :: rest)) :=
  g_H_i (n := 2) (f := fH Z ad oa) (u := (u, o)) (wr := cM Z bd v) (As := [.ref (ad 0), .ref (oa)]) C hw (ch_W_coder C.1 h) ⟨w232, w233, w52, w234, (by decide +kernel), (by decide +kernel), (by decide +kernel)⟩ ⟨Nat.le_of_ble_eq_true rfl, Nat.le_of_ble_eq_true rfl, hcs.1, hcs.2⟩ rfl hl rfl hW hdg (fun r z H locs h hw => kk r z.1 z.2 H locs h hw)
theorem kLV_80 {post : Int32 → MT → Prop} (C : CX "CoderTablesLaw" b_W_law 8 (some .boolean) Z (fun q => s.heap.size ≤ q) p l s m args meth c) (hw : WD Z (fun q => s.heap.size ≤ q) s (cLw Z ad bd oa u v o) H locs) (h : q_M_coder v post) (hcs : cells ≤ 1065 ∧ slots ≤ 14558) (hl : ls.size = 8) (hW : (rest.map fun v => v.category).sum ≤ 8) (hdg : decode b_W_law pc = .ok (.invokevirtual 80, 3)) (kk : ∀ (r : Int32) (u' : MT) (H : Heap) (locs : List Loc), post r u' → WD Z (fun q => s.heap.size ≤ q) s (cLw Z ad bd oa u u' o) H locs → W p l e room_1 s m args below meth c H locs cells slots Q (F0 m (pc + 3) ls (.int r :: rest))) : W p l e room_1 s m args below meth c H locs cells slots Q (F0 m pc ls (.ref (bd 0) :: rest)) :=
  g_V_i (n := 0) (f := cM Z bd) (u := v) (wr := fH Z ad oa (u, o)) (As := []) C (WD.swap hw) (c_M_coder (ad := bd) C.1 h) ⟨w607, w608, w609, w56, w610, (by decide +kernel), (by decide +kernel), (by decide +kernel)⟩ ⟨Nat.le_of_ble_eq_true rfl, Nat.le_of_ble_eq_true rfl, hcs.1, hcs.2⟩ 0 rfl rfl rfl hl rfl hW hdg (fun _ _ _ _ _ _ h => h.elim) (fun r u' H locs h hw => kk r u' H locs h (WD.swap hw))
theorem kLV_81 {post : Int32 → MT → Prop} (C : CX "CoderTablesLaw" b_W_law 8 (some .boolean) Z (fun q => s.heap.size ≤ q) p l s m args meth c) (hw : WD Z (fun q => s.heap.size ≤ q) s (cLw Z ad bd oa u v o) H locs) (h : q_M_thrown v post) (hcs : cells ≤ 1065 ∧ slots ≤ 14558) (hl : ls.size = 8) (hW : (rest.map fun v => v.category).sum ≤ 8) (hdg : decode b_W_law pc = .ok (.invokevirtual 81, 3)) (kk : ∀ (r : Int32) (u' : MT) (H : Heap) (locs : List Loc), post r u' → WD Z (fun q => s.heap.size ≤ q) s (cLw Z ad bd oa u u' o) H locs → W p l e room_1 s m args below meth c H locs cells slots Q (F0 m (pc + 3) ls (.int r :: rest))) : W p l e room_1 s m args below meth c H locs cells slots Q (F0 m pc ls (.ref (bd 0) :: rest)) :=
  g_V_i (n := 0) (f := cM Z bd) (u := v) (wr := fH Z ad oa (u, o)) (As := []) C (WD.swap hw) (c_M_thrown (ad := bd) C.1 h) ⟨w603, w604, w605, w56, w606, (by decide +kernel), (by decide +kernel), (by decide +kernel)⟩ ⟨Nat.le_of_ble_eq_true rfl, Nat.le_of_ble_eq_true rfl, hcs.1, hcs.2⟩ 0 rfl rfl rfl hl rfl hW hdg (fun _ _ _ _ _ _ h => h.elim) (fun r u' H locs h hw => kk r u' H locs h (WD.swap hw))
theorem kLH_84 {post : Int32 → CT × (Nat → Int64) → Prop} (C : CX "CoderTablesLaw" b_W_law 8 (some .boolean) Z (fun q => s.heap.size ≤ q) p l s m args meth c) (hw : WD Z (fun q => s.heap.size ≤ q) s (cLw Z ad bd oa u v o) H locs) (h : qh_W_picture u o post) (hcs : cells + 1 ≤ 1065 ∧ slots + 6 ≤ 14558) (hl : ls.size = 8) (hW : (rest.map fun v => v.category).sum ≤ 8) (hdg : decode b_W_law pc = .ok (.invokestatic 84, 3)) (kk : ∀ (r : Int32) (u' : CT) (o' : Nat → Int64) (H : Heap) (locs : List Loc), post r (u', o') → WD Z (fun q => s.heap.size ≤ q) s (cLw Z ad bd oa u' v o') H locs → W p l e room_1 s m args below meth c H locs (cells + 1) (slots + 6) Q (F0 m (pc + 3) ls (.int r :: rest))) : W p l e room_1 s m args below meth c H locs cells slots Q (F0 m pc ls (.ref (oa) :: .ref (ad 0) :: rest)) :=
  g_H_i (n := 2) (f := fH Z ad oa) (u := (u, o)) (wr := cM Z bd v) (As := [.ref (ad 0), .ref (oa)]) C hw (ch_W_picture C.1 h) ⟨w309, w310, w52, w311, (by decide +kernel), (by decide +kernel), (by decide +kernel)⟩ ⟨Nat.le_of_ble_eq_true rfl, Nat.le_of_ble_eq_true rfl, hcs.1, hcs.2⟩ rfl hl rfl hW hdg (fun r z H locs h hw => kk r z.1 z.2 H locs h hw)
theorem kLV_86 {post : Int32 → MT → Prop} (C : CX "CoderTablesLaw" b_W_law 8 (some .boolean) Z (fun q => s.heap.size ≤ q) p l s m args meth c) (hw : WD Z (fun q => s.heap.size ≤ q) s (cLw Z ad bd oa u v o) H locs) (h : q_M_picture v post) (hcs : cells ≤ 1065 ∧ slots ≤ 14558) (hl : ls.size = 8) (hW : (rest.map fun v => v.category).sum ≤ 8) (hdg : decode b_W_law pc = .ok (.invokevirtual 86, 3)) (kk : ∀ (r : Int32) (u' : MT) (H : Heap) (locs : List Loc), post r u' → WD Z (fun q => s.heap.size ≤ q) s (cLw Z ad bd oa u u' o) H locs → W p l e room_1 s m args below meth c H locs cells slots Q (F0 m (pc + 3) ls (.int r :: rest))) : W p l e room_1 s m args below meth c H locs cells slots Q (F0 m pc ls (.ref (bd 0) :: rest)) :=
  g_V_i (n := 0) (f := cM Z bd) (u := v) (wr := fH Z ad oa (u, o)) (As := []) C (WD.swap hw) (c_M_picture (ad := bd) C.1 h) ⟨w615, w616, w617, w56, w618, (by decide +kernel), (by decide +kernel), (by decide +kernel)⟩ ⟨Nat.le_of_ble_eq_true rfl, Nat.le_of_ble_eq_true rfl, hcs.1, hcs.2⟩ 0 rfl rfl rfl hl rfl hW hdg (fun _ _ _ _ _ _ h => h.elim) (fun r u' H locs h hw => kk r u' H locs h (WD.swap hw))
theorem kLH_87 {p1 : Int32} {p2 : Int32} {p3 : Int32} {p4 : Int32} {post : Int32 → CT × (Nat → Int64) → Prop} (C : CX "CoderTablesLaw" b_W_law 8 (some .boolean) Z (fun q => s.heap.size ≤ q) p l s m args meth c) (hw : WD Z (fun q => s.heap.size ≤ q) s (cLw Z ad bd oa u v o) H locs) (h : qh_W_point p1 p2 p3 p4 u o post) (hcs : cells + 1 ≤ 1065 ∧ slots + 6 ≤ 14558) (hl : ls.size = 8) (hW : (rest.map fun v => v.category).sum ≤ 8) (hdg : decode b_W_law pc = .ok (.invokestatic 87, 3)) (kk : ∀ (r : Int32) (u' : CT) (o' : Nat → Int64) (H : Heap) (locs : List Loc), post r (u', o') → WD Z (fun q => s.heap.size ≤ q) s (cLw Z ad bd oa u' v o') H locs → W p l e room_1 s m args below meth c H locs (cells + 1) (slots + 6) Q (F0 m (pc + 3) ls (.int r :: rest))) : W p l e room_1 s m args below meth c H locs cells slots Q (F0 m pc ls (.ref (oa) :: .int (p4) :: .int (p3) :: .int (p2) :: .int (p1) :: .ref (ad 0) :: rest)) :=
  g_H_i (n := 6) (f := fH Z ad oa) (u := (u, o)) (wr := cM Z bd v) (As := [.ref (ad 0), .int (p1), .int (p2), .int (p3), .int (p4), .ref (oa)]) C hw (ch_W_point C.1 h) ⟨w317, w318, w52, w319, (by decide +kernel), (by decide +kernel), (by decide +kernel)⟩ ⟨Nat.le_of_ble_eq_true rfl, Nat.le_of_ble_eq_true rfl, hcs.1, hcs.2⟩ rfl hl rfl hW hdg (fun r z H locs h hw => kk r z.1 z.2 H locs h hw)
theorem kLV_90 {p1 : Int32} {p2 : Int32} {p3 : Int32} {p4 : Int32} {post : Int32 → MT → Prop} (C : CX "CoderTablesLaw" b_W_law 8 (some .boolean) Z (fun q => s.heap.size ≤ q) p l s m args meth c) (hw : WD Z (fun q => s.heap.size ≤ q) s (cLw Z ad bd oa u v o) H locs) (h : q_M_point p1 p2 p3 p4 v post) (hcs : cells ≤ 1065 ∧ slots ≤ 14558) (hl : ls.size = 8) (hW : (rest.map fun v => v.category).sum ≤ 8) (hdg : decode b_W_law pc = .ok (.invokevirtual 90, 3)) (kk : ∀ (r : Int32) (u' : MT) (H : Heap) (locs : List Loc), post r u' → WD Z (fun q => s.heap.size ≤ q) s (cLw Z ad bd oa u u' o) H locs → W p l e room_1 s m args below meth c H locs cells slots Q (F0 m (pc + 3) ls (.int r :: rest))) : W p l e room_1 s m args below meth c H locs cells slots Q (F0 m pc ls (.int (p4) :: .int (p3) :: .int (p2) :: .int (p1) :: .ref (bd 0) :: rest)) :=
  g_V_i (n := 4) (f := cM Z bd) (u := v) (wr := fH Z ad oa (u, o)) (As := [.int (p1), .int (p2), .int (p3), .int (p4)]) C (WD.swap hw) (c_M_point (ad := bd) C.1 h) ⟨w619, w620, w621, w56, w622, (by decide +kernel), (by decide +kernel), (by decide +kernel)⟩ ⟨Nat.le_of_ble_eq_true rfl, Nat.le_of_ble_eq_true rfl, hcs.1, hcs.2⟩ 0 rfl rfl rfl hl rfl hW hdg (fun _ _ _ _ _ _ h => h.elim) (fun r u' H locs h hw => kk r u' H locs h (WD.swap hw))
theorem kLH_91 {p1 : Int32} {p2 : Int32} {post : Int32 → CT × (Nat → Int64) → Prop} (C : CX "CoderTablesLaw" b_W_law 8 (some .boolean) Z (fun q => s.heap.size ≤ q) p l s m args meth c) (hw : WD Z (fun q => s.heap.size ≤ q) s (cLw Z ad bd oa u v o) H locs) (h : qh_W_fails p1 p2 u o post) (hcs : cells + 1 ≤ 1065 ∧ slots + 6 ≤ 14558) (hl : ls.size = 8) (hW : (rest.map fun v => v.category).sum ≤ 8) (hdg : decode b_W_law pc = .ok (.invokestatic 91, 3)) (kk : ∀ (r : Int32) (u' : CT) (o' : Nat → Int64) (H : Heap) (locs : List Loc), post r (u', o') → WD Z (fun q => s.heap.size ≤ q) s (cLw Z ad bd oa u' v o') H locs → W p l e room_1 s m args below meth c H locs (cells + 1) (slots + 6) Q (F0 m (pc + 3) ls (.int r :: rest))) : W p l e room_1 s m args below meth c H locs cells slots Q (F0 m pc ls (.ref (oa) :: .int (p2) :: .int (p1) :: .ref (ad 0) :: rest)) :=
  g_H_i (n := 4) (f := fH Z ad oa) (u := (u, o)) (wr := cM Z bd v) (As := [.ref (ad 0), .int (p1), .int (p2), .ref (oa)]) C hw (ch_W_fails C.1 h) ⟨w391, w392, w52, w393, (by decide +kernel), (by decide +kernel), (by decide +kernel)⟩ ⟨Nat.le_of_ble_eq_true rfl, Nat.le_of_ble_eq_true rfl, hcs.1, hcs.2⟩ rfl hl rfl hW hdg (fun r z H locs h hw => kk r z.1 z.2 H locs h hw)
theorem kLV_94 {p1 : Int32} {p2 : Int32} {post : Int32 → MT → Prop} (C : CX "CoderTablesLaw" b_W_law 8 (some .boolean) Z (fun q => s.heap.size ≤ q) p l s m args meth c) (hw : WD Z (fun q => s.heap.size ≤ q) s (cLw Z ad bd oa u v o) H locs) (h : q_M_fails p1 p2 v post) (hcs : cells ≤ 1065 ∧ slots ≤ 14558) (hl : ls.size = 8) (hW : (rest.map fun v => v.category).sum ≤ 8) (hdg : decode b_W_law pc = .ok (.invokevirtual 94, 3)) (kk : ∀ (r : Int32) (u' : MT) (H : Heap) (locs : List Loc), post r u' → WD Z (fun q => s.heap.size ≤ q) s (cLw Z ad bd oa u u' o) H locs → W p l e room_1 s m args below meth c H locs cells slots Q (F0 m (pc + 3) ls (.int r :: rest))) : W p l e room_1 s m args below meth c H locs cells slots Q (F0 m pc ls (.int (p2) :: .int (p1) :: .ref (bd 0) :: rest)) :=
  g_V_i (n := 2) (f := cM Z bd) (u := v) (wr := fH Z ad oa (u, o)) (As := [.int (p1), .int (p2)]) C (WD.swap hw) (c_M_fails (ad := bd) C.1 h) ⟨w639, w640, w641, w56, w642, (by decide +kernel), (by decide +kernel), (by decide +kernel)⟩ ⟨Nat.le_of_ble_eq_true rfl, Nat.le_of_ble_eq_true rfl, hcs.1, hcs.2⟩ 0 rfl rfl rfl hl rfl hW hdg (fun _ _ _ _ _ _ h => h.elim) (fun r u' H locs h hw => kk r u' H locs h (WD.swap hw))
theorem kLV_95 {post : Int32 → CT → Prop} (C : CX "CoderTablesLaw" b_W_law 8 (some .boolean) Z (fun q => s.heap.size ≤ q) p l s m args meth c) (hw : WD Z (fun q => s.heap.size ≤ q) s (cLw Z ad bd oa u v o) H locs) (h : q_X_failed u post) (hcs : cells ≤ 1065 ∧ slots ≤ 14558) (hl : ls.size = 8) (hW : (rest.map fun v => v.category).sum ≤ 8) (hdg : decode b_W_law pc = .ok (.invokevirtual 95, 3)) (kk : ∀ (r : Int32) (u' : CT) (H : Heap) (locs : List Loc), post r u' → WD Z (fun q => s.heap.size ≤ q) s (cLw Z ad bd oa u' v o) H locs → W p l e room_1 s m args below meth c H locs cells slots Q (F0 m (pc + 3) ls (.int r :: rest))) : W p l e room_1 s m args below meth c H locs cells slots Q (F0 m pc ls (.ref (ad 0) :: rest)) :=
  g_V_i (n := 0) (f := cX Z ad) (u := u) (wr := [oC Z oa o] ++ cM Z bd v) (As := []) C (by rw [← List.append_assoc]; exact hw) (c_X_failed C.1 h) ⟨w144, w145, w146, w53, w147, (by decide +kernel), (by decide +kernel), (by decide +kernel)⟩ ⟨Nat.le_of_ble_eq_true rfl, Nat.le_of_ble_eq_true rfl, hcs.1, hcs.2⟩ 0 rfl rfl rfl hl rfl hW hdg (fun _ _ _ _ _ _ h => h.elim) (fun r u' H locs h hw => kk r u' H locs h (by rw [← List.append_assoc] at hw; exact hw))
theorem kLV_98 {post : Int32 → MT → Prop} (C : CX "CoderTablesLaw" b_W_law 8 (some .boolean) Z (fun q => s.heap.size ≤ q) p l s m args meth c) (hw : WD Z (fun q => s.heap.size ≤ q) s (cLw Z ad bd oa u v o) H locs) (h : q_M_failed v post) (hcs : cells ≤ 1065 ∧ slots ≤ 14558) (hl : ls.size = 8) (hW : (rest.map fun v => v.category).sum ≤ 8) (hdg : decode b_W_law pc = .ok (.invokevirtual 98, 3)) (kk : ∀ (r : Int32) (u' : MT) (H : Heap) (locs : List Loc), post r u' → WD Z (fun q => s.heap.size ≤ q) s (cLw Z ad bd oa u u' o) H locs → W p l e room_1 s m args below meth c H locs cells slots Q (F0 m (pc + 3) ls (.int r :: rest))) : W p l e room_1 s m args below meth c H locs cells slots Q (F0 m pc ls (.ref (bd 0) :: rest)) :=
  g_V_i (n := 0) (f := cM Z bd) (u := v) (wr := fH Z ad oa (u, o)) (As := []) C (WD.swap hw) (c_M_failed (ad := bd) C.1 h) ⟨w647, w648, w649, w56, w650, (by decide +kernel), (by decide +kernel), (by decide +kernel)⟩ ⟨Nat.le_of_ble_eq_true rfl, Nat.le_of_ble_eq_true rfl, hcs.1, hcs.2⟩ 0 rfl rfl rfl hl rfl hW hdg (fun _ _ _ _ _ _ h => h.elim) (fun r u' H locs h hw => kk r u' H locs h (WD.swap hw))
theorem kLH_99 {p1 : Int32} {p2 : Int32} {post : Int32 → CT × (Nat → Int64) → Prop} (C : CX "CoderTablesLaw" b_W_law 8 (some .boolean) Z (fun q => s.heap.size ≤ q) p l s m args meth c) (hw : WD Z (fun q => s.heap.size ≤ q) s (cLw Z ad bd oa u v o) H locs) (h : qh_W_failing p1 p2 u o post) (hcs : cells + 1 ≤ 1065 ∧ slots + 6 ≤ 14558) (hl : ls.size = 8) (hW : (rest.map fun v => v.category).sum ≤ 8) (hdg : decode b_W_law pc = .ok (.invokestatic 99, 3)) (kk : ∀ (r : Int32) (u' : CT) (o' : Nat → Int64) (H : Heap) (locs : List Loc), post r (u', o') → WD Z (fun q => s.heap.size ≤ q) s (cLw Z ad bd oa u' v o') H locs → W p l e room_1 s m args below meth c H locs (cells + 1) (slots + 6) Q (F0 m (pc + 3) ls (.int r :: rest))) : W p l e room_1 s m args below meth c H locs cells slots Q (F0 m pc ls (.ref (oa) :: .int (p2) :: .int (p1) :: .ref (ad 0) :: rest)) :=
  g_H_i (n := 4) (f := fH Z ad oa) (u := (u, o)) (wr := cM Z bd v) (As := [.ref (ad 0), .int (p1), .int (p2), .ref (oa)]) C hw (ch_W_failing C.1 h) ⟨w399, w400, w52, w401, (by decide +kernel), (by decide +kernel), (by decide +kernel)⟩ ⟨Nat.le_of_ble_eq_true rfl, Nat.le_of_ble_eq_true rfl, hcs.1, hcs.2⟩ rfl hl rfl hW hdg (fun r z H locs h hw => kk r z.1 z.2 H locs h hw)
theorem kLV_101 {p1 : Int32} {p2 : Int32} {post : Int32 → MT → Prop} (C : CX "CoderTablesLaw" b_W_law 8 (some .boolean) Z (fun q => s.heap.size ≤ q) p l s m args meth c) (hw : WD Z (fun q => s.heap.size ≤ q) s (cLw Z ad bd oa u v o) H locs) (h : q_M_failing p1 p2 v post) (hcs : cells ≤ 1065 ∧ slots ≤ 14558) (hl : ls.size = 8) (hW : (rest.map fun v => v.category).sum ≤ 8) (hdg : decode b_W_law pc = .ok (.invokevirtual 101, 3)) (kk : ∀ (r : Int32) (u' : MT) (H : Heap) (locs : List Loc), post r u' → WD Z (fun q => s.heap.size ≤ q) s (cLw Z ad bd oa u u' o) H locs → W p l e room_1 s m args below meth c H locs cells slots Q (F0 m (pc + 3) ls (.int r :: rest))) : W p l e room_1 s m args below meth c H locs cells slots Q (F0 m pc ls (.int (p2) :: .int (p1) :: .ref (bd 0) :: rest)) :=
  g_V_i (n := 2) (f := cM Z bd) (u := v) (wr := fH Z ad oa (u, o)) (As := [.int (p1), .int (p2)]) C (WD.swap hw) (c_M_failing (ad := bd) C.1 h) ⟨w651, w652, w653, w56, w654, (by decide +kernel), (by decide +kernel), (by decide +kernel)⟩ ⟨Nat.le_of_ble_eq_true rfl, Nat.le_of_ble_eq_true rfl, hcs.1, hcs.2⟩ 0 rfl rfl rfl hl rfl hW hdg (fun _ _ _ _ _ _ h => h.elim) (fun r u' H locs h hw => kk r u' H locs h (WD.swap hw))
theorem kLH_102 {p1 : Int32} {p2 : Int32} {post : Int32 → CT × (Nat → Int64) → Prop} (C : CX "CoderTablesLaw" b_W_law 8 (some .boolean) Z (fun q => s.heap.size ≤ q) p l s m args meth c) (hw : WD Z (fun q => s.heap.size ≤ q) s (cLw Z ad bd oa u v o) H locs) (h : qh_W_least p1 p2 u o post) (hcs : cells + 1 ≤ 1065 ∧ slots + 6 ≤ 14558) (hl : ls.size = 8) (hW : (rest.map fun v => v.category).sum ≤ 8) (hdg : decode b_W_law pc = .ok (.invokestatic 102, 3)) (kk : ∀ (r : Int32) (u' : CT) (o' : Nat → Int64) (H : Heap) (locs : List Loc), post r (u', o') → WD Z (fun q => s.heap.size ≤ q) s (cLw Z ad bd oa u' v o') H locs → W p l e room_1 s m args below meth c H locs (cells + 1) (slots + 6) Q (F0 m (pc + 3) ls (.int r :: rest))) : W p l e room_1 s m args below meth c H locs cells slots Q (F0 m pc ls (.ref (oa) :: .int (p2) :: .int (p1) :: .ref (ad 0) :: rest)) :=
  g_H_i (n := 4) (f := fH Z ad oa) (u := (u, o)) (wr := cM Z bd v) (As := [.ref (ad 0), .int (p1), .int (p2), .ref (oa)]) C hw (ch_W_least C.1 h) ⟨w408, w409, w52, w410, (by decide +kernel), (by decide +kernel), (by decide +kernel)⟩ ⟨Nat.le_of_ble_eq_true rfl, Nat.le_of_ble_eq_true rfl, hcs.1, hcs.2⟩ rfl hl rfl hW hdg (fun r z H locs h hw => kk r z.1 z.2 H locs h hw)
theorem kLV_104 {p1 : Int32} {p2 : Int32} {post : Int32 → MT → Prop} (C : CX "CoderTablesLaw" b_W_law 8 (some .boolean) Z (fun q => s.heap.size ≤ q) p l s m args meth c) (hw : WD Z (fun q => s.heap.size ≤ q) s (cLw Z ad bd oa u v o) H locs) (h : q_M_least p1 p2 v post) (hcs : cells ≤ 1065 ∧ slots ≤ 14558) (hl : ls.size = 8) (hW : (rest.map fun v => v.category).sum ≤ 8) (hdg : decode b_W_law pc = .ok (.invokevirtual 104, 3)) (kk : ∀ (r : Int32) (u' : MT) (H : Heap) (locs : List Loc), post r u' → WD Z (fun q => s.heap.size ≤ q) s (cLw Z ad bd oa u u' o) H locs → W p l e room_1 s m args below meth c H locs cells slots Q (F0 m (pc + 3) ls (.int r :: rest))) : W p l e room_1 s m args below meth c H locs cells slots Q (F0 m pc ls (.int (p2) :: .int (p1) :: .ref (bd 0) :: rest)) :=
  g_V_i (n := 2) (f := cM Z bd) (u := v) (wr := fH Z ad oa (u, o)) (As := [.int (p1), .int (p2)]) C (WD.swap hw) (c_M_least (ad := bd) C.1 h) ⟨w655, w656, w657, w56, w658, (by decide +kernel), (by decide +kernel), (by decide +kernel)⟩ ⟨Nat.le_of_ble_eq_true rfl, Nat.le_of_ble_eq_true rfl, hcs.1, hcs.2⟩ 0 rfl rfl rfl hl rfl hW hdg (fun _ _ _ _ _ _ h => h.elim) (fun r u' H locs h hw => kk r u' H locs h (WD.swap hw))
theorem kLH_105 {p1 : Int32} {post : Int32 → CT × (Nat → Int64) → Prop} (C : CX "CoderTablesLaw" b_W_law 8 (some .boolean) Z (fun q => s.heap.size ≤ q) p l s m args meth c) (hw : WD Z (fun q => s.heap.size ≤ q) s (cLw Z ad bd oa u v o) H locs) (h : qh_W_sum p1 u o post) (hcs : cells + 1 ≤ 1065 ∧ slots + 6 ≤ 14558) (hl : ls.size = 8) (hW : (rest.map fun v => v.category).sum ≤ 8) (hdg : decode b_W_law pc = .ok (.invokestatic 105, 3)) (kk : ∀ (r : Int32) (u' : CT) (o' : Nat → Int64) (H : Heap) (locs : List Loc), post r (u', o') → WD Z (fun q => s.heap.size ≤ q) s (cLw Z ad bd oa u' v o') H locs → W p l e room_1 s m args below meth c H locs (cells + 1) (slots + 6) Q (F0 m (pc + 3) ls (.int r :: rest))) : W p l e room_1 s m args below meth c H locs cells slots Q (F0 m pc ls (.ref (oa) :: .int (p1) :: .ref (ad 0) :: rest)) :=
  g_H_i (n := 3) (f := fH Z ad oa) (u := (u, o)) (wr := cM Z bd v) (As := [.ref (ad 0), .int (p1), .ref (oa)]) C hw (ch_W_sum C.1 h) ⟨w420, w421, w52, w422, (by decide +kernel), (by decide +kernel), (by decide +kernel)⟩ ⟨Nat.le_of_ble_eq_true rfl, Nat.le_of_ble_eq_true rfl, hcs.1, hcs.2⟩ rfl hl rfl hW hdg (fun r z H locs h hw => kk r z.1 z.2 H locs h hw)
theorem kLV_108 {p1 : Int32} {post : Int64 → MT → Prop} (C : CX "CoderTablesLaw" b_W_law 8 (some .boolean) Z (fun q => s.heap.size ≤ q) p l s m args meth c) (hw : WD Z (fun q => s.heap.size ≤ q) s (cLw Z ad bd oa u v o) H locs) (h : q_M_sum p1 v post) (hcs : cells ≤ 1065 ∧ slots ≤ 14558) (hl : ls.size = 8) (hW : (rest.map fun v => v.category).sum ≤ 8) (hdg : decode b_W_law pc = .ok (.invokevirtual 108, 3)) (kk : ∀ (r : Int64) (u' : MT) (H : Heap) (locs : List Loc), post r u' → WD Z (fun q => s.heap.size ≤ q) s (cLw Z ad bd oa u u' o) H locs → W p l e room_1 s m args below meth c H locs cells slots Q (F0 m (pc + 3) ls (.long r :: rest))) : W p l e room_1 s m args below meth c H locs cells slots Q (F0 m pc ls (.int (p1) :: .ref (bd 0) :: rest)) :=
  g_V_l (n := 1) (f := cM Z bd) (u := v) (wr := fH Z ad oa (u, o)) (As := [.int (p1)]) C (WD.swap hw) (c_M_sum (ad := bd) C.1 h) ⟨w659, w660, w661, w56, w662, (by decide +kernel), (by decide +kernel), (by decide +kernel)⟩ ⟨Nat.le_of_ble_eq_true rfl, Nat.le_of_ble_eq_true rfl, hcs.1, hcs.2⟩ 0 rfl rfl rfl hl rfl hW hdg (fun _ _ _ _ _ _ h => h.elim) (fun r u' H locs h hw => kk r u' H locs h (WD.swap hw))
theorem kLH_109 {p1 : Int32} {p2 : Int32} {post : Int32 → CT × (Nat → Int64) → Prop} (C : CX "CoderTablesLaw" b_W_law 8 (some .boolean) Z (fun q => s.heap.size ≤ q) p l s m args meth c) (hw : WD Z (fun q => s.heap.size ≤ q) s (cLw Z ad bd oa u v o) H locs) (h : qh_W_mean p1 p2 u o post) (hcs : cells + 1 ≤ 1065 ∧ slots + 6 ≤ 14558) (hl : ls.size = 8) (hW : (rest.map fun v => v.category).sum ≤ 8) (hdg : decode b_W_law pc = .ok (.invokestatic 109, 3)) (kk : ∀ (r : Int32) (u' : CT) (o' : Nat → Int64) (H : Heap) (locs : List Loc), post r (u', o') → WD Z (fun q => s.heap.size ≤ q) s (cLw Z ad bd oa u' v o') H locs → W p l e room_1 s m args below meth c H locs (cells + 1) (slots + 6) Q (F0 m (pc + 3) ls (.int r :: rest))) : W p l e room_1 s m args below meth c H locs cells slots Q (F0 m pc ls (.ref (oa) :: .int (p2) :: .int (p1) :: .ref (ad 0) :: rest)) :=
  g_H_i (n := 4) (f := fH Z ad oa) (u := (u, o)) (wr := cM Z bd v) (As := [.ref (ad 0), .int (p1), .int (p2), .ref (oa)]) C hw (ch_W_mean C.1 h) ⟨w428, w429, w52, w430, (by decide +kernel), (by decide +kernel), (by decide +kernel)⟩ ⟨Nat.le_of_ble_eq_true rfl, Nat.le_of_ble_eq_true rfl, hcs.1, hcs.2⟩ rfl hl rfl hW hdg (fun r z H locs h hw => kk r z.1 z.2 H locs h hw)
theorem kLV_112 {p1 : Int32} {p2 : Int32} {post : Int64 → MT → Prop} (C : CX "CoderTablesLaw" b_W_law 8 (some .boolean) Z (fun q => s.heap.size ≤ q) p l s m args meth c) (hw : WD Z (fun q => s.heap.size ≤ q) s (cLw Z ad bd oa u v o) H locs) (h : q_M_mean p1 p2 v post) (hcs : cells ≤ 1065 ∧ slots ≤ 14558) (hl : ls.size = 8) (hW : (rest.map fun v => v.category).sum ≤ 8) (hdg : decode b_W_law pc = .ok (.invokevirtual 112, 3)) (kk : ∀ (r : Int64) (u' : MT) (H : Heap) (locs : List Loc), post r u' → WD Z (fun q => s.heap.size ≤ q) s (cLw Z ad bd oa u u' o) H locs → W p l e room_1 s m args below meth c H locs cells slots Q (F0 m (pc + 3) ls (.long r :: rest))) : W p l e room_1 s m args below meth c H locs cells slots Q (F0 m pc ls (.int (p2) :: .int (p1) :: .ref (bd 0) :: rest)) :=
  g_V_l (n := 2) (f := cM Z bd) (u := v) (wr := fH Z ad oa (u, o)) (As := [.int (p1), .int (p2)]) C (WD.swap hw) (c_M_mean (ad := bd) C.1 h) ⟨w676, w677, w678, w56, w679, (by decide +kernel), (by decide +kernel), (by decide +kernel)⟩ ⟨Nat.le_of_ble_eq_true rfl, Nat.le_of_ble_eq_true rfl, hcs.1, hcs.2⟩ 0 rfl rfl rfl hl rfl hW hdg (fun _ _ _ _ _ _ h => h.elim) (fun r u' H locs h hw => kk r u' H locs h (WD.swap hw))
theorem kLH_113 {p1 : Int32} {post : Int32 → CT × (Nat → Int64) → Prop} (C : CX "CoderTablesLaw" b_W_law 8 (some .boolean) Z (fun q => s.heap.size ≤ q) p l s m args meth c) (hw : WD Z (fun q => s.heap.size ≤ q) s (cLw Z ad bd oa u v o) H locs) (h : qh_W_rank p1 u o post) (hcs : cells + 1 ≤ 1065 ∧ slots + 6 ≤ 14558) (hl : ls.size = 8) (hW : (rest.map fun v => v.category).sum ≤ 8) (hdg : decode b_W_law pc = .ok (.invokestatic 113, 3)) (kk : ∀ (r : Int32) (u' : CT) (o' : Nat → Int64) (H : Heap) (locs : List Loc), post r (u', o') → WD Z (fun q => s.heap.size ≤ q) s (cLw Z ad bd oa u' v o') H locs → W p l e room_1 s m args below meth c H locs (cells + 1) (slots + 6) Q (F0 m (pc + 3) ls (.int r :: rest))) : W p l e room_1 s m args below meth c H locs cells slots Q (F0 m pc ls (.ref (oa) :: .int (p1) :: .ref (ad 0) :: rest)) :=
  g_H_i (n := 3) (f := fH Z ad oa) (u := (u, o)) (wr := cM Z bd v) (As := [.ref (ad 0), .int (p1), .ref (oa)]) C hw (ch_W_rank C.1 h) ⟨w443, w444, w52, w445, (by decide +kernel), (by decide +kernel), (by decide +kernel)⟩ ⟨Nat.le_of_ble_eq_true rfl, Nat.le_of_ble_eq_true rfl, hcs.1, hcs.2⟩ rfl hl rfl hW hdg (fun r z H locs h hw => kk r z.1 z.2 H locs h hw)
theorem kLV_115 {p1 : Int32} {post : Int32 → MT → Prop} (C : CX "CoderTablesLaw" b_W_law 8 (some .boolean) Z (fun q => s.heap.size ≤ q) p l s m args meth c) (hw : WD Z (fun q => s.heap.size ≤ q) s (cLw Z ad bd oa u v o) H locs) (h : q_M_rank p1 v post) (hcs : cells ≤ 1065 ∧ slots ≤ 14558) (hl : ls.size = 8) (hW : (rest.map fun v => v.category).sum ≤ 8) (hdg : decode b_W_law pc = .ok (.invokevirtual 115, 3)) (kk : ∀ (r : Int32) (u' : MT) (H : Heap) (locs : List Loc), post r u' → WD Z (fun q => s.heap.size ≤ q) s (cLw Z ad bd oa u u' o) H locs → W p l e room_1 s m args below meth c H locs cells slots Q (F0 m (pc + 3) ls (.int r :: rest))) : W p l e room_1 s m args below meth c H locs cells slots Q (F0 m pc ls (.int (p1) :: .ref (bd 0) :: rest)) :=
  g_V_i (n := 1) (f := cM Z bd) (u := v) (wr := fH Z ad oa (u, o)) (As := [.int (p1)]) C (WD.swap hw) (c_M_rank (ad := bd) C.1 h) ⟨w686, w687, w688, w56, w689, (by decide +kernel), (by decide +kernel), (by decide +kernel)⟩ ⟨Nat.le_of_ble_eq_true rfl, Nat.le_of_ble_eq_true rfl, hcs.1, hcs.2⟩ 0 rfl rfl rfl hl rfl hW hdg (fun _ _ _ _ _ _ h => h.elim) (fun r u' H locs h hw => kk r u' H locs h (WD.swap hw))
theorem kLH_116 {p1 : Int32} {p2 : Int32} {post : Int32 → CT × (Nat → Int64) → Prop} (C : CX "CoderTablesLaw" b_W_law 8 (some .boolean) Z (fun q => s.heap.size ≤ q) p l s m args meth c) (hw : WD Z (fun q => s.heap.size ≤ q) s (cLw Z ad bd oa u v o) H locs) (h : qh_W_hull p1 p2 u o post) (hcs : cells + 1 ≤ 1065 ∧ slots + 6 ≤ 14558) (hl : ls.size = 8) (hW : (rest.map fun v => v.category).sum ≤ 8) (hdg : decode b_W_law pc = .ok (.invokestatic 116, 3)) (kk : ∀ (r : Int32) (u' : CT) (o' : Nat → Int64) (H : Heap) (locs : List Loc), post r (u', o') → WD Z (fun q => s.heap.size ≤ q) s (cLw Z ad bd oa u' v o') H locs → W p l e room_1 s m args below meth c H locs (cells + 1) (slots + 6) Q (F0 m (pc + 3) ls (.int r :: rest))) : W p l e room_1 s m args below meth c H locs cells slots Q (F0 m pc ls (.ref (oa) :: .int (p2) :: .int (p1) :: .ref (ad 0) :: rest)) :=
  g_H_i (n := 4) (f := fH Z ad oa) (u := (u, o)) (wr := cM Z bd v) (As := [.ref (ad 0), .int (p1), .int (p2), .ref (oa)]) C hw (ch_W_hull C.1 h) ⟨w450, w451, w52, w452, (by decide +kernel), (by decide +kernel), (by decide +kernel)⟩ ⟨Nat.le_of_ble_eq_true rfl, Nat.le_of_ble_eq_true rfl, hcs.1, hcs.2⟩ rfl hl rfl hW hdg (fun r z H locs h hw => kk r z.1 z.2 H locs h hw)
theorem kLV_118 {p1 : Int32} {p2 : Int32} {post : Int32 → MT → Prop} (C : CX "CoderTablesLaw" b_W_law 8 (some .boolean) Z (fun q => s.heap.size ≤ q) p l s m args meth c) (hw : WD Z (fun q => s.heap.size ≤ q) s (cLw Z ad bd oa u v o) H locs) (h : q_M_hull p1 p2 v post) (hcs : cells ≤ 1065 ∧ slots ≤ 14558) (hl : ls.size = 8) (hW : (rest.map fun v => v.category).sum ≤ 8) (hdg : decode b_W_law pc = .ok (.invokevirtual 118, 3)) (kk : ∀ (r : Int32) (u' : MT) (H : Heap) (locs : List Loc), post r u' → WD Z (fun q => s.heap.size ≤ q) s (cLw Z ad bd oa u u' o) H locs → W p l e room_1 s m args below meth c H locs cells slots Q (F0 m (pc + 3) ls (.int r :: rest))) : W p l e room_1 s m args below meth c H locs cells slots Q (F0 m pc ls (.int (p2) :: .int (p1) :: .ref (bd 0) :: rest)) :=
  g_V_i (n := 2) (f := cM Z bd) (u := v) (wr := fH Z ad oa (u, o)) (As := [.int (p1), .int (p2)]) C (WD.swap hw) (c_M_hull (ad := bd) C.1 h) ⟨w694, w695, w696, w56, w697, (by decide +kernel), (by decide +kernel), (by decide +kernel)⟩ ⟨Nat.le_of_ble_eq_true rfl, Nat.le_of_ble_eq_true rfl, hcs.1, hcs.2⟩ 0 rfl rfl rfl hl rfl hW hdg (fun _ _ _ _ _ _ h => h.elim) (fun r u' H locs h hw => kk r u' H locs h (WD.swap hw))
theorem kLH_119 {p1 : Int32} {p2 : Int32} {p3 : Int32} {p4 : Int32} {post : Int32 → CT × (Nat → Int64) → Prop} (C : CX "CoderTablesLaw" b_W_law 8 (some .boolean) Z (fun q => s.heap.size ≤ q) p l s m args meth c) (hw : WD Z (fun q => s.heap.size ≤ q) s (cLw Z ad bd oa u v o) H locs) (h : qh_W_onHull p1 p2 p3 p4 u o post) (hcs : cells + 1 ≤ 1065 ∧ slots + 6 ≤ 14558) (hl : ls.size = 8) (hW : (rest.map fun v => v.category).sum ≤ 8) (hdg : decode b_W_law pc = .ok (.invokestatic 119, 3)) (kk : ∀ (r : Int32) (u' : CT) (o' : Nat → Int64) (H : Heap) (locs : List Loc), post r (u', o') → WD Z (fun q => s.heap.size ≤ q) s (cLw Z ad bd oa u' v o') H locs → W p l e room_1 s m args below meth c H locs (cells + 1) (slots + 6) Q (F0 m (pc + 3) ls (.int r :: rest))) : W p l e room_1 s m args below meth c H locs cells slots Q (F0 m pc ls (.ref (oa) :: .int (p4) :: .int (p3) :: .int (p2) :: .int (p1) :: .ref (ad 0) :: rest)) :=
  g_H_i (n := 6) (f := fH Z ad oa) (u := (u, o)) (wr := cM Z bd v) (As := [.ref (ad 0), .int (p1), .int (p2), .int (p3), .int (p4), .ref (oa)]) C hw (ch_W_onHull C.1 h) ⟨w485, w486, w52, w487, (by decide +kernel), (by decide +kernel), (by decide +kernel)⟩ ⟨Nat.le_of_ble_eq_true rfl, Nat.le_of_ble_eq_true rfl, hcs.1, hcs.2⟩ rfl hl rfl hW hdg (fun r z H locs h hw => kk r z.1 z.2 H locs h hw)
theorem kLV_121 {p1 : Int32} {p2 : Int32} {p3 : Int32} {p4 : Int32} {post : Int32 → MT → Prop} (C : CX "CoderTablesLaw" b_W_law 8 (some .boolean) Z (fun q => s.heap.size ≤ q) p l s m args meth c) (hw : WD Z (fun q => s.heap.size ≤ q) s (cLw Z ad bd oa u v o) H locs) (h : q_M_onHull p1 p2 p3 p4 v post) (hcs : cells ≤ 1065 ∧ slots ≤ 14558) (hl : ls.size = 8) (hW : (rest.map fun v => v.category).sum ≤ 8) (hdg : decode b_W_law pc = .ok (.invokevirtual 121, 3)) (kk : ∀ (r : Int32) (u' : MT) (H : Heap) (locs : List Loc), post r u' → WD Z (fun q => s.heap.size ≤ q) s (cLw Z ad bd oa u u' o) H locs → W p l e room_1 s m args below meth c H locs cells slots Q (F0 m (pc + 3) ls (.int r :: rest))) : W p l e room_1 s m args below meth c H locs cells slots Q (F0 m pc ls (.int (p4) :: .int (p3) :: .int (p2) :: .int (p1) :: .ref (bd 0) :: rest)) :=
  g_V_i (n := 4) (f := cM Z bd) (u := v) (wr := fH Z ad oa (u, o)) (As := [.int (p1), .int (p2), .int (p3), .int (p4)]) C (WD.swap hw) (c_M_onHull (ad := bd) C.1 h) ⟨w710, w711, w712, w56, w713, (by decide +kernel), (by decide +kernel), (by decide +kernel)⟩ ⟨Nat.le_of_ble_eq_true rfl, Nat.le_of_ble_eq_true rfl, hcs.1, hcs.2⟩ 0 rfl rfl rfl hl rfl hW hdg (fun _ _ _ _ _ _ h => h.elim) (fun r u' H locs h hw => kk r u' H locs h (WD.swap hw))
theorem kLH_122 {p1 : Int32} {p2 : Int32} {p3 : Int32} {p4 : Int32} {post : Int32 → CT × (Nat → Int64) → Prop} (C : CX "CoderTablesLaw" b_W_law 8 (some .boolean) Z (fun q => s.heap.size ≤ q) p l s m args meth c) (hw : WD Z (fun q => s.heap.size ≤ q) s (cLw Z ad bd oa u v o) H locs) (h : qh_W_slope p1 p2 p3 p4 u o post) (hcs : cells + 1 ≤ 1065 ∧ slots + 6 ≤ 14558) (hl : ls.size = 8) (hW : (rest.map fun v => v.category).sum ≤ 8) (hdg : decode b_W_law pc = .ok (.invokestatic 122, 3)) (kk : ∀ (r : Int32) (u' : CT) (o' : Nat → Int64) (H : Heap) (locs : List Loc), post r (u', o') → WD Z (fun q => s.heap.size ≤ q) s (cLw Z ad bd oa u' v o') H locs → W p l e room_1 s m args below meth c H locs (cells + 1) (slots + 6) Q (F0 m (pc + 3) ls (.int r :: rest))) : W p l e room_1 s m args below meth c H locs cells slots Q (F0 m pc ls (.ref (oa) :: .int (p4) :: .int (p3) :: .int (p2) :: .int (p1) :: .ref (ad 0) :: rest)) :=
  g_H_i (n := 6) (f := fH Z ad oa) (u := (u, o)) (wr := cM Z bd v) (As := [.ref (ad 0), .int (p1), .int (p2), .int (p3), .int (p4), .ref (oa)]) C hw (ch_W_slope C.1 h) ⟨w494, w495, w52, w496, (by decide +kernel), (by decide +kernel), (by decide +kernel)⟩ ⟨Nat.le_of_ble_eq_true rfl, Nat.le_of_ble_eq_true rfl, hcs.1, hcs.2⟩ rfl hl rfl hW hdg (fun r z H locs h hw => kk r z.1 z.2 H locs h hw)
theorem kLV_125 {p1 : Int32} {p2 : Int32} {p3 : Int32} {p4 : Int32} {post : Int64 → MT → Prop} (C : CX "CoderTablesLaw" b_W_law 8 (some .boolean) Z (fun q => s.heap.size ≤ q) p l s m args meth c) (hw : WD Z (fun q => s.heap.size ≤ q) s (cLw Z ad bd oa u v o) H locs) (h : q_M_slope p1 p2 p3 p4 v post) (hcs : cells ≤ 1065 ∧ slots ≤ 14558) (hl : ls.size = 8) (hW : (rest.map fun v => v.category).sum ≤ 8) (hdg : decode b_W_law pc = .ok (.invokevirtual 125, 3)) (kk : ∀ (r : Int64) (u' : MT) (H : Heap) (locs : List Loc), post r u' → WD Z (fun q => s.heap.size ≤ q) s (cLw Z ad bd oa u u' o) H locs → W p l e room_1 s m args below meth c H locs cells slots Q (F0 m (pc + 3) ls (.long r :: rest))) : W p l e room_1 s m args below meth c H locs cells slots Q (F0 m pc ls (.int (p4) :: .int (p3) :: .int (p2) :: .int (p1) :: .ref (bd 0) :: rest)) :=
  g_V_l (n := 4) (f := cM Z bd) (u := v) (wr := fH Z ad oa (u, o)) (As := [.int (p1), .int (p2), .int (p3), .int (p4)]) C (WD.swap hw) (c_M_slope (ad := bd) C.1 h) ⟨w718, w719, w720, w56, w721, (by decide +kernel), (by decide +kernel), (by decide +kernel)⟩ ⟨Nat.le_of_ble_eq_true rfl, Nat.le_of_ble_eq_true rfl, hcs.1, hcs.2⟩ 0 rfl rfl rfl hl rfl hW hdg (fun _ _ _ _ _ _ h => h.elim) (fun r u' H locs h hw => kk r u' H locs h (WD.swap hw))
theorem kLH_126 {p1 : Int32} {p2 : Int32} {p3 : Int32} {post : Int32 → CT × (Nat → Int64) → Prop} (C : CX "CoderTablesLaw" b_W_law 8 (some .boolean) Z (fun q => s.heap.size ≤ q) p l s m args meth c) (hw : WD Z (fun q => s.heap.size ≤ q) s (cLw Z ad bd oa u v o) H locs) (h : qh_W_signs p1 p2 p3 u o post) (hcs : cells + 1 ≤ 1065 ∧ slots + 6 ≤ 14558) (hl : ls.size = 8) (hW : (rest.map fun v => v.category).sum ≤ 8) (hdg : decode b_W_law pc = .ok (.invokestatic 126, 3)) (kk : ∀ (r : Int32) (u' : CT) (o' : Nat → Int64) (H : Heap) (locs : List Loc), post r (u', o') → WD Z (fun q => s.heap.size ≤ q) s (cLw Z ad bd oa u' v o') H locs → W p l e room_1 s m args below meth c H locs (cells + 1) (slots + 6) Q (F0 m (pc + 3) ls (.int r :: rest))) : W p l e room_1 s m args below meth c H locs cells slots Q (F0 m pc ls (.ref (oa) :: .int (p3) :: .int (p2) :: .int (p1) :: .ref (ad 0) :: rest)) :=
  g_H_i (n := 5) (f := fH Z ad oa) (u := (u, o)) (wr := cM Z bd v) (As := [.ref (ad 0), .int (p1), .int (p2), .int (p3), .ref (oa)]) C hw (ch_W_signs C.1 h) ⟨w502, w503, w52, w504, (by decide +kernel), (by decide +kernel), (by decide +kernel)⟩ ⟨Nat.le_of_ble_eq_true rfl, Nat.le_of_ble_eq_true rfl, hcs.1, hcs.2⟩ rfl hl rfl hW hdg (fun r z H locs h hw => kk r z.1 z.2 H locs h hw)
theorem kLV_129 {p1 : Int32} {p2 : Int32} {p3 : Int32} {post : Int64 → MT → Prop} (C : CX "CoderTablesLaw" b_W_law 8 (some .boolean) Z (fun q => s.heap.size ≤ q) p l s m args meth c) (hw : WD Z (fun q => s.heap.size ≤ q) s (cLw Z ad bd oa u v o) H locs) (h : q_M_signs p1 p2 p3 v post) (hcs : cells ≤ 1065 ∧ slots ≤ 14558) (hl : ls.size = 8) (hW : (rest.map fun v => v.category).sum ≤ 8) (hdg : decode b_W_law pc = .ok (.invokevirtual 129, 3)) (kk : ∀ (r : Int64) (u' : MT) (H : Heap) (locs : List Loc), post r u' → WD Z (fun q => s.heap.size ≤ q) s (cLw Z ad bd oa u u' o) H locs → W p l e room_1 s m args below meth c H locs cells slots Q (F0 m (pc + 3) ls (.long r :: rest))) : W p l e room_1 s m args below meth c H locs cells slots Q (F0 m pc ls (.int (p3) :: .int (p2) :: .int (p1) :: .ref (bd 0) :: rest)) :=
  g_V_l (n := 3) (f := cM Z bd) (u := v) (wr := fH Z ad oa (u, o)) (As := [.int (p1), .int (p2), .int (p3)]) C (WD.swap hw) (c_M_signs (ad := bd) C.1 h) ⟨w722, w723, w724, w56, w725, (by decide +kernel), (by decide +kernel), (by decide +kernel)⟩ ⟨Nat.le_of_ble_eq_true rfl, Nat.le_of_ble_eq_true rfl, hcs.1, hcs.2⟩ 0 rfl rfl rfl hl rfl hW hdg (fun _ _ _ _ _ _ h => h.elim) (fun r u' H locs h hw => kk r u' H locs h (WD.swap hw))
theorem kLH_132 {p1 : Int32} {p2 : Int32} {p3 : Int64} {p5 : Int32} {post : Int32 → CT × (Nat → Int64) → Prop} (C : CX "CoderTablesLaw" b_W_law 8 (some .boolean) Z (fun q => s.heap.size ≤ q) p l s m args meth c) (hw : WD Z (fun q => s.heap.size ≤ q) s (cLw Z ad bd oa u v o) H locs) (h : qh_W_draws p1 p2 p3 p5 u o post) (hcs : cells + 1 ≤ 1065 ∧ slots + 6 ≤ 14558) (hl : ls.size = 8) (hW : (rest.map fun v => v.category).sum ≤ 8) (hdg : decode b_W_law pc = .ok (.invokestatic 132, 3)) (kk : ∀ (r : Int32) (u' : CT) (o' : Nat → Int64) (H : Heap) (locs : List Loc), post r (u', o') → WD Z (fun q => s.heap.size ≤ q) s (cLw Z ad bd oa u' v o') H locs → W p l e room_1 s m args below meth c H locs (cells + 1) (slots + 6) Q (F0 m (pc + 3) ls (.int r :: rest))) : W p l e room_1 s m args below meth c H locs cells slots Q (F0 m pc ls (.ref (oa) :: .int (p5) :: .long (p3) :: .int (p2) :: .int (p1) :: .ref (ad 0) :: rest)) :=
  g_H_i (n := 6) (f := fH Z ad oa) (u := (u, o)) (wr := cM Z bd v) (As := [.ref (ad 0), .int (p1), .int (p2), .long (p3), .int (p5), .ref (oa)]) C hw (ch_W_draws C.1 h) ⟨w528, w529, w52, w530, (by decide +kernel), (by decide +kernel), (by decide +kernel)⟩ ⟨Nat.le_of_ble_eq_true rfl, Nat.le_of_ble_eq_true rfl, hcs.1, hcs.2⟩ rfl hl rfl hW hdg (fun r z H locs h hw => kk r z.1 z.2 H locs h hw)
theorem kLV_135 {p1 : Int32} {p2 : Int32} {p3 : Int64} {p5 : Int32} {post : Int32 → MT → Prop} (C : CX "CoderTablesLaw" b_W_law 8 (some .boolean) Z (fun q => s.heap.size ≤ q) p l s m args meth c) (hw : WD Z (fun q => s.heap.size ≤ q) s (cLw Z ad bd oa u v o) H locs) (h : q_M_draws p1 p2 p3 p5 v post) (hcs : cells ≤ 1065 ∧ slots ≤ 14558) (hl : ls.size = 8) (hW : (rest.map fun v => v.category).sum ≤ 8) (hdg : decode b_W_law pc = .ok (.invokevirtual 135, 3)) (kk : ∀ (r : Int32) (u' : MT) (H : Heap) (locs : List Loc), post r u' → WD Z (fun q => s.heap.size ≤ q) s (cLw Z ad bd oa u u' o) H locs → W p l e room_1 s m args below meth c H locs cells slots Q (F0 m (pc + 3) ls (.int r :: rest))) : W p l e room_1 s m args below meth c H locs cells slots Q (F0 m pc ls (.int (p5) :: .long (p3) :: .int (p2) :: .int (p1) :: .ref (bd 0) :: rest)) :=
  g_V_i (n := 4) (f := cM Z bd) (u := v) (wr := fH Z ad oa (u, o)) (As := [.int (p1), .int (p2), .long (p3), .int (p5)]) C (WD.swap hw) (c_M_draws (ad := bd) C.1 h) ⟨w736, w737, w738, w56, w739, (by decide +kernel), (by decide +kernel), (by decide +kernel)⟩ ⟨Nat.le_of_ble_eq_true rfl, Nat.le_of_ble_eq_true rfl, hcs.1, hcs.2⟩ 0 rfl rfl rfl hl rfl hW hdg (fun _ _ _ _ _ _ h => h.elim) (fun r u' H locs h hw => kk r u' H locs h (WD.swap hw))
theorem kLV_136 {p1 : Int64} {post : Int32 → CT → Prop} (C : CX "CoderTablesLaw" b_W_law 8 (some .boolean) Z (fun q => s.heap.size ≤ q) p l s m args meth c) (hw : WD Z (fun q => s.heap.size ≤ q) s (cLw Z ad bd oa u v o) H locs) (h : q_X_fill p1 u post) (hcs : cells ≤ 1065 ∧ slots ≤ 14558) (hl : ls.size = 8) (hW : (rest.map fun v => v.category).sum ≤ 8) (hdg : decode b_W_law pc = .ok (.invokevirtual 136, 3)) (kk : ∀ (r : Int32) (u' : CT) (H : Heap) (locs : List Loc), post r u' → WD Z (fun q => s.heap.size ≤ q) s (cLw Z ad bd oa u' v o) H locs → W p l e room_1 s m args below meth c H locs cells slots Q (F0 m (pc + 3) ls (.int r :: rest))) : W p l e room_1 s m args below meth c H locs cells slots Q (F0 m pc ls (.long (p1) :: .ref (ad 0) :: rest)) :=
  g_V_i (n := 1) (f := cX Z ad) (u := u) (wr := [oC Z oa o] ++ cM Z bd v) (As := [.long (p1)]) C (by rw [← List.append_assoc]; exact hw) (c_X_fill C.1 h) ⟨w148, w149, w150, w53, w151, (by decide +kernel), (by decide +kernel), (by decide +kernel)⟩ ⟨Nat.le_of_ble_eq_true rfl, Nat.le_of_ble_eq_true rfl, hcs.1, hcs.2⟩ 0 rfl rfl rfl hl rfl hW hdg (fun _ _ _ _ _ _ h => h.elim) (fun r u' H locs h hw => kk r u' H locs h (by rw [← List.append_assoc] at hw; exact hw))
theorem kLV_140 {p1 : Int64} {post : Int32 → MT → Prop} (C : CX "CoderTablesLaw" b_W_law 8 (some .boolean) Z (fun q => s.heap.size ≤ q) p l s m args meth c) (hw : WD Z (fun q => s.heap.size ≤ q) s (cLw Z ad bd oa u v o) H locs) (h : q_M_fill p1 v post) (hcs : cells ≤ 1065 ∧ slots ≤ 14558) (hl : ls.size = 8) (hW : (rest.map fun v => v.category).sum ≤ 8) (hdg : decode b_W_law pc = .ok (.invokevirtual 140, 3)) (kk : ∀ (r : Int32) (u' : MT) (H : Heap) (locs : List Loc), post r u' → WD Z (fun q => s.heap.size ≤ q) s (cLw Z ad bd oa u u' o) H locs → W p l e room_1 s m args below meth c H locs cells slots Q (F0 m (pc + 3) ls (.int r :: rest))) : W p l e room_1 s m args below meth c H locs cells slots Q (F0 m pc ls (.long (p1) :: .ref (bd 0) :: rest)) :=
  g_V_i (n := 1) (f := cM Z bd) (u := v) (wr := fH Z ad oa (u, o)) (As := [.long (p1)]) C (WD.swap hw) (c_M_fill (ad := bd) C.1 h) ⟨w751, w752, w753, w56, w754, (by decide +kernel), (by decide +kernel), (by decide +kernel)⟩ ⟨Nat.le_of_ble_eq_true rfl, Nat.le_of_ble_eq_true rfl, hcs.1, hcs.2⟩ 0 rfl rfl rfl hl rfl hW hdg (fun _ _ _ _ _ _ h => h.elim) (fun r u' H locs h hw => kk r u' H locs h (WD.swap hw))
theorem kLV_141 {post : Int32 → CT → Prop} (C : CX "CoderTablesLaw" b_W_law 8 (some .boolean) Z (fun q => s.heap.size ≤ q) p l s m args meth c) (hw : WD Z (fun q => s.heap.size ≤ q) s (cLw Z ad bd oa u v o) H locs) (h : q_X_text u post) (hcs : cells ≤ 1065 ∧ slots ≤ 14558) (hl : ls.size = 8) (hW : (rest.map fun v => v.category).sum ≤ 8) (hdg : decode b_W_law pc = .ok (.invokevirtual 141, 3)) (kk : ∀ (r : Int32) (u' : CT) (H : Heap) (locs : List Loc), post r u' → WD Z (fun q => s.heap.size ≤ q) s (cLw Z ad bd oa u' v o) H locs → W p l e room_1 s m args below meth c H locs cells slots Q (F0 m (pc + 3) ls (.int r :: rest))) : W p l e room_1 s m args below meth c H locs cells slots Q (F0 m pc ls (.ref (ad 0) :: rest)) :=
  g_V_i (n := 0) (f := cX Z ad) (u := u) (wr := [oC Z oa o] ++ cM Z bd v) (As := []) C (by rw [← List.append_assoc]; exact hw) (c_X_text C.1 h) ⟨w178, w179, w180, w53, w181, (by decide +kernel), (by decide +kernel), (by decide +kernel)⟩ ⟨Nat.le_of_ble_eq_true rfl, Nat.le_of_ble_eq_true rfl, hcs.1, hcs.2⟩ 0 rfl rfl rfl hl rfl hW hdg (fun _ _ _ _ _ _ h => h.elim) (fun r u' H locs h hw => kk r u' H locs h (by rw [← List.append_assoc] at hw; exact hw))
theorem kLV_144 {post : Int32 → MT → Prop} (C : CX "CoderTablesLaw" b_W_law 8 (some .boolean) Z (fun q => s.heap.size ≤ q) p l s m args meth c) (hw : WD Z (fun q => s.heap.size ≤ q) s (cLw Z ad bd oa u v o) H locs) (h : q_M_text v post) (hcs : cells ≤ 1065 ∧ slots ≤ 14558) (hl : ls.size = 8) (hW : (rest.map fun v => v.category).sum ≤ 8) (hdg : decode b_W_law pc = .ok (.invokevirtual 144, 3)) (kk : ∀ (r : Int32) (u' : MT) (H : Heap) (locs : List Loc), post r u' → WD Z (fun q => s.heap.size ≤ q) s (cLw Z ad bd oa u u' o) H locs → W p l e room_1 s m args below meth c H locs cells slots Q (F0 m (pc + 3) ls (.int r :: rest))) : W p l e room_1 s m args below meth c H locs cells slots Q (F0 m pc ls (.ref (bd 0) :: rest)) :=
  g_V_i (n := 0) (f := cM Z bd) (u := v) (wr := fH Z ad oa (u, o)) (As := []) C (WD.swap hw) (c_M_text (ad := bd) C.1 h) ⟨w763, w764, w765, w56, w766, (by decide +kernel), (by decide +kernel), (by decide +kernel)⟩ ⟨Nat.le_of_ble_eq_true rfl, Nat.le_of_ble_eq_true rfl, hcs.1, hcs.2⟩ 0 rfl rfl rfl hl rfl hW hdg (fun _ _ _ _ _ _ h => h.elim) (fun r u' H locs h hw => kk r u' H locs h (WD.swap hw))
theorem kLH_145 {p1 : Int32} {post : Int32 → CT × (Nat → Int64) → Prop} (C : CX "CoderTablesLaw" b_W_law 8 (some .boolean) Z (fun q => s.heap.size ≤ q) p l s m args meth c) (hw : WD Z (fun q => s.heap.size ≤ q) s (cLw Z ad bd oa u v o) H locs) (h : qh_W_charAt p1 u o post) (hcs : cells + 1 ≤ 1065 ∧ slots + 6 ≤ 14558) (hl : ls.size = 8) (hW : (rest.map fun v => v.category).sum ≤ 8) (hdg : decode b_W_law pc = .ok (.invokestatic 145, 3)) (kk : ∀ (r : Int32) (u' : CT) (o' : Nat → Int64) (H : Heap) (locs : List Loc), post r (u', o') → WD Z (fun q => s.heap.size ≤ q) s (cLw Z ad bd oa u' v o') H locs → W p l e room_1 s m args below meth c H locs (cells + 1) (slots + 6) Q (F0 m (pc + 3) ls (.int r :: rest))) : W p l e room_1 s m args below meth c H locs cells slots Q (F0 m pc ls (.ref (oa) :: .int (p1) :: .ref (ad 0) :: rest)) :=
  g_H_i (n := 3) (f := fH Z ad oa) (u := (u, o)) (wr := cM Z bd v) (As := [.ref (ad 0), .int (p1), .ref (oa)]) C hw (ch_W_charAt C.1 h) ⟨w541, w542, w52, w543, (by decide +kernel), (by decide +kernel), (by decide +kernel)⟩ ⟨Nat.le_of_ble_eq_true rfl, Nat.le_of_ble_eq_true rfl, hcs.1, hcs.2⟩ rfl hl rfl hW hdg (fun r z H locs h hw => kk r z.1 z.2 H locs h hw)
theorem kLV_147 {p1 : Int32} {post : Int32 → MT → Prop} (C : CX "CoderTablesLaw" b_W_law 8 (some .boolean) Z (fun q => s.heap.size ≤ q) p l s m args meth c) (hw : WD Z (fun q => s.heap.size ≤ q) s (cLw Z ad bd oa u v o) H locs) (h : q_M_charAt p1 v post) (hcs : cells ≤ 1065 ∧ slots ≤ 14558) (hl : ls.size = 8) (hW : (rest.map fun v => v.category).sum ≤ 8) (hdg : decode b_W_law pc = .ok (.invokevirtual 147, 3)) (kk : ∀ (r : Int32) (u' : MT) (H : Heap) (locs : List Loc), post r u' → WD Z (fun q => s.heap.size ≤ q) s (cLw Z ad bd oa u u' o) H locs → W p l e room_1 s m args below meth c H locs cells slots Q (F0 m (pc + 3) ls (.int r :: rest))) : W p l e room_1 s m args below meth c H locs cells slots Q (F0 m pc ls (.int (p1) :: .ref (bd 0) :: rest)) :=
  g_V_i (n := 1) (f := cM Z bd) (u := v) (wr := fH Z ad oa (u, o)) (As := [.int (p1)]) C (WD.swap hw) (c_M_charAt (ad := bd) C.1 h) ⟨w777, w778, w779, w56, w780, (by decide +kernel), (by decide +kernel), (by decide +kernel)⟩ ⟨Nat.le_of_ble_eq_true rfl, Nat.le_of_ble_eq_true rfl, hcs.1, hcs.2⟩ 0 rfl rfl rfl hl rfl hW hdg (fun _ _ _ _ _ _ h => h.elim) (fun r u' H locs h hw => kk r u' H locs h (WD.swap hw))
theorem kLV_148 {p1 : Int32} {post : Int32 → CT → Prop} (C : CX "CoderTablesLaw" b_W_law 8 (some .boolean) Z (fun q => s.heap.size ≤ q) p l s m args meth c) (hw : WD Z (fun q => s.heap.size ≤ q) s (cLw Z ad bd oa u v o) H locs) (h : q_X_told p1 u post) (hcs : cells ≤ 1065 ∧ slots ≤ 14558) (hl : ls.size = 8) (hW : (rest.map fun v => v.category).sum ≤ 8) (hdg : decode b_W_law pc = .ok (.invokevirtual 148, 3)) (kk : ∀ (r : Int32) (u' : CT) (H : Heap) (locs : List Loc), post r u' → WD Z (fun q => s.heap.size ≤ q) s (cLw Z ad bd oa u' v o) H locs → W p l e room_1 s m args below meth c H locs cells slots Q (F0 m (pc + 3) ls (.int r :: rest))) : W p l e room_1 s m args below meth c H locs cells slots Q (F0 m pc ls (.int (p1) :: .ref (ad 0) :: rest)) :=
  g_V_i (n := 1) (f := cX Z ad) (u := u) (wr := [oC Z oa o] ++ cM Z bd v) (As := [.int (p1)]) C (by rw [← List.append_assoc]; exact hw) (c_X_told C.1 h) ⟨w216, w217, w218, w53, w219, (by decide +kernel), (by decide +kernel), (by decide +kernel)⟩ ⟨Nat.le_of_ble_eq_true rfl, Nat.le_of_ble_eq_true rfl, hcs.1, hcs.2⟩ 0 rfl rfl rfl hl rfl hW hdg (fun _ _ _ _ _ _ h => h.elim) (fun r u' H locs h hw => kk r u' H locs h (by rw [← List.append_assoc] at hw; exact hw))
theorem kLV_151 {p1 : Int32} {post : Int32 → MT → Prop} (C : CX "CoderTablesLaw" b_W_law 8 (some .boolean) Z (fun q => s.heap.size ≤ q) p l s m args meth c) (hw : WD Z (fun q => s.heap.size ≤ q) s (cLw Z ad bd oa u v o) H locs) (h : q_M_told p1 v post) (hcs : cells ≤ 1065 ∧ slots ≤ 14558) (hl : ls.size = 8) (hW : (rest.map fun v => v.category).sum ≤ 8) (hdg : decode b_W_law pc = .ok (.invokevirtual 151, 3)) (kk : ∀ (r : Int32) (u' : MT) (H : Heap) (locs : List Loc), post r u' → WD Z (fun q => s.heap.size ≤ q) s (cLw Z ad bd oa u u' o) H locs → W p l e room_1 s m args below meth c H locs cells slots Q (F0 m (pc + 3) ls (.int r :: rest))) : W p l e room_1 s m args below meth c H locs cells slots Q (F0 m pc ls (.int (p1) :: .ref (bd 0) :: rest)) :=
  g_V_i (n := 1) (f := cM Z bd) (u := v) (wr := fH Z ad oa (u, o)) (As := [.int (p1)]) C (WD.swap hw) (c_M_told (ad := bd) C.1 h) ⟨w781, w782, w783, w56, w784, (by decide +kernel), (by decide +kernel), (by decide +kernel)⟩ ⟨Nat.le_of_ble_eq_true rfl, Nat.le_of_ble_eq_true rfl, hcs.1, hcs.2⟩ 0 rfl rfl rfl hl rfl hW hdg (fun _ _ _ _ _ _ h => h.elim) (fun r u' H locs h hw => kk r u' H locs h (WD.swap hw))
theorem kLV_152 {post : CT → Prop} (C : CX "CoderTablesLaw" b_W_law 8 (some .boolean) Z (fun q => s.heap.size ≤ q) p l s m args meth c) (hw : WD Z (fun q => s.heap.size ≤ q) s (cLw Z ad bd oa u v o) H locs) (h : q_X_clear u post) (hcs : cells ≤ 1065 ∧ slots ≤ 14558) (hl : ls.size = 8) (hW : (rest.map fun v => v.category).sum ≤ 8) (hdg : decode b_W_law pc = .ok (.invokevirtual 152, 3)) (kk : ∀ (u' : CT) (H : Heap) (locs : List Loc), post u' → WD Z (fun q => s.heap.size ≤ q) s (cLw Z ad bd oa u' v o) H locs → W p l e room_1 s m args below meth c H locs cells slots Q (F0 m (pc + 3) ls (rest))) : W p l e room_1 s m args below meth c H locs cells slots Q (F0 m pc ls (.ref (ad 0) :: rest)) :=
  g_V_v (n := 0) (f := cX Z ad) (u := u) (wr := [oC Z oa o] ++ cM Z bd v) (As := []) C (by rw [← List.append_assoc]; exact hw) (c_X_clear C.1 h) ⟨w228, w229, w230, w53, w231, (by decide +kernel), (by decide +kernel), (by decide +kernel)⟩ ⟨Nat.le_of_ble_eq_true rfl, Nat.le_of_ble_eq_true rfl, hcs.1, hcs.2⟩ 0 rfl rfl rfl hl rfl hW hdg (fun _ _ _ _ _ _ h => h.elim) (fun u' H locs h hw => kk u' H locs h (by rw [← List.append_assoc] at hw; exact hw))
theorem kLV_155 {post : MT → Prop} (C : CX "CoderTablesLaw" b_W_law 8 (some .boolean) Z (fun q => s.heap.size ≤ q) p l s m args meth c) (hw : WD Z (fun q => s.heap.size ≤ q) s (cLw Z ad bd oa u v o) H locs) (h : q_M_clear v post) (hcs : cells ≤ 1065 ∧ slots ≤ 14558) (hl : ls.size = 8) (hW : (rest.map fun v => v.category).sum ≤ 8) (hdg : decode b_W_law pc = .ok (.invokevirtual 155, 3)) (kk : ∀ (u' : MT) (H : Heap) (locs : List Loc), post u' → WD Z (fun q => s.heap.size ≤ q) s (cLw Z ad bd oa u u' o) H locs → W p l e room_1 s m args below meth c H locs cells slots Q (F0 m (pc + 3) ls (rest))) : W p l e room_1 s m args below meth c H locs cells slots Q (F0 m pc ls (.ref (bd 0) :: rest)) :=
  g_V_v (n := 0) (f := cM Z bd) (u := v) (wr := fH Z ad oa (u, o)) (As := []) C (WD.swap hw) (c_M_clear (ad := bd) C.1 h) ⟨w785, w786, w787, w56, w788, (by decide +kernel), (by decide +kernel), (by decide +kernel)⟩ ⟨Nat.le_of_ble_eq_true rfl, Nat.le_of_ble_eq_true rfl, hcs.1, hcs.2⟩ 0 rfl rfl rfl hl rfl hW hdg (fun _ _ _ _ _ _ h => h.elim) (fun u' H locs h hw => kk u' H locs h (WD.swap hw))
theorem l_sld {ws : va_W} {i : Int32} (C : CX "CoderTablesLaw" b_W_law 8 (some .boolean) Z (fun q => s.heap.size ≤ q) p l s m args meth c) (hX : va_X b L xs s s.heap) (hbl : b < s.heap.size) (hw : WD Z (fun q => s.heap.size ≤ q) s ws H locs) (hin : vp_in i L) (hdg : decode b_W_law pc = .ok (.iaload, 1)) (kk : W p l e room_1 s m args below meth c H locs cells slots Q (F0 m (pc + 1) ls (.int (xs i.toNatClampNeg) :: rest))) : W p l e room_1 s m args below meth c H locs cells slots Q (F0 m pc ls (.int i :: .ref b :: rest)) :=
  va_sld C.2.1 C.2.2.1 hX hbl (Nat.not_le.mpr hbl) hw.2.2 hin hdg kk
theorem l_slen {ws : va_W} (C : CX "CoderTablesLaw" b_W_law 8 (some .boolean) Z (fun q => s.heap.size ≤ q) p l s m args meth c) (hX : va_X b L xs s s.heap) (hbl : b < s.heap.size) (hw : WD Z (fun q => s.heap.size ≤ q) s ws H locs) (hdg : decode b_W_law pc = .ok (.arraylength, 1)) (kk : W p l e room_1 s m args below meth c H locs cells slots Q (F0 m (pc + 1) ls (.int (Int32.ofNat L) :: rest))) : W p l e room_1 s m args below meth c H locs cells slots Q (F0 m pc ls (.ref b :: rest)) :=
  va_slen C.2.1 C.2.2.1 hX hbl (Nat.not_le.mpr hbl) hw.2.2 hdg kk
theorem l_old (C : CX "CoderTablesLaw" b_W_law 8 (some .boolean) Z (fun q => s.heap.size ≤ q) p l s m args meth c) (hw : WD Z (fun q => s.heap.size ≤ q) s (cLw Z ad bd oa u v o) H locs) (hdg : decode b_W_law pc = .ok (.laload, 1)) (kk : W p l e room_1 s m args below meth c H locs cells slots Q (F0 m (pc + 1) ls (.long (o (0 : Int32).toNatClampNeg) :: rest))) : W p l e room_1 s m args below meth c H locs cells slots Q (F0 m pc ls (.int 0 :: .ref oa :: rest)) :=
  g_ldl (k9 := 1) C hw 11 rfl vin01 hdg kk
end LWC
def q_law_0 (L : Nat) (xs : Nat → Int32) (i : Int32) (u : CT) (v : MT) (o : Nat → Int64) (post : CT → MT → (Nat → Int64) → Prop) : Prop :=
  qh_W_coder (u) (o) (fun r1 z9 => q_M_coder (v) (fun r4 u5 => q_M_thrown (u5) (fun r6 u7 => (((r6) = (r1) → ((¬ (r1) = 0 → post (z9.1) (u7) (z9.2)) ∧ ((r1) = 0 → (((lg_cmp ((z9.2) (0 : Int32).toNatClampNeg) ((r4).toInt64)) = 0 → post (z9.1) (u7) (z9.2)) ∧ (¬ (lg_cmp ((z9.2) (0 : Int32).toNatClampNeg) ((r4).toInt64)) = 0 → False))))) ∧ (¬ (r6) = (r1) → False)))))
set_option maxRecDepth 100000 in
theorem w_law_0 {p : Program} {l : Launch} {e : Env} {s : State} {m : MethodId} {args : Array Value} {below : List Frame} {meth : Method} {c : Code} {Z : ZT} {ad bd : Nat → Nat} {oa b L : Nat} {xs : Nat → Int32} {Q : State → Prop} {cells slots : Nat} {post : CT → MT → (Nat → Int64) → Prop} {i : Int32} {u : CT} {v : MT} {o : Nat → Int64} {H : Heap} {locs : List Loc} {ls : Array Slot} (C : CX "CoderTablesLaw" b_W_law 8 (some .boolean) Z (fun q => s.heap.size ≤ q) p l s m args meth c) (hX : va_X b L xs s s.heap) (hbl : b < s.heap.size) (hcs : cells + 1 ≤ 1065 ∧ slots + 6 ≤ 14558) (hw : WD Z (fun q => s.heap.size ≤ q) s (cLw Z ad bd oa u v o) H locs) (hl : lv_has ls 8 [(0, .ref (b)), (1, .ref (ad 0)), (2, .ref (bd 0)), (3, .ref (oa)), (4, .int (i))]) (h : q_law_0 L xs i u v o post) (hpost : ∀ (u : CT) (v : MT) (o : Nat → Int64) (H : Heap) (locs : List Loc) (ls : Array Slot), post u v o → WD Z (fun q => s.heap.size ≤ q) s (cLw Z ad bd oa u v o) H locs → lv_has ls 8 [(0, .ref (b)), (1, .ref (ad 0)), (2, .ref (bd 0)), (3, .ref (oa)), (4, .int (i))] → W p l e room_1 s m args below meth c H locs (cells + 1) (slots + 6) Q (F0 m 1359 ls [])) : W p l e room_1 s m args below meth c H locs cells slots Q (F0 m 136 ls []) := by
  unfold q_law_0 at h
  refine lv_aload_n C.2.1 C.2.2.1 d_W_law_136 rfl (lv_at hl 1 rfl) ?_
  refine lv_aload_n C.2.1 C.2.2.1 d_W_law_137 rfl (lv_at hl 3 rfl) ?_
  refine kLH_75 C hw h hcs hl.1 (Nat.le_of_ble_eq_true rfl) d_W_law_138 (fun r1 u2 o3 H locs h hw => ?_)
  refine lv_istore (lv' := [(5, .int (r1)), (0, .ref (b)), (1, .ref (ad 0)), (2, .ref (bd 0)), (3, .ref (oa)), (4, .int (i))]) C.2.1 C.2.2.1 d_W_law_141 hl (by decide) rfl (fun ls hl => ?_)
  refine lv_aload_n C.2.1 C.2.2.1 d_W_law_143 rfl (lv_at hl 3 rfl) ?_
  refine kLV_80 C hw h hcs hl.1 (Nat.le_of_ble_eq_true rfl) d_W_law_144 (fun r4 u5 H locs h hw => ?_)
  refine lv_istore (lv' := [(6, .int (r4)), (5, .int (r1)), (0, .ref (b)), (1, .ref (ad 0)), (2, .ref (bd 0)), (3, .ref (oa)), (4, .int (i))]) C.2.1 C.2.2.1 d_W_law_147 hl (by decide) rfl (fun ls hl => ?_)
  refine lv_aload_n C.2.1 C.2.2.1 d_W_law_149 rfl (lv_at hl 4 rfl) ?_
  refine kLV_81 C hw h hcs hl.1 (Nat.le_of_ble_eq_true rfl) d_W_law_150 (fun r6 u7 H locs h hw => ?_)
  refine lv_iload C.2.1 C.2.2.1 d_W_law_153 (lv_at hl 1 rfl) ?_
  refine lv_icmp_eq (tgt := 160) C.2.1 C.2.2.1 d_W_law_155 (by decide) (fun c => ?_) (fun c => ?_)
  · have h := h.1 c
    refine lv_iload C.2.1 C.2.2.1 d_W_law_160 (lv_at hl 1 rfl) ?_
    refine lv_if_ne (tgt := 177) C.2.1 C.2.2.1 d_W_law_162 (by decide) (fun c => ?_) (fun c => ?_)
    · have h := h.1 c
      refine lv_goto (tgt := 1359) C.2.1 C.2.2.1 d_W_law_177 (by decide) ?_
      exact hpost _ _ _ _ _ _ h hw (lv_sub hl [2, 3, 4, 5, 6] rfl)
    · have h := h.2 c
      refine lv_aload_n C.2.1 C.2.2.1 d_W_law_165 rfl (lv_at hl 5 rfl) ?_
      refine lv_iconst (v := (0)) C.2.1 C.2.2.1 d_W_law_166 (by decide) ?_
      refine l_old C hw d_W_law_167 ?_
      refine lv_iload C.2.1 C.2.2.1 d_W_law_168 (lv_at hl 0 rfl) ?_
      refine lv_i2l C.2.1 C.2.2.1 d_W_law_170 rfl ?_
      refine W.lcmp C.2.1 C.2.2.1 d_W_law_171 ?_
      refine lv_if_eq (tgt := 177) C.2.1 C.2.2.1 d_W_law_172 (by decide) (fun c => ?_) (fun c => ?_)
      · have h := h.1 c
        refine lv_goto (tgt := 1359) C.2.1 C.2.2.1 d_W_law_177 (by decide) ?_
        exact hpost _ _ _ _ _ _ h hw (lv_sub hl [2, 3, 4, 5, 6] rfl)
      · have h := h.2 c
        refine lv_iconst (v := (0)) C.2.1 C.2.2.1 d_W_law_175 (by decide) ?_
        exact h.elim
  · have h := h.2 c
    refine lv_iconst (v := (0)) C.2.1 C.2.2.1 d_W_law_158 (by decide) ?_
    exact h.elim
def q_law_1 (L : Nat) (xs : Nat → Int32) (i : Int32) (u : CT) (v : MT) (o : Nat → Int64) (post : CT → MT → (Nat → Int64) → Prop) : Prop :=
  qh_W_picture (u) (o) (fun r1 z9 => q_M_picture (v) (fun r4 u5 => q_M_thrown (u5) (fun r6 u7 => (((r6) = (r1) → ((¬ (r1) = 0 → post (z9.1) (u7) (z9.2)) ∧ ((r1) = 0 → (((lg_cmp ((z9.2) (0 : Int32).toNatClampNeg) ((r4).toInt64)) = 0 → post (z9.1) (u7) (z9.2)) ∧ (¬ (lg_cmp ((z9.2) (0 : Int32).toNatClampNeg) ((r4).toInt64)) = 0 → False))))) ∧ (¬ (r6) = (r1) → False)))))
set_option maxRecDepth 100000 in
theorem w_law_1 {p : Program} {l : Launch} {e : Env} {s : State} {m : MethodId} {args : Array Value} {below : List Frame} {meth : Method} {c : Code} {Z : ZT} {ad bd : Nat → Nat} {oa b L : Nat} {xs : Nat → Int32} {Q : State → Prop} {cells slots : Nat} {post : CT → MT → (Nat → Int64) → Prop} {i : Int32} {u : CT} {v : MT} {o : Nat → Int64} {H : Heap} {locs : List Loc} {ls : Array Slot} (C : CX "CoderTablesLaw" b_W_law 8 (some .boolean) Z (fun q => s.heap.size ≤ q) p l s m args meth c) (hX : va_X b L xs s s.heap) (hbl : b < s.heap.size) (hcs : cells + 1 ≤ 1065 ∧ slots + 6 ≤ 14558) (hw : WD Z (fun q => s.heap.size ≤ q) s (cLw Z ad bd oa u v o) H locs) (hl : lv_has ls 8 [(0, .ref (b)), (1, .ref (ad 0)), (2, .ref (bd 0)), (3, .ref (oa)), (4, .int (i))]) (h : q_law_1 L xs i u v o post) (hpost : ∀ (u : CT) (v : MT) (o : Nat → Int64) (H : Heap) (locs : List Loc) (ls : Array Slot), post u v o → WD Z (fun q => s.heap.size ≤ q) s (cLw Z ad bd oa u v o) H locs → lv_has ls 8 [(0, .ref (b)), (1, .ref (ad 0)), (2, .ref (bd 0)), (3, .ref (oa)), (4, .int (i))] → W p l e room_1 s m args below meth c H locs (cells + 1) (slots + 6) Q (F0 m 1359 ls [])) : W p l e room_1 s m args below meth c H locs cells slots Q (F0 m 180 ls []) := by
  unfold q_law_1 at h
  refine lv_aload_n C.2.1 C.2.2.1 d_W_law_180 rfl (lv_at hl 1 rfl) ?_
  refine lv_aload_n C.2.1 C.2.2.1 d_W_law_181 rfl (lv_at hl 3 rfl) ?_
  refine kLH_84 C hw h hcs hl.1 (Nat.le_of_ble_eq_true rfl) d_W_law_182 (fun r1 u2 o3 H locs h hw => ?_)
  refine lv_istore (lv' := [(5, .int (r1)), (0, .ref (b)), (1, .ref (ad 0)), (2, .ref (bd 0)), (3, .ref (oa)), (4, .int (i))]) C.2.1 C.2.2.1 d_W_law_185 hl (by decide) rfl (fun ls hl => ?_)
  refine lv_aload_n C.2.1 C.2.2.1 d_W_law_187 rfl (lv_at hl 3 rfl) ?_
  refine kLV_86 C hw h hcs hl.1 (Nat.le_of_ble_eq_true rfl) d_W_law_188 (fun r4 u5 H locs h hw => ?_)
  refine lv_istore (lv' := [(6, .int (r4)), (5, .int (r1)), (0, .ref (b)), (1, .ref (ad 0)), (2, .ref (bd 0)), (3, .ref (oa)), (4, .int (i))]) C.2.1 C.2.2.1 d_W_law_191 hl (by decide) rfl (fun ls hl => ?_)
  refine lv_aload_n C.2.1 C.2.2.1 d_W_law_193 rfl (lv_at hl 4 rfl) ?_
  refine kLV_81 C hw h hcs hl.1 (Nat.le_of_ble_eq_true rfl) d_W_law_194 (fun r6 u7 H locs h hw => ?_)
  refine lv_iload C.2.1 C.2.2.1 d_W_law_197 (lv_at hl 1 rfl) ?_
  refine lv_icmp_eq (tgt := 204) C.2.1 C.2.2.1 d_W_law_199 (by decide) (fun c => ?_) (fun c => ?_)
  · have h := h.1 c
    refine lv_iload C.2.1 C.2.2.1 d_W_law_204 (lv_at hl 1 rfl) ?_
    refine lv_if_ne (tgt := 221) C.2.1 C.2.2.1 d_W_law_206 (by decide) (fun c => ?_) (fun c => ?_)
    · have h := h.1 c
      refine lv_goto (tgt := 1359) C.2.1 C.2.2.1 d_W_law_221 (by decide) ?_
      exact hpost _ _ _ _ _ _ h hw (lv_sub hl [2, 3, 4, 5, 6] rfl)
    · have h := h.2 c
      refine lv_aload_n C.2.1 C.2.2.1 d_W_law_209 rfl (lv_at hl 5 rfl) ?_
      refine lv_iconst (v := (0)) C.2.1 C.2.2.1 d_W_law_210 (by decide) ?_
      refine l_old C hw d_W_law_211 ?_
      refine lv_iload C.2.1 C.2.2.1 d_W_law_212 (lv_at hl 0 rfl) ?_
      refine lv_i2l C.2.1 C.2.2.1 d_W_law_214 rfl ?_
      refine W.lcmp C.2.1 C.2.2.1 d_W_law_215 ?_
      refine lv_if_eq (tgt := 221) C.2.1 C.2.2.1 d_W_law_216 (by decide) (fun c => ?_) (fun c => ?_)
      · have h := h.1 c
        refine lv_goto (tgt := 1359) C.2.1 C.2.2.1 d_W_law_221 (by decide) ?_
        exact hpost _ _ _ _ _ _ h hw (lv_sub hl [2, 3, 4, 5, 6] rfl)
      · have h := h.2 c
        refine lv_iconst (v := (0)) C.2.1 C.2.2.1 d_W_law_219 (by decide) ?_
        exact h.elim
  · have h := h.2 c
    refine lv_iconst (v := (0)) C.2.1 C.2.2.1 d_W_law_202 (by decide) ?_
    exact h.elim
def q_law_2 (L : Nat) (xs : Nat → Int32) (i : Int32) (u : CT) (v : MT) (o : Nat → Int64) (post : CT → MT → (Nat → Int64) → Prop) : Prop :=
  (vp_in ((i) + (((1) : Int32))) L ∧ (vp_in ((i) + (((2) : Int32))) L ∧ (vp_in ((i) + (((3) : Int32))) L ∧ (vp_in ((i) + (((4) : Int32))) L ∧ qh_W_point (xs ((i) + (((1) : Int32))).toNatClampNeg) (xs ((i) + (((2) : Int32))).toNatClampNeg) (xs ((i) + (((3) : Int32))).toNatClampNeg) (xs ((i) + (((4) : Int32))).toNatClampNeg) (u) (o) (fun r1 z9 => (vp_in ((i) + (((1) : Int32))) L ∧ (vp_in ((i) + (((2) : Int32))) L ∧ (vp_in ((i) + (((3) : Int32))) L ∧ (vp_in ((i) + (((4) : Int32))) L ∧ q_M_point (xs ((i) + (((1) : Int32))).toNatClampNeg) (xs ((i) + (((2) : Int32))).toNatClampNeg) (xs ((i) + (((3) : Int32))).toNatClampNeg) (xs ((i) + (((4) : Int32))).toNatClampNeg) (v) (fun r4 u5 => q_M_thrown (u5) (fun r6 u7 => (((r6) = (r1) → ((¬ (r1) = 0 → post (z9.1) (u7) (z9.2)) ∧ ((r1) = 0 → (((lg_cmp ((z9.2) (0 : Int32).toNatClampNeg) ((r4).toInt64)) = 0 → post (z9.1) (u7) (z9.2)) ∧ (¬ (lg_cmp ((z9.2) (0 : Int32).toNatClampNeg) ((r4).toInt64)) = 0 → False))))) ∧ (¬ (r6) = (r1) → False)))))))))))))
set_option maxRecDepth 100000 in
theorem w_law_2 {p : Program} {l : Launch} {e : Env} {s : State} {m : MethodId} {args : Array Value} {below : List Frame} {meth : Method} {c : Code} {Z : ZT} {ad bd : Nat → Nat} {oa b L : Nat} {xs : Nat → Int32} {Q : State → Prop} {cells slots : Nat} {post : CT → MT → (Nat → Int64) → Prop} {i : Int32} {u : CT} {v : MT} {o : Nat → Int64} {H : Heap} {locs : List Loc} {ls : Array Slot} (C : CX "CoderTablesLaw" b_W_law 8 (some .boolean) Z (fun q => s.heap.size ≤ q) p l s m args meth c) (hX : va_X b L xs s s.heap) (hbl : b < s.heap.size) (hcs : cells + 1 ≤ 1065 ∧ slots + 6 ≤ 14558) (hw : WD Z (fun q => s.heap.size ≤ q) s (cLw Z ad bd oa u v o) H locs) (hl : lv_has ls 8 [(0, .ref (b)), (1, .ref (ad 0)), (2, .ref (bd 0)), (3, .ref (oa)), (4, .int (i))]) (h : q_law_2 L xs i u v o post) (hpost : ∀ (u : CT) (v : MT) (o : Nat → Int64) (H : Heap) (locs : List Loc) (ls : Array Slot), post u v o → WD Z (fun q => s.heap.size ≤ q) s (cLw Z ad bd oa u v o) H locs → lv_has ls 8 [(0, .ref (b)), (1, .ref (ad 0)), (2, .ref (bd 0)), (3, .ref (oa)), (4, .int (i))] → W p l e room_1 s m args below meth c H locs (cells + 1) (slots + 6) Q (F0 m 1359 ls [])) : W p l e room_1 s m args below meth c H locs cells slots Q (F0 m 224 ls []) := by
  unfold q_law_2 at h
  refine lv_aload_n C.2.1 C.2.2.1 d_W_law_224 rfl (lv_at hl 1 rfl) ?_
  refine lv_aload_n C.2.1 C.2.2.1 d_W_law_225 rfl (lv_at hl 0 rfl) ?_
  refine lv_iload C.2.1 C.2.2.1 d_W_law_226 (lv_at hl 4 rfl) ?_
  refine lv_iconst (v := (1)) C.2.1 C.2.2.1 d_W_law_228 (by decide) ?_
  refine lv_iadd C.2.1 C.2.2.1 d_W_law_229 ?_
  obtain ⟨hi, h⟩ := h
  refine l_sld C hX hbl hw hi d_W_law_230 ?_
  refine lv_aload_n C.2.1 C.2.2.1 d_W_law_231 rfl (lv_at hl 0 rfl) ?_
  refine lv_iload C.2.1 C.2.2.1 d_W_law_232 (lv_at hl 4 rfl) ?_
  refine lv_iconst (v := (2)) C.2.1 C.2.2.1 d_W_law_234 (by decide) ?_
  refine lv_iadd C.2.1 C.2.2.1 d_W_law_235 ?_
  obtain ⟨hi, h⟩ := h
  refine l_sld C hX hbl hw hi d_W_law_236 ?_
  refine lv_aload_n C.2.1 C.2.2.1 d_W_law_237 rfl (lv_at hl 0 rfl) ?_
  refine lv_iload C.2.1 C.2.2.1 d_W_law_238 (lv_at hl 4 rfl) ?_
  refine lv_iconst (v := (3)) C.2.1 C.2.2.1 d_W_law_240 (by decide) ?_
  refine lv_iadd C.2.1 C.2.2.1 d_W_law_241 ?_
  obtain ⟨hi, h⟩ := h
  refine l_sld C hX hbl hw hi d_W_law_242 ?_
  refine lv_aload_n C.2.1 C.2.2.1 d_W_law_243 rfl (lv_at hl 0 rfl) ?_
  refine lv_iload C.2.1 C.2.2.1 d_W_law_244 (lv_at hl 4 rfl) ?_
  refine lv_iconst (v := (4)) C.2.1 C.2.2.1 d_W_law_246 (by decide) ?_
  refine lv_iadd C.2.1 C.2.2.1 d_W_law_247 ?_
  obtain ⟨hi, h⟩ := h
  refine l_sld C hX hbl hw hi d_W_law_248 ?_
  refine lv_aload_n C.2.1 C.2.2.1 d_W_law_249 rfl (lv_at hl 3 rfl) ?_
  refine kLH_87 C hw h hcs hl.1 (Nat.le_of_ble_eq_true rfl) d_W_law_250 (fun r1 u2 o3 H locs h hw => ?_)
  refine lv_istore (lv' := [(5, .int (r1)), (0, .ref (b)), (1, .ref (ad 0)), (2, .ref (bd 0)), (3, .ref (oa)), (4, .int (i))]) C.2.1 C.2.2.1 d_W_law_253 hl (by decide) rfl (fun ls hl => ?_)
  refine lv_aload_n C.2.1 C.2.2.1 d_W_law_255 rfl (lv_at hl 3 rfl) ?_
  refine lv_aload_n C.2.1 C.2.2.1 d_W_law_256 rfl (lv_at hl 1 rfl) ?_
  refine lv_iload C.2.1 C.2.2.1 d_W_law_257 (lv_at hl 5 rfl) ?_
  refine lv_iconst (v := (1)) C.2.1 C.2.2.1 d_W_law_259 (by decide) ?_
  refine lv_iadd C.2.1 C.2.2.1 d_W_law_260 ?_
  obtain ⟨hi, h⟩ := h
  refine l_sld C hX hbl hw hi d_W_law_261 ?_
  refine lv_aload_n C.2.1 C.2.2.1 d_W_law_262 rfl (lv_at hl 1 rfl) ?_
  refine lv_iload C.2.1 C.2.2.1 d_W_law_263 (lv_at hl 5 rfl) ?_
  refine lv_iconst (v := (2)) C.2.1 C.2.2.1 d_W_law_265 (by decide) ?_
  refine lv_iadd C.2.1 C.2.2.1 d_W_law_266 ?_
  obtain ⟨hi, h⟩ := h
  refine l_sld C hX hbl hw hi d_W_law_267 ?_
  refine lv_aload_n C.2.1 C.2.2.1 d_W_law_268 rfl (lv_at hl 1 rfl) ?_
  refine lv_iload C.2.1 C.2.2.1 d_W_law_269 (lv_at hl 5 rfl) ?_
  refine lv_iconst (v := (3)) C.2.1 C.2.2.1 d_W_law_271 (by decide) ?_
  refine lv_iadd C.2.1 C.2.2.1 d_W_law_272 ?_
  obtain ⟨hi, h⟩ := h
  refine l_sld C hX hbl hw hi d_W_law_273 ?_
  refine lv_aload_n C.2.1 C.2.2.1 d_W_law_274 rfl (lv_at hl 1 rfl) ?_
  refine lv_iload C.2.1 C.2.2.1 d_W_law_275 (lv_at hl 5 rfl) ?_
  refine lv_iconst (v := (4)) C.2.1 C.2.2.1 d_W_law_277 (by decide) ?_
  refine lv_iadd C.2.1 C.2.2.1 d_W_law_278 ?_
  obtain ⟨hi, h⟩ := h
  refine l_sld C hX hbl hw hi d_W_law_279 ?_
  refine kLV_90 C hw h hcs hl.1 (Nat.le_of_ble_eq_true rfl) d_W_law_280 (fun r4 u5 H locs h hw => ?_)
  refine lv_istore (lv' := [(6, .int (r4)), (5, .int (r1)), (0, .ref (b)), (1, .ref (ad 0)), (2, .ref (bd 0)), (3, .ref (oa)), (4, .int (i))]) C.2.1 C.2.2.1 d_W_law_283 hl (by decide) rfl (fun ls hl => ?_)
  refine lv_aload_n C.2.1 C.2.2.1 d_W_law_285 rfl (lv_at hl 4 rfl) ?_
  refine kLV_81 C hw h hcs hl.1 (Nat.le_of_ble_eq_true rfl) d_W_law_286 (fun r6 u7 H locs h hw => ?_)
  refine lv_iload C.2.1 C.2.2.1 d_W_law_289 (lv_at hl 1 rfl) ?_
  refine lv_icmp_eq (tgt := 296) C.2.1 C.2.2.1 d_W_law_291 (by decide) (fun c => ?_) (fun c => ?_)
  · have h := h.1 c
    refine lv_iload C.2.1 C.2.2.1 d_W_law_296 (lv_at hl 1 rfl) ?_
    refine lv_if_ne (tgt := 313) C.2.1 C.2.2.1 d_W_law_298 (by decide) (fun c => ?_) (fun c => ?_)
    · have h := h.1 c
      refine lv_goto (tgt := 1359) C.2.1 C.2.2.1 d_W_law_313 (by decide) ?_
      exact hpost _ _ _ _ _ _ h hw (lv_sub hl [2, 3, 4, 5, 6] rfl)
    · have h := h.2 c
      refine lv_aload_n C.2.1 C.2.2.1 d_W_law_301 rfl (lv_at hl 5 rfl) ?_
      refine lv_iconst (v := (0)) C.2.1 C.2.2.1 d_W_law_302 (by decide) ?_
      refine l_old C hw d_W_law_303 ?_
      refine lv_iload C.2.1 C.2.2.1 d_W_law_304 (lv_at hl 0 rfl) ?_
      refine lv_i2l C.2.1 C.2.2.1 d_W_law_306 rfl ?_
      refine W.lcmp C.2.1 C.2.2.1 d_W_law_307 ?_
      refine lv_if_eq (tgt := 313) C.2.1 C.2.2.1 d_W_law_308 (by decide) (fun c => ?_) (fun c => ?_)
      · have h := h.1 c
        refine lv_goto (tgt := 1359) C.2.1 C.2.2.1 d_W_law_313 (by decide) ?_
        exact hpost _ _ _ _ _ _ h hw (lv_sub hl [2, 3, 4, 5, 6] rfl)
      · have h := h.2 c
        refine lv_iconst (v := (0)) C.2.1 C.2.2.1 d_W_law_311 (by decide) ?_
        exact h.elim
  · have h := h.2 c
    refine lv_iconst (v := (0)) C.2.1 C.2.2.1 d_W_law_294 (by decide) ?_
    exact h.elim
def q_law_3 (L : Nat) (xs : Nat → Int32) (i : Int32) (u : CT) (v : MT) (o : Nat → Int64) (post : CT → MT → (Nat → Int64) → Prop) : Prop :=
  (vp_in ((i) + (((1) : Int32))) L ∧ (vp_in ((i) + (((2) : Int32))) L ∧ qh_W_fails (xs ((i) + (((1) : Int32))).toNatClampNeg) (xs ((i) + (((2) : Int32))).toNatClampNeg) (u) (o) (fun r1 z9 => (vp_in ((i) + (((1) : Int32))) L ∧ (vp_in ((i) + (((2) : Int32))) L ∧ q_M_fails (xs ((i) + (((1) : Int32))).toNatClampNeg) (xs ((i) + (((2) : Int32))).toNatClampNeg) (v) (fun r4 u5 => q_M_thrown (u5) (fun r6 u7 => (((r6) = (r1) → ((¬ (r1) = 0 → post (z9.1) (u7) (z9.2)) ∧ ((r1) = 0 → (((lg_cmp ((z9.2) (0 : Int32).toNatClampNeg) ((r4).toInt64)) = 0 → post (z9.1) (u7) (z9.2)) ∧ (¬ (lg_cmp ((z9.2) (0 : Int32).toNatClampNeg) ((r4).toInt64)) = 0 → False))))) ∧ (¬ (r6) = (r1) → False)))))))))
set_option maxRecDepth 100000 in
theorem w_law_3 {p : Program} {l : Launch} {e : Env} {s : State} {m : MethodId} {args : Array Value} {below : List Frame} {meth : Method} {c : Code} {Z : ZT} {ad bd : Nat → Nat} {oa b L : Nat} {xs : Nat → Int32} {Q : State → Prop} {cells slots : Nat} {post : CT → MT → (Nat → Int64) → Prop} {i : Int32} {u : CT} {v : MT} {o : Nat → Int64} {H : Heap} {locs : List Loc} {ls : Array Slot} (C : CX "CoderTablesLaw" b_W_law 8 (some .boolean) Z (fun q => s.heap.size ≤ q) p l s m args meth c) (hX : va_X b L xs s s.heap) (hbl : b < s.heap.size) (hcs : cells + 1 ≤ 1065 ∧ slots + 6 ≤ 14558) (hw : WD Z (fun q => s.heap.size ≤ q) s (cLw Z ad bd oa u v o) H locs) (hl : lv_has ls 8 [(0, .ref (b)), (1, .ref (ad 0)), (2, .ref (bd 0)), (3, .ref (oa)), (4, .int (i))]) (h : q_law_3 L xs i u v o post) (hpost : ∀ (u : CT) (v : MT) (o : Nat → Int64) (H : Heap) (locs : List Loc) (ls : Array Slot), post u v o → WD Z (fun q => s.heap.size ≤ q) s (cLw Z ad bd oa u v o) H locs → lv_has ls 8 [(0, .ref (b)), (1, .ref (ad 0)), (2, .ref (bd 0)), (3, .ref (oa)), (4, .int (i))] → W p l e room_1 s m args below meth c H locs (cells + 1) (slots + 6) Q (F0 m 1359 ls [])) : W p l e room_1 s m args below meth c H locs cells slots Q (F0 m 316 ls []) := by
  unfold q_law_3 at h
  refine lv_aload_n C.2.1 C.2.2.1 d_W_law_316 rfl (lv_at hl 1 rfl) ?_
  refine lv_aload_n C.2.1 C.2.2.1 d_W_law_317 rfl (lv_at hl 0 rfl) ?_
  refine lv_iload C.2.1 C.2.2.1 d_W_law_318 (lv_at hl 4 rfl) ?_
  refine lv_iconst (v := (1)) C.2.1 C.2.2.1 d_W_law_320 (by decide) ?_
  refine lv_iadd C.2.1 C.2.2.1 d_W_law_321 ?_
  obtain ⟨hi, h⟩ := h
  refine l_sld C hX hbl hw hi d_W_law_322 ?_
  refine lv_aload_n C.2.1 C.2.2.1 d_W_law_323 rfl (lv_at hl 0 rfl) ?_
  refine lv_iload C.2.1 C.2.2.1 d_W_law_324 (lv_at hl 4 rfl) ?_
  refine lv_iconst (v := (2)) C.2.1 C.2.2.1 d_W_law_326 (by decide) ?_
  refine lv_iadd C.2.1 C.2.2.1 d_W_law_327 ?_
  obtain ⟨hi, h⟩ := h
  refine l_sld C hX hbl hw hi d_W_law_328 ?_
  refine lv_aload_n C.2.1 C.2.2.1 d_W_law_329 rfl (lv_at hl 3 rfl) ?_
  refine kLH_91 C hw h hcs hl.1 (Nat.le_of_ble_eq_true rfl) d_W_law_330 (fun r1 u2 o3 H locs h hw => ?_)
  refine lv_istore (lv' := [(5, .int (r1)), (0, .ref (b)), (1, .ref (ad 0)), (2, .ref (bd 0)), (3, .ref (oa)), (4, .int (i))]) C.2.1 C.2.2.1 d_W_law_333 hl (by decide) rfl (fun ls hl => ?_)
  refine lv_aload_n C.2.1 C.2.2.1 d_W_law_335 rfl (lv_at hl 3 rfl) ?_
  refine lv_aload_n C.2.1 C.2.2.1 d_W_law_336 rfl (lv_at hl 1 rfl) ?_
  refine lv_iload C.2.1 C.2.2.1 d_W_law_337 (lv_at hl 5 rfl) ?_
  refine lv_iconst (v := (1)) C.2.1 C.2.2.1 d_W_law_339 (by decide) ?_
  refine lv_iadd C.2.1 C.2.2.1 d_W_law_340 ?_
  obtain ⟨hi, h⟩ := h
  refine l_sld C hX hbl hw hi d_W_law_341 ?_
  refine lv_aload_n C.2.1 C.2.2.1 d_W_law_342 rfl (lv_at hl 1 rfl) ?_
  refine lv_iload C.2.1 C.2.2.1 d_W_law_343 (lv_at hl 5 rfl) ?_
  refine lv_iconst (v := (2)) C.2.1 C.2.2.1 d_W_law_345 (by decide) ?_
  refine lv_iadd C.2.1 C.2.2.1 d_W_law_346 ?_
  obtain ⟨hi, h⟩ := h
  refine l_sld C hX hbl hw hi d_W_law_347 ?_
  refine kLV_94 C hw h hcs hl.1 (Nat.le_of_ble_eq_true rfl) d_W_law_348 (fun r4 u5 H locs h hw => ?_)
  refine lv_istore (lv' := [(6, .int (r4)), (5, .int (r1)), (0, .ref (b)), (1, .ref (ad 0)), (2, .ref (bd 0)), (3, .ref (oa)), (4, .int (i))]) C.2.1 C.2.2.1 d_W_law_351 hl (by decide) rfl (fun ls hl => ?_)
  refine lv_aload_n C.2.1 C.2.2.1 d_W_law_353 rfl (lv_at hl 4 rfl) ?_
  refine kLV_81 C hw h hcs hl.1 (Nat.le_of_ble_eq_true rfl) d_W_law_354 (fun r6 u7 H locs h hw => ?_)
  refine lv_iload C.2.1 C.2.2.1 d_W_law_357 (lv_at hl 1 rfl) ?_
  refine lv_icmp_eq (tgt := 364) C.2.1 C.2.2.1 d_W_law_359 (by decide) (fun c => ?_) (fun c => ?_)
  · have h := h.1 c
    refine lv_iload C.2.1 C.2.2.1 d_W_law_364 (lv_at hl 1 rfl) ?_
    refine lv_if_ne (tgt := 381) C.2.1 C.2.2.1 d_W_law_366 (by decide) (fun c => ?_) (fun c => ?_)
    · have h := h.1 c
      refine lv_goto (tgt := 1359) C.2.1 C.2.2.1 d_W_law_381 (by decide) ?_
      exact hpost _ _ _ _ _ _ h hw (lv_sub hl [2, 3, 4, 5, 6] rfl)
    · have h := h.2 c
      refine lv_aload_n C.2.1 C.2.2.1 d_W_law_369 rfl (lv_at hl 5 rfl) ?_
      refine lv_iconst (v := (0)) C.2.1 C.2.2.1 d_W_law_370 (by decide) ?_
      refine l_old C hw d_W_law_371 ?_
      refine lv_iload C.2.1 C.2.2.1 d_W_law_372 (lv_at hl 0 rfl) ?_
      refine lv_i2l C.2.1 C.2.2.1 d_W_law_374 rfl ?_
      refine W.lcmp C.2.1 C.2.2.1 d_W_law_375 ?_
      refine lv_if_eq (tgt := 381) C.2.1 C.2.2.1 d_W_law_376 (by decide) (fun c => ?_) (fun c => ?_)
      · have h := h.1 c
        refine lv_goto (tgt := 1359) C.2.1 C.2.2.1 d_W_law_381 (by decide) ?_
        exact hpost _ _ _ _ _ _ h hw (lv_sub hl [2, 3, 4, 5, 6] rfl)
      · have h := h.2 c
        refine lv_iconst (v := (0)) C.2.1 C.2.2.1 d_W_law_379 (by decide) ?_
        exact h.elim
  · have h := h.2 c
    refine lv_iconst (v := (0)) C.2.1 C.2.2.1 d_W_law_362 (by decide) ?_
    exact h.elim
def q_law_4 (L : Nat) (xs : Nat → Int32) (i : Int32) (u : CT) (v : MT) (o : Nat → Int64) (post : CT → MT → (Nat → Int64) → Prop) : Prop :=
  q_X_failed (u) (fun r1 u2 => q_M_failed (v) (fun r3 u4 => (((r1) = (r3) → post (u2) (u4) (o)) ∧ (¬ (r1) = (r3) → False))))
set_option maxRecDepth 100000 in
theorem w_law_4 {p : Program} {l : Launch} {e : Env} {s : State} {m : MethodId} {args : Array Value} {below : List Frame} {meth : Method} {c : Code} {Z : ZT} {ad bd : Nat → Nat} {oa b L : Nat} {xs : Nat → Int32} {Q : State → Prop} {cells slots : Nat} {post : CT → MT → (Nat → Int64) → Prop} {i : Int32} {u : CT} {v : MT} {o : Nat → Int64} {H : Heap} {locs : List Loc} {ls : Array Slot} (C : CX "CoderTablesLaw" b_W_law 8 (some .boolean) Z (fun q => s.heap.size ≤ q) p l s m args meth c) (hX : va_X b L xs s s.heap) (hbl : b < s.heap.size) (hcs : cells + 1 ≤ 1065 ∧ slots + 6 ≤ 14558) (hw : WD Z (fun q => s.heap.size ≤ q) s (cLw Z ad bd oa u v o) H locs) (hl : lv_has ls 8 [(0, .ref (b)), (1, .ref (ad 0)), (2, .ref (bd 0)), (3, .ref (oa)), (4, .int (i))]) (h : q_law_4 L xs i u v o post) (hpost : ∀ (u : CT) (v : MT) (o : Nat → Int64) (H : Heap) (locs : List Loc) (ls : Array Slot), post u v o → WD Z (fun q => s.heap.size ≤ q) s (cLw Z ad bd oa u v o) H locs → lv_has ls 8 [(0, .ref (b)), (1, .ref (ad 0)), (2, .ref (bd 0)), (3, .ref (oa)), (4, .int (i))] → W p l e room_1 s m args below meth c H locs (cells + 1) (slots + 6) Q (F0 m 1359 ls [])) : W p l e room_1 s m args below meth c H locs cells slots Q (F0 m 384 ls []) := by
  unfold q_law_4 at h
  refine lv_aload_n C.2.1 C.2.2.1 d_W_law_384 rfl (lv_at hl 1 rfl) ?_
  refine kLV_95 C hw h ⟨Nat.le_of_succ_le hcs.1, Nat.le_trans (Nat.le_add_right _ 6) hcs.2⟩ hl.1 (Nat.le_of_ble_eq_true rfl) d_W_law_385 (fun r1 u2 H locs h hw => ?_)
  refine lv_aload_n C.2.1 C.2.2.1 d_W_law_388 rfl (lv_at hl 2 rfl) ?_
  refine kLV_98 C hw h ⟨Nat.le_of_succ_le hcs.1, Nat.le_trans (Nat.le_add_right _ 6) hcs.2⟩ hl.1 (Nat.le_of_ble_eq_true rfl) d_W_law_389 (fun r3 u4 H locs h hw => ?_)
  refine lv_icmp_eq (tgt := 1359) C.2.1 C.2.2.1 d_W_law_392 (by decide) (fun c => ?_) (fun c => ?_)
  · have h := h.1 c
    refine W.widen (k := cells + 1) (n := slots + 6) (Nat.le_succ _) (Nat.le_add_right _ _) ?_
    exact hpost _ _ _ _ _ _ h hw (lv_sub hl [0, 1, 2, 3, 4] rfl)
  · have h := h.2 c
    refine lv_iconst (v := (0)) C.2.1 C.2.2.1 d_W_law_395 (by decide) ?_
    exact h.elim
def q_law_5 (L : Nat) (xs : Nat → Int32) (i : Int32) (u : CT) (v : MT) (o : Nat → Int64) (post : CT → MT → (Nat → Int64) → Prop) : Prop :=
  (vp_in ((i) + (((1) : Int32))) L ∧ (vp_in ((i) + (((2) : Int32))) L ∧ qh_W_failing (xs ((i) + (((1) : Int32))).toNatClampNeg) (xs ((i) + (((2) : Int32))).toNatClampNeg) (u) (o) (fun r1 z9 => (vp_in ((i) + (((1) : Int32))) L ∧ (vp_in ((i) + (((2) : Int32))) L ∧ q_M_failing (xs ((i) + (((1) : Int32))).toNatClampNeg) (xs ((i) + (((2) : Int32))).toNatClampNeg) (v) (fun r4 u5 => q_M_thrown (u5) (fun r6 u7 => (((r6) = (r1) → ((¬ (r1) = 0 → post (z9.1) (u7) (z9.2)) ∧ ((r1) = 0 → (((lg_cmp ((z9.2) (0 : Int32).toNatClampNeg) ((r4).toInt64)) = 0 → post (z9.1) (u7) (z9.2)) ∧ (¬ (lg_cmp ((z9.2) (0 : Int32).toNatClampNeg) ((r4).toInt64)) = 0 → False))))) ∧ (¬ (r6) = (r1) → False)))))))))
set_option maxRecDepth 100000 in
theorem w_law_5 {p : Program} {l : Launch} {e : Env} {s : State} {m : MethodId} {args : Array Value} {below : List Frame} {meth : Method} {c : Code} {Z : ZT} {ad bd : Nat → Nat} {oa b L : Nat} {xs : Nat → Int32} {Q : State → Prop} {cells slots : Nat} {post : CT → MT → (Nat → Int64) → Prop} {i : Int32} {u : CT} {v : MT} {o : Nat → Int64} {H : Heap} {locs : List Loc} {ls : Array Slot} (C : CX "CoderTablesLaw" b_W_law 8 (some .boolean) Z (fun q => s.heap.size ≤ q) p l s m args meth c) (hX : va_X b L xs s s.heap) (hbl : b < s.heap.size) (hcs : cells + 1 ≤ 1065 ∧ slots + 6 ≤ 14558) (hw : WD Z (fun q => s.heap.size ≤ q) s (cLw Z ad bd oa u v o) H locs) (hl : lv_has ls 8 [(0, .ref (b)), (1, .ref (ad 0)), (2, .ref (bd 0)), (3, .ref (oa)), (4, .int (i))]) (h : q_law_5 L xs i u v o post) (hpost : ∀ (u : CT) (v : MT) (o : Nat → Int64) (H : Heap) (locs : List Loc) (ls : Array Slot), post u v o → WD Z (fun q => s.heap.size ≤ q) s (cLw Z ad bd oa u v o) H locs → lv_has ls 8 [(0, .ref (b)), (1, .ref (ad 0)), (2, .ref (bd 0)), (3, .ref (oa)), (4, .int (i))] → W p l e room_1 s m args below meth c H locs (cells + 1) (slots + 6) Q (F0 m 1359 ls [])) : W p l e room_1 s m args below meth c H locs cells slots Q (F0 m 397 ls []) := by
  unfold q_law_5 at h
  refine lv_aload_n C.2.1 C.2.2.1 d_W_law_397 rfl (lv_at hl 1 rfl) ?_
  refine lv_aload_n C.2.1 C.2.2.1 d_W_law_398 rfl (lv_at hl 0 rfl) ?_
  refine lv_iload C.2.1 C.2.2.1 d_W_law_399 (lv_at hl 4 rfl) ?_
  refine lv_iconst (v := (1)) C.2.1 C.2.2.1 d_W_law_401 (by decide) ?_
  refine lv_iadd C.2.1 C.2.2.1 d_W_law_402 ?_
  obtain ⟨hi, h⟩ := h
  refine l_sld C hX hbl hw hi d_W_law_403 ?_
  refine lv_aload_n C.2.1 C.2.2.1 d_W_law_404 rfl (lv_at hl 0 rfl) ?_
  refine lv_iload C.2.1 C.2.2.1 d_W_law_405 (lv_at hl 4 rfl) ?_
  refine lv_iconst (v := (2)) C.2.1 C.2.2.1 d_W_law_407 (by decide) ?_
  refine lv_iadd C.2.1 C.2.2.1 d_W_law_408 ?_
  obtain ⟨hi, h⟩ := h
  refine l_sld C hX hbl hw hi d_W_law_409 ?_
  refine lv_aload_n C.2.1 C.2.2.1 d_W_law_410 rfl (lv_at hl 3 rfl) ?_
  refine kLH_99 C hw h hcs hl.1 (Nat.le_of_ble_eq_true rfl) d_W_law_411 (fun r1 u2 o3 H locs h hw => ?_)
  refine lv_istore (lv' := [(5, .int (r1)), (0, .ref (b)), (1, .ref (ad 0)), (2, .ref (bd 0)), (3, .ref (oa)), (4, .int (i))]) C.2.1 C.2.2.1 d_W_law_414 hl (by decide) rfl (fun ls hl => ?_)
  refine lv_aload_n C.2.1 C.2.2.1 d_W_law_416 rfl (lv_at hl 3 rfl) ?_
  refine lv_aload_n C.2.1 C.2.2.1 d_W_law_417 rfl (lv_at hl 1 rfl) ?_
  refine lv_iload C.2.1 C.2.2.1 d_W_law_418 (lv_at hl 5 rfl) ?_
  refine lv_iconst (v := (1)) C.2.1 C.2.2.1 d_W_law_420 (by decide) ?_
  refine lv_iadd C.2.1 C.2.2.1 d_W_law_421 ?_
  obtain ⟨hi, h⟩ := h
  refine l_sld C hX hbl hw hi d_W_law_422 ?_
  refine lv_aload_n C.2.1 C.2.2.1 d_W_law_423 rfl (lv_at hl 1 rfl) ?_
  refine lv_iload C.2.1 C.2.2.1 d_W_law_424 (lv_at hl 5 rfl) ?_
  refine lv_iconst (v := (2)) C.2.1 C.2.2.1 d_W_law_426 (by decide) ?_
  refine lv_iadd C.2.1 C.2.2.1 d_W_law_427 ?_
  obtain ⟨hi, h⟩ := h
  refine l_sld C hX hbl hw hi d_W_law_428 ?_
  refine kLV_101 C hw h hcs hl.1 (Nat.le_of_ble_eq_true rfl) d_W_law_429 (fun r4 u5 H locs h hw => ?_)
  refine lv_istore (lv' := [(6, .int (r4)), (5, .int (r1)), (0, .ref (b)), (1, .ref (ad 0)), (2, .ref (bd 0)), (3, .ref (oa)), (4, .int (i))]) C.2.1 C.2.2.1 d_W_law_432 hl (by decide) rfl (fun ls hl => ?_)
  refine lv_aload_n C.2.1 C.2.2.1 d_W_law_434 rfl (lv_at hl 4 rfl) ?_
  refine kLV_81 C hw h hcs hl.1 (Nat.le_of_ble_eq_true rfl) d_W_law_435 (fun r6 u7 H locs h hw => ?_)
  refine lv_iload C.2.1 C.2.2.1 d_W_law_438 (lv_at hl 1 rfl) ?_
  refine lv_icmp_eq (tgt := 445) C.2.1 C.2.2.1 d_W_law_440 (by decide) (fun c => ?_) (fun c => ?_)
  · have h := h.1 c
    refine lv_iload C.2.1 C.2.2.1 d_W_law_445 (lv_at hl 1 rfl) ?_
    refine lv_if_ne (tgt := 462) C.2.1 C.2.2.1 d_W_law_447 (by decide) (fun c => ?_) (fun c => ?_)
    · have h := h.1 c
      refine lv_goto (tgt := 1359) C.2.1 C.2.2.1 d_W_law_462 (by decide) ?_
      exact hpost _ _ _ _ _ _ h hw (lv_sub hl [2, 3, 4, 5, 6] rfl)
    · have h := h.2 c
      refine lv_aload_n C.2.1 C.2.2.1 d_W_law_450 rfl (lv_at hl 5 rfl) ?_
      refine lv_iconst (v := (0)) C.2.1 C.2.2.1 d_W_law_451 (by decide) ?_
      refine l_old C hw d_W_law_452 ?_
      refine lv_iload C.2.1 C.2.2.1 d_W_law_453 (lv_at hl 0 rfl) ?_
      refine lv_i2l C.2.1 C.2.2.1 d_W_law_455 rfl ?_
      refine W.lcmp C.2.1 C.2.2.1 d_W_law_456 ?_
      refine lv_if_eq (tgt := 462) C.2.1 C.2.2.1 d_W_law_457 (by decide) (fun c => ?_) (fun c => ?_)
      · have h := h.1 c
        refine lv_goto (tgt := 1359) C.2.1 C.2.2.1 d_W_law_462 (by decide) ?_
        exact hpost _ _ _ _ _ _ h hw (lv_sub hl [2, 3, 4, 5, 6] rfl)
      · have h := h.2 c
        refine lv_iconst (v := (0)) C.2.1 C.2.2.1 d_W_law_460 (by decide) ?_
        exact h.elim
  · have h := h.2 c
    refine lv_iconst (v := (0)) C.2.1 C.2.2.1 d_W_law_443 (by decide) ?_
    exact h.elim
def q_law_6 (L : Nat) (xs : Nat → Int32) (i : Int32) (u : CT) (v : MT) (o : Nat → Int64) (post : CT → MT → (Nat → Int64) → Prop) : Prop :=
  (vp_in ((i) + (((1) : Int32))) L ∧ (vp_in ((i) + (((2) : Int32))) L ∧ qh_W_least (xs ((i) + (((1) : Int32))).toNatClampNeg) (xs ((i) + (((2) : Int32))).toNatClampNeg) (u) (o) (fun r1 z9 => (vp_in ((i) + (((1) : Int32))) L ∧ (vp_in ((i) + (((2) : Int32))) L ∧ q_M_least (xs ((i) + (((1) : Int32))).toNatClampNeg) (xs ((i) + (((2) : Int32))).toNatClampNeg) (v) (fun r4 u5 => q_M_thrown (u5) (fun r6 u7 => (((r6) = (r1) → ((¬ (r1) = 0 → post (z9.1) (u7) (z9.2)) ∧ ((r1) = 0 → (((lg_cmp ((z9.2) (0 : Int32).toNatClampNeg) ((r4).toInt64)) = 0 → post (z9.1) (u7) (z9.2)) ∧ (¬ (lg_cmp ((z9.2) (0 : Int32).toNatClampNeg) ((r4).toInt64)) = 0 → False))))) ∧ (¬ (r6) = (r1) → False)))))))))
set_option maxRecDepth 100000 in
theorem w_law_6 {p : Program} {l : Launch} {e : Env} {s : State} {m : MethodId} {args : Array Value} {below : List Frame} {meth : Method} {c : Code} {Z : ZT} {ad bd : Nat → Nat} {oa b L : Nat} {xs : Nat → Int32} {Q : State → Prop} {cells slots : Nat} {post : CT → MT → (Nat → Int64) → Prop} {i : Int32} {u : CT} {v : MT} {o : Nat → Int64} {H : Heap} {locs : List Loc} {ls : Array Slot} (C : CX "CoderTablesLaw" b_W_law 8 (some .boolean) Z (fun q => s.heap.size ≤ q) p l s m args meth c) (hX : va_X b L xs s s.heap) (hbl : b < s.heap.size) (hcs : cells + 1 ≤ 1065 ∧ slots + 6 ≤ 14558) (hw : WD Z (fun q => s.heap.size ≤ q) s (cLw Z ad bd oa u v o) H locs) (hl : lv_has ls 8 [(0, .ref (b)), (1, .ref (ad 0)), (2, .ref (bd 0)), (3, .ref (oa)), (4, .int (i))]) (h : q_law_6 L xs i u v o post) (hpost : ∀ (u : CT) (v : MT) (o : Nat → Int64) (H : Heap) (locs : List Loc) (ls : Array Slot), post u v o → WD Z (fun q => s.heap.size ≤ q) s (cLw Z ad bd oa u v o) H locs → lv_has ls 8 [(0, .ref (b)), (1, .ref (ad 0)), (2, .ref (bd 0)), (3, .ref (oa)), (4, .int (i))] → W p l e room_1 s m args below meth c H locs (cells + 1) (slots + 6) Q (F0 m 1359 ls [])) : W p l e room_1 s m args below meth c H locs cells slots Q (F0 m 465 ls []) := by
  unfold q_law_6 at h
  refine lv_aload_n C.2.1 C.2.2.1 d_W_law_465 rfl (lv_at hl 1 rfl) ?_
  refine lv_aload_n C.2.1 C.2.2.1 d_W_law_466 rfl (lv_at hl 0 rfl) ?_
  refine lv_iload C.2.1 C.2.2.1 d_W_law_467 (lv_at hl 4 rfl) ?_
  refine lv_iconst (v := (1)) C.2.1 C.2.2.1 d_W_law_469 (by decide) ?_
  refine lv_iadd C.2.1 C.2.2.1 d_W_law_470 ?_
  obtain ⟨hi, h⟩ := h
  refine l_sld C hX hbl hw hi d_W_law_471 ?_
  refine lv_aload_n C.2.1 C.2.2.1 d_W_law_472 rfl (lv_at hl 0 rfl) ?_
  refine lv_iload C.2.1 C.2.2.1 d_W_law_473 (lv_at hl 4 rfl) ?_
  refine lv_iconst (v := (2)) C.2.1 C.2.2.1 d_W_law_475 (by decide) ?_
  refine lv_iadd C.2.1 C.2.2.1 d_W_law_476 ?_
  obtain ⟨hi, h⟩ := h
  refine l_sld C hX hbl hw hi d_W_law_477 ?_
  refine lv_aload_n C.2.1 C.2.2.1 d_W_law_478 rfl (lv_at hl 3 rfl) ?_
  refine kLH_102 C hw h hcs hl.1 (Nat.le_of_ble_eq_true rfl) d_W_law_479 (fun r1 u2 o3 H locs h hw => ?_)
  refine lv_istore (lv' := [(5, .int (r1)), (0, .ref (b)), (1, .ref (ad 0)), (2, .ref (bd 0)), (3, .ref (oa)), (4, .int (i))]) C.2.1 C.2.2.1 d_W_law_482 hl (by decide) rfl (fun ls hl => ?_)
  refine lv_aload_n C.2.1 C.2.2.1 d_W_law_484 rfl (lv_at hl 3 rfl) ?_
  refine lv_aload_n C.2.1 C.2.2.1 d_W_law_485 rfl (lv_at hl 1 rfl) ?_
  refine lv_iload C.2.1 C.2.2.1 d_W_law_486 (lv_at hl 5 rfl) ?_
  refine lv_iconst (v := (1)) C.2.1 C.2.2.1 d_W_law_488 (by decide) ?_
  refine lv_iadd C.2.1 C.2.2.1 d_W_law_489 ?_
  obtain ⟨hi, h⟩ := h
  refine l_sld C hX hbl hw hi d_W_law_490 ?_
  refine lv_aload_n C.2.1 C.2.2.1 d_W_law_491 rfl (lv_at hl 1 rfl) ?_
  refine lv_iload C.2.1 C.2.2.1 d_W_law_492 (lv_at hl 5 rfl) ?_
  refine lv_iconst (v := (2)) C.2.1 C.2.2.1 d_W_law_494 (by decide) ?_
  refine lv_iadd C.2.1 C.2.2.1 d_W_law_495 ?_
  obtain ⟨hi, h⟩ := h
  refine l_sld C hX hbl hw hi d_W_law_496 ?_
  refine kLV_104 C hw h hcs hl.1 (Nat.le_of_ble_eq_true rfl) d_W_law_497 (fun r4 u5 H locs h hw => ?_)
  refine lv_istore (lv' := [(6, .int (r4)), (5, .int (r1)), (0, .ref (b)), (1, .ref (ad 0)), (2, .ref (bd 0)), (3, .ref (oa)), (4, .int (i))]) C.2.1 C.2.2.1 d_W_law_500 hl (by decide) rfl (fun ls hl => ?_)
  refine lv_aload_n C.2.1 C.2.2.1 d_W_law_502 rfl (lv_at hl 4 rfl) ?_
  refine kLV_81 C hw h hcs hl.1 (Nat.le_of_ble_eq_true rfl) d_W_law_503 (fun r6 u7 H locs h hw => ?_)
  refine lv_iload C.2.1 C.2.2.1 d_W_law_506 (lv_at hl 1 rfl) ?_
  refine lv_icmp_eq (tgt := 513) C.2.1 C.2.2.1 d_W_law_508 (by decide) (fun c => ?_) (fun c => ?_)
  · have h := h.1 c
    refine lv_iload C.2.1 C.2.2.1 d_W_law_513 (lv_at hl 1 rfl) ?_
    refine lv_if_ne (tgt := 530) C.2.1 C.2.2.1 d_W_law_515 (by decide) (fun c => ?_) (fun c => ?_)
    · have h := h.1 c
      refine lv_goto (tgt := 1359) C.2.1 C.2.2.1 d_W_law_530 (by decide) ?_
      exact hpost _ _ _ _ _ _ h hw (lv_sub hl [2, 3, 4, 5, 6] rfl)
    · have h := h.2 c
      refine lv_aload_n C.2.1 C.2.2.1 d_W_law_518 rfl (lv_at hl 5 rfl) ?_
      refine lv_iconst (v := (0)) C.2.1 C.2.2.1 d_W_law_519 (by decide) ?_
      refine l_old C hw d_W_law_520 ?_
      refine lv_iload C.2.1 C.2.2.1 d_W_law_521 (lv_at hl 0 rfl) ?_
      refine lv_i2l C.2.1 C.2.2.1 d_W_law_523 rfl ?_
      refine W.lcmp C.2.1 C.2.2.1 d_W_law_524 ?_
      refine lv_if_eq (tgt := 530) C.2.1 C.2.2.1 d_W_law_525 (by decide) (fun c => ?_) (fun c => ?_)
      · have h := h.1 c
        refine lv_goto (tgt := 1359) C.2.1 C.2.2.1 d_W_law_530 (by decide) ?_
        exact hpost _ _ _ _ _ _ h hw (lv_sub hl [2, 3, 4, 5, 6] rfl)
      · have h := h.2 c
        refine lv_iconst (v := (0)) C.2.1 C.2.2.1 d_W_law_528 (by decide) ?_
        exact h.elim
  · have h := h.2 c
    refine lv_iconst (v := (0)) C.2.1 C.2.2.1 d_W_law_511 (by decide) ?_
    exact h.elim
def q_law_7 (L : Nat) (xs : Nat → Int32) (i : Int32) (u : CT) (v : MT) (o : Nat → Int64) (post : CT → MT → (Nat → Int64) → Prop) : Prop :=
  (vp_in ((i) + (((1) : Int32))) L ∧ qh_W_sum (xs ((i) + (((1) : Int32))).toNatClampNeg) (u) (o) (fun r1 z9 => (vp_in ((i) + (((1) : Int32))) L ∧ q_M_sum (xs ((i) + (((1) : Int32))).toNatClampNeg) (v) (fun r4 u5 => q_M_thrown (u5) (fun r6 u7 => (((r6) = (r1) → ((¬ (r1) = 0 → post (z9.1) (u7) (z9.2)) ∧ ((r1) = 0 → (((lg_cmp ((z9.2) (0 : Int32).toNatClampNeg) (r4)) = 0 → post (z9.1) (u7) (z9.2)) ∧ (¬ (lg_cmp ((z9.2) (0 : Int32).toNatClampNeg) (r4)) = 0 → False))))) ∧ (¬ (r6) = (r1) → False)))))))
set_option maxRecDepth 100000 in
theorem w_law_7 {p : Program} {l : Launch} {e : Env} {s : State} {m : MethodId} {args : Array Value} {below : List Frame} {meth : Method} {c : Code} {Z : ZT} {ad bd : Nat → Nat} {oa b L : Nat} {xs : Nat → Int32} {Q : State → Prop} {cells slots : Nat} {post : CT → MT → (Nat → Int64) → Prop} {i : Int32} {u : CT} {v : MT} {o : Nat → Int64} {H : Heap} {locs : List Loc} {ls : Array Slot} (C : CX "CoderTablesLaw" b_W_law 8 (some .boolean) Z (fun q => s.heap.size ≤ q) p l s m args meth c) (hX : va_X b L xs s s.heap) (hbl : b < s.heap.size) (hcs : cells + 1 ≤ 1065 ∧ slots + 6 ≤ 14558) (hw : WD Z (fun q => s.heap.size ≤ q) s (cLw Z ad bd oa u v o) H locs) (hl : lv_has ls 8 [(0, .ref (b)), (1, .ref (ad 0)), (2, .ref (bd 0)), (3, .ref (oa)), (4, .int (i))]) (h : q_law_7 L xs i u v o post) (hpost : ∀ (u : CT) (v : MT) (o : Nat → Int64) (H : Heap) (locs : List Loc) (ls : Array Slot), post u v o → WD Z (fun q => s.heap.size ≤ q) s (cLw Z ad bd oa u v o) H locs → lv_has ls 8 [(0, .ref (b)), (1, .ref (ad 0)), (2, .ref (bd 0)), (3, .ref (oa)), (4, .int (i))] → W p l e room_1 s m args below meth c H locs (cells + 1) (slots + 6) Q (F0 m 1359 ls [])) : W p l e room_1 s m args below meth c H locs cells slots Q (F0 m 533 ls []) := by
  unfold q_law_7 at h
  refine lv_aload_n C.2.1 C.2.2.1 d_W_law_533 rfl (lv_at hl 1 rfl) ?_
  refine lv_aload_n C.2.1 C.2.2.1 d_W_law_534 rfl (lv_at hl 0 rfl) ?_
  refine lv_iload C.2.1 C.2.2.1 d_W_law_535 (lv_at hl 4 rfl) ?_
  refine lv_iconst (v := (1)) C.2.1 C.2.2.1 d_W_law_537 (by decide) ?_
  refine lv_iadd C.2.1 C.2.2.1 d_W_law_538 ?_
  obtain ⟨hi, h⟩ := h
  refine l_sld C hX hbl hw hi d_W_law_539 ?_
  refine lv_aload_n C.2.1 C.2.2.1 d_W_law_540 rfl (lv_at hl 3 rfl) ?_
  refine kLH_105 C hw h hcs hl.1 (Nat.le_of_ble_eq_true rfl) d_W_law_541 (fun r1 u2 o3 H locs h hw => ?_)
  refine lv_istore (lv' := [(5, .int (r1)), (0, .ref (b)), (1, .ref (ad 0)), (2, .ref (bd 0)), (3, .ref (oa)), (4, .int (i))]) C.2.1 C.2.2.1 d_W_law_544 hl (by decide) rfl (fun ls hl => ?_)
  refine lv_aload_n C.2.1 C.2.2.1 d_W_law_546 rfl (lv_at hl 3 rfl) ?_
  refine lv_aload_n C.2.1 C.2.2.1 d_W_law_547 rfl (lv_at hl 1 rfl) ?_
  refine lv_iload C.2.1 C.2.2.1 d_W_law_548 (lv_at hl 5 rfl) ?_
  refine lv_iconst (v := (1)) C.2.1 C.2.2.1 d_W_law_550 (by decide) ?_
  refine lv_iadd C.2.1 C.2.2.1 d_W_law_551 ?_
  obtain ⟨hi, h⟩ := h
  refine l_sld C hX hbl hw hi d_W_law_552 ?_
  refine kLV_108 C hw h hcs hl.1 (Nat.le_of_ble_eq_true rfl) d_W_law_553 (fun r4 u5 H locs h hw => ?_)
  refine lv_lstore (lv' := [(6, .long (r4)), (5, .int (r1)), (0, .ref (b)), (1, .ref (ad 0)), (2, .ref (bd 0)), (3, .ref (oa)), (4, .int (i))]) C.2.1 C.2.2.1 d_W_law_556 hl (by decide) rfl (fun ls hl => ?_)
  refine lv_aload_n C.2.1 C.2.2.1 d_W_law_558 rfl (lv_at hl 4 rfl) ?_
  refine kLV_81 C hw h hcs hl.1 (Nat.le_of_ble_eq_true rfl) d_W_law_559 (fun r6 u7 H locs h hw => ?_)
  refine lv_iload C.2.1 C.2.2.1 d_W_law_562 (lv_at hl 1 rfl) ?_
  refine lv_icmp_eq (tgt := 569) C.2.1 C.2.2.1 d_W_law_564 (by decide) (fun c => ?_) (fun c => ?_)
  · have h := h.1 c
    refine lv_iload C.2.1 C.2.2.1 d_W_law_569 (lv_at hl 1 rfl) ?_
    refine lv_if_ne (tgt := 585) C.2.1 C.2.2.1 d_W_law_571 (by decide) (fun c => ?_) (fun c => ?_)
    · have h := h.1 c
      refine lv_goto (tgt := 1359) C.2.1 C.2.2.1 d_W_law_585 (by decide) ?_
      exact hpost _ _ _ _ _ _ h hw (lv_sub hl [2, 3, 4, 5, 6] rfl)
    · have h := h.2 c
      refine lv_aload_n C.2.1 C.2.2.1 d_W_law_574 rfl (lv_at hl 5 rfl) ?_
      refine lv_iconst (v := (0)) C.2.1 C.2.2.1 d_W_law_575 (by decide) ?_
      refine l_old C hw d_W_law_576 ?_
      refine lv_lload C.2.1 C.2.2.1 d_W_law_577 (lv_at hl 0 rfl) ?_
      refine W.lcmp C.2.1 C.2.2.1 d_W_law_579 ?_
      refine lv_if_eq (tgt := 585) C.2.1 C.2.2.1 d_W_law_580 (by decide) (fun c => ?_) (fun c => ?_)
      · have h := h.1 c
        refine lv_goto (tgt := 1359) C.2.1 C.2.2.1 d_W_law_585 (by decide) ?_
        exact hpost _ _ _ _ _ _ h hw (lv_sub hl [2, 3, 4, 5, 6] rfl)
      · have h := h.2 c
        refine lv_iconst (v := (0)) C.2.1 C.2.2.1 d_W_law_583 (by decide) ?_
        exact h.elim
  · have h := h.2 c
    refine lv_iconst (v := (0)) C.2.1 C.2.2.1 d_W_law_567 (by decide) ?_
    exact h.elim
def q_law_8 (L : Nat) (xs : Nat → Int32) (i : Int32) (u : CT) (v : MT) (o : Nat → Int64) (post : CT → MT → (Nat → Int64) → Prop) : Prop :=
  (vp_in ((i) + (((1) : Int32))) L ∧ (vp_in ((i) + (((2) : Int32))) L ∧ (((xs ((i) + (((2) : Int32))).toNatClampNeg) = 0 → qh_W_mean (xs ((i) + (((1) : Int32))).toNatClampNeg) (((0) : Int32)) (u) (o) (fun r1 z9 => (vp_in ((i) + (((1) : Int32))) L ∧ (vp_in ((i) + (((2) : Int32))) L ∧ (((xs ((i) + (((2) : Int32))).toNatClampNeg) = 0 → q_M_mean (xs ((i) + (((1) : Int32))).toNatClampNeg) (((0) : Int32)) (v) (fun r4 u5 => q_M_thrown (u5) (fun r6 u7 => (((r6) = (r1) → ((¬ (r1) = 0 → post (z9.1) (u7) (z9.2)) ∧ ((r1) = 0 → (((lg_cmp ((z9.2) (0 : Int32).toNatClampNeg) (r4)) = 0 → post (z9.1) (u7) (z9.2)) ∧ (¬ (lg_cmp ((z9.2) (0 : Int32).toNatClampNeg) (r4)) = 0 → False))))) ∧ (¬ (r6) = (r1) → False))))) ∧ (¬ (xs ((i) + (((2) : Int32))).toNatClampNeg) = 0 → q_M_mean (xs ((i) + (((1) : Int32))).toNatClampNeg) (((1) : Int32)) (v) (fun r8 u9 => q_M_thrown (u9) (fun r10 u11 => (((r10) = (r1) → ((¬ (r1) = 0 → post (z9.1) (u11) (z9.2)) ∧ ((r1) = 0 → (((lg_cmp ((z9.2) (0 : Int32).toNatClampNeg) (r8)) = 0 → post (z9.1) (u11) (z9.2)) ∧ (¬ (lg_cmp ((z9.2) (0 : Int32).toNatClampNeg) (r8)) = 0 → False))))) ∧ (¬ (r10) = (r1) → False)))))))))) ∧ (¬ (xs ((i) + (((2) : Int32))).toNatClampNeg) = 0 → qh_W_mean (xs ((i) + (((1) : Int32))).toNatClampNeg) (((1) : Int32)) (u) (o) (fun r12 z9 => (vp_in ((i) + (((1) : Int32))) L ∧ (vp_in ((i) + (((2) : Int32))) L ∧ (((xs ((i) + (((2) : Int32))).toNatClampNeg) = 0 → q_M_mean (xs ((i) + (((1) : Int32))).toNatClampNeg) (((0) : Int32)) (v) (fun r15 u16 => q_M_thrown (u16) (fun r17 u18 => (((r17) = (r12) → ((¬ (r12) = 0 → post (z9.1) (u18) (z9.2)) ∧ ((r12) = 0 → (((lg_cmp ((z9.2) (0 : Int32).toNatClampNeg) (r15)) = 0 → post (z9.1) (u18) (z9.2)) ∧ (¬ (lg_cmp ((z9.2) (0 : Int32).toNatClampNeg) (r15)) = 0 → False))))) ∧ (¬ (r17) = (r12) → False))))) ∧ (¬ (xs ((i) + (((2) : Int32))).toNatClampNeg) = 0 → q_M_mean (xs ((i) + (((1) : Int32))).toNatClampNeg) (((1) : Int32)) (v) (fun r19 u20 => q_M_thrown (u20) (fun r21 u22 => (((r21) = (r12) → ((¬ (r12) = 0 → post (z9.1) (u22) (z9.2)) ∧ ((r12) = 0 → (((lg_cmp ((z9.2) (0 : Int32).toNatClampNeg) (r19)) = 0 → post (z9.1) (u22) (z9.2)) ∧ (¬ (lg_cmp ((z9.2) (0 : Int32).toNatClampNeg) (r19)) = 0 → False))))) ∧ (¬ (r21) = (r12) → False)))))))))))))
set_option maxRecDepth 100000 in
theorem w_law_8 {p : Program} {l : Launch} {e : Env} {s : State} {m : MethodId} {args : Array Value} {below : List Frame} {meth : Method} {c : Code} {Z : ZT} {ad bd : Nat → Nat} {oa b L : Nat} {xs : Nat → Int32} {Q : State → Prop} {cells slots : Nat} {post : CT → MT → (Nat → Int64) → Prop} {i : Int32} {u : CT} {v : MT} {o : Nat → Int64} {H : Heap} {locs : List Loc} {ls : Array Slot} (C : CX "CoderTablesLaw" b_W_law 8 (some .boolean) Z (fun q => s.heap.size ≤ q) p l s m args meth c) (hX : va_X b L xs s s.heap) (hbl : b < s.heap.size) (hcs : cells + 1 ≤ 1065 ∧ slots + 6 ≤ 14558) (hw : WD Z (fun q => s.heap.size ≤ q) s (cLw Z ad bd oa u v o) H locs) (hl : lv_has ls 8 [(0, .ref (b)), (1, .ref (ad 0)), (2, .ref (bd 0)), (3, .ref (oa)), (4, .int (i))]) (h : q_law_8 L xs i u v o post) (hpost : ∀ (u : CT) (v : MT) (o : Nat → Int64) (H : Heap) (locs : List Loc) (ls : Array Slot), post u v o → WD Z (fun q => s.heap.size ≤ q) s (cLw Z ad bd oa u v o) H locs → lv_has ls 8 [(0, .ref (b)), (1, .ref (ad 0)), (2, .ref (bd 0)), (3, .ref (oa)), (4, .int (i))] → W p l e room_1 s m args below meth c H locs (cells + 1) (slots + 6) Q (F0 m 1359 ls [])) : W p l e room_1 s m args below meth c H locs cells slots Q (F0 m 588 ls []) := by
  unfold q_law_8 at h
  refine lv_aload_n C.2.1 C.2.2.1 d_W_law_588 rfl (lv_at hl 1 rfl) ?_
  refine lv_aload_n C.2.1 C.2.2.1 d_W_law_589 rfl (lv_at hl 0 rfl) ?_
  refine lv_iload C.2.1 C.2.2.1 d_W_law_590 (lv_at hl 4 rfl) ?_
  refine lv_iconst (v := (1)) C.2.1 C.2.2.1 d_W_law_592 (by decide) ?_
  refine lv_iadd C.2.1 C.2.2.1 d_W_law_593 ?_
  obtain ⟨hi, h⟩ := h
  refine l_sld C hX hbl hw hi d_W_law_594 ?_
  refine lv_aload_n C.2.1 C.2.2.1 d_W_law_595 rfl (lv_at hl 0 rfl) ?_
  refine lv_iload C.2.1 C.2.2.1 d_W_law_596 (lv_at hl 4 rfl) ?_
  refine lv_iconst (v := (2)) C.2.1 C.2.2.1 d_W_law_598 (by decide) ?_
  refine lv_iadd C.2.1 C.2.2.1 d_W_law_599 ?_
  obtain ⟨hi, h⟩ := h
  refine l_sld C hX hbl hw hi d_W_law_600 ?_
  refine lv_if_eq (tgt := 608) C.2.1 C.2.2.1 d_W_law_601 (by decide) (fun c => ?_) (fun c => ?_)
  · have h := h.1 c
    refine lv_iconst (v := (0)) C.2.1 C.2.2.1 d_W_law_608 (by decide) ?_
    refine lv_aload_n C.2.1 C.2.2.1 d_W_law_609 rfl (lv_at hl 3 rfl) ?_
    refine kLH_109 C hw h hcs hl.1 (Nat.le_of_ble_eq_true rfl) d_W_law_610 (fun r1 u2 o3 H locs h hw => ?_)
    refine lv_istore (lv' := [(5, .int (r1)), (0, .ref (b)), (1, .ref (ad 0)), (2, .ref (bd 0)), (3, .ref (oa)), (4, .int (i))]) C.2.1 C.2.2.1 d_W_law_613 hl (by decide) rfl (fun ls hl => ?_)
    refine lv_aload_n C.2.1 C.2.2.1 d_W_law_615 rfl (lv_at hl 3 rfl) ?_
    refine lv_aload_n C.2.1 C.2.2.1 d_W_law_616 rfl (lv_at hl 1 rfl) ?_
    refine lv_iload C.2.1 C.2.2.1 d_W_law_617 (lv_at hl 5 rfl) ?_
    refine lv_iconst (v := (1)) C.2.1 C.2.2.1 d_W_law_619 (by decide) ?_
    refine lv_iadd C.2.1 C.2.2.1 d_W_law_620 ?_
    obtain ⟨hi, h⟩ := h
    refine l_sld C hX hbl hw hi d_W_law_621 ?_
    refine lv_aload_n C.2.1 C.2.2.1 d_W_law_622 rfl (lv_at hl 1 rfl) ?_
    refine lv_iload C.2.1 C.2.2.1 d_W_law_623 (lv_at hl 5 rfl) ?_
    refine lv_iconst (v := (2)) C.2.1 C.2.2.1 d_W_law_625 (by decide) ?_
    refine lv_iadd C.2.1 C.2.2.1 d_W_law_626 ?_
    obtain ⟨hi, h⟩ := h
    refine l_sld C hX hbl hw hi d_W_law_627 ?_
    refine lv_if_eq (tgt := 635) C.2.1 C.2.2.1 d_W_law_628 (by decide) (fun c => ?_) (fun c => ?_)
    · have h := h.1 c
      refine lv_iconst (v := (0)) C.2.1 C.2.2.1 d_W_law_635 (by decide) ?_
      refine kLV_112 C hw h hcs hl.1 (Nat.le_of_ble_eq_true rfl) d_W_law_636 (fun r4 u5 H locs h hw => ?_)
      refine lv_lstore (lv' := [(6, .long (r4)), (5, .int (r1)), (0, .ref (b)), (1, .ref (ad 0)), (2, .ref (bd 0)), (3, .ref (oa)), (4, .int (i))]) C.2.1 C.2.2.1 d_W_law_639 hl (by decide) rfl (fun ls hl => ?_)
      refine lv_aload_n C.2.1 C.2.2.1 d_W_law_641 rfl (lv_at hl 4 rfl) ?_
      refine kLV_81 C hw h hcs hl.1 (Nat.le_of_ble_eq_true rfl) d_W_law_642 (fun r6 u7 H locs h hw => ?_)
      refine lv_iload C.2.1 C.2.2.1 d_W_law_645 (lv_at hl 1 rfl) ?_
      refine lv_icmp_eq (tgt := 652) C.2.1 C.2.2.1 d_W_law_647 (by decide) (fun c => ?_) (fun c => ?_)
      · have h := h.1 c
        refine lv_iload C.2.1 C.2.2.1 d_W_law_652 (lv_at hl 1 rfl) ?_
        refine lv_if_ne (tgt := 668) C.2.1 C.2.2.1 d_W_law_654 (by decide) (fun c => ?_) (fun c => ?_)
        · have h := h.1 c
          refine lv_goto (tgt := 1359) C.2.1 C.2.2.1 d_W_law_668 (by decide) ?_
          exact hpost _ _ _ _ _ _ h hw (lv_sub hl [2, 3, 4, 5, 6] rfl)
        · have h := h.2 c
          refine lv_aload_n C.2.1 C.2.2.1 d_W_law_657 rfl (lv_at hl 5 rfl) ?_
          refine lv_iconst (v := (0)) C.2.1 C.2.2.1 d_W_law_658 (by decide) ?_
          refine l_old C hw d_W_law_659 ?_
          refine lv_lload C.2.1 C.2.2.1 d_W_law_660 (lv_at hl 0 rfl) ?_
          refine W.lcmp C.2.1 C.2.2.1 d_W_law_662 ?_
          refine lv_if_eq (tgt := 668) C.2.1 C.2.2.1 d_W_law_663 (by decide) (fun c => ?_) (fun c => ?_)
          · have h := h.1 c
            refine lv_goto (tgt := 1359) C.2.1 C.2.2.1 d_W_law_668 (by decide) ?_
            exact hpost _ _ _ _ _ _ h hw (lv_sub hl [2, 3, 4, 5, 6] rfl)
          · have h := h.2 c
            refine lv_iconst (v := (0)) C.2.1 C.2.2.1 d_W_law_666 (by decide) ?_
            exact h.elim
      · have h := h.2 c
        refine lv_iconst (v := (0)) C.2.1 C.2.2.1 d_W_law_650 (by decide) ?_
        exact h.elim
    · have h := h.2 c
      refine lv_iconst (v := (1)) C.2.1 C.2.2.1 d_W_law_631 (by decide) ?_
      refine lv_goto (tgt := 636) C.2.1 C.2.2.1 d_W_law_632 (by decide) ?_
      refine kLV_112 C hw h hcs hl.1 (Nat.le_of_ble_eq_true rfl) d_W_law_636 (fun r8 u9 H locs h hw => ?_)
      refine lv_lstore (lv' := [(6, .long (r8)), (5, .int (r1)), (0, .ref (b)), (1, .ref (ad 0)), (2, .ref (bd 0)), (3, .ref (oa)), (4, .int (i))]) C.2.1 C.2.2.1 d_W_law_639 hl (by decide) rfl (fun ls hl => ?_)
      refine lv_aload_n C.2.1 C.2.2.1 d_W_law_641 rfl (lv_at hl 4 rfl) ?_
      refine kLV_81 C hw h hcs hl.1 (Nat.le_of_ble_eq_true rfl) d_W_law_642 (fun r10 u11 H locs h hw => ?_)
      refine lv_iload C.2.1 C.2.2.1 d_W_law_645 (lv_at hl 1 rfl) ?_
      refine lv_icmp_eq (tgt := 652) C.2.1 C.2.2.1 d_W_law_647 (by decide) (fun c => ?_) (fun c => ?_)
      · have h := h.1 c
        refine lv_iload C.2.1 C.2.2.1 d_W_law_652 (lv_at hl 1 rfl) ?_
        refine lv_if_ne (tgt := 668) C.2.1 C.2.2.1 d_W_law_654 (by decide) (fun c => ?_) (fun c => ?_)
        · have h := h.1 c
          refine lv_goto (tgt := 1359) C.2.1 C.2.2.1 d_W_law_668 (by decide) ?_
          exact hpost _ _ _ _ _ _ h hw (lv_sub hl [2, 3, 4, 5, 6] rfl)
        · have h := h.2 c
          refine lv_aload_n C.2.1 C.2.2.1 d_W_law_657 rfl (lv_at hl 5 rfl) ?_
          refine lv_iconst (v := (0)) C.2.1 C.2.2.1 d_W_law_658 (by decide) ?_
          refine l_old C hw d_W_law_659 ?_
          refine lv_lload C.2.1 C.2.2.1 d_W_law_660 (lv_at hl 0 rfl) ?_
          refine W.lcmp C.2.1 C.2.2.1 d_W_law_662 ?_
          refine lv_if_eq (tgt := 668) C.2.1 C.2.2.1 d_W_law_663 (by decide) (fun c => ?_) (fun c => ?_)
          · have h := h.1 c
            refine lv_goto (tgt := 1359) C.2.1 C.2.2.1 d_W_law_668 (by decide) ?_
            exact hpost _ _ _ _ _ _ h hw (lv_sub hl [2, 3, 4, 5, 6] rfl)
          · have h := h.2 c
            refine lv_iconst (v := (0)) C.2.1 C.2.2.1 d_W_law_666 (by decide) ?_
            exact h.elim
      · have h := h.2 c
        refine lv_iconst (v := (0)) C.2.1 C.2.2.1 d_W_law_650 (by decide) ?_
        exact h.elim
  · have h := h.2 c
    refine lv_iconst (v := (1)) C.2.1 C.2.2.1 d_W_law_604 (by decide) ?_
    refine lv_goto (tgt := 609) C.2.1 C.2.2.1 d_W_law_605 (by decide) ?_
    refine lv_aload_n C.2.1 C.2.2.1 d_W_law_609 rfl (lv_at hl 3 rfl) ?_
    refine kLH_109 C hw h hcs hl.1 (Nat.le_of_ble_eq_true rfl) d_W_law_610 (fun r12 u13 o14 H locs h hw => ?_)
    refine lv_istore (lv' := [(5, .int (r12)), (0, .ref (b)), (1, .ref (ad 0)), (2, .ref (bd 0)), (3, .ref (oa)), (4, .int (i))]) C.2.1 C.2.2.1 d_W_law_613 hl (by decide) rfl (fun ls hl => ?_)
    refine lv_aload_n C.2.1 C.2.2.1 d_W_law_615 rfl (lv_at hl 3 rfl) ?_
    refine lv_aload_n C.2.1 C.2.2.1 d_W_law_616 rfl (lv_at hl 1 rfl) ?_
    refine lv_iload C.2.1 C.2.2.1 d_W_law_617 (lv_at hl 5 rfl) ?_
    refine lv_iconst (v := (1)) C.2.1 C.2.2.1 d_W_law_619 (by decide) ?_
    refine lv_iadd C.2.1 C.2.2.1 d_W_law_620 ?_
    obtain ⟨hi, h⟩ := h
    refine l_sld C hX hbl hw hi d_W_law_621 ?_
    refine lv_aload_n C.2.1 C.2.2.1 d_W_law_622 rfl (lv_at hl 1 rfl) ?_
    refine lv_iload C.2.1 C.2.2.1 d_W_law_623 (lv_at hl 5 rfl) ?_
    refine lv_iconst (v := (2)) C.2.1 C.2.2.1 d_W_law_625 (by decide) ?_
    refine lv_iadd C.2.1 C.2.2.1 d_W_law_626 ?_
    obtain ⟨hi, h⟩ := h
    refine l_sld C hX hbl hw hi d_W_law_627 ?_
    refine lv_if_eq (tgt := 635) C.2.1 C.2.2.1 d_W_law_628 (by decide) (fun c => ?_) (fun c => ?_)
    · have h := h.1 c
      refine lv_iconst (v := (0)) C.2.1 C.2.2.1 d_W_law_635 (by decide) ?_
      refine kLV_112 C hw h hcs hl.1 (Nat.le_of_ble_eq_true rfl) d_W_law_636 (fun r15 u16 H locs h hw => ?_)
      refine lv_lstore (lv' := [(6, .long (r15)), (5, .int (r12)), (0, .ref (b)), (1, .ref (ad 0)), (2, .ref (bd 0)), (3, .ref (oa)), (4, .int (i))]) C.2.1 C.2.2.1 d_W_law_639 hl (by decide) rfl (fun ls hl => ?_)
      refine lv_aload_n C.2.1 C.2.2.1 d_W_law_641 rfl (lv_at hl 4 rfl) ?_
      refine kLV_81 C hw h hcs hl.1 (Nat.le_of_ble_eq_true rfl) d_W_law_642 (fun r17 u18 H locs h hw => ?_)
      refine lv_iload C.2.1 C.2.2.1 d_W_law_645 (lv_at hl 1 rfl) ?_
      refine lv_icmp_eq (tgt := 652) C.2.1 C.2.2.1 d_W_law_647 (by decide) (fun c => ?_) (fun c => ?_)
      · have h := h.1 c
        refine lv_iload C.2.1 C.2.2.1 d_W_law_652 (lv_at hl 1 rfl) ?_
        refine lv_if_ne (tgt := 668) C.2.1 C.2.2.1 d_W_law_654 (by decide) (fun c => ?_) (fun c => ?_)
        · have h := h.1 c
          refine lv_goto (tgt := 1359) C.2.1 C.2.2.1 d_W_law_668 (by decide) ?_
          exact hpost _ _ _ _ _ _ h hw (lv_sub hl [2, 3, 4, 5, 6] rfl)
        · have h := h.2 c
          refine lv_aload_n C.2.1 C.2.2.1 d_W_law_657 rfl (lv_at hl 5 rfl) ?_
          refine lv_iconst (v := (0)) C.2.1 C.2.2.1 d_W_law_658 (by decide) ?_
          refine l_old C hw d_W_law_659 ?_
          refine lv_lload C.2.1 C.2.2.1 d_W_law_660 (lv_at hl 0 rfl) ?_
          refine W.lcmp C.2.1 C.2.2.1 d_W_law_662 ?_
          refine lv_if_eq (tgt := 668) C.2.1 C.2.2.1 d_W_law_663 (by decide) (fun c => ?_) (fun c => ?_)
          · have h := h.1 c
            refine lv_goto (tgt := 1359) C.2.1 C.2.2.1 d_W_law_668 (by decide) ?_
            exact hpost _ _ _ _ _ _ h hw (lv_sub hl [2, 3, 4, 5, 6] rfl)
          · have h := h.2 c
            refine lv_iconst (v := (0)) C.2.1 C.2.2.1 d_W_law_666 (by decide) ?_
            exact h.elim
      · have h := h.2 c
        refine lv_iconst (v := (0)) C.2.1 C.2.2.1 d_W_law_650 (by decide) ?_
        exact h.elim
    · have h := h.2 c
      refine lv_iconst (v := (1)) C.2.1 C.2.2.1 d_W_law_631 (by decide) ?_
      refine lv_goto (tgt := 636) C.2.1 C.2.2.1 d_W_law_632 (by decide) ?_
      refine kLV_112 C hw h hcs hl.1 (Nat.le_of_ble_eq_true rfl) d_W_law_636 (fun r19 u20 H locs h hw => ?_)
      refine lv_lstore (lv' := [(6, .long (r19)), (5, .int (r12)), (0, .ref (b)), (1, .ref (ad 0)), (2, .ref (bd 0)), (3, .ref (oa)), (4, .int (i))]) C.2.1 C.2.2.1 d_W_law_639 hl (by decide) rfl (fun ls hl => ?_)
      refine lv_aload_n C.2.1 C.2.2.1 d_W_law_641 rfl (lv_at hl 4 rfl) ?_
      refine kLV_81 C hw h hcs hl.1 (Nat.le_of_ble_eq_true rfl) d_W_law_642 (fun r21 u22 H locs h hw => ?_)
      refine lv_iload C.2.1 C.2.2.1 d_W_law_645 (lv_at hl 1 rfl) ?_
      refine lv_icmp_eq (tgt := 652) C.2.1 C.2.2.1 d_W_law_647 (by decide) (fun c => ?_) (fun c => ?_)
      · have h := h.1 c
        refine lv_iload C.2.1 C.2.2.1 d_W_law_652 (lv_at hl 1 rfl) ?_
        refine lv_if_ne (tgt := 668) C.2.1 C.2.2.1 d_W_law_654 (by decide) (fun c => ?_) (fun c => ?_)
        · have h := h.1 c
          refine lv_goto (tgt := 1359) C.2.1 C.2.2.1 d_W_law_668 (by decide) ?_
          exact hpost _ _ _ _ _ _ h hw (lv_sub hl [2, 3, 4, 5, 6] rfl)
        · have h := h.2 c
          refine lv_aload_n C.2.1 C.2.2.1 d_W_law_657 rfl (lv_at hl 5 rfl) ?_
          refine lv_iconst (v := (0)) C.2.1 C.2.2.1 d_W_law_658 (by decide) ?_
          refine l_old C hw d_W_law_659 ?_
          refine lv_lload C.2.1 C.2.2.1 d_W_law_660 (lv_at hl 0 rfl) ?_
          refine W.lcmp C.2.1 C.2.2.1 d_W_law_662 ?_
          refine lv_if_eq (tgt := 668) C.2.1 C.2.2.1 d_W_law_663 (by decide) (fun c => ?_) (fun c => ?_)
          · have h := h.1 c
            refine lv_goto (tgt := 1359) C.2.1 C.2.2.1 d_W_law_668 (by decide) ?_
            exact hpost _ _ _ _ _ _ h hw (lv_sub hl [2, 3, 4, 5, 6] rfl)
          · have h := h.2 c
            refine lv_iconst (v := (0)) C.2.1 C.2.2.1 d_W_law_666 (by decide) ?_
            exact h.elim
      · have h := h.2 c
        refine lv_iconst (v := (0)) C.2.1 C.2.2.1 d_W_law_650 (by decide) ?_
        exact h.elim
def q_law_9 (L : Nat) (xs : Nat → Int32) (i : Int32) (u : CT) (v : MT) (o : Nat → Int64) (post : CT → MT → (Nat → Int64) → Prop) : Prop :=
  (vp_in ((i) + (((1) : Int32))) L ∧ qh_W_rank (xs ((i) + (((1) : Int32))).toNatClampNeg) (u) (o) (fun r1 z9 => (vp_in ((i) + (((1) : Int32))) L ∧ q_M_rank (xs ((i) + (((1) : Int32))).toNatClampNeg) (v) (fun r4 u5 => q_M_thrown (u5) (fun r6 u7 => (((r6) = (r1) → ((¬ (r1) = 0 → post (z9.1) (u7) (z9.2)) ∧ ((r1) = 0 → (((lg_cmp ((z9.2) (0 : Int32).toNatClampNeg) ((r4).toInt64)) = 0 → post (z9.1) (u7) (z9.2)) ∧ (¬ (lg_cmp ((z9.2) (0 : Int32).toNatClampNeg) ((r4).toInt64)) = 0 → False))))) ∧ (¬ (r6) = (r1) → False)))))))
set_option maxRecDepth 100000 in
theorem w_law_9 {p : Program} {l : Launch} {e : Env} {s : State} {m : MethodId} {args : Array Value} {below : List Frame} {meth : Method} {c : Code} {Z : ZT} {ad bd : Nat → Nat} {oa b L : Nat} {xs : Nat → Int32} {Q : State → Prop} {cells slots : Nat} {post : CT → MT → (Nat → Int64) → Prop} {i : Int32} {u : CT} {v : MT} {o : Nat → Int64} {H : Heap} {locs : List Loc} {ls : Array Slot} (C : CX "CoderTablesLaw" b_W_law 8 (some .boolean) Z (fun q => s.heap.size ≤ q) p l s m args meth c) (hX : va_X b L xs s s.heap) (hbl : b < s.heap.size) (hcs : cells + 1 ≤ 1065 ∧ slots + 6 ≤ 14558) (hw : WD Z (fun q => s.heap.size ≤ q) s (cLw Z ad bd oa u v o) H locs) (hl : lv_has ls 8 [(0, .ref (b)), (1, .ref (ad 0)), (2, .ref (bd 0)), (3, .ref (oa)), (4, .int (i))]) (h : q_law_9 L xs i u v o post) (hpost : ∀ (u : CT) (v : MT) (o : Nat → Int64) (H : Heap) (locs : List Loc) (ls : Array Slot), post u v o → WD Z (fun q => s.heap.size ≤ q) s (cLw Z ad bd oa u v o) H locs → lv_has ls 8 [(0, .ref (b)), (1, .ref (ad 0)), (2, .ref (bd 0)), (3, .ref (oa)), (4, .int (i))] → W p l e room_1 s m args below meth c H locs (cells + 1) (slots + 6) Q (F0 m 1359 ls [])) : W p l e room_1 s m args below meth c H locs cells slots Q (F0 m 671 ls []) := by
  unfold q_law_9 at h
  refine lv_aload_n C.2.1 C.2.2.1 d_W_law_671 rfl (lv_at hl 1 rfl) ?_
  refine lv_aload_n C.2.1 C.2.2.1 d_W_law_672 rfl (lv_at hl 0 rfl) ?_
  refine lv_iload C.2.1 C.2.2.1 d_W_law_673 (lv_at hl 4 rfl) ?_
  refine lv_iconst (v := (1)) C.2.1 C.2.2.1 d_W_law_675 (by decide) ?_
  refine lv_iadd C.2.1 C.2.2.1 d_W_law_676 ?_
  obtain ⟨hi, h⟩ := h
  refine l_sld C hX hbl hw hi d_W_law_677 ?_
  refine lv_aload_n C.2.1 C.2.2.1 d_W_law_678 rfl (lv_at hl 3 rfl) ?_
  refine kLH_113 C hw h hcs hl.1 (Nat.le_of_ble_eq_true rfl) d_W_law_679 (fun r1 u2 o3 H locs h hw => ?_)
  refine lv_istore (lv' := [(5, .int (r1)), (0, .ref (b)), (1, .ref (ad 0)), (2, .ref (bd 0)), (3, .ref (oa)), (4, .int (i))]) C.2.1 C.2.2.1 d_W_law_682 hl (by decide) rfl (fun ls hl => ?_)
  refine lv_aload_n C.2.1 C.2.2.1 d_W_law_684 rfl (lv_at hl 3 rfl) ?_
  refine lv_aload_n C.2.1 C.2.2.1 d_W_law_685 rfl (lv_at hl 1 rfl) ?_
  refine lv_iload C.2.1 C.2.2.1 d_W_law_686 (lv_at hl 5 rfl) ?_
  refine lv_iconst (v := (1)) C.2.1 C.2.2.1 d_W_law_688 (by decide) ?_
  refine lv_iadd C.2.1 C.2.2.1 d_W_law_689 ?_
  obtain ⟨hi, h⟩ := h
  refine l_sld C hX hbl hw hi d_W_law_690 ?_
  refine kLV_115 C hw h hcs hl.1 (Nat.le_of_ble_eq_true rfl) d_W_law_691 (fun r4 u5 H locs h hw => ?_)
  refine lv_istore (lv' := [(6, .int (r4)), (5, .int (r1)), (0, .ref (b)), (1, .ref (ad 0)), (2, .ref (bd 0)), (3, .ref (oa)), (4, .int (i))]) C.2.1 C.2.2.1 d_W_law_694 hl (by decide) rfl (fun ls hl => ?_)
  refine lv_aload_n C.2.1 C.2.2.1 d_W_law_696 rfl (lv_at hl 4 rfl) ?_
  refine kLV_81 C hw h hcs hl.1 (Nat.le_of_ble_eq_true rfl) d_W_law_697 (fun r6 u7 H locs h hw => ?_)
  refine lv_iload C.2.1 C.2.2.1 d_W_law_700 (lv_at hl 1 rfl) ?_
  refine lv_icmp_eq (tgt := 707) C.2.1 C.2.2.1 d_W_law_702 (by decide) (fun c => ?_) (fun c => ?_)
  · have h := h.1 c
    refine lv_iload C.2.1 C.2.2.1 d_W_law_707 (lv_at hl 1 rfl) ?_
    refine lv_if_ne (tgt := 724) C.2.1 C.2.2.1 d_W_law_709 (by decide) (fun c => ?_) (fun c => ?_)
    · have h := h.1 c
      refine lv_goto (tgt := 1359) C.2.1 C.2.2.1 d_W_law_724 (by decide) ?_
      exact hpost _ _ _ _ _ _ h hw (lv_sub hl [2, 3, 4, 5, 6] rfl)
    · have h := h.2 c
      refine lv_aload_n C.2.1 C.2.2.1 d_W_law_712 rfl (lv_at hl 5 rfl) ?_
      refine lv_iconst (v := (0)) C.2.1 C.2.2.1 d_W_law_713 (by decide) ?_
      refine l_old C hw d_W_law_714 ?_
      refine lv_iload C.2.1 C.2.2.1 d_W_law_715 (lv_at hl 0 rfl) ?_
      refine lv_i2l C.2.1 C.2.2.1 d_W_law_717 rfl ?_
      refine W.lcmp C.2.1 C.2.2.1 d_W_law_718 ?_
      refine lv_if_eq (tgt := 724) C.2.1 C.2.2.1 d_W_law_719 (by decide) (fun c => ?_) (fun c => ?_)
      · have h := h.1 c
        refine lv_goto (tgt := 1359) C.2.1 C.2.2.1 d_W_law_724 (by decide) ?_
        exact hpost _ _ _ _ _ _ h hw (lv_sub hl [2, 3, 4, 5, 6] rfl)
      · have h := h.2 c
        refine lv_iconst (v := (0)) C.2.1 C.2.2.1 d_W_law_722 (by decide) ?_
        exact h.elim
  · have h := h.2 c
    refine lv_iconst (v := (0)) C.2.1 C.2.2.1 d_W_law_705 (by decide) ?_
    exact h.elim
def q_law_10 (L : Nat) (xs : Nat → Int32) (i : Int32) (u : CT) (v : MT) (o : Nat → Int64) (post : CT → MT → (Nat → Int64) → Prop) : Prop :=
  (vp_in ((i) + (((1) : Int32))) L ∧ (vp_in ((i) + (((2) : Int32))) L ∧ qh_W_hull (xs ((i) + (((1) : Int32))).toNatClampNeg) (xs ((i) + (((2) : Int32))).toNatClampNeg) (u) (o) (fun r1 z9 => (vp_in ((i) + (((1) : Int32))) L ∧ (vp_in ((i) + (((2) : Int32))) L ∧ q_M_hull (xs ((i) + (((1) : Int32))).toNatClampNeg) (xs ((i) + (((2) : Int32))).toNatClampNeg) (v) (fun r4 u5 => q_M_thrown (u5) (fun r6 u7 => (((r6) = (r1) → ((¬ (r1) = 0 → post (z9.1) (u7) (z9.2)) ∧ ((r1) = 0 → (((lg_cmp ((z9.2) (0 : Int32).toNatClampNeg) ((r4).toInt64)) = 0 → post (z9.1) (u7) (z9.2)) ∧ (¬ (lg_cmp ((z9.2) (0 : Int32).toNatClampNeg) ((r4).toInt64)) = 0 → False))))) ∧ (¬ (r6) = (r1) → False)))))))))
set_option maxRecDepth 100000 in
theorem w_law_10 {p : Program} {l : Launch} {e : Env} {s : State} {m : MethodId} {args : Array Value} {below : List Frame} {meth : Method} {c : Code} {Z : ZT} {ad bd : Nat → Nat} {oa b L : Nat} {xs : Nat → Int32} {Q : State → Prop} {cells slots : Nat} {post : CT → MT → (Nat → Int64) → Prop} {i : Int32} {u : CT} {v : MT} {o : Nat → Int64} {H : Heap} {locs : List Loc} {ls : Array Slot} (C : CX "CoderTablesLaw" b_W_law 8 (some .boolean) Z (fun q => s.heap.size ≤ q) p l s m args meth c) (hX : va_X b L xs s s.heap) (hbl : b < s.heap.size) (hcs : cells + 1 ≤ 1065 ∧ slots + 6 ≤ 14558) (hw : WD Z (fun q => s.heap.size ≤ q) s (cLw Z ad bd oa u v o) H locs) (hl : lv_has ls 8 [(0, .ref (b)), (1, .ref (ad 0)), (2, .ref (bd 0)), (3, .ref (oa)), (4, .int (i))]) (h : q_law_10 L xs i u v o post) (hpost : ∀ (u : CT) (v : MT) (o : Nat → Int64) (H : Heap) (locs : List Loc) (ls : Array Slot), post u v o → WD Z (fun q => s.heap.size ≤ q) s (cLw Z ad bd oa u v o) H locs → lv_has ls 8 [(0, .ref (b)), (1, .ref (ad 0)), (2, .ref (bd 0)), (3, .ref (oa)), (4, .int (i))] → W p l e room_1 s m args below meth c H locs (cells + 1) (slots + 6) Q (F0 m 1359 ls [])) : W p l e room_1 s m args below meth c H locs cells slots Q (F0 m 727 ls []) := by
  unfold q_law_10 at h
  refine lv_aload_n C.2.1 C.2.2.1 d_W_law_727 rfl (lv_at hl 1 rfl) ?_
  refine lv_aload_n C.2.1 C.2.2.1 d_W_law_728 rfl (lv_at hl 0 rfl) ?_
  refine lv_iload C.2.1 C.2.2.1 d_W_law_729 (lv_at hl 4 rfl) ?_
  refine lv_iconst (v := (1)) C.2.1 C.2.2.1 d_W_law_731 (by decide) ?_
  refine lv_iadd C.2.1 C.2.2.1 d_W_law_732 ?_
  obtain ⟨hi, h⟩ := h
  refine l_sld C hX hbl hw hi d_W_law_733 ?_
  refine lv_aload_n C.2.1 C.2.2.1 d_W_law_734 rfl (lv_at hl 0 rfl) ?_
  refine lv_iload C.2.1 C.2.2.1 d_W_law_735 (lv_at hl 4 rfl) ?_
  refine lv_iconst (v := (2)) C.2.1 C.2.2.1 d_W_law_737 (by decide) ?_
  refine lv_iadd C.2.1 C.2.2.1 d_W_law_738 ?_
  obtain ⟨hi, h⟩ := h
  refine l_sld C hX hbl hw hi d_W_law_739 ?_
  refine lv_aload_n C.2.1 C.2.2.1 d_W_law_740 rfl (lv_at hl 3 rfl) ?_
  refine kLH_116 C hw h hcs hl.1 (Nat.le_of_ble_eq_true rfl) d_W_law_741 (fun r1 u2 o3 H locs h hw => ?_)
  refine lv_istore (lv' := [(5, .int (r1)), (0, .ref (b)), (1, .ref (ad 0)), (2, .ref (bd 0)), (3, .ref (oa)), (4, .int (i))]) C.2.1 C.2.2.1 d_W_law_744 hl (by decide) rfl (fun ls hl => ?_)
  refine lv_aload_n C.2.1 C.2.2.1 d_W_law_746 rfl (lv_at hl 3 rfl) ?_
  refine lv_aload_n C.2.1 C.2.2.1 d_W_law_747 rfl (lv_at hl 1 rfl) ?_
  refine lv_iload C.2.1 C.2.2.1 d_W_law_748 (lv_at hl 5 rfl) ?_
  refine lv_iconst (v := (1)) C.2.1 C.2.2.1 d_W_law_750 (by decide) ?_
  refine lv_iadd C.2.1 C.2.2.1 d_W_law_751 ?_
  obtain ⟨hi, h⟩ := h
  refine l_sld C hX hbl hw hi d_W_law_752 ?_
  refine lv_aload_n C.2.1 C.2.2.1 d_W_law_753 rfl (lv_at hl 1 rfl) ?_
  refine lv_iload C.2.1 C.2.2.1 d_W_law_754 (lv_at hl 5 rfl) ?_
  refine lv_iconst (v := (2)) C.2.1 C.2.2.1 d_W_law_756 (by decide) ?_
  refine lv_iadd C.2.1 C.2.2.1 d_W_law_757 ?_
  obtain ⟨hi, h⟩ := h
  refine l_sld C hX hbl hw hi d_W_law_758 ?_
  refine kLV_118 C hw h hcs hl.1 (Nat.le_of_ble_eq_true rfl) d_W_law_759 (fun r4 u5 H locs h hw => ?_)
  refine lv_istore (lv' := [(6, .int (r4)), (5, .int (r1)), (0, .ref (b)), (1, .ref (ad 0)), (2, .ref (bd 0)), (3, .ref (oa)), (4, .int (i))]) C.2.1 C.2.2.1 d_W_law_762 hl (by decide) rfl (fun ls hl => ?_)
  refine lv_aload_n C.2.1 C.2.2.1 d_W_law_764 rfl (lv_at hl 4 rfl) ?_
  refine kLV_81 C hw h hcs hl.1 (Nat.le_of_ble_eq_true rfl) d_W_law_765 (fun r6 u7 H locs h hw => ?_)
  refine lv_iload C.2.1 C.2.2.1 d_W_law_768 (lv_at hl 1 rfl) ?_
  refine lv_icmp_eq (tgt := 775) C.2.1 C.2.2.1 d_W_law_770 (by decide) (fun c => ?_) (fun c => ?_)
  · have h := h.1 c
    refine lv_iload C.2.1 C.2.2.1 d_W_law_775 (lv_at hl 1 rfl) ?_
    refine lv_if_ne (tgt := 792) C.2.1 C.2.2.1 d_W_law_777 (by decide) (fun c => ?_) (fun c => ?_)
    · have h := h.1 c
      refine lv_goto (tgt := 1359) C.2.1 C.2.2.1 d_W_law_792 (by decide) ?_
      exact hpost _ _ _ _ _ _ h hw (lv_sub hl [2, 3, 4, 5, 6] rfl)
    · have h := h.2 c
      refine lv_aload_n C.2.1 C.2.2.1 d_W_law_780 rfl (lv_at hl 5 rfl) ?_
      refine lv_iconst (v := (0)) C.2.1 C.2.2.1 d_W_law_781 (by decide) ?_
      refine l_old C hw d_W_law_782 ?_
      refine lv_iload C.2.1 C.2.2.1 d_W_law_783 (lv_at hl 0 rfl) ?_
      refine lv_i2l C.2.1 C.2.2.1 d_W_law_785 rfl ?_
      refine W.lcmp C.2.1 C.2.2.1 d_W_law_786 ?_
      refine lv_if_eq (tgt := 792) C.2.1 C.2.2.1 d_W_law_787 (by decide) (fun c => ?_) (fun c => ?_)
      · have h := h.1 c
        refine lv_goto (tgt := 1359) C.2.1 C.2.2.1 d_W_law_792 (by decide) ?_
        exact hpost _ _ _ _ _ _ h hw (lv_sub hl [2, 3, 4, 5, 6] rfl)
      · have h := h.2 c
        refine lv_iconst (v := (0)) C.2.1 C.2.2.1 d_W_law_790 (by decide) ?_
        exact h.elim
  · have h := h.2 c
    refine lv_iconst (v := (0)) C.2.1 C.2.2.1 d_W_law_773 (by decide) ?_
    exact h.elim
def q_law_11 (L : Nat) (xs : Nat → Int32) (i : Int32) (u : CT) (v : MT) (o : Nat → Int64) (post : CT → MT → (Nat → Int64) → Prop) : Prop :=
  (vp_in ((i) + (((1) : Int32))) L ∧ (vp_in ((i) + (((2) : Int32))) L ∧ (vp_in ((i) + (((3) : Int32))) L ∧ (vp_in ((i) + (((4) : Int32))) L ∧ qh_W_onHull (xs ((i) + (((1) : Int32))).toNatClampNeg) (xs ((i) + (((2) : Int32))).toNatClampNeg) (xs ((i) + (((3) : Int32))).toNatClampNeg) (xs ((i) + (((4) : Int32))).toNatClampNeg) (u) (o) (fun r1 z9 => (vp_in ((i) + (((1) : Int32))) L ∧ (vp_in ((i) + (((2) : Int32))) L ∧ (vp_in ((i) + (((3) : Int32))) L ∧ (vp_in ((i) + (((4) : Int32))) L ∧ q_M_onHull (xs ((i) + (((1) : Int32))).toNatClampNeg) (xs ((i) + (((2) : Int32))).toNatClampNeg) (xs ((i) + (((3) : Int32))).toNatClampNeg) (xs ((i) + (((4) : Int32))).toNatClampNeg) (v) (fun r4 u5 => q_M_thrown (u5) (fun r6 u7 => (((r6) = (r1) → ((¬ (r1) = 0 → post (z9.1) (u7) (z9.2)) ∧ ((r1) = 0 → (((lg_cmp ((z9.2) (0 : Int32).toNatClampNeg) ((r4).toInt64)) = 0 → post (z9.1) (u7) (z9.2)) ∧ (¬ (lg_cmp ((z9.2) (0 : Int32).toNatClampNeg) ((r4).toInt64)) = 0 → False))))) ∧ (¬ (r6) = (r1) → False)))))))))))))
set_option maxRecDepth 100000 in
theorem w_law_11 {p : Program} {l : Launch} {e : Env} {s : State} {m : MethodId} {args : Array Value} {below : List Frame} {meth : Method} {c : Code} {Z : ZT} {ad bd : Nat → Nat} {oa b L : Nat} {xs : Nat → Int32} {Q : State → Prop} {cells slots : Nat} {post : CT → MT → (Nat → Int64) → Prop} {i : Int32} {u : CT} {v : MT} {o : Nat → Int64} {H : Heap} {locs : List Loc} {ls : Array Slot} (C : CX "CoderTablesLaw" b_W_law 8 (some .boolean) Z (fun q => s.heap.size ≤ q) p l s m args meth c) (hX : va_X b L xs s s.heap) (hbl : b < s.heap.size) (hcs : cells + 1 ≤ 1065 ∧ slots + 6 ≤ 14558) (hw : WD Z (fun q => s.heap.size ≤ q) s (cLw Z ad bd oa u v o) H locs) (hl : lv_has ls 8 [(0, .ref (b)), (1, .ref (ad 0)), (2, .ref (bd 0)), (3, .ref (oa)), (4, .int (i))]) (h : q_law_11 L xs i u v o post) (hpost : ∀ (u : CT) (v : MT) (o : Nat → Int64) (H : Heap) (locs : List Loc) (ls : Array Slot), post u v o → WD Z (fun q => s.heap.size ≤ q) s (cLw Z ad bd oa u v o) H locs → lv_has ls 8 [(0, .ref (b)), (1, .ref (ad 0)), (2, .ref (bd 0)), (3, .ref (oa)), (4, .int (i))] → W p l e room_1 s m args below meth c H locs (cells + 1) (slots + 6) Q (F0 m 1359 ls [])) : W p l e room_1 s m args below meth c H locs cells slots Q (F0 m 795 ls []) := by
  unfold q_law_11 at h
  refine lv_aload_n C.2.1 C.2.2.1 d_W_law_795 rfl (lv_at hl 1 rfl) ?_
  refine lv_aload_n C.2.1 C.2.2.1 d_W_law_796 rfl (lv_at hl 0 rfl) ?_
  refine lv_iload C.2.1 C.2.2.1 d_W_law_797 (lv_at hl 4 rfl) ?_
  refine lv_iconst (v := (1)) C.2.1 C.2.2.1 d_W_law_799 (by decide) ?_
  refine lv_iadd C.2.1 C.2.2.1 d_W_law_800 ?_
  obtain ⟨hi, h⟩ := h
  refine l_sld C hX hbl hw hi d_W_law_801 ?_
  refine lv_aload_n C.2.1 C.2.2.1 d_W_law_802 rfl (lv_at hl 0 rfl) ?_
  refine lv_iload C.2.1 C.2.2.1 d_W_law_803 (lv_at hl 4 rfl) ?_
  refine lv_iconst (v := (2)) C.2.1 C.2.2.1 d_W_law_805 (by decide) ?_
  refine lv_iadd C.2.1 C.2.2.1 d_W_law_806 ?_
  obtain ⟨hi, h⟩ := h
  refine l_sld C hX hbl hw hi d_W_law_807 ?_
  refine lv_aload_n C.2.1 C.2.2.1 d_W_law_808 rfl (lv_at hl 0 rfl) ?_
  refine lv_iload C.2.1 C.2.2.1 d_W_law_809 (lv_at hl 4 rfl) ?_
  refine lv_iconst (v := (3)) C.2.1 C.2.2.1 d_W_law_811 (by decide) ?_
  refine lv_iadd C.2.1 C.2.2.1 d_W_law_812 ?_
  obtain ⟨hi, h⟩ := h
  refine l_sld C hX hbl hw hi d_W_law_813 ?_
  refine lv_aload_n C.2.1 C.2.2.1 d_W_law_814 rfl (lv_at hl 0 rfl) ?_
  refine lv_iload C.2.1 C.2.2.1 d_W_law_815 (lv_at hl 4 rfl) ?_
  refine lv_iconst (v := (4)) C.2.1 C.2.2.1 d_W_law_817 (by decide) ?_
  refine lv_iadd C.2.1 C.2.2.1 d_W_law_818 ?_
  obtain ⟨hi, h⟩ := h
  refine l_sld C hX hbl hw hi d_W_law_819 ?_
  refine lv_aload_n C.2.1 C.2.2.1 d_W_law_820 rfl (lv_at hl 3 rfl) ?_
  refine kLH_119 C hw h hcs hl.1 (Nat.le_of_ble_eq_true rfl) d_W_law_821 (fun r1 u2 o3 H locs h hw => ?_)
  refine lv_istore (lv' := [(5, .int (r1)), (0, .ref (b)), (1, .ref (ad 0)), (2, .ref (bd 0)), (3, .ref (oa)), (4, .int (i))]) C.2.1 C.2.2.1 d_W_law_824 hl (by decide) rfl (fun ls hl => ?_)
  refine lv_aload_n C.2.1 C.2.2.1 d_W_law_826 rfl (lv_at hl 3 rfl) ?_
  refine lv_aload_n C.2.1 C.2.2.1 d_W_law_827 rfl (lv_at hl 1 rfl) ?_
  refine lv_iload C.2.1 C.2.2.1 d_W_law_828 (lv_at hl 5 rfl) ?_
  refine lv_iconst (v := (1)) C.2.1 C.2.2.1 d_W_law_830 (by decide) ?_
  refine lv_iadd C.2.1 C.2.2.1 d_W_law_831 ?_
  obtain ⟨hi, h⟩ := h
  refine l_sld C hX hbl hw hi d_W_law_832 ?_
  refine lv_aload_n C.2.1 C.2.2.1 d_W_law_833 rfl (lv_at hl 1 rfl) ?_
  refine lv_iload C.2.1 C.2.2.1 d_W_law_834 (lv_at hl 5 rfl) ?_
  refine lv_iconst (v := (2)) C.2.1 C.2.2.1 d_W_law_836 (by decide) ?_
  refine lv_iadd C.2.1 C.2.2.1 d_W_law_837 ?_
  obtain ⟨hi, h⟩ := h
  refine l_sld C hX hbl hw hi d_W_law_838 ?_
  refine lv_aload_n C.2.1 C.2.2.1 d_W_law_839 rfl (lv_at hl 1 rfl) ?_
  refine lv_iload C.2.1 C.2.2.1 d_W_law_840 (lv_at hl 5 rfl) ?_
  refine lv_iconst (v := (3)) C.2.1 C.2.2.1 d_W_law_842 (by decide) ?_
  refine lv_iadd C.2.1 C.2.2.1 d_W_law_843 ?_
  obtain ⟨hi, h⟩ := h
  refine l_sld C hX hbl hw hi d_W_law_844 ?_
  refine lv_aload_n C.2.1 C.2.2.1 d_W_law_845 rfl (lv_at hl 1 rfl) ?_
  refine lv_iload C.2.1 C.2.2.1 d_W_law_846 (lv_at hl 5 rfl) ?_
  refine lv_iconst (v := (4)) C.2.1 C.2.2.1 d_W_law_848 (by decide) ?_
  refine lv_iadd C.2.1 C.2.2.1 d_W_law_849 ?_
  obtain ⟨hi, h⟩ := h
  refine l_sld C hX hbl hw hi d_W_law_850 ?_
  refine kLV_121 C hw h hcs hl.1 (Nat.le_of_ble_eq_true rfl) d_W_law_851 (fun r4 u5 H locs h hw => ?_)
  refine lv_istore (lv' := [(6, .int (r4)), (5, .int (r1)), (0, .ref (b)), (1, .ref (ad 0)), (2, .ref (bd 0)), (3, .ref (oa)), (4, .int (i))]) C.2.1 C.2.2.1 d_W_law_854 hl (by decide) rfl (fun ls hl => ?_)
  refine lv_aload_n C.2.1 C.2.2.1 d_W_law_856 rfl (lv_at hl 4 rfl) ?_
  refine kLV_81 C hw h hcs hl.1 (Nat.le_of_ble_eq_true rfl) d_W_law_857 (fun r6 u7 H locs h hw => ?_)
  refine lv_iload C.2.1 C.2.2.1 d_W_law_860 (lv_at hl 1 rfl) ?_
  refine lv_icmp_eq (tgt := 867) C.2.1 C.2.2.1 d_W_law_862 (by decide) (fun c => ?_) (fun c => ?_)
  · have h := h.1 c
    refine lv_iload C.2.1 C.2.2.1 d_W_law_867 (lv_at hl 1 rfl) ?_
    refine lv_if_ne (tgt := 884) C.2.1 C.2.2.1 d_W_law_869 (by decide) (fun c => ?_) (fun c => ?_)
    · have h := h.1 c
      refine lv_goto (tgt := 1359) C.2.1 C.2.2.1 d_W_law_884 (by decide) ?_
      exact hpost _ _ _ _ _ _ h hw (lv_sub hl [2, 3, 4, 5, 6] rfl)
    · have h := h.2 c
      refine lv_aload_n C.2.1 C.2.2.1 d_W_law_872 rfl (lv_at hl 5 rfl) ?_
      refine lv_iconst (v := (0)) C.2.1 C.2.2.1 d_W_law_873 (by decide) ?_
      refine l_old C hw d_W_law_874 ?_
      refine lv_iload C.2.1 C.2.2.1 d_W_law_875 (lv_at hl 0 rfl) ?_
      refine lv_i2l C.2.1 C.2.2.1 d_W_law_877 rfl ?_
      refine W.lcmp C.2.1 C.2.2.1 d_W_law_878 ?_
      refine lv_if_eq (tgt := 884) C.2.1 C.2.2.1 d_W_law_879 (by decide) (fun c => ?_) (fun c => ?_)
      · have h := h.1 c
        refine lv_goto (tgt := 1359) C.2.1 C.2.2.1 d_W_law_884 (by decide) ?_
        exact hpost _ _ _ _ _ _ h hw (lv_sub hl [2, 3, 4, 5, 6] rfl)
      · have h := h.2 c
        refine lv_iconst (v := (0)) C.2.1 C.2.2.1 d_W_law_882 (by decide) ?_
        exact h.elim
  · have h := h.2 c
    refine lv_iconst (v := (0)) C.2.1 C.2.2.1 d_W_law_865 (by decide) ?_
    exact h.elim
def q_law_12 (L : Nat) (xs : Nat → Int32) (i : Int32) (u : CT) (v : MT) (o : Nat → Int64) (post : CT → MT → (Nat → Int64) → Prop) : Prop :=
  (vp_in ((i) + (((1) : Int32))) L ∧ (vp_in ((i) + (((2) : Int32))) L ∧ (vp_in ((i) + (((3) : Int32))) L ∧ (vp_in ((i) + (((4) : Int32))) L ∧ (((xs ((i) + (((4) : Int32))).toNatClampNeg) = 0 → qh_W_slope (xs ((i) + (((1) : Int32))).toNatClampNeg) (xs ((i) + (((2) : Int32))).toNatClampNeg) (xs ((i) + (((3) : Int32))).toNatClampNeg) (((0) : Int32)) (u) (o) (fun r1 z9 => (vp_in ((i) + (((1) : Int32))) L ∧ (vp_in ((i) + (((2) : Int32))) L ∧ (vp_in ((i) + (((3) : Int32))) L ∧ (vp_in ((i) + (((4) : Int32))) L ∧ (((xs ((i) + (((4) : Int32))).toNatClampNeg) = 0 → q_M_slope (xs ((i) + (((1) : Int32))).toNatClampNeg) (xs ((i) + (((2) : Int32))).toNatClampNeg) (xs ((i) + (((3) : Int32))).toNatClampNeg) (((0) : Int32)) (v) (fun r4 u5 => q_M_thrown (u5) (fun r6 u7 => (((r6) = (r1) → ((¬ (r1) = 0 → post (z9.1) (u7) (z9.2)) ∧ ((r1) = 0 → (((lg_cmp ((z9.2) (0 : Int32).toNatClampNeg) (r4)) = 0 → post (z9.1) (u7) (z9.2)) ∧ (¬ (lg_cmp ((z9.2) (0 : Int32).toNatClampNeg) (r4)) = 0 → False))))) ∧ (¬ (r6) = (r1) → False))))) ∧ (¬ (xs ((i) + (((4) : Int32))).toNatClampNeg) = 0 → q_M_slope (xs ((i) + (((1) : Int32))).toNatClampNeg) (xs ((i) + (((2) : Int32))).toNatClampNeg) (xs ((i) + (((3) : Int32))).toNatClampNeg) (((1) : Int32)) (v) (fun r8 u9 => q_M_thrown (u9) (fun r10 u11 => (((r10) = (r1) → ((¬ (r1) = 0 → post (z9.1) (u11) (z9.2)) ∧ ((r1) = 0 → (((lg_cmp ((z9.2) (0 : Int32).toNatClampNeg) (r8)) = 0 → post (z9.1) (u11) (z9.2)) ∧ (¬ (lg_cmp ((z9.2) (0 : Int32).toNatClampNeg) (r8)) = 0 → False))))) ∧ (¬ (r10) = (r1) → False)))))))))))) ∧ (¬ (xs ((i) + (((4) : Int32))).toNatClampNeg) = 0 → qh_W_slope (xs ((i) + (((1) : Int32))).toNatClampNeg) (xs ((i) + (((2) : Int32))).toNatClampNeg) (xs ((i) + (((3) : Int32))).toNatClampNeg) (((1) : Int32)) (u) (o) (fun r12 z9 => (vp_in ((i) + (((1) : Int32))) L ∧ (vp_in ((i) + (((2) : Int32))) L ∧ (vp_in ((i) + (((3) : Int32))) L ∧ (vp_in ((i) + (((4) : Int32))) L ∧ (((xs ((i) + (((4) : Int32))).toNatClampNeg) = 0 → q_M_slope (xs ((i) + (((1) : Int32))).toNatClampNeg) (xs ((i) + (((2) : Int32))).toNatClampNeg) (xs ((i) + (((3) : Int32))).toNatClampNeg) (((0) : Int32)) (v) (fun r15 u16 => q_M_thrown (u16) (fun r17 u18 => (((r17) = (r12) → ((¬ (r12) = 0 → post (z9.1) (u18) (z9.2)) ∧ ((r12) = 0 → (((lg_cmp ((z9.2) (0 : Int32).toNatClampNeg) (r15)) = 0 → post (z9.1) (u18) (z9.2)) ∧ (¬ (lg_cmp ((z9.2) (0 : Int32).toNatClampNeg) (r15)) = 0 → False))))) ∧ (¬ (r17) = (r12) → False))))) ∧ (¬ (xs ((i) + (((4) : Int32))).toNatClampNeg) = 0 → q_M_slope (xs ((i) + (((1) : Int32))).toNatClampNeg) (xs ((i) + (((2) : Int32))).toNatClampNeg) (xs ((i) + (((3) : Int32))).toNatClampNeg) (((1) : Int32)) (v) (fun r19 u20 => q_M_thrown (u20) (fun r21 u22 => (((r21) = (r12) → ((¬ (r12) = 0 → post (z9.1) (u22) (z9.2)) ∧ ((r12) = 0 → (((lg_cmp ((z9.2) (0 : Int32).toNatClampNeg) (r19)) = 0 → post (z9.1) (u22) (z9.2)) ∧ (¬ (lg_cmp ((z9.2) (0 : Int32).toNatClampNeg) (r19)) = 0 → False))))) ∧ (¬ (r21) = (r12) → False)))))))))))))))))
set_option maxRecDepth 100000 in
theorem w_law_12 {p : Program} {l : Launch} {e : Env} {s : State} {m : MethodId} {args : Array Value} {below : List Frame} {meth : Method} {c : Code} {Z : ZT} {ad bd : Nat → Nat} {oa b L : Nat} {xs : Nat → Int32} {Q : State → Prop} {cells slots : Nat} {post : CT → MT → (Nat → Int64) → Prop} {i : Int32} {u : CT} {v : MT} {o : Nat → Int64} {H : Heap} {locs : List Loc} {ls : Array Slot} (C : CX "CoderTablesLaw" b_W_law 8 (some .boolean) Z (fun q => s.heap.size ≤ q) p l s m args meth c) (hX : va_X b L xs s s.heap) (hbl : b < s.heap.size) (hcs : cells + 1 ≤ 1065 ∧ slots + 6 ≤ 14558) (hw : WD Z (fun q => s.heap.size ≤ q) s (cLw Z ad bd oa u v o) H locs) (hl : lv_has ls 8 [(0, .ref (b)), (1, .ref (ad 0)), (2, .ref (bd 0)), (3, .ref (oa)), (4, .int (i))]) (h : q_law_12 L xs i u v o post) (hpost : ∀ (u : CT) (v : MT) (o : Nat → Int64) (H : Heap) (locs : List Loc) (ls : Array Slot), post u v o → WD Z (fun q => s.heap.size ≤ q) s (cLw Z ad bd oa u v o) H locs → lv_has ls 8 [(0, .ref (b)), (1, .ref (ad 0)), (2, .ref (bd 0)), (3, .ref (oa)), (4, .int (i))] → W p l e room_1 s m args below meth c H locs (cells + 1) (slots + 6) Q (F0 m 1359 ls [])) : W p l e room_1 s m args below meth c H locs cells slots Q (F0 m 887 ls []) := by
  unfold q_law_12 at h
  refine lv_aload_n C.2.1 C.2.2.1 d_W_law_887 rfl (lv_at hl 1 rfl) ?_
  refine lv_aload_n C.2.1 C.2.2.1 d_W_law_888 rfl (lv_at hl 0 rfl) ?_
  refine lv_iload C.2.1 C.2.2.1 d_W_law_889 (lv_at hl 4 rfl) ?_
  refine lv_iconst (v := (1)) C.2.1 C.2.2.1 d_W_law_891 (by decide) ?_
  refine lv_iadd C.2.1 C.2.2.1 d_W_law_892 ?_
  obtain ⟨hi, h⟩ := h
  refine l_sld C hX hbl hw hi d_W_law_893 ?_
  refine lv_aload_n C.2.1 C.2.2.1 d_W_law_894 rfl (lv_at hl 0 rfl) ?_
  refine lv_iload C.2.1 C.2.2.1 d_W_law_895 (lv_at hl 4 rfl) ?_
  refine lv_iconst (v := (2)) C.2.1 C.2.2.1 d_W_law_897 (by decide) ?_
  refine lv_iadd C.2.1 C.2.2.1 d_W_law_898 ?_
  obtain ⟨hi, h⟩ := h
  refine l_sld C hX hbl hw hi d_W_law_899 ?_
  refine lv_aload_n C.2.1 C.2.2.1 d_W_law_900 rfl (lv_at hl 0 rfl) ?_
  refine lv_iload C.2.1 C.2.2.1 d_W_law_901 (lv_at hl 4 rfl) ?_
  refine lv_iconst (v := (3)) C.2.1 C.2.2.1 d_W_law_903 (by decide) ?_
  refine lv_iadd C.2.1 C.2.2.1 d_W_law_904 ?_
  obtain ⟨hi, h⟩ := h
  refine l_sld C hX hbl hw hi d_W_law_905 ?_
  refine lv_aload_n C.2.1 C.2.2.1 d_W_law_906 rfl (lv_at hl 0 rfl) ?_
  refine lv_iload C.2.1 C.2.2.1 d_W_law_907 (lv_at hl 4 rfl) ?_
  refine lv_iconst (v := (4)) C.2.1 C.2.2.1 d_W_law_909 (by decide) ?_
  refine lv_iadd C.2.1 C.2.2.1 d_W_law_910 ?_
  obtain ⟨hi, h⟩ := h
  refine l_sld C hX hbl hw hi d_W_law_911 ?_
  refine lv_if_eq (tgt := 919) C.2.1 C.2.2.1 d_W_law_912 (by decide) (fun c => ?_) (fun c => ?_)
  · have h := h.1 c
    refine lv_iconst (v := (0)) C.2.1 C.2.2.1 d_W_law_919 (by decide) ?_
    refine lv_aload_n C.2.1 C.2.2.1 d_W_law_920 rfl (lv_at hl 3 rfl) ?_
    refine kLH_122 C hw h hcs hl.1 (Nat.le_of_ble_eq_true rfl) d_W_law_921 (fun r1 u2 o3 H locs h hw => ?_)
    refine lv_istore (lv' := [(5, .int (r1)), (0, .ref (b)), (1, .ref (ad 0)), (2, .ref (bd 0)), (3, .ref (oa)), (4, .int (i))]) C.2.1 C.2.2.1 d_W_law_924 hl (by decide) rfl (fun ls hl => ?_)
    refine lv_aload_n C.2.1 C.2.2.1 d_W_law_926 rfl (lv_at hl 3 rfl) ?_
    refine lv_aload_n C.2.1 C.2.2.1 d_W_law_927 rfl (lv_at hl 1 rfl) ?_
    refine lv_iload C.2.1 C.2.2.1 d_W_law_928 (lv_at hl 5 rfl) ?_
    refine lv_iconst (v := (1)) C.2.1 C.2.2.1 d_W_law_930 (by decide) ?_
    refine lv_iadd C.2.1 C.2.2.1 d_W_law_931 ?_
    obtain ⟨hi, h⟩ := h
    refine l_sld C hX hbl hw hi d_W_law_932 ?_
    refine lv_aload_n C.2.1 C.2.2.1 d_W_law_933 rfl (lv_at hl 1 rfl) ?_
    refine lv_iload C.2.1 C.2.2.1 d_W_law_934 (lv_at hl 5 rfl) ?_
    refine lv_iconst (v := (2)) C.2.1 C.2.2.1 d_W_law_936 (by decide) ?_
    refine lv_iadd C.2.1 C.2.2.1 d_W_law_937 ?_
    obtain ⟨hi, h⟩ := h
    refine l_sld C hX hbl hw hi d_W_law_938 ?_
    refine lv_aload_n C.2.1 C.2.2.1 d_W_law_939 rfl (lv_at hl 1 rfl) ?_
    refine lv_iload C.2.1 C.2.2.1 d_W_law_940 (lv_at hl 5 rfl) ?_
    refine lv_iconst (v := (3)) C.2.1 C.2.2.1 d_W_law_942 (by decide) ?_
    refine lv_iadd C.2.1 C.2.2.1 d_W_law_943 ?_
    obtain ⟨hi, h⟩ := h
    refine l_sld C hX hbl hw hi d_W_law_944 ?_
    refine lv_aload_n C.2.1 C.2.2.1 d_W_law_945 rfl (lv_at hl 1 rfl) ?_
    refine lv_iload C.2.1 C.2.2.1 d_W_law_946 (lv_at hl 5 rfl) ?_
    refine lv_iconst (v := (4)) C.2.1 C.2.2.1 d_W_law_948 (by decide) ?_
    refine lv_iadd C.2.1 C.2.2.1 d_W_law_949 ?_
    obtain ⟨hi, h⟩ := h
    refine l_sld C hX hbl hw hi d_W_law_950 ?_
    refine lv_if_eq (tgt := 958) C.2.1 C.2.2.1 d_W_law_951 (by decide) (fun c => ?_) (fun c => ?_)
    · have h := h.1 c
      refine lv_iconst (v := (0)) C.2.1 C.2.2.1 d_W_law_958 (by decide) ?_
      refine kLV_125 C hw h hcs hl.1 (Nat.le_of_ble_eq_true rfl) d_W_law_959 (fun r4 u5 H locs h hw => ?_)
      refine lv_lstore (lv' := [(6, .long (r4)), (5, .int (r1)), (0, .ref (b)), (1, .ref (ad 0)), (2, .ref (bd 0)), (3, .ref (oa)), (4, .int (i))]) C.2.1 C.2.2.1 d_W_law_962 hl (by decide) rfl (fun ls hl => ?_)
      refine lv_aload_n C.2.1 C.2.2.1 d_W_law_964 rfl (lv_at hl 4 rfl) ?_
      refine kLV_81 C hw h hcs hl.1 (Nat.le_of_ble_eq_true rfl) d_W_law_965 (fun r6 u7 H locs h hw => ?_)
      refine lv_iload C.2.1 C.2.2.1 d_W_law_968 (lv_at hl 1 rfl) ?_
      refine lv_icmp_eq (tgt := 975) C.2.1 C.2.2.1 d_W_law_970 (by decide) (fun c => ?_) (fun c => ?_)
      · have h := h.1 c
        refine lv_iload C.2.1 C.2.2.1 d_W_law_975 (lv_at hl 1 rfl) ?_
        refine lv_if_ne (tgt := 991) C.2.1 C.2.2.1 d_W_law_977 (by decide) (fun c => ?_) (fun c => ?_)
        · have h := h.1 c
          refine lv_goto (tgt := 1359) C.2.1 C.2.2.1 d_W_law_991 (by decide) ?_
          exact hpost _ _ _ _ _ _ h hw (lv_sub hl [2, 3, 4, 5, 6] rfl)
        · have h := h.2 c
          refine lv_aload_n C.2.1 C.2.2.1 d_W_law_980 rfl (lv_at hl 5 rfl) ?_
          refine lv_iconst (v := (0)) C.2.1 C.2.2.1 d_W_law_981 (by decide) ?_
          refine l_old C hw d_W_law_982 ?_
          refine lv_lload C.2.1 C.2.2.1 d_W_law_983 (lv_at hl 0 rfl) ?_
          refine W.lcmp C.2.1 C.2.2.1 d_W_law_985 ?_
          refine lv_if_eq (tgt := 991) C.2.1 C.2.2.1 d_W_law_986 (by decide) (fun c => ?_) (fun c => ?_)
          · have h := h.1 c
            refine lv_goto (tgt := 1359) C.2.1 C.2.2.1 d_W_law_991 (by decide) ?_
            exact hpost _ _ _ _ _ _ h hw (lv_sub hl [2, 3, 4, 5, 6] rfl)
          · have h := h.2 c
            refine lv_iconst (v := (0)) C.2.1 C.2.2.1 d_W_law_989 (by decide) ?_
            exact h.elim
      · have h := h.2 c
        refine lv_iconst (v := (0)) C.2.1 C.2.2.1 d_W_law_973 (by decide) ?_
        exact h.elim
    · have h := h.2 c
      refine lv_iconst (v := (1)) C.2.1 C.2.2.1 d_W_law_954 (by decide) ?_
      refine lv_goto (tgt := 959) C.2.1 C.2.2.1 d_W_law_955 (by decide) ?_
      refine kLV_125 C hw h hcs hl.1 (Nat.le_of_ble_eq_true rfl) d_W_law_959 (fun r8 u9 H locs h hw => ?_)
      refine lv_lstore (lv' := [(6, .long (r8)), (5, .int (r1)), (0, .ref (b)), (1, .ref (ad 0)), (2, .ref (bd 0)), (3, .ref (oa)), (4, .int (i))]) C.2.1 C.2.2.1 d_W_law_962 hl (by decide) rfl (fun ls hl => ?_)
      refine lv_aload_n C.2.1 C.2.2.1 d_W_law_964 rfl (lv_at hl 4 rfl) ?_
      refine kLV_81 C hw h hcs hl.1 (Nat.le_of_ble_eq_true rfl) d_W_law_965 (fun r10 u11 H locs h hw => ?_)
      refine lv_iload C.2.1 C.2.2.1 d_W_law_968 (lv_at hl 1 rfl) ?_
      refine lv_icmp_eq (tgt := 975) C.2.1 C.2.2.1 d_W_law_970 (by decide) (fun c => ?_) (fun c => ?_)
      · have h := h.1 c
        refine lv_iload C.2.1 C.2.2.1 d_W_law_975 (lv_at hl 1 rfl) ?_
        refine lv_if_ne (tgt := 991) C.2.1 C.2.2.1 d_W_law_977 (by decide) (fun c => ?_) (fun c => ?_)
        · have h := h.1 c
          refine lv_goto (tgt := 1359) C.2.1 C.2.2.1 d_W_law_991 (by decide) ?_
          exact hpost _ _ _ _ _ _ h hw (lv_sub hl [2, 3, 4, 5, 6] rfl)
        · have h := h.2 c
          refine lv_aload_n C.2.1 C.2.2.1 d_W_law_980 rfl (lv_at hl 5 rfl) ?_
          refine lv_iconst (v := (0)) C.2.1 C.2.2.1 d_W_law_981 (by decide) ?_
          refine l_old C hw d_W_law_982 ?_
          refine lv_lload C.2.1 C.2.2.1 d_W_law_983 (lv_at hl 0 rfl) ?_
          refine W.lcmp C.2.1 C.2.2.1 d_W_law_985 ?_
          refine lv_if_eq (tgt := 991) C.2.1 C.2.2.1 d_W_law_986 (by decide) (fun c => ?_) (fun c => ?_)
          · have h := h.1 c
            refine lv_goto (tgt := 1359) C.2.1 C.2.2.1 d_W_law_991 (by decide) ?_
            exact hpost _ _ _ _ _ _ h hw (lv_sub hl [2, 3, 4, 5, 6] rfl)
          · have h := h.2 c
            refine lv_iconst (v := (0)) C.2.1 C.2.2.1 d_W_law_989 (by decide) ?_
            exact h.elim
      · have h := h.2 c
        refine lv_iconst (v := (0)) C.2.1 C.2.2.1 d_W_law_973 (by decide) ?_
        exact h.elim
  · have h := h.2 c
    refine lv_iconst (v := (1)) C.2.1 C.2.2.1 d_W_law_915 (by decide) ?_
    refine lv_goto (tgt := 920) C.2.1 C.2.2.1 d_W_law_916 (by decide) ?_
    refine lv_aload_n C.2.1 C.2.2.1 d_W_law_920 rfl (lv_at hl 3 rfl) ?_
    refine kLH_122 C hw h hcs hl.1 (Nat.le_of_ble_eq_true rfl) d_W_law_921 (fun r12 u13 o14 H locs h hw => ?_)
    refine lv_istore (lv' := [(5, .int (r12)), (0, .ref (b)), (1, .ref (ad 0)), (2, .ref (bd 0)), (3, .ref (oa)), (4, .int (i))]) C.2.1 C.2.2.1 d_W_law_924 hl (by decide) rfl (fun ls hl => ?_)
    refine lv_aload_n C.2.1 C.2.2.1 d_W_law_926 rfl (lv_at hl 3 rfl) ?_
    refine lv_aload_n C.2.1 C.2.2.1 d_W_law_927 rfl (lv_at hl 1 rfl) ?_
    refine lv_iload C.2.1 C.2.2.1 d_W_law_928 (lv_at hl 5 rfl) ?_
    refine lv_iconst (v := (1)) C.2.1 C.2.2.1 d_W_law_930 (by decide) ?_
    refine lv_iadd C.2.1 C.2.2.1 d_W_law_931 ?_
    obtain ⟨hi, h⟩ := h
    refine l_sld C hX hbl hw hi d_W_law_932 ?_
    refine lv_aload_n C.2.1 C.2.2.1 d_W_law_933 rfl (lv_at hl 1 rfl) ?_
    refine lv_iload C.2.1 C.2.2.1 d_W_law_934 (lv_at hl 5 rfl) ?_
    refine lv_iconst (v := (2)) C.2.1 C.2.2.1 d_W_law_936 (by decide) ?_
    refine lv_iadd C.2.1 C.2.2.1 d_W_law_937 ?_
    obtain ⟨hi, h⟩ := h
    refine l_sld C hX hbl hw hi d_W_law_938 ?_
    refine lv_aload_n C.2.1 C.2.2.1 d_W_law_939 rfl (lv_at hl 1 rfl) ?_
    refine lv_iload C.2.1 C.2.2.1 d_W_law_940 (lv_at hl 5 rfl) ?_
    refine lv_iconst (v := (3)) C.2.1 C.2.2.1 d_W_law_942 (by decide) ?_
    refine lv_iadd C.2.1 C.2.2.1 d_W_law_943 ?_
    obtain ⟨hi, h⟩ := h
    refine l_sld C hX hbl hw hi d_W_law_944 ?_
    refine lv_aload_n C.2.1 C.2.2.1 d_W_law_945 rfl (lv_at hl 1 rfl) ?_
    refine lv_iload C.2.1 C.2.2.1 d_W_law_946 (lv_at hl 5 rfl) ?_
    refine lv_iconst (v := (4)) C.2.1 C.2.2.1 d_W_law_948 (by decide) ?_
    refine lv_iadd C.2.1 C.2.2.1 d_W_law_949 ?_
    obtain ⟨hi, h⟩ := h
    refine l_sld C hX hbl hw hi d_W_law_950 ?_
    refine lv_if_eq (tgt := 958) C.2.1 C.2.2.1 d_W_law_951 (by decide) (fun c => ?_) (fun c => ?_)
    · have h := h.1 c
      refine lv_iconst (v := (0)) C.2.1 C.2.2.1 d_W_law_958 (by decide) ?_
      refine kLV_125 C hw h hcs hl.1 (Nat.le_of_ble_eq_true rfl) d_W_law_959 (fun r15 u16 H locs h hw => ?_)
      refine lv_lstore (lv' := [(6, .long (r15)), (5, .int (r12)), (0, .ref (b)), (1, .ref (ad 0)), (2, .ref (bd 0)), (3, .ref (oa)), (4, .int (i))]) C.2.1 C.2.2.1 d_W_law_962 hl (by decide) rfl (fun ls hl => ?_)
      refine lv_aload_n C.2.1 C.2.2.1 d_W_law_964 rfl (lv_at hl 4 rfl) ?_
      refine kLV_81 C hw h hcs hl.1 (Nat.le_of_ble_eq_true rfl) d_W_law_965 (fun r17 u18 H locs h hw => ?_)
      refine lv_iload C.2.1 C.2.2.1 d_W_law_968 (lv_at hl 1 rfl) ?_
      refine lv_icmp_eq (tgt := 975) C.2.1 C.2.2.1 d_W_law_970 (by decide) (fun c => ?_) (fun c => ?_)
      · have h := h.1 c
        refine lv_iload C.2.1 C.2.2.1 d_W_law_975 (lv_at hl 1 rfl) ?_
        refine lv_if_ne (tgt := 991) C.2.1 C.2.2.1 d_W_law_977 (by decide) (fun c => ?_) (fun c => ?_)
        · have h := h.1 c
          refine lv_goto (tgt := 1359) C.2.1 C.2.2.1 d_W_law_991 (by decide) ?_
          exact hpost _ _ _ _ _ _ h hw (lv_sub hl [2, 3, 4, 5, 6] rfl)
        · have h := h.2 c
          refine lv_aload_n C.2.1 C.2.2.1 d_W_law_980 rfl (lv_at hl 5 rfl) ?_
          refine lv_iconst (v := (0)) C.2.1 C.2.2.1 d_W_law_981 (by decide) ?_
          refine l_old C hw d_W_law_982 ?_
          refine lv_lload C.2.1 C.2.2.1 d_W_law_983 (lv_at hl 0 rfl) ?_
          refine W.lcmp C.2.1 C.2.2.1 d_W_law_985 ?_
          refine lv_if_eq (tgt := 991) C.2.1 C.2.2.1 d_W_law_986 (by decide) (fun c => ?_) (fun c => ?_)
          · have h := h.1 c
            refine lv_goto (tgt := 1359) C.2.1 C.2.2.1 d_W_law_991 (by decide) ?_
            exact hpost _ _ _ _ _ _ h hw (lv_sub hl [2, 3, 4, 5, 6] rfl)
          · have h := h.2 c
            refine lv_iconst (v := (0)) C.2.1 C.2.2.1 d_W_law_989 (by decide) ?_
            exact h.elim
      · have h := h.2 c
        refine lv_iconst (v := (0)) C.2.1 C.2.2.1 d_W_law_973 (by decide) ?_
        exact h.elim
    · have h := h.2 c
      refine lv_iconst (v := (1)) C.2.1 C.2.2.1 d_W_law_954 (by decide) ?_
      refine lv_goto (tgt := 959) C.2.1 C.2.2.1 d_W_law_955 (by decide) ?_
      refine kLV_125 C hw h hcs hl.1 (Nat.le_of_ble_eq_true rfl) d_W_law_959 (fun r19 u20 H locs h hw => ?_)
      refine lv_lstore (lv' := [(6, .long (r19)), (5, .int (r12)), (0, .ref (b)), (1, .ref (ad 0)), (2, .ref (bd 0)), (3, .ref (oa)), (4, .int (i))]) C.2.1 C.2.2.1 d_W_law_962 hl (by decide) rfl (fun ls hl => ?_)
      refine lv_aload_n C.2.1 C.2.2.1 d_W_law_964 rfl (lv_at hl 4 rfl) ?_
      refine kLV_81 C hw h hcs hl.1 (Nat.le_of_ble_eq_true rfl) d_W_law_965 (fun r21 u22 H locs h hw => ?_)
      refine lv_iload C.2.1 C.2.2.1 d_W_law_968 (lv_at hl 1 rfl) ?_
      refine lv_icmp_eq (tgt := 975) C.2.1 C.2.2.1 d_W_law_970 (by decide) (fun c => ?_) (fun c => ?_)
      · have h := h.1 c
        refine lv_iload C.2.1 C.2.2.1 d_W_law_975 (lv_at hl 1 rfl) ?_
        refine lv_if_ne (tgt := 991) C.2.1 C.2.2.1 d_W_law_977 (by decide) (fun c => ?_) (fun c => ?_)
        · have h := h.1 c
          refine lv_goto (tgt := 1359) C.2.1 C.2.2.1 d_W_law_991 (by decide) ?_
          exact hpost _ _ _ _ _ _ h hw (lv_sub hl [2, 3, 4, 5, 6] rfl)
        · have h := h.2 c
          refine lv_aload_n C.2.1 C.2.2.1 d_W_law_980 rfl (lv_at hl 5 rfl) ?_
          refine lv_iconst (v := (0)) C.2.1 C.2.2.1 d_W_law_981 (by decide) ?_
          refine l_old C hw d_W_law_982 ?_
          refine lv_lload C.2.1 C.2.2.1 d_W_law_983 (lv_at hl 0 rfl) ?_
          refine W.lcmp C.2.1 C.2.2.1 d_W_law_985 ?_
          refine lv_if_eq (tgt := 991) C.2.1 C.2.2.1 d_W_law_986 (by decide) (fun c => ?_) (fun c => ?_)
          · have h := h.1 c
            refine lv_goto (tgt := 1359) C.2.1 C.2.2.1 d_W_law_991 (by decide) ?_
            exact hpost _ _ _ _ _ _ h hw (lv_sub hl [2, 3, 4, 5, 6] rfl)
          · have h := h.2 c
            refine lv_iconst (v := (0)) C.2.1 C.2.2.1 d_W_law_989 (by decide) ?_
            exact h.elim
      · have h := h.2 c
        refine lv_iconst (v := (0)) C.2.1 C.2.2.1 d_W_law_973 (by decide) ?_
        exact h.elim
def q_law_13 (L : Nat) (xs : Nat → Int32) (i : Int32) (u : CT) (v : MT) (o : Nat → Int64) (post : CT → MT → (Nat → Int64) → Prop) : Prop :=
  (vp_in ((i) + (((1) : Int32))) L ∧ (vp_in ((i) + (((2) : Int32))) L ∧ (vp_in ((i) + (((3) : Int32))) L ∧ qh_W_signs (xs ((i) + (((1) : Int32))).toNatClampNeg) (xs ((i) + (((2) : Int32))).toNatClampNeg) (xs ((i) + (((3) : Int32))).toNatClampNeg) (u) (o) (fun r1 z9 => (vp_in ((i) + (((1) : Int32))) L ∧ (vp_in ((i) + (((2) : Int32))) L ∧ (vp_in ((i) + (((3) : Int32))) L ∧ q_M_signs (xs ((i) + (((1) : Int32))).toNatClampNeg) (xs ((i) + (((2) : Int32))).toNatClampNeg) (xs ((i) + (((3) : Int32))).toNatClampNeg) (v) (fun r4 u5 => q_M_thrown (u5) (fun r6 u7 => (((r6) = (r1) → ((¬ (r1) = 0 → post (z9.1) (u7) (z9.2)) ∧ ((r1) = 0 → (((lg_cmp ((z9.2) (0 : Int32).toNatClampNeg) (r4)) = 0 → post (z9.1) (u7) (z9.2)) ∧ (¬ (lg_cmp ((z9.2) (0 : Int32).toNatClampNeg) (r4)) = 0 → False))))) ∧ (¬ (r6) = (r1) → False)))))))))))
set_option maxRecDepth 100000 in
theorem w_law_13 {p : Program} {l : Launch} {e : Env} {s : State} {m : MethodId} {args : Array Value} {below : List Frame} {meth : Method} {c : Code} {Z : ZT} {ad bd : Nat → Nat} {oa b L : Nat} {xs : Nat → Int32} {Q : State → Prop} {cells slots : Nat} {post : CT → MT → (Nat → Int64) → Prop} {i : Int32} {u : CT} {v : MT} {o : Nat → Int64} {H : Heap} {locs : List Loc} {ls : Array Slot} (C : CX "CoderTablesLaw" b_W_law 8 (some .boolean) Z (fun q => s.heap.size ≤ q) p l s m args meth c) (hX : va_X b L xs s s.heap) (hbl : b < s.heap.size) (hcs : cells + 1 ≤ 1065 ∧ slots + 6 ≤ 14558) (hw : WD Z (fun q => s.heap.size ≤ q) s (cLw Z ad bd oa u v o) H locs) (hl : lv_has ls 8 [(0, .ref (b)), (1, .ref (ad 0)), (2, .ref (bd 0)), (3, .ref (oa)), (4, .int (i))]) (h : q_law_13 L xs i u v o post) (hpost : ∀ (u : CT) (v : MT) (o : Nat → Int64) (H : Heap) (locs : List Loc) (ls : Array Slot), post u v o → WD Z (fun q => s.heap.size ≤ q) s (cLw Z ad bd oa u v o) H locs → lv_has ls 8 [(0, .ref (b)), (1, .ref (ad 0)), (2, .ref (bd 0)), (3, .ref (oa)), (4, .int (i))] → W p l e room_1 s m args below meth c H locs (cells + 1) (slots + 6) Q (F0 m 1359 ls [])) : W p l e room_1 s m args below meth c H locs cells slots Q (F0 m 994 ls []) := by
  unfold q_law_13 at h
  refine lv_aload_n C.2.1 C.2.2.1 d_W_law_994 rfl (lv_at hl 1 rfl) ?_
  refine lv_aload_n C.2.1 C.2.2.1 d_W_law_995 rfl (lv_at hl 0 rfl) ?_
  refine lv_iload C.2.1 C.2.2.1 d_W_law_996 (lv_at hl 4 rfl) ?_
  refine lv_iconst (v := (1)) C.2.1 C.2.2.1 d_W_law_998 (by decide) ?_
  refine lv_iadd C.2.1 C.2.2.1 d_W_law_999 ?_
  obtain ⟨hi, h⟩ := h
  refine l_sld C hX hbl hw hi d_W_law_1000 ?_
  refine lv_aload_n C.2.1 C.2.2.1 d_W_law_1001 rfl (lv_at hl 0 rfl) ?_
  refine lv_iload C.2.1 C.2.2.1 d_W_law_1002 (lv_at hl 4 rfl) ?_
  refine lv_iconst (v := (2)) C.2.1 C.2.2.1 d_W_law_1004 (by decide) ?_
  refine lv_iadd C.2.1 C.2.2.1 d_W_law_1005 ?_
  obtain ⟨hi, h⟩ := h
  refine l_sld C hX hbl hw hi d_W_law_1006 ?_
  refine lv_aload_n C.2.1 C.2.2.1 d_W_law_1007 rfl (lv_at hl 0 rfl) ?_
  refine lv_iload C.2.1 C.2.2.1 d_W_law_1008 (lv_at hl 4 rfl) ?_
  refine lv_iconst (v := (3)) C.2.1 C.2.2.1 d_W_law_1010 (by decide) ?_
  refine lv_iadd C.2.1 C.2.2.1 d_W_law_1011 ?_
  obtain ⟨hi, h⟩ := h
  refine l_sld C hX hbl hw hi d_W_law_1012 ?_
  refine lv_aload_n C.2.1 C.2.2.1 d_W_law_1013 rfl (lv_at hl 3 rfl) ?_
  refine kLH_126 C hw h hcs hl.1 (Nat.le_of_ble_eq_true rfl) d_W_law_1014 (fun r1 u2 o3 H locs h hw => ?_)
  refine lv_istore (lv' := [(5, .int (r1)), (0, .ref (b)), (1, .ref (ad 0)), (2, .ref (bd 0)), (3, .ref (oa)), (4, .int (i))]) C.2.1 C.2.2.1 d_W_law_1017 hl (by decide) rfl (fun ls hl => ?_)
  refine lv_aload_n C.2.1 C.2.2.1 d_W_law_1019 rfl (lv_at hl 3 rfl) ?_
  refine lv_aload_n C.2.1 C.2.2.1 d_W_law_1020 rfl (lv_at hl 1 rfl) ?_
  refine lv_iload C.2.1 C.2.2.1 d_W_law_1021 (lv_at hl 5 rfl) ?_
  refine lv_iconst (v := (1)) C.2.1 C.2.2.1 d_W_law_1023 (by decide) ?_
  refine lv_iadd C.2.1 C.2.2.1 d_W_law_1024 ?_
  obtain ⟨hi, h⟩ := h
  refine l_sld C hX hbl hw hi d_W_law_1025 ?_
  refine lv_aload_n C.2.1 C.2.2.1 d_W_law_1026 rfl (lv_at hl 1 rfl) ?_
  refine lv_iload C.2.1 C.2.2.1 d_W_law_1027 (lv_at hl 5 rfl) ?_
  refine lv_iconst (v := (2)) C.2.1 C.2.2.1 d_W_law_1029 (by decide) ?_
  refine lv_iadd C.2.1 C.2.2.1 d_W_law_1030 ?_
  obtain ⟨hi, h⟩ := h
  refine l_sld C hX hbl hw hi d_W_law_1031 ?_
  refine lv_aload_n C.2.1 C.2.2.1 d_W_law_1032 rfl (lv_at hl 1 rfl) ?_
  refine lv_iload C.2.1 C.2.2.1 d_W_law_1033 (lv_at hl 5 rfl) ?_
  refine lv_iconst (v := (3)) C.2.1 C.2.2.1 d_W_law_1035 (by decide) ?_
  refine lv_iadd C.2.1 C.2.2.1 d_W_law_1036 ?_
  obtain ⟨hi, h⟩ := h
  refine l_sld C hX hbl hw hi d_W_law_1037 ?_
  refine kLV_129 C hw h hcs hl.1 (Nat.le_of_ble_eq_true rfl) d_W_law_1038 (fun r4 u5 H locs h hw => ?_)
  refine lv_lstore (lv' := [(6, .long (r4)), (5, .int (r1)), (0, .ref (b)), (1, .ref (ad 0)), (2, .ref (bd 0)), (3, .ref (oa)), (4, .int (i))]) C.2.1 C.2.2.1 d_W_law_1041 hl (by decide) rfl (fun ls hl => ?_)
  refine lv_aload_n C.2.1 C.2.2.1 d_W_law_1043 rfl (lv_at hl 4 rfl) ?_
  refine kLV_81 C hw h hcs hl.1 (Nat.le_of_ble_eq_true rfl) d_W_law_1044 (fun r6 u7 H locs h hw => ?_)
  refine lv_iload C.2.1 C.2.2.1 d_W_law_1047 (lv_at hl 1 rfl) ?_
  refine lv_icmp_eq (tgt := 1054) C.2.1 C.2.2.1 d_W_law_1049 (by decide) (fun c => ?_) (fun c => ?_)
  · have h := h.1 c
    refine lv_iload C.2.1 C.2.2.1 d_W_law_1054 (lv_at hl 1 rfl) ?_
    refine lv_if_ne (tgt := 1070) C.2.1 C.2.2.1 d_W_law_1056 (by decide) (fun c => ?_) (fun c => ?_)
    · have h := h.1 c
      refine lv_goto (tgt := 1359) C.2.1 C.2.2.1 d_W_law_1070 (by decide) ?_
      exact hpost _ _ _ _ _ _ h hw (lv_sub hl [2, 3, 4, 5, 6] rfl)
    · have h := h.2 c
      refine lv_aload_n C.2.1 C.2.2.1 d_W_law_1059 rfl (lv_at hl 5 rfl) ?_
      refine lv_iconst (v := (0)) C.2.1 C.2.2.1 d_W_law_1060 (by decide) ?_
      refine l_old C hw d_W_law_1061 ?_
      refine lv_lload C.2.1 C.2.2.1 d_W_law_1062 (lv_at hl 0 rfl) ?_
      refine W.lcmp C.2.1 C.2.2.1 d_W_law_1064 ?_
      refine lv_if_eq (tgt := 1070) C.2.1 C.2.2.1 d_W_law_1065 (by decide) (fun c => ?_) (fun c => ?_)
      · have h := h.1 c
        refine lv_goto (tgt := 1359) C.2.1 C.2.2.1 d_W_law_1070 (by decide) ?_
        exact hpost _ _ _ _ _ _ h hw (lv_sub hl [2, 3, 4, 5, 6] rfl)
      · have h := h.2 c
        refine lv_iconst (v := (0)) C.2.1 C.2.2.1 d_W_law_1068 (by decide) ?_
        exact h.elim
  · have h := h.2 c
    refine lv_iconst (v := (0)) C.2.1 C.2.2.1 d_W_law_1052 (by decide) ?_
    exact h.elim
def q_law_14 (L : Nat) (xs : Nat → Int32) (i : Int32) (u : CT) (v : MT) (o : Nat → Int64) (post : CT → MT → (Nat → Int64) → Prop) : Prop :=
  (vp_in ((i) + (((1) : Int32))) L ∧ (vp_in ((i) + (((2) : Int32))) L ∧ (vp_in ((i) + (((3) : Int32))) L ∧ (vp_in ((i) + (((4) : Int32))) L ∧ (vp_in ((i) + (((5) : Int32))) L ∧ qh_W_draws (xs ((i) + (((1) : Int32))).toNatClampNeg) (xs ((i) + (((2) : Int32))).toNatClampNeg) ((((xs ((i) + (((3) : Int32))).toNatClampNeg).toInt64) <<< ((((32) : Int32)).toInt64 &&& 63)) ||| (((xs ((i) + (((4) : Int32))).toNatClampNeg).toInt64) &&& ((4294967295 : Int64)))) (xs ((i) + (((5) : Int32))).toNatClampNeg) (u) (o) (fun r1 z9 => (vp_in ((i) + (((1) : Int32))) L ∧ (vp_in ((i) + (((2) : Int32))) L ∧ (vp_in ((i) + (((3) : Int32))) L ∧ (vp_in ((i) + (((4) : Int32))) L ∧ (vp_in ((i) + (((5) : Int32))) L ∧ q_M_draws (xs ((i) + (((1) : Int32))).toNatClampNeg) (xs ((i) + (((2) : Int32))).toNatClampNeg) ((((xs ((i) + (((3) : Int32))).toNatClampNeg).toInt64) <<< ((((32) : Int32)).toInt64 &&& 63)) ||| (((xs ((i) + (((4) : Int32))).toNatClampNeg).toInt64) &&& ((4294967295 : Int64)))) (xs ((i) + (((5) : Int32))).toNatClampNeg) (v) (fun r4 u5 => q_M_thrown (u5) (fun r6 u7 => (((r6) = (r1) → ((¬ (r1) = 0 → post (z9.1) (u7) (z9.2)) ∧ ((r1) = 0 → (((lg_cmp ((z9.2) (0 : Int32).toNatClampNeg) ((r4).toInt64)) = 0 → post (z9.1) (u7) (z9.2)) ∧ (¬ (lg_cmp ((z9.2) (0 : Int32).toNatClampNeg) ((r4).toInt64)) = 0 → False))))) ∧ (¬ (r6) = (r1) → False)))))))))))))))
set_option maxRecDepth 100000 in
theorem w_law_14 {p : Program} {l : Launch} {e : Env} {s : State} {m : MethodId} {args : Array Value} {below : List Frame} {meth : Method} {c : Code} {Z : ZT} {ad bd : Nat → Nat} {oa b L : Nat} {xs : Nat → Int32} {Q : State → Prop} {cells slots : Nat} {post : CT → MT → (Nat → Int64) → Prop} {i : Int32} {u : CT} {v : MT} {o : Nat → Int64} {H : Heap} {locs : List Loc} {ls : Array Slot} (C : CX "CoderTablesLaw" b_W_law 8 (some .boolean) Z (fun q => s.heap.size ≤ q) p l s m args meth c) (hX : va_X b L xs s s.heap) (hbl : b < s.heap.size) (hcs : cells + 1 ≤ 1065 ∧ slots + 6 ≤ 14558) (hw : WD Z (fun q => s.heap.size ≤ q) s (cLw Z ad bd oa u v o) H locs) (hl : lv_has ls 8 [(0, .ref (b)), (1, .ref (ad 0)), (2, .ref (bd 0)), (3, .ref (oa)), (4, .int (i))]) (h : q_law_14 L xs i u v o post) (hpost : ∀ (u : CT) (v : MT) (o : Nat → Int64) (H : Heap) (locs : List Loc) (ls : Array Slot), post u v o → WD Z (fun q => s.heap.size ≤ q) s (cLw Z ad bd oa u v o) H locs → lv_has ls 8 [(0, .ref (b)), (1, .ref (ad 0)), (2, .ref (bd 0)), (3, .ref (oa)), (4, .int (i))] → W p l e room_1 s m args below meth c H locs (cells + 1) (slots + 6) Q (F0 m 1359 ls [])) : W p l e room_1 s m args below meth c H locs cells slots Q (F0 m 1073 ls []) := by
  unfold q_law_14 at h
  refine lv_aload_n C.2.1 C.2.2.1 d_W_law_1073 rfl (lv_at hl 1 rfl) ?_
  refine lv_aload_n C.2.1 C.2.2.1 d_W_law_1074 rfl (lv_at hl 0 rfl) ?_
  refine lv_iload C.2.1 C.2.2.1 d_W_law_1075 (lv_at hl 4 rfl) ?_
  refine lv_iconst (v := (1)) C.2.1 C.2.2.1 d_W_law_1077 (by decide) ?_
  refine lv_iadd C.2.1 C.2.2.1 d_W_law_1078 ?_
  obtain ⟨hi, h⟩ := h
  refine l_sld C hX hbl hw hi d_W_law_1079 ?_
  refine lv_aload_n C.2.1 C.2.2.1 d_W_law_1080 rfl (lv_at hl 0 rfl) ?_
  refine lv_iload C.2.1 C.2.2.1 d_W_law_1081 (lv_at hl 4 rfl) ?_
  refine lv_iconst (v := (2)) C.2.1 C.2.2.1 d_W_law_1083 (by decide) ?_
  refine lv_iadd C.2.1 C.2.2.1 d_W_law_1084 ?_
  obtain ⟨hi, h⟩ := h
  refine l_sld C hX hbl hw hi d_W_law_1085 ?_
  refine lv_aload_n C.2.1 C.2.2.1 d_W_law_1086 rfl (lv_at hl 0 rfl) ?_
  refine lv_iload C.2.1 C.2.2.1 d_W_law_1087 (lv_at hl 4 rfl) ?_
  refine lv_iconst (v := (3)) C.2.1 C.2.2.1 d_W_law_1089 (by decide) ?_
  refine lv_iadd C.2.1 C.2.2.1 d_W_law_1090 ?_
  obtain ⟨hi, h⟩ := h
  refine l_sld C hX hbl hw hi d_W_law_1091 ?_
  refine lv_i2l C.2.1 C.2.2.1 d_W_law_1092 rfl ?_
  refine lv_bipush (v := (32)) C.2.1 C.2.2.1 d_W_law_1093 (by decide) ?_
  refine lv_lshl C.2.1 C.2.2.1 d_W_law_1095 rfl ?_
  refine lv_aload_n C.2.1 C.2.2.1 d_W_law_1096 rfl (lv_at hl 0 rfl) ?_
  refine lv_iload C.2.1 C.2.2.1 d_W_law_1097 (lv_at hl 4 rfl) ?_
  refine lv_iconst (v := (4)) C.2.1 C.2.2.1 d_W_law_1099 (by decide) ?_
  refine lv_iadd C.2.1 C.2.2.1 d_W_law_1100 ?_
  obtain ⟨hi, h⟩ := h
  refine l_sld C hX hbl hw hi d_W_law_1101 ?_
  refine lv_i2l C.2.1 C.2.2.1 d_W_law_1102 rfl ?_
  refine lv_ldc2 (v := 4294967295) C.2.1 C.2.2.1 C.2.2.2.2.1 (C.2.2.2.2.2.1 _ w789) d_W_law_1103 ?_
  refine lv_land C.2.1 C.2.2.1 d_W_law_1106 ?_
  refine lv_lor C.2.1 C.2.2.1 d_W_law_1107 ?_
  refine lv_aload_n C.2.1 C.2.2.1 d_W_law_1108 rfl (lv_at hl 0 rfl) ?_
  refine lv_iload C.2.1 C.2.2.1 d_W_law_1109 (lv_at hl 4 rfl) ?_
  refine lv_iconst (v := (5)) C.2.1 C.2.2.1 d_W_law_1111 (by decide) ?_
  refine lv_iadd C.2.1 C.2.2.1 d_W_law_1112 ?_
  obtain ⟨hi, h⟩ := h
  refine l_sld C hX hbl hw hi d_W_law_1113 ?_
  refine lv_aload_n C.2.1 C.2.2.1 d_W_law_1114 rfl (lv_at hl 3 rfl) ?_
  refine kLH_132 C hw h hcs hl.1 (Nat.le_of_ble_eq_true rfl) d_W_law_1115 (fun r1 u2 o3 H locs h hw => ?_)
  refine lv_istore (lv' := [(5, .int (r1)), (0, .ref (b)), (1, .ref (ad 0)), (2, .ref (bd 0)), (3, .ref (oa)), (4, .int (i))]) C.2.1 C.2.2.1 d_W_law_1118 hl (by decide) rfl (fun ls hl => ?_)
  refine lv_aload_n C.2.1 C.2.2.1 d_W_law_1120 rfl (lv_at hl 3 rfl) ?_
  refine lv_aload_n C.2.1 C.2.2.1 d_W_law_1121 rfl (lv_at hl 1 rfl) ?_
  refine lv_iload C.2.1 C.2.2.1 d_W_law_1122 (lv_at hl 5 rfl) ?_
  refine lv_iconst (v := (1)) C.2.1 C.2.2.1 d_W_law_1124 (by decide) ?_
  refine lv_iadd C.2.1 C.2.2.1 d_W_law_1125 ?_
  obtain ⟨hi, h⟩ := h
  refine l_sld C hX hbl hw hi d_W_law_1126 ?_
  refine lv_aload_n C.2.1 C.2.2.1 d_W_law_1127 rfl (lv_at hl 1 rfl) ?_
  refine lv_iload C.2.1 C.2.2.1 d_W_law_1128 (lv_at hl 5 rfl) ?_
  refine lv_iconst (v := (2)) C.2.1 C.2.2.1 d_W_law_1130 (by decide) ?_
  refine lv_iadd C.2.1 C.2.2.1 d_W_law_1131 ?_
  obtain ⟨hi, h⟩ := h
  refine l_sld C hX hbl hw hi d_W_law_1132 ?_
  refine lv_aload_n C.2.1 C.2.2.1 d_W_law_1133 rfl (lv_at hl 1 rfl) ?_
  refine lv_iload C.2.1 C.2.2.1 d_W_law_1134 (lv_at hl 5 rfl) ?_
  refine lv_iconst (v := (3)) C.2.1 C.2.2.1 d_W_law_1136 (by decide) ?_
  refine lv_iadd C.2.1 C.2.2.1 d_W_law_1137 ?_
  obtain ⟨hi, h⟩ := h
  refine l_sld C hX hbl hw hi d_W_law_1138 ?_
  refine lv_i2l C.2.1 C.2.2.1 d_W_law_1139 rfl ?_
  refine lv_bipush (v := (32)) C.2.1 C.2.2.1 d_W_law_1140 (by decide) ?_
  refine lv_lshl C.2.1 C.2.2.1 d_W_law_1142 rfl ?_
  refine lv_aload_n C.2.1 C.2.2.1 d_W_law_1143 rfl (lv_at hl 1 rfl) ?_
  refine lv_iload C.2.1 C.2.2.1 d_W_law_1144 (lv_at hl 5 rfl) ?_
  refine lv_iconst (v := (4)) C.2.1 C.2.2.1 d_W_law_1146 (by decide) ?_
  refine lv_iadd C.2.1 C.2.2.1 d_W_law_1147 ?_
  obtain ⟨hi, h⟩ := h
  refine l_sld C hX hbl hw hi d_W_law_1148 ?_
  refine lv_i2l C.2.1 C.2.2.1 d_W_law_1149 rfl ?_
  refine lv_ldc2 (v := 4294967295) C.2.1 C.2.2.1 C.2.2.2.2.1 (C.2.2.2.2.2.1 _ w789) d_W_law_1150 ?_
  refine lv_land C.2.1 C.2.2.1 d_W_law_1153 ?_
  refine lv_lor C.2.1 C.2.2.1 d_W_law_1154 ?_
  refine lv_aload_n C.2.1 C.2.2.1 d_W_law_1155 rfl (lv_at hl 1 rfl) ?_
  refine lv_iload C.2.1 C.2.2.1 d_W_law_1156 (lv_at hl 5 rfl) ?_
  refine lv_iconst (v := (5)) C.2.1 C.2.2.1 d_W_law_1158 (by decide) ?_
  refine lv_iadd C.2.1 C.2.2.1 d_W_law_1159 ?_
  obtain ⟨hi, h⟩ := h
  refine l_sld C hX hbl hw hi d_W_law_1160 ?_
  refine kLV_135 C hw h hcs hl.1 (Nat.le_of_ble_eq_true rfl) d_W_law_1161 (fun r4 u5 H locs h hw => ?_)
  refine lv_istore (lv' := [(6, .int (r4)), (5, .int (r1)), (0, .ref (b)), (1, .ref (ad 0)), (2, .ref (bd 0)), (3, .ref (oa)), (4, .int (i))]) C.2.1 C.2.2.1 d_W_law_1164 hl (by decide) rfl (fun ls hl => ?_)
  refine lv_aload_n C.2.1 C.2.2.1 d_W_law_1166 rfl (lv_at hl 4 rfl) ?_
  refine kLV_81 C hw h hcs hl.1 (Nat.le_of_ble_eq_true rfl) d_W_law_1167 (fun r6 u7 H locs h hw => ?_)
  refine lv_iload C.2.1 C.2.2.1 d_W_law_1170 (lv_at hl 1 rfl) ?_
  refine lv_icmp_eq (tgt := 1177) C.2.1 C.2.2.1 d_W_law_1172 (by decide) (fun c => ?_) (fun c => ?_)
  · have h := h.1 c
    refine lv_iload C.2.1 C.2.2.1 d_W_law_1177 (lv_at hl 1 rfl) ?_
    refine lv_if_ne (tgt := 1194) C.2.1 C.2.2.1 d_W_law_1179 (by decide) (fun c => ?_) (fun c => ?_)
    · have h := h.1 c
      refine lv_goto (tgt := 1359) C.2.1 C.2.2.1 d_W_law_1194 (by decide) ?_
      exact hpost _ _ _ _ _ _ h hw (lv_sub hl [2, 3, 4, 5, 6] rfl)
    · have h := h.2 c
      refine lv_aload_n C.2.1 C.2.2.1 d_W_law_1182 rfl (lv_at hl 5 rfl) ?_
      refine lv_iconst (v := (0)) C.2.1 C.2.2.1 d_W_law_1183 (by decide) ?_
      refine l_old C hw d_W_law_1184 ?_
      refine lv_iload C.2.1 C.2.2.1 d_W_law_1185 (lv_at hl 0 rfl) ?_
      refine lv_i2l C.2.1 C.2.2.1 d_W_law_1187 rfl ?_
      refine W.lcmp C.2.1 C.2.2.1 d_W_law_1188 ?_
      refine lv_if_eq (tgt := 1194) C.2.1 C.2.2.1 d_W_law_1189 (by decide) (fun c => ?_) (fun c => ?_)
      · have h := h.1 c
        refine lv_goto (tgt := 1359) C.2.1 C.2.2.1 d_W_law_1194 (by decide) ?_
        exact hpost _ _ _ _ _ _ h hw (lv_sub hl [2, 3, 4, 5, 6] rfl)
      · have h := h.2 c
        refine lv_iconst (v := (0)) C.2.1 C.2.2.1 d_W_law_1192 (by decide) ?_
        exact h.elim
  · have h := h.2 c
    refine lv_iconst (v := (0)) C.2.1 C.2.2.1 d_W_law_1175 (by decide) ?_
    exact h.elim
def q_law_15 (L : Nat) (xs : Nat → Int32) (i : Int32) (u : CT) (v : MT) (o : Nat → Int64) (post : CT → MT → (Nat → Int64) → Prop) : Prop :=
  (vp_in ((i) + (((1) : Int32))) L ∧ (vp_in ((i) + (((2) : Int32))) L ∧ q_X_fill ((((xs ((i) + (((1) : Int32))).toNatClampNeg).toInt64) <<< ((((32) : Int32)).toInt64 &&& 63)) ||| (((xs ((i) + (((2) : Int32))).toNatClampNeg).toInt64) &&& ((4294967295 : Int64)))) (u) (fun r1 u2 => (vp_in ((i) + (((1) : Int32))) L ∧ (vp_in ((i) + (((2) : Int32))) L ∧ q_M_fill ((((xs ((i) + (((1) : Int32))).toNatClampNeg).toInt64) <<< ((((32) : Int32)).toInt64 &&& 63)) ||| (((xs ((i) + (((2) : Int32))).toNatClampNeg).toInt64) &&& ((4294967295 : Int64)))) (v) (fun r3 u4 => (((r1) = (r3) → post (u2) (u4) (o)) ∧ (¬ (r1) = (r3) → False))))))))
set_option maxRecDepth 100000 in
theorem w_law_15 {p : Program} {l : Launch} {e : Env} {s : State} {m : MethodId} {args : Array Value} {below : List Frame} {meth : Method} {c : Code} {Z : ZT} {ad bd : Nat → Nat} {oa b L : Nat} {xs : Nat → Int32} {Q : State → Prop} {cells slots : Nat} {post : CT → MT → (Nat → Int64) → Prop} {i : Int32} {u : CT} {v : MT} {o : Nat → Int64} {H : Heap} {locs : List Loc} {ls : Array Slot} (C : CX "CoderTablesLaw" b_W_law 8 (some .boolean) Z (fun q => s.heap.size ≤ q) p l s m args meth c) (hX : va_X b L xs s s.heap) (hbl : b < s.heap.size) (hcs : cells + 1 ≤ 1065 ∧ slots + 6 ≤ 14558) (hw : WD Z (fun q => s.heap.size ≤ q) s (cLw Z ad bd oa u v o) H locs) (hl : lv_has ls 8 [(0, .ref (b)), (1, .ref (ad 0)), (2, .ref (bd 0)), (3, .ref (oa)), (4, .int (i))]) (h : q_law_15 L xs i u v o post) (hpost : ∀ (u : CT) (v : MT) (o : Nat → Int64) (H : Heap) (locs : List Loc) (ls : Array Slot), post u v o → WD Z (fun q => s.heap.size ≤ q) s (cLw Z ad bd oa u v o) H locs → lv_has ls 8 [(0, .ref (b)), (1, .ref (ad 0)), (2, .ref (bd 0)), (3, .ref (oa)), (4, .int (i))] → W p l e room_1 s m args below meth c H locs (cells + 1) (slots + 6) Q (F0 m 1359 ls [])) : W p l e room_1 s m args below meth c H locs cells slots Q (F0 m 1197 ls []) := by
  unfold q_law_15 at h
  refine lv_aload_n C.2.1 C.2.2.1 d_W_law_1197 rfl (lv_at hl 1 rfl) ?_
  refine lv_aload_n C.2.1 C.2.2.1 d_W_law_1198 rfl (lv_at hl 0 rfl) ?_
  refine lv_iload C.2.1 C.2.2.1 d_W_law_1199 (lv_at hl 4 rfl) ?_
  refine lv_iconst (v := (1)) C.2.1 C.2.2.1 d_W_law_1201 (by decide) ?_
  refine lv_iadd C.2.1 C.2.2.1 d_W_law_1202 ?_
  obtain ⟨hi, h⟩ := h
  refine l_sld C hX hbl hw hi d_W_law_1203 ?_
  refine lv_i2l C.2.1 C.2.2.1 d_W_law_1204 rfl ?_
  refine lv_bipush (v := (32)) C.2.1 C.2.2.1 d_W_law_1205 (by decide) ?_
  refine lv_lshl C.2.1 C.2.2.1 d_W_law_1207 rfl ?_
  refine lv_aload_n C.2.1 C.2.2.1 d_W_law_1208 rfl (lv_at hl 0 rfl) ?_
  refine lv_iload C.2.1 C.2.2.1 d_W_law_1209 (lv_at hl 4 rfl) ?_
  refine lv_iconst (v := (2)) C.2.1 C.2.2.1 d_W_law_1211 (by decide) ?_
  refine lv_iadd C.2.1 C.2.2.1 d_W_law_1212 ?_
  obtain ⟨hi, h⟩ := h
  refine l_sld C hX hbl hw hi d_W_law_1213 ?_
  refine lv_i2l C.2.1 C.2.2.1 d_W_law_1214 rfl ?_
  refine lv_ldc2 (v := 4294967295) C.2.1 C.2.2.1 C.2.2.2.2.1 (C.2.2.2.2.2.1 _ w789) d_W_law_1215 ?_
  refine lv_land C.2.1 C.2.2.1 d_W_law_1218 ?_
  refine lv_lor C.2.1 C.2.2.1 d_W_law_1219 ?_
  refine kLV_136 C hw h ⟨Nat.le_of_succ_le hcs.1, Nat.le_trans (Nat.le_add_right _ 6) hcs.2⟩ hl.1 (Nat.le_of_ble_eq_true rfl) d_W_law_1220 (fun r1 u2 H locs h hw => ?_)
  refine lv_aload_n C.2.1 C.2.2.1 d_W_law_1223 rfl (lv_at hl 2 rfl) ?_
  refine lv_aload_n C.2.1 C.2.2.1 d_W_law_1224 rfl (lv_at hl 0 rfl) ?_
  refine lv_iload C.2.1 C.2.2.1 d_W_law_1225 (lv_at hl 4 rfl) ?_
  refine lv_iconst (v := (1)) C.2.1 C.2.2.1 d_W_law_1227 (by decide) ?_
  refine lv_iadd C.2.1 C.2.2.1 d_W_law_1228 ?_
  obtain ⟨hi, h⟩ := h
  refine l_sld C hX hbl hw hi d_W_law_1229 ?_
  refine lv_i2l C.2.1 C.2.2.1 d_W_law_1230 rfl ?_
  refine lv_bipush (v := (32)) C.2.1 C.2.2.1 d_W_law_1231 (by decide) ?_
  refine lv_lshl C.2.1 C.2.2.1 d_W_law_1233 rfl ?_
  refine lv_aload_n C.2.1 C.2.2.1 d_W_law_1234 rfl (lv_at hl 0 rfl) ?_
  refine lv_iload C.2.1 C.2.2.1 d_W_law_1235 (lv_at hl 4 rfl) ?_
  refine lv_iconst (v := (2)) C.2.1 C.2.2.1 d_W_law_1237 (by decide) ?_
  refine lv_iadd C.2.1 C.2.2.1 d_W_law_1238 ?_
  obtain ⟨hi, h⟩ := h
  refine l_sld C hX hbl hw hi d_W_law_1239 ?_
  refine lv_i2l C.2.1 C.2.2.1 d_W_law_1240 rfl ?_
  refine lv_ldc2 (v := 4294967295) C.2.1 C.2.2.1 C.2.2.2.2.1 (C.2.2.2.2.2.1 _ w789) d_W_law_1241 ?_
  refine lv_land C.2.1 C.2.2.1 d_W_law_1244 ?_
  refine lv_lor C.2.1 C.2.2.1 d_W_law_1245 ?_
  refine kLV_140 C hw h ⟨Nat.le_of_succ_le hcs.1, Nat.le_trans (Nat.le_add_right _ 6) hcs.2⟩ hl.1 (Nat.le_of_ble_eq_true rfl) d_W_law_1246 (fun r3 u4 H locs h hw => ?_)
  refine lv_icmp_eq (tgt := 1359) C.2.1 C.2.2.1 d_W_law_1249 (by decide) (fun c => ?_) (fun c => ?_)
  · have h := h.1 c
    refine W.widen (k := cells + 1) (n := slots + 6) (Nat.le_succ _) (Nat.le_add_right _ _) ?_
    exact hpost _ _ _ _ _ _ h hw (lv_sub hl [0, 1, 2, 3, 4] rfl)
  · have h := h.2 c
    refine lv_iconst (v := (0)) C.2.1 C.2.2.1 d_W_law_1252 (by decide) ?_
    exact h.elim
def q_law_16 (L : Nat) (xs : Nat → Int32) (i : Int32) (u : CT) (v : MT) (o : Nat → Int64) (post : CT → MT → (Nat → Int64) → Prop) : Prop :=
  q_X_text (u) (fun r1 u2 => q_M_text (v) (fun r3 u4 => (((r1) = (r3) → post (u2) (u4) (o)) ∧ (¬ (r1) = (r3) → False))))
set_option maxRecDepth 100000 in
theorem w_law_16 {p : Program} {l : Launch} {e : Env} {s : State} {m : MethodId} {args : Array Value} {below : List Frame} {meth : Method} {c : Code} {Z : ZT} {ad bd : Nat → Nat} {oa b L : Nat} {xs : Nat → Int32} {Q : State → Prop} {cells slots : Nat} {post : CT → MT → (Nat → Int64) → Prop} {i : Int32} {u : CT} {v : MT} {o : Nat → Int64} {H : Heap} {locs : List Loc} {ls : Array Slot} (C : CX "CoderTablesLaw" b_W_law 8 (some .boolean) Z (fun q => s.heap.size ≤ q) p l s m args meth c) (hX : va_X b L xs s s.heap) (hbl : b < s.heap.size) (hcs : cells + 1 ≤ 1065 ∧ slots + 6 ≤ 14558) (hw : WD Z (fun q => s.heap.size ≤ q) s (cLw Z ad bd oa u v o) H locs) (hl : lv_has ls 8 [(0, .ref (b)), (1, .ref (ad 0)), (2, .ref (bd 0)), (3, .ref (oa)), (4, .int (i))]) (h : q_law_16 L xs i u v o post) (hpost : ∀ (u : CT) (v : MT) (o : Nat → Int64) (H : Heap) (locs : List Loc) (ls : Array Slot), post u v o → WD Z (fun q => s.heap.size ≤ q) s (cLw Z ad bd oa u v o) H locs → lv_has ls 8 [(0, .ref (b)), (1, .ref (ad 0)), (2, .ref (bd 0)), (3, .ref (oa)), (4, .int (i))] → W p l e room_1 s m args below meth c H locs (cells + 1) (slots + 6) Q (F0 m 1359 ls [])) : W p l e room_1 s m args below meth c H locs cells slots Q (F0 m 1254 ls []) := by
  unfold q_law_16 at h
  refine lv_aload_n C.2.1 C.2.2.1 d_W_law_1254 rfl (lv_at hl 1 rfl) ?_
  refine kLV_141 C hw h ⟨Nat.le_of_succ_le hcs.1, Nat.le_trans (Nat.le_add_right _ 6) hcs.2⟩ hl.1 (Nat.le_of_ble_eq_true rfl) d_W_law_1255 (fun r1 u2 H locs h hw => ?_)
  refine lv_aload_n C.2.1 C.2.2.1 d_W_law_1258 rfl (lv_at hl 2 rfl) ?_
  refine kLV_144 C hw h ⟨Nat.le_of_succ_le hcs.1, Nat.le_trans (Nat.le_add_right _ 6) hcs.2⟩ hl.1 (Nat.le_of_ble_eq_true rfl) d_W_law_1259 (fun r3 u4 H locs h hw => ?_)
  refine lv_icmp_eq (tgt := 1359) C.2.1 C.2.2.1 d_W_law_1262 (by decide) (fun c => ?_) (fun c => ?_)
  · have h := h.1 c
    refine W.widen (k := cells + 1) (n := slots + 6) (Nat.le_succ _) (Nat.le_add_right _ _) ?_
    exact hpost _ _ _ _ _ _ h hw (lv_sub hl [0, 1, 2, 3, 4] rfl)
  · have h := h.2 c
    refine lv_iconst (v := (0)) C.2.1 C.2.2.1 d_W_law_1265 (by decide) ?_
    exact h.elim
def q_law_17 (L : Nat) (xs : Nat → Int32) (i : Int32) (u : CT) (v : MT) (o : Nat → Int64) (post : CT → MT → (Nat → Int64) → Prop) : Prop :=
  (vp_in ((i) + (((1) : Int32))) L ∧ qh_W_charAt (xs ((i) + (((1) : Int32))).toNatClampNeg) (u) (o) (fun r1 z9 => (vp_in ((i) + (((1) : Int32))) L ∧ q_M_charAt (xs ((i) + (((1) : Int32))).toNatClampNeg) (v) (fun r4 u5 => q_M_thrown (u5) (fun r6 u7 => (((r6) = (r1) → ((¬ (r1) = 0 → post (z9.1) (u7) (z9.2)) ∧ ((r1) = 0 → (((lg_cmp ((z9.2) (0 : Int32).toNatClampNeg) ((r4).toInt64)) = 0 → post (z9.1) (u7) (z9.2)) ∧ (¬ (lg_cmp ((z9.2) (0 : Int32).toNatClampNeg) ((r4).toInt64)) = 0 → False))))) ∧ (¬ (r6) = (r1) → False)))))))
set_option maxRecDepth 100000 in
theorem w_law_17 {p : Program} {l : Launch} {e : Env} {s : State} {m : MethodId} {args : Array Value} {below : List Frame} {meth : Method} {c : Code} {Z : ZT} {ad bd : Nat → Nat} {oa b L : Nat} {xs : Nat → Int32} {Q : State → Prop} {cells slots : Nat} {post : CT → MT → (Nat → Int64) → Prop} {i : Int32} {u : CT} {v : MT} {o : Nat → Int64} {H : Heap} {locs : List Loc} {ls : Array Slot} (C : CX "CoderTablesLaw" b_W_law 8 (some .boolean) Z (fun q => s.heap.size ≤ q) p l s m args meth c) (hX : va_X b L xs s s.heap) (hbl : b < s.heap.size) (hcs : cells + 1 ≤ 1065 ∧ slots + 6 ≤ 14558) (hw : WD Z (fun q => s.heap.size ≤ q) s (cLw Z ad bd oa u v o) H locs) (hl : lv_has ls 8 [(0, .ref (b)), (1, .ref (ad 0)), (2, .ref (bd 0)), (3, .ref (oa)), (4, .int (i))]) (h : q_law_17 L xs i u v o post) (hpost : ∀ (u : CT) (v : MT) (o : Nat → Int64) (H : Heap) (locs : List Loc) (ls : Array Slot), post u v o → WD Z (fun q => s.heap.size ≤ q) s (cLw Z ad bd oa u v o) H locs → lv_has ls 8 [(0, .ref (b)), (1, .ref (ad 0)), (2, .ref (bd 0)), (3, .ref (oa)), (4, .int (i))] → W p l e room_1 s m args below meth c H locs (cells + 1) (slots + 6) Q (F0 m 1359 ls [])) : W p l e room_1 s m args below meth c H locs cells slots Q (F0 m 1267 ls []) := by
  unfold q_law_17 at h
  refine lv_aload_n C.2.1 C.2.2.1 d_W_law_1267 rfl (lv_at hl 1 rfl) ?_
  refine lv_aload_n C.2.1 C.2.2.1 d_W_law_1268 rfl (lv_at hl 0 rfl) ?_
  refine lv_iload C.2.1 C.2.2.1 d_W_law_1269 (lv_at hl 4 rfl) ?_
  refine lv_iconst (v := (1)) C.2.1 C.2.2.1 d_W_law_1271 (by decide) ?_
  refine lv_iadd C.2.1 C.2.2.1 d_W_law_1272 ?_
  obtain ⟨hi, h⟩ := h
  refine l_sld C hX hbl hw hi d_W_law_1273 ?_
  refine lv_aload_n C.2.1 C.2.2.1 d_W_law_1274 rfl (lv_at hl 3 rfl) ?_
  refine kLH_145 C hw h hcs hl.1 (Nat.le_of_ble_eq_true rfl) d_W_law_1275 (fun r1 u2 o3 H locs h hw => ?_)
  refine lv_istore (lv' := [(5, .int (r1)), (0, .ref (b)), (1, .ref (ad 0)), (2, .ref (bd 0)), (3, .ref (oa)), (4, .int (i))]) C.2.1 C.2.2.1 d_W_law_1278 hl (by decide) rfl (fun ls hl => ?_)
  refine lv_aload_n C.2.1 C.2.2.1 d_W_law_1280 rfl (lv_at hl 3 rfl) ?_
  refine lv_aload_n C.2.1 C.2.2.1 d_W_law_1281 rfl (lv_at hl 1 rfl) ?_
  refine lv_iload C.2.1 C.2.2.1 d_W_law_1282 (lv_at hl 5 rfl) ?_
  refine lv_iconst (v := (1)) C.2.1 C.2.2.1 d_W_law_1284 (by decide) ?_
  refine lv_iadd C.2.1 C.2.2.1 d_W_law_1285 ?_
  obtain ⟨hi, h⟩ := h
  refine l_sld C hX hbl hw hi d_W_law_1286 ?_
  refine kLV_147 C hw h hcs hl.1 (Nat.le_of_ble_eq_true rfl) d_W_law_1287 (fun r4 u5 H locs h hw => ?_)
  refine lv_istore (lv' := [(6, .int (r4)), (5, .int (r1)), (0, .ref (b)), (1, .ref (ad 0)), (2, .ref (bd 0)), (3, .ref (oa)), (4, .int (i))]) C.2.1 C.2.2.1 d_W_law_1290 hl (by decide) rfl (fun ls hl => ?_)
  refine lv_aload_n C.2.1 C.2.2.1 d_W_law_1292 rfl (lv_at hl 4 rfl) ?_
  refine kLV_81 C hw h hcs hl.1 (Nat.le_of_ble_eq_true rfl) d_W_law_1293 (fun r6 u7 H locs h hw => ?_)
  refine lv_iload C.2.1 C.2.2.1 d_W_law_1296 (lv_at hl 1 rfl) ?_
  refine lv_icmp_eq (tgt := 1303) C.2.1 C.2.2.1 d_W_law_1298 (by decide) (fun c => ?_) (fun c => ?_)
  · have h := h.1 c
    refine lv_iload C.2.1 C.2.2.1 d_W_law_1303 (lv_at hl 1 rfl) ?_
    refine lv_if_ne (tgt := 1320) C.2.1 C.2.2.1 d_W_law_1305 (by decide) (fun c => ?_) (fun c => ?_)
    · have h := h.1 c
      refine lv_goto (tgt := 1359) C.2.1 C.2.2.1 d_W_law_1320 (by decide) ?_
      exact hpost _ _ _ _ _ _ h hw (lv_sub hl [2, 3, 4, 5, 6] rfl)
    · have h := h.2 c
      refine lv_aload_n C.2.1 C.2.2.1 d_W_law_1308 rfl (lv_at hl 5 rfl) ?_
      refine lv_iconst (v := (0)) C.2.1 C.2.2.1 d_W_law_1309 (by decide) ?_
      refine l_old C hw d_W_law_1310 ?_
      refine lv_iload C.2.1 C.2.2.1 d_W_law_1311 (lv_at hl 0 rfl) ?_
      refine lv_i2l C.2.1 C.2.2.1 d_W_law_1313 rfl ?_
      refine W.lcmp C.2.1 C.2.2.1 d_W_law_1314 ?_
      refine lv_if_eq (tgt := 1320) C.2.1 C.2.2.1 d_W_law_1315 (by decide) (fun c => ?_) (fun c => ?_)
      · have h := h.1 c
        refine lv_goto (tgt := 1359) C.2.1 C.2.2.1 d_W_law_1320 (by decide) ?_
        exact hpost _ _ _ _ _ _ h hw (lv_sub hl [2, 3, 4, 5, 6] rfl)
      · have h := h.2 c
        refine lv_iconst (v := (0)) C.2.1 C.2.2.1 d_W_law_1318 (by decide) ?_
        exact h.elim
  · have h := h.2 c
    refine lv_iconst (v := (0)) C.2.1 C.2.2.1 d_W_law_1301 (by decide) ?_
    exact h.elim
def q_law_18 (L : Nat) (xs : Nat → Int32) (i : Int32) (u : CT) (v : MT) (o : Nat → Int64) (post : CT → MT → (Nat → Int64) → Prop) : Prop :=
  (vp_in ((i) + (((1) : Int32))) L ∧ q_X_told (xs ((i) + (((1) : Int32))).toNatClampNeg) (u) (fun r1 u2 => (vp_in ((i) + (((1) : Int32))) L ∧ q_M_told (xs ((i) + (((1) : Int32))).toNatClampNeg) (v) (fun r3 u4 => (((r1) = (r3) → post (u2) (u4) (o)) ∧ (¬ (r1) = (r3) → False))))))
set_option maxRecDepth 100000 in
theorem w_law_18 {p : Program} {l : Launch} {e : Env} {s : State} {m : MethodId} {args : Array Value} {below : List Frame} {meth : Method} {c : Code} {Z : ZT} {ad bd : Nat → Nat} {oa b L : Nat} {xs : Nat → Int32} {Q : State → Prop} {cells slots : Nat} {post : CT → MT → (Nat → Int64) → Prop} {i : Int32} {u : CT} {v : MT} {o : Nat → Int64} {H : Heap} {locs : List Loc} {ls : Array Slot} (C : CX "CoderTablesLaw" b_W_law 8 (some .boolean) Z (fun q => s.heap.size ≤ q) p l s m args meth c) (hX : va_X b L xs s s.heap) (hbl : b < s.heap.size) (hcs : cells + 1 ≤ 1065 ∧ slots + 6 ≤ 14558) (hw : WD Z (fun q => s.heap.size ≤ q) s (cLw Z ad bd oa u v o) H locs) (hl : lv_has ls 8 [(0, .ref (b)), (1, .ref (ad 0)), (2, .ref (bd 0)), (3, .ref (oa)), (4, .int (i))]) (h : q_law_18 L xs i u v o post) (hpost : ∀ (u : CT) (v : MT) (o : Nat → Int64) (H : Heap) (locs : List Loc) (ls : Array Slot), post u v o → WD Z (fun q => s.heap.size ≤ q) s (cLw Z ad bd oa u v o) H locs → lv_has ls 8 [(0, .ref (b)), (1, .ref (ad 0)), (2, .ref (bd 0)), (3, .ref (oa)), (4, .int (i))] → W p l e room_1 s m args below meth c H locs (cells + 1) (slots + 6) Q (F0 m 1359 ls [])) : W p l e room_1 s m args below meth c H locs cells slots Q (F0 m 1323 ls []) := by
  unfold q_law_18 at h
  refine lv_aload_n C.2.1 C.2.2.1 d_W_law_1323 rfl (lv_at hl 1 rfl) ?_
  refine lv_aload_n C.2.1 C.2.2.1 d_W_law_1324 rfl (lv_at hl 0 rfl) ?_
  refine lv_iload C.2.1 C.2.2.1 d_W_law_1325 (lv_at hl 4 rfl) ?_
  refine lv_iconst (v := (1)) C.2.1 C.2.2.1 d_W_law_1327 (by decide) ?_
  refine lv_iadd C.2.1 C.2.2.1 d_W_law_1328 ?_
  obtain ⟨hi, h⟩ := h
  refine l_sld C hX hbl hw hi d_W_law_1329 ?_
  refine kLV_148 C hw h ⟨Nat.le_of_succ_le hcs.1, Nat.le_trans (Nat.le_add_right _ 6) hcs.2⟩ hl.1 (Nat.le_of_ble_eq_true rfl) d_W_law_1330 (fun r1 u2 H locs h hw => ?_)
  refine lv_aload_n C.2.1 C.2.2.1 d_W_law_1333 rfl (lv_at hl 2 rfl) ?_
  refine lv_aload_n C.2.1 C.2.2.1 d_W_law_1334 rfl (lv_at hl 0 rfl) ?_
  refine lv_iload C.2.1 C.2.2.1 d_W_law_1335 (lv_at hl 4 rfl) ?_
  refine lv_iconst (v := (1)) C.2.1 C.2.2.1 d_W_law_1337 (by decide) ?_
  refine lv_iadd C.2.1 C.2.2.1 d_W_law_1338 ?_
  obtain ⟨hi, h⟩ := h
  refine l_sld C hX hbl hw hi d_W_law_1339 ?_
  refine kLV_151 C hw h ⟨Nat.le_of_succ_le hcs.1, Nat.le_trans (Nat.le_add_right _ 6) hcs.2⟩ hl.1 (Nat.le_of_ble_eq_true rfl) d_W_law_1340 (fun r3 u4 H locs h hw => ?_)
  refine lv_icmp_eq (tgt := 1359) C.2.1 C.2.2.1 d_W_law_1343 (by decide) (fun c => ?_) (fun c => ?_)
  · have h := h.1 c
    refine W.widen (k := cells + 1) (n := slots + 6) (Nat.le_succ _) (Nat.le_add_right _ _) ?_
    exact hpost _ _ _ _ _ _ h hw (lv_sub hl [0, 1, 2, 3, 4] rfl)
  · have h := h.2 c
    refine lv_iconst (v := (0)) C.2.1 C.2.2.1 d_W_law_1346 (by decide) ?_
    exact h.elim
def q_law_19 (L : Nat) (xs : Nat → Int32) (i : Int32) (u : CT) (v : MT) (o : Nat → Int64) (post : CT → MT → (Nat → Int64) → Prop) : Prop :=
  q_X_clear (u) (fun u2 => q_M_clear (v) (fun u4 => post (u2) (u4) (o)))
set_option maxRecDepth 100000 in
theorem w_law_19 {p : Program} {l : Launch} {e : Env} {s : State} {m : MethodId} {args : Array Value} {below : List Frame} {meth : Method} {c : Code} {Z : ZT} {ad bd : Nat → Nat} {oa b L : Nat} {xs : Nat → Int32} {Q : State → Prop} {cells slots : Nat} {post : CT → MT → (Nat → Int64) → Prop} {i : Int32} {u : CT} {v : MT} {o : Nat → Int64} {H : Heap} {locs : List Loc} {ls : Array Slot} (C : CX "CoderTablesLaw" b_W_law 8 (some .boolean) Z (fun q => s.heap.size ≤ q) p l s m args meth c) (hX : va_X b L xs s s.heap) (hbl : b < s.heap.size) (hcs : cells + 1 ≤ 1065 ∧ slots + 6 ≤ 14558) (hw : WD Z (fun q => s.heap.size ≤ q) s (cLw Z ad bd oa u v o) H locs) (hl : lv_has ls 8 [(0, .ref (b)), (1, .ref (ad 0)), (2, .ref (bd 0)), (3, .ref (oa)), (4, .int (i))]) (h : q_law_19 L xs i u v o post) (hpost : ∀ (u : CT) (v : MT) (o : Nat → Int64) (H : Heap) (locs : List Loc) (ls : Array Slot), post u v o → WD Z (fun q => s.heap.size ≤ q) s (cLw Z ad bd oa u v o) H locs → lv_has ls 8 [(0, .ref (b)), (1, .ref (ad 0)), (2, .ref (bd 0)), (3, .ref (oa)), (4, .int (i))] → W p l e room_1 s m args below meth c H locs (cells + 1) (slots + 6) Q (F0 m 1359 ls [])) : W p l e room_1 s m args below meth c H locs cells slots Q (F0 m 1348 ls []) := by
  unfold q_law_19 at h
  refine lv_aload_n C.2.1 C.2.2.1 d_W_law_1348 rfl (lv_at hl 1 rfl) ?_
  refine kLV_152 C hw h ⟨Nat.le_of_succ_le hcs.1, Nat.le_trans (Nat.le_add_right _ 6) hcs.2⟩ hl.1 (Nat.le_of_ble_eq_true rfl) d_W_law_1349 (fun u2 H locs h hw => ?_)
  refine lv_aload_n C.2.1 C.2.2.1 d_W_law_1352 rfl (lv_at hl 2 rfl) ?_
  refine kLV_155 C hw h ⟨Nat.le_of_succ_le hcs.1, Nat.le_trans (Nat.le_add_right _ 6) hcs.2⟩ hl.1 (Nat.le_of_ble_eq_true rfl) d_W_law_1353 (fun u4 H locs h hw => ?_)
  refine lv_goto (tgt := 1359) C.2.1 C.2.2.1 d_W_law_1356 (by decide) ?_
  refine W.widen (k := cells + 1) (n := slots + 6) (Nat.le_succ _) (Nat.le_add_right _ _) ?_
  exact hpost _ _ _ _ _ _ h hw (lv_sub hl [0, 1, 2, 3, 4] rfl)
