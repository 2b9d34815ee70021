/-! calls, at WPc -/
/-- what every called method needs of the tables -/
def MthOK (y : Mth) (n : Nat) : Prop := Cond.code y.1 y.2.1 y.2.2.1 y.2.2.2 ∈ gw_tbl ∧ Cond.initialized y.1.cls ∈ gw_tbl ∧ (y.1.cls ≠ "java/lang/invoke/MethodHandle" ∧ y.1.cls ≠ "java/lang/invoke/VarHandle") ∧ (parseMethodDescriptor y.1.desc).map (fun d => d.parameters.length) = some n ∧ y.2.2.1 ≤ 22
theorem WS_good (y : Mth) (h : Cond.code y.1 y.2.1 y.2.2.1 y.2.2.2 ∈ gw_tbl) : GoodIn gw_tbl (WS y) := fun w hw => by
  have hm : w ∈ gw_tbl := (List.mem_cons.mp hw).elim (fun e => by rw [e]; exact h) id
  exact ⟨hm, good_of_word (gw_good w hm)⟩
section RULES4
variable {g : Gt} {y : Mth} {d rc rs pc : Nat} {lv : List (Nat × Value)} {st : List Value} {z : Zs} {I : Is} {Q : Option Value → Zs → Is → Prop}
variable {p : Program} {l : Launch} {e : Env} {R : Room} {s : State} {m : MethodId} {args : Array Value} {below : List Frame} {meth : Method} {c : Code} {H : Heap} {locs : List Loc} {cells slots : Nat} {ls : Array Slot}
theorem runK {mc ms rc' rs' : Nat} {st0 : List Value} {a : Array Value} {Q0 : Option Value → Zs → Is → Prop} (hr : va_Run p l e R s m args below meth c H locs cells slots mc ms (F0 m pc ls st0) (st.map (lf g)) (Qm g Q0 a) (Fa g)) (C : Cx g p y s m args meth c) (h1 : d ≤ R.frames) (h2 : 41 * d ≤ R.locals) (h3 : cells + rc ≤ R.cells) (h4 : slots + rs ≤ R.slots) (hmc : mc + rc' ≤ rc) (hms : ms + rs' ≤ rs) (hX : gX g s H) (hS : va_S (Fa g) s.heap H locs) (hg : g0 g ≤ s.heap.size) (hl : lv_has ls y.2.2.1 (lfs g lv)) (k : ∀ v z' I', Q0 v z' I' → WPc g y d rc' rs' (pc + 3) lv (v.toList ++ st) z' I' Q) : W p l e R s m args below meth c H locs cells slots (MQ below (Qm g Q) args s R.cells R.slots (Fa g)) (F0 m pc ls st0) := by
  intro T hT X
  obtain ⟨v, st₀, t, T', L, h0, X', hL, e1, e2, ⟨⟨v1, z1, I1, hv, hq, hW1⟩, hz, hk⟩, hst⟩ := hr T hT X
  have hv' : v = v1.map (lf g) := by cases hv; rfl
  rw [h0] at hz hk
  have hlow : ∀ q, q < g0 g → T'.heap[q]? = H[q]? := fun q hq => by rw [e1]; exact hk q hq
  have hsz : H.size ≤ T'.heap.size := by rw [e1]; exact hz
  obtain ⟨t2, a1, b1⟩ := k v1 z1 I1 hq p l e R s m args below meth c T'.heap (locs ++ L) (cells + mc) (slots + ms) ls C h1 h2 (by omega) (by omega) (C.2.2.2.2.2.2.2.2.2.2 s H T'.heap (Nat.le_trans hg hS.1) hlow hX) (by rw [e1]; exact hW1)
    ⟨Nat.le_trans hS.1 hsz, fun q h1 h2 => by rw [hlow q (Nat.lt_of_not_le h2)]; exact hS.2.1 q h1 h2, fun q hq => (List.mem_append.mp hq).elim (fun h => hS.2.2 q h) (fun h => hL q h)⟩ hg hl T' rfl X'
  refine ⟨t2, hst t2 ?_, b1⟩
  have e3 : v.toList ++ st.map (lf g) = (v1.toList ++ st).map (lf g) := by rw [hv']; cases v1 <;> simp
  show Steps _ _ _ (T'.setTop { method := m, pc := pc + 3, locals := ls, stack := v.toList ++ st.map (lf g), locked := none }) t2
  rw [e3]
  exact a1
theorem pm_blind {As : List Value} : FrameBlind (Pm g As z I) := fun a U gf mk q => ⟨q.1, va_K.moved (u := U) (U := U.calling gf mk a) (Vm.Alike.refl U.vm) q.2.1, q.2.2.1, q.2.2.1.1 U (U.calling gf mk a) U.heap (State.WarmedH.refl U) q.2.2.2.1, q.2.2.2.2⟩
theorem pm_at {As : List Value} (C : Cx g p y s m args meth c) (hX : gX g s H) (hW : Wh g z I H) : ∀ U : State, U.heap = H → s.WarmedH U.vm → Pm g As z I ((As.map (lf g)).toArray) U := fun U hU hw => ⟨rfl, va_K.moved hw.alike C.2.2.2.2.2.2.2.2.1, C.2.2.2.2.2.2.2.2.2, by rw [hU]; exact C.2.2.2.2.2.2.2.2.2.1 s U H hw hX, by rw [hU]; exact hW⟩
theorem cat_map : (st.map (lf g)).map (fun v => v.category) = st.map (fun v => v.category) := by rw [List.map_map]; exact List.map_congr_left (fun v _ => lf_cat g v)
theorem room_map {stx : List Value} (h : (st.map (fun v => v.category)).sum ≤ 8) : 2 * (F0 m pc ls stx).monitorRoom + ((st.map (lf g)).map fun v => v.category).sum ≤ 8 := lv_room (by rw [cat_map]; exact h)
theorem callB {y' : Mth} {n d' mc ms idx : Nat} (hm : MthOK y' n) (C : Cx g p y s m args meth c) (h1 : d' + 1 ≤ R.frames) (h2 : 41 * (d' + 1) ≤ R.locals) (hlink : Cond.methodLink y.1.cls idx y'.1 ∈ gw_tbl) : CallB R s args y.1.cls idx y'.1 y'.2.1 y'.2.2.1 y'.2.2.2 (WS y') (rmO d' mc ms) mc ms n := by
  obtain ⟨hc, hi, hne, hd, hml⟩ := hm
  have hts := C.2.2.2.2.2.1
  exact callB_of n hts (WS_good y' hc) rfl rfl rfl (hts _ hi) (hts _ hlink) ⟨hne.1, hne.2, hd⟩ ⟨h1, by show 8 + (y'.2.2.1 + 11) + 41 * d' ≤ _; omega⟩
theorem cfix (C : Cx g p y s m args meth c) : CallFix p m c y.2.1 y.2.2.1 s args gw_tbl y.1.cls := ⟨C.1, C.2.1, C.2.2.1, C.2.2.2.2.1, C.2.2.2.2.2.1⟩
theorem stk (As : List Value) (r : List Value) : (As.reverse ++ r).map (lf g) = (As.map (lf g)).reverse ++ r.map (lf g) := by rw [List.map_append, List.map_reverse]
end RULES4
section RULES5
variable {g : Gt} {y : Mth} {d rc rs pc : Nat} {lv : List (Nat × Value)} {st : List Value} {z : Zs} {I : Is} {Q : Option Value → Zs → Is → Prop}
def CalS (own : String) (idx : Nat) (y' : Mth) (n : Nat) : Prop := MthOK y' n ∧ Cond.methodLink own idx y'.1 ∈ gw_tbl ∧ Cond.static y'.1 ∈ gw_tbl
theorem r_callS {idx n mc ms rc' rs' : Nat} {y' : Mth} (As : List Value) (hd : decode y.2.1 pc = .ok (.invokestatic idx, 3)) (hc : CalS y.1.cls idx y' n) (hn : As.length = n) (hcat : (st.map (fun v => v.category)).sum ≤ 8) (hmc : mc + rc' ≤ rc) (hms : ms + rs' ≤ rs) (hM : WPm g y' d mc ms As z I (fun v z' I' => WPc g y (d + 1) rc' rs' (pc + 3) lv (v.toList ++ st) z' I' Q)) : WPc g y (d + 1) rc rs pc lv (As.reverse ++ st) z I Q := by
  intro p l e R s m args below meth c H locs cells slots ls C h1 h2 h3 h4 hX hW hS hg hl
  refine runK (va_runS (As := As.map (lf g)) (n := n) (cfix C) (hM l) ⟨callB hc.1 C h1 h2 hc.2.1, C.2.2.2.2.2.1 _ hc.2.2⟩ ⟨pm_blind, pm_at C hX hW⟩ rfl (by rw [List.length_map]; exact hn) hl.1 (stk As st) (room_map hcat) hd ⟨by omega, by omega⟩) C h1 h2 h3 h4 hmc hms hX hS hg hl (fun v z' I' q => q)
/-- the receiver's cell is of class ci -/
theorem recvO {g : Gt} {y : Mth} {z : Zs} {I : Is} {H : Heap} {p : Program} {s : State} {m : MethodId} {args : Array Value} {meth : Method} {c : Code} {a ci : Nat} {C0 : String} {T : u_T} (C : Cx g p y s m args meth c) (hW : Wh g z I H) (ht : zT z a = ci) (hc : ClsF ci C0 T) : ∃ cell : Cell, H[ad g a]? = some cell ∧ cell.vm.isStatics = false ∧ s.vm.findClass C0 = some cell.cls := by
  have h13 := hc.2.2.2.2
  obtain ⟨h8, hlt⟩ := hW.inN (k := a) (by omega)
  exact va_recv (D := gD g) (q := (C0, T, clN ci)) C.2.2.2.2.2.2.2.2.1 hW.2.2.2.1 (q0 := a - 8) hc.1 (by rw [wsO_get h8 hlt, elm_obj ht (by omega)])
def CalI (own : String) (idx : Nat) (y' : Mth) (n : Nat) : Prop := MthOK y' n ∧ Cond.methodLink own idx y'.1 ∈ gw_tbl ∧ Cond.instanceMethod y'.1 ∈ gw_tbl ∧ y'.1.name = "<init>" ∧ y'.2.2.2 = none
theorem r_callI {idx n mc ms rc' rs' a : Nat} {y' : Mth} (As : List Value) (hd : decode y.2.1 pc = .ok (.invokespecial idx, 3)) (hc : CalI y.1.cls idx y' n) (hn : As.length = n) (hcat : (st.map (fun v => v.category)).sum ≤ 8) (hmc : mc + rc' ≤ rc) (hms : ms + rs' ≤ rs) (hM : WPm g y' d mc ms (.ref a :: As) z I (fun v z' I' => WPc g y (d + 1) rc' rs' (pc + 3) lv (v.toList ++ st) z' I' Q)) : WPc g y (d + 1) rc rs pc lv (As.reverse ++ .ref a :: st) z I Q := by
  intro p l e R s m args below meth c H locs cells slots ls C h1 h2 h3 h4 hX hW hS hg hl
  have hB := callB (R := R) (mc := mc) (ms := ms) hc.1 C h1 h2 hc.2.1
  rw [hc.2.2.2.2] at hB
  exact runK (va_runI (As := As.map (lf g)) (b := ad g a) (n := n) (bytes := y'.2.1) (maxL := y'.2.2.1) (ws := WS y') (cfix C) (hM l) ⟨hB, hc.2.2.2.1, C.2.2.2.2.2.1 _ hc.2.2.1⟩ ⟨pm_blind, pm_at (As := .ref a :: As) C hX hW⟩ rfl (by rw [List.length_map]; exact hn) hl.1 (stk As (.ref a :: st)) (room_map hcat) hd ⟨by omega, by omega⟩) C h1 h2 h3 h4 hmc hms hX hS hg hl (fun v z' I' q => q)
def CalV (own : String) (idx : Nat) (y' : Mth) (n ci : Nat) : Prop := MthOK y' n ∧ Cond.methodLink own idx y'.1 ∈ gw_tbl ∧ Cond.instanceMethod y'.1 ∈ gw_tbl ∧ ∃ C T, ClsF ci C T ∧ C = y'.1.cls ∧ Cond.selects C y'.1 y'.1 ∈ gw_tbl
theorem r_callV {idx n ci mc ms rc' rs' a : Nat} {y' : Mth} (As : List Value) (hd : decode y.2.1 pc = .ok (.invokevirtual idx, 3)) (hc : CalV y.1.cls idx y' n ci) (ht : zT z a = ci) (hn : As.length = n) (hcat : (st.map (fun v => v.category)).sum ≤ 8) (hmc : mc + rc' ≤ rc) (hms : ms + rs' ≤ rs) (hM : WPm g y' d mc ms (.ref a :: As) z I (fun v z' I' => WPc g y (d + 1) rc' rs' (pc + 3) lv (v.toList ++ st) z' I' Q)) : WPc g y (d + 1) rc rs pc lv (As.reverse ++ .ref a :: st) z I Q := by
  intro p l e R s m args below meth c H locs cells slots ls C h1 h2 h3 h4 hX hW hS hg hl
  obtain ⟨hm, hlink, hinst, C0, T, hcl, hC0, hsel⟩ := hc
  have hts := C.2.2.2.2.2.1
  exact runK (va_runV (C := C0) (As := As.map (lf g)) (b := ad g a) (n := n) (cfix C) (hM l) ⟨callB hm C h1 h2 hlink, hts _ hinst, hts _ hsel⟩ ⟨pm_blind, recvO C hW ht hcl, pm_at (As := .ref a :: As) C hX hW⟩ rfl (by rw [List.length_map]; exact hn) hl.1 (stk As (.ref a :: st)) (room_map hcat) hd ⟨by omega, by omega⟩) C h1 h2 h3 h4 hmc hms hX hS hg hl (fun v z' I' q => q)
/-- a virtual call of x (named in the pool; owner declares it) that comes to y' for receivers of class ci -/
def CalU (own : String) (idx : Nat) (x : MethodName) (y' : Mth) (n ci : Nat) : Prop := MthOK y' n ∧ Cond.methodLink own idx x ∈ gw_tbl ∧ Cond.instanceMethod y'.1 ∈ gw_tbl ∧ ∃ (C : String) (T : u_T) (owner : String) (b0 : ByteArray) (m0 : Nat) (r0 : Option FieldType), ClsF ci C T ∧ Cond.sameMethod x.cls owner x.name x.desc ∈ gw_tbl ∧ Cond.instanceMethod ⟨owner, x.name, x.desc⟩ ∈ gw_tbl ∧ Cond.code ⟨owner, x.name, x.desc⟩ b0 m0 r0 ∈ gw_tbl ∧ Cond.selects C x y'.1 ∈ gw_tbl ∧ (owner ≠ "java/lang/invoke/MethodHandle" ∧ owner ≠ "java/lang/invoke/VarHandle") ∧ (parseMethodDescriptor x.desc).map (fun d => d.parameters.length) = some n
theorem r_callU {idx n ci mc ms rc' rs' a : Nat} {x : MethodName} {y' : Mth} (As : List Value) (hd : decode y.2.1 pc = .ok (.invokevirtual idx, 3)) (hc : CalU y.1.cls idx x y' n ci) (ht : zT z a = ci) (hn : As.length = n) (hcat : (st.map (fun v => v.category)).sum ≤ 8) (hmc : mc + rc' ≤ rc) (hms : ms + rs' ≤ rs) (hM : WPm g y' d mc ms (.ref a :: As) z I (fun v z' I' => WPc g y (d + 1) rc' rs' (pc + 3) lv (v.toList ++ st) z' I' Q)) : WPc g y (d + 1) rc rs pc lv (As.reverse ++ .ref a :: st) z I Q := by
  intro p l e R s m args below meth c H locs cells slots ls C h1 h2 h3 h4 hX hW hS hg hl
  obtain ⟨hm, hlink, hinst, C0, T, owner, b0, m0, r0, hcl, hsame, hio, hco, hsel, hne, hdesc⟩ := hc
  have hts := C.2.2.2.2.2.1
  have hG := WS_good y' hm.1
  have hcu : va_CU R s args y.1.cls C0 owner idx x y'.1 y'.2.1 y'.2.2.1 y'.2.2.2 (WS y') (rmO d mc ms) mc ms n := by
    refine ⟨⟨rfl, rfl, h1, by show 8 + (y'.2.2.1 + 11) + 41 * d ≤ _; have := hm.2.2.2.2; omega, pay_in hts hG, List.mem_cons_self⟩, hts _ hm.1, hts _ hm.2.1, hne, fun sig h => ?_, hts _ hlink, hts _ hsame, va_Decl.of (hts _ hio) (hts _ hco), hts _ hsel, hts _ hinst⟩
    rw [h] at hdesc
    exact (Option.some.inj hdesc).symm
  exact runK (va_runU (As := As.map (lf g)) (b := ad g a) (n := n) (cfix C) (hM l) hcu ⟨pm_blind, recvO C hW ht hcl, pm_at (As := .ref a :: As) C hX hW⟩ rfl (by rw [List.length_map]; exact hn) hl.1 (stk As (.ref a :: st)) (room_map hcat) hd ⟨by omega, by omega⟩) C h1 h2 h3 h4 hmc hms hX hS hg hl (fun v z' I' q => q)
/-- super.y'(..), for receivers of class ci -/
def CalP (own : String) (idx : Nat) (y' : Mth) (n ci : Nat) : Prop := MthOK y' n ∧ Cond.methodLink own idx y'.1 ∈ gw_tbl ∧ Cond.instanceMethod y'.1 ∈ gw_tbl ∧ Cond.sameMethod y'.1.cls y'.1.cls y'.1.name y'.1.desc ∈ gw_tbl ∧ Cond.superclass own y'.1.cls ∈ gw_tbl ∧ y'.1.name ≠ "<init>" ∧ ∃ C T, ClsF ci C T
theorem r_callP {idx n ci mc ms rc' rs' a : Nat} {y' : Mth} (As : List Value) (hd : decode y.2.1 pc = .ok (.invokespecial idx, 3)) (hc : CalP y.1.cls idx y' n ci) (ht : zT z a = ci) (hn : As.length = n) (hcat : (st.map (fun v => v.category)).sum ≤ 8) (hmc : mc + rc' ≤ rc) (hms : ms + rs' ≤ rs) (hM : WPm g y' d mc ms (.ref a :: As) z I (fun v z' I' => WPc g y (d + 1) rc' rs' (pc + 3) lv (v.toList ++ st) z' I' Q)) : WPc g y (d + 1) rc rs pc lv (As.reverse ++ .ref a :: st) z I Q := by
  intro p l e R s m args below meth c H locs cells slots ls C h1 h2 h3 h4 hX hW hS hg hl
  obtain ⟨hm, hlink, hinst, hsame, hsup, hni, C0, T, hcl⟩ := hc
  have hts := C.2.2.2.2.2.1
  have hG := WS_good y' hm.1
  have hcs : va_CS R s args y.1.cls idx y'.1 y'.2.1 y'.2.2.1 y'.2.2.2 (WS y') (rmO d mc ms) mc ms n := by
    refine ⟨⟨rfl, rfl, h1, by show 8 + (y'.2.2.1 + 11) + 41 * d ≤ _; have := hm.2.2.2.2; omega, pay_in hts hG, List.mem_cons_self⟩, hts _ hlink, hts _ hsame, hts _ hsup, hts _ hinst, hts _ hm.2.1, hts _ hm.1, hni, fun sig h => ?_⟩
    have hdesc := hm.2.2.2.1
    rw [h] at hdesc
    exact (Option.some.inj hdesc).symm
  have hat := (C.2.2.2.2.2.2.2.2.1.1 ci _ hcl.1).2
  exact runK (va_runSU (hat := hat) (As := As.map (lf g)) (b := ad g a) (n := n) (cfix C) (hM l) hcs ⟨pm_blind, recvO C hW ht hcl, pm_at (As := .ref a :: As) C hX hW⟩ rfl (by rw [List.length_map]; exact hn) hl.1 (stk As (.ref a :: st)) (room_map hcat) hd ⟨by omega, by omega⟩) C h1 h2 h3 h4 hmc hms hX hS hg hl (fun v z' I' q => q)
/-- super.x(..), where x is inherited: the pool names the superclass x.cls, the code is y' of its superclass -/
def CalQ (own : String) (idx : Nat) (x : MethodName) (y' : Mth) (n ci : Nat) : Prop := MthOK y' n ∧ Cond.methodLink own idx x ∈ gw_tbl ∧ Cond.instanceMethod y'.1 ∈ gw_tbl ∧ Cond.sameMethod x.cls y'.1.cls x.name x.desc ∈ gw_tbl ∧ Cond.superclass own x.cls ∈ gw_tbl ∧ Cond.superclass x.cls y'.1.cls ∈ gw_tbl ∧ (y'.1.name ≠ "<init>" ∧ x.name = y'.1.name ∧ x.desc = y'.1.desc) ∧ ∃ C T, ClsF ci C T
theorem r_callQ {idx n ci mc ms rc' rs' a : Nat} {x : MethodName} {y' : Mth} (As : List Value) (hd : decode y.2.1 pc = .ok (.invokespecial idx, 3)) (hc : CalQ y.1.cls idx x y' n ci) (ht : zT z a = ci) (hn : As.length = n) (hcat : (st.map (fun v => v.category)).sum ≤ 8) (hmc : mc + rc' ≤ rc) (hms : ms + rs' ≤ rs) (hM : WPm g y' d mc ms (.ref a :: As) z I (fun v z' I' => WPc g y (d + 1) rc' rs' (pc + 3) lv (v.toList ++ st) z' I' Q)) : WPc g y (d + 1) rc rs pc lv (As.reverse ++ .ref a :: st) z I Q := by
  intro p l e R s m args below meth c H locs cells slots ls C h1 h2 h3 h4 hX hW hS hg hl
  obtain ⟨hm, hlink, hinst, hsame, hsup, hsup2, ⟨hni, hxn, hxd⟩, C0, T0, hcl⟩ := hc
  have hts := C.2.2.2.2.2.1
  have hG := WS_good y' hm.1
  obtain ⟨hx, hb, hml, hown, -⟩ := cfix C
  obtain ⟨cellB, hcB, hoB, hclB⟩ := recvO C hW ht hcl
  obtain ⟨hfc, kB, hkB, -⟩ := (C.2.2.2.2.2.2.2.2.1.1 ci _ hcl.1).2
  have hcc : cellB.cls = (gD g).1 ci := (Option.some.inj (hfc.symm.trans hclB)).symm
  refine runK (mc := mc) (ms := ms) (Q0 := fun v z' I' => WPc g y (d + 1) rc' rs' (pc + 3) lv (v.toList ++ st) z' I' Q) (a := (Value.ref (ad g a) :: As.map (lf g)).toArray) ?_ C h1 h2 h3 h4 hmc hms hX hS hg hl (fun v z' I' q => q)
  intro T hT X
  obtain ⟨mk, methM, hnamed, hmethM, hstM, habM⟩ := Cond.instanceMethod_spec (hts _ hinst)
  obtain ⟨methM', cM, hmethM', -, -, -, -, -, -, hsigM⟩ := Cond.code_spec hnamed (hts _ hm.1)
  cases hmethM.symm.trans hmethM'
  obtain ⟨ps, dk, kp, hps, hdk, hkp, hsuper, -, -, hnid⟩ := Cond.superclass_spec hown (hts _ hsup)
  obtain ⟨ps2, dk2, kp2, hps2, hdk2, hkp2, hsuper2, -, -, -⟩ := Cond.superclass_spec hps (hts _ hsup2)
  have hn2 : s.methodNamed? ⟨y'.1.cls, x.name, x.desc⟩ = some mk := by rw [hxn, hxd]; exact hnamed
  have hpm : ps2 = mk.cls := Option.some.inj (hps2.symm.trans (findClass_of_methodNamed hnamed))
  have hsub : s.vm.isSubclass ps mk.cls = true := by
    rw [← hpm]
    obtain ⟨k, hk⟩ : ∃ k, s.vm.classes.size = k + 1 := ⟨s.vm.classes.size - 1, by have := (Array.getElem?_eq_some_iff.mp hdk).1; omega⟩
    unfold Vm.isSubclass
    rw [hk]
    simp [Vm.isSubclassAux, hdk2, hsuper2]
  obtain ⟨vm₁, X₁, hstep₁⟩ := X.invokespecialUp hx hown (hts _ hlink) (hts _ hsame) hn2 hmethM hstM habM (by rw [hxn]; exact hni) hdk hnid hps hsuper hsub (a := ad g a) (cell := cellB) (by rw [hT]; exact hcB)
    (fun z h => by rw [h] at hoB; cases hoB) (by rw [hcc]; exact hkB) (g := F0 m pc ls ((As.reverse ++ .ref a :: st : List Value).map (lf g))) rfl (argsL := As.map (lf g)) (rest := st.map (lf g)) (by
      rw [List.length_map, hn]
      have hdesc := hm.2.2.2.1
      rw [hsigM] at hdesc
      exact (Option.some.inj hdesc).symm) (stk As (.ref a :: st)) (by rw [hb]; exact hd)
  have hK : Back l R p e below s args y'.1 3 8 (PreOf R mc ms (Pm g (.ref a :: As) z I)) (PostOf (Qm g (fun v z' I' => WPc g y (d + 1) rc' rs' (pc + 3) lv (v.toList ++ st) z' I' Q)) mc ms (Fa g)) := back_of (bytes := y'.2.1) (maxL := y'.2.2.1) (ret := y'.2.2.2) (hM l) pm_blind rfl rfl h1 (by show 8 + (y'.2.2.1 + 11) + 41 * d ≤ _; have := hm.2.2.2.2; omega) (pay_in hts hG) List.mem_cons_self (fun a' U hW => word_at hW (Or.inl (by first | rfl | simp [Cond.onTables, Cond.keeps, Cond.steady])) (hts _ hm.2.1))
  obtain ⟨v, ⟨U', l2, c2, s2⟩, X', hpost, hsteps⟩ := hK m meth c ⟨T.setVm vm₁, locs, cells, slots⟩ (F0 m pc ls (st.map (lf g))) (.invokespecial idx) mk (Value.ref (ad g a) :: As.map (lf g)).toArray X₁ rfl (hl.1.trans hml.symm) (by rw [hb]; exact hd) (room_map hcat) (X₁.named hnamed) ⟨by show cells + mc ≤ _; omega, by show slots + ms ≤ _; omega, pm_at (As := .ref a :: As) C hX hW (T.setVm vm₁) hT X₁.warmed⟩
  obtain ⟨g', mk', t, L, e1, e2, hq, q1, hL, q2, q3⟩ := hpost
  dsimp only [Pt.U, Pt.locs, Pt.cells, Pt.slots] at X' e1 e2 q1 q2 q3 hsteps
  subst q1; subst q2; subst q3
  exact ⟨v, (T.setVm vm₁).calling g' mk' (Value.ref (ad g a) :: As.map (lf g)).toArray, t, U', L, hT, X', hL, e1, e2, hq, fun target h => hstep₁ _ (by rw [doInvoke_state]; exact hsteps.trans h)⟩
-- private ones of a nest mate
def NstOK (own : String) (idx : Nat) (y' : Mth) (n : Nat) (host : String) : Prop := MthOK y' n ∧ (own, idx, y'.1, host) ∈ NsL
theorem nestC {g : Gt} {y : Mth} {p : Program} {R : Room} {s : State} {m : MethodId} {args : Array Value} {meth : Method} {c : Code} {y' : Mth} {n d' mc ms idx : Nat} {host : String} (hm : NstOK y.1.cls idx y' n host) (hl0 : ∀ q ∈ NsL, va_Nw (.methodLinkNest q.1 q.2.1 q.2.2.1 q.2.2.2) s) (C : Cx g p y s m args meth c) (h1 : d' + 1 ≤ R.frames) (h2 : 41 * (d' + 1) ≤ R.locals) : va_CN R s args y.1.cls idx y'.1 host y'.2.1 y'.2.2.1 y'.2.2.2 (WS y') (rmO d' mc ms) mc ms n := by
  obtain ⟨⟨hc, hi, hne, hd, hml⟩, hl⟩ := hm
  have hts := C.2.2.2.2.2.1
  refine ⟨⟨rfl, rfl, h1, by show 8 + (y'.2.2.1 + 11) + 41 * d' ≤ _; omega, pay_in hts (WS_good y' hc), List.mem_cons_self⟩, hts _ hc, hts _ hi, hne, fun sig h => ?_, va_Nw.use rfl (hl0 _ hl)⟩
  rw [h] at hd
  exact (Option.some.inj hd).symm
theorem r_callSN {idx n mc ms rc' rs' : Nat} {y' : Mth} {host : String} (hgc : GC g) (As : List Value) (hd : decode y.2.1 pc = .ok (.invokestatic idx, 3)) (hc : NstOK y.1.cls idx y' n host) (hst : Cond.static y'.1 ∈ gw_tbl) (hn : As.length = n) (hcat : (st.map (fun v => v.category)).sum ≤ 8) (hmc : mc + rc' ≤ rc) (hms : ms + rs' ≤ rs) (hM : WPm g y' d mc ms As z I (fun v z' I' => WPc g y (d + 1) rc' rs' (pc + 3) lv (v.toList ++ st) z' I' Q)) : WPc g y (d + 1) rc rs pc lv (As.reverse ++ st) z I Q := by
  intro p l e R s m args below meth c H locs cells slots ls C h1 h2 h3 h4 hX hW hS hg hl
  exact runK (va_runSN (As := As.map (lf g)) (n := n) (cfix C) (hM l) ⟨nestC hc (hgc.2 s H hX).2 C h1 h2, C.2.2.2.2.2.1 _ hst, trivial⟩ ⟨pm_blind, pm_at C hX hW⟩ rfl (by rw [List.length_map]; exact hn) hl.1 (stk As st) (room_map hcat) hd ⟨by omega, by omega⟩) C h1 h2 h3 h4 hmc hms hX hS hg hl (fun v z' I' q => q)
theorem r_callIN {idx n mc ms rc' rs' a : Nat} {y' : Mth} {host : String} (hgc : GC g) (As : List Value) (hd : decode y.2.1 pc = .ok (.invokespecial idx, 3)) (hc : NstOK y.1.cls idx y' n host) (hin : Cond.instanceMethod y'.1 ∈ gw_tbl) (hnm : y'.1.name = "<init>") (hrn : y'.2.2.2 = none) (hn : As.length = n) (hcat : (st.map (fun v => v.category)).sum ≤ 8) (hmc : mc + rc' ≤ rc) (hms : ms + rs' ≤ rs) (hM : WPm g y' d mc ms (.ref a :: As) z I (fun v z' I' => WPc g y (d + 1) rc' rs' (pc + 3) lv (v.toList ++ st) z' I' Q)) : WPc g y (d + 1) rc rs pc lv (As.reverse ++ .ref a :: st) z I Q := by
  intro p l e R s m args below meth c H locs cells slots ls C h1 h2 h3 h4 hX hW hS hg hl
  have hB := nestC (R := R) (mc := mc) (ms := ms) hc (hgc.2 s H hX).2 C h1 h2
  rw [hrn] at hB
  exact runK (va_runIN (As := As.map (lf g)) (b := ad g a) (n := n) (bytes := y'.2.1) (maxL := y'.2.2.1) (ws := WS y') (cfix C) (hM l) ⟨hB, hnm, C.2.2.2.2.2.1 _ hin⟩ ⟨pm_blind, pm_at (As := .ref a :: As) C hX hW⟩ rfl (by rw [List.length_map]; exact hn) hl.1 (stk As (.ref a :: st)) (room_map hcat) hd ⟨by omega, by omega⟩) C h1 h2 h3 h4 hmc hms hX hS hg hl (fun v z' I' q => q)
/-- Object.<init> -/
def ObjOK (own : String) (idx : Nat) : Prop := Cond.methodLink own idx Lib.objectInit ∈ gw_tbl ∧ Cond.instanceMethod Lib.objectInit ∈ gw_tbl ∧ Cond.code Lib.objectInit ⟨#[0xb1]⟩ 1 none ∈ gw_tbl
theorem r_objInit {idx a : Nat} (hd : decode y.2.1 pc = .ok (.invokespecial idx, 3)) (hc : ObjOK y.1.cls idx) (hcat : (st.map (fun v => v.category)).sum ≤ 8) (k : WPc g y (d + 1) rc rs (pc + 3) lv st z I Q) : WPc g y (d + 1) rc rs pc lv (.ref a :: st) z I Q := by
  intro p l e R s m args below meth c H locs cells slots ls C h1 h2 h3 h4 hX hW hS hg hl
  have hts := C.2.2.2.2.2.1
  have hr := room_map (g := g) (m := m) (pc := pc) (ls := ls) (stx := (Value.ref a :: st).map (lf g)) hcat
  refine W.objInit C.1 C.2.1 C.2.2.2.2.1 (hts _ hc.1) (hts _ hc.2.1) (hts _ hc.2.2) rfl (hl.1.trans C.2.2.1.symm) rfl hd (by omega) (by omega) ?_
  exact W.eq (g2 := F0 m (pc + 3) ls (st.map (lf g))) rfl (k p l e R s m args below meth c H locs cells slots ls C h1 h2 h3 h4 hX hW hS hg hl)
/-- instanceof -/
theorem r_instY {idx a ci : Nat} {nm : String} (hgc : GC g) (hd : decode y.2.1 pc = .ok (.instanceof idx, 3)) (ht : zT z a = ci) (hl0 : Cond.classLink y.1.cls idx nm ∈ gw_tbl) (hy : ∃ C T, ClsF ci C T ∧ (C = nm ∨ (C, nm) ∈ CaL)) (k : WPc g y d rc rs (pc + 3) lv (.int 1 :: st) z I Q) : WPc g y d rc rs pc lv (.ref a :: st) z I Q := by
  intro p l e R s m args below meth c H locs cells slots ls C h1 h2 h3 h4 hX hW hS hg hl
  have hts := C.2.2.2.2.2.1
  obtain ⟨C0, T, hcl, hor⟩ := hy
  rcases hor with rfl | hcast
  · exact va_instS C.1 C.2.1 C.2.2.2.2.1 (hts _ hl0) (C.2.2.2.2.2.2.2.2.1.1 ci _ hcl.1).2 (recvO C hW ht hcl) hd (k p l e R s m args below meth c H locs cells slots ls C h1 h2 h3 h4 hX hW hS hg hl)
  · exact va_instY C.1 C.2.1 C.2.2.2.2.1 (hts _ hl0) (hgc.1 s H hX _ hcast) (recvO C hW ht hcl) hd (k p l e R s m args below meth c H locs cells slots ls C h1 h2 h3 h4 hX hW hS hg hl)
theorem r_instN {idx a ci : Nat} {nm : String} (hd : decode y.2.1 pc = .ok (.instanceof idx, 3)) (ht : zT z a = ci) (hl0 : Cond.classLink y.1.cls idx nm ∈ gw_tbl) {C0 : String} {T0 : u_T} (hcl : ClsF ci C0 T0) (hn : ∀ (s : State) (H : Heap), gX g s H → va_Nc C0 nm s) (k : WPc g y d rc rs (pc + 3) lv (.int 0 :: st) z I Q) : WPc g y d rc rs pc lv (.ref a :: st) z I Q := by
  intro p l e R s m args below meth c H locs cells slots ls C h1 h2 h3 h4 hX hW hS hg hl
  exact va_instNo C.1 C.2.1 C.2.2.2.2.1 (C.2.2.2.2.2.1 _ hl0) (hn s H hX) (recvO C hW ht hcl) hd (k p l e R s m args below meth c H locs cells slots ls C h1 h2 h3 h4 hX hW hS hg hl)
theorem r_ldc {idx : Nat} {v : Int32} (hd : decode y.2.1 pc = .ok (.ldc idx, 2)) (hc : Cond.constant y.1.cls idx v ∈ gw_tbl) (k : WPc g y d rc rs (pc + 2) lv (.int v :: st) z I Q) : WPc g y d rc rs pc lv st z I Q := fun p l e R s m args below meth c H locs cells slots ls C h1 h2 h3 h4 hX hW hS hg hl => lv_ldc C.1 C.2.1 C.2.2.2.2.1 (C.2.2.2.2.2.1 _ hc) hd (k p l e R s m args below meth c H locs cells slots ls C h1 h2 h3 h4 hX hW hS hg hl)
theorem r_ldcw {idx : Nat} {v : Int32} (hd : decode y.2.1 pc = .ok (.ldc_w idx, 3)) (hc : Cond.constant y.1.cls idx v ∈ gw_tbl) (k : WPc g y d rc rs (pc + 3) lv (.int v :: st) z I Q) : WPc g y d rc rs pc lv st z I Q := fun p l e R s m args below meth c H locs cells slots ls C h1 h2 h3 h4 hX hW hS hg hl => lv_ldcw C.1 C.2.1 C.2.2.2.2.1 (C.2.2.2.2.2.1 _ hc) hd (k p l e R s m args below meth c H locs cells slots ls C h1 h2 h3 h4 hX hW hS hg hl)
theorem r_ldc2 {idx : Nat} {v : Int64} (hd : decode y.2.1 pc = .ok (.ldc2_w idx, 3)) (hc : Cond.constantLong y.1.cls idx v ∈ gw_tbl) (k : WPc g y d rc rs (pc + 3) lv (.long v :: st) z I Q) : WPc g y d rc rs pc lv st z I Q := fun p l e R s m args below meth c H locs cells slots ls C h1 h2 h3 h4 hX hW hS hg hl => lv_ldc2 C.1 C.2.1 C.2.2.2.2.1 (C.2.2.2.2.2.1 _ hc) hd (k p l e R s m args below meth c H locs cells slots ls C h1 h2 h3 h4 hX hW hS hg hl)
end RULES5
