/-! THE CLAIM OUT OF ONE WALK OF THE LAW'S BODY. Your part is whole_start (and what it stands on); all else here is the same for every law, but numbers. -/
def R_law : String := "UnlikeCoinsLaw"
def lw_P (b : Addr) (xs : List Int32) (args : Array Value) (s : State) : Prop := args = #[.ref b] ∧ s.IntsAt b xs ∧ xs.length ≤ 3584 ∧ (Jvm.Cond.and given_1 narrow_1).before args s = true
def lw_Q (_ : Array Value) (s : State) (o : Outcome) (t : State) : Prop := o = .returned (some (.int 1)) ∧ Framed s o t [] 663789 7110881
def lw_Z (below : List Frame) (a : Array Value) (s : State) : State → Prop := fun t => ∃ o, t.status = .running ∧ Ended t below o ∧ lw_Q a s o t
/-- the law's own end, with 1 on the stack, nothing written that was there before, its room as the claim has it -/
theorem lw_ret {p : Program} {l : Launch} {e : Env} {s : State} {m : MethodId} {below : List Frame} {meth : Method} {c : Code} {b : Nat} (hx : p.tables.exec = Jvm.exec) (hb : c.code = code) (hr : meth.sig.returnType = ret) (hlocks : meth.locks = false) {pc : Nat} {H : Heap} {ls : Array Slot} (hdg : decode code pc = .ok (.ireturn, 1)) : W p l e room_1 s m #[Value.ref b] below meth c H [] 663789 7110881 (lw_Z below #[Value.ref b] s) (F0 m pc ls [.int 1]) := by
  intro T hT X
  obtain ⟨fs, hret, hrun, hended, hW, hframe⟩ := X.leave (v := some (.int 1)) (hlocks := hlocks) (fun h => by rw [hr] at h; cases h)
  have hmeth' : T.vm.method? m = some meth := X.method'
  refine ⟨T.setFrames fs, ?_, .returned (some (.int 1)), hrun, hended, rfl, ⟨_, rfl⟩, hW, hframe⟩
  jvm_step X.here [X.here.top, hx, hb, hdg, hmeth', hr, ret, narrow_b1]
  (try refine ⟨rfl, ?_⟩); (try refine ⟨rfl, ?_⟩)
  first | (intro acts; rw [hret _ acts rfl rfl rfl]) | rw [hret _ _ rfl rfl rfl]
  exact Steps.refl _
/-- what holds at the law's entry: the machine, the code, the tables' words (any of lw_tbl by 'hts w (by decide +kernel)'), the script of L ints xs at the cell b, what the Statement gives of the start (any of its parts by flat_of_before) -/
def lw_At (p : Program) (s : State) (m : MethodId) (meth : Method) (c : Code) (b L : Nat) (xs : Nat → Int32) : Prop :=
  p.tables.exec = Jvm.exec ∧ c.code = code ∧ meth.sig.returnType = ret ∧ c.maxLocals = 4 ∧ s.vm.findClass R_law = some m.cls ∧ (∀ w ∈ lw_tbl, w.before #[Value.ref b] s = true) ∧ va_X b L xs s s.heap ∧ b < s.heap.size ∧ meth.locks = false ∧ (Jvm.Cond.and given_1 narrow_1).before #[Value.ref b] s = true ∧ meth.name = "law"
-- ===== YOUR PART BEGINS =====
def enF (b : Nat) (adK adV : Nat → Nat) (f7 k : Nat) : Nat := if k = 0 then b else if k < 4 then adK (k - 1) else if k < 7 then adV (k - 4) else f7
def enL (L k : Nat) : Nat := if k = 0 then L else if 4 ≤ k then slen.getD (k - 4) 0 else 0
def enI (xs : Nat → Int32) (k j : Nat) : Int32 := if k = 0 then xs j else if 4 ≤ k then (sbyt.getD (k - 4) []).getD j 0 else 0
def enX (h b L : Nat) (xs : Nat → Int32) (adK adV : Nat → Nat) (v : Value) (U : State) (H : Heap) : Prop :=
  va_X b L xs U H ∧ vk_S 3 slen sbyt adK adV (fun q => h ≤ q) U H ∧ (vk_R RX11 63 sx0 (adK 0) U ∧ vk_R RX5 106 sx1 (adK 1) U ∧ vk_R RX5 117 sx2 (adK 2) U) ∧ va_Z "java/lang/String" "COMPACT_STRINGS" "Z" (.int 1) (fun q => h ≤ q) U H ∧ va_Z "jdk/internal/util/Preconditions" "SIOOBE_FORMATTER" "Ljava/util/function/BiFunction;" v (fun q => h ≤ q) U H ∧ (∀ q ∈ NcL, va_Nc q.1 q.2 U) ∧ (∀ q ∈ CaL, va_Nw (.castable q.1 q.2) U) ∧ (∀ t, 1 ≤ t → t ≤ 4 → va_AO (tyR t) U) ∧ ∀ q ∈ NsL, va_Nw (.methodLinkNest q.1 q.2.1 q.2.2.1 q.2.2.2) U
def enG (h b L : Nat) (xs : Nat → Int32) (adK adV : Nat → Nat) (f7 : Nat) (v : Value) (D : va_G) (A : Nat → ClassId) : Gt := (h, enF b adK adV f7, D, A, enL L, enI xs, enX h b L xs adK adV v)
section EG
variable {h b L f7 : Nat} {xs : Nat → Int32} {adK adV : Nat → Nat} {v : Value} {D : va_G} {A : Nat → ClassId}
theorem en_GX (hb : b < h) : GX (enG h b L xs adK adV f7 v D A) := by
  refine ⟨fun u U H hW hX => ?_, fun U H H1 hg hq hX => ?_⟩
  · obtain ⟨x1, x2, ⟨x3, x4, x5⟩, x6, x7, x8, x9, x10, x11⟩ := hX
    have hvm := hW.alike
    exact ⟨x1.moved hvm, x2.moved hvm, ⟨x3.warm hW, x4.warm hW, x5.warm hW⟩, x6.moved hvm, x7.moved hvm, fun q m => (x8 q m).moved hvm, fun q m => va_Nw.warmC hW (x9 q m), fun t a b => (x10 t a b).moved hvm, fun q m => va_Nw.warmM hW (x11 q m)⟩
  · obtain ⟨x1, x2, x3, x6, x7, x8⟩ := hX
    have hq2 : ∀ a : Nat, a < H.size → ¬ h ≤ a → H1[a]? = H[a]? := fun a _ n => hq a (Nat.not_le.mp n)
    exact ⟨x1.kept (hq b hb), x2.kept hq2, x3, x6.kept hq2, x7.kept hq2, x8⟩
theorem vk_S.cg {N : Nat} {f f' : Nat → Nat} {A : Nat → Prop} {U : State} {H : Heap} (x : vk_S N slen sbyt adK adV A U H) (hf : ∀ i, i < N → f i = adK i) (hf' : ∀ i, i < N → f' i = adV i) : vk_S N slen sbyt f f' A U H :=
  ⟨fun i hi => by rw [hf i hi, hf' i hi]; exact x.1 i hi, fun i j hi hj e => x.2 i j hi hj (by rw [hf i hi, hf j hj] at e; exact e)⟩
theorem en_GS (hb : b < h) (hv : v = .null ∨ v = .ref f7) : GS (enG h b L xs adK adV f7 v D A) := by
  have a1 : ∀ i, i < 3 → ad (enG h b L xs adK adV f7 v D A) (i + 1) = adK i := fun i hi => by
    obtain rfl | rfl | rfl : i = 0 ∨ i = 1 ∨ i = 2 := by omega
    · rfl
    · rfl
    · rfl
  have a2 : ∀ i, i < 3 → ad (enG h b L xs adK adV f7 v D A) (i + 4) = adV i := fun i hi => by
    obtain rfl | rfl | rfl : i = 0 ∨ i = 1 ∨ i = 2 := by omega
    · rfl
    · rfl
    · rfl
  refine ⟨⟨hb, fun s H x => x.2.2.2.2.2.2.1, fun s H x => ⟨x.2.2.2.2.2.2.2.1, x.2.2.2.2.2.2.2.2⟩⟩, fun i hi => ?_, fun s H x => ⟨x.1, vk_S.cg x.2.1 a1 a2, x.2.2.1, x.2.2.2.1, x.2.2.2.2.2.1⟩, ?_⟩
  · obtain rfl | rfl | rfl : i = 0 ∨ i = 1 ∨ i = 2 := by omega
    · exact ⟨rfl, fun j _ => rfl⟩
    · exact ⟨rfl, fun j _ => rfl⟩
    · exact ⟨rfl, fun j _ => rfl⟩
  · rcases hv with e | e
    · exact Or.inl (fun s H x => by have y := x.2.2.2.2.1; rw [e] at y; exact y)
    · exact Or.inr (fun s H x => by have y := x.2.2.2.2.1; rw [e] at y; exact y)
end EG
/-- from the entry, for every script of at most 3584 ints, the law comes to its end with true -/
theorem whole_start {p : Program} {e : Env} {s : State} {m : MethodId} {below : List Frame} {meth : Method} {c : Code} (l : Launch) (hflags : l.flags = flags0) {b L : Nat} {xs : Nat → Int32} (hL : L ≤ 3584) (C0 : lw_At p s m meth c b L xs) : W p l e room_1 s m #[Value.ref b] below meth c s.heap [] 0 0 (lw_Z below #[Value.ref b] s) (entryFrame m ([Value.ref b] : List Value).toArray 4) := by
  obtain ⟨hexec, hcode, hret, hml, hfc, hts, hX, hb, hlk, hgv, hnm⟩ := C0
  have hv := flat_of_before _ hgv
  have hg : ∀ w ∈ gw_tbl, w.before #[Value.ref b] s = true := fun w h => hts w (List.mem_filter.mp h).1
  obtain ⟨D, hD⟩ := en_D hg
  obtain ⟨A, hA0, hA1⟩ := en_A hts
  obtain ⟨adK, adV, hS, hE⟩ := en_S hv
  have hnA : ∀ a : Nat, a < s.heap.size → ¬ s.heap.size ≤ a := fun a h => Nat.not_le.mpr h
  obtain ⟨v7, ev, rv⟩ := Cond.isRef_spec (hv _ en_V.2)
  have hz7 := va_Zof (A := fun q => s.heap.size ≤ q) (hts _ en_Z.2.2.1) (hts _ en_Z.2.2.2) ev hnA
  have hv7 : ∃ f7 : Nat, v7 = .null ∨ v7 = .ref f7 := by
    cases v7 with
    | null => exact ⟨0, Or.inl rfl⟩
    | ref a => exact ⟨a, Or.inr rfl⟩
    | _ => cases rv
  obtain ⟨f7, hv7⟩ := hv7
  have hX0 : enX s.heap.size b L xs adK adV v7 s s.heap := ⟨hX, hS, ⟨vk_R.of (hts _ en_R.1) (hE 0 (by omega)), vk_R.of (hts _ en_R.2.1) (hE 1 (by omega)), vk_R.of (hts _ en_R.2.2) (hE 2 (by omega))⟩, va_Zof (hts _ en_Z.1) (hts _ en_Z.2.1) (va_eqt (hv _ en_V.1)) hnA, hz7, fun q m => va_Nc.of (hv _ (en_N q m)), fun q m => va_Nw.of rfl (hts _ (en_C q m)), fun t a1 a2 => va_AO.of (hts _ (by
    obtain rfl | rfl | rfl | rfl : t = 1 ∨ t = 2 ∨ t = 3 ∨ t = 4 := by omega
    · decide +kernel
    · decide +kernel
    · decide +kernel
    · decide +kernel)), fun q m => va_Nw.of rfl (hts _ (en_L q m))⟩
  have gs : GS (enG s.heap.size b L xs adK adV f7 v7 D A) := en_GS hb hv7
  have gx : GX (enG s.heap.size b L xs adK adV f7 v7 D A) := en_GX hb
  have vk : va_K (gD (enG s.heap.size b L xs adK adV f7 v7 D A)) vwCl (tysG (enG s.heap.size b L xs adK adV f7 v7 D A)) s := en_K hD hA0 hA1
  have sT8 : ∀ k, 105 ≤ sT k := fun k => by
    rcases Nat.lt_or_ge k 8 with a | a
    · have : ∀ k, k < 8 → 105 ≤ sT k := by decide
      exact this k a
    · unfold sT
      rw [List.getD_eq_getElem?_getD, List.getElem?_eq_none a]
      show 105 ≤ 108
      omega
  have wh : Wh (enG s.heap.size b L xs adK adV f7 v7 D A) (8, sT, enL L, fun _ _ => none) (enI xs) s.heap := by
    refine ⟨Nat.le_refl 8, fun k _ => sT8 k, fun k hk => ?_, fun k q hq => ?_, rfl, fun k _ => ⟨rfl, rfl, rfl⟩⟩
    · have := sT8 k
      have hk : sT k < 100 := hk
      omega
    · have hq : ([] : va_W)[k]? = some q := hq
      cases k <;> cases hq
  have K := law_i (g := enG s.heap.size b L xs adK adV f7 v7 D A) (d := 0) (Ln := L) (z := (8, sT, enL L, fun _ _ => none)) (I := enI xs) (K := fun x _ _ => x = iN 1) gs rfl hL (fun _ _ => rfl) rfl (fun _ _ _ => rfl)
  have hl := lv_entry [Value.ref b] (n := 4) (show 1 ≤ 4 by omega)
  have W0 := K p l e room_1 s m #[Value.ref b] below meth c s.heap [] 0 0 _ ⟨hexec, hcode, hml, hret, hfc, hg, hlk, hnm, vk, gx⟩ (by decide) (by decide) (by decide) (by decide) hX0 wh va_S.rf (Nat.le_refl _) hl
  rw [lg_entry_eq]
  intro T hT X
  obtain ⟨t, st, o, q1, q2, ⟨⟨v, z, I, eo, hQ, _⟩, _, _⟩, Ls, hF, hfr⟩ := W0 T hT X
  obtain ⟨x, ex, e1⟩ := hQ
  have eo2 : o = .returned (some (.int 1)) := by rw [eo, ex, e1]; rfl
  exact ⟨t, st, o, q1, q2, eo2, hF.1, hF.2.1, State.sameButNew.drop_fresh (L := []) (J := Ls) hF.2.2 hfr⟩
-- ===== YOUR PART ENDS =====
set_option maxHeartbeats 4000000 in
theorem lw_walk (l : Launch) (hflags : l.flags = flags0) (b : Addr) (xs : List Int32) : MetFree l x (headSpec (Jvm.Cond.code x code maxLocals ret :: tables_1) room_1) (lw_P b xs) (fun _ _ _ _ _ => True) lw_Q := by
  refine MetFree.of_bodyS (code := code) (maxLocals := maxLocals) (ret := ret) (by decide) ?_ ?_
  · intro args s m h hn
    obtain ⟨meth, c, h1, h2, h3, h4, h5, h6, -, -⟩ := Cond.code_spec hn (atoms_spec (ws := Jvm.Cond.code x code maxLocals ret :: tables_1) h _ List.mem_cons_self)
    exact ⟨meth, c, h1, h2, h3, h4, h5, h6⟩
  · intro p e s m args below meth c s₁ B hml0 hP _
    obtain ⟨rfl, hx, hbd, hgv⟩ := hP
    obtain ⟨scr, harrAt, hlist, hof, hsmall⟩ := hx
    obtain ⟨hcb, hkn, -, -⟩ := State.arrayAt?_spec harrAt
    have hown : s.vm.findClass R_law = some m.cls := findClass_of_methodNamed B.named
    have hts0 : ∀ c ∈ (Jvm.Cond.code x code maxLocals ret :: tables_1), c.before #[Value.ref b] s = true := atoms_spec (ws := Jvm.Cond.code x code maxLocals ret :: tables_1) B.pre
    have hts : ∀ w ∈ lw_tbl, w.before #[Value.ref b] s = true := k2_hts_sels lw_privs (fun w hw => hts0 w (List.mem_cons_of_mem _ hw)) lw_privs_ok
    have hml : c.maxLocals = 4 := B.maxLocals_eq (hts0 _ List.mem_cons_self)
    have X₀ : Stand p l e room_1 s m #[Value.ref b] below meth c s₁ [] 0 0 := Stand.of_body B
    have hh0 : s₁.heap = s.heap := by rw [B.state]; rfl
    have hsz : scr.slots.size = xs.length := by rw [← Array.length_toList, hlist, List.length_map]
    have hval : ∀ j : Nat, j < xs.length → scr.slots[j]? = some (.int (xs.getD j 0)) := fun j hj => by
      rw [← Array.getElem?_toList, hlist]
      simp [hj]
    have hbl : b < s.heap.size := (Array.getElem?_eq_some_iff.mp hcb).1
    have hX : va_X b xs.length (fun j => xs.getD j 0) s s.heap := ⟨scr, hcb, hof, hkn, hsz, hval⟩
    have K : W p l e room_1 s m #[Value.ref b] below meth c s₁.heap [] 0 0 (lw_Z below #[Value.ref b] s) (entryFrame m ([Value.ref b] : List Value).toArray 4) := by
      rw [hh0]
      exact whole_start l hflags hbd ⟨B.exec, B.bytes, B.returns, hml, hown, hts, hX, hbl, B.notSynchronized, hgv, (name_of_methodNamed B.named B.method).1⟩
    obtain ⟨t, a1, o, b1, b2, b3⟩ := K s₁ rfl X₀
    exact ⟨t, o, a1, b1, b2, b3⟩
theorem lw_pre_spec {args : Array Value} {s : State} (h : (Jvm.Cond.and given_1 narrow_1).before args s = true) (hr : rest_1_c.before args s = true) : ∃ (b : Addr) (xs : List Int32), lw_P b xs args s := by
  have hs := flat_of_before _ h
  have hq := flat_of_before _ hr
  have hc : (Cond.count 1).before args s = true := hs _ (by decide +kernel)
  have harr : (Cond.arrayOf (.arg 0) .int).before args s = true := hs _ (by decide +kernel)
  have hle : (Cond.le (.length (.arg 0)) (.int 3584)).before args s = true := hs _ (by decide +kernel)
  have hlen : (Cond.isInt (.length (.arg 0))).before args s = true := hq _ (by decide +kernel)
  have hall : (Cond.all (.arg 0) (.isInt (.elem (.arg 0) (.index 0)))).before args s = true := hq _ (by decide +kernel)
  obtain ⟨b, xs, hb, hx⟩ := State.ints_of_pre rfl harr hlen hall
  have hsm : xs.length < 2 ^ 31 := hx.choose_spec.2.2.2
  have hev : (Term.length (.arg 0)).eval args s none [] s = some (.int xs.length.toInt32) := hx.length_eval hb
  have hv := Cond.le_ints hev (show (Term.int 3584).eval args s none [] s = some (.int 3584) from rfl)
  have hd : xs.length.toInt32 ≤ 3584 := by
    simpa [Cond.before, Cond.holds, hv] using hle
  have hN : xs.length ≤ 3584 := (Int32.ofNat_le_ofNat hsm (by decide)).mp (show Int32.ofNat xs.length ≤ Int32.ofNat 3584 from hd)
  exact ⟨b, xs, Cond.one_arg hc (show args[0]? = some (.ref b) from hb), hx, hN, h⟩
theorem lw_comes (l : Launch) (hflags : l.flags = flags0) : Comes l x (Jvm.Cond.code x code maxLocals ret :: tables_1) room_1 (fun tb e args s => Calls_1 tb e args s ∧ rest_1 tb e args s ∧ Pre_1 tb e args s)
    (fun _ _ args s o t => lw_Q args s o t) := by
  intro p e ha hc hk s m args below hf hfit hheap happ hpre
  obtain ⟨b, xs, hP⟩ := lw_pre_spec hpre.2.2 hpre.2.1
  obtain ⟨k, o, h1, h2, h3, hQ⟩ := lw_walk l hflags b xs p e ha hc hk s m args below hf ((Spec.applies_iff_loose hf).mp happ).1 hP trivial
  exact ⟨k, o, h1, h2, h3, hQ⟩
theorem lw_frame {s t : State} {o : Outcome} {args : Array Value} (h : Framed s o t [] 663789 7110881) :
    Framed s o t (fieldLocs frame_1_writes args s ++ arrayLocs frame_1_arrays args s ++ staticLocs frame_1_statics s) 663789 7110881 := h
theorem lw_limb (L : Cond) (hL : ∀ (args : Array Value) (s t : State), L.after args s (.returned (some (.int 1))) t = true) :
    ArmFor flags0 classFile x code maxLocals ret World_1 tables_1 room_1 Calls_1 rest_1 Pre_1
      (fun tb e a s o t => postC L tb e a s o t ∧ Framed s o t (fieldLocs frame_1_writes a s ++ arrayLocs frame_1_arrays a s ++ staticLocs frame_1_statics s) 663789 7110881) := by
  intro l hflags _ _ p e ha hc hk s m args below hf hfit hheap happ hpre
  obtain ⟨k, o, h1, h2, h3, rfl, hF⟩ := lw_comes l hflags p e ha hc hk s m args below hf hfit hheap happ hpre
  exact ⟨k, _, h1, h2, h3, hL args s _, lw_frame hF⟩
theorem i_vc : Claimed_1_1 ∧ Claimed_1_2 := ⟨lw_limb limb_1_1 (fun args s t => by simp [limb_1_1, Cond.after, Cond.holds, Cond.value]), lw_limb limb_1_2 (fun args s t => Cond.after_iff.mpr (by
  first | (rw [show limb_1_2 = Cond.eq .result (.int 1) from rfl, Cond.eq_ints (x := 1) (y := 1) rfl rfl]; simp; done) | (simp [limb_1_2, Cond.value, Term.eval]; done)))⟩
