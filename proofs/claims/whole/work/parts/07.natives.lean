/-! System.arraycopy over ints, clone and cast of an int[], at WPc -/
def inC (sp n : Int32) (len : Nat) : Bool := decide (0 ≤ sp.toInt) && (decide (0 ≤ n.toInt) && decide (sp.toInt + n.toInt ≤ (len : Int)))
theorem inC_of {sp n : Int32} {len : Nat} (h : inC sp n len = true) : (¬ sp < 0 ∧ ¬ n < 0) ∧ sp.toInt = (sp.toNatClampNeg : Int) ∧ n.toInt = (n.toNatClampNeg : Int) ∧ sp.toNatClampNeg + n.toNatClampNeg ≤ len := by
  unfold inC at h
  rw [Bool.and_eq_true, Bool.and_eq_true, decide_eq_true_iff, decide_eq_true_iff, decide_eq_true_iff] at h
  obtain ⟨a, b, c⟩ := h
  have e1 : sp.toInt = (sp.toNatClampNeg : Int) := by show sp.toInt = ((sp.toInt.toNat : Nat) : Int); omega
  have e2 : n.toInt = (n.toNatClampNeg : Int) := by show n.toInt = ((n.toInt.toNat : Nat) : Int); omega
  refine ⟨⟨?_, ?_⟩, e1, e2, by omega⟩
  · intro q; have := Int32.lt_iff_toInt_lt.mp q; simp at this; omega
  · intro q; have := Int32.lt_iff_toInt_lt.mp q; simp at this; omega
def cpI (I : Is) (a b sp dp n : Nat) : Is := fun c j => if c = b then va_cpy (I a) (I b) sp dp n j else I c j
section RULES6
variable {g : Gt} {y : Mth} {d rc rs pc : Nat} {lv : List (Nat × Value)} {st : List Value} {z : Zs} {I : Is} {Q : Option Value → Zs → Is → Prop}
def CpyOK (own : String) (idx : Nat) : Prop := Cond.methodLink own idx arraycopyName ∈ gw_tbl ∧ Cond.native arraycopyName ∈ gw_tbl ∧ Cond.static arraycopyName ∈ gw_tbl ∧ Cond.initialized "java/lang/System" ∈ gw_tbl
theorem r_acopy {idx a b : Nat} {sp dp n : Int32} (hd : decode y.2.1 pc = .ok (.invokestatic idx, 3)) (hc : CpyOK y.1.cls idx) (hta : zT z a = 100) (htb : zT z b = 100) (h1c : inC sp n (zL z a) = true) (h2c : inC dp n (zL z b) = true) (hcat : (st.map (fun v => v.category)).sum ≤ 8) (k : WPc g y (d + 1) rc rs (pc + 3) lv st z (cpI I a b sp.toNatClampNeg dp.toNatClampNeg n.toNatClampNeg) Q) : WPc g y (d + 1) rc rs pc lv (.int n :: .int dp :: .ref b :: .int sp :: .ref a :: st) z I Q := by
  intro p l e R s m args below meth c H locs cells slots ls C h1 h2 h3 h4 hX hW hS hg hl
  obtain ⟨hx, hb, hml, hr, hown, hts, hlk, hnm, hK, hG⟩ := id C
  obtain ⟨hc1, hc2, hc3, hc4⟩ := hc
  obtain ⟨⟨p1, p3⟩, e1, e3, p4⟩ := inC_of h1c
  obtain ⟨⟨p2, -⟩, e2, -, p5⟩ := inC_of h2c
  obtain ⟨h8a, hla⟩ := hW.inN (k := a) (by omega)
  obtain ⟨h8, hlt⟩ := hW.inN (k := b) (by omega)
  have hc0 : H[ad g a]? = some (vp_cell (gA g 0) (zL z a, .inl (I a))) := hW.2.2.2.1 (a - 8) (ad g a, .inl (gA g 0, zL z a, .inl (I a))) (by rw [wsO_get h8a hla, elm_int hta])
  have hc1' : H[ad g b]? = some (vp_cell (gA g 0) (zL z b, .inl (I b))) := hW.2.2.2.1 (b - 8) (ad g b, .inl (gA g 0, zL z b, .inl (I b))) (by rw [wsO_get h8 hlt, elm_int htb])
  obtain ⟨-, k0, hk0, cm0, hkk0⟩ := (hK.2 0 _ rfl).1 (zL z a) (fun j => .int (I a j))
  obtain ⟨-, k1, hk1, cm1, hkk1⟩ := (hK.2 0 _ rfl).1 (zL z b) (fun j => .int (I b j))
  have hnf : nativeFrameWords "java/lang/System" "arraycopy" 5 ≤ 20 := by decide +kernel
  intro T hT X
  obtain ⟨vm', X', step⟩ := X.arraycopy hx hown (hts _ hc1) (hts _ hc2) (hts _ hc3) (hts _ hc4) (src := ad g a) (dst := ad g b) (cs := vp_cell (gA g 0) (zL z a, .inl (I a))) (cd := vp_cell (gA g 0) (zL z b, .inl (I b))) (srcPos := sp) (destPos := dp) (n := n) (by rw [hT]; exact hc0) (by rw [hT]; exact hc1')
    (fun _ h => by cases h) (fun _ h => by cases h) (fun h => by cases h) (fun h => by cases h) hk0 hk1 hkk0 hkk1 (by simp [refKind]) p1 p2 p3
    (by rw [e1, e3]; show ¬ _ > ((arrV (gA g 0) (zL z a) (fun j => .int (I a j))).slots.size : Int); rw [arrV_size]; omega)
    (by rw [e2, e3]; show ¬ _ > ((arrV (gA g 0) (zL z b) (fun j => .int (I b j))).slots.size : Int); rw [arrV_size]; omega)
    (fun vm₁ _ i hi => by
      have e : (vp_cell (gA g 0) (zL z a, .inl (I a))).slots.getD (sp.toNatClampNeg + i) .null = .int (I a (sp.toNatClampNeg + i)) := by
        show (arrV (gA g 0) (zL z a) (fun j => .int (I a j))).slots.getD _ _ = _
        rw [Array.getD_eq_getD_getElem?, arrV_read _ _ (by omega)]
        rfl
      refine ⟨?_, ?_⟩
      · rw [e]; rfl
      · rw [e]; exact trivial)
    (g := F0 m pc ls ((.int n :: .int dp :: .ref b :: .int sp :: .ref a :: st : List Value).map (lf g))) rfl (by rw [hml]; exact hl.1) (rest := st.map (lf g)) rfl (by rw [hb]; exact hd) (by omega) (by show 2 * 0 + ((st.map (lf g)).map _).sum + (nativeFrameWords "java/lang/System" "arraycopy" 5 + 11) ≤ _; rw [cat_map]; omega)
  have ec : copied (vp_cell (gA g 0) (zL z a, .inl (I a))) (vp_cell (gA g 0) (zL z b, .inl (I b))) sp dp n = vp_cell (gA g 0) (zL z b, .inl (va_cpy (I a) (I b) sp.toNatClampNeg dp.toNatClampNeg n.toNatClampNeg)) := va_copied (fun z => .int z) (gA g 0) (gA g 0) (I a) (I b) p4
  rw [ec] at X' step
  have hl2 : ad g b < H.size := (Array.getElem?_eq_some_iff.mp hc1').1
  generalize hcell : vp_cell (gA g 0) (zL z b, .inl (va_cpy (I a) (I b) sp.toNatClampNeg dp.toNatClampNeg n.toNatClampNeg)) = nc at X' step
  have hheap : ((T.setVm vm').setCell (ad g b) nc).heap = H.setIfInBounds (ad g b) nc := by rw [← hT]; rfl
  have oq : ∀ q : Nat, q ≠ ad g b → (H.setIfInBounds (ad g b) nc)[q]? = H[q]? := fun q hq => by simp [Array.getElem?_setIfInBounds, Ne.symm hq]
  have sz : (H.setIfInBounds (ad g b) nc).size = H.size := by simp
  have hlow : ∀ q, q < g0 g → (H.setIfInBounds (ad g b) nc)[q]? = H[q]? := fun q hq => oq q (Nat.ne_of_lt (Nat.lt_of_lt_of_le hq (ad_ge h8)))
  obtain ⟨t, a1, b1⟩ := k p l e R s m args below meth c _ _ cells slots ls C h1 h2 h3 h4 (hG.2 s H _ (Nat.le_trans hg hS.1) hlow hX) (hW.set (k := b) (by omega) rfl rfl (fun _ _ => rfl) (fun h8 i hi => by funext j; unfold cpI; rw [if_neg (by omega)]) (fun c hc => elm_other (by funext j; unfold cpI; rw [if_neg hc])) (by
      rw [elm_int htb]
      show (H.setIfInBounds (ad g b) nc)[ad g b]? = some (vp_cell _ _)
      rw [show cpI I a b sp.toNatClampNeg dp.toNatClampNeg n.toNatClampNeg b = va_cpy (I a) (I b) sp.toNatClampNeg dp.toNatClampNeg n.toNatClampNeg from by funext j; unfold cpI; rw [if_pos rfl], hcell]
      simp [Array.getElem?_setIfInBounds, hl2]) sz oq) ⟨by rw [sz]; exact hS.1, fun q g1 g2 => by
      rw [oq q (fun e => g2 (by rw [e]; exact ad_ge h8))]
      exact hS.2.1 q g1 g2, fun q hq => by
      rcases List.mem_append.mp hq with h | h
      · exact hS.2.2 q h
      · obtain ⟨z, -, hz⟩ := List.mem_map.mp h
        rw [← hz]
        exact ad_ge h8⟩ hg hl _ hheap X'
  exact ⟨t, step t a1, b1⟩
/-- the new cell holds what cell a holds -/
def cpN (I : Is) (n a : Nat) : Is := fun b j => if b = n then I a j else I b j
def CloOK (own : String) (idx : Nat) : Prop := Cond.methodLink own idx ⟨"[I", "clone", "()Ljava/lang/Object;"⟩ ∈ gw_tbl ∧ Cond.sameMethod "[I" "java/lang/Object" "clone" "()Ljava/lang/Object;" ∈ gw_tbl ∧ Cond.native ⟨"java/lang/Object", "clone", "()Ljava/lang/Object;"⟩ ∈ gw_tbl ∧ Cond.instanceMethod ⟨"java/lang/Object", "clone", "()Ljava/lang/Object;"⟩ ∈ gw_tbl ∧ Cond.selects "[I" ⟨"[I", "clone", "()Ljava/lang/Object;"⟩ ⟨"java/lang/Object", "clone", "()Ljava/lang/Object;"⟩ ∈ gw_tbl
theorem r_clone {idx a rc' rs' : Nat} (hgc : GC g) (hd : decode y.2.1 pc = .ok (.invokevirtual idx, 3)) (hc : CloOK y.1.cls idx) (hta : zT z a = 100) (hrc : 1 + rc' ≤ rc) (hrs : zL z a + rs' ≤ rs) (hcat : (st.map (fun v => v.category)).sum ≤ 8) (k : WPc g y (d + 1) rc' rs' (pc + 3) lv (.ref (zN z) :: st) (zNew z 100 (zL z a)) (cpN I (zN z) a) Q) : WPc g y (d + 1) rc rs pc lv (.ref a :: st) z I Q := by
  intro p l e R s m args below meth c H locs cells slots ls C h1 h2 h3 h4 hX hW hS hg hl
  obtain ⟨hx, hb, hml, hr, hown, hts, hlk, hnm0, hK, hG⟩ := id C
  obtain ⟨hlink, hsame, hnat, hinst, hsel⟩ := hc
  obtain ⟨h8, hla⟩ := hW.inN (k := a) (by omega)
  have hc0 : H[ad g a]? = some (vp_cell (gA g 0) (zL z a, .inl (I a))) := hW.2.2.2.1 (a - 8) (ad g a, .inl (gA g 0, zL z a, .inl (I a))) (by rw [wsO_get h8 hla, elm_int hta])
  have hsz : (vp_cell (gA g 0) (zL z a, .inl (I a))).slots.size = zL z a := arrV_size _ _ _
  have hnm : s.vm.findClass "[I" = some (gA g 0) := (hK.2 0 _ rfl).2
  obtain ⟨c0, t0', f1, f2, f3⟩ := Cond.castable_spec (va_Nw.use (A := args) rfl (hgc.1 s H hX ("[I", "java/lang/Cloneable") (by decide +kernel)))
  cases hnm.symm.trans f1
  have hat := (hK.2 0 _ rfl).1
  intro T hT X
  obtain ⟨-, kA, hkA, comp, hkind⟩ := State.isArrayOf_alike X.warmed.alike (hat 0 (fun _ => .null))
  obtain ⟨-, kS, hkS, compS, hkindS⟩ := hat 0 (fun _ => .null)
  obtain ⟨vm', X', st'⟩ := X.cloneArray hx hown (hts _ hlink) (hts _ hsame) (hts _ hnat) (hts _ hinst) (hts _ hsel) (a := ad g a) (cell := vp_cell (gA g 0) (zL z a, .inl (I a))) (by rw [hT]; exact hc0) (fun k h => by cases h) (fun h => by cases h) hnm f2 f3
    (fun i v hv => by
      have hk' : T.vm.classes[gA g 0]? = some kA := hkA
      have hlt : i < zL z a := by have := (Array.getElem?_eq_some_iff.mp hv).1; rw [hsz] at this; exact this
      have e : (vp_cell (gA g 0) (zL z a, .inl (I a))).slots[i]? = some (.int (I a i)) := arrV_read _ _ hlt
      have ev : v = .int (I a i) := Option.some.inj (hv.symm.trans e)
      subst ev
      have hcl0 : (vp_cell (gA g 0) (zL z a, .inl (I a))).cls = gA g 0 := rfl
      rw [hcl0]
      simpa [State.fitsSlot, State.slotType?, hk', hkind] using (show fits .int (.int (I a i)) = true from rfl))
    (g := F0 m pc ls ((.ref a :: st : List Value).map (lf g))) rfl (by rw [hml]; exact hl.1) rfl (by rw [hb]; exact hd) (by omega) (by show 2 * 0 + ((st.map (lf g)).map _).sum + 14 ≤ _; rw [cat_map]; omega) (by omega) (by rw [hsz]; omega) (hloader := Vm.clonesLoader_of_array hkS hkindS)
  have hcellE : ({ cls := (vp_cell (gA g 0) (zL z a, .inl (I a))).cls, slots := (vp_cell (gA g 0) (zL z a, .inl (I a))).slots } : Cell) = vp_cell (gA g 0) (zL z a, .inl (I a)) := rfl
  rw [hcellE, hsz] at X'
  generalize hH1 : H.push (vp_cell (gA g 0) (zL z a, .inl (I a))) = H1
  have z1 : H1.size = H.size + 1 := by rw [← hH1, Array.size_push]
  have e1 : H1[H.size]? = some (vp_cell (gA g 0) (zL z a, .inl (I a))) := by rw [← hH1, Array.getElem?_push_size]
  have o1 : ∀ q : Nat, q < H.size → H1[q]? = H[q]? := fun q hq => by rw [← hH1, Array.getElem?_push, if_neg (Nat.ne_of_lt hq)]
  have hlow : ∀ q, q < g0 g → H1[q]? = H[q]? := fun q hq => o1 q (Nat.lt_of_lt_of_le hq (Nat.le_trans hg hS.1))
  have hWn : Wh g (zNew z 100 (zL z a)) (cpN I (zN z) a) H1 := by
    have hp := hW.push (t := 100) (len := zL z a) (H' := H.push (vp_cell (gA g 0) (zL z a, .inl (fun _ => 0)))) (Or.inr (Nat.le_refl _)) (by
      have ht : zT (zNew z 100 (zL z a)) (zN z) = 100 := by show up1 _ _ _ _ = _; unfold up1; exact if_pos rfl
      have hL : zL (zNew z 100 (zL z a)) (zN z) = zL z a := by show up1 _ _ _ _ = _; unfold up1; exact if_pos rfl
      rw [elm_int ht, hL]
      show (H.push _)[H.size]? = some (vp_cell _ _)
      rw [Array.getElem?_push_size]
      congr 2
      congr 1
      congr 1
      funext j
      unfold nI0
      rw [if_pos rfl]) (Array.size_push ..) (fun q hq => by rw [Array.getElem?_push, if_neg (Nat.ne_of_lt hq)])
    have hadn : ad g (zN z) = H.size := ad_new hW
    have ht : zT (zNew z 100 (zL z a)) (zN z) = 100 := by show up1 _ _ _ _ = _; unfold up1; exact if_pos rfl
    have hL : zL (zNew z 100 (zL z a)) (zN z) = zL z a := by show up1 _ _ _ _ = _; unfold up1; exact if_pos rfl
    refine hp.set (k := zN z) (by rw [ht]; omega) rfl rfl (fun _ _ => rfl) (fun h8 i hi => ?_) (fun b hb => ?_) ?_ (by rw [z1, Array.size_push]) (fun q hq => ?_)
    · funext j; unfold cpN nI0; rw [if_neg (by omega), if_neg (by omega)]
    · refine elm_other ?_
      funext j; unfold cpN nI0; rw [if_neg hb, if_neg hb]
    · rw [elm_int ht, hL, hadn]
      show H1[H.size]? = some (vp_cell _ _)
      rw [e1]
      congr 2
      congr 1
      congr 1
      funext j
      unfold cpN
      rw [if_pos rfl]
    · rw [hadn] at hq
      rw [← hH1, Array.getElem?_push, Array.getElem?_push, if_neg hq, if_neg hq]
  obtain ⟨t, b1, b2⟩ := k p l e R s m args below meth c H1 locs (cells + 1) (slots + zL z a) ls C h1 h2 (by omega) (by omega) (hG.2 s H H1 (Nat.le_trans hg hS.1) hlow hX) hWn ⟨Nat.le_trans hS.1 (by omega), fun q h1 h2 => (o1 q (Nat.lt_of_lt_of_le h1 hS.1)).trans (hS.2.1 q h1 h2), hS.2.2⟩ hg hl _ (by rw [← hH1, ← hT]; rfl) X'
  refine ⟨t, st' t ?_, b2⟩
  have ee : (Value.ref (zN z) :: st).map (lf g) = Value.ref T.heap.size :: st.map (lf g) := by show Value.ref (ad g (zN z)) :: _ = _; rw [ad_new hW, hT]
  rw [ee] at b1
  exact b1
theorem r_castI {idx a : Nat} (hd : decode y.2.1 pc = .ok (.checkcast idx, 3)) (hc : Cond.classLink y.1.cls idx "[I" ∈ gw_tbl) (hta : zT z a = 100) (k : WPc g y d rc rs (pc + 3) lv (.ref a :: st) z I Q) : WPc g y d rc rs pc lv (.ref a :: st) z I Q := by
  intro p l e R s m args below meth c H locs cells slots ls C h1 h2 h3 h4 hX hW hS hg hl
  obtain ⟨hx, hb, hml, hr, hown, hts, hlk, hnm0, hK, hG⟩ := id C
  obtain ⟨h8, hla⟩ := hW.inN (k := a) (by omega)
  exact va_castA (D := gD g) (x := (zL z a, .inl (I a))) hx hb hown (hts _ hc) hW.2.2.2.1 (a - 8) (by rw [wsO_get h8 hla, elm_int hta]) (hK.2 0 _ rfl).2 hd (k p l e R s m args below meth c H locs cells slots ls C h1 h2 h3 h4 hX hW hS hg hl)
end RULES6
