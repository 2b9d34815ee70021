/-! making cells, calls, ends, at WPc -/
def nI0 (I : Is) (n : Nat) : Is := fun b j => if b = n then 0 else I b j
def zNew (z : Zs) (t len : Nat) : Zs := (z.1 + 1, up1 z.2.1 z.1 t, up1 z.2.2.1 z.1 len, fun b j => if b = z.1 then none else z.2.2.2 b j)
theorem elm_push {g : Gt} {z : Zs} {I : Is} {t len j : Nat} (h : j ≠ zN z) : elm g (zNew z t len) (nI0 I (zN z)) j = elm g z I j := by
  have h' : j ≠ z.1 := h
  have e1 : zT (zNew z t len) j = zT z j := by show up1 _ _ _ _ = _; unfold up1; rw [if_neg h']; rfl
  have e2 : zL (zNew z t len) j = zL z j := by show up1 _ _ _ _ = _; unfold up1; rw [if_neg h']; rfl
  have e3 : zP (zNew z t len) j = zP z j := by funext i; show (if j = z.1 then _ else _) = _; rw [if_neg h']; rfl
  have e4 : nI0 I (zN z) j = I j := by funext i; unfold nI0; rw [if_neg h]
  unfold elm fv
  rw [e1, e2, e3, e4]
theorem wsO_push {g : Gt} {z : Zs} {I : Is} {t len : Nat} (h : 8 ≤ zN z) : wsO g (zNew z t len) (nI0 I (zN z)) = wsO g z I ++ [(g0 g + (zN z - 8), elm g (zNew z t len) (nI0 I (zN z)) (zN z))] := by
  unfold wsO
  have e : zN (zNew z t len) - 8 = (zN z - 8) + 1 := by show zN z + 1 - 8 = _; omega
  rw [e, List.range_succ, List.map_append]
  congr 1
  · apply List.map_congr_left
    intro j hj
    have := List.mem_range.mp hj
    rw [elm_push (by omega)]
  · simp only [List.map_cons, List.map_nil]
    rw [show zN z - 8 + 8 = zN z by omega]
theorem Wh.push {g : Gt} {z : Zs} {I : Is} {H H' : Heap} {t len : Nat} (h : Wh g z I H) (ht : t < 13 ∨ 100 ≤ t) (he : va_at (gD g) vwCl (H.size, elm g (zNew z t len) (nI0 I (zN z)) (zN z)) H') (hs : H'.size = H.size + 1) (oq : ∀ q, q < H.size → H'[q]? = H[q]?) : Wh g (zNew z t len) (nI0 I (zN z)) H' := by
  obtain ⟨a1, a2, a3, a4, a5, a6⟩ := h
  have hne : ∀ k, k ≠ zN z → zT (zNew z t len) k = zT z k := fun k hk => by show up1 _ _ _ _ = _; unfold up1; exact if_neg hk
  refine ⟨by show 8 ≤ zN z + 1; omega, fun k hk => ?_, fun k hk => ?_, ?_, ?_, ?_⟩
  · have hk' : k < 8 ∨ zN z + 1 ≤ k := hk
    rw [hne k (by omega)]
    exact a2 k (by omega)
  · by_cases hkn : k = zN z
    · subst hkn
      have e : zT (zNew z t len) (zN z) = t := by show up1 _ _ _ _ = _; unfold up1; exact if_pos rfl
      rw [e] at hk ⊢
      omega
    · rw [hne k hkn] at hk ⊢
      exact a3 k hk
  · rw [wsO_push a1]
    refine va_P.app (a4.kept (fun k q hq => oq q.1 ((a4 k q hq).lt))) (fun k q hq => ?_)
    have hk : k < 1 := (List.getElem?_eq_some_iff.mp hq).1
    rw [show k = 0 by omega] at hq
    cases hq
    rw [← a5]
    exact he
  · rw [hs, a5]; show _ = g0 g + (zN z + 1 - 8); omega
  · intro k hk
    obtain ⟨b1, b2, b3⟩ := a6 k hk
    refine ⟨by rw [hne k (by omega)]; exact b1, ?_, ?_⟩
    · have : zL (zNew z t len) k = zL z k := by show up1 _ _ _ _ = _; unfold up1; rw [if_neg (by show k ≠ zN z; omega)]; rfl
      rw [this]; exact b2
    · rw [← b3]; funext j; unfold nI0; rw [if_neg (by omega)]
section RULES3
variable {g : Gt} {y : Mth} {d rc rs pc : Nat} {lv : List (Nat × Value)} {st : List Value} {z : Zs} {I : Is} {Q : Option Value → Zs → Is → Prop}
theorem ad_new {g : Gt} {z : Zs} {I : Is} {H : Heap} (h : Wh g z I H) : ad g (zN z) = H.size := by
  unfold ad
  rw [if_neg (by have := h.1; omega), h.2.2.2.2.1]
def DefOK (ci : Nat) : Prop := ∀ j, j < clN ci → defaultValue (tyC ci j) = if isR ci j then .null else .int 0
def NewOK (own : String) (idx ci : Nat) : Prop := ∃ C T, ClsF ci C T ∧ Cond.classLink own idx C ∈ gw_tbl ∧ Cond.instantiable C (clN ci) ∈ gw_tbl ∧ Cond.initialized C ∈ gw_tbl ∧ DefOK ci
theorem r_new {idx ci rc' rs' : Nat} (hd : decode y.2.1 pc = .ok (.new idx, 3)) (hn : NewOK y.1.cls idx ci) (hrc : 1 + rc' ≤ rc) (hrs : clN ci + rs' ≤ rs) (k : WPc g y d rc' rs' (pc + 3) lv (.ref (zN z) :: st) (zNew z ci 0) (nI0 I (zN z)) Q) : WPc g y d rc rs pc lv st z I Q := by
  intro p l e R s m args below meth c H locs cells slots ls C h1 h2 h3 h4 hX hW hS hg hl
  obtain ⟨hx, hb, hml, hr, hown, hts, hlk, hnm, hK, hG⟩ := id C
  obtain ⟨C0, T, hc, hcl, hinst, hini, hdef⟩ := hn
  have hKn := hK.1 ci _ hc.1
  refine W.newcK hx hb hown (hts _ hcl) (hts _ hinst) (hts _ hini) rfl hd (by omega) (by omega) hKn.2.1 rfl fun H1 kC hkC e1 z1 o1 => ?_
  have h13 := hc.2.2.2.2
  have hlow : ∀ q, q < g0 g → H1[q]? = H[q]? := fun q hq => o1 q (Nat.lt_of_lt_of_le hq (Nat.le_trans hg hS.1))
  rw [← ad_new hW]
  refine k p l e R s m args below meth c H1 locs (cells + 1) (slots + clN ci) ls C h1 h2 (by omega) (by omega) (hG.2 s H H1 (Nat.le_trans hg hS.1) hlow hX) (hW.push (Or.inl h13) ?_ z1 o1) ⟨Nat.le_trans hS.1 (by omega), fun q h1 h2 => (o1 q (Nat.lt_of_lt_of_le h1 hS.1)).trans (hS.2.1 q h1 h2), hS.2.2⟩ hg hl
  have ht : zT (zNew z ci 0) (zN z) = ci := by show up1 _ _ _ _ = _; unfold up1; exact if_pos rfl
  rw [elm_obj ht (by omega)]
  refine ⟨_, hc.1, (u_born (tyC ci) hts hc.2.1 hKn hkC e1 hc.2.2.1).to (fun j hj => ?_)⟩
  show _ = List.getD _ j Value.null
  rw [List.getD_eq_getElem?_getD, fs_get hj, Option.getD_some, hdef j hj]
  unfold fv
  have ep : zP (zNew z ci 0) (zN z) j = none := by show (if _ then _ else _) = _; exact if_pos rfl
  rw [ep]
  cases isR ci j
  · show _ = Value.int (nI0 I (zN z) (zN z) j); unfold nI0; rw [if_pos rfl]; rfl
  · rfl
theorem r_newI {n : Int32} {rc' rs' N : Nat} (hd : decode y.2.1 pc = .ok (.newarray .int, 2)) (hn : n = Int32.ofNat N) (hN : N ≤ 100000) (hrc : 1 + rc' ≤ rc) (hrs : N + rs' ≤ rs) (hw : Cond.arrayClass .int ∈ gw_tbl) (k : WPc g y d rc' rs' (pc + 2) lv (.ref (zN z) :: st) (zNew z 100 N) (nI0 I (zN z)) Q) : WPc g y d rc rs pc lv (.int n :: st) z I Q := by
  intro p l e R s m args below meth c H locs cells slots ls C h1 h2 h3 h4 hX hW hS hg hl
  obtain ⟨hx, hb, hml, hr, hown, hts, hlk, hnm, hK, hG⟩ := id C
  have hcl : n.toNatClampNeg = N := by rw [hn]; exact nI_clamp (n := N) (by omega)
  have hn0 : ¬ n < 0 := by rw [hn]; exact nI_pos (n := N) (by omega)
  refine va_newaK (atype := .int) hx hb (hts _ hw) rfl hd rfl hn0 hcl (by show N * 4 ≤ _; omega) (by omega) (by omega) rfl fun H1 cA e1 z1 o1 hAr hNm => ?_
  have hcA : cA = gA g 0 := by
    have h5 := (hK.2 0 _ rfl).2
    exact Option.some.inj (hNm.symm.trans h5)
  subst hcA
  have hlow : ∀ q, q < g0 g → H1[q]? = H[q]? := fun q hq => o1 q (Nat.lt_of_lt_of_le hq (Nat.le_trans hg hS.1))
  rw [← ad_new hW]
  refine k p l e R s m args below meth c H1 locs (cells + 1) (slots + N) ls C h1 h2 (by omega) (by omega) (hG.2 s H H1 (Nat.le_trans hg hS.1) hlow hX) (hW.push (Or.inr (by omega)) ?_ z1 o1) ⟨Nat.le_trans hS.1 (by omega), fun q h1 h2 => (o1 q (Nat.lt_of_lt_of_le h1 hS.1)).trans (hS.2.1 q h1 h2), hS.2.2⟩ hg hl
  have ht : zT (zNew z 100 N) (zN z) = 100 := by show up1 _ _ _ _ = _; unfold up1; exact if_pos rfl
  have hL : zL (zNew z 100 N) (zN z) = N := by show up1 _ _ _ _ = _; unfold up1; exact if_pos rfl
  rw [elm_int ht, hL]
  show H1[H.size]? = some (vp_cell _ _)
  rw [e1, vp_cell_i]
  congr 2
  funext j
  unfold nI0
  rw [if_pos rfl]
  rfl
def AnwOK (own : String) (idx t : Nat) : Prop := Cond.classLink own idx (tyR t) ∈ gw_tbl ∧ 1 ≤ t ∧ t ≤ 4
theorem r_newR {n : Int32} {idx t rc' rs' N : Nat} (hgc : GC g) (hd : decode y.2.1 pc = .ok (.anewarray idx, 3)) (ha : AnwOK y.1.cls idx t) (hn : n = Int32.ofNat N) (hN : N ≤ 100000) (hrc : 1 + rc' ≤ rc) (hrs : N + rs' ≤ rs) (k : WPc g y d rc' rs' (pc + 3) lv (.ref (zN z) :: st) (zNew z (100 + t) N) (nI0 I (zN z)) Q) : WPc g y d rc rs pc lv (.int n :: st) z I Q := by
  intro p l e R s m args below meth c H locs cells slots ls C h1 h2 h3 h4 hX hW hS hg hl
  obtain ⟨hx, hb, hml, hr, hown, hts, hlk, hnm, hK, hG⟩ := id C
  obtain ⟨hcl, ht1, ht4⟩ := ha
  have hclm : n.toNatClampNeg = N := by rw [hn]; exact nI_clamp (n := N) (by omega)
  have hn0 : ¬ n < 0 := by rw [hn]; exact nI_pos (n := N) (by omega)
  refine W.anew hx hb hown (hts _ hcl) ((hgc.2 s H hX).1 t ht1 ht4).use rfl hd rfl hn0 (by rw [hclm]; omega) (by omega) (by rw [hclm]; omega) (fun cA kA comp e1 e2 e3 e4 => ?_)
  rw [hclm]
  have hcA : cA = gA g t := by
    obtain ⟨kA', comp', b1, b2, b3, b4⟩ := (hK.2 t _ (tysG_R ht1 ht4)).2
    exact Option.some.inj (e1.symm.trans b4)
  subst hcA
  have o1 : ∀ q, q < H.size → (H.push ({ cls := gA g t, slots := Array.replicate N Value.null, vm := .none } : Cell))[q]? = H[q]? := fun q hq => by rw [Array.getElem?_push]; rw [if_neg (Nat.ne_of_lt hq)]
  have z1 : (H.push ({ cls := gA g t, slots := Array.replicate N Value.null, vm := .none } : Cell)).size = H.size + 1 := Array.size_push ..
  have hlow : ∀ q, q < g0 g → (H.push ({ cls := gA g t, slots := Array.replicate N Value.null, vm := .none } : Cell))[q]? = H[q]? := fun q hq => o1 q (Nat.lt_of_lt_of_le hq (Nat.le_trans hg hS.1))
  rw [← ad_new hW]
  refine k p l e R s m args below meth c _ locs (cells + 1) (slots + N) ls C h1 h2 (by omega) (by omega) (hG.2 s H _ (Nat.le_trans hg hS.1) hlow hX) (hW.push (Or.inr (by omega)) ?_ z1 o1) ⟨Nat.le_trans hS.1 (by omega), fun q h1 h2 => (o1 q (Nat.lt_of_lt_of_le h1 hS.1)).trans (hS.2.1 q h1 h2), hS.2.2⟩ hg hl
  have ht : zT (zNew z (100 + t) N) (zN z) = 100 + t := by show up1 _ _ _ _ = _; unfold up1; exact if_pos rfl
  have hL : zL (zNew z (100 + t) N) (zN z) = N := by show up1 _ _ _ _ = _; unfold up1; exact if_pos rfl
  rw [elm_reft ht ht1, hL]
  show (H.push _)[H.size]? = some (vp_cell _ _)
  rw [Array.getElem?_push_size, vp_cell_q]
  congr 1
  unfold arrV
  congr 1
  apply Array.ext
  · simp
  · intro i hi1 hi2
    simp only [Array.getElem_replicate, Array.getElem_ofFn]
    have ep : zP (zNew z (100 + t) N) (zN z) i = none := by show (if _ then _ else _) = _; exact if_pos rfl
    rw [ep]
    rfl
-- ends
theorem qmI {Q : Option Value → Zs → Is → Prop} {s t : State} {args : Array Value} {H : Heap} {locs : List Loc} {v : Option Value} (hq : Q v z I) (hW : Wh g z I H) (hS : va_S (Fa g) s.heap H locs) (hg : g0 g ≤ s.heap.size) (ht : t.heap = H) : Qm g Q args s (.returned (v.map (lf g))) t :=
  ⟨⟨v, z, I, rfl, hq, by rw [ht]; exact hW⟩, by rw [ht]; exact hS.1, fun q hq => by rw [ht]; exact hS.2.1 q (Nat.lt_of_lt_of_le hq hg) (fun h => absurd hq (Nat.not_lt.mpr h))⟩
theorem r_iret {x : Int32} {ty : FieldType} (hd : decode y.2.1 pc = .ok (.ireturn, 1)) (hr : y.2.2.2 = some ty) (hn : narrow ty (.int x) = .int x) (hq : Q (some (.int x)) z I) : WPc g y d rc rs pc lv [.int x] z I Q := by
  intro p l e R s m args below meth c H locs cells slots ls C h1 h2 h3 h4 hX hW hS hg hl
  refine W.widen (k := R.cells) (n := R.slots) (by omega) (by omega) ?_
  exact W.zret (v := x) C.1 C.2.1 (C.2.2.2.1.trans hr) hn (fun t ht _ => qmI (v := some (.int x)) hq hW hS hg ht) hS.2.2 hd C.2.2.2.2.2.2.1
theorem r_lret {x : Int64} (hd : decode y.2.1 pc = .ok (.lreturn, 1)) (hr : y.2.2.2 = some .long) (hq : Q (some (.long x)) z I) : WPc g y d rc rs pc lv [.long x] z I Q := by
  intro p l e R s m args below meth c H locs cells slots ls C h1 h2 h3 h4 hX hW hS hg hl
  refine W.widen (k := R.cells) (n := R.slots) (by omega) (by omega) ?_
  exact W.lret (v := x) C.1 C.2.1 (C.2.2.2.1.trans hr) (fun t ht _ => qmI (v := some (.long x)) hq hW hS hg ht) hS.2.2 hd C.2.2.2.2.2.2.1
theorem r_vret (hd : decode y.2.1 pc = .ok (.return_, 1)) (hr : y.2.2.2 = none) (hq : Q none z I) : WPc g y d rc rs pc lv [] z I Q := by
  intro p l e R s m args below meth c H locs cells slots ls C h1 h2 h3 h4 hX hW hS hg hl
  refine W.widen (k := R.cells) (n := R.slots) (by omega) (by omega) ?_
  exact W.vret C.1 C.2.1 (C.2.2.2.1.trans hr) (fun t ht _ => qmI (v := none) hq hW hS hg ht) hS.2.2 hd C.2.2.2.2.2.2.1
theorem r_aret {o : Option Nat} {ty : FieldType} (hd : decode y.2.1 pc = .ok (.areturn, 1)) (hr : y.2.2.2 = some ty) (hty : (∃ n, ty = .object n) ∨ ∃ t, ty = .array t) (hq : Q (some (va_rf o)) z I) : WPc g y d rc rs pc lv [va_rf o] z I Q := by
  intro p l e R s m args below meth c H locs cells slots ls C h1 h2 h3 h4 hX hW hS hg hl
  refine W.widen (k := R.cells) (n := R.slots) (by omega) (by omega) ?_
  show W _ _ _ _ _ _ _ _ _ _ _ _ _ _ _ (F0 m pc ls [lf g (va_rf o)])
  refine W.aret (v := lf g (va_rf o)) C.1 C.2.1 (C.2.2.2.1.trans hr) hty (by rw [lf_rf]; exact va_rf_or _) (fun t ht _ => qmI (v := some (va_rf o)) hq hW hS hg ht) hS.2.2 hd C.2.2.2.2.2.2.1
-- entry
theorem WPm.of {args : List Value} (hp : plainName y.1.cls = true) (hlen : (lg_sl args).length ≤ y.2.2.1) (k : WPc g y d rc rs 0 (lv_args 0 args) [] z I Q) : WPm g y d rc rs args z I Q := by
  intro l
  refine Met.ofW (cc := y.2.1) (maxL := y.2.2.1) (ret := y.2.2.2) hp rfl ?_
  intro p e s m as below meth c s₁ B hml hv
  obtain ⟨rfl, hK, hG, hX, hW⟩ := hv
  have hts := atoms_spec (ws := WS y) B.pre
  have hl := lv_entry (args.map (lf g)) (n := y.2.2.1) (by rw [lg_sl_lf]; exact hlen)
  rw [lfs_args] at hl
  rw [lg_entry_eq]
  have hgs : g0 g ≤ s.heap.size := by have := hW.2.2.2.2.1; omega
  exact k p l e (rmO d rc rs) s m _ below meth c s.heap [] 0 0 _ ⟨B.exec, B.bytes, hml, B.returns, findClass_of_methodNamed B.named, fun w h => hts w (List.mem_cons_of_mem _ h), B.notSynchronized, (name_of_methodNamed B.named B.method).1, hK, hG⟩ (Nat.le_refl _) (Nat.le_refl _) (by show 0 + rc ≤ rc; omega) (by show 0 + rs ≤ rs; omega) hX hW va_S.rf hgs hl
end RULES3
