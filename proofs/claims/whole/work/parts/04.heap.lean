/-! the heap's rules, at WPc -/
def oe (o : Option Nat) (A : Prop) (B : Nat → Prop) : Prop := match o with
  | none => A
  | some q => B q
def ClsF (ci : Nat) (C : String) (T : u_T) : Prop := vwCl[ci]? = some (C, T, clN ci) ∧ (∀ w ∈ u_ws C T (clN ci), w ∈ gw_tbl) ∧ (∀ k, k < clN ci → parseFieldDescriptor (T k).2.2.1 = some (tyC ci k)) ∧ (∀ a, a < clN ci → ∀ b, b < clN ci → a ≠ b → (T a).2.1 ≠ (T b).2.1) ∧ ci < 13
def FldOK (own : String) (idx ci j : Nat) : Prop := ∃ (C : String) (T : u_T) (ref : String), ClsF ci C T ∧ j < clN ci ∧ Cond.fieldLink own idx ref (T j).2.1 (T j).2.2.1 ∈ gw_tbl ∧ (ref = (T j).1 ∨ Cond.sameField ref (T j).1 (T j).2.1 (T j).2.2.1 ∈ gw_tbl)
/-- may be written, by a method y: not final, or the own class' constructor writes -/
def FinOK (y : Mth) (ci j : Nat) : Prop := ∃ C T, ClsF ci C T ∧ ((T j).2.2.2 = false ∨ ((T j).2.2.2 = true ∧ y.1.name = "<init>" ∧ (T j).1 = y.1.cls))
theorem elm_reft {g : Gt} {z : Zs} {I : Is} {k t : Nat} (h : zT z k = 100 + t) (h1 : 1 ≤ t) : elm g z I k = .inl (gA g t, zL z k, .inr (.inr (.inr (.inr (fun i => (zP z k i).map (ad g)))))) := by
  rw [elm_ref (by omega), h, show 100 + t - 100 = t by omega]
theorem ClsF.uniq {ci : Nat} {C C' : String} {T T' : u_T} (h : ClsF ci C T) (h' : ClsF ci C' T') : C = C' ∧ T = T' := by
  have e := h.1.symm.trans h'.1
  have e2 := Option.some.inj e
  exact ⟨congrArg Prod.fst e2, congrArg (fun q => q.2.1) e2⟩
theorem Wh.set {g : Gt} {z z' : Zs} {I I' : Is} {H H' : Heap} {k : Nat} (h : Wh g z I H) (hk : zT z k < 105) (hN : zN z' = zN z) (hT : zT z' = zT z) (hL : ∀ j, j < 8 → zL z' j = zL z j) (hI : 8 ≤ k → ∀ j, j < 8 → I' j = I j) (ho : ∀ j, j ≠ k → elm g z' I' j = elm g z I j) (he : va_at (gD g) vwCl (ad g k, elm g z' I' k) H') (hs : H'.size = H.size) (oq : ∀ q, q ≠ ad g k → H'[q]? = H[q]?) : Wh g z' I' H' := by
  obtain ⟨h8, hlt⟩ := h.inN hk
  obtain ⟨a1, a2, a3, a4, a5, a6⟩ := h
  refine ⟨by rw [hN]; exact a1, by rw [hN, hT]; exact a2, by rw [hT]; exact a3, ?_, by rw [hs, hN]; exact a5, fun j hj => by rw [hT, hL j hj, hI h8 j hj]; exact a6 j hj⟩
  have hp := a4.set (wsO_D g z I) (wsO_get h8 hlt) he oq
  rw [wsO_set h8 hN ho] at hp
  exact hp
theorem ad_ge {g : Gt} {k : Nat} (h : 8 ≤ k) : g0 g ≤ ad g k := by
  unfold ad
  rw [if_neg (by omega)]
  omega
section RULES2
variable {g : Gt} {y : Mth} {d rc rs pc : Nat} {lv : List (Nat × Value)} {st : List Value} {z : Zs} {I : Is} {Q : Option Value → Zs → Is → Prop}
theorem r_getI {idx a ci j : Nat} (hd : decode y.2.1 pc = .ok (.getfield idx, 3)) (hf : FldOK y.1.cls idx ci j) (hi : isR ci j = false) (ht : zT z a = ci) (k : WPc g y d rc rs (pc + 3) lv (.int (I a j) :: st) z I Q) : WPc g y d rc rs pc lv (.ref a :: st) z I Q := by
  intro p l e R s m args below meth c H locs cells slots ls C h1 h2 h3 h4 hX hW hS hg hl
  obtain ⟨hx, hb, hml, hr, hown, hts, hlk, hnm, hK, hG⟩ := id C
  obtain ⟨C0, T, ref, hc, hj, hlink, hsame⟩ := hf
  have h13 := hc.2.2.2.2
  obtain ⟨h8, hlt⟩ := hW.inN (k := a) (by omega)
  refine va_get (D := gD g) (ci := ci) (v := .int (I a j)) (fs := (List.range (clN ci)).map (fv g z I a ci)) (C := C0) (T := T) (N := clN ci) (ref := ref) hx hb hts hc.2.1 hown hK hW.2.2.2.1 (a - 8) (by rw [wsO_get h8 hlt, elm_obj ht (by omega)]) hc.1 j hj (hts _ hlink) ?_ (by rw [fs_get hj]; unfold fv; rw [hi]; rfl) hd (k p l e R s m args below meth c H locs cells slots ls C h1 h2 h3 h4 hX hW hS hg hl)
  intro x hx
  rcases hsame with rfl | hs
  · exact hx
  · exact u_same (hts _ hs) x hx
theorem r_getR {idx a ci j : Nat} (hd : decode y.2.1 pc = .ok (.getfield idx, 3)) (hf : FldOK y.1.cls idx ci j) (hi : isR ci j = true) (ht : zT z a = ci) (k : oe (zP z a j) (WPc g y d rc rs (pc + 3) lv (.null :: st) z I Q) (fun q => WPc g y d rc rs (pc + 3) lv (.ref q :: st) z I Q)) : WPc g y d rc rs pc lv (.ref a :: st) z I Q := by
  intro p l e R s m args below meth c H locs cells slots ls C h1 h2 h3 h4 hX hW hS hg hl
  obtain ⟨hx, hb, hml, hr, hown, hts, hlk, hnm, hK, hG⟩ := id C
  obtain ⟨C0, T, ref, hc, hj, hlink, hsame⟩ := hf
  have h13 := hc.2.2.2.2
  obtain ⟨h8, hlt⟩ := hW.inN (k := a) (by omega)
  refine va_get (D := gD g) (ci := ci) (v := va_rf ((zP z a j).map (ad g))) (fs := (List.range (clN ci)).map (fv g z I a ci)) (C := C0) (T := T) (N := clN ci) (ref := ref) hx hb hts hc.2.1 hown hK hW.2.2.2.1 (a - 8) (by rw [wsO_get h8 hlt, elm_obj ht (by omega)]) hc.1 j hj (hts _ hlink) ?_ (by rw [fs_get hj]; unfold fv; rw [hi]; rfl) hd ?_
  · intro x hx
    rcases hsame with rfl | hs
    · exact hx
    · exact u_same (hts _ hs) x hx
  · cases ho : zP z a j with
    | none => rw [ho] at k; exact k p l e R s m args below meth c H locs cells slots ls C h1 h2 h3 h4 hX hW hS hg hl
    | some q => rw [ho] at k; exact k p l e R s m args below meth c H locs cells slots ls C h1 h2 h3 h4 hX hW hS hg hl
theorem elm_other {g : Gt} {z : Zs} {I I' : Is} {j : Nat} (h : I' j = I j) : elm g z I' j = elm g z I j := by
  unfold elm fv
  rw [h]
/-- a field is written: the machine's part -/
theorem putW {idx a ci j : Nat} {v : Value} {z' : Zs} {I' : Is} (hd : decode y.2.1 pc = .ok (.putfield idx, 3)) (hf : FldOK y.1.cls idx ci j) (hfin : FinOK y ci j) (ht : zT z a = ci) (hn : narrow (tyC ci j) (lf g v) = lf g v) (hfit : fits (tyC ci j) (lf g v) = true) (hN : zN z' = zN z) (hT : zT z' = zT z) (hL : ∀ j, j < 8 → zL z' j = zL z j) (hI : 8 ≤ a → ∀ j, j < 8 → I' j = I j) (ho : ∀ b, b ≠ a → elm g z' I' b = elm g z I b) (hnew : ∀ i, i < clN ci → fv g z' I' a ci i = if i = j then lf g v else fv g z I a ci i) (k : WPc g y d rc rs (pc + 3) lv st z' I' Q) : WPc g y d rc rs pc lv (v :: .ref a :: st) z I Q := by
  intro p l e R s m args below meth c H locs cells slots ls C h1 h2 h3 h4 hX hW hS hg hl
  obtain ⟨hx, hb, hml, hr, hown, hts, hlk, hnm, hK, hG⟩ := id C
  obtain ⟨C0, T, ref, hc, hj, hlink, hsame⟩ := hf
  obtain ⟨C1, T1, hc1, hfin⟩ := hfin
  obtain ⟨rfl, rfl⟩ := hc.uniq hc1
  have h13 := hc.2.2.2.2
  obtain ⟨h8, hlt⟩ := hW.inN (k := a) (by omega)
  have hap := va_apart (own := y.1.cls) hts hc.2.1 (tyC ci) hc.2.2.1 hc.2.2.2.1 hK hc.1
  obtain ⟨r, hr1, cell, q1, q2, q3, q4⟩ := hW.2.2.2.1 (a - 8) _ (by rw [wsO_get h8 hlt, elm_obj ht (by omega)])
  have hrr : r = (C0, T, clN ci) := Option.some.inj (hr1.symm.trans hc.1)
  subst hrr
  obtain ⟨hSl, hfc, kC, hkC, hkind⟩ := hK.1 ci _ hc.1
  obtain ⟨cf, kf, fi, f, hi, hsl⟩ := hSl j hj
  have hsm : s.fieldFound? ref (T j).2.1 (T j).2.2.1 = some (cf, kf, fi, f) := by
    rcases hsame with rfl | hs
    · exact hi
    · exact u_same (hts _ hs) _ hi
  have hst := (u_facts hfc hkC (u_lays hts hc.2.1 hj) hi).1
  have hend : ∀ H' : Heap, H'[ad g a]? = some (cell.setSlot f.slot (lf g v)) → H'.size = H.size → (∀ q, q ≠ ad g a → H'[q]? = H[q]?) → W p l e R s m args below meth c H' (locs ++ [⟨ad g a, f.slot⟩]) cells slots (MQ below (Qm g Q) args s R.cells R.slots (Fa g)) (F0 m (pc + 3) ls (st.map (lf g))) := by
    intro H' e1 e2 e3
    rw [hsl] at e1
    have hlow : ∀ q, q < g0 g → H'[q]? = H[q]? := fun q hq => e3 q (Nat.ne_of_lt (Nat.lt_of_lt_of_le hq (ad_ge h8)))
    refine k p l e R s m args below meth c H' _ cells slots ls C h1 h2 h3 h4 (hG.2 s H H' (Nat.le_trans hg hS.1) hlow hX) (hW.set (k := a) (by omega) hN hT hL hI ho ?_ e2 e3) (hS.put e2 e3 (ad_ge h8)) hg hl
    rw [elm_obj (ci := ci) (z := z') (by rw [hT]; exact ht) (by omega)]
    refine ⟨_, hc.1, t_OB.to (V := updV (vp_V ((List.range (clN ci)).map (fv g z I a ci))) j (lf g v)) ⟨_, e1, q2, q3, t_set q4 hap hj (lf g v)⟩ (fun i hi2 => ?_)⟩
    show _ = List.getD _ i Value.null
    rw [List.getD_eq_getElem?_getD, fs_get hi2, Option.getD_some, hnew i hi2]
    unfold updV
    by_cases hij : i = j
    · rw [if_pos hij, if_pos hij]
    · rw [if_neg hij, if_neg hij]
      show List.getD _ i Value.null = _
      rw [List.getD_eq_getElem?_getD, fs_get hi2, Option.getD_some]
  rcases hfin with hfin | ⟨hfin, hin2, hdecl⟩
  · have hlay := hts _ (hc.2.1 _ (u_in_lay hj))
    unfold u_lay at hlay
    rw [if_neg (by rw [hfin]; decide)] at hlay
    have h6 := u_store hfc hkC hkind hlay hi (hc.2.2.1 j hj) hn hfit
    exact W.putK hx hb (f := f) ⟨hown, hts _ hlink, ⟨_, _, _, hsm⟩, hst⟩ (by rw [q2]; exact h6) q1 q3 (by rw [hsl]; exact k2_hasslot (q4 j hj)) rfl rfl hd hend
  · have hlay := hts _ (hc.2.1 _ (u_in_lay hj))
    unfold u_lay at hlay
    rw [if_pos hfin] at hlay
    have hcf : m.cls = cf := by
      obtain ⟨_, _, c', _, _, _, -, -, hf', -, -, -, hown2, -⟩ := Cond.laysFinal_spec hlay
      have e1 : c' = cf := by have := hi.symm.trans hf'; simp at this; exact this.1.symm
      rw [hdecl] at hown2
      rw [← e1]; exact Option.some.inj (hown.symm.trans hown2)
    have h6 := u_fits hfc hkC hkind (Or.inr hlay) hi (hc.2.2.1 j hj) hn hfit
    exact W.putFinK hx hb hown (hts _ hlink) hsm hst hcf (by rw [hnm]; exact hin2) (by rw [q2]; exact h6) q1 q3 (by rw [hsl]; exact k2_hasslot (q4 j hj)) rfl rfl hd hend
theorem tyC_isR {ci j : Nat} (h : isR ci j = true) (a : Nat) : narrow (tyC ci j) (.ref a) = .ref a ∧ fits (tyC ci j) (.ref a) = true ∧ narrow (tyC ci j) .null = .null ∧ fits (tyC ci j) .null = true := by
  unfold isR at h
  cases hh : tyC ci j <;> rw [hh] at h <;> first | exact ⟨rfl, rfl, rfl, rfl⟩ | cases h
theorem r_putI {idx a ci j : Nat} {x : Int32} (hd : decode y.2.1 pc = .ok (.putfield idx, 3)) (hf : FldOK y.1.cls idx ci j) (hfin : FinOK y ci j) (hi : isR ci j = false) (ht : zT z a = ci) (hn : narrow (tyC ci j) (.int x) = .int x) (hfit : fits (tyC ci j) (.int x) = true) (k : WPc g y d rc rs (pc + 3) lv st z (up2 I a j x) Q) : WPc g y d rc rs pc lv (.int x :: .ref a :: st) z I Q := by
  refine putW hd hf hfin ht hn hfit rfl rfl (fun _ _ => rfl) (fun h8 b hb => ?_) (fun b hb => elm_other ?_) (fun i _ => ?_) k
  · funext i; unfold up2; rw [if_neg (by omega)]
  · funext i; unfold up2; rw [if_neg hb]
  · unfold fv up2
    by_cases hij : i = j
    · subst hij; rw [if_pos rfl, if_pos rfl, hi]; simp only [if_pos rfl]; rfl
    · rw [if_neg hij, if_pos rfl]; simp only [if_neg hij]
def zPut (z : Zs) (a i : Nat) (o : Option Nat) : Zs := (z.1, z.2.1, z.2.2.1, up2 z.2.2.2 a i o)
theorem elm_zPut {g : Gt} {z : Zs} {I : Is} {a i b : Nat} {o : Option Nat} (h : b ≠ a) : elm g (zPut z a i o) I b = elm g z I b := by
  have e : zP (zPut z a i o) b = zP z b := by funext j; show up2 _ _ _ _ _ _ = _; unfold up2; rw [if_neg h]; rfl
  unfold elm fv
  rw [e]
  rfl
theorem r_putR {idx a q ci j : Nat} (hd : decode y.2.1 pc = .ok (.putfield idx, 3)) (hf : FldOK y.1.cls idx ci j) (hfin : FinOK y ci j) (hi : isR ci j = true) (ht : zT z a = ci) (k : WPc g y d rc rs (pc + 3) lv st (zPut z a j (some q)) I Q) : WPc g y d rc rs pc lv (.ref q :: .ref a :: st) z I Q := by
  refine putW (z' := zPut z a j (some q)) (I' := I) hd hf hfin ht (tyC_isR hi _).1 (tyC_isR hi _).2.1 rfl rfl (fun _ _ => rfl) (fun _ _ _ => rfl) (fun b hb => elm_zPut hb) (fun i _ => ?_) k
  unfold fv
  show (bif isR ci i then va_rf (((up2 z.2.2.2 a j (some q)) a i).map (ad g)) else _) = _
  unfold up2
  by_cases hij : i = j
  · subst hij; rw [if_pos rfl, if_pos rfl, if_pos rfl, hi]; rfl
  · rw [if_pos rfl, if_neg hij, if_neg hij]; rfl
/-- the index lies in the row -/
def inB (i : Int32) (n : Nat) : Bool := decide (0 ≤ i.toInt) && decide (i.toInt < (n : Int))
theorem inB_vp {i : Int32} {n : Nat} (h : inB i n = true) : vp_in i n := by
  unfold inB at h
  rw [Bool.and_eq_true, decide_eq_true_iff, decide_eq_true_iff] at h
  exact vp_in_iff.mpr h
theorem r_iald {a : Nat} {i : Int32} (hd : decode y.2.1 pc = .ok (.iaload, 1)) (ht : zT z a = 100) (hi : inB i (zL z a) = true) (k : WPc g y d rc rs (pc + 1) lv (.int (I a i.toNatClampNeg) :: st) z I Q) : WPc g y d rc rs pc lv (.int i :: .ref a :: st) z I Q := by
  intro p l e R s m args below meth c H locs cells slots ls C h1 h2 h3 h4 hX hW hS hg hl
  obtain ⟨hx, hb, hml, hr, hown, hts, hlk, hnm, hK, hG⟩ := id C
  obtain ⟨h8, hlt⟩ := hW.inN (k := a) (by omega)
  exact va_iald (D := gD g) hx hb hK hW.2.2.2.1 (a - 8) 0 (by rw [wsO_get h8 hlt, elm_int ht]) rfl (inB_vp hi) hd (k p l e R s m args below meth c H locs cells slots ls C h1 h2 h3 h4 hX hW hS hg hl)
theorem r_alenI {a : Nat} (hd : decode y.2.1 pc = .ok (.arraylength, 1)) (ht : zT z a = 100) (k : WPc g y d rc rs (pc + 1) lv (.int (Int32.ofNat (zL z a)) :: st) z I Q) : WPc g y d rc rs pc lv (.ref a :: st) z I Q := by
  intro p l e R s m args below meth c H locs cells slots ls C h1 h2 h3 h4 hX hW hS hg hl
  obtain ⟨hx, hb, hml, hr, hown, hts, hlk, hnm, hK, hG⟩ := id C
  obtain ⟨h8, hlt⟩ := hW.inN (k := a) (by omega)
  exact va_alen (D := gD g) (x := (zL z a, .inl (I a))) hx hb hK hW.2.2.2.1 (a - 8) 0 (by rw [wsO_get h8 hlt, elm_int ht]) rfl rfl hd (k p l e R s m args below meth c H locs cells slots ls C h1 h2 h3 h4 hX hW hS hg hl)
def tyR (t : Nat) : String := ([RX8, RX8, RX4, RX10, RX7] : List String).getD t RX8
theorem tysG_R {g : Gt} {t : Nat} (h1 : 1 ≤ t) (h2 : t ≤ 4) : (tysG g)[t]? = some (gA g t, .object (tyR t)) := by
  match t, h1, h2 with
  | 1, _, _ => rfl
  | 2, _, _ => rfl
  | 3, _, _ => rfl
  | 4, _, _ => rfl
theorem r_alenR {a t : Nat} (hd : decode y.2.1 pc = .ok (.arraylength, 1)) (ht : zT z a = 100 + t) (ht1 : 1 ≤ t) (ht4 : t ≤ 4) (k : WPc g y d rc rs (pc + 1) lv (.int (Int32.ofNat (zL z a)) :: st) z I Q) : WPc g y d rc rs pc lv (.ref a :: st) z I Q := by
  intro p l e R s m args below meth c H locs cells slots ls C h1 h2 h3 h4 hX hW hS hg hl
  obtain ⟨hx, hb, hml, hr, hown, hts, hlk, hnm, hK, hG⟩ := id C
  obtain ⟨h8, hlt⟩ := hW.inN (k := a) (by omega)
  exact va_alen (D := gD g) (x := (zL z a, .inr (.inr (.inr (.inr (fun i => (zP z a i).map (ad g))))))) hx hb hK hW.2.2.2.1 (a - 8) t (by rw [wsO_get h8 hlt, elm_reft ht ht1]) (tysG_R ht1 ht4) rfl hd (k p l e R s m args below meth c H locs cells slots ls C h1 h2 h3 h4 hX hW hS hg hl)
theorem r_aald {a t : Nat} {i : Int32} (hd : decode y.2.1 pc = .ok (.aaload, 1)) (ht : zT z a = 100 + t) (ht1 : 1 ≤ t) (ht4 : t ≤ 4) (hi : inB i (zL z a) = true) (k : oe (zP z a i.toNatClampNeg) (WPc g y d rc rs (pc + 1) lv (.null :: st) z I Q) (fun q => WPc g y d rc rs (pc + 1) lv (.ref q :: st) z I Q)) : WPc g y d rc rs pc lv (.int i :: .ref a :: st) z I Q := by
  intro p l e R s m args below meth c H locs cells slots ls C h1 h2 h3 h4 hX hW hS hg hl
  obtain ⟨hx, hb, hml, hr, hown, hts, hlk, hnm, hK, hG⟩ := id C
  obtain ⟨h8, hlt⟩ := hW.inN (k := a) (by omega)
  refine va_aldq (D := gD g) hx hb hK hW.2.2.2.1 (a - 8) t (by rw [wsO_get h8 hlt, elm_reft ht ht1]) (tysG_R ht1 ht4) (inB_vp hi) hd ?_
  show W _ _ _ _ _ _ _ _ _ _ _ _ _ _ _ (F0 _ _ _ (va_rf ((zP z a i.toNatClampNeg).map (ad g)) :: _))
  cases ho : zP z a i.toNatClampNeg with
  | none => rw [ho] at k; exact k p l e R s m args below meth c H locs cells slots ls C h1 h2 h3 h4 hX hW hS hg hl
  | some q => rw [ho] at k; exact k p l e R s m args below meth c H locs cells slots ls C h1 h2 h3 h4 hX hW hS hg hl
theorem r_iast {a : Nat} {i x : Int32} (hd : decode y.2.1 pc = .ok (.iastore, 1)) (ht : zT z a = 100) (hi : inB i (zL z a) = true) (k : WPc g y d rc rs (pc + 1) lv st z (up2 I a i.toNatClampNeg x) Q) : WPc g y d rc rs pc lv (.int x :: .int i :: .ref a :: st) z I Q := by
  intro p l e R s m args below meth c H locs cells slots ls C h1 h2 h3 h4 hX hW hS hg hl
  obtain ⟨hx, hb, hml, hr, hown, hts, hlk, hnm, hK, hG⟩ := id C
  obtain ⟨h8, hlt⟩ := hW.inN (k := a) (by omega)
  have hcell : H[ad g a]? = some (arrV (gA g 0) (zL z a) (fun j => .int (I a j))) := hW.2.2.2.1 (a - 8) (ad g a, .inl (gA g 0, zL z a, .inl (I a))) (by rw [wsO_get h8 hlt, elm_int ht])
  have hin := inB_vp hi
  refine W.iast hx hb hcell ((hK.2 0 _ rfl).1 _ (fun j => .int (I a j))) (fun q => by cases q) (by show ¬ (i < 0 ∨ (arrV _ _ _).slots.size ≤ _); rw [arrV_size]; exact hin) rfl rfl hd fun H1 e1 e2 e3 => ?_
  have hlow : ∀ q, q < g0 g → H1[q]? = H[q]? := fun q hq => e3 q (Nat.ne_of_lt (Nat.lt_of_lt_of_le hq (ad_ge h8)))
  refine k p l e R s m args below meth c H1 _ cells slots ls C h1 h2 h3 h4 (hG.2 s H H1 (Nat.le_trans hg hS.1) hlow hX) (hW.set (k := a) (by omega) rfl rfl (fun _ _ => rfl) (fun h8 b hb => ?_) (fun b hb => elm_other ?_) ?_ e2 e3) (hS.put e2 e3 (ad_ge h8)) hg hl
  · funext j; unfold up2; rw [if_neg (by omega)]
  · funext j; unfold up2; rw [if_neg hb]
  · rw [elm_int ht]
    show H1[ad g a]? = some (vp_cell _ _)
    rw [e1, vp_cell_i, arrV_store]
    congr 2
    funext q
    unfold updV up2
    rw [if_pos rfl]
    by_cases hq : q = i.toNatClampNeg
    · rw [if_pos hq, if_pos hq]
    · rw [if_neg hq, if_neg hq]
theorem aastEnd {a i t : Nat} {o : Option Nat} {H1 : Heap} (ht : zT z a = 100 + t) (ht1 : 1 ≤ t) (e1 : H1[ad g a]? = some ((arrV (gA g t) (zL z a) (fun j => va_rf ((zP z a j).map (ad g)))).setSlot i (va_rf (o.map (ad g))))) : va_at (gD g) vwCl (ad g a, elm g (zPut z a i o) I a) H1 := by
  rw [elm_ref (by show 101 ≤ zT z a; omega)]
  show H1[ad g a]? = some (vp_cell (gA g (zT z a - 100)) _)
  rw [e1, vp_cell_q, arrV_store, ht, show 100 + t - 100 = t by omega]
  congr 2
  funext q
  show updV _ _ _ _ = va_rf (((up2 z.2.2.2 a i o) a q).map (ad g))
  unfold updV up2
  rw [if_pos rfl]
  by_cases hq : q = i
  · rw [if_pos hq, if_pos hq]
  · rw [if_neg hq, if_neg hq]; rfl
theorem r_aastN {a t : Nat} {i : Int32} (hd : decode y.2.1 pc = .ok (.aastore, 1)) (ht : zT z a = 100 + t) (ht1 : 1 ≤ t) (ht4 : t ≤ 4) (hi : inB i (zL z a) = true) (k : WPc g y d rc rs (pc + 1) lv st (zPut z a i.toNatClampNeg none) I Q) : WPc g y d rc rs pc lv (.null :: .int i :: .ref a :: st) z I Q := by
  intro p l e R s m args below meth c H locs cells slots ls C h1 h2 h3 h4 hX hW hS hg hl
  obtain ⟨hx, hb, hml, hr, hown, hts, hlk, hnm, hK, hG⟩ := id C
  obtain ⟨h8, hlt⟩ := hW.inN (k := a) (by omega)
  have hcell : H[ad g a]? = some (arrV (gA g t) (zL z a) (fun j => va_rf ((zP z a j).map (ad g)))) := hW.2.2.2.1 (a - 8) (ad g a, .inl (gA g t, zL z a, .inr (.inr (.inr (.inr (fun i => (zP z a i).map (ad g))))))) (by rw [wsO_get h8 hlt, elm_reft ht ht1])
  have hin := inB_vp hi
  refine va_WaastN (C := tyR t) hx hb hcell ((hK.2 t _ (tysG_R ht1 ht4)).1 _ (fun j => va_rf _)) (fun h => by cases h) (by show ¬ (i < 0 ∨ (arrV _ _ _).slots.size ≤ _); rw [arrV_size]; exact hin) rfl rfl hd fun H1 e1 e2 e3 => ?_
  have hlow : ∀ q, q < g0 g → H1[q]? = H[q]? := fun q hq => e3 q (Nat.ne_of_lt (Nat.lt_of_lt_of_le hq (ad_ge h8)))
  exact k p l e R s m args below meth c H1 _ cells slots ls C h1 h2 h3 h4 (hG.2 s H H1 (Nat.le_trans hg hS.1) hlow hX) (hW.set (k := a) (by omega) rfl rfl (fun _ _ => rfl) (fun _ _ _ => rfl) (fun b hb => elm_zPut hb) (aastEnd ht ht1 e1) e2 e3) (hS.put e2 e3 (ad_ge h8)) hg hl
/-- casts and array classes that the tables give, but not as words that keep -/
def CaL : List (String × String) := [("UnlikeCoins$Common", "UnlikeCoins$Sort"), ("UnlikeCoins$Gilt", "UnlikeCoins$Scarce"), ("UnlikeCoins$Gilt", "UnlikeCoins$Sort"), ("UnlikeCoins$Melting", "UnlikeCoins$Sort"), ("UnlikeCoins$Scarce", "UnlikeCoins$Sort"), ("UnlikeCoins$Stamped", "UnlikeCoins$Common"), ("UnlikeCoins$Stamped", "UnlikeCoins$Sort"), ("[I", "java/lang/Cloneable")]
def NsL : List (String × Nat × MethodName × String) := [(RX11, 24, yX4_init, "UnlikeCoins"), (RX11, 46, yX5_init, "UnlikeCoins"), (RX2, 17, yX4_init, "UnlikeCoins"), (RX11, 62, yX7_init, "UnlikeCoins"), (RX5, 84, yX11_within, "UnlikeCoins"), (RX10, 21, yX11_within, "UnlikeCoins"), (RX4, 21, yX11_within, "UnlikeCoins")]
def GC (g : Gt) : Prop := (∀ (s : State) (H : Heap), gX g s H → ∀ q ∈ CaL, va_Nw (.castable q.1 q.2) s) ∧ ∀ (s : State) (H : Heap), gX g s H → (∀ t, 1 ≤ t → t ≤ 4 → va_AO (tyR t) s) ∧ ∀ q ∈ NsL, va_Nw (.methodLinkNest q.1 q.2.1 q.2.2.1 q.2.2.2) s
/-- may a cell of class ci stand in an array of tag 100 + t (its element class is that class, or the tables say that it can be cast to it) -/
def StoOK (ci t : Nat) : Prop := ∃ C T, ClsF ci C T ∧ (C = tyR t ∨ (C, tyR t) ∈ CaL)
theorem r_aast {a q ci t : Nat} {i : Int32} (hgc : GC g) (hd : decode y.2.1 pc = .ok (.aastore, 1)) (ht : zT z a = 100 + t) (ht1 : 1 ≤ t) (ht4 : t ≤ 4) (hi : inB i (zL z a) = true) (hq : zT z q = ci) (hsto : StoOK ci t) (hel : ∃ ce, ∃ C T, ClsF ce C T ∧ C = tyR t) (k : WPc g y d rc rs (pc + 1) lv st (zPut z a i.toNatClampNeg (some q)) I Q) : WPc g y d rc rs pc lv (.ref q :: .int i :: .ref a :: st) z I Q := by
  intro p l e R s m args below meth c H locs cells slots ls C h1 h2 h3 h4 hX hW hS hg hl
  obtain ⟨hx, hb, hml, hr, hown, hts, hlk, hnm, hK, hG⟩ := id C
  obtain ⟨h8, hlt⟩ := hW.inN (k := a) (by omega)
  obtain ⟨C0, T0, hc0, hcast⟩ := hsto
  obtain ⟨ce, C1, T1, hce, hC1⟩ := hel
  have h13 := hc0.2.2.2.2
  obtain ⟨h8q, hltq⟩ := hW.inN (k := q) (by omega)
  have hcell : H[ad g a]? = some (arrV (gA g t) (zL z a) (fun j => va_rf ((zP z a j).map (ad g)))) := hW.2.2.2.1 (a - 8) (ad g a, .inl (gA g t, zL z a, .inr (.inr (.inr (.inr (fun i => (zP z a i).map (ad g))))))) (by rw [wsO_get h8 hlt, elm_reft ht ht1])
  have hin := inB_vp hi
  have hlt2 : i.toNatClampNeg < zL z a := Nat.not_le.mp fun q => hin (Or.inr q)
  have hi0 : ¬ i < 0 := fun q => hin (Or.inl q)
  obtain ⟨r', hr', cellV, g1, g2, g3, -⟩ := hW.2.2.2.1 (q - 8) _ (by rw [wsO_get h8q hltq, elm_obj hq (by omega)])
  have hr2 : r' = (C0, T0, clN ci) := Option.some.inj (hr'.symm.trans hc0.1)
  subst hr2
  have hcls := (hK.1 ci _ hc0.1).2
  have hcle := (hK.1 ce _ hce.1).2
  obtain ⟨kA, comp, k1, k2, k3, -⟩ := (hK.2 t _ (tysG_R ht1 ht4)).2
  have hcomp : comp = (gD g).1 ce := Option.some.inj (k3.symm.trans (by rw [← hC1]; exact hcle.1))
  subst hcomp
  obtain ⟨kC, hkC, -⟩ := hcls.2
  obtain ⟨kE, hkE, -⟩ := hcle.2
  have hass : s.vm.assignable ((gD g).1 ci) ((gD g).1 ce) = true := by
    rcases hcast with h | h
    · have e : (gD g).1 ci = (gD g).1 ce := by
        have e1 := hcls.1
        have e2 := hcle.1
        rw [h, ← hC1] at e1
        exact Option.some.inj (e1.symm.trans e2)
      rw [← e]
      exact va_assign hcls
    · have h5 : (Cond.castable C0 (tyR t)).before args s = true := va_Nw.use (A := args) rfl (hgc.1 s H hX _ h)
      simp only [Cond.before, Cond.holds, Cond.value] at h5
      rw [hcls.1, ← hC1, hcle.1] at h5
      simpa using h5
  refine W.aast hx hb hcell (fun q h => by cases h) (fun h => by cases h) k1 k2 rfl hkE ⟨hi0, by show _ < (arrV _ _ _).slots.size; rw [arrV_size]; exact hlt2⟩ g1 (fun q h => by rw [g3] at h; cases h) (by rw [g2]; exact hkC) (by rw [g2]; exact hass) rfl rfl hd fun H1 e1 e2 e3 => ?_
  have hlow : ∀ q, q < g0 g → H1[q]? = H[q]? := fun q hq => e3 q (Nat.ne_of_lt (Nat.lt_of_lt_of_le hq (ad_ge h8)))
  exact k p l e R s m args below meth c H1 _ cells slots ls C h1 h2 h3 h4 (hG.2 s H H1 (Nat.le_trans hg hS.1) hlow hX) (hW.set (k := a) (by omega) rfl rfl (fun _ _ => rfl) (fun _ _ _ => rfl) (fun b hb => elm_zPut hb) (aastEnd (o := some q) ht ht1 e1) e2 e3) (hS.put e2 e3 (ad_ge h8)) hg hl
end RULES2
