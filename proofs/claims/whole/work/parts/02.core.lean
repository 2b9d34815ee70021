def gw_tbl : List Cond := lw_tbl.filter goodWord
theorem gw_mem {w : Cond} {i : Nat} (h : tables_1[i]? = some w) (hg : goodWord w = true) : w ∈ gw_tbl := List.mem_filter.mpr ⟨List.mem_append_right _ (List.mem_of_getElem? h), hg⟩
theorem gw_sel {q : MethodName × Nat} {i : Nat} (h : lw_privs[i]? = some q) (hg : goodWord (Cond.selects q.1.cls q.1 q.1) = true) : Cond.selects q.1.cls q.1 q.1 ∈ gw_tbl := List.mem_filter.mpr ⟨List.mem_append_left _ (List.mem_map.mpr ⟨q, List.mem_of_getElem? h, rfl⟩), hg⟩
theorem gw_good : ∀ w ∈ gw_tbl, goodWord w = true := fun _ h => (List.mem_filter.mp h).2
/-! THE WORLD AS NUMBERS: every cell that the law makes has a number from 8 on (in the order of making); 0 is the script, 1 .. 3 are string constants. Zs: how many cells, what each is (a class' place in vwCl; 100 int[], 101 Sort[], 102 Purse[], 103 Text[], 104 Sheet[]; 105 and above: nothing here), lengths, references; Is: all ints (fields by their slot, arrays by their index). -/
abbrev Mth : Type := MethodName × ByteArray × Nat × Option FieldType
abbrev Is : Type := Nat → Nat → Int32
abbrev Zs : Type := Nat × (Nat → Nat) × (Nat → Nat) × (Nat → Nat → Option Nat)
def zN (z : Zs) : Nat := z.1
def zT (z : Zs) : Nat → Nat := z.2.1
def zL (z : Zs) : Nat → Nat := z.2.2.1
def zP (z : Zs) : Nat → Nat → Option Nat := z.2.2.2
def up1 {α : Type} (f : Nat → α) (a : Nat) (v : α) : Nat → α := fun b => if b = a then v else f b
def up2 {α : Type} (f : Nat → Nat → α) (a i : Nat) (v : α) : Nat → Nat → α := fun b j => if b = a then (if j = i then v else f b j) else f b j
/-- the globals: first cell of ours, cells of the specials, class tables, array classes, lengths and values of the specials (the script; 1 .. 3 the String constants, 4 .. 6 their bytes), what holds outside -/
abbrev Gt : Type := Nat × (Nat → Nat) × va_G × (Nat → ClassId) × (Nat → Nat) × (Nat → Nat → Int32) × (State → Heap → Prop)
def g0 (g : Gt) : Nat := g.1
def gD (g : Gt) : va_G := g.2.2.1
def gA (g : Gt) : Nat → ClassId := g.2.2.2.1
def gL (g : Gt) : Nat → Nat := g.2.2.2.2.1
def gxs (g : Gt) : Nat → Nat → Int32 := g.2.2.2.2.2.1
def gX (g : Gt) : State → Heap → Prop := g.2.2.2.2.2.2
def ad (g : Gt) (k : Nat) : Nat := if k < 8 then g.2.1 k else g0 g + (k - 8)
def lf (g : Gt) : Value → Value
  | .ref k => .ref (ad g k)
  | v => v
def lfs (g : Gt) (lv : List (Nat × Value)) : List (Nat × Value) := lv.map (fun q => (q.1, lf g q.2))
def tyC (ci : Nat) : Nat → FieldType := ([tyX0, tyX1, tyX2, tyX3, tyX4, tyX5, tyX6, tyX7, tyX8, tyX9, tyX10, tyX11, tyX12] : List (Nat → FieldType)).getD ci tyX0
def clN (ci : Nat) : Nat := ([2, 2, 6, 2, 3, 10, 2, 3, 2, 2, 4, 15, 40] : List Nat).getD ci 0
def isR (ci j : Nat) : Bool := match tyC ci j with
  | .array _ => true
  | .object _ => true
  | _ => false
def fv (g : Gt) (z : Zs) (I : Is) (k ci j : Nat) : Value := bif isR ci j then va_rf ((zP z k j).map (ad g)) else .int (I k j)
def elm (g : Gt) (z : Zs) (I : Is) (k : Nat) : va_E :=
  if zT z k < 100 then .inr (zT z k, (List.range (clN (zT z k))).map (fv g z I k (zT z k)))
  else if zT z k = 100 then .inl (gA g 0, zL z k, .inl (I k))
  else .inl (gA g (zT z k - 100), zL z k, .inr (.inr (.inr (.inr (fun i => (zP z k i).map (ad g))))))
def wsO (g : Gt) (z : Zs) (I : Is) : va_W := (List.range (zN z - 8)).map (fun j => (g0 g + j, elm g z I (j + 8)))
def tysG (g : Gt) : List (ClassId × FieldType) := [(gA g 0, .int), (gA g 1, .object RX8), (gA g 2, .object RX4), (gA g 3, .object RX10), (gA g 4, .object RX7)]
def GX (g : Gt) : Prop := (∀ (u U : State) (H : Heap), u.WarmedH U.vm → gX g u H → gX g U H) ∧ (∀ (U : State) (H H1 : Heap), g0 g ≤ H.size → (∀ q, q < g0 g → H1[q]? = H[q]?) → gX g U H → gX g U H1)
def sT (k : Nat) : Nat := ([105, 107, 107, 107, 106, 106, 106, 108] : List Nat).getD k 108
def Wh (g : Gt) (z : Zs) (I : Is) (H : Heap) : Prop :=
  8 ≤ zN z ∧ (∀ k, (k < 8 ∨ zN z ≤ k) → 105 ≤ zT z k) ∧ (∀ k, zT z k < 100 → zT z k < 13) ∧ va_P (gD g) vwCl (wsO g z I) H ∧ H.size = g0 g + (zN z - 8) ∧ ∀ k, k < 8 → zT z k = sT k ∧ zL z k = gL g k ∧ I k = gxs g k
def Cx (g : Gt) (p : Program) (y : Mth) (s : State) (m : MethodId) (args : Array Value) (meth : Method) (c : Code) : Prop :=
  p.tables.exec = Jvm.exec ∧ c.code = y.2.1 ∧ c.maxLocals = y.2.2.1 ∧ meth.sig.returnType = y.2.2.2 ∧ s.vm.findClass y.1.cls = some m.cls ∧ (∀ w ∈ gw_tbl, w.before args s = true) ∧ meth.locks = false ∧ meth.name = y.1.name ∧ va_K (gD g) vwCl (tysG g) s ∧ GX g
def Fa (g : Gt) : Nat → Prop := fun q => g0 g ≤ q
def Qm (g : Gt) (Q : Option Value → Zs → Is → Prop) : Array Value → State → Outcome → State → Prop := fun _ st oc t =>
  (∃ (v : Option Value) (z : Zs) (I : Is), oc = .returned (v.map (lf g)) ∧ Q v z I ∧ Wh g z I t.heap) ∧ st.heap.size ≤ t.heap.size ∧ ∀ q : Nat, q < g0 g → t.heap[q]? = st.heap[q]?
/-- a method stands at pc with these locals, this stack, this world, and with room for d calls, rc cells of rs slots: it comes to its end, and there Q -/
def WPc (g : Gt) (y : Mth) (d rc rs pc : Nat) (lv : List (Nat × Value)) (st : List Value) (z : Zs) (I : Is) (Q : Option Value → Zs → Is → Prop) : Prop :=
  ∀ (p : Program) (l : Launch) (e : Env) (R : Room) (s : State) (m : MethodId) (args : Array Value) (below : List Frame) (meth : Method) (c : Code) (H : Heap) (locs : List Loc) (cells slots : Nat) (ls : Array Slot),
    Cx g p y s m args meth c → d ≤ R.frames → 41 * d ≤ R.locals → cells + rc ≤ R.cells → slots + rs ≤ R.slots → gX g s H → Wh g z I H → va_S (Fa g) s.heap H locs → g0 g ≤ s.heap.size → lv_has ls y.2.2.1 (lfs g lv) →
    W p l e R s m args below meth c H locs cells slots (MQ below (Qm g Q) args s R.cells R.slots (Fa g)) (F0 m pc ls (st.map (lf g)))
def WS (y : Mth) : List Cond := .code y.1 y.2.1 y.2.2.1 y.2.2.2 :: gw_tbl
def rmO (d rc rs : Nat) : Room := { frames := d, cells := rc, slots := rs, locals := 41 * d }
def Pm (g : Gt) (args : List Value) (z : Zs) (I : Is) : Array Value → State → Prop := va_Pc (args.map (lf g)) (fun U => va_K (gD g) vwCl (tysG g) U ∧ GX g ∧ gX g U U.heap ∧ Wh g z I U.heap)
/-- the contract of a method for these arguments in this world -/
def WPm (g : Gt) (y : Mth) (d rc rs : Nat) (args : List Value) (z : Zs) (I : Is) (Q : Option Value → Zs → Is → Prop) : Prop :=
  ∀ l : Launch, Met l y.1 (WS y) (rmO d rc rs) (Pm g args z I) (Qm g Q) rc rs (Fa g)
def WPv (g : Gt) (y : Mth) (d rc rs : Nat) (args : List Value) (z : Zs) (I : Is) (K : Zs → Is → Prop) : Prop := WPm g y d rc rs args z I (fun v z I => v = none ∧ K z I)
def WPi (g : Gt) (y : Mth) (d rc rs : Nat) (args : List Value) (z : Zs) (I : Is) (K : Int32 → Zs → Is → Prop) : Prop := WPm g y d rc rs args z I (fun v z I => ∃ x, v = some (.int x) ∧ K x z I)
def WPl (g : Gt) (y : Mth) (d rc rs : Nat) (args : List Value) (z : Zs) (I : Is) (K : Int64 → Zs → Is → Prop) : Prop := WPm g y d rc rs args z I (fun v z I => ∃ x, v = some (.long x) ∧ K x z I)
def WPr (g : Gt) (y : Mth) (d rc rs : Nat) (args : List Value) (z : Zs) (I : Is) (K : Option Nat → Zs → Is → Prop) : Prop := WPm g y d rc rs args z I (fun v z I => ∃ x, v = some (va_rf x) ∧ K x z I)
-- small facts of the world
theorem lf_cat (g : Gt) (v : Value) : (lf g v).category = v.category := by cases v <;> rfl
theorem lfs_args (g : Gt) : ∀ (vs : List Value) (i : Nat), lv_args i (vs.map (lf g)) = lfs g (lv_args i vs)
  | [], _ => rfl
  | v :: vs, i => by
    show (i, lf g v) :: lv_args _ (vs.map (lf g)) = (i, lf g v) :: lfs g (lv_args _ vs)
    rw [lf_cat, lfs_args g vs]
theorem lg_sl_lf (g : Gt) (vs : List Value) : (lg_sl (vs.map (lf g))).length = (lg_sl vs).length := by
  induction vs with
  | nil => rfl
  | cons v vs ih =>
    simp only [lg_sl, List.map_cons, List.flatMap_cons, List.length_append, lf_cat] at ih ⊢
    rw [ih]
    congr 1
    by_cases h : v.category = 2 <;> simp [h]
theorem wsO_get {g : Gt} {z : Zs} {I : Is} {k : Nat} (h : 8 ≤ k) (h2 : k < zN z) : (wsO g z I)[k - 8]? = some (ad g k, elm g z I k) := by
  unfold wsO
  rw [List.getElem?_map, List.getElem?_range (by omega)]
  simp only [Option.map_some]
  rw [show k - 8 + 8 = k by omega]
  unfold ad
  rw [if_neg (by omega)]
theorem wsO_D (g : Gt) (z : Zs) (I : Is) : va_D (Fa g) (wsO g z I) := by
  have h : ∀ (i : Nat) (p : Nat × va_E), (wsO g z I)[i]? = some p → p.1 = g0 g + i := by
    intro i p hp
    unfold wsO at hp
    rw [List.getElem?_map] at hp
    cases h2 : (List.range (zN z - 8))[i]? with
    | none => rw [h2] at hp; cases hp
    | some j =>
      rw [h2] at hp
      have hj := (List.getElem?_eq_some_iff.mp h2)
      obtain ⟨h3, h4⟩ := hj
      rw [List.getElem_range] at h4
      subst h4
      cases hp
      rfl
  refine ⟨fun i j p q hi hj he => ?_, fun k q hq => ?_⟩
  · have := h i p hi
    have := h j q hj
    omega
  · show g0 g ≤ q.1
    have := h k q hq
    omega
theorem Wh.inN {g : Gt} {z : Zs} {I : Is} {H : Heap} (h : Wh g z I H) {k : Nat} (hk : zT z k < 105) : 8 ≤ k ∧ k < zN z := by
  rcases Nat.lt_or_ge k 8 with q | q
  · have := h.2.1 k (Or.inl q); omega
  · rcases Nat.lt_or_ge k (zN z) with r | r
    · exact ⟨q, r⟩
    · have := h.2.1 k (Or.inr r); omega
theorem elm_obj {g : Gt} {z : Zs} {I : Is} {k ci : Nat} (h : zT z k = ci) (hc : ci < 100) : elm g z I k = .inr (ci, (List.range (clN ci)).map (fv g z I k ci)) := by
  unfold elm
  rw [h, if_pos hc]
theorem elm_int {g : Gt} {z : Zs} {I : Is} {k : Nat} (h : zT z k = 100) : elm g z I k = .inl (gA g 0, zL z k, .inl (I k)) := by
  unfold elm
  rw [h, if_neg (by decide), if_pos rfl]
theorem elm_ref {g : Gt} {z : Zs} {I : Is} {k : Nat} (h : 101 ≤ zT z k) : elm g z I k = .inl (gA g (zT z k - 100), zL z k, .inr (.inr (.inr (.inr (fun i => (zP z k i).map (ad g)))))) := by
  unfold elm
  rw [if_neg (by omega), if_neg (by omega)]
theorem fs_get {g : Gt} {z : Zs} {I : Is} {k ci j : Nat} (h : j < clN ci) : ((List.range (clN ci)).map (fv g z I k ci))[j]? = some (fv g z I k ci j) := by
  rw [List.getElem?_map, List.getElem?_range h]
  rfl
/-- another world with the same cells but one -/
theorem wsO_set {g : Gt} {z z' : Zs} {I I' : Is} {k : Nat} (h : 8 ≤ k) (hN : zN z' = zN z) (ho : ∀ j, j ≠ k → elm g z' I' j = elm g z I j) : (wsO g z I).set (k - 8) (ad g k, elm g z' I' k) = wsO g z' I' := by
  apply List.ext_getElem?
  intro i
  rw [List.getElem?_set]
  by_cases hi : k - 8 = i
  · rw [if_pos hi]
    by_cases hl : i < (wsO g z I).length
    · rw [if_pos (by rw [hi]; exact hl)]
      have hl2 : i < zN z - 8 := by simpa [wsO] using hl
      rw [show i = k - 8 by omega, wsO_get h (by omega)]
    · rw [if_neg (by rw [hi]; exact hl)]
      have hl2 : ¬ i < zN z - 8 := by simpa [wsO] using hl
      symm
      rw [List.getElem?_eq_none_iff]
      simp only [wsO, List.length_map, List.length_range, hN]
      omega
  · rw [if_neg hi]
    unfold wsO
    rw [List.getElem?_map, List.getElem?_map, hN]
    by_cases hl : i < zN z - 8
    · rw [List.getElem?_range hl]
      simp only [Option.map_some]
      rw [ho (i + 8) (by omega)]
    · rw [List.getElem?_eq_none_iff.mpr (by simpa using hl)]
      rfl
theorem lf_rf (g : Gt) (o : Option Nat) : lf g (va_rf o) = va_rf (o.map (ad g)) := by cases o <;> rfl
theorem lfs_look {g : Gt} {ls : Array Slot} {nL : Nat} {lv : List (Nat × Value)} (h : lv_has ls nL (lfs g lv)) {i : Nat} {v : Value} (hm : (i, v) ∈ lv) : ls[i]? = some (.val (lf g v)) :=
  h.2.2 (i, lf g v) (List.mem_map.mpr ⟨(i, v), hm, rfl⟩)
/-- the locals of a list, looked up -/
def lk (lv : List (Nat × Value)) (i : Nat) : Option Value := match lv with
  | [] => none
  | (j, v) :: r => bif Nat.beq j i then some v else lk r i
theorem lk_mem : ∀ {lv : List (Nat × Value)} {i : Nat} {v : Value}, lk lv i = some v → (i, v) ∈ lv
  | [], _, _, h => by cases h
  | (j, w) :: r, i, v, h => by
    unfold lk at h
    cases hb : Nat.beq j i with
    | true =>
      rw [hb] at h
      have e : j = i := Nat.eq_of_beq_eq_true hb
      subst e
      cases h
      exact List.mem_cons_self
    | false =>
      rw [hb] at h
      exact List.mem_cons_of_mem _ (lk_mem h)
/-- a store into the locals -/
def lst (lv : List (Nat × Value)) (i : Nat) (v : Value) : List (Nat × Value) := (i, v) :: lv.filter (fun q => !(q.1 == i) && !(q.1 + 1 == i && q.2.category == 2))
def lst2 (lv : List (Nat × Value)) (i : Nat) (v : Value) : List (Nat × Value) := (i, v) :: lv.filter (fun q => !(q.1 == i) && (!(q.1 == i + 1) && !(q.1 + 1 == i && q.2.category == 2)))
theorem lfs_lst (g : Gt) (lv : List (Nat × Value)) (i : Nat) (v : Value) : (i, lf g v) :: (lfs g lv).filter (fun q => !(q.1 == i) && !(q.1 + 1 == i && q.2.category == 2)) = lfs g (lst lv i v) := by
  show _ = (i, lf g v) :: (List.filter _ lv).map _
  unfold lfs
  rw [List.filter_map]
  congr 2
  apply List.filter_congr
  intro q _
  simp [lf_cat]
theorem lfs_lst2 (g : Gt) (lv : List (Nat × Value)) (i : Nat) (v : Value) : (i, lf g v) :: (lfs g lv).filter (fun q => !(q.1 == i) && (!(q.1 == i + 1) && !(q.1 + 1 == i && q.2.category == 2))) = lfs g (lst2 lv i v) := by
  show _ = (i, lf g v) :: (List.filter _ lv).map _
  unfold lfs
  rw [List.filter_map]
  congr 2
  apply List.filter_congr
  intro q _
  simp [lf_cat]
/-- fewer locals -/
theorem lfs_sub {g : Gt} {ls : Array Slot} {nL : Nat} {lv lv' : List (Nat × Value)} (h : lv_has ls nL (lfs g lv)) (hs : ∀ q ∈ lv', q ∈ lv) : lv_has ls nL (lfs g lv') := by
  refine ⟨h.1, h.2.1, fun q hq => ?_⟩
  obtain ⟨q', h1, h2⟩ := List.mem_map.mp hq
  exact h.2.2 q (List.mem_map.mpr ⟨q', hs q' h1, h2⟩)
