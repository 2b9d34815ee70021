/-! the start: what the tables and the statement give -/
theorem cl_get {c : Nat} {q : vw_C} (h : vwCl[c]? = some q) : ClsF c q.1 q.2.1 ∧ q.2.2 = clN c := by
  have hc : c < 13 := (List.getElem?_eq_some_iff.mp h).1
  obtain rfl | rfl | rfl | rfl | rfl | rfl | rfl | rfl | rfl | rfl | rfl | rfl | rfl : c = 0 ∨ c = 1 ∨ c = 2 ∨ c = 3 ∨ c = 4 ∨ c = 5 ∨ c = 6 ∨ c = 7 ∨ c = 8 ∨ c = 9 ∨ c = 10 ∨ c = 11 ∨ c = 12 := by omega
  · have e : some (RX0, TX0, 2) = some q := h; cases e; exact ⟨cf0, rfl⟩
  · have e : some (RX1, TX1, 2) = some q := h; cases e; exact ⟨cf1, rfl⟩
  · have e : some (RX2, TX2, 6) = some q := h; cases e; exact ⟨cf2, rfl⟩
  · have e : some (RX3, TX3, 2) = some q := h; cases e; exact ⟨cf3, rfl⟩
  · have e : some (RX4, TX4, 3) = some q := h; cases e; exact ⟨cf4, rfl⟩
  · have e : some (RX5, TX5, 10) = some q := h; cases e; exact ⟨cf5, rfl⟩
  · have e : some (RX6, TX6, 2) = some q := h; cases e; exact ⟨cf6, rfl⟩
  · have e : some (RX7, TX7, 3) = some q := h; cases e; exact ⟨cf7, rfl⟩
  · have e : some (RX8, TX8, 2) = some q := h; cases e; exact ⟨cf8, rfl⟩
  · have e : some (RX9, TX9, 2) = some q := h; cases e; exact ⟨cf9, rfl⟩
  · have e : some (RX10, TX10, 4) = some q := h; cases e; exact ⟨cf10, rfl⟩
  · have e : some (RX11, TX11, 15) = some q := h; cases e; exact ⟨cf11, rfl⟩
  · have e : some (RX12, TX12, 40) = some q := h; cases e; exact ⟨cf12, rfl⟩
theorem en_D {s : State} {args : Array Value} (hg : ∀ w ∈ gw_tbl, w.before args s = true) : ∃ D : va_G, ∀ (c : Nat) (q : vw_C), vwCl[c]? = some q → u_Kn s q.1 q.2.1 q.2.2 (D.1 c) (D.2 c) := by
  have h1 : ∀ c : Nat, ∃ d : ClassId × (Nat → Nat), ∀ C T, ClsF c C T → u_Kn s C T (clN c) d.1 d.2 := fun c => by
    by_cases h : ∃ C T, ClsF c C T
    · obtain ⟨C, T, h⟩ := h
      obtain ⟨cC, iS, k⟩ := u_known (args := args) (ws := gw_tbl) hg h.2.1 (hg _ (allok1 c C T h).1)
      refine ⟨(cC, iS), fun C' T' h' => ?_⟩
      obtain ⟨e1, e2⟩ := h.uniq h'
      rw [← e1, ← e2]; exact k
    · exact ⟨(0, fun _ => 0), fun C T q => absurd ⟨C, T, q⟩ h⟩
  obtain ⟨d, hd⟩ := Classical.axiomOfChoice h1
  refine ⟨(fun c => (d c).1, fun c => (d c).2), fun c q h => ?_⟩
  obtain ⟨h2, h3⟩ := cl_get h
  rw [h3]
  exact hd c _ _ h2
theorem en_A {s : State} {args : Array Value} (hts : ∀ w ∈ lw_tbl, w.before args s = true) : ∃ A : Nat → ClassId, (ArrOfT s (A 0) .int ∧ va_RA s (A 0) .int) ∧ ∀ t, 1 ≤ t → t ≤ 4 → ArrOfT s (A t) (.object (tyR t)) ∧ va_RA s (A t) (.object (tyR t)) := by
  have h1 : ∀ t : Nat, ∃ c : ClassId, (t = 0 → ArrOfT s c .int ∧ va_RA s c .int) ∧ (1 ≤ t → t ≤ 4 → ArrOfT s c (.object (tyR t)) ∧ va_RA s c (.object (tyR t))) := fun t => by
    by_cases h0 : t = 0
    · obtain ⟨c, k, comp, f1, f2, f3⟩ := Cond.arrayClass_spec (hts (.arrayClass .int) (by decide +kernel))
      exact ⟨c, fun _ => ⟨fun n z => ⟨fun _ h => (by cases h), k, f2, comp, f3⟩, f1⟩, fun a => by omega⟩
    · by_cases h4 : t ≤ 4
      · have hw : Cond.arrayOver (.object (tyR t)) ∈ lw_tbl := by
          obtain rfl | rfl | rfl | rfl : t = 1 ∨ t = 2 ∨ t = 3 ∨ t = 4 := by omega
          · decide +kernel
          · decide +kernel
          · decide +kernel
          · decide +kernel
        obtain ⟨comp, c, k, f1, _, f2, f3, f4⟩ := Cond.arrayOver_spec (hts _ hw)
        exact ⟨c, fun a => absurd a h0, fun _ _ => ⟨fun n z => ⟨fun _ h => (by cases h), k, f2, comp, f3⟩, k, comp, f2, f3, f1, f4⟩⟩
      · exact ⟨0, fun a => absurd a h0, fun _ a => absurd a h4⟩
  obtain ⟨A, hA⟩ := Classical.axiomOfChoice h1
  exact ⟨A, (hA 0).1 rfl, fun t => (hA t).2⟩
theorem en_K {s : State} {g : Gt} (hD : ∀ (c : Nat) (q : vw_C), vwCl[c]? = some q → u_Kn s q.1 q.2.1 q.2.2 ((gD g).1 c) ((gD g).2 c)) (h0 : ArrOfT s (gA g 0) .int ∧ va_RA s (gA g 0) .int) (h1 : ∀ t, 1 ≤ t → t ≤ 4 → ArrOfT s (gA g t) (.object (tyR t)) ∧ va_RA s (gA g t) (.object (tyR t))) : va_K (gD g) vwCl (tysG g) s := by
  refine ⟨hD, fun k q h => ?_⟩
  have hk : k < 5 := (List.getElem?_eq_some_iff.mp h).1
  obtain rfl | rfl | rfl | rfl | rfl : k = 0 ∨ k = 1 ∨ k = 2 ∨ k = 3 ∨ k = 4 := by omega
  · have e : some (gA g 0, FieldType.int) = some q := h; cases e; exact h0
  · have e : some (gA g 1, FieldType.object (tyR 1)) = some q := h; cases e; exact h1 1 (by omega) (by omega)
  · have e : some (gA g 2, FieldType.object (tyR 2)) = some q := h; cases e; exact h1 2 (by omega) (by omega)
  · have e : some (gA g 3, FieldType.object (tyR 3)) = some q := h; cases e; exact h1 3 (by omega) (by omega)
  · have e : some (gA g 4, FieldType.object (tyR 4)) = some q := h; cases e; exact h1 4 (by omega) (by omega)
def enT (i : Nat) : Term := ([.string RX11 63, .string RX5 106, .string RX5 117] : List Term).getD i (.string RX11 63)
theorem en_S {s : State} {args : Array Value} (hv : ∀ w ∈ flatC (Jvm.Cond.and given_1 narrow_1), w.before args s = true) : ∃ adK adV : Nat → Nat, vk_S 3 slen sbyt adK adV (fun q => s.heap.size ≤ q) s s.heap ∧ ∀ i : Nat, i < 3 → (enT i).eval args s none [] s = some (.ref (adK i)) := by
  refine vk_Sof (args := args) (by decide) (fun i hi => hv _ ?_) (fun i hi => hv _ ?_) (fun i hi => hv _ ?_) (fun i hi => hv _ ?_) (fun i hi j hj => hv _ ?_) (fun i j hi hj n => ?_) (fun a h => Nat.not_le.mpr h)
  · have : ∀ i, i < 3 → Cond.exactly (enT i) "java/lang/String" ∈ flatC (Jvm.Cond.and given_1 narrow_1) := by decide +kernel
    exact this i hi
  · have : ∀ i, i < 3 → Cond.eq (.field (enT i) "java/lang/String" "coder" "B") (.int 0) ∈ flatC (Jvm.Cond.and given_1 narrow_1) := by decide +kernel
    exact this i hi
  · have : ∀ i, i < 3 → Cond.arrayOf (.field (enT i) "java/lang/String" "value" "[B") .byte ∈ flatC (Jvm.Cond.and given_1 narrow_1) := by decide +kernel
    exact this i hi
  · have : ∀ i, i < 3 → Cond.eq (.length (.field (enT i) "java/lang/String" "value" "[B")) (.int (Int32.ofNat (slen.getD i 0))) ∈ flatC (Jvm.Cond.and given_1 narrow_1) := by decide +kernel
    exact this i hi
  · have : ∀ i, i < 3 → ∀ j, j < slen.getD i 0 → Cond.eq (.elem (.field (enT i) "java/lang/String" "value" "[B") (.int (Int32.ofNat j))) (.int ((sbyt.getD i []).getD j 0)) ∈ flatC (Jvm.Cond.and given_1 narrow_1) := by decide +kernel
    exact this i hi j hj
  · have : ∀ i, i < 3 → ∀ j, j < 3 → i ≠ j → Cond.not (Cond.eq (enT i) (enT j)) ∈ flatC (Jvm.Cond.and given_1 narrow_1) ∨ Cond.not (Cond.eq (enT j) (enT i)) ∈ flatC (Jvm.Cond.and given_1 narrow_1) := by decide +kernel
    rcases this i hi j hj n with h | h
    · exact Or.inl (hv _ h)
    · exact Or.inr (hv _ h)
theorem en_N : ∀ q ∈ NcL, Cond.not (.castable q.1 q.2) ∈ flatC (Jvm.Cond.and given_1 narrow_1) := by decide +kernel
theorem en_C : ∀ q ∈ CaL, Cond.castable q.1 q.2 ∈ lw_tbl := by decide +kernel
theorem en_L : ∀ q ∈ NsL, Cond.methodLinkNest q.1 q.2.1 q.2.2.1 q.2.2.2 ∈ lw_tbl := by decide +kernel
theorem en_R : Cond.stringRef RX11 63 sx0 ∈ lw_tbl ∧ Cond.stringRef RX5 106 sx1 ∈ lw_tbl ∧ Cond.stringRef RX5 117 sx2 ∈ lw_tbl := ⟨by decide +kernel, by decide +kernel, by decide +kernel⟩
theorem en_Z : Cond.laysStatic "java/lang/String" "COMPACT_STRINGS" "Z" ∈ lw_tbl ∧ Cond.initialized "java/lang/String" ∈ lw_tbl ∧ Cond.laysStatic "jdk/internal/util/Preconditions" "SIOOBE_FORMATTER" "Ljava/util/function/BiFunction;" ∈ lw_tbl ∧ Cond.initialized "jdk/internal/util/Preconditions" ∈ lw_tbl := ⟨by decide +kernel, by decide +kernel, by decide +kernel, by decide +kernel⟩
theorem en_V : Cond.eq (.static "java/lang/String" "COMPACT_STRINGS" "Z") (.int 1) ∈ flatC (Jvm.Cond.and given_1 narrow_1) ∧ Cond.isRef (.static "jdk/internal/util/Preconditions" "SIOOBE_FORMATTER" "Ljava/util/function/BiFunction;") ∈ flatC (Jvm.Cond.and given_1 narrow_1) := ⟨by decide +kernel, by decide +kernel⟩
