/-! the walker is enough -/
def FEok (own : String) (i j : Nat) (tags : List Nat) (fin : Nat) : Prop :=
  (tags = [] → (j = 0 → Cond.fieldLink own i "java/lang/String" "value" "[B" ∈ gw_tbl) ∧ (j = 1 → Cond.fieldLink own i "java/lang/String" "coder" "B" ∈ gw_tbl) ∧ (j = 2 → Cond.fieldLink own i "java/lang/String" "COMPACT_STRINGS" "Z" ∈ gw_tbl) ∧ (j = 3 → Cond.fieldLink own i "jdk/internal/util/Preconditions" "SIOOBE_FORMATTER" "Ljava/util/function/BiFunction;" ∈ gw_tbl)) ∧
  ∀ c ∈ tags, FldOK own i c j ∧ isR c j = isR (tags.headD 0) j ∧ tyC c j = tyC (tags.headD 0) j ∧ (fin = 0 → ∃ C T, ClsF c C T ∧ (T j).2.2.2 = false) ∧ (fin = 1 → ∃ C T, ClsF c C T ∧ (T j).2.2.2 = true ∧ (T j).1 = own)
def CEok (own : String) (i k : Nat) (l : List (Nat × Mth)) (n : Nat) : Prop :=
  (k = 0 → ∀ q ∈ l, CalS own i q.2 n) ∧ (k = 1 → ∀ q ∈ l, (∃ host, NstOK own i q.2 n host) ∧ Cond.static q.2.1 ∈ gw_tbl) ∧ (k = 2 → ∀ q ∈ l, CalI own i q.2 n) ∧ (k = 3 → ∀ q ∈ l, (∃ host, NstOK own i q.2 n host) ∧ Cond.instanceMethod q.2.1 ∈ gw_tbl ∧ q.2.1.name = "<init>" ∧ q.2.2.2.2 = none) ∧ (k = 4 → ∀ q ∈ l, CalP own i q.2 n q.1 ∨ ∃ x, CalQ own i x q.2 n q.1) ∧ (k = 5 → ∀ q ∈ l, CalV own i q.2 n q.1 ∨ ∃ x, CalU own i x q.2 n q.1) ∧ (k = 6 → ObjOK own i) ∧ (k = 7 → CpyOK own i) ∧ (k = 8 → CloOK own i) ∧ (k = 9 → ∀ q ∈ l, CalW own i q.2 n)
def NEok (own : String) (i c : Nat) : Prop := (c = 200 → Cond.classLink own i "[I" ∈ gw_tbl) ∧ (c ≠ 200 → ∃ C T, ClsF c C T ∧ Cond.classLink own i C ∈ gw_tbl)
def LEok (g : Gt) (own : String) (i : Nat) (v : Value) : Prop := match v with
  | .int x => Cond.constant own i x ∈ gw_tbl
  | .long x => Cond.constantLong own i x ∈ gw_tbl
  | .ref a => ∃ tx, ∀ (s : State) (H : Heap), gX g s H → vk_R own i tx (ad g a) s
  | _ => False
def KTok (g : Gt) (own : String) (kt : KT) : Prop := (∀ e ∈ kt.1, FEok own e.1 e.2.1 e.2.2.1 e.2.2.2) ∧ (∀ e ∈ kt.2.1, CEok own e.1 e.2.1 e.2.2.1 e.2.2.2.1) ∧ (∀ e ∈ kt.2.2.1, NEok own e.1 e.2) ∧ ∀ e ∈ kt.2.2.2, LEok g own e.1 e.2
/-- what the tables say of the classes at large -/
def AllOK : Prop := (∀ c C T, ClsF c C T → Cond.instantiable C (clN c) ∈ gw_tbl ∧ Cond.initialized C ∈ gw_tbl ∧ DefOK c) ∧ (∀ c t, stoB c t = true → StoOK c t ∧ ∃ ce C T, ClsF ce C T ∧ C = tyR t) ∧ Cond.arrayClass .int ∈ gw_tbl ∧ (∀ c C T, ClsF c C T → tyR (anwT c) = C ∨ ¬ (c = 8 ∨ c = 4 ∨ c = 10 ∨ c = 7)) ∧ (∀ c nm T, ClsF c nm T → (c = 0 ∨ c = 6 ∨ c = 9 ∨ c = 1 ∨ c = 3) → ∀ t, (tagB (insY c) t = true → ∃ C T, ClsF t C T ∧ (C = nm ∨ (C, nm) ∈ CaL)) ∧ (tagB (insY c) t = false → tagB [8, 0, 6, 9, 1, 3] t = true → ∃ C T, ClsF t C T ∧ ((C, nm) ∈ NcL ∨ ¬ (c = 0 ∨ c = 6 ∨ c = 9 ∨ c = 1 ∨ c = 3))))
theorem inB_nI {n : Int32} (h : inB n 100001 = true) : n = Int32.ofNat n.toNatClampNeg ∧ n.toNatClampNeg ≤ 100000 := by
  obtain ⟨j, hj, rfl⟩ := vp_in_of (inB_vp h) (by omega)
  have e : (nI j).toNatClampNeg = j := nI_clamp (by omega)
  rw [e]
  exact ⟨rfl, by omega⟩
theorem Int32.ofInt_of {x : Int32} {k : Int} (h : x.toInt = k) : x = Int32.ofInt k := by rw [← h]; exact (Int32.ofInt_toInt x).symm
theorem jmp_of {pc : Nat} {off : Int} {go : Nat → Prop} (h : jmp pc off go) : ∃ t : Nat, (pc : Int) + off = (t : Int) ∧ go t := by
  obtain ⟨h1, h2⟩ := ckT_of h
  have := of_decide_eq_true h1
  exact ⟨_, by omega, h2⟩
theorem tswK_get {x : Int32} {go : Nat → Prop} {pc : Nat} {dflt : Int} : ∀ {l : List Int} {k : Int}, -2147483648 ≤ k → k + l.length ≤ 2147483648 → tswK x go pc dflt k l → (∀ (i : Nat) (off : Int) (tgt : Nat), l[i]? = some off → (pc : Int) + off = (tgt : Int) → x.toInt = k + i → go tgt) ∧ ((x.toInt < k ∨ k + l.length ≤ x.toInt) → go ((pc : Int) + dflt).toNat)
  | [], k, _, _, h => ⟨fun i off _ h2 _ _ => by simp at h2, fun _ => h⟩
  | o :: r, k, hk, hk2, h => by
    simp only [List.length_cons] at hk2
    obtain ⟨h1, h2⟩ := iteB_c h
    have hki : (Int32.ofInt k).toInt = k := Int32.toInt_ofInt_of_le (by simpa using hk) (by simp; omega)
    refine ⟨fun i off tgt hi ht hx => ?_, fun hx => ?_⟩
    · cases i with
      | zero =>
        simp at hi
        subst hi
        have h3 := h1 (Int32.ofInt_of (by simpa using hx))
        rw [ht] at h3
        exact h3
      | succ i =>
        have hne : ¬ x = Int32.ofInt k := fun e => by rw [e, hki] at hx; push_cast at hx; omega
        exact (tswK_get (k := k + 1) (by omega) (by omega) (h2 hne)).1 i off tgt (by simpa using hi) ht (by rw [hx]; push_cast; omega)
    · simp only [List.length_cons] at hx
      have hne : ¬ x = Int32.ofInt k := fun e => by rw [e, hki] at hx; push_cast at hx; omega
      exact (tswK_get (k := k + 1) (by omega) (by omega) (h2 hne)).2 (by push_cast at hx; omega)

theorem lswK_get {x : Int32} {go : Nat → Prop} {pc : Nat} {dflt : Int} : ∀ {l : List (Int × Int)}, (∀ q ∈ l, -2147483648 ≤ q.1 ∧ q.1 < 2147483648) → lswK x go pc dflt l → ∃ (off : Int) (tgt : Nat), Op.lookupswitch.offset l dflt x.toInt = off ∧ (pc : Int) + off = (tgt : Int) ∧ go tgt
  | [], _, h => by
    obtain ⟨h1, h2⟩ := ckT_of h
    have := of_decide_eq_true h1
    exact ⟨dflt, _, rfl, by omega, h2⟩
  | (k, o) :: r, hr, h => by
    have hk := hr (k, o) List.mem_cons_self
    have hki : (Int32.ofInt k).toInt = k := Int32.toInt_ofInt_of_le (by simpa using hk.1) (by simpa using hk.2)
    obtain ⟨hA, hB⟩ := iteB_c h
    by_cases hx : x = Int32.ofInt k
    · obtain ⟨h1, h2⟩ := ckT_of (hA hx)
      have := of_decide_eq_true h1
      refine ⟨o, _, ?_, by omega, h2⟩
      have : x.toInt = k := by rw [hx, hki]
      simp [Op.lookupswitch.offset, this]
    · obtain ⟨off, tgt, e1, e2, e3⟩ := lswK_get (fun q hq => hr q (List.mem_cons_of_mem _ hq)) (hB hx)
      refine ⟨off, tgt, ?_, e2, e3⟩
      rw [lv_osw hx hki]
      exact e1
theorem oe_map {o : Option Nat} {A A' : Prop} {B B' : Nat → Prop} (h : oe o A B) (ha : A → A') (hb : ∀ q, B q → B' q) : oe o A' B' := by
  cases o with
  | none => exact ha h
  | some q => exact hb q h
theorem rk_ref {r : Option FieldType} (h : rk r = 2) : ∃ ty, r = some ty ∧ ((∃ n, ty = .object n) ∨ ∃ t, ty = .array t) := by
  cases r with
  | none => simp [rk] at h
  | some ty => cases ty <;> simp [rk] at h <;> first | exact ⟨_, rfl, Or.inl ⟨_, rfl⟩⟩ | exact ⟨_, rfl, Or.inr ⟨_, rfl⟩⟩
theorem rk_void {r : Option FieldType} (h : rk r = 0) : r = none := by
  cases r with
  | none => rfl
  | some ty => cases ty <;> simp [rk] at h
section WST
variable {g : Gt} {kt : KT} {y : Mth} {ini : Bool} {d rc rs pc : Nat} {lv : List (Nat × Value)} {st : List Value} {z : Zs} {I : Is} {Q : Option Value → Zs → Is → Prop} {go : Nat → Nat → Nat → List (Nat × Value) → List Value → Zs → Is → Prop}
theorem finOK {i j c : Nat} {tags : List Nat} {fin : Nat} {t : Nat} (he : FEok y.1.cls i j (c :: tags) fin) (hini : ini = true → y.1.name = "<init>") (ht : t ∈ c :: tags) (hf : (Nat.beq fin 0 || (Nat.beq fin 1 && ini)) = true) : FinOK y t j := by
  obtain ⟨-, -, -, h0, h1⟩ := he.2 t ht
  rw [Bool.or_eq_true, Bool.and_eq_true] at hf
  rcases hf with h | ⟨h, hi⟩
  · obtain ⟨C, T, a, b⟩ := h0 (Nat.eq_of_beq_eq_true h)
    exact ⟨C, T, a, Or.inl b⟩
  · obtain ⟨C, T, a, b, e⟩ := h1 (Nat.eq_of_beq_eq_true h)
    exact ⟨C, T, a, Or.inr ⟨b, hini hi, e⟩⟩
theorem rngB_of {t : Nat} (h : rngB t = true) : ∃ u, t = 100 + u ∧ 1 ≤ u ∧ u ≤ 4 := by
  unfold rngB at h
  rw [Bool.and_eq_true] at h
  have h1 := Nat.le_of_ble_eq_true h.1
  have h2 := Nat.le_of_ble_eq_true h.2
  exact ⟨t - 100, by omega, by omega, by omega⟩
theorem call_st {n : Nat} {st : List Value} : st = (st.take n).reverse.reverse ++ st.drop n := by rw [List.reverse_reverse, List.take_append_drop]
theorem call_st2 {n a : Nat} {st st2 : List Value} (h : st.drop n = .ref a :: st2) : st = (st.take n).reverse.reverse ++ .ref a :: st2 := by rw [List.reverse_reverse, ← h, List.take_append_drop]
set_option maxHeartbeats 4000000 in
set_option maxRecDepth 100000 in
theorem wst_ok {ins : Instr} {len : Nat} (hA : AllOK) (hs : GS g) (hkt : KTok g y.1.cls kt) (hini : ini = true → y.1.name = "<init>") (hgo : ∀ rc rs pc lv st z I, go rc rs pc lv st z I → WPc g y d rc rs pc lv st z I Q) (hd : decode y.2.1 pc = .ok (ins, len)) (hlen : len = ilen ins len) (h : wst g kt y ini Q go ins d rc rs pc lv st z I) : WPc g y d rc rs pc lv st z I Q := by
  unfold wst at h
  split at h
  · exact r_iconst (by rw [hd, hlen]; rfl) (hgo _ _ _ _ _ _ _ h)
  · exact r_bipush (by rw [hd, hlen]; rfl) (hgo _ _ _ _ _ _ _ h)
  · exact r_sipush (by rw [hd, hlen]; rfl) (hgo _ _ _ _ _ _ _ h)
  · exact r_lconst (by rw [hd, hlen]; rfl) (hgo _ _ _ _ _ _ _ h)
  · exact r_null (by rw [hd, hlen]; rfl) (hgo _ _ _ _ _ _ _ h)
  · split at h
    · exact r_iload_n (by rw [hd, hlen]; rfl) (by assumption) (hgo _ _ _ _ _ _ _ h)
    · exact h.elim
  · split at h
    · exact r_iload (by rw [hd, hlen]; rfl) (by assumption) (hgo _ _ _ _ _ _ _ h)
    · exact h.elim
  · split at h
    · exact r_lload_n (by rw [hd, hlen]; rfl) (by assumption) (hgo _ _ _ _ _ _ _ h)
    · exact h.elim
  · split at h
    · exact r_lload (by rw [hd, hlen]; rfl) (by assumption) (hgo _ _ _ _ _ _ _ h)
    · exact h.elim
  · split at h
    · exact r_aload_n (by rw [hd, hlen]; rfl) (by assumption) (hgo _ _ _ _ _ _ _ h)
    · exact r_aload_nN (by rw [hd, hlen]; rfl) (by assumption) (hgo _ _ _ _ _ _ _ h)
    · exact h.elim
  · split at h
    · exact r_aload (by rw [hd, hlen]; rfl) (by assumption) (hgo _ _ _ _ _ _ _ h)
    · exact r_aloadN (by rw [hd, hlen]; rfl) (by assumption) (hgo _ _ _ _ _ _ _ h)
    · exact h.elim
  · exact r_istore_n (by rw [hd, hlen]; rfl) (Nat.blt_eq.mp (ckT_of h).1) (hgo _ _ _ _ _ _ _ (ckT_of h).2)
  · exact r_istore (by rw [hd, hlen]; rfl) (Nat.blt_eq.mp (ckT_of h).1) (hgo _ _ _ _ _ _ _ (ckT_of h).2)
  · exact r_lstore_n (by rw [hd, hlen]; rfl) (Nat.blt_eq.mp (ckT_of h).1) (hgo _ _ _ _ _ _ _ (ckT_of h).2)
  · exact r_lstore (by rw [hd, hlen]; rfl) (Nat.blt_eq.mp (ckT_of h).1) (hgo _ _ _ _ _ _ _ (ckT_of h).2)
  · exact r_astore_n (by rw [hd, hlen]; rfl) (Nat.blt_eq.mp (ckT_of h).1) (hgo _ _ _ _ _ _ _ (ckT_of h).2)
  · exact r_astore (by rw [hd, hlen]; rfl) (Nat.blt_eq.mp (ckT_of h).1) (hgo _ _ _ _ _ _ _ (ckT_of h).2)
  · exact r_astore_nN (by rw [hd, hlen]; rfl) (Nat.blt_eq.mp (ckT_of h).1) (hgo _ _ _ _ _ _ _ (ckT_of h).2)
  · exact r_astoreN (by rw [hd, hlen]; rfl) (Nat.blt_eq.mp (ckT_of h).1) (hgo _ _ _ _ _ _ _ (ckT_of h).2)
  · split at h
    · exact r_iinc (by rw [hd, hlen]; rfl) (by assumption) (Nat.blt_eq.mp (ckT_of h).1) (hgo _ _ _ _ _ _ _ (ckT_of h).2)
    · exact h.elim
  · exact r_iadd (by rw [hd, hlen]; rfl) (hgo _ _ _ _ _ _ _ h)
  · exact r_isub (by rw [hd, hlen]; rfl) (hgo _ _ _ _ _ _ _ h)
  · exact r_imul (by rw [hd, hlen]; rfl) (hgo _ _ _ _ _ _ _ h)
  · exact r_iand (by rw [hd, hlen]; rfl) (hgo _ _ _ _ _ _ _ h)
  · exact r_ior (by rw [hd, hlen]; rfl) (hgo _ _ _ _ _ _ _ h)
  · exact r_ishl (by rw [hd, hlen]; rfl) (hgo _ _ _ _ _ _ _ h)
  · exact r_ishr (by rw [hd, hlen]; rfl) (hgo _ _ _ _ _ _ _ h)
  · exact r_idiv (by rw [hd, hlen]; rfl) (by simpa using (ckB_of h).1) (hgo _ _ _ _ _ _ _ (ckB_of h).2)
  · exact r_irem (by rw [hd, hlen]; rfl) (by simpa using (ckB_of h).1) (hgo _ _ _ _ _ _ _ (ckB_of h).2)
  · exact r_ineg (by rw [hd, hlen]; rfl) (hgo _ _ _ _ _ _ _ h)
  · exact r_ladd (by rw [hd, hlen]; rfl) (hgo _ _ _ _ _ _ _ h)
  · exact r_lmul (by rw [hd, hlen]; rfl) (hgo _ _ _ _ _ _ _ h)
  · exact r_ldiv (by rw [hd, hlen]; rfl) (by simpa using (ckB_of h).1) (hgo _ _ _ _ _ _ _ (ckB_of h).2)
  · exact r_lrem (by rw [hd, hlen]; rfl) (by simpa using (ckB_of h).1) (hgo _ _ _ _ _ _ _ (ckB_of h).2)
  · exact r_lcmp (by rw [hd, hlen]; rfl) (hgo _ _ _ _ _ _ _ h)
  · exact r_i2l (by rw [hd, hlen]; rfl) (hgo _ _ _ _ _ _ _ h)
  · exact r_l2i (by rw [hd, hlen]; rfl) (hgo _ _ _ _ _ _ _ h)
  · exact r_i2b (by rw [hd, hlen]; rfl) (hgo _ _ _ _ _ _ _ h)
  · exact r_i2s (by rw [hd, hlen]; rfl) (hgo _ _ _ _ _ _ _ h)
  · exact r_i2c (by rw [hd, hlen]; rfl) (hgo _ _ _ _ _ _ _ h)
  · exact r_dup (by rw [hd, hlen]; rfl) (Nat.eq_of_beq_eq_true (ckT_of h).1) (hgo _ _ _ _ _ _ _ (ckT_of h).2)
  · exact r_pop (by rw [hd, hlen]; rfl) (Nat.eq_of_beq_eq_true (ckT_of h).1) (hgo _ _ _ _ _ _ _ (ckT_of h).2)
  · have h1 := (ckT_of h).1
    rw [Bool.and_eq_true] at h1
    exact r_dup2 (by rw [hd, hlen]; rfl) (Nat.eq_of_beq_eq_true h1.1) (Nat.eq_of_beq_eq_true h1.2) (hgo _ _ _ _ _ _ _ (ckT_of h).2)
  · obtain ⟨t, h1, h2⟩ := jmp_of h
    exact r_goto (by rw [hd, hlen]; rfl) h1 (hgo _ _ _ _ _ _ _ h2)
  · obtain ⟨t, ht, hb⟩ := jmp_of h
    obtain ⟨kt, kf⟩ := iteB_c hb
    exact r_icmp_eq (by rw [hd, hlen]; rfl) ht (fun q => hgo _ _ _ _ _ _ _ (kt q)) (fun q => hgo _ _ _ _ _ _ _ (kf q))
  · obtain ⟨t, ht, hb⟩ := jmp_of h
    obtain ⟨kt, kf⟩ := iteB_c hb
    exact r_icmp_ne (by rw [hd, hlen]; rfl) ht (fun q => hgo _ _ _ _ _ _ _ (kf q)) (fun q => hgo _ _ _ _ _ _ _ (kt q))
  · obtain ⟨t, ht, hb⟩ := jmp_of h
    obtain ⟨kt, kf⟩ := iteB_c hb
    exact r_icmp_lt (by rw [hd, hlen]; rfl) ht (fun q => hgo _ _ _ _ _ _ _ (kt q)) (fun q => hgo _ _ _ _ _ _ _ (kf q))
  · obtain ⟨t, ht, hb⟩ := jmp_of h
    obtain ⟨kt, kf⟩ := iteB_c hb
    exact r_icmp_le (by rw [hd, hlen]; rfl) ht (fun q => hgo _ _ _ _ _ _ _ (kt q)) (fun q => hgo _ _ _ _ _ _ _ (kf q))
  · obtain ⟨t, ht, hb⟩ := jmp_of h
    obtain ⟨kt, kf⟩ := iteB_c hb
    exact r_icmp_gt (by rw [hd, hlen]; rfl) ht (fun q => hgo _ _ _ _ _ _ _ (kt q)) (fun q => hgo _ _ _ _ _ _ _ (kf q))
  · obtain ⟨t, ht, hb⟩ := jmp_of h
    obtain ⟨kt, kf⟩ := iteB_c hb
    exact r_icmp_ge (by rw [hd, hlen]; rfl) ht (fun q => hgo _ _ _ _ _ _ _ (kt q)) (fun q => hgo _ _ _ _ _ _ _ (kf q))
  · obtain ⟨t, ht, hb⟩ := jmp_of h
    obtain ⟨kt, kf⟩ := iteB_c hb
    exact r_if_eq (by rw [hd, hlen]; rfl) ht (fun q => hgo _ _ _ _ _ _ _ (kt q)) (fun q => hgo _ _ _ _ _ _ _ (kf q))
  · obtain ⟨t, ht, hb⟩ := jmp_of h
    obtain ⟨kt, kf⟩ := iteB_c hb
    exact r_if_ne (by rw [hd, hlen]; rfl) ht (fun q => hgo _ _ _ _ _ _ _ (kf q)) (fun q => hgo _ _ _ _ _ _ _ (kt q))
  · obtain ⟨t, ht, hb⟩ := jmp_of h
    obtain ⟨kt, kf⟩ := iteB_c hb
    exact r_if_lt (by rw [hd, hlen]; rfl) ht (fun q => hgo _ _ _ _ _ _ _ (kt q)) (fun q => hgo _ _ _ _ _ _ _ (kf q))
  · obtain ⟨t, ht, hb⟩ := jmp_of h
    obtain ⟨kt, kf⟩ := iteB_c hb
    exact r_if_le (by rw [hd, hlen]; rfl) ht (fun q => hgo _ _ _ _ _ _ _ (kt q)) (fun q => hgo _ _ _ _ _ _ _ (kf q))
  · obtain ⟨t, ht, hb⟩ := jmp_of h
    obtain ⟨kt, kf⟩ := iteB_c hb
    exact r_if_gt (by rw [hd, hlen]; rfl) ht (fun q => hgo _ _ _ _ _ _ _ (kt q)) (fun q => hgo _ _ _ _ _ _ _ (kf q))
  · obtain ⟨t, ht, hb⟩ := jmp_of h
    obtain ⟨kt, kf⟩ := iteB_c hb
    exact r_if_ge (by rw [hd, hlen]; rfl) ht (fun q => hgo _ _ _ _ _ _ _ (kt q)) (fun q => hgo _ _ _ _ _ _ _ (kf q))
  · exact r_ifnull (tgt := 0) (by rw [hd, hlen]; rfl) (hgo _ _ _ _ _ _ _ h)
  · obtain ⟨t, h1, h2⟩ := jmp_of h
    exact r_ifnullN (a := 0) (by rw [hd, hlen]; rfl) h1 (hgo _ _ _ _ _ _ _ h2)
  · obtain ⟨t, h1, h2⟩ := jmp_of h
    exact r_ifnonnull (by rw [hd, hlen]; rfl) h1 (hgo _ _ _ _ _ _ _ h2)
  · exact r_ifnonnullN (a := 0) (tgt := 0) (by rw [hd, hlen]; rfl) (hgo _ _ _ _ _ _ _ h)
  · next dflt lo hi offs x st0 =>
    obtain ⟨h1, h2⟩ := ckT_of h
    rw [Bool.and_eq_true, Bool.and_eq_true, Bool.and_eq_true] at h1
    have e0 := of_decide_eq_true h1.1
    have e1 := of_decide_eq_true h1.2.1
    have e2 := List.all_eq_true.mp h1.2.2.1
    have e3 := of_decide_eq_true h1.2.2.2
    have e4 : lo + offs.size = hi + 1 := by rw [← e1]; simp
    obtain ⟨k1, k2⟩ := tswK_get e0.1 (by omega) h2
    exact r_tsw hd e4 (fun i off tgt ho ht hx => hgo _ _ _ _ _ _ _ (k1 i off tgt (by simpa using ho) ht hx)) ((pc : Int) + dflt).toNat (by omega) (fun q => hgo _ _ _ _ _ _ _ (k2 (by rcases q with q | q <;> omega))) (fun i off ho => of_decide_eq_true (e2 off (by have := List.mem_of_getElem? (l := offs.toList) (i := i) (by simpa using ho); exact this)))
  · obtain ⟨h1, h2⟩ := ckT_of h
    rw [Bool.and_eq_true] at h1
    obtain ⟨off, tgt, e1, e2, e3⟩ := lswK_get (fun q hq => of_decide_eq_true (List.all_eq_true.mp h1.2 q hq)) h2
    exact r_lsw hd h1.1 e1 e2 (hgo _ _ _ _ _ _ _ e3)
  · split at h
    · next hf => exact r_ldc (by rw [hd, hlen]; rfl) (hkt.2.2.2 _ (fnd_mem hf)) (hgo _ _ _ _ _ _ _ h)
    · next hf => obtain ⟨tx, ht⟩ := hkt.2.2.2 _ (fnd_mem hf); exact r_ldcS ht (by rw [hd, hlen]; rfl) (hgo _ _ _ _ _ _ _ h)
    · exact h.elim
  · split at h
    · next hf => exact r_ldcw (by rw [hd, hlen]; rfl) (hkt.2.2.2 _ (fnd_mem hf)) (hgo _ _ _ _ _ _ _ h)
    · exact h.elim
  · split at h
    · next hf => exact r_ldc2 (by rw [hd, hlen]; rfl) (hkt.2.2.2 _ (fnd_mem hf)) (hgo _ _ _ _ _ _ _ h)
    · exact h.elim
  · -- getfield
    next i a st0 =>
    split at h
    · next hf =>
      obtain ⟨h1, h2⟩ := ckB_of h
      rw [Bool.and_eq_true] at h1
      have a1 := Nat.le_of_ble_eq_true h1.1
      have a2 := Nat.le_of_ble_eq_true h1.2
      have he := (hkt.1 _ (fnd_mem hf)).1 rfl
      split at h2
      · obtain ⟨b, rfl⟩ : ∃ b, a = b + 1 := ⟨a - 1, (Nat.sub_add_cancel a1).symm⟩
        exact r_sval hs (by omega) (by rw [hd, hlen]; rfl) (he.1 rfl) (hgo _ _ _ _ _ _ _ h2)
      · obtain ⟨b, rfl⟩ : ∃ b, a = b + 1 := ⟨a - 1, (Nat.sub_add_cancel a1).symm⟩
        exact r_scod hs (by omega) (by rw [hd, hlen]; rfl) (he.2.1 rfl) (hgo _ _ _ _ _ _ _ h2)
      · exact h2.elim
    · next hf =>
      obtain ⟨h1, h2⟩ := ckB_of h
      have hm := tagB_mem h1
      obtain ⟨hF, hR, -⟩ := (hkt.1 _ (fnd_mem hf)).2 _ hm
      split at h2
      · next hr => exact r_getR (by rw [hd, hlen]; rfl) hF (by rw [hR]; exact hr) rfl (oe_map h2 (fun q => hgo _ _ _ _ _ _ _ q) (fun _ q => hgo _ _ _ _ _ _ _ q))
      · next hr => exact r_getI (by rw [hd, hlen]; rfl) hF (by rw [hR]; exact hr) rfl (hgo _ _ _ _ _ _ _ h2)
    · exact h.elim
  · -- getstatic
    split at h
    · next hf => exact r_gcs hs (by rw [hd, hlen]; rfl) (((hkt.1 _ (fnd_mem hf)).1 rfl).2.2.1 rfl) (hgo _ _ _ _ _ _ _ h)
    · next hf => exact r_gfm hs (by rw [hd, hlen]; rfl) (((hkt.1 _ (fnd_mem hf)).1 rfl).2.2.2 rfl) (hgo _ _ _ _ _ _ _ h.1) (hgo _ _ _ _ _ _ _ h.2)
    · exact h.elim
  · -- putfield int
    split at h
    · next hf =>
      obtain ⟨h1, h2⟩ := ckB_of h
      rw [Bool.and_eq_true, Bool.and_eq_true, Bool.and_eq_true] at h1
      obtain ⟨b1, b2, b3, b4⟩ := h1
      have hm := tagB_mem b1
      have he := hkt.1 _ (fnd_mem hf)
      obtain ⟨hF, hR, hT, -⟩ := he.2 _ hm
      have hn := narB_ok b3
      exact r_putI (by rw [hd, hlen]; rfl) hF (finOK he hini hm b2) (by rw [hR]; simpa using b4) rfl (by rw [hT]; exact hn.1) (by rw [hT]; exact hn.2) (hgo _ _ _ _ _ _ _ h2)
    · exact h.elim
  · -- putfield ref
    split at h
    · next hf =>
      obtain ⟨h1, h2⟩ := ckB_of h
      rw [Bool.and_eq_true, Bool.and_eq_true] at h1
      obtain ⟨b1, b2, b3⟩ := h1
      have hm := tagB_mem b1
      have he := hkt.1 _ (fnd_mem hf)
      obtain ⟨hF, hR, -⟩ := he.2 _ hm
      exact r_putR (by rw [hd, hlen]; rfl) hF (finOK he hini hm b2) (by rw [hR]; exact b3) rfl (hgo _ _ _ _ _ _ _ h2)
    · exact h.elim
  · -- iaload
    obtain ⟨h1, h2⟩ := ckB_of h
    obtain ⟨h3, h4⟩ := ckB_of h2
    unfold iarB at h1
    rw [Bool.or_eq_true] at h1
    rcases h1 with h1 | h1
    · exact r_iald (by rw [hd, hlen]; rfl) (Nat.eq_of_beq_eq_true h1) h3 (hgo _ _ _ _ _ _ _ h4)
    · have e := Nat.eq_of_beq_eq_true h1
      subst e
      exact r_sald hs (by rw [hd, hlen]; rfl) h3 (hgo _ _ _ _ _ _ _ h4)
  · -- baload
    next i a st0 =>
    obtain ⟨h1, h2⟩ := ckB_of h
    obtain ⟨h3, h4⟩ := ckB_of h2
    rw [Bool.and_eq_true] at h1
    have a1 := Nat.le_of_ble_eq_true h1.1
    have a2 := Nat.le_of_ble_eq_true h1.2
    obtain ⟨b, rfl⟩ : ∃ b, a = b + 4 := ⟨a - 4, (Nat.sub_add_cancel a1).symm⟩
    exact r_bald hs (by omega) (by rw [hd, hlen]; rfl) h3 (hgo _ _ _ _ _ _ _ h4)
  · -- iastore
    obtain ⟨h1, h2⟩ := ckB_of h
    obtain ⟨h3, h4⟩ := ckB_of h2
    exact r_iast (by rw [hd, hlen]; rfl) (Nat.eq_of_beq_eq_true h1) h3 (hgo _ _ _ _ _ _ _ h4)
  · -- arraylength
    next a st0 =>
    obtain ⟨h1, h2⟩ := ckB_of h
    unfold iarB at h1
    rw [Bool.or_eq_true, Bool.or_eq_true, Bool.or_eq_true, Bool.and_eq_true] at h1
    rcases h1 with (h1 | h1) | h1 | ⟨h1, h3⟩
    · exact r_alenI (by rw [hd, hlen]; rfl) (Nat.eq_of_beq_eq_true h1) (hgo _ _ _ _ _ _ _ h2)
    · have e := Nat.eq_of_beq_eq_true h1
      subst e
      exact r_salen hs (by rw [hd, hlen]; rfl) (hgo _ _ _ _ _ _ _ h2)
    · obtain ⟨u, e1, e2, e3⟩ := rngB_of h1
      exact r_alenR (by rw [hd, hlen]; rfl) e1 e2 e3 (hgo _ _ _ _ _ _ _ h2)
    · have a1 := Nat.le_of_ble_eq_true h1
      have a2 := Nat.le_of_ble_eq_true h3
      obtain ⟨b, rfl⟩ : ∃ b, a = b + 4 := ⟨a - 4, (Nat.sub_add_cancel a1).symm⟩
      exact r_balen hs (by omega) (by rw [hd, hlen]; rfl) (hgo _ _ _ _ _ _ _ h2)
  · -- aaload
    obtain ⟨h1, h2⟩ := ckB_of h
    obtain ⟨h3, h4⟩ := ckB_of h2
    obtain ⟨u, e1, e2, e3⟩ := rngB_of h1
    exact r_aald (by rw [hd, hlen]; rfl) e1 e2 e3 h3 (oe_map h4 (fun q => hgo _ _ _ _ _ _ _ q) (fun _ q => hgo _ _ _ _ _ _ _ q))
  · -- aastore
    obtain ⟨h1, h2⟩ := ckB_of h
    obtain ⟨h3, h4⟩ := ckB_of h2
    rw [Bool.and_eq_true] at h1
    obtain ⟨u, e1, e2, e3⟩ := rngB_of h1.1
    have hst := h1.2
    rw [e1, show 100 + u - 100 = u by omega] at hst
    obtain ⟨s1, s2⟩ := hA.2.1 _ _ hst
    exact r_aast hs.1.2 (by rw [hd, hlen]; rfl) e1 e2 e3 h3 rfl s1 s2 (hgo _ _ _ _ _ _ _ h4)
  · -- aastore null
    obtain ⟨h1, h2⟩ := ckB_of h
    obtain ⟨h3, h4⟩ := ckB_of h2
    obtain ⟨u, e1, e2, e3⟩ := rngB_of h1
    exact r_aastN (by rw [hd, hlen]; rfl) e1 e2 e3 h3 (hgo _ _ _ _ _ _ _ h4)
  · -- new
    split at h
    · next c hf =>
      obtain ⟨h1, h2⟩ := ckT_of h
      rw [Bool.and_eq_true, Bool.and_eq_true] at h1
      have a0 := Nat.blt_eq.mp h1.1
      have a1 := Nat.le_of_ble_eq_true h1.2.1
      have a2 := Nat.le_of_ble_eq_true h1.2.2
      have hne := hkt.2.2.1 _ (fnd_mem hf)
      obtain ⟨C, T, hC, hl⟩ := hne.2 (by show c ≠ 200; omega)
      have hC : ClsF c C T := hC
      obtain ⟨i1, i2, i3⟩ := hA.1 c C T hC
      exact r_new (by rw [hd, hlen]; rfl) ⟨C, T, hC, hl, i1, i2, i3⟩ (by omega) (by omega) (hgo _ _ _ _ _ _ _ h2)
    · exact h.elim
  · -- newarray
    obtain ⟨h1, h2⟩ := ckT_of h
    rw [Bool.and_eq_true, Bool.and_eq_true] at h1
    have a1 := Nat.le_of_ble_eq_true h1.1
    obtain ⟨e1, e2⟩ := inB_nI h1.2.1
    have a2 := Nat.le_of_ble_eq_true h1.2.2
    exact r_newI (by rw [hd, hlen]; rfl) e1 e2 (by omega) (by omega) hA.2.2.1 (hgo _ _ _ _ _ _ _ h2)
  · -- anewarray
    split at h
    · next c hf =>
      obtain ⟨h0, h⟩ := ckT_of h
      obtain ⟨h1, h2⟩ := ckT_of h
      rw [Bool.and_eq_true, Bool.and_eq_true] at h1
      have a1 := Nat.le_of_ble_eq_true h1.1
      obtain ⟨e1, e2⟩ := inB_nI h1.2.1
      have a2 := Nat.le_of_ble_eq_true h1.2.2
      have hm := tagB_mem h0
      have hc : c = 8 ∨ c = 4 ∨ c = 10 ∨ c = 7 := by simpa using hm
      obtain ⟨C, T, hC, hl⟩ := (hkt.2.2.1 _ (fnd_mem hf)).2 (by show c ≠ 200; omega)
      have hC : ClsF c C T := hC
      have hC2 : tyR (anwT c) = C := (hA.2.2.2.1 c C T hC).resolve_right (fun q => q hc)
      have ht : 1 ≤ anwT c ∧ anwT c ≤ 4 := by rcases hc with rfl | rfl | rfl | rfl <;> decide
      exact r_newR (t := anwT c) hs.1.2 (by rw [hd, hlen]; rfl) ⟨by rw [hC2]; exact hl, ht.1, ht.2⟩ e1 e2 (by omega) (by omega) (hgo _ _ _ _ _ _ _ h2)
    · exact h.elim
  · -- instanceof
    next i a st0 =>
    split at h
    · next c hf =>
      obtain ⟨h0, h⟩ := ckB_of h
      have hm := tagB_mem h0
      have hc : c = 0 ∨ c = 6 ∨ c = 9 ∨ c = 1 ∨ c = 3 := by simpa using hm
      obtain ⟨C, T, hC, hl⟩ := (hkt.2.2.1 _ (fnd_mem hf)).2 (by show c ≠ 200; omega)
      have hC : ClsF c C T := hC
      obtain ⟨hy, hn⟩ := hA.2.2.2.2 c C T hC hc (zT z a)
      unfold iteB at h
      split at h
      · next hb => exact r_instY hs.1.2 (by rw [hd, hlen]; rfl) rfl hl (hy hb) (hgo _ _ _ _ _ _ _ h)
      · next hb =>
        obtain ⟨h1, h2⟩ := ckB_of h
        obtain ⟨C2, T2, hC2, hor⟩ := hn hb h1
        have hmem : (C2, C) ∈ NcL := hor.resolve_right (fun q => q hc)
        exact r_instN (by rw [hd, hlen]; rfl) rfl hl hC2 (fun s H hX => (hs.2.2.1 s H hX).2.2.2.2 _ hmem) (hgo _ _ _ _ _ _ _ h2)
    · exact h.elim
  · -- checkcast
    split at h
    · next hf =>
      obtain ⟨h1, h2⟩ := ckB_of h
      exact r_castI (by rw [hd, hlen]; rfl) ((hkt.2.2.1 _ (fnd_mem hf)).1 rfl) (Nat.eq_of_beq_eq_true h1) (hgo _ _ _ _ _ _ _ h2)
    · exact h.elim
  · -- invokestatic
    split at h
    · next d0 m n mc ms hf =>
      obtain ⟨h1, h2⟩ := ckT_of h
      rw [Bool.and_eq_true, Bool.and_eq_true, Bool.and_eq_true] at h1
      obtain ⟨b1, b2, b3, b4⟩ := h1
      have hc := (hkt.2.1 _ (fnd_mem hf)).1 rfl _ List.mem_cons_self
      rw [call_st (n := n) (st := st)]
      exact r_callS _ (by rw [hd, hlen]; rfl) hc (by rw [List.length_reverse]; exact Nat.eq_of_beq_eq_true b1) (Nat.le_of_ble_eq_true b2) (by have := Nat.le_of_ble_eq_true b3; omega) (by have := Nat.le_of_ble_eq_true b4; omega) (callK_ok h2 (fun vs z I q => hgo _ _ _ _ _ _ _ q))
    · next d0 m n mc ms hf =>
      obtain ⟨h1, h2⟩ := ckT_of h
      rw [Bool.and_eq_true, Bool.and_eq_true, Bool.and_eq_true] at h1
      obtain ⟨b1, b2, b3, b4⟩ := h1
      obtain ⟨⟨host, hc⟩, hstat⟩ := (hkt.2.1 _ (fnd_mem hf)).2.1 rfl _ List.mem_cons_self
      rw [call_st (n := n) (st := st)]
      exact r_callSN hs.1.2 _ (by rw [hd, hlen]; rfl) hc hstat (by rw [List.length_reverse]; exact Nat.eq_of_beq_eq_true b1) (Nat.le_of_ble_eq_true b2) (by have := Nat.le_of_ble_eq_true b3; omega) (by have := Nat.le_of_ble_eq_true b4; omega) (callK_ok h2 (fun vs z I q => hgo _ _ _ _ _ _ _ q))
    · next hf =>
      split at h
      · obtain ⟨h1, h2⟩ := ckB_of h
        obtain ⟨h3, h4⟩ := ckB_of h2
        obtain ⟨h5, h6⟩ := ckB_of h4
        rw [Bool.and_eq_true, Bool.and_eq_true] at h1
        exact r_acopy (by rw [hd, hlen]; rfl) ((hkt.2.1 _ (fnd_mem hf)).2.2.2.2.2.2.2.1 rfl) (Nat.eq_of_beq_eq_true h1.1) (Nat.eq_of_beq_eq_true h1.2.1) h3 h5 (Nat.le_of_ble_eq_true h1.2.2) (hgo _ _ _ _ _ _ _ h6)
      · exact h.elim
    · exact h.elim
  · -- invokespecial
    split at h
    · next d0 m n mc ms hf =>
      split at h
      · next hst =>
        obtain ⟨h1, h2⟩ := ckT_of h
        rw [Bool.and_eq_true, Bool.and_eq_true, Bool.and_eq_true] at h1
        obtain ⟨b1, b2, b3, b4⟩ := h1
        have hc := (hkt.2.1 _ (fnd_mem hf)).2.2.1 rfl _ List.mem_cons_self
        rw [call_st2 hst]
        exact r_callI _ (by rw [hd, hlen]; rfl) hc (by rw [List.length_reverse]; exact Nat.eq_of_beq_eq_true b1) (Nat.le_of_ble_eq_true b2) (by have := Nat.le_of_ble_eq_true b3; omega) (by have := Nat.le_of_ble_eq_true b4; omega) (callK_ok h2 (fun vs z I q => hgo _ _ _ _ _ _ _ q))
      · exact h.elim
    · next d0 m n mc ms hf =>
      split at h
      · next hst =>
        obtain ⟨h1, h2⟩ := ckT_of h
        rw [Bool.and_eq_true, Bool.and_eq_true, Bool.and_eq_true] at h1
        obtain ⟨b1, b2, b3, b4⟩ := h1
        obtain ⟨⟨host, hc⟩, hin, hnm, hrn⟩ := (hkt.2.1 _ (fnd_mem hf)).2.2.2.1 rfl _ List.mem_cons_self
        rw [call_st2 hst]
        exact r_callIN hs.1.2 _ (by rw [hd, hlen]; rfl) hc hin hnm hrn (by rw [List.length_reverse]; exact Nat.eq_of_beq_eq_true b1) (Nat.le_of_ble_eq_true b2) (by have := Nat.le_of_ble_eq_true b3; omega) (by have := Nat.le_of_ble_eq_true b4; omega) (callK_ok h2 (fun vs z I q => hgo _ _ _ _ _ _ _ q))
      · exact h.elim
    · next d0 l n mc ms hf =>
      split at h
      · next hst =>
        obtain ⟨h1, h2⟩ := ckT_of h
        rw [Bool.and_eq_true, Bool.and_eq_true, Bool.and_eq_true] at h1
        obtain ⟨b1, b2, b3, b4⟩ := h1
        obtain ⟨m, hm, h3⟩ := dsp_ok h2
        rw [call_st2 hst]
        rcases (hkt.2.1 _ (fnd_mem hf)).2.2.2.2.1 rfl _ hm with hc | ⟨x, hc⟩
        · exact r_callP _ (by rw [hd, hlen]; rfl) hc rfl (by rw [List.length_reverse]; exact Nat.eq_of_beq_eq_true b1) (Nat.le_of_ble_eq_true b2) (by have := Nat.le_of_ble_eq_true b3; omega) (by have := Nat.le_of_ble_eq_true b4; omega) (callK_ok h3 (fun vs z I q => hgo _ _ _ _ _ _ _ q))
        · exact r_callQ _ (by rw [hd, hlen]; rfl) hc rfl (by rw [List.length_reverse]; exact Nat.eq_of_beq_eq_true b1) (Nat.le_of_ble_eq_true b2) (by have := Nat.le_of_ble_eq_true b3; omega) (by have := Nat.le_of_ble_eq_true b4; omega) (callK_ok h3 (fun vs z I q => hgo _ _ _ _ _ _ _ q))
      · exact h.elim
    · next hf =>
      split at h
      · obtain ⟨h1, h2⟩ := ckB_of h
        exact r_objInit (by rw [hd, hlen]; rfl) ((hkt.2.1 _ (fnd_mem hf)).2.2.2.2.2.2.1 rfl) (Nat.le_of_ble_eq_true h1) (hgo _ _ _ _ _ _ _ h2)
      · exact h.elim
    · exact h.elim
  · -- invokevirtual
    split at h
    · next d0 l n mc ms hf =>
      split at h
      · next hst =>
        obtain ⟨h1, h2⟩ := ckT_of h
        rw [Bool.and_eq_true, Bool.and_eq_true, Bool.and_eq_true] at h1
        obtain ⟨b1, b2, b3, b4⟩ := h1
        obtain ⟨m, hm, h3⟩ := dsp_ok h2
        rw [call_st2 hst]
        rcases (hkt.2.1 _ (fnd_mem hf)).2.2.2.2.2.1 rfl _ hm with hc | ⟨x, hc⟩
        · exact r_callV _ (by rw [hd, hlen]; rfl) hc rfl (by rw [List.length_reverse]; exact Nat.eq_of_beq_eq_true b1) (Nat.le_of_ble_eq_true b2) (by have := Nat.le_of_ble_eq_true b3; omega) (by have := Nat.le_of_ble_eq_true b4; omega) (callK_ok h3 (fun vs z I q => hgo _ _ _ _ _ _ _ q))
        · exact r_callU _ (by rw [hd, hlen]; rfl) hc rfl (by rw [List.length_reverse]; exact Nat.eq_of_beq_eq_true b1) (Nat.le_of_ble_eq_true b2) (by have := Nat.le_of_ble_eq_true b3; omega) (by have := Nat.le_of_ble_eq_true b4; omega) (callK_ok h3 (fun vs z I q => hgo _ _ _ _ _ _ _ q))
      · exact h.elim
    · next d0 m n mc ms hf =>
      split at h
      · next a st2 hst =>
        obtain ⟨h1, h2⟩ := ckT_of h
        rw [Bool.and_eq_true, Bool.and_eq_true, Bool.and_eq_true, Bool.and_eq_true, Bool.and_eq_true] at h1
        obtain ⟨⟨c1, c2⟩, b1, b2, b3, b4⟩ := h1
        have a1 := Nat.le_of_ble_eq_true c1
        have a2 := Nat.le_of_ble_eq_true c2
        obtain ⟨b, rfl⟩ : ∃ b, a = b + 1 := ⟨a - 1, (Nat.sub_add_cancel a1).symm⟩
        have hc := (hkt.2.1 _ (fnd_mem hf)).2.2.2.2.2.2.2.2.2 rfl _ List.mem_cons_self
        rw [call_st2 hst]
        exact r_callW hs (by omega) _ (by rw [hd, hlen]; rfl) hc (by rw [List.length_reverse]; exact Nat.eq_of_beq_eq_true b1) (Nat.le_of_ble_eq_true b2) (by have := Nat.le_of_ble_eq_true b3; omega) (by have := Nat.le_of_ble_eq_true b4; omega) (callK_ok h2 (fun vs z I q => hgo _ _ _ _ _ _ _ q))
      · exact h.elim
    · next hf =>
      split at h
      · obtain ⟨h1, h2⟩ := ckB_of h
        rw [Bool.and_eq_true, Bool.and_eq_true, Bool.and_eq_true] at h1
        obtain ⟨b1, b2, b3, b4⟩ := h1
        exact r_clone hs.1.2 (by rw [hd, hlen]; rfl) ((hkt.2.1 _ (fnd_mem hf)).2.2.2.2.2.2.2.2.1 rfl) (Nat.eq_of_beq_eq_true b1) (by have := Nat.le_of_ble_eq_true b3; omega) (by have := Nat.le_of_ble_eq_true b4; omega) (Nat.le_of_ble_eq_true b2) (hgo _ _ _ _ _ _ _ h2)
      · exact h.elim
    · exact h.elim
  · -- ireturn
    split at h
    · next ty hty =>
      obtain ⟨h1, h2⟩ := ckB_of h
      exact r_iret (by rw [hd, hlen]; rfl) hty (narB_ok h1).1 h2
    · exact h.elim
  · -- lreturn
    split at h
    · next hty => exact r_lret (by rw [hd, hlen]; rfl) hty h
    · exact h.elim
  · -- areturn
    next q =>
    obtain ⟨h1, h2⟩ := ckB_of h
    obtain ⟨ty, e1, e2⟩ := rk_ref (Nat.eq_of_beq_eq_true h1)
    exact r_aret (o := some q) (by rw [hd, hlen]; rfl) e1 e2 h2
  · obtain ⟨h1, h2⟩ := ckB_of h
    obtain ⟨ty, e1, e2⟩ := rk_ref (Nat.eq_of_beq_eq_true h1)
    exact r_aret (o := none) (by rw [hd, hlen]; rfl) e1 e2 h2
  · obtain ⟨h1, h2⟩ := ckB_of h
    exact r_vret (by rw [hd, hlen]; rfl) (rk_void (Nat.eq_of_beq_eq_true h1)) h2
  · exact h.elim
end WST
