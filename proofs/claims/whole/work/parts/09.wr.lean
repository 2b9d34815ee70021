/-! the walker: what is to be shown for a stretch of code, as a proposition that the kernel works out; and that it is enough -/
theorem WPm.mono {g : Gt} {y : Mth} {d rc rs : Nat} {args : List Value} {z : Zs} {I : Is} {Q Q' : Option Value → Zs → Is → Prop} (h : WPm g y d rc rs args z I Q) (hq : ∀ v z I, Q v z I → Q' v z I) : WPm g y d rc rs args z I Q' := fun l =>
  MetFree.mono (h l) (fun _ _ hp => hp) (fun _ _ _ _ _ hk => hk) (fun _ _ _ _ _ hQ => ⟨⟨hQ.1.1.elim fun v h1 => h1.elim fun z1 h2 => h2.elim fun I1 h3 => ⟨v, z1, I1, h3.1, hq _ _ _ h3.2.1, h3.2.2⟩, hQ.1.2⟩, hQ.2⟩)
abbrev FE : Type := Nat × Nat × List Nat × Nat
abbrev CE : Type := Nat × Nat × List (Nat × Mth) × Nat × Nat × Nat
abbrev KT : Type := List FE × List CE × List (Nat × Nat) × List (Nat × Value)
def fnd {α : Type} : List (Nat × α) → Nat → Option α
  | [], _ => none
  | (k, a) :: r, i => bif Nat.beq k i then some a else fnd r i
theorem fnd_mem {α : Type} : ∀ {l : List (Nat × α)} {i : Nat} {a : α}, fnd l i = some a → (i, a) ∈ l
  | [], _, _, h => by cases h
  | (j, w) :: r, i, v, h => by
    unfold fnd at h
    cases hb : Nat.beq j i with
    | true => rw [hb] at h; have e : j = i := Nat.eq_of_beq_eq_true hb; subst e; cases h; exact List.mem_cons_self
    | false => rw [hb] at h; exact List.mem_cons_of_mem _ (fnd_mem h)
def ckB (b : Bool) (X : Prop) : Prop := match b with
  | true => X
  | false => False
theorem ckB_of {b : Bool} {X : Prop} (h : ckB b X) : b = true ∧ X := by cases b with
  | true => exact ⟨rfl, h⟩
  | false => exact h.elim
def ckT (b : Bool) (X : Prop) : Prop := match b with
  | true => X
  | false => False
theorem ckT_of {b : Bool} {X : Prop} (h : ckT b X) : b = true ∧ X := by cases b with
  | true => exact ⟨rfl, h⟩
  | false => exact h.elim
theorem ckT_i {b : Bool} {X : Prop} (h : b = true) (x : X) : ckT b X := by subst h; exact x
theorem ckB_i {b : Bool} {X : Prop} (h : b = true) (x : X) : ckB b X := by subst h; exact x
def iteB (b : Bool) (X Y : Prop) : Prop := match b with
  | true => X
  | false => Y
theorem iteB_c {c : Prop} [Decidable c] {X Y : Prop} (h : iteB (decide c) X Y) : (c → X) ∧ (¬ c → Y) := by
  by_cases hc : c
  · rw [decide_eq_true hc] at h; exact ⟨fun _ => h, fun q => absurd hc q⟩
  · rw [decide_eq_false hc] at h; exact ⟨fun q => absurd q hc, fun _ => h⟩
theorem iteB_i {c : Prop} [Decidable c] {X Y : Prop} (hx : c → X) (hy : ¬ c → Y) : iteB (decide c) X Y := by
  by_cases hc : c
  · rw [decide_eq_true hc]; exact hx hc
  · rw [decide_eq_false hc]; exact hy hc
def tagB : List Nat → Nat → Bool
  | [], _ => false
  | [c], t => Nat.beq t c
  | c :: r, t => Nat.beq t c || tagB r t
theorem tagB_mem : ∀ {l : List Nat} {t : Nat}, tagB l t = true → t ∈ l
  | [], _, h => by cases h
  | [c], t, h => by have e : t = c := Nat.eq_of_beq_eq_true h; rw [e]; exact List.mem_cons_self
  | c :: b :: r, t, h => by
    have h' : (Nat.beq t c || tagB (b :: r) t) = true := h
    rw [Bool.or_eq_true] at h'
    rcases h' with h1 | h1
    · have e : t = c := Nat.eq_of_beq_eq_true h1; rw [e]; exact List.mem_cons_self
    · exact List.mem_cons_of_mem _ (tagB_mem h1)
def iarB (z : Zs) (a : Nat) : Bool := Nat.beq (zT z a) 100 || Nat.beq a 0
def narB (ty : FieldType) (x : Int32) : Bool := match ty with
  | .int => true
  | .boolean => decide (x = 0) || decide (x = 1)
  | .char => decide (x.toUInt32 % 65536 = x.toUInt32)
  | .byte => decide (x = 0)
  | _ => false
theorem narB_ok {ty : FieldType} {x : Int32} (h : narB ty x = true) : narrow ty (.int x) = .int x ∧ fits ty (.int x) = true := by
  unfold narB at h
  cases ty with
  | int => exact ⟨rfl, rfl⟩
  | boolean =>
    simp only [Bool.or_eq_true, decide_eq_true_iff] at h
    rcases h with rfl | rfl <;> exact ⟨by decide, by decide⟩
  | byte => simp only [decide_eq_true_iff] at h; subst h; exact ⟨by decide, by decide⟩
  | char =>
    simp only [decide_eq_true_iff] at h
    have hx : (x.toUInt32 % 65536).toInt32 = x := by rw [h]; rfl
    rw [← hx]
    exact ⟨pk_nc x, pk_fc x⟩
  | _ => simp at h
def rk (r : Option FieldType) : Nat := match r with
  | none => 0
  | some .long => 3
  | some (.object _) => 2
  | some (.array _) => 2
  | some _ => 1
def callK (g : Gt) (m : Mth) (d mc ms : Nat) (args : List Value) (z : Zs) (I : Is) (go : List Value → Zs → Is → Prop) : Prop := match rk m.2.2.2 with
  | 0 => WPv g m d mc ms args z I (fun z I => go [] z I)
  | 1 => WPi g m d mc ms args z I (fun x z I => go [.int x] z I)
  | 2 => WPr g m d mc ms args z I (fun o z I => oe o (go [.null] z I) (fun q => go [.ref q] z I))
  | _ => WPl g m d mc ms args z I (fun x z I => go [.long x] z I)
theorem callK_ok {g : Gt} {m : Mth} {d mc ms : Nat} {args : List Value} {z : Zs} {I : Is} {go : List Value → Zs → Is → Prop} {R : List Value → Zs → Is → Prop} (h : callK g m d mc ms args z I go) (hg : ∀ vs z I, go vs z I → R vs z I) : WPm g m d mc ms args z I (fun v z I => R v.toList z I) := by
  unfold callK at h
  split at h
  · exact h.mono (fun v z I q => by rw [q.1]; exact hg _ _ _ q.2)
  · exact h.mono (fun v z I q => by obtain ⟨x, rfl, hx⟩ := q; exact hg _ _ _ hx)
  · exact h.mono (fun v z I q => by
      obtain ⟨x, rfl, hx⟩ := q
      cases x with
      | none => exact hg _ _ _ hx
      | some q => exact hg _ _ _ hx)
  · exact h.mono (fun v z I q => by obtain ⟨x, rfl, hx⟩ := q; exact hg _ _ _ hx)
def dsp (l : List (Nat × Mth)) (t : Nat) (K : Mth → Prop) : Prop := match l with
  | [] => False
  | [(c, m)] => ckB (Nat.beq t c) (K m)
  | (c, m) :: r => iteB (Nat.beq t c) (K m) (dsp r t K)
theorem dsp_ok : ∀ {l : List (Nat × Mth)} {t : Nat} {K : Mth → Prop}, dsp l t K → ∃ m, (t, m) ∈ l ∧ K m
  | [], _, _, h => h.elim
  | [(c, m)], t, K, h => by
    obtain ⟨h1, h2⟩ := ckB_of h
    have e : t = c := Nat.eq_of_beq_eq_true h1
    exact ⟨m, by rw [e]; exact List.mem_cons_self, h2⟩
  | (c, m) :: b :: r, t, K, h => by
    have h' : iteB (Nat.beq t c) (K m) (dsp (b :: r) t K) := h
    unfold iteB at h'
    split at h'
    next hb => have e : t = c := Nat.eq_of_beq_eq_true hb; exact ⟨m, by rw [e]; exact List.mem_cons_self, h'⟩
    next hb => obtain ⟨m2, h1, h2⟩ := dsp_ok h'; exact ⟨m2, List.mem_cons_of_mem _ h1, h2⟩
def stoB (c t : Nat) : Bool := (Nat.beq t 1 && tagB [8, 0, 6, 9, 1, 3] c) || ((Nat.beq t 2 && Nat.beq c 4) || ((Nat.beq t 3 && Nat.beq c 10) || (Nat.beq t 4 && Nat.beq c 7)))
def rngB (t : Nat) : Bool := Nat.ble 101 t && Nat.ble t 104
def tswK (x : Int32) (go : Nat → Prop) (pc : Nat) (dflt : Int) : Int → List Int → Prop
  | _, [] => go ((pc : Int) + dflt).toNat
  | k, o :: r => iteB (decide (x = Int32.ofInt k)) (go ((pc : Int) + o).toNat) (tswK x go pc dflt (k + 1) r)
def lswK (x : Int32) (go : Nat → Prop) (pc : Nat) (dflt : Int) : List (Int × Int) → Prop
  | [] => ckT (decide (0 ≤ (pc : Int) + dflt)) (go ((pc : Int) + dflt).toNat)
  | (k, o) :: r => iteB (decide (x = Int32.ofInt k)) (ckT (decide (0 ≤ (pc : Int) + o)) (go ((pc : Int) + o).toNat)) (lswK x go pc dflt r)
def jmp (pc : Nat) (off : Int) (go : Nat → Prop) : Prop := ckT (decide (0 ≤ (pc : Int) + off)) (go ((pc : Int) + off).toNat)
/-- which array class an element class makes; which cells are of a class -/
def anwT (c : Nat) : Nat := match c with
  | 8 => 1
  | 4 => 2
  | 10 => 3
  | _ => 4
def insY (c : Nat) : List Nat := match c with
  | 0 => [0, 9]
  | 6 => [6, 1]
  | 9 => [9]
  | 1 => [1]
  | _ => [3]
/-- one instruction; go: what is to be shown behind it -/
def wst (g : Gt) (kt : KT) (y : Mth) (ini : Bool) (Q : Option Value → Zs → Is → Prop) (go : Nat → Nat → Nat → List (Nat × Value) → List Value → Zs → Is → Prop) (ins : Instr) (d rc rs pc : Nat) (lv : List (Nat × Value)) (st : List Value) (z : Zs) (I : Is) : Prop :=
  match ins, st with
  | .iconst n, st => go rc rs (pc + 1) lv (.int (Int32.ofInt n) :: st) z I
  | .bipush n, st => go rc rs (pc + 2) lv (.int (Int8.ofInt n).toInt32 :: st) z I
  | .sipush n, st => go rc rs (pc + 3) lv (.int (Int16.ofInt n).toInt32 :: st) z I
  | .lconst n, st => go rc rs (pc + 1) lv (.long (Int64.ofNat n.val) :: st) z I
  | .aconst_null, st => go rc rs (pc + 1) lv (.null :: st) z I
  | .iload_n n, st => match lk lv n.val with
    | some (.int x) => go rc rs (pc + 1) lv (.int x :: st) z I
    | _ => False
  | .iload n, st => match lk lv n with
    | some (.int x) => go rc rs (pc + 2) lv (.int x :: st) z I
    | _ => False
  | .lload_n n, st => match lk lv n.val with
    | some (.long x) => go rc rs (pc + 1) lv (.long x :: st) z I
    | _ => False
  | .lload n, st => match lk lv n with
    | some (.long x) => go rc rs (pc + 2) lv (.long x :: st) z I
    | _ => False
  | .aload_n n, st => match lk lv n.val with
    | some (.ref x) => go rc rs (pc + 1) lv (.ref x :: st) z I
    | some .null => go rc rs (pc + 1) lv (.null :: st) z I
    | _ => False
  | .aload n, st => match lk lv n with
    | some (.ref x) => go rc rs (pc + 2) lv (.ref x :: st) z I
    | some .null => go rc rs (pc + 2) lv (.null :: st) z I
    | _ => False
  | .istore_n n, .int x :: st => ckT (Nat.blt n.val y.2.2.1) (go rc rs (pc + 1) (lst lv n.val (.int x)) st z I)
  | .istore n, .int x :: st => ckT (Nat.blt n y.2.2.1) (go rc rs (pc + 2) (lst lv n (.int x)) st z I)
  | .lstore_n n, .long x :: st => ckT (Nat.blt (n.val + 1) y.2.2.1) (go rc rs (pc + 1) (lst2 lv n.val (.long x)) st z I)
  | .lstore n, .long x :: st => ckT (Nat.blt (n + 1) y.2.2.1) (go rc rs (pc + 2) (lst2 lv n (.long x)) st z I)
  | .astore_n n, .ref x :: st => ckT (Nat.blt n.val y.2.2.1) (go rc rs (pc + 1) (lst lv n.val (.ref x)) st z I)
  | .astore n, .ref x :: st => ckT (Nat.blt n y.2.2.1) (go rc rs (pc + 2) (lst lv n (.ref x)) st z I)
  | .astore_n n, .null :: st => ckT (Nat.blt n.val y.2.2.1) (go rc rs (pc + 1) (lst lv n.val .null) st z I)
  | .astore n, .null :: st => ckT (Nat.blt n y.2.2.1) (go rc rs (pc + 2) (lst lv n .null) st z I)
  | .iinc n a, st => match lk lv n with
    | some (.int x) => ckT (Nat.blt n y.2.2.1) (go rc rs (pc + 3) (lst lv n (.int (x + Int32.ofInt a))) st z I)
    | _ => False
  | .iadd, .int b :: .int a :: st => go rc rs (pc + 1) lv (.int (a + b) :: st) z I
  | .isub, .int b :: .int a :: st => go rc rs (pc + 1) lv (.int (a - b) :: st) z I
  | .imul, .int b :: .int a :: st => go rc rs (pc + 1) lv (.int (a * b) :: st) z I
  | .iand, .int b :: .int a :: st => go rc rs (pc + 1) lv (.int (a &&& b) :: st) z I
  | .ior, .int b :: .int a :: st => go rc rs (pc + 1) lv (.int (a ||| b) :: st) z I
  | .ishl, .int b :: .int a :: st => go rc rs (pc + 1) lv (.int (a <<< (b &&& 31)) :: st) z I
  | .ishr, .int b :: .int a :: st => go rc rs (pc + 1) lv (.int (a >>> (b &&& 31)) :: st) z I
  | .idiv, .int b :: .int a :: st => ckB (!decide (b = 0)) (go rc rs (pc + 1) lv (.int (a / b) :: st) z I)
  | .irem, .int b :: .int a :: st => ckB (!decide (b = 0)) (go rc rs (pc + 1) lv (.int (a - a / b * b) :: st) z I)
  | .ineg, .int a :: st => go rc rs (pc + 1) lv (.int (-a) :: st) z I
  | .ladd, .long b :: .long a :: st => go rc rs (pc + 1) lv (.long (a + b) :: st) z I
  | .lmul, .long b :: .long a :: st => go rc rs (pc + 1) lv (.long (a * b) :: st) z I
  | .ldiv, .long b :: .long a :: st => ckB (!decide (b = 0)) (go rc rs (pc + 1) lv (.long (a / b) :: st) z I)
  | .lrem, .long b :: .long a :: st => ckB (!decide (b = 0)) (go rc rs (pc + 1) lv (.long (a - a / b * b) :: st) z I)
  | .lcmp, .long b :: .long a :: st => go rc rs (pc + 1) lv (.int (lg_cmp a b) :: st) z I
  | .i2l, .int a :: st => go rc rs (pc + 1) lv (.long a.toInt64 :: st) z I
  | .l2i, .long a :: st => go rc rs (pc + 1) lv (.int a.toInt32 :: st) z I
  | .i2b, .int a :: st => go rc rs (pc + 1) lv (.int a.toInt8.toInt32 :: st) z I
  | .i2s, .int a :: st => go rc rs (pc + 1) lv (.int a.toInt16.toInt32 :: st) z I
  | .i2c, .int a :: st => go rc rs (pc + 1) lv (.int (a.toUInt32 % 65536).toInt32 :: st) z I
  | .dup, v :: st => ckT (Nat.beq v.category 1) (go rc rs (pc + 1) lv (v :: v :: st) z I)
  | .pop, v :: st => ckT (Nat.beq v.category 1) (go rc rs (pc + 1) lv st z I)
  | .dup2, v :: w :: st => ckT (Nat.beq v.category 1 && Nat.beq w.category 1) (go rc rs (pc + 1) lv (v :: w :: v :: w :: st) z I)
  | .goto o, st => jmp pc o (fun t => go rc rs t lv st z I)
  | .if_icmp .eq o, .int b :: .int a :: st => jmp pc o (fun t => iteB (decide (a = b)) (go rc rs t lv st z I) (go rc rs (pc + 3) lv st z I))
  | .if_icmp .ne o, .int b :: .int a :: st => jmp pc o (fun t => iteB (decide (a = b)) (go rc rs (pc + 3) lv st z I) (go rc rs t lv st z I))
  | .if_icmp .lt o, .int b :: .int a :: st => jmp pc o (fun t => iteB (decide (a < b)) (go rc rs t lv st z I) (go rc rs (pc + 3) lv st z I))
  | .if_icmp .le o, .int b :: .int a :: st => jmp pc o (fun t => iteB (decide (a ≤ b)) (go rc rs t lv st z I) (go rc rs (pc + 3) lv st z I))
  | .if_icmp .gt o, .int b :: .int a :: st => jmp pc o (fun t => iteB (decide (b < a)) (go rc rs t lv st z I) (go rc rs (pc + 3) lv st z I))
  | .if_icmp .ge o, .int b :: .int a :: st => jmp pc o (fun t => iteB (decide (b ≤ a)) (go rc rs t lv st z I) (go rc rs (pc + 3) lv st z I))
  | .ifCond .eq o, .int a :: st => jmp pc o (fun t => iteB (decide (a = 0)) (go rc rs t lv st z I) (go rc rs (pc + 3) lv st z I))
  | .ifCond .ne o, .int a :: st => jmp pc o (fun t => iteB (decide (a = 0)) (go rc rs (pc + 3) lv st z I) (go rc rs t lv st z I))
  | .ifCond .lt o, .int a :: st => jmp pc o (fun t => iteB (decide (a < 0)) (go rc rs t lv st z I) (go rc rs (pc + 3) lv st z I))
  | .ifCond .le o, .int a :: st => jmp pc o (fun t => iteB (decide (a ≤ 0)) (go rc rs t lv st z I) (go rc rs (pc + 3) lv st z I))
  | .ifCond .gt o, .int a :: st => jmp pc o (fun t => iteB (decide (0 < a)) (go rc rs t lv st z I) (go rc rs (pc + 3) lv st z I))
  | .ifCond .ge o, .int a :: st => jmp pc o (fun t => iteB (decide (0 ≤ a)) (go rc rs t lv st z I) (go rc rs (pc + 3) lv st z I))
  | .ifnull _, .ref _ :: st => go rc rs (pc + 3) lv st z I
  | .ifnull o, .null :: st => jmp pc o (fun t => go rc rs t lv st z I)
  | .ifnonnull o, .ref _ :: st => jmp pc o (fun t => go rc rs t lv st z I)
  | .ifnonnull _, .null :: st => go rc rs (pc + 3) lv st z I
  | .tableswitch dflt lo hi offs, .int x :: st => ckT (decide (-2147483648 ≤ lo ∧ hi < 2147483648) && (decide (lo + offs.toList.length = hi + 1) && (offs.toList.all (fun o => decide (0 ≤ (pc : Int) + o)) && decide (0 ≤ (pc : Int) + dflt)))) (tswK x (fun t => go rc rs t lv st z I) pc dflt lo offs.toList)
  | .lookupswitch dflt ps, .int x :: st => ckT ((ps.toList.zip (ps.toList.drop 1)).all (fun (a, next) => a.1 < next.1) && ps.toList.all (fun q => decide (-2147483648 ≤ q.1 ∧ q.1 < 2147483648))) (lswK x (fun t => go rc rs t lv st z I) pc dflt ps.toList)
  | .ldc i, st => match fnd kt.2.2.2 i with
    | some (.int x) => go rc rs (pc + 2) lv (.int x :: st) z I
    | some (.ref a) => go rc rs (pc + 2) lv (.ref a :: st) z I
    | _ => False
  | .ldc_w i, st => match fnd kt.2.2.2 i with
    | some (.int x) => go rc rs (pc + 3) lv (.int x :: st) z I
    | _ => False
  | .ldc2_w i, st => match fnd kt.2.2.2 i with
    | some (.long x) => go rc rs (pc + 3) lv (.long x :: st) z I
    | _ => False
  | .getfield i, .ref a :: st => match fnd kt.1 i with
    | some (j, [], _) => ckB (Nat.ble 1 a && Nat.ble a 3) (match j with
      | 0 => go rc rs (pc + 3) lv (.ref (a + 3) :: st) z I
      | 1 => go rc rs (pc + 3) lv (.int 0 :: st) z I
      | _ => False)
    | some (j, c :: tags, _) => ckB (tagB (c :: tags) (zT z a)) (match isR c j with
      | true => oe (zP z a j) (go rc rs (pc + 3) lv (.null :: st) z I) (fun q => go rc rs (pc + 3) lv (.ref q :: st) z I)
      | false => go rc rs (pc + 3) lv (.int (I a j) :: st) z I)
    | none => False
  | .getstatic i, st => match fnd kt.1 i with
    | some (2, [], _) => go rc rs (pc + 3) lv (.int 1 :: st) z I
    | some (3, [], _) => go rc rs (pc + 3) lv (.null :: st) z I ∧ go rc rs (pc + 3) lv (.ref 7 :: st) z I
    | _ => False
  | .putfield i, .int x :: .ref a :: st => match fnd kt.1 i with
    | some (j, c :: tags, fin) => ckB (tagB (c :: tags) (zT z a) && ((Nat.beq fin 0 || (Nat.beq fin 1 && ini)) && (narB (tyC c j) x && !isR c j))) (go rc rs (pc + 3) lv st z (up2 I a j x))
    | _ => False
  | .putfield i, .ref q :: .ref a :: st => match fnd kt.1 i with
    | some (j, c :: tags, fin) => ckB (tagB (c :: tags) (zT z a) && ((Nat.beq fin 0 || (Nat.beq fin 1 && ini)) && isR c j)) (go rc rs (pc + 3) lv st (zPut z a j (some q)) I)
    | _ => False
  | .iaload, .int i :: .ref a :: st => ckB (iarB z a) (ckB (inB i (zL z a)) (go rc rs (pc + 1) lv (.int (I a i.toNatClampNeg) :: st) z I))
  | .baload, .int i :: .ref a :: st => ckB (Nat.ble 4 a && Nat.ble a 6) (ckB (inB i (zL z a)) (go rc rs (pc + 1) lv (.int (I a i.toNatClampNeg) :: st) z I))
  | .iastore, .int x :: .int i :: .ref a :: st => ckB (Nat.beq (zT z a) 100) (ckB (inB i (zL z a)) (go rc rs (pc + 1) lv st z (up2 I a i.toNatClampNeg x)))
  | .arraylength, .ref a :: st => ckB (iarB z a || (rngB (zT z a) || (Nat.ble 4 a && Nat.ble a 6))) (go rc rs (pc + 1) lv (.int (Int32.ofNat (zL z a)) :: st) z I)
  | .aaload, .int i :: .ref a :: st => ckB (rngB (zT z a)) (ckB (inB i (zL z a)) (oe (zP z a i.toNatClampNeg) (go rc rs (pc + 1) lv (.null :: st) z I) (fun q => go rc rs (pc + 1) lv (.ref q :: st) z I)))
  | .aastore, .ref q :: .int i :: .ref a :: st => ckB (rngB (zT z a) && stoB (zT z q) (zT z a - 100)) (ckB (inB i (zL z a)) (go rc rs (pc + 1) lv st (zPut z a i.toNatClampNeg (some q)) I))
  | .aastore, .null :: .int i :: .ref a :: st => ckB (rngB (zT z a)) (ckB (inB i (zL z a)) (go rc rs (pc + 1) lv st (zPut z a i.toNatClampNeg none) I))
  | .new i, st => match fnd kt.2.2.1 i with
    | some c => ckT (Nat.blt c 13 && (Nat.ble 1 rc && Nat.ble (clN c) rs)) (go (rc - 1) (rs - clN c) (pc + 3) lv (.ref (zN z) :: st) (zNew z c 0) (nI0 I (zN z)))
    | none => False
  | .newarray .int, .int n :: st => ckT (Nat.ble 1 rc && (inB n 100001 && Nat.ble n.toNatClampNeg rs)) (go (rc - 1) (rs - n.toNatClampNeg) (pc + 2) lv (.ref (zN z) :: st) (zNew z 100 n.toNatClampNeg) (nI0 I (zN z)))
  | .anewarray i, .int n :: st => match fnd kt.2.2.1 i with
    | some c => ckT (tagB [8, 4, 10, 7] c) (ckT (Nat.ble 1 rc && (inB n 100001 && Nat.ble n.toNatClampNeg rs)) (go (rc - 1) (rs - n.toNatClampNeg) (pc + 3) lv (.ref (zN z) :: st) (zNew z (100 + anwT c) n.toNatClampNeg) (nI0 I (zN z))))
    | none => False
  | .instanceof i, .ref a :: st => match fnd kt.2.2.1 i with
    | some c => ckB (tagB [0, 6, 9, 1, 3] c) (iteB (tagB (insY c) (zT z a)) (go rc rs (pc + 3) lv (.int 1 :: st) z I) (ckB (tagB [8, 0, 6, 9, 1, 3] (zT z a)) (go rc rs (pc + 3) lv (.int 0 :: st) z I)))
    | none => False
  | .checkcast i, .ref a :: st => match fnd kt.2.2.1 i with
    | some 200 => ckB (Nat.beq (zT z a) 100) (go rc rs (pc + 3) lv (.ref a :: st) z I)
    | _ => False
  | .invokestatic i, st => match d, fnd kt.2.1 i with
    | d + 1, some (0, [(_, m)], n, mc, ms) => ckT (Nat.beq (st.take n).length n && (Nat.ble ((st.drop n).map (fun v => v.category)).sum 8 && (Nat.ble mc rc && Nat.ble ms rs))) (callK g m d mc ms (st.take n).reverse z I (fun vs z I => go (rc - mc) (rs - ms) (pc + 3) lv (vs ++ st.drop n) z I))
    | d + 1, some (1, [(_, m)], n, mc, ms) => ckT (Nat.beq (st.take n).length n && (Nat.ble ((st.drop n).map (fun v => v.category)).sum 8 && (Nat.ble mc rc && Nat.ble ms rs))) (callK g m d mc ms (st.take n).reverse z I (fun vs z I => go (rc - mc) (rs - ms) (pc + 3) lv (vs ++ st.drop n) z I))
    | _ + 1, some (7, _) => match st with
      | .int n :: .int dp :: .ref b :: .int sp :: .ref a :: st => ckB (Nat.beq (zT z a) 100 && (Nat.beq (zT z b) 100 && Nat.ble (st.map (fun v => v.category)).sum 8)) (ckB (inC sp n (zL z a)) (ckB (inC dp n (zL z b)) (go rc rs (pc + 3) lv st z (cpI I a b sp.toNatClampNeg dp.toNatClampNeg n.toNatClampNeg))))
      | _ => False
    | _, _ => False
  | .invokespecial i, st => match d, fnd kt.2.1 i with
    | d + 1, some (2, [(_, m)], n, mc, ms) => match st.drop n with
      | .ref a :: st2 => ckT (Nat.beq (st.take n).length n && (Nat.ble (st2.map (fun v => v.category)).sum 8 && (Nat.ble mc rc && Nat.ble ms rs))) (callK g m d mc ms (.ref a :: (st.take n).reverse) z I (fun vs z I => go (rc - mc) (rs - ms) (pc + 3) lv (vs ++ st2) z I))
      | _ => False
    | d + 1, some (3, [(_, m)], n, mc, ms) => match st.drop n with
      | .ref a :: st2 => ckT (Nat.beq (st.take n).length n && (Nat.ble (st2.map (fun v => v.category)).sum 8 && (Nat.ble mc rc && Nat.ble ms rs))) (callK g m d mc ms (.ref a :: (st.take n).reverse) z I (fun vs z I => go (rc - mc) (rs - ms) (pc + 3) lv (vs ++ st2) z I))
      | _ => False
    | d + 1, some (4, l, n, mc, ms) => match st.drop n with
      | .ref a :: st2 => ckT (Nat.beq (st.take n).length n && (Nat.ble (st2.map (fun v => v.category)).sum 8 && (Nat.ble mc rc && Nat.ble ms rs))) (dsp l (zT z a) (fun m => callK g m d mc ms (.ref a :: (st.take n).reverse) z I (fun vs z I => go (rc - mc) (rs - ms) (pc + 3) lv (vs ++ st2) z I)))
      | _ => False
    | _ + 1, some (6, _) => match st with
      | .ref _ :: st => ckT (Nat.ble (st.map (fun v => v.category)).sum 8) (go rc rs (pc + 3) lv st z I)
      | _ => False
    | _, _ => False
  | .invokevirtual i, st => match d, fnd kt.2.1 i with
    | d + 1, some (5, l, n, mc, ms) => match st.drop n with
      | .ref a :: st2 => ckT (Nat.beq (st.take n).length n && (Nat.ble (st2.map (fun v => v.category)).sum 8 && (Nat.ble mc rc && Nat.ble ms rs))) (dsp l (zT z a) (fun m => callK g m d mc ms (.ref a :: (st.take n).reverse) z I (fun vs z I => go (rc - mc) (rs - ms) (pc + 3) lv (vs ++ st2) z I)))
      | _ => False
    | d + 1, some (9, [(_, m)], n, mc, ms) => match st.drop n with
      | .ref a :: st2 => ckT (Nat.ble 1 a && Nat.ble a 3 && (Nat.beq (st.take n).length n && (Nat.ble (st2.map (fun v => v.category)).sum 8 && (Nat.ble mc rc && Nat.ble ms rs)))) (callK g m d mc ms (.ref a :: (st.take n).reverse) z I (fun vs z I => go (rc - mc) (rs - ms) (pc + 3) lv (vs ++ st2) z I))
      | _ => False
    | _ + 1, some (8, _) => match st with
      | .ref a :: st => ckB (Nat.beq (zT z a) 100 && (Nat.ble (st.map (fun v => v.category)).sum 8 && (Nat.ble 1 rc && Nat.ble (zL z a) rs))) (go (rc - 1) (rs - zL z a) (pc + 3) lv (.ref (zN z) :: st) (zNew z 100 (zL z a)) (cpN I (zN z) a))
      | _ => False
    | _, _ => False
  | .ireturn, [.int x] => match y.2.2.2 with
    | some ty => ckB (narB ty x) (Q (some (.int x)) z I)
    | none => False
  | .lreturn, [.long x] => match y.2.2.2 with
    | some .long => Q (some (.long x)) z I
    | _ => False
  | .areturn, [.ref q] => ckB (Nat.beq (rk y.2.2.2) 2) (Q (some (.ref q)) z I)
  | .areturn, [.null] => ckB (Nat.beq (rk y.2.2.2) 2) (Q (some .null) z I)
  | .return_, [] => ckB (Nat.beq (rk y.2.2.2) 0) (Q none z I)
  | _, _ => False
