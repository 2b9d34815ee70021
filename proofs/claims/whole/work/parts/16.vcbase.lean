/-! numbers; calls that keep the references; what comes back of a call that only answers -/
def iN (n : Nat) : Int32 := Int32.ofNat n
def iM (n : Nat) : Int32 := Int32.ofInt (-(n : Int))
abbrev inR (v lo hi : Int32) : Prop := lo ≤ v ∧ v ≤ hi
def bI (P : Prop) [Decidable P] : Int32 := if P then 1 else 0
def iR (a b : Int32) : Int32 := a - a / b * b
def lR (a b : Int64) : Int64 := a - a / b * b
def clI (v lo hi : Int32) : Int32 := if v < lo then lo else if hi < v then hi else v
def mxI (a b : Int32) : Int32 := if b ≤ a then a else b
def mnI (a b : Int32) : Int32 := if a ≤ b then a else b
def NcO (b : Nat) (x : Int32) : Prop := ∃ k, k ≤ b ∧ x = iN k
def Qi (z : Zs) (K : Int32 → Is → Prop) : Option Value → Zs → Is → Prop := fun v z' J => ∃ x, v = some (.int x) ∧ z' = z ∧ K x J
def Ql (z : Zs) (K : Int64 → Is → Prop) : Option Value → Zs → Is → Prop := fun v z' J => ∃ x, v = some (.long x) ∧ z' = z ∧ K x J
def Qr (z : Zs) (K : Option Nat → Is → Prop) : Option Value → Zs → Is → Prop := fun v z' J => ∃ x, v = some (va_rf x) ∧ z' = z ∧ K x J
def Qv (z : Zs) (K : Is → Prop) : Option Value → Zs → Is → Prop := fun v z' J => v = none ∧ z' = z ∧ K J
def Wi (g : Gt) (y : Mth) (d : Nat) (args : List Value) (z : Zs) (I : Is) (K : Int32 → Is → Prop) : Prop := WPi g y d 0 0 args z I (fun x z' J => z' = z ∧ K x J)
def Wl (g : Gt) (y : Mth) (d : Nat) (args : List Value) (z : Zs) (I : Is) (K : Int64 → Is → Prop) : Prop := WPl g y d 0 0 args z I (fun x z' J => z' = z ∧ K x J)
def Wr (g : Gt) (y : Mth) (d : Nat) (args : List Value) (z : Zs) (I : Is) (K : Option Nat → Is → Prop) : Prop := WPr g y d 0 0 args z I (fun x z' J => z' = z ∧ K x J)
def Wv (g : Gt) (y : Mth) (d : Nat) (args : List Value) (z : Zs) (I : Is) (K : Is → Prop) : Prop := WPv g y d 0 0 args z I (fun z' J => z' = z ∧ K J)
/-- entry of a method of whatever class, that the machine itself has no row for -/
theorem WPm.ofF {g : Gt} {y : Mth} {d rc rs : Nat} {args : List Value} {z : Zs} {I : Is} {Q : Option Value → Zs → Is → Prop} (hp : plainFor y.1 = true) (hlen : (lg_sl args).length ≤ y.2.2.1) (k : WPc g y d rc rs 0 (lv_args 0 args) [] z I Q) : WPm g y d rc rs args z I Q := by
  intro l
  refine va_MetF (cc := y.2.1) (maxL := y.2.2.1) (ret := y.2.2.2) hp rfl ?_
  intro p e s m as below meth c s₁ B hml hv
  obtain ⟨rfl, hK, hG, hX, hW⟩ := hv
  have hts := atoms_spec (ws := WS y) B.pre
  have hl := lv_entry (args.map (lf g)) (n := y.2.2.1) (by rw [lg_sl_lf]; exact hlen)
  rw [lfs_args] at hl
  rw [lg_entry_eq]
  have hgs : g0 g ≤ s.heap.size := by have := hW.2.2.2.2.1; omega
  exact k p l e (rmO d rc rs) s m _ below meth c s.heap [] 0 0 _ ⟨B.exec, B.bytes, hml, B.returns, findClass_of_methodNamed B.named, fun w h => hts w (List.mem_cons_of_mem _ h), B.notSynchronized, (name_of_methodNamed B.named B.method).1, hK, hG⟩ (Nat.le_refl _) (Nat.le_refl _) (by show 0 + rc ≤ rc; omega) (by show 0 + rs ≤ rs; omega) hX hW va_S.rf hgs hl
section VCB
variable {g : Gt} {y : Mth} {d : Nat} {args : List Value} {z : Zs} {I : Is}
theorem Wi_in {K : Int32 → Is → Prop} (hp : plainFor y.1 = true) (hl : (lg_sl args).length ≤ y.2.2.1) (k : WPc g y d 0 0 0 (lv_args 0 args) [] z I (Qi z K)) : Wi g y d args z I K := WPm.ofF hp hl k
theorem Wl_in {K : Int64 → Is → Prop} (hp : plainFor y.1 = true) (hl : (lg_sl args).length ≤ y.2.2.1) (k : WPc g y d 0 0 0 (lv_args 0 args) [] z I (Ql z K)) : Wl g y d args z I K := WPm.ofF hp hl k
theorem Wr_in {K : Option Nat → Is → Prop} (hp : plainFor y.1 = true) (hl : (lg_sl args).length ≤ y.2.2.1) (k : WPc g y d 0 0 0 (lv_args 0 args) [] z I (Qr z K)) : Wr g y d args z I K := WPm.ofF hp hl k
theorem Wv_in {K : Is → Prop} (hp : plainFor y.1 = true) (hl : (lg_sl args).length ≤ y.2.2.1) (k : WPc g y d 0 0 0 (lv_args 0 args) [] z I (Qv z K)) : Wv g y d args z I K := WPm.ofF hp hl k
theorem Wi_m {K K' : Int32 → Is → Prop} (h : Wi g y d args z I K) (f : ∀ x J, K x J → K' x J) : Wi g y d args z I K' := WPi_m h (fun _ _ _ q => ⟨q.1, f _ _ q.2⟩)
theorem Wl_m {K K' : Int64 → Is → Prop} (h : Wl g y d args z I K) (f : ∀ x J, K x J → K' x J) : Wl g y d args z I K' := WPl_m h (fun _ _ _ q => ⟨q.1, f _ _ q.2⟩)
theorem Wr_m {K K' : Option Nat → Is → Prop} (h : Wr g y d args z I K) (f : ∀ x J, K x J → K' x J) : Wr g y d args z I K' := WPr_m h (fun _ _ _ q => ⟨q.1, f _ _ q.2⟩)
theorem Wv_m {K K' : Is → Prop} (h : Wv g y d args z I K) (f : ∀ J, K J → K' J) : Wv g y d args z I K' := WPv_m h (fun _ _ q => ⟨q.1, f _ q.2⟩)
end VCB
section VCC
variable {g : Gt} {y : Mth} {d : Nat} {args : List Value} {z : Zs} {I : Is}
theorem WPi_e {e : Int32} {K' : Int32 → Zs → Is → Prop} (h : WPi g y d 0 0 args z I (fun x z' J => z' = z ∧ x = e ∧ J = I)) (a : K' e z I) : WPi g y d 0 0 args z I K' := WPi_m h (fun x z' J q => by obtain ⟨rfl, rfl, rfl⟩ := q; exact a)
theorem Wi_e {K : Int32 → Is → Prop} {K' : Int32 → Zs → Is → Prop} (h : Wi g y d args z I K) (f : ∀ x J, K x J → K' x z J) : WPi g y d 0 0 args z I K' := WPi_m h (fun x z' J q => by obtain ⟨rfl, q⟩ := q; exact f _ _ q)
theorem Wl_e {K : Int64 → Is → Prop} {K' : Int64 → Zs → Is → Prop} (h : Wl g y d args z I K) (f : ∀ x J, K x J → K' x z J) : WPl g y d 0 0 args z I K' := WPl_m h (fun x z' J q => by obtain ⟨rfl, q⟩ := q; exact f _ _ q)
theorem Wr_e {K : Option Nat → Is → Prop} {K' : Option Nat → Zs → Is → Prop} (h : Wr g y d args z I K) (f : ∀ x J, K x J → K' x z J) : WPr g y d 0 0 args z I K' := WPr_m h (fun x z' J q => by obtain ⟨rfl, q⟩ := q; exact f _ _ q)
theorem Wv_e {K : Is → Prop} {K' : Zs → Is → Prop} (h : Wv g y d args z I K) (f : ∀ J, K J → K' z J) : WPv g y d 0 0 args z I K' := WPv_m h (fun z' J q => by obtain ⟨rfl, q⟩ := q; exact f _ q)
theorem WPr_3 {B : Nat} {p : Int32} {P : Prop} {f : Nat → Nat} {K' : Option Nat → Zs → Is → Prop} (h : WPr g y d 0 0 args z I (fun o z' J => z' = z ∧ J = I ∧ ((o = none ∧ ¬ P) ∨ ∃ n, n < B ∧ p = iN n ∧ P ∧ o = some (f n)))) (a : ¬ P → K' none z I) (b : ∀ n, n < B → p = iN n → P → K' (some (f n)) z I) : WPr g y d 0 0 args z I K' := WPr_m h (fun o z' J q => by
  obtain ⟨rfl, rfl, qq⟩ := q
  rcases qq with ⟨rfl, h⟩ | ⟨n, h1, h2, h3, rfl⟩
  · exact a h
  · exact b n h1 h2 h3)
theorem WPr_4 {B : Nat} {p : Int32} {P : Prop} {f : Nat → Option Nat} {K' : Option Nat → Zs → Is → Prop} (h : WPr g y d 0 0 args z I (fun o z' J => z' = z ∧ J = I ∧ ((o = none ∧ ¬ P) ∨ ∃ n, n < B ∧ p = iN n ∧ P ∧ o = f n))) (a : ¬ P → K' none z I) (b : ∀ n, n < B → p = iN n → P → ∃ q, f n = some q ∧ K' (some q) z I) : WPr g y d 0 0 args z I K' := WPr_m h (fun o z' J q => by
  obtain ⟨rfl, rfl, qq⟩ := q
  rcases qq with ⟨rfl, h⟩ | ⟨n, h1, h2, h3, h4⟩
  · exact a h
  · obtain ⟨q, e, k⟩ := b n h1 h2 h3
    rw [h4, e]; exact k)
/-- a call by the class of the receiver -/
theorem dspz_m {l : List (Nat × Mth)} {t : Nat} {K : Int32 → Is → Prop} {go : List Value → Zs → Is → Prop} (hl : ∀ q ∈ l, rk q.2.2.2.2 = 1) (h : dsp l t (fun m => Wi g m d args z I K)) (f : ∀ x J, K x J → go [.int x] z J) : dsp l t (fun m => callK g m d 0 0 args z I go) :=
  dspi_m (mc := 0) (ms := 0) (K := fun x z' J => z' = z ∧ K x J) hl h (fun x z' J q => by obtain ⟨rfl, q⟩ := q; exact f _ _ q)
end VCC
theorem iteB_b {P : Prop} [Decidable P] {X Y : Prop} (hx : ¬ P → X) (hy : P → Y) : iteB (decide (bI P = 0)) X Y := by
  unfold bI
  by_cases h : P
  · rw [if_pos h]; exact hy h
  · rw [if_neg h]; exact hx h
theorem narB_b (P : Prop) [Decidable P] : narB .boolean (bI P) = true := by
  unfold bI
  by_cases h : P
  · rw [if_pos h]; rfl
  · rw [if_neg h]; rfl
theorem nzl_i {b : Int64} {X : Prop} (h : ¬ b = 0) (x : X) : ckB (!decide (b = 0)) X := ckB_i (by simp [h]) x
-- the numbers
theorem iN_add (a b : Nat) : iN a + iN b = iN (a + b) := (Int32.ofNat_add a b).symm
theorem iN_mul (a b : Nat) : iN a * iN b = iN (a * b) := (Int32.ofNat_mul a b).symm
theorem iN_sub {a b : Nat} (h : b ≤ a) : iN a - iN b = iN (a - b) := (Int32.ofNat_sub a b h).symm
theorem iN_toInt {a : Nat} (h : a < 2147483648) : (iN a).toInt = a := Int32.toInt_ofNat_of_lt (by omega)
theorem iN_toN {a : Nat} (h : a < 2147483648) : (iN a).toNatClampNeg = a := Int32.toNatClampNeg_ofNat_of_lt (by omega)
theorem iN_le {a b : Nat} (ha : a < 2147483648) (hb : b < 2147483648) : iN a ≤ iN b ↔ a ≤ b := by rw [Int32.le_iff_toInt_le, iN_toInt ha, iN_toInt hb]; omega
theorem iN_lt {a b : Nat} (ha : a < 2147483648) (hb : b < 2147483648) : iN a < iN b ↔ a < b := by rw [Int32.lt_iff_toInt_lt, iN_toInt ha, iN_toInt hb]; omega
theorem iN_inj {a b : Nat} (ha : a < 2147483648) (hb : b < 2147483648) : iN a = iN b ↔ a = b := by
  refine ⟨fun h => ?_, fun h => by rw [h]⟩
  have := congrArg Int32.toInt h
  rw [iN_toInt ha, iN_toInt hb] at this
  omega
theorem iN_div {a b : Nat} (ha : a < 2147483648) (hb : b < 2147483648) : iN a / iN b = iN (a / b) := (Int32.ofNat_div (by omega) (by omega)).symm
theorem iN_zero : iN 0 = 0 := rfl
theorem iN_one : iN 1 = 1 := rfl
theorem of_nn {v : Int32} (h : iN 0 ≤ v) : ∃ n, v = iN n ∧ n < 2147483648 := ⟨v.toNatClampNeg, (Int32.ofNat_toNatClampNeg v h).symm, by have := v.toNatClampNeg_lt; omega⟩
theorem inR_nat {v : Int32} {a b : Nat} (ha : a < 2147483648) (hb : b < 2147483648) : inR v (iN a) (iN b) ↔ ∃ n, v = iN n ∧ a ≤ n ∧ n ≤ b := by
  constructor
  · intro ⟨h1, h2⟩
    have h0 : iN 0 ≤ v := by
      rw [Int32.le_iff_toInt_le] at h1 ⊢
      rw [iN_toInt ha] at h1
      rw [iN_toInt (by omega)]; omega
    obtain ⟨n, rfl, hn⟩ := of_nn h0
    exact ⟨n, rfl, (iN_le ha hn).mp h1, (iN_le hn hb).mp h2⟩
  · rintro ⟨n, rfl, h1, h2⟩
    exact ⟨(iN_le ha (by omega)).mpr h1, (iN_le (by omega) hb).mpr h2⟩
theorem inR_dn {v : Int32} {k : Nat} (hk : k ≤ 100000) : inR v (iN 0) (iN k - iN 1) ↔ ∃ n, n < k ∧ v = iN n := by
  cases k with
  | zero =>
    have e : iN 0 - iN 1 = -1 := rfl
    rw [e]
    constructor
    · intro ⟨h1, h2⟩
      rw [Int32.le_iff_toInt_le] at h1 h2
      have e1 : (iN 0).toInt = 0 := rfl
      have e2 : (-1 : Int32).toInt = -1 := rfl
      omega
    · rintro ⟨n, h, _⟩; omega
  | succ k =>
    rw [iN_sub (by omega), show k + 1 - 1 = k by omega, inR_nat (by omega) (by omega)]
    constructor
    · rintro ⟨n, h1, _, h3⟩; exact ⟨n, by omega, h1⟩
    · rintro ⟨n, h1, h2⟩; exact ⟨n, h2, by omega, by omega⟩
theorem inR_iN {n a b : Nat} (hn : n < 2147483648) (ha : a < 2147483648) (hb : b < 2147483648) : inR (iN n) (iN a) (iN b) ↔ a ≤ n ∧ n ≤ b := by
  unfold inR; rw [iN_le ha hn, iN_le hn hb]
theorem inR_idn {n k : Nat} (hn : n < 2147483648) (hk : k ≤ 100000) : inR (iN n) (iN 0) (iN k - iN 1) ↔ n < k := by
  rw [inR_dn hk]
  constructor
  · rintro ⟨m, h1, h2⟩; have := (iN_inj hn (by omega)).mp h2; omega
  · intro h; exact ⟨n, h, rfl⟩
theorem inB_n {n L : Nat} (h : n < L) (h2 : L ≤ 100000) : inB (iN n) L = true := by
  unfold inB
  rw [iN_toInt (by omega)]
  simp; omega
theorem inB_e {x : Int32} {n L : Nat} (e : x = iN n) (h : n < L) (h2 : L ≤ 100000 := by decide) : inB x L = true := by rw [e]; exact inB_n h h2
theorem toN_e {x : Int32} {n : Nat} (e : x = iN n) (h : n < 2147483648) : x.toNatClampNeg = n := by rw [e]; exact iN_toN h
theorem iM_toInt {n : Nat} (h : n ≤ 2147483648) : (iM n).toInt = -(n : Int) := Int32.toInt_ofInt_of_le (by omega) (by omega)
theorem iM_ne {n m : Nat} (h : n < 2147483648) (hm : m ≤ 2147483648) (h0 : 0 < m) : iN n ≠ iM m := by
  intro e
  have := congrArg Int32.toInt e
  rw [iN_toInt h, iM_toInt hm] at this
  omega
theorem iM_lt {n m : Nat} (h : n < 2147483648) (hm : m ≤ 2147483648) (h0 : 0 < m) : iM m < iN n := by
  rw [Int32.lt_iff_toInt_lt, iN_toInt h, iM_toInt hm]; omega
theorem iM_nle {n m : Nat} (h : n < 2147483648) (hm : m ≤ 2147483648) (h0 : 0 < m) : ¬ iN n ≤ iM m := by
  rw [Int32.le_iff_toInt_le, iN_toInt h, iM_toInt hm]; omega
theorem iM_le {n m : Nat} (h : n < 2147483648) (hm : m ≤ 2147483648) : iM m ≤ iN n := by
  rw [Int32.le_iff_toInt_le, iN_toInt h, iM_toInt hm]; omega
theorem iM_nlt {n m : Nat} (h : n < 2147483648) (hm : m ≤ 2147483648) : ¬ iN n < iM m := by
  rw [Int32.lt_iff_toInt_lt, iN_toInt h, iM_toInt hm]; omega
-- rows
theorem up2_ro {α : Type} (f : Nat → Nat → α) {a b : Nat} (h : b ≠ a) (i : Nat) (v : α) : up2 f a i v b = f b := by
  funext j; unfold up2; rw [if_neg h]
theorem up2_ra {α : Type} (f : Nat → Nat → α) (a i : Nat) (v : α) : up2 f a i v a = up1 (f a) i v := by
  funext j; unfold up2 up1; rw [if_pos rfl]
theorem up1_s {α : Type} (f : Nat → α) (i : Nat) (v : α) : up1 f i v i = v := by unfold up1; rw [if_pos rfl]
theorem up1_o {α : Type} (f : Nat → α) {i j : Nat} (h : j ≠ i) (v : α) : up1 f i v j = f j := by unfold up1; rw [if_neg h]
theorem cpI_ro (I : Is) {a b c : Nat} (h : c ≠ b) (sp dp n : Nat) : cpI I a b sp dp n c = I c := by funext j; unfold cpI; rw [if_neg h]
/-- all rows but those of L are as they were -/
def Of (L : List Nat) (I J : Is) : Prop := ∀ k, k ∉ L → J k = I k
theorem Of.rf (L : List Nat) (I : Is) : Of L I I := fun _ _ => rfl
theorem Of.tr {L : List Nat} {I J H : Is} (h : Of L I J) (h2 : Of L J H) : Of L I H := fun k q => (h2 k q).trans (h k q)
theorem Of.mo {L M : List Nat} {I J : Is} (h : Of L I J) (s : ∀ k ∈ L, k ∈ M) : Of M I J := fun k q => h k (fun c => q (s k c))
theorem Of.up {L : List Nat} {I : Is} {a : Nat} (h : a ∈ L) (i : Nat) (v : Int32) : Of L I (up2 I a i v) := fun k q => up2_ro I (fun e : k = a => q (by rw [e]; exact h)) i v
theorem Of.upt {L : List Nat} {I J : Is} (h : Of L I J) {a : Nat} (ha : a ∈ L) (i : Nat) (v : Int32) : Of L I (up2 J a i v) := h.tr (Of.up ha i v)
theorem Of.cp {L : List Nat} {I : Is} {a b : Nat} (h : b ∈ L) (sp dp n : Nat) : Of L I (cpI I a b sp dp n) := fun k q => cpI_ro I (fun e : k = b => q (by rw [e]; exact h)) sp dp n
