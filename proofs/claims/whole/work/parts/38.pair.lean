/-! PAIRS: of a call, class and reference answer the same and go to the same state -/
def KeepM (I J : Is) : Prop := ∀ k, 101 ≤ k → k < 124 → J k = I k
def KeepC (I J : Is) : Prop := ∀ k, (k < 101 ∨ 124 ≤ k) → J k = I k
def KC (z : Zs) (I : Is) (S : AS) (P : Is → Prop) : Prop := ∀ J, CI z J S → KeepM I J → P J
def KM (I : Is) (S : AS) (P : Is → Prop) : Prop := ∀ J, MI J S → KeepC I J → P J
def Pair (g : Gt) (S : AS) (mc mm : Mth) (args : List Value) : Prop := ∃ (ans : Int32) (S' : AS), OKS S' ∧
  (∀ (d : Nat) (z : Zs) (I : Is) (K : Int32 → Is → Prop), Sh z → CI z I S → KC z I S' (K ans) → Wi g mc (d + 20) (.ref 8 :: args) z I K) ∧
  (∀ (d : Nat) (z : Zs) (I : Is) (K : Int32 → Is → Prop), Sh z → MI I S → KM I S' (K ans) → Wi g mm (d + 20) (.ref 101 :: args) z I K)
section PAIR
variable {z : Zs} {I J : Is} {S : AS} {P : Is → Prop}
theorem KC.i (h : KC z I S P) (c : CI z I S) : P I := h I c (fun _ _ _ => rfl)
theorem KC.f (h : KC z I S P) (hz : Sh z) (c : CI z I S) (f : FrC z I J) : P J := h J (c.fr hz f) (fun _ a b => f _ (c.ns_m a b))
theorem KM.i (h : KM I S P) (m : MI I S) : P I := h I m (fun _ _ => rfl)
theorem KM.f {L : List Nat} (h : KM I S P) (m : MI I S) (e : Of L I J) (hL : ∀ k ∈ L, 115 ≤ k ∧ k < 124 := by simp) : P J :=
  h J (m.fr e (fun k a b q => by have := hL k q; omega)) (fun k q => e k (fun w => by have := hL k w; omega))
theorem KeepC.of {L : List Nat} (e : Of L I J) (hL : ∀ k ∈ L, 101 ≤ k ∧ k < 124 := by simp) : KeepC I J := fun k q => e k (fun w => by have := hL k w; omega)
theorem KeepC.tr {H : Is} (h : KeepC I J) (h2 : KeepC J H) : KeepC I H := fun k q => (h2 k q).trans (h k q)
theorem KeepM.tr {H : Is} (h : KeepM I J) (h2 : KeepM J H) : KeepM I H := fun k a b => (h2 k a b).trans (h k a b)
theorem KeepM.of {L : List Nat} (e : Of L I J) (hL : ∀ k ∈ L, k < 101 ∨ 124 ≤ k) : KeepM I J := fun k a b => e k (fun w => by have := hL k w; omega)
-- guards
theorem gT {A X Y : Prop} (h : A) (x : X) : (A → X) ∧ (¬ A → Y) := ⟨fun _ => x, fun q => absurd h q⟩
theorem gF {A X Y : Prop} (h : ¬ A) (y : Y) : (A → X) ∧ (¬ A → Y) := ⟨fun q => absurd q h, fun _ => y⟩
theorem gN {v x : Int32} {B k p : Nat} {X : Prop} {Y : Nat → Prop} (e : x = iN k) (hb : k ≤ B) (hB : B ≤ 1000) (hp : p < k) (ev : v = iN p) (y : Y p) : NcO B x ∧ (¬ inR v (iN 0) (x - iN 1) → X) ∧ (∀ n, n < B → v = iN n → inR v (iN 0) (x - iN 1) → Y n) := by
  subst ev
  refine ⟨⟨k, hb, e⟩, fun q => absurd ?_ q, fun n hn en _ => ?_⟩
  · rw [e, inR_idn (by omega) (by omega)]; exact hp
  · rw [iN_inj (by omega) (by omega)] at en; subst en; exact y
theorem gNn {v x : Int32} {B k : Nat} {X : Prop} {Y : Nat → Prop} (e : x = iN k) (hb : k ≤ B) (h : ¬ inR v (iN 0) (iN k - iN 1)) (y : X) : NcO B x ∧ (¬ inR v (iN 0) (x - iN 1) → X) ∧ (∀ n, n < B → v = iN n → inR v (iN 0) (x - iN 1) → Y n) :=
  ⟨⟨k, hb, e⟩, fun _ => y, fun n _ _ q => absurd (by rw [← e]; exact q) h⟩
theorem gM {v x : Int32} {k : Nat} {X Y : Prop} (e : x = iN k) (h : inR v (iN 0) (iN k - iN 1)) (y : X) : (inR v (iN 0) (x - iN 1) → X) ∧ (¬ inR v (iN 0) (x - iN 1) → Y) := by rw [e]; exact gT h y
theorem gMn {v x : Int32} {k : Nat} {X Y : Prop} (e : x = iN k) (h : ¬ inR v (iN 0) (iN k - iN 1)) (y : Y) : (inR v (iN 0) (x - iN 1) → X) ∧ (¬ inR v (iN 0) (x - iN 1) → Y) := by rw [e]; exact gF h y
theorem g4 {v : Int32} {p : Nat} {X : Prop} {Y : Nat → Prop} (hp : p < 4) (ev : v = iN p) (y : Y p) : (¬ inR v (iN 0) (iN 3) → X) ∧ (∀ n, n < 4 → v = iN n → inR v (iN 0) (iN 3) → Y n) := by
  subst ev
  refine ⟨fun q => absurd ((inR_iN (by omega) (by omega) (by omega)).mpr ⟨by omega, by omega⟩) q, fun n hn en _ => ?_⟩
  rw [iN_inj (by omega) (by omega)] at en; subst en; exact y
theorem g4n {v : Int32} {X : Prop} {Y : Nat → Prop} (h : ¬ inR v (iN 0) (iN 3)) (y : X) : (¬ inR v (iN 0) (iN 3) → X) ∧ (∀ n, n < 4 → v = iN n → inR v (iN 0) (iN 3) → Y n) := ⟨fun _ => y, fun n _ _ q => absurd q h⟩
theorem CI.kc (c : CI z I S) (hz : Sh z) (f : KeepC I J) : CI z J S := by
  obtain ⟨h1, h2, h3, h4, h5, h6, h7⟩ := id c
  refine ⟨?_, h2.cg (fun q hq => f q ?_), fun p hp => (h3 p hp).cg (f _ (by omega)), ⟨fun p hp => (h4.1 p hp).cg (f _ (by omega)), ?_⟩, ?_, ⟨fun t ht => ?_, h6.2⟩, fun s hs => ?_⟩
  · rw [f 8 (by omega), f 22 (by omega)]; exact h1
  · by_cases a : 101 ≤ q ∧ q < 124
    · have : 12 ≤ zT z q := by
        obtain rfl | rfl | rfl | rfl | rfl | rfl | rfl | rfl | rfl | rfl | rfl | rfl | rfl | rfl | rfl | rfl | rfl | rfl | rfl | rfl | rfl | rfl | rfl : q = 101 ∨ q = 102 ∨ q = 103 ∨ q = 104 ∨ q = 105 ∨ q = 106 ∨ q = 107 ∨ q = 108 ∨ q = 109 ∨ q = 110 ∨ q = 111 ∨ q = 112 ∨ q = 113 ∨ q = 114 ∨ q = 115 ∨ q = 116 ∨ q = 117 ∨ q = 118 ∨ q = 119 ∨ q = 120 ∨ q = 121 ∨ q = 122 ∨ q = 123 := by omega
        · rw [hz.t 101 rfl]; omega
        all_goals (rw [hz.t _ rfl]; omega)
      omega
    · omega
  · rw [f 26 (by omega)]; exact h4.2
  · rw [f 23 (by omega)]; exact h5
  · obtain ⟨t6, a, e, r⟩ := h6.1 t ht
    have ra := r.2.1
    refine ⟨t6, a, e, r.1, r.2.1, fun p hp => ?_, r.2.2.2.1, fun k hk => ?_⟩
    · rw [f _ (by omega)]; exact r.2.2.1 p hp
    · rw [f _ (by omega)]; exact r.2.2.2.2 k hk
  · rw [f (89 + 2 * s) (by omega), f (89 + 2 * s + 1) (by omega)]; exact h7 s hs
theorem MI.km (m : MI I S) (f : KeepM I J) : MI J S := by
  unfold MI
  rw [f 101 (by omega) (by omega), f 102 (by omega) (by omega), f 103 (by omega) (by omega), f 104 (by omega) (by omega), f 105 (by omega) (by omega), f 106 (by omega) (by omega), f 107 (by omega) (by omega), f 108 (by omega) (by omega), f 109 (by omega) (by omega), f 110 (by omega) (by omega), f 111 (by omega) (by omega), f 112 (by omega) (by omega), f 114 (by omega) (by omega)]
  exact m
/-- other things in the purses -/
def hasU (S : AS) (f : Nat → Nat) : AS := (up1 S.1 4 f, S.2)
theorem OKS.uHas (o : OKS S) {f : Nat → Nat} (h1 : ∀ i, f i ≤ 99) (h2 : ∀ p s, p < 5 → s < 6 → sNs S ≤ s → f (6 * p + s) = 0) : OKS (hasU S f) := ⟨o.1, o.2.1, ⟨h1, h2⟩, o.2.2.2⟩
theorem CI.uHas (c : CI z I S) (hz : Sh z) {f : Nat → Nat} (h : ∀ k, ¬ Scr z k → k ∉ [50, 58, 66, 74, 82] → J k = I k) (hr : ∀ p, p < 5 → Rw J (49 + 8 * p + 1) (fun s => f (6 * p + s))) : CI z J (hasU S f) := by
  have fx : ∀ k, k < 97 → k ∉ [13, 14, 15, 17, 18, 19, 48, 51, 52, 54, 55, 56, 59, 60, 62, 63, 64, 67, 68, 70, 71, 72, 75, 76, 78, 79, 80, 83, 84, 86, 87, 88] → k ∉ [50, 58, 66, 74, 82] → J k = I k := fun k a b e => h k (c.ns_fix a b) e
  have t5 : ∀ k, zT z k < 11 → zT z k ≠ 100 → k ∉ [50, 58, 66, 74, 82] := fun k _ e q => e (by
    simp only [List.mem_cons, List.not_mem_nil, or_false] at q
    rcases q with rfl | rfl | rfl | rfl | rfl <;> exact hz.t _ rfl)
  obtain ⟨h1, h2, h3, h4, h5, h6, h7⟩ := id c
  refine ⟨?_, h2.cg (fun q hq => h q (c.ns_sort hz hq) (t5 q (by omega) (by omega))), hr, ⟨fun p hp => (h4.1 p hp).cg (fx _ (by omega) (by simp; omega) (by simp; omega)), ?_⟩, ?_, ⟨fun t ht => ?_, h6.2⟩, fun s hs => ?_⟩
  · rw [fx 8 (by omega) (by decide) (by decide), fx 22 (by omega) (by decide) (by decide)]; exact h1
  · rw [fx 26 (by omega) (by decide) (by decide)]; exact h4.2
  · rw [fx 23 (by omega) (by decide) (by decide)]; exact h5
  · obtain ⟨t6, a, e, r⟩ := h6.1 t ht
    have ra := r.2.1
    refine ⟨t6, a, e, r.1, r.2.1, fun p hp => ?_, r.2.2.2.1, fun k hk => ?_⟩
    · rw [h _ (c.ns_tx hz t6 e).2 (by simp; omega)]; exact r.2.2.1 p hp
    · rw [h _ (c.ns_tx hz t6 e).1 (by simp; omega)]; exact r.2.2.2.2 k hk
  · rw [fx (89 + 2 * s) (by omega) (by simp; omega) (by simp; omega), fx (89 + 2 * s + 1) (by omega) (by simp; omega) (by simp; omega)]; exact h7 s hs
theorem MI.uHas (m : MI I S) {f : Nat → Nat} (h : ∀ k, 101 ≤ k → k ≤ 114 → k ≠ 105 → J k = I k) (hr : ∀ i, J 105 i = iN (f i)) : MI J (hasU S f) := by
  obtain ⟨m1, m2, m3, m4, m5, m6, m7, m8, m9, m10, m11, m12, m13, m14⟩ := m
  refine ⟨?_, ?_, ?_, ?_, ?_, hr, ?_, ?_, ?_, ?_, ?_, ?_, ?_, ?_⟩
  · rw [h 101 (by omega) (by omega) (by omega)]; exact m1
  · rw [h 101 (by omega) (by omega) (by omega)]; exact m2
  · rw [h 102 (by omega) (by omega) (by omega)]; exact m3
  · rw [h 103 (by omega) (by omega) (by omega)]; exact m4
  · rw [h 104 (by omega) (by omega) (by omega)]; exact m5
  · rw [h 106 (by omega) (by omega) (by omega)]; exact m7
  · rw [h 107 (by omega) (by omega) (by omega)]; exact m8
  · rw [h 108 (by omega) (by omega) (by omega)]; exact m9
  · rw [h 109 (by omega) (by omega) (by omega)]; exact m10
  · rw [h 110 (by omega) (by omega) (by omega)]; exact m11
  · rw [h 111 (by omega) (by omega) (by omega)]; exact m12
  · rw [h 112 (by omega) (by omega) (by omega)]; exact m13
  · rw [h 114 (by omega) (by omega) (by omega)]; exact m14
end PAIR
