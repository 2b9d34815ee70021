/-! THE STATE: numbers (rows by number, see below), the sheets' sorts, the sheets' numbers
rows: 0 scalars (0 sorts, 1 purses, 2 year, 3 texts, 4 law, 5 bytes on the tape, 6 image there, 7 .. 10 its sorts, purses, year, law), 1 kinds, 2 told, 3 more, 4 what purses have (6 p + s), 5 the tape, 6 codes (200 t + k), 7 starts (4 t + part), 8 the image's purses, 9 sheets' sizes -/
abbrev AS : Type := (Nat → Nat → Nat) × (Nat → Int32) × (Nat → Int32)
abbrev sNs (S : AS) : Nat := S.1 0 0
abbrev sNp (S : AS) : Nat := S.1 0 1
abbrev sYr (S : AS) : Nat := S.1 0 2
abbrev sNt (S : AS) : Nat := S.1 0 3
abbrev sLw (S : AS) : Nat := S.1 0 4
abbrev sTn (S : AS) : Nat := S.1 0 5
abbrev sHi (S : AS) : Nat := S.1 0 6
abbrev sHas (S : AS) (p : Nat) : Nat → Nat := fun s => S.1 4 (6 * p + s)
abbrev sIm (S : AS) (p : Nat) : Nat → Nat := fun s => S.1 8 (6 * p + s)
abbrev sCd (S : AS) (t : Nat) : Nat → Nat := fun k => S.1 6 (200 * t + k)
abbrev sSt (S : AS) (t p : Nat) : Nat := S.1 7 (4 * t + p)
abbrev sTg (S : AS) : Nat → Nat → Nat := tgN (sNs S) (S.1 1) (S.1 3)
def TxW (S : AS) (t : Nat) : Prop := sSt S t 0 = 0 ∧ (sSt S t 0 ≤ sSt S t 1 ∧ sSt S t 1 ≤ sSt S t 2 ∧ sSt S t 2 ≤ sSt S t 3 ∧ sSt S t 3 ≤ 160) ∧ ∀ p, p < 3 → hrun (sCd S t) (sSt S t (p + 1) - sSt S t p) (sSt S t p) 0 1
/-- what holds of every state -/
def OKS (S : AS) : Prop :=
  (sNs S ≤ 6 ∧ sNp S ≤ 5 ∧ sYr S ≤ 99 ∧ (1 ≤ sNt S ∧ sNt S ≤ 6) ∧ sLw S < sNt S ∧ sTn S ≤ 160) ∧
  (∀ s, S.1 1 s ≤ 5 ∧ S.1 2 s ≤ 99 ∧ S.1 3 s ≤ 9) ∧
  ((∀ i, S.1 4 i ≤ 99) ∧ ∀ p s, p < 5 → s < 6 → sNs S ≤ s → S.1 4 (6 * p + s) = 0) ∧
  (∀ i, S.1 5 i ≤ 255) ∧ (∀ t, t < sNt S → TxW S t) ∧
  ((∀ i, S.1 8 i ≤ 99) ∧ (∀ p s, p < 5 → s < 6 → S.1 0 7 ≤ s → S.1 8 (6 * p + s) = 0) ∧ sHi S ≤ 1 ∧ S.1 0 7 ≤ sNs S ∧ S.1 0 8 ≤ 5 ∧ S.1 0 9 ≤ 99 ∧ S.1 0 10 < sNt S) ∧
  ∀ s, s < 4 → S.1 9 s ≤ 40
theorem OKS.b {S : AS} (h : OKS S) (p : Nat) : Bd 99 (sHas S p) := fun s _ => h.2.2.1.1 _
/-- the words that the reference knows (8 bytes each) -/
def wrdN : List Nat := [119, 111, 114, 116, 104, 32, 32, 32, 102, 101, 101, 32, 32, 32, 32, 32, 119, 97, 103, 101, 32, 32, 32, 32, 116, 111, 108, 100, 32, 32, 32, 32, 109, 97, 110, 121, 32, 32, 32, 32, 109, 111, 114, 101, 32, 32, 32, 32, 121, 101, 97, 114, 32, 32, 32, 32, 110, 117, 109, 98, 101, 114, 32, 32, 112, 114, 105, 99, 101, 32, 32, 32, 111, 114, 32, 32, 32, 32, 32, 32, 97, 110, 100, 32, 32, 32, 32, 32, 110, 111, 116, 32, 32, 32, 32, 32]
/-- the reference holds the state -/
def MI (I : Is) (S : AS) : Prop :=
  (I 101 0 = iN (sNs S) ∧ I 101 4 = iN (sNp S) ∧ I 101 6 = iN (sYr S) ∧ I 101 8 = iN (sTn S) ∧ I 101 11 = iN (sNt S) ∧ I 101 12 = iN (sLw S)) ∧
  (I 101 13 = iN (sHi S) ∧ I 101 14 = iN (S.1 0 7) ∧ I 101 15 = iN (S.1 0 8) ∧ I 101 16 = iN (S.1 0 9) ∧ I 101 17 = iN (S.1 0 10)) ∧
  (∀ i, I 102 i = iN (S.1 1 i)) ∧ (∀ i, I 103 i = iN (S.1 2 i)) ∧ (∀ i, I 104 i = iN (S.1 3 i)) ∧
  (∀ i, I 105 i = iN (S.1 4 i)) ∧ (∀ i, I 106 i = iN (S.1 5 i)) ∧ (∀ i, I 107 i = iN (S.1 6 i)) ∧ (∀ i, I 108 i = iN (S.1 7 i)) ∧ (∀ i, I 109 i = iN (S.1 8 i)) ∧
  (∀ i, I 110 i = S.2.1 i) ∧ (∀ i, I 111 i = iN (S.1 9 i)) ∧ (∀ i, I 112 i = S.2.2 i) ∧ ∀ i, i < 96 → I 114 i = iN (wrdN.getD i 0)
theorem MI.fr {L : List Nat} {I J : Is} {S : AS} (h : MI I S) (e : Of L I J) (hL : ∀ k, 101 ≤ k → k ≤ 114 → k ∉ L := by intro k h1 h2 q; simp at q; omega) : MI J S := by
  have r : ∀ k, 101 ≤ k → k ≤ 114 → J k = I k := fun k h1 h2 => e k (hL k h1 h2)
  unfold MI
  rw [r 101 (by omega) (by omega), r 102 (by omega) (by omega), r 103 (by omega) (by omega), r 104 (by omega) (by omega), r 105 (by omega) (by omega), r 106 (by omega) (by omega), r 107 (by omega) (by omega), r 108 (by omega) (by omega), r 109 (by omega) (by omega), r 110 (by omega) (by omega), r 111 (by omega) (by omega), r 112 (by omega) (by omega), r 114 (by omega) (by omega)]
  exact h
theorem MI.md {I : Is} {S : AS} (h : MI I S) (o : OKS S) : MdO I (sNs S) (S.1 1) (S.1 2) (S.1 3) :=
  ⟨o.1.1, h.1.1, fun s _ => ⟨⟨h.2.2.1 s, h.2.2.2.1 s, h.2.2.2.2.1 s⟩, o.2.1 s⟩⟩
theorem MI.ns {I : Is} {S : AS} (h : MI I S) : I 101 0 = iN (sNs S) := h.1.1
theorem MI.np {I : Is} {S : AS} (h : MI I S) : I 101 4 = iN (sNp S) := h.1.2.1
theorem MI.yr {I : Is} {S : AS} (h : MI I S) : I 101 6 = iN (sYr S) := h.1.2.2.1
theorem MI.tn {I : Is} {S : AS} (h : MI I S) : I 101 8 = iN (sTn S) := h.1.2.2.2.1
theorem MI.nt {I : Is} {S : AS} (h : MI I S) : I 101 11 = iN (sNt S) := h.1.2.2.2.2.1
theorem MI.lw {I : Is} {S : AS} (h : MI I S) : I 101 12 = iN (sLw S) := h.1.2.2.2.2.2
theorem MI.has {I : Is} {S : AS} (h : MI I S) : ∀ i, I 105 i = iN (S.1 4 i) := h.2.2.2.2.2.1
theorem MI.tape {I : Is} {S : AS} (h : MI I S) : ∀ i, I 106 i = iN (S.1 5 i) := h.2.2.2.2.2.2.1
theorem MI.cd {I : Is} {S : AS} (h : MI I S) : ∀ i, I 107 i = iN (S.1 6 i) := h.2.2.2.2.2.2.2.1
theorem MI.st {I : Is} {S : AS} (h : MI I S) : ∀ i, I 108 i = iN (S.1 7 i) := h.2.2.2.2.2.2.2.2.1
theorem MI.im {I : Is} {S : AS} (h : MI I S) : ∀ i, I 109 i = iN (S.1 8 i) := h.2.2.2.2.2.2.2.2.2.1
theorem MI.sf {I : Is} {S : AS} (h : MI I S) : ∀ i, I 110 i = S.2.1 i := h.2.2.2.2.2.2.2.2.2.2.1
theorem MI.sz {I : Is} {S : AS} (h : MI I S) : ∀ i, I 111 i = iN (S.1 9 i) := h.2.2.2.2.2.2.2.2.2.2.2.1
theorem MI.sc {I : Is} {S : AS} (h : MI I S) : ∀ i, I 112 i = S.2.2 i := h.2.2.2.2.2.2.2.2.2.2.2.2.1
/-- the class holds a text at cell a -/
def TxR (z : Zs) (I : Is) (a : Nat) (S : AS) (t : Nat) : Prop := TxO z a ∧ (97 ≤ a ∧ (a + 3 < 101 ∨ 124 ≤ a)) ∧ (∀ p, p < 3 → I (a + 2) p = iN (sSt S t (p + 1))) ∧ zL z (a + 1) = sSt S t 3 ∧ ∀ k, k < sSt S t 3 → I (a + 1) k = cTr (sCd S t k)
/-- the class holds the state -/
def CI (z : Zs) (I : Is) (S : AS) : Prop :=
  (I 8 10 = iN (sNs S) ∧ I 8 11 = iN (sNp S) ∧ I 8 12 = iN (sNt S) ∧ I 8 13 = iN (sYr S) ∧ I 8 14 = iN (sLw S) ∧ I 22 3 = iN (sTn S)) ∧
  SrO z I (sNs S) (S.1 1) (S.1 2) (S.1 3) ∧ (∀ p, p < 5 → Rw I (49 + 8 * p + 1) (sHas S p)) ∧
  ((∀ p, p < 5 → Rw I (28 + 4 * p + 1) (sIm S p)) ∧ I 26 1 = iN (S.1 0 7) ∧ I 26 2 = iN (S.1 0 8) ∧ I 26 3 = iN (S.1 0 9) ∧ I 26 4 = iN (S.1 0 10) ∧ I 26 5 = iN (sHi S)) ∧
  (∀ i, I 23 i = iN (S.1 5 i)) ∧
  ((∀ t, t < sNt S → t < 6 ∧ ∃ a, zP z 20 t = some a ∧ TxR z I a S t) ∧ ∀ t, sNt S ≤ t → t < 6 → zP z 20 t = none) ∧
  ∀ s, s < 4 → I (89 + 2 * s) 1 = S.2.1 s ∧ I (89 + 2 * s) 2 = iN (S.1 9 s) ∧ ∀ i, i < 40 → I (89 + 2 * s + 1) i = S.2.2 (40 * s + i)
/-- what the class works in, as it likes -/
def Scr (z : Zs) (k : Nat) : Prop := k ∈ [13, 14, 15, 17, 18, 19, 48, 51, 52, 54, 55, 56, 59, 60, 62, 63, 64, 67, 68, 70, 71, 72, 75, 76, 78, 79, 80, 83, 84, 86, 87, 88] ∨ ∃ t a, t < 6 ∧ zP z 20 t = some a ∧ (k = a ∨ k = a + 3)
def FrC (z : Zs) (I J : Is) : Prop := ∀ k, ¬ Scr z k → J k = I k
theorem FrC.rf (z : Zs) (I : Is) : FrC z I I := fun _ _ => rfl
theorem FrC.tr {z : Zs} {I J H : Is} (h : FrC z I J) (h2 : FrC z J H) : FrC z I H := fun k q => (h2 k q).trans (h k q)
theorem FrC.of {z : Zs} {L : List Nat} {I J : Is} (h : Of L I J) (s : ∀ k ∈ L, Scr z k) : FrC z I J := fun k q => h k (fun c => q (s k c))
theorem scr_l {z : Zs} {k : Nat} (h : k ∈ [13, 14, 15, 17, 18, 19, 48, 51, 52, 54, 55, 56, 59, 60, 62, 63, 64, 67, 68, 70, 71, 72, 75, 76, 78, 79, 80, 83, 84, 86, 87, 88]) : Scr z k := Or.inl h
section FRAME
variable {z : Zs} {I J : Is} {S : AS}
theorem CI.txa (h : CI z I S) {t a : Nat} (ht : t < 6) (e : zP z 20 t = some a) : t < sNt S ∧ TxR z I a S t := by
  by_cases c : t < sNt S
  · obtain ⟨_, b, e2, r⟩ := h.2.2.2.2.2.1.1 t c
    rw [e] at e2; cases e2
    exact ⟨c, r⟩
  · rw [h.2.2.2.2.2.1.2 t (by omega) ht] at e; cases e
/-- cells that are no scratch -/
theorem CI.ns_fix (h : CI z I S) {k : Nat} (hk : k < 97) (hl : k ∉ [13, 14, 15, 17, 18, 19, 48, 51, 52, 54, 55, 56, 59, 60, 62, 63, 64, 67, 68, 70, 71, 72, 75, 76, 78, 79, 80, 83, 84, 86, 87, 88]) : ¬ Scr z k := fun q => by
  rcases q with q | ⟨t, a, ht, e, q⟩
  · exact hl q
  · have := (h.txa ht e).2.2.1; omega
theorem CI.ns_m (h : CI z I S) {k : Nat} (h1 : 101 ≤ k) (h2 : k < 124) : ¬ Scr z k := fun q => by
  rcases q with q | ⟨t, a, ht, e, q⟩
  · simp at q; omega
  · have := (h.txa ht e).2.2.1; omega
theorem CI.ns_sort (h : CI z I S) (hz : Sh z) {k : Nat} (h1 : zT z k < 10) : ¬ Scr z k := fun q => by
  rcases q with q | ⟨t, a, ht, e, q⟩
  · simp only [List.mem_cons, List.not_mem_nil, or_false] at q
    have : zT z k = 100 := by
      rcases q with rfl | rfl | rfl | rfl | rfl | rfl | rfl | rfl | rfl | rfl | rfl | rfl | rfl | rfl | rfl | rfl | rfl | rfl | rfl | rfl | rfl | rfl | rfl | rfl | rfl | rfl | rfl | rfl | rfl | rfl | rfl | rfl <;> exact hz.t _ rfl
    omega
  · have r := (h.txa ht e).2.1
    rcases q with rfl | rfl
    · have := r.t; omega
    · have := r.t3; omega
theorem CI.ns_tx (h : CI z I S) (hz : Sh z) {t b : Nat} (ht : t < 6) (eb : zP z 20 t = some b) : ¬ Scr z (b + 1) ∧ ¬ Scr z (b + 2) := by
  have r := (h.txa ht eb).2
  refine ⟨fun q => ?_, fun q => ?_⟩
  · rcases q with q | ⟨u, a, hu, e, q⟩
    · have := r.2.1; simp at q; omega
    · have ra := (h.txa hu e).2.1
      rcases q with q | q
      · have := ra.t; rw [← q, r.1.t1] at this; omega
      · have := r.1.t; rw [show b = a + 2 by omega, ra.t2] at this; omega
  · rcases q with q | ⟨u, a, hu, e, q⟩
    · have := r.2.1; simp at q; omega
    · have ra := (h.txa hu e).2.1
      rcases q with q | q
      · have := ra.t; rw [← q, r.1.t2] at this; omega
      · have := r.1.t; rw [show b = a + 1 by omega, ra.t1] at this; omega
theorem CI.fr (h : CI z I S) (hz : Sh z) (f : FrC z I J) : CI z J S := by
  have fx : ∀ k, k < 97 → k ∉ [13, 14, 15, 17, 18, 19, 48, 51, 52, 54, 55, 56, 59, 60, 62, 63, 64, 67, 68, 70, 71, 72, 75, 76, 78, 79, 80, 83, 84, 86, 87, 88] → J k = I k := fun k a b => f k (h.ns_fix a b)
  obtain ⟨h1, h2, h3, h4, h5, h6, h7⟩ := id h
  refine ⟨?_, h2.cg (fun q hq => f q (h.ns_sort hz hq)), fun p hp => (h3 p hp).cg (fx _ (by omega) (by simp; omega)), ⟨fun p hp => (h4.1 p hp).cg (fx _ (by omega) (by simp; omega)), ?_⟩, ?_, ⟨fun t ht => ?_, h6.2⟩, fun s hs => ?_⟩
  · rw [fx 8 (by omega) (by decide), fx 22 (by omega) (by decide)]; exact h1
  · rw [fx 26 (by omega) (by decide)]; exact h4.2
  · rw [fx 23 (by omega) (by decide)]; exact h5
  · obtain ⟨t6, a, e, r⟩ := h6.1 t ht
    refine ⟨t6, a, e, r.1, r.2.1, fun p hp => ?_, r.2.2.2.1, fun k hk => ?_⟩
    · rw [f _ (h.ns_tx hz t6 e).2]; exact r.2.2.1 p hp
    · rw [f _ (h.ns_tx hz t6 e).1]; exact r.2.2.2.2 k hk
  · rw [fx (89 + 2 * s) (by omega) (by simp; omega), fx (89 + 2 * s + 1) (by omega) (by simp; omega)]; exact h7 s hs
theorem CI.ns (h : CI z I S) : I 8 10 = iN (sNs S) := h.1.1
theorem CI.np (h : CI z I S) : I 8 11 = iN (sNp S) := h.1.2.1
theorem CI.nt (h : CI z I S) : I 8 12 = iN (sNt S) := h.1.2.2.1
theorem CI.yr (h : CI z I S) : I 8 13 = iN (sYr S) := h.1.2.2.2.1
theorem CI.lw (h : CI z I S) : I 8 14 = iN (sLw S) := h.1.2.2.2.2.1
theorem CI.tn (h : CI z I S) : I 22 3 = iN (sTn S) := h.1.2.2.2.2.2
theorem CI.so (h : CI z I S) : SrO z I (sNs S) (S.1 1) (S.1 2) (S.1 3) := h.2.1
theorem CI.pu (h : CI z I S) {p : Nat} (hp : p < 5) : Rw I (49 + 8 * p + 1) (sHas S p) := h.2.2.1 p hp
theorem CI.kp (h : CI z I S) {p : Nat} (hp : p < 5) : Rw I (28 + 4 * p + 1) (sIm S p) := h.2.2.2.1.1 p hp
theorem CI.im (h : CI z I S) : I 26 1 = iN (S.1 0 7) ∧ I 26 2 = iN (S.1 0 8) ∧ I 26 3 = iN (S.1 0 9) ∧ I 26 4 = iN (S.1 0 10) ∧ I 26 5 = iN (sHi S) := h.2.2.2.1.2
theorem CI.tape (h : CI z I S) : ∀ i, I 23 i = iN (S.1 5 i) := h.2.2.2.2.1
theorem CI.tx (h : CI z I S) {t : Nat} (ht : t < sNt S) : t < 6 ∧ ∃ a, zP z 20 t = some a ∧ TxR z I a S t := h.2.2.2.2.2.1.1 t ht
theorem CI.sh (h : CI z I S) {s : Nat} (hs : s < 4) : I (89 + 2 * s) 1 = S.2.1 s ∧ I (89 + 2 * s) 2 = iN (S.1 9 s) ∧ ∀ i, i < 40 → I (89 + 2 * s + 1) i = S.2.2 (40 * s + i) := h.2.2.2.2.2.2 s hs
/-- what is not the class' may change -/
theorem FrC.m (h : CI z I S) (f : FrC z I J) {k : Nat} (h1 : 101 ≤ k) (h2 : k < 124) : J k = I k := f k (h.ns_m h1 h2)
theorem MI.fc (h : MI I S) (c : CI z I S) (f : FrC z I J) : MI J S := by
  have r : ∀ k, 101 ≤ k → k ≤ 114 → J k = I k := fun k h1 h2 => f k (c.ns_m h1 (by omega))
  unfold MI
  rw [r 101 (by omega) (by omega), r 102 (by omega) (by omega), r 103 (by omega) (by omega), r 104 (by omega) (by omega), r 105 (by omega) (by omega), r 106 (by omega) (by omega), r 107 (by omega) (by omega), r 108 (by omega) (by omega), r 109 (by omega) (by omega), r 110 (by omega) (by omega), r 111 (by omega) (by omega), r 112 (by omega) (by omega), r 114 (by omega) (by omega)]
  exact h
theorem FrC.up (f : FrC z I J) {a : Nat} (h : Scr z a) (i : Nat) (v : Int32) : FrC z I (up2 J a i v) := fun k q => (up2_ro J (fun e : k = a => q (by rw [e]; exact h)) i v).trans (f k q)
end FRAME
/-- names: told, many, more, year, number, price -/
def nm6 (a b c e f h : Nat) : Nat → Nat := fun i => match i with
  | 0 => a
  | 1 => b
  | 2 => c
  | 3 => e
  | 4 => f
  | _ => h
/-- what part p of text t says -/
def sayA (S : AS) (t p : Nat) (nm : Nat → Nat) : Nat := capN (if p = 2 then 9 else 99) (sayI (sCd S t) (sSt S t p) (sSt S t (p + 1)) nm)
theorem sayA_le (S : AS) (t p : Nat) (nm : Nat → Nat) : sayA S t p nm ≤ 99 := by
  unfold sayA capN
  refine Nat.le_trans (Nat.min_le_left _ _) ?_
  split <;> omega
def wAt (S : AS) (t k : Nat) : Nat := sayA S t 0 (nm6 0 0 0 (sYr S) 0 k)
def feeA (S : AS) (a b : Nat) : Nat := sayA S (sLw S) 1 (nm6 (S.1 2 a) 0 (S.1 3 b) (sYr S) a 0)
theorem nm_row {I : Is} {c : Nat} {a b x e f h : Nat} : Rw (up2 (up2 (up2 (up2 (up2 (up2 I c 0 (iN a)) c 1 (iN b)) c 2 (iN x)) c 3 (iN e)) c 4 (iN f)) c 5 (iN h)) c (nm6 a b x e f h) := fun s hs => by
  match s, hs with
  | 0, _ => simp [up2, nm6]
  | 1, _ => simp [up2, nm6]
  | 2, _ => simp [up2, nm6]
  | 3, _ => simp [up2, nm6]
  | 4, _ => simp [up2, nm6]
  | 5, _ => simp [up2, nm6]
section SAYC
variable {g : Gt} {d : Nat} {z : Zs} {I : Is} {S : AS}
theorem scr48 : Scr z 48 := scr_l (by decide)
theorem c11_says {t p : Nat} {nm : Nat → Nat} {K : Int32 → Is → Prop} (hs : GS g) (hz : Sh z) (c : CI z I S) (o : OKS S) (ht : t < sNt S) (hp : p < 3) (hn : Rw I 48 nm) (hK : ∀ J, FrC z I J → K (iN (sayA S t p nm)) J) : Wi g m11_says (d + 3) [.ref 8, .int (iN t), .int (iN p)] z I K := by
  obtain ⟨t6, a, ea, r⟩ := c.tx ht
  obtain ⟨w0, w1, w2⟩ := o.2.2.2.2.1 t ht
  refine v11_says hs hz ⟨fun _ => ⟨inB_n t6 (by omega), ?_⟩, fun q => absurd ?_ q⟩
  · rw [iN_toN (by omega), ea]
    refine ⟨by rw [r.1.t]; rfl, c_value (f := sCd S t) (b := sSt S t p) hs hz r.1 hp hn (r.2.2.1 p hp) (fun e => by rw [e]; exact w0) (fun e => ?_) ?_ ?_ ?_ (fun k _ hk => r.2.2.2.2 k ?_) (w2 p hp) (fun J hJ => ?_)⟩
    · rw [r.2.2.1 (p - 1) (by omega), show p - 1 + 1 = p by omega]
    · obtain rfl | rfl | rfl : p = 0 ∨ p = 1 ∨ p = 2 := by omega
      · exact w1.1
      · exact w1.2.1
      · exact w1.2.2.1
    · rw [r.2.2.2.1]
      obtain rfl | rfl | rfl : p = 0 ∨ p = 1 ∨ p = 2 := by omega
      · exact Nat.le_trans w1.2.1 w1.2.2.1
      · exact w1.2.2.1
      · exact Nat.le_refl _
    · rw [r.2.2.2.1]; have := w1.2.2.2; omega
    · obtain rfl | rfl | rfl : p = 0 ∨ p = 1 ∨ p = 2 := by omega
      · exact Nat.lt_of_lt_of_le hk (Nat.le_trans w1.2.1 w1.2.2.1)
      · exact Nat.lt_of_lt_of_le hk w1.2.2.1
      · exact hk
    · rw [mxmn_N (by split <;> omega)]
      refine hK J (FrC.of hJ (fun k hk => ?_))
      simp only [List.mem_cons, List.not_mem_nil, or_false] at hk
      exact Or.inr ⟨t, a, t6, ea, hk⟩
  · have nt6 := o.1.2.2.2.1.2; rw [c.nt, inR_idn (by omega) (by omega)]; exact ht
theorem c11_nameAll {a b x f h : Nat} {K : Is → Prop} (hs : GS g) (hz : Sh z) (c : CI z I S) (hK : ∀ J, FrC z I J → Rw J 48 (nm6 a b x (sYr S) f h) → K J) : Wv g m11_nameAll d [.ref 8, .int (iN a), .int (iN b), .int (iN x), .int (iN f), .int (iN h)] z I K := by
  refine v11_nameAll hs hz (hK _ ?_ ?_)
  · exact ((((((FrC.rf z I).up scr48 _ _).up scr48 _ _).up scr48 _ _).up scr48 _ _).up scr48 _ _).up scr48 _ _
  · rw [c.yr]; exact nm_row
theorem c11_worthAt {t k : Nat} {K : Int32 → Is → Prop} (hs : GS g) (hz : Sh z) (c : CI z I S) (o : OKS S) (ht : t < sNt S) (hK : ∀ J, FrC z I J → K (iN (wAt S t k)) J) : Wi g m11_worthAt (d + 4) [.ref 8, .int (iN t), .int (iN k)] z I K :=
  v11_worthAt hs hz (c11_nameAll (a := 0) (b := 0) (x := 0) (f := 0) hs hz c (fun J hJ hn => c11_says (p := 0) hs hz (c.fr hz hJ) o ht (by omega) hn (fun J2 hJ2 => hK J2 (hJ.tr hJ2))))
theorem nco {b k : Nat} {x : Int32} (e : x = iN k) (h : k ≤ b) : NcO b x := ⟨k, h, e⟩
theorem c11_feeFor {a b : Nat} {K : Int32 → Is → Prop} (hs : GS g) (hz : Sh z) (c : CI z I S) (o : OKS S) (ha : a < sNs S) (hb : b < sNs S) (hK : ∀ J, FrC z I J → K (iN (feeA S a b)) J) : Wi g m11_feeFor (d + 4) [.ref 8, .int (iN a), .int (iN b)] z I K := by
  have n6 := o.1.1
  obtain ⟨⟨qa, ea, sa⟩, -⟩ := c.so.2.1 a ha
  obtain ⟨⟨qb, eb, sb⟩, -⟩ := c.so.2.1 b hb
  have ia : inR (iN a) (iN 0) (I 8 10 - iN 1) := by rw [c.ns, inR_idn (by omega) (by omega)]; exact ha
  have ib : inR (iN b) (iN 0) (I 8 10 - iN 1) := by rw [c.ns, inR_idn (by omega) (by omega)]; exact hb
  refine v11_feeFor hs hz ⟨nco c.ns n6, fun q => absurd ia q, fun n1 h1 e1 _ => ?_⟩
  rw [iN_inj (by omega) (by omega)] at e1
  subst e1
  refine ⟨qa, ea, nco c.ns n6, fun q => absurd ib q, fun n2 h2 e2 _ => ?_⟩
  rw [iN_inj (by omega) (by omega)] at e2
  subst e2
  have tg : ∀ q k, zT z q = kcl k → tagB [8, 0, 6, 9, 1, 3] (zT z q) = true := fun q k e => by
    rw [e]; unfold kcl; split <;> rfl
  refine ⟨qb, eb, tg _ _ sa.1, tg _ _ sb.1, ?_⟩
  rw [sa.2.1, sb.2.2]
  refine c11_nameAll (b := 0) (h := 0) hs hz c (fun J hJ hn => ?_)
  have cJ := c.fr hz hJ
  rw [cJ.lw]
  exact c11_says (p := 1) hs hz cJ o o.1.2.2.2.2.1 (by omega) hn (fun J2 hJ2 => hK J2 (hJ.tr hJ2))
-- the reference
theorem c12_asksOf {p a b x f h : Nat} {K : Int32 → Is → Prop} (hs : GS g) (hz : Sh z) (m : MI I S) (o : OKS S) (hp : p < 3) (hK : ∀ J, Of [116, 117] I J → K (iN (sayA S (sLw S) p (nm6 a b x (sYr S) f h))) J) : Wi g m12_asksOf (d + 2) [.ref 101, .int (iN p), .int (iN a), .int (iN b), .int (iN x), .int (iN f), .int (iN h)] z I K := by
  obtain ⟨w0, w1, w2⟩ := o.2.2.2.2.1 _ o.1.2.2.2.2.1
  have t6 : sLw S < 6 := by have := o.1; omega
  refine v12_asksOf hs hz ?_
  rw [m.yr]
  have hO : Of [116, 117] I (up2 (up2 (up2 (up2 (up2 (up2 I 117 0 (iN a)) 117 1 (iN b)) 117 2 (iN x)) 117 3 (iN (sYr S))) 117 4 (iN f)) 117 5 (iN h)) := ((((((Of.rf _ I).upt (by simp) _ _).upt (by simp) _ _).upt (by simp) _ _).upt (by simp) _ _).upt (by simp) _ _).upt (by simp) _ _
  have m2 := m.fr hO
  refine c_msays (f := sCd S (sLw S)) (b := sSt S (sLw S) p) (e := sSt S (sLw S) (p + 1)) hs hz t6 hp m2.lw nm_row (m2.st _) (m2.st _) ?_ ?_ (fun k _ _ => m2.cd _) (w2 p hp) (fun J hJ => ?_)
  · obtain rfl | rfl | rfl : p = 0 ∨ p = 1 ∨ p = 2 := by omega
    · exact w1.1
    · exact w1.2.1
    · exact w1.2.2.1
  · obtain rfl | rfl | rfl : p = 0 ∨ p = 1 ∨ p = 2 := by omega
    · exact Nat.le_trans w1.2.1 (Nat.le_trans w1.2.2.1 w1.2.2.2)
    · exact Nat.le_trans w1.2.2.1 w1.2.2.2
    · exact w1.2.2.2
  · have hK2 := hK J (hO.tr (hJ.mo (by simp)))
    unfold sayA at hK2
    refine ⟨fun q => ?_, fun q => ?_⟩
    · rw [iN_inj (by omega) (by omega)] at q
      rw [if_pos q] at hK2
      rw [clI_N (by omega)]; exact hK2
    · rw [iN_inj (by omega) (by omega)] at q
      rw [if_neg q] at hK2
      rw [clI_N (by omega)]; exact hK2
theorem c12_worthOf {k : Nat} {K : Int32 → Is → Prop} (hs : GS g) (hz : Sh z) (m : MI I S) (o : OKS S) (hK : ∀ J, Of [116, 117] I J → K (iN (wAt S (sLw S) k)) J) : Wi g m12_worthOf (d + 3) [.ref 101, .int (iN k)] z I K :=
  v12_worthOf hs hz (c12_asksOf (p := 0) (a := 0) (b := 0) (x := 0) (f := 0) hs hz m o (by omega) hK)
theorem c12_feeOf {a b : Nat} {K : Int32 → Is → Prop} (hs : GS g) (hz : Sh z) (m : MI I S) (o : OKS S) (ha : a < 6) (hb : b < 6) (hK : ∀ J, Of [116, 117] I J → K (iN (feeA S a b)) J) : Wi g m12_feeOf (d + 3) [.ref 101, .int (iN a), .int (iN b)] z I K := by
  refine v12_feeOf hs hz ⟨inB_n ha (by omega), inB_n hb (by omega), ?_⟩
  rw [iN_toN (by omega), iN_toN (by omega), m.2.2.2.1 a, m.2.2.2.2.1 b]
  exact c12_asksOf (p := 1) (b := 0) (h := 0) hs hz m o (by omega) hK
end SAYC
