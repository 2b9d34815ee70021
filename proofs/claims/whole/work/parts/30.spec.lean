/-! WHAT IS RECKONED: sorts, laying, how often -/
def togN (k mo n : Nat) : Nat := if k = 1 then 2 else if k = 3 then (if mo < n then 3 else 2) else if k = 5 ∧ 5 < n then 0 else 1
def lftN (k mo n : Nat) : Nat := if k = 4 then n - 1 else if k = 5 then n * (9 - mo) / 9 else n
def wthN (k tl mo n : Nat) : Nat := if k = 2 then (if n < 2 then 3 * tl else tl) else if k = 4 then (if n < 2 then 3 * tl else tl) + mo else tl
/-- the first of those of which most are left, of which any may lie -/
def nbest (l r : Nat → Nat) : Nat → Option Nat
  | 0 => none
  | n + 1 => match nbest l r n with
    | none => if 0 < r n ∧ 0 < l n then some n else none
    | some b => if 0 < r n ∧ l b < l n then some n else some b
theorem nbest_some {l r : Nat → Nat} : ∀ {n b : Nat}, nbest l r n = some b → b < n ∧ 0 < r b ∧ 0 < l b
  | 0, b, h => by cases h
  | n + 1, b, h => by
    unfold nbest at h
    split at h
    next =>
      split at h
      next c => cases h; exact ⟨by omega, c⟩
      next => cases h
    next b' hb' =>
      have ih := nbest_some hb'
      split at h
      next c => cases h; exact ⟨by omega, c.1, by omega⟩
      next => cases h; exact ⟨by omega, ih.2⟩
theorem nbest_cg {l r l' r' : Nat → Nat} : ∀ {n : Nat}, (∀ s, s < n → l s = l' s) → (∀ s, s < n → r s = r' s) → nbest l r n = nbest l' r' n
  | 0, _, _ => rfl
  | n + 1, hl, hr => by
    unfold nbest
    rw [nbest_cg (n := n) (fun s h => hl s (by omega)) (fun s h => hr s (by omega)), hl n (by omega), hr n (by omega)]
    cases hb : nbest l' r' n with
    | none => rfl
    | some b =>
      have := nbest_some hb
      simp only
      rw [hl b (by omega)]
/-- laying k coins: what is left -/
def layN : Nat → (Nat → Nat) → (Nat → Nat) → Option (Nat → Nat)
  | 0, l, _ => some l
  | k + 1, l, r => match nbest l r 6 with
    | none => none
    | some s => layN k (up1 l s (l s - 1)) (up1 r s (r s - 1))
def sum6 (h : Nat → Nat) : Nat := h 0 + h 1 + h 2 + h 3 + h 4 + h 5
theorem sum6_dec {h : Nat → Nat} {s : Nat} (hs : s < 6) (h0 : 0 < h s) : sum6 (up1 h s (h s - 1)) + 1 = sum6 h := by
  unfold sum6 up1
  match s, hs with
  | 0, _ => simp; omega
  | 1, _ => simp; omega
  | 2, _ => simp; omega
  | 3, _ => simp; omega
  | 4, _ => simp; omega
  | 5, _ => simp; omega
theorem layN_sum : ∀ {k : Nat} {l r l' : Nat → Nat}, layN k l r = some l' → sum6 l' + k = sum6 l
  | 0, l, r, l', h => by cases h; rfl
  | k + 1, l, r, l', h => by
    unfold layN at h
    split at h
    next => cases h
    next s hs =>
      have h1 := nbest_some hs
      have := layN_sum h
      have := sum6_dec h1.1 h1.2.2
      omega
theorem layN_le : ∀ {k : Nat} {l r l' : Nat → Nat}, layN k l r = some l' → ∀ s, l' s ≤ l s
  | 0, l, r, l', h, s => by cases h; exact Nat.le_refl _
  | k + 1, l, r, l', h, s => by
    unfold layN at h
    split at h
    next => cases h
    next b hb =>
      have h1 := layN_le h s
      unfold up1 at h1
      split at h1
      next e => subst e; omega
      next => exact h1
theorem layN_cg : ∀ {k : Nat} {l r l2 r2 : Nat → Nat}, (∀ s, s < 6 → l s = l2 s) → (∀ s, s < 6 → r s = r2 s) → (layN k l r = none ∧ layN k l2 r2 = none) ∨ ∃ a b, layN k l r = some a ∧ layN k l2 r2 = some b ∧ ∀ s, s < 6 → a s = b s
  | 0, l, r, l2, r2, hl, hr => Or.inr ⟨l, l2, rfl, rfl, hl⟩
  | k + 1, l, r, l2, r2, hl, hr => by
    unfold layN
    rw [nbest_cg hl hr]
    cases hb : nbest l2 r2 6 with
    | none => exact Or.inl ⟨rfl, rfl⟩
    | some b =>
      have h1 := nbest_some hb
      exact layN_cg (fun s h => by unfold up1; split <;> simp [hl _ h, hl b h1.1]) (fun s h => by unfold up1; split <;> simp [hr _ h, hr b h1.1])
/-- how often at price k, and what is left -/
def oftF (tg : Nat → Nat → Nat) (k : Nat) : Nat → (Nat → Nat) → Nat × (Nat → Nat)
  | 0, h => (0, h)
  | n + 1, h => match layN k h (fun s => tg s (h s)) with
    | none => (0, h)
    | some l => ((oftF tg k n l).1 + 1, (oftF tg k n l).2)
def oft (tg : Nat → Nat → Nat) (k : Nat) (h : Nat → Nat) : Nat × (Nat → Nat) := oftF tg k 594 h
theorem oftF_more {tg : Nat → Nat → Nat} {k : Nat} (hk : 0 < k) : ∀ {n m : Nat} {h : Nat → Nat}, sum6 h ≤ n → sum6 h ≤ m → oftF tg k n h = oftF tg k m h
  | 0, m, h, h1, h2 => by
    cases m with
    | zero => rfl
    | succ m =>
      unfold oftF
      split
      next => rfl
      next l hl => have := layN_sum hl; omega
  | n + 1, 0, h, h1, h2 => by
    unfold oftF
    split
    next => rfl
    next l hl => have := layN_sum hl; omega
  | n + 1, m + 1, h, h1, h2 => by
    unfold oftF
    split
    next => rfl
    next l hl =>
      have := layN_sum hl
      rw [oftF_more hk (n := n) (m := m) (h := l) (by omega) (by omega)]
theorem oft_step {tg : Nat → Nat → Nat} {k : Nat} (hk : 0 < k) {h : Nat → Nat} (hh : sum6 h ≤ 594) : oft tg k h = match layN k h (fun s => tg s (h s)) with
    | none => (0, h)
    | some l => ((oft tg k l).1 + 1, (oft tg k l).2) := by
  unfold oft
  rw [oftF_more hk (n := 594) (m := 595) hh (by omega)]
  show (match layN k h (fun s => tg s (h s)) with
    | none => (0, h)
    | some l => ((oftF tg k 594 l).1 + 1, (oftF tg k 594 l).2)) = _
  rfl
theorem oftF_le {tg : Nat → Nat → Nat} {k : Nat} : ∀ {n : Nat} {h : Nat → Nat} (s : Nat), (oftF tg k n h).2 s ≤ h s
  | 0, h, s => Nat.le_refl _
  | n + 1, h, s => by
    unfold oftF
    split
    next => exact Nat.le_refl _
    next l hl => exact Nat.le_trans (oftF_le s) (layN_le hl s)
theorem oftF_n {tg : Nat → Nat → Nat} {k : Nat} : ∀ {n : Nat} {h : Nat → Nat}, (oftF tg k n h).1 ≤ n
  | 0, h => Nat.le_refl _
  | n + 1, h => by
    unfold oftF
    split
    next => exact Nat.zero_le _
    next l hl => exact Nat.succ_le_succ oftF_n
theorem oftF_cg {tg : Nat → Nat → Nat} {k : Nat} : ∀ {n : Nat} {h h2 : Nat → Nat}, (∀ s, s < 6 → h s = h2 s) → (oftF tg k n h).1 = (oftF tg k n h2).1 ∧ ∀ s, s < 6 → (oftF tg k n h).2 s = (oftF tg k n h2).2 s
  | 0, h, h2, e => ⟨rfl, e⟩
  | n + 1, h, h2, e => by
    unfold oftF
    rcases layN_cg (k := k) e (r := fun s => tg s (h s)) (r2 := fun s => tg s (h2 s)) (fun s hs => by show tg s (h s) = tg s (h2 s); rw [e s hs]) with ⟨a, b⟩ | ⟨a, b, ea, eb, q⟩
    · rw [a, b]; exact ⟨rfl, e⟩
    · rw [ea, eb]
      have := oftF_cg (tg := tg) (k := k) (n := n) q
      exact ⟨by show _ + 1 = _ + 1; rw [this.1], this.2⟩
theorem oft_cg {tg : Nat → Nat → Nat} {k : Nat} {h h2 : Nat → Nat} (e : ∀ s, s < 6 → h s = h2 s) : (oft tg k h).1 = (oft tg k h2).1 ∧ ∀ s, s < 6 → (oft tg k h).2 s = (oft tg k h2).2 s := oftF_cg e
theorem oft_le {tg : Nat → Nat → Nat} {k : Nat} {h : Nat → Nat} (s : Nat) : (oft tg k h).2 s ≤ h s := oftF_le s
theorem oft_n {tg : Nat → Nat → Nat} {k : Nat} {h : Nat → Nat} : (oft tg k h).1 ≤ 594 := oftF_n
theorem sum6_le {h : Nat → Nat} {b : Nat} (e : ∀ s, s < 6 → h s ≤ b) : sum6 h ≤ 6 * b := by
  have := e 0 (by omega); have := e 1 (by omega); have := e 2 (by omega); have := e 3 (by omega); have := e 4 (by omega); have := e 5 (by omega)
  unfold sum6; omega
/-- a set of sorts as bits -/
def bset (f : Nat → Bool) : Nat → Nat
  | 0 => 0
  | n + 1 => bset f n + (if f n then 2 ^ n else 0)
theorem bset_lt (f : Nat → Bool) : ∀ n, bset f n < 2 ^ n
  | 0 => by show 0 < 1; omega
  | n + 1 => by
    have := bset_lt f n
    unfold bset
    rw [Nat.pow_succ]
    split <;> omega
theorem bset_cg {f g : Nat → Bool} : ∀ {n : Nat}, (∀ s, s < n → f s = g s) → bset f n = bset g n
  | 0, _ => rfl
  | n + 1, h => by unfold bset; rw [bset_cg (fun s q => h s (by omega)), h n (by omega)]
theorem or_up : ∀ s, s < 6 → ∀ b, b < 2 ^ s → iN b ||| ((iN 1) <<< (iN s &&& iN 31)) = iN (b + 2 ^ s) := by decide +kernel
theorem or_in : ∀ b, b < 64 → ∀ s, s < 6 → iN b ||| ((iN 1) <<< (iN s &&& iN 31)) = iN (b ||| 2 ^ s) := by decide +kernel
theorem or_six : ∀ (a b c d e f : Bool) (s : Nat), s < 6 → (((((((0 + (if a then 2 ^ 0 else 0)) + (if b then 2 ^ 1 else 0)) + (if c then 2 ^ 2 else 0)) + (if d then 2 ^ 3 else 0)) + (if e then 2 ^ 4 else 0)) + (if f then 2 ^ 5 else 0)) ||| 2 ^ s) = ((((((0 + (if (if 0 = s then true else a) then 2 ^ 0 else 0)) + (if (if 1 = s then true else b) then 2 ^ 1 else 0)) + (if (if 2 = s then true else c) then 2 ^ 2 else 0)) + (if (if 3 = s then true else d) then 2 ^ 3 else 0)) + (if (if 4 = s then true else e) then 2 ^ 4 else 0)) + (if (if 5 = s then true else f) then 2 ^ 5 else 0)) := by decide +kernel
theorem bset_or (f : Nat → Bool) {s : Nat} (h : s < 6) : bset f 6 ||| 2 ^ s = bset (up1 f s true) 6 := or_six (f 0) (f 1) (f 2) (f 3) (f 4) (f 5) s h
