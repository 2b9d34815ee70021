/-! what is read from the tape: tokens (kind, number, place) -/
def runP (p : Nat → Bool) (T : Nat → Nat) (n : Nat) : Nat → Nat → Nat
  | 0, e => e
  | f + 1, e => if e < n ∧ p (T e) = true then runP p T n f (e + 1) else e
theorem runP_ge (p : Nat → Bool) (T : Nat → Nat) (n : Nat) : ∀ f e, e ≤ runP p T n f e
  | 0, e => Nat.le_refl _
  | f + 1, e => by
    unfold runP; split
    next => exact Nat.le_trans (Nat.le_succ e) (runP_ge p T n f (e + 1))
    next => exact Nat.le_refl _
theorem runP_le (p : Nat → Bool) (T : Nat → Nat) (n : Nat) : ∀ f e, e ≤ n → runP p T n f e ≤ n
  | 0, e, h => h
  | f + 1, e, h => by
    unfold runP; split
    next q => exact runP_le p T n f (e + 1) (by omega)
    next => exact h
theorem runP_all (p : Nat → Bool) (T : Nat → Nat) (n : Nat) : ∀ f e i, e ≤ i → i < runP p T n f e → p (T i) = true
  | 0, e, i, h1, h2 => by unfold runP at h2; omega
  | f + 1, e, i, h1, h2 => by
    unfold runP at h2; split at h2
    next q =>
      by_cases c : i = e
      · rw [c]; exact q.2
      · exact runP_all p T n f (e + 1) i (by omega) h2
    next => omega
theorem runP_pos {p : Nat → Bool} {T : Nat → Nat} {n f e : Nat} (hf : 0 < f) (h : e < n) (q : p (T e) = true) : e + 1 ≤ runP p T n f e := by
  cases f with
  | zero => omega
  | succ f => unfold runP; rw [if_pos ⟨h, q⟩]; exact runP_ge p T n f (e + 1)
theorem runP_yes {p : Nat → Bool} {T : Nat → Nat} {n f e : Nat} (h : e < n) (q : p (T e) = true) : runP p T n (f + 1) e = runP p T n f (e + 1) := by
  show (if e < n ∧ p (T e) = true then runP p T n f (e + 1) else e) = _
  rw [if_pos ⟨h, q⟩]
theorem runP_no {p : Nat → Bool} {T : Nat → Nat} {n f e : Nat} (q : ¬ (e < n ∧ p (T e) = true)) : runP p T n f e = e := by
  cases f with
  | zero => rfl
  | succ f =>
    show (if e < n ∧ p (T e) = true then runP p T n f (e + 1) else e) = _
    rw [if_neg q]
def blB (c : Nat) : Bool := Nat.beq c 32 || Nat.beq c 10
def ltB (c : Nat) : Bool := Nat.ble 97 c && Nat.ble c 122
def dgB (c : Nat) : Bool := Nat.ble 48 c && Nat.ble c 57
theorem blB_i {c : Nat} : blB c = true ↔ c = 32 ∨ c = 10 := by unfold blB; rw [Bool.or_eq_true, Nat.beq_eq, Nat.beq_eq]
theorem ltB_i {c : Nat} : ltB c = true ↔ 97 ≤ c ∧ c ≤ 122 := by unfold ltB; rw [Bool.and_eq_true, Nat.ble_eq, Nat.ble_eq]
theorem dgB_i {c : Nat} : dgB c = true ↔ 48 ≤ c ∧ c ≤ 57 := by unfold dgB; rw [Bool.and_eq_true, Nat.ble_eq, Nat.ble_eq]
def nuN (T : Nat → Nat) (s : Nat) : Nat → Nat
  | 0 => 0
  | k + 1 => 10 * nuN T s k + T (s + k) - 48
def sgC (c : Nat) : Nat := if c = 40 then 12 else if c = 41 then 13 else if c = 59 then 14 else if c = 43 then 15 else if c = 45 then 16 else if c = 42 then 17 else if c = 60 then 18 else if c = 61 then 19 else 22
def wrC : List Nat := [119, 111, 114, 116, 104, 32, 102, 101, 101, 32, 32, 32, 119, 97, 103, 101, 32, 32, 111, 114, 32, 32, 32, 32, 97, 110, 100, 32, 32, 32, 110, 111, 116, 32, 32, 32, 116, 111, 108, 100, 32, 32, 109, 97, 110, 121, 32, 32, 109, 111, 114, 101, 32, 32, 121, 101, 97, 114, 32, 32, 110, 117, 109, 98, 101, 114, 112, 114, 105, 99, 101, 32]
def alF (q : Nat → Bool) : Nat → Bool
  | 0 => true
  | i + 1 => alF q i && q i
theorem alF_i {q : Nat → Bool} : ∀ {n : Nat}, alF q n = true ↔ ∀ i, i < n → q i = true
  | 0 => ⟨fun _ i h => absurd h (by omega), fun _ => rfl⟩
  | n + 1 => by
    show (alF q n && q n) = true ↔ _
    rw [Bool.and_eq_true, alF_i]
    constructor
    · intro h i hi
      rcases Nat.lt_or_ge i n with c | c
      · exact h.1 i c
      · rw [show i = n by omega]; exact h.2
    · intro h; exact ⟨fun i hi => h i (by omega), h n (by omega)⟩
def chW (T : Nat → Nat) (s e i : Nat) : Nat := if s + i < e then T (s + i) else 32
def wdB (T : Nat → Nat) (s e w : Nat) : Bool := Nat.ble (e - s) 6 && alF (fun i => Nat.beq (chW T s e i) (wrC.getD (6 * w + i) 0)) 6
theorem wdB_i {T : Nat → Nat} {s e w : Nat} : wdB T s e w = true ↔ e - s ≤ 6 ∧ ∀ i, i < 6 → chW T s e i = wrC.getD (6 * w + i) 0 := by
  unfold wdB
  rw [Bool.and_eq_true, Nat.ble_eq, alF_i]
  exact ⟨fun h => ⟨h.1, fun i hi => Nat.eq_of_beq_eq_true (h.2 i hi)⟩, fun h => ⟨h.1, fun i hi => by rw [h.2 i hi]; exact Nat.beq_refl _⟩⟩
/-- the last of the words that is so -/
def wkC (T : Nat → Nat) (s e : Nat) : Nat → Nat
  | 0 => 22
  | w + 1 => if wdB T s e w = true then w else wkC T s e w
theorem wr_one : ∀ w, w < 12 → ∀ v, v < 12 → alF (fun i => Nat.beq (wrC.getD (6 * w + i) 0) (wrC.getD (6 * v + i) 0)) 6 = true → w = v := by decide +kernel
theorem wdB_one {T : Nat → Nat} {s e w v : Nat} (hw : w < 12) (hv : v < 12) (a : wdB T s e w = true) (b : wdB T s e v = true) : w = v := by
  refine wr_one w hw v hv (alF_i.mpr (fun i hi => ?_))
  rw [← (wdB_i.mp a).2 i hi, ← (wdB_i.mp b).2 i hi]; exact Nat.beq_refl _
theorem wkC_at {T : Nat → Nat} {s e w : Nat} (a : wdB T s e w = true) : ∀ m, w < m → m ≤ 12 → wkC T s e m = w
  | 0, h, _ => absurd h (by omega)
  | m + 1, h, h2 => by
    unfold wkC
    by_cases q : wdB T s e m = true
    · rw [if_pos q]; exact wdB_one (by omega) (by omega) q a
    · rw [if_neg q]
      rcases Nat.lt_or_ge w m with c | c
      · exact wkC_at a m c (by omega)
      · rw [show w = m by omega] at a; exact absurd a q
theorem wkC_no {T : Nat → Nat} {s e : Nat} : ∀ m, (∀ w, w < m → ¬ wdB T s e w = true) → wkC T s e m = 22
  | 0, _ => rfl
  | m + 1, h => by
    unfold wkC
    rw [if_neg (h m (by omega))]
    exact wkC_no m (fun w hw => h w (by omega))
theorem wkC_b {T : Nat → Nat} {s e : Nat} : ∀ m, wkC T s e m < m ∨ wkC T s e m = 22
  | 0 => Or.inr rfl
  | m + 1 => by
    unfold wkC; split
    next => exact Or.inl (by omega)
    next => rcases wkC_b (T := T) (s := s) (e := e) m with h | h
            · exact Or.inl (by omega)
            · exact Or.inr h
/-- the reference's words: the first that is so -/
def mdB (T : Nat → Nat) (s e k : Nat) : Bool := Nat.ble (e - s) 8 && alF (fun i => Nat.beq (wrdN.getD (8 * k + i) 0) (chW T s e i)) 8
def wkM (T : Nat → Nat) (s e : Nat) : Nat → Nat → Nat
  | 0, _ => 12
  | f + 1, k => if mdB T s e k = true then k else wkM T s e f (k + 1)
def pmK (k : Nat) : Nat := if k < 3 then k else if k < 9 then k + 3 else k - 6
def pmI (w : Nat) : Nat := if w < 3 then w else if w < 6 then w + 6 else w - 3
theorem wr_pm : ∀ k, k < 12 → alF (fun i => Nat.beq (wrdN.getD (8 * k + i) 0) (wrC.getD (6 * pmK k + i) 0)) 6 = true ∧ wrdN.getD (8 * k + 6) 0 = 32 ∧ wrdN.getD (8 * k + 7) 0 = 32 := by decide +kernel
theorem md_wd {T : Nat → Nat} {s e k : Nat} (hk : k < 12) (hl : ∀ i, s ≤ i → i < e → T i ≠ 32) : mdB T s e k = true ↔ wdB T s e (pmK k) = true := by
  obtain ⟨p1, p2, p3⟩ := wr_pm k hk
  have p1 := fun i hi => Nat.eq_of_beq_eq_true ((alF_i.mp p1) i hi)
  rw [wdB_i]
  unfold mdB
  rw [Bool.and_eq_true, Nat.ble_eq, alF_i]
  constructor
  · intro ⟨h1, h2⟩
    have h2 := fun i hi => Nat.eq_of_beq_eq_true (h2 i hi)
    have c6 : ¬ s + 6 < e := fun c => by
      have := h2 6 (by omega)
      rw [p2] at this
      unfold chW at this
      rw [if_pos c] at this
      exact hl _ (by omega) c this.symm
    exact ⟨by omega, fun i hi => by rw [← h2 i (by omega)]; exact p1 i hi⟩
  · intro ⟨h1, h2⟩
    refine ⟨by omega, fun i hi => ?_⟩
    have e1 : wrdN.getD (8 * k + i) 0 = chW T s e i := by
      rcases Nat.lt_or_ge i 6 with c | c
      · rw [h2 i c]; exact p1 i c
      · have : chW T s e i = 32 := by unfold chW; rw [if_neg (by omega)]
        rw [this]
        obtain rfl | rfl : i = 6 ∨ i = 7 := by omega
        · exact p2
        · exact p3
    show Nat.beq (wrdN.getD (8 * k + i) 0) (chW T s e i) = true
    rw [e1]; exact Nat.beq_refl _
theorem pm_bij : ∀ k, k < 12 → pmK k < 12 ∧ pmI (pmK k) = k ∧ pmI k < 12 ∧ pmK (pmI k) = k := by decide
theorem wkM_eq {T : Nat → Nat} {s e : Nat} (hl : ∀ i, s ≤ i → i < e → T i ≠ 32) : ∀ f k, k + f = 12 → (∀ j, j < k → ¬ mdB T s e j = true) → (wkM T s e f k < 12 ∧ wkC T s e 12 = pmK (wkM T s e f k)) ∨ (wkM T s e f k = 12 ∧ wkC T s e 12 = 22)
  | 0, k, h, hn => by
    refine Or.inr ⟨rfl, wkC_no 12 (fun w hw q => ?_)⟩
    obtain ⟨_, _, a, b⟩ := pm_bij w hw
    rw [← b] at q
    exact hn (pmI w) (by omega) ((md_wd a hl).mpr q)
  | f + 1, k, h, hn => by
    unfold wkM
    by_cases q : mdB T s e k = true
    · rw [if_pos q]
      exact Or.inl ⟨by omega, wkC_at ((md_wd (by omega) hl).mp q) 12 (pm_bij k (by omega)).1 (Nat.le_refl _)⟩
    · rw [if_neg q]
      exact wkM_eq hl f (k + 1) (by omega) (fun j hj => by
        rcases Nat.lt_or_ge j k with c | c
        · exact hn j c
        · rw [show j = k by omega]; exact q)
/-- the token at a place: kind, number, place, and what is behind it -/
abbrev Tk : Type := Nat × Nat × Nat
def lxN (T : Nat → Nat) (n s : Nat) : Nat × Nat × Nat × Nat :=
  if n ≤ s then (21, 0, s, s)
  else if ltB (T s) = true then (wkC T s (runP ltB T n (n - s) s) 12, 0, s, runP ltB T n (n - s) s)
  else if dgB (T s) = true then (if runP dgB T n (n - s) s - s ≤ 4 then 20 else 22, nuN T s (runP dgB T n (n - s) s - s), s, runP dgB T n (n - s) s)
  else (sgC (T s), 0, s, s + 1)
def lxE (T : Nat → Nat) (n e : Nat) : Nat × Nat × Nat × Nat := lxN T n (runP blB T n (n - e) e)
theorem sgC_b (c : Nat) : 12 ≤ sgC c ∧ sgC c ≤ 22 ∧ sgC c ≠ 20 ∧ sgC c ≠ 21 := by unfold sgC; repeat (first | split | omega)
theorem lxN_b {T : Nat → Nat} {n s : Nat} (h : s ≤ n) : (lxN T n s).1 ≤ 22 ∧ (lxN T n s).2.2.1 = s ∧ s ≤ (lxN T n s).2.2.2 ∧ (lxN T n s).2.2.2 ≤ n ∧ ((lxN T n s).1 = 21 ↔ n ≤ s) ∧ (s < n → s + 1 ≤ (lxN T n s).2.2.2) := by
  unfold lxN
  split
  next q => exact ⟨by show 21 ≤ 22; omega, rfl, Nat.le_refl _, h, ⟨fun _ => q, fun _ => rfl⟩, fun a => by omega⟩
  next q =>
    split
    next c =>
      have h1 := runP_le ltB T n (n - s) s h
      have h2 := runP_pos (p := ltB) (T := T) (n := n) (f := n - s) (e := s) (by omega) (by omega) c
      have h3 := wkC_b (T := T) (s := s) (e := runP ltB T n (n - s) s) 12
      exact ⟨by show wkC _ _ _ _ ≤ 22; omega, rfl, by show s ≤ runP _ _ _ _ _; omega, h1, ⟨fun a => by have : wkC T s (runP ltB T n (n - s) s) 12 = 21 := a; omega, fun a => by omega⟩, fun _ => h2⟩
    next =>
      split
      next c =>
        have h1 := runP_le dgB T n (n - s) s h
        have h2 := runP_pos (p := dgB) (T := T) (n := n) (f := n - s) (e := s) (by omega) (by omega) c
        refine ⟨?_, rfl, by show s ≤ runP _ _ _ _ _; omega, h1, ⟨fun a => ?_, fun a => by omega⟩, fun _ => h2⟩
        · show (if _ then 20 else 22) ≤ 22
          split <;> omega
        · have : (if runP dgB T n (n - s) s - s ≤ 4 then 20 else 22) = 21 := a
          split at this <;> omega
      next =>
        have h1 := sgC_b (T s)
        exact ⟨h1.2.1, rfl, by show s ≤ s + 1; omega, by show s + 1 ≤ n; omega, ⟨fun a => absurd a h1.2.2.2, fun a => by omega⟩, fun _ => Nat.le_refl _⟩
theorem lxE_b {T : Nat → Nat} {n e : Nat} (h : e ≤ n) : (lxE T n e).1 ≤ 22 ∧ e ≤ (lxE T n e).2.2.1 ∧ (lxE T n e).2.2.1 ≤ n ∧ (lxE T n e).2.2.1 ≤ (lxE T n e).2.2.2 ∧ (lxE T n e).2.2.2 ≤ n ∧ ((lxE T n e).1 = 21 → (lxE T n e).2.2.1 = n) ∧ ((lxE T n e).1 ≠ 21 → e + 1 ≤ (lxE T n e).2.2.2) := by
  have h1 := runP_le blB T n (n - e) e h
  have h2 := runP_ge blB T n (n - e) e
  obtain ⟨b1, b2, b3, b4, b5, b6⟩ := lxN_b (T := T) h1
  unfold lxE
  refine ⟨b1, by rw [b2]; exact h2, by rw [b2]; exact h1, by rw [b2]; exact b3, b4, fun a => by rw [b2]; have := b5.mp a; omega, fun a => ?_⟩
  have : ¬ n ≤ runP blB T n (n - e) e := fun c => a (b5.mpr c)
  have := b6 (by omega)
  omega
def lxs (T : Nat → Nat) (n : Nat) : Nat → Nat → List Tk
  | 0, _ => []
  | f + 1, e => if (lxE T n e).1 = 21 then [] else ((lxE T n e).1, (lxE T n e).2.1, (lxE T n e).2.2.1) :: lxs T n f (lxE T n e).2.2.2
theorem lxs_cg {T : Nat → Nat} {n : Nat} : ∀ f f' e, e ≤ n → n - e ≤ f → n - e ≤ f' → lxs T n f e = lxs T n f' e
  | 0, 0, e, _, _, _ => rfl
  | 0, f' + 1, e, h, h1, h2 => by
    have b := lxE_b (T := T) h
    have : (lxE T n e).1 = 21 := by
      rcases Decidable.em ((lxE T n e).1 = 21) with q | q
      · exact q
      · have := b.2.2.2.2.2.2 q; omega
    unfold lxs; rw [if_pos this]
  | f + 1, 0, e, h, h1, h2 => by
    have b := lxE_b (T := T) h
    have : (lxE T n e).1 = 21 := by
      rcases Decidable.em ((lxE T n e).1 = 21) with q | q
      · exact q
      · have := b.2.2.2.2.2.2 q; omega
    unfold lxs; rw [if_pos this]
  | f + 1, f' + 1, e, h, h1, h2 => by
    have b := lxE_b (T := T) h
    unfold lxs
    split
    next => rfl
    next q =>
      have := b.2.2.2.2.2.2 q
      rw [lxs_cg f f' (lxE T n e).2.2.2 b.2.2.2.2.1 (by omega) (by omega)]
/-- all tokens from a place on -/
def tks (T : Nat → Nat) (n e : Nat) : List Tk := lxs T n (n - e) e
theorem tks_end {T : Nat → Nat} {n e : Nat} (q : (lxE T n e).1 = 21) : tks T n e = [] := by
  unfold tks
  cases n - e with
  | zero => rfl
  | succ f => unfold lxs; rw [if_pos q]
theorem tks_cons {T : Nat → Nat} {n e : Nat} (h : e ≤ n) (q : ¬ (lxE T n e).1 = 21) : tks T n e = ((lxE T n e).1, (lxE T n e).2.1, (lxE T n e).2.2.1) :: tks T n (lxE T n e).2.2.2 := by
  have b := lxE_b (T := T) h
  have b2 := b.2.2.2.2.2.2 q
  unfold tks
  rw [lxs_cg (n - e) ((n - e - 1) + 1) e h (Nat.le_refl _) (by omega)]
  show (if (lxE T n e).1 = 21 then [] else ((lxE T n e).1, (lxE T n e).2.1, (lxE T n e).2.2.1) :: lxs T n (n - e - 1) (lxE T n e).2.2.2) = _
  rw [if_neg q, lxs_cg (n - e - 1) (n - (lxE T n e).2.2.2) _ b.2.2.2.2.1 (by omega) (Nat.le_refl _)]
theorem tks_len {T : Nat → Nat} {n : Nat} : ∀ f e, n - e ≤ f → e ≤ n → (tks T n e).length ≤ n - e
  | 0, e, h, h2 => by
    have b := lxE_b (T := T) h2
    rcases Decidable.em ((lxE T n e).1 = 21) with q | q
    · rw [tks_end q]; exact Nat.zero_le _
    · have := b.2.2.2.2.2.2 q; omega
  | f + 1, e, h, h2 => by
    have b := lxE_b (T := T) h2
    rcases Decidable.em ((lxE T n e).1 = 21) with q | q
    · rw [tks_end q]; exact Nat.zero_le _
    · have b2 := b.2.2.2.2.2.2 q
      rw [tks_cons h2 q, List.length_cons]
      have := tks_len (T := T) f (lxE T n e).2.2.2 (by omega) b.2.2.2.2.1
      omega
def hdK (ts : List Tk) : Nat := match ts with
  | [] => 21
  | t :: _ => t.1
def hdS (n : Nat) (ts : List Tk) : Nat := match ts with
  | [] => n
  | t :: _ => t.2.2
def hdN (ts : List Tk) : Nat := match ts with
  | [] => 0
  | t :: _ => t.2.1
theorem hd_tks {T : Nat → Nat} {n e : Nat} (h : e ≤ n) : hdK (tks T n e) = (lxE T n e).1 ∧ hdS n (tks T n e) = (lxE T n e).2.2.1 ∧ (hdK (tks T n e) = 20 → hdN (tks T n e) = (lxE T n e).2.1) ∧ (tks T n e).tail = tks T n (lxE T n e).2.2.2 := by
  have b := lxE_b (T := T) h
  rcases Decidable.em ((lxE T n e).1 = 21) with q | q
  · have e1 : (lxE T n e).2.2.2 = n := by have := b.2.2.2.2.2.1 q; omega
    have e2 : tks T n n = [] := by unfold tks; rw [Nat.sub_self]; rfl
    rw [tks_end q, e1, e2]
    exact ⟨q.symm, (b.2.2.2.2.2.1 q).symm, fun c => absurd c (by decide), rfl⟩
  · rw [tks_cons h q]
    exact ⟨rfl, rfl, fun _ => rfl, rfl⟩
