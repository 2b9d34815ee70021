/-! the reference's reading of an expression, on tokens: sy (tokens, wants, may not, held, out) -/
def rkN (s : Nat) : Nat := if s = 0 then 0 else if s = 11 then 1 else if s = 12 then 2 else if s = 13 then 3 else if s ≤ 15 then 4 else if s ≤ 17 then 5 else if s = 18 then 6 else 7
def opn : List Nat → Nat
  | [] => 0
  | s :: H => opn H + (if s = 0 ∨ s = 13 ∨ s = 19 then 1 else 0)
def unw (k : Nat) : List Nat → List Nat → List Nat × List Nat
  | [], o => ([], o)
  | s :: H, o => if k ≤ rkN s then unw k H (o ++ [s]) else (s :: H, o)
def tpB (H : List Nat) : Nat := match H with
  | [] => 0
  | s :: _ => rkN s
def sgN (k : Nat) : Nat := if k = 3 then 11 else if k = 4 then 12 else if k = 18 then 14 else if k = 19 then 15 else if k = 15 then 16 else if k = 16 then 17 else if k = 17 then 18 else 0
def lsN (s : Nat) : Nat := if rkN s = 4 then 5 else rkN s
def cdK (t : Tk) : Nat := if t.1 = 20 then 100000 + t.2.1 else t.1 - 6
def sgU (k : Nat) : Nat := if k = 5 then 13 else if k = 16 then 19 else 0
def sy : List Tk → Bool → Bool → List Nat → List Nat → Option (List Nat) × List Tk
  | [], _, _, _, _ => (none, [])
  | t :: ts, true, m, H, o =>
    if t.1 = 20 ∨ (6 ≤ t.1 ∧ t.1 ≤ 11) then sy ts false m (unw 7 H (o ++ [cdK t])).1 (unw 7 H (o ++ [cdK t])).2
    else if (t.1 = 5 ∧ m = true) ∨ t.1 = 16 ∨ t.1 = 12 then
      (if opn H = 5 then (none, t :: ts) else sy ts true (!(Nat.beq t.1 16)) (sgU t.1 :: H) o)
    else (none, t :: ts)
  | t :: ts, false, m, H, o =>
    if t.1 = 14 then (if (unw 1 H o).1 = [] then (some (unw 1 H o).2, ts) else (none, t :: ts))
    else if t.1 = 13 then
      (match (unw 1 H o).1 with
       | [] => (none, t :: ts)
       | _ :: H' => sy ts false m (unw 7 H' (unw 1 H o).2).1 (unw 7 H' (unw 1 H o).2).2)
    else if sgN t.1 = 0 then (none, t :: ts)
    else if rkN (sgN t.1) = 4 ∧ tpB (unw (lsN (sgN t.1)) H o).1 = 4 then (none, t :: ts)
    else sy ts true (decide (sgN t.1 ≤ 12)) (sgN t.1 :: (unw (lsN (sgN t.1)) H o).1) (unw (lsN (sgN t.1)) H o).2
theorem unw_lo {k : Nat} {H o : List Nat} (hk : 0 < k) (h : tpB H < k) : unw k H o = (H, o) := by
  cases H with
  | nil => rfl
  | cons s H =>
    show (if k ≤ rkN s then unw k H (o ++ [s]) else (s :: H, o)) = _
    have : rkN s < k := h
    rw [if_neg (by omega)]
theorem unw_hi {k s : Nat} {H o : List Nat} (h : k ≤ rkN s) : unw k (s :: H) o = unw k H (o ++ [s]) := by
  show (if k ≤ rkN s then unw k H (o ++ [s]) else (s :: H, o)) = _
  rw [if_pos h]
theorem unw_unw {k j : Nat} (hkj : k ≤ j) : ∀ (H o : List Nat), unw k (unw j H o).1 (unw j H o).2 = unw k H o
  | [], o => rfl
  | s :: H, o => by
    by_cases q : j ≤ rkN s
    · rw [unw_hi q, unw_hi (Nat.le_trans hkj q)]; exact unw_unw hkj H (o ++ [s])
    · have e : unw j (s :: H) o = (s :: H, o) := by
        show (if j ≤ rkN s then unw j H (o ++ [s]) else (s :: H, o)) = _
        rw [if_neg q]
      rw [e]
theorem unw_tp {k : Nat} : ∀ (H o : List Nat), 0 < k → tpB (unw k H o).1 < k
  | [], o, h => h
  | s :: H, o, h => by
    by_cases q : k ≤ rkN s
    · rw [unw_hi q]; exact unw_tp H (o ++ [s]) h
    · have e : unw k (s :: H) o = (s :: H, o) := by
        show (if k ≤ rkN s then unw k H (o ++ [s]) else (s :: H, o)) = _
        rw [if_neg q]
      rw [e]; show rkN s < k; omega
theorem sy_m : ∀ (ts : List Tk) (m m' : Bool) (H o : List Nat), sy ts false m H o = sy ts false m' H o
  | [], _, _, _, _ => rfl
  | t :: ts, m, m', H, o => by
    unfold sy
    rcases (unw 1 H o) with ⟨H1, o1⟩
    cases H1 with
    | nil => rfl
    | cons s H' =>
      show (if t.1 = 14 then _ else if t.1 = 13 then sy ts false m (unw 7 H' o1).1 (unw 7 H' o1).2 else _) = (if t.1 = 14 then _ else if t.1 = 13 then sy ts false m' (unw 7 H' o1).1 (unw 7 H' o1).2 else _)
      rw [sy_m ts m m']
/-- how far the sign that comes unwinds -/
def lstK (k : Nat) : Nat := if k = 17 then 6 else if k = 15 ∨ k = 16 ∨ k = 18 ∨ k = 19 then 5 else if k = 4 then 2 else if k = 3 ∨ k = 13 ∨ k = 14 then 1 else 0
theorem sy_n {ts : List Tk} {t : Tk} {m : Bool} {H o : List Nat} : sy (t :: ts) false m H o = if t.1 = 14 then (if (unw 1 H o).1 = [] then (some (unw 1 H o).2, ts) else (none, t :: ts))
    else if t.1 = 13 then
      (match (unw 1 H o).1 with
       | [] => (none, t :: ts)
       | _ :: H' => sy ts false m (unw 7 H' (unw 1 H o).2).1 (unw 7 H' (unw 1 H o).2).2)
    else if sgN t.1 = 0 then (none, t :: ts)
    else if rkN (sgN t.1) = 4 ∧ tpB (unw (lsN (sgN t.1)) H o).1 = 4 then (none, t :: ts)
    else sy ts true (decide (sgN t.1 ≤ 12)) (sgN t.1 :: (unw (lsN (sgN t.1)) H o).1) (unw (lsN (sgN t.1)) H o).2 := rfl
theorem sgN_ls (k : Nat) (h : sgN k ≠ 0) : lsN (sgN k) = lstK k ∧ 0 < lstK k := by
  have key : k = 3 ∨ k = 4 ∨ k = 18 ∨ k = 19 ∨ k = 15 ∨ k = 16 ∨ k = 17 := by
    unfold sgN at h
    repeat (first | (split at h) | omega)
  rcases key with rfl | rfl | rfl | rfl | rfl | rfl | rfl <;> decide
theorem sy_cg {k : Nat} {ts : List Tk} {m m' : Bool} {H1 o1 H2 o2 : List Nat} (hl : lstK (hdK ts) ≤ k) (e : unw k H1 o1 = unw k H2 o2) : sy ts false m H1 o1 = sy ts false m' H2 o2 := by
  cases ts with
  | nil => rfl
  | cons t ts =>
    have hl : lstK t.1 ≤ k := hl
    have E : ∀ j, j ≤ k → unw j H1 o1 = unw j H2 o2 := fun j hj => by rw [← unw_unw hj H1 o1, ← unw_unw hj H2 o2, e]
    rw [sy_m (t :: ts) m m' H1 o1, sy_n, sy_n]
    by_cases a : t.1 = 14
    · rw [if_pos a, if_pos a, E 1 (by rw [a] at hl; exact hl)]
    · rw [if_neg a, if_neg a]
      by_cases b : t.1 = 13
      · rw [if_pos b, if_pos b, E 1 (by rw [b] at hl; exact hl)]
      · rw [if_neg b, if_neg b]
        by_cases c : sgN t.1 = 0
        · rw [if_pos c, if_pos c]
        · rw [if_neg c, if_neg c]
          have := sgN_ls t.1 c
          rw [E (lsN (sgN t.1)) (by rw [this.1]; exact hl)]
/-- a token that no sign is -/
theorem sy_bad {ts : List Tk} {m : Bool} {H o : List Nat} (h : hdK ts ≠ 14) (h2 : hdK ts ≠ 13) (h3 : sgN (hdK ts) = 0) : sy ts false m H o = (none, ts) := by
  cases ts with
  | nil => rfl
  | cons t ts =>
    have h : ¬ t.1 = 14 := h
    have h2 : ¬ t.1 = 13 := h2
    have h3 : sgN t.1 = 0 := h3
    rw [sy_n, if_neg h, if_neg h2, if_pos h3]
/-- heights -/
def hL : List Nat → Nat → Nat → Prop
  | [], h, h' => h = h'
  | c :: cs, h, h' => ∃ h1, hok c h h1 ∧ hL cs h1 h'
theorem hL_app : ∀ {a b : List Nat} {h h1 h2 : Nat}, hL a h h1 → hL b h1 h2 → hL (a ++ b) h h2
  | [], b, h, h1, h2, p, q => by have : h = h1 := p; rw [this]; exact q
  | c :: a, b, h, h1, h2, p, q => by
    obtain ⟨h3, p1, p2⟩ := p
    exact ⟨h3, p1, hL_app p2 q⟩
theorem hL_one {c h h' : Nat} (p : hok c h h') : hL [c] h h' := ⟨h', p, rfl⟩
def NmO (ts : List Tk) : Prop := ∀ t ∈ ts, t.1 = 20 → t.2.1 < 100000
theorem NmO.sf {ts r : List Tk} (h : NmO ts) (s : r <:+ ts) : NmO r := fun t ht => h t (s.subset ht)
theorem sf_tl {t : Tk} {ts : List Tk} : ts <:+ t :: ts := List.suffix_cons t ts
