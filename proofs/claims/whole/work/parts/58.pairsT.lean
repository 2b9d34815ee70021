/-! pair: wage -/
/-- coins of these sorts, one after the other -/
def hF (f h : Nat → Nat) : Nat → Nat → Nat
  | 0 => h
  | i + 1 => up1 (hF f h i) (f i) (hF f h i (f i) + 1)
def rmF (f h : Nat → Nat) : Nat → Bool
  | 0 => true
  | i + 1 => rmF f h i && decide (hF f h i (f i) < 99)
def cnF (f : Nat → Nat) (n s : Nat) : Nat := sumN (fun i => if f i = s then 1 else 0) n
theorem hF_cn (f h : Nat → Nat) : ∀ n s, hF f h n s = h s + cnF f n s
  | 0, _ => rfl
  | n + 1, s => by
    show up1 (hF f h n) (f n) (hF f h n (f n) + 1) s = h s + (cnF f n s + if f n = s then 1 else 0)
    unfold up1
    by_cases q : s = f n
    · rw [if_pos q, if_pos q.symm, hF_cn f h n (f n), q]; omega
    · rw [if_neg q, if_neg (fun c => q c.symm), hF_cn f h n s]; omega
theorem cnF_up (f : Nat → Nat) (n s : Nat) : cnF f n s ≤ cnF f (n + 1) s := Nat.le_add_right _ _
theorem rmF_iff (f h : Nat → Nat) : ∀ n, rmF f h n = true ↔ ∀ i, i < n → h (f i) + cnF f n (f i) ≤ 99
  | 0 => ⟨fun _ i hi => absurd hi (by omega), fun _ => rfl⟩
  | n + 1 => by
    have e : cnF f (n + 1) (f n) = cnF f n (f n) + 1 := by
      show cnF f n (f n) + (if f n = f n then 1 else 0) = _
      rw [if_pos rfl]
    constructor
    · intro q i hi
      have q2 := (Bool.and_eq_true _ _).mp (show (rmF f h n && decide (hF f h n (f n) < 99)) = true from q)
      have q3 := of_decide_eq_true q2.2
      rw [hF_cn] at q3
      by_cases c : f i = f n
      · rw [c, e]; omega
      · have := (rmF_iff f h n).mp q2.1 i (by
          rcases Nat.lt_or_ge i n with a | a
          · exact a
          · rw [show i = n by omega] at c; exact absurd rfl c)
        have e2 : cnF f (n + 1) (f i) = cnF f n (f i) := by
          show cnF f n (f i) + (if f n = f i then 1 else 0) = _
          rw [if_neg (fun w => c w.symm)]; omega
        rw [e2]; exact this
    · intro q
      show (rmF f h n && decide (hF f h n (f n) < 99)) = true
      rw [Bool.and_eq_true]
      refine ⟨(rmF_iff f h n).mpr (fun i hi => Nat.le_trans (Nat.add_le_add_left (cnF_up f n (f i)) _) (q i (by omega))), decide_eq_true ?_⟩
      have := q n (by omega)
      rw [hF_cn]; omega
theorem rmF_dn (f h : Nat → Nat) {i : Nat} : ∀ {n : Nat}, i ≤ n → rmF f h n = true → rmF f h i = true
  | 0, a, b => by rw [show i = 0 by omega]; rfl
  | n + 1, a, b => by
    rcases Nat.lt_or_ge i (n + 1) with c | c
    · exact rmF_dn f h (n := n) (by omega) ((Bool.and_eq_true _ _).mp (show (rmF f h n && _) = true from b)).1
    · rw [show i = n + 1 by omega]; exact b
theorem sumN_rev (G : Nat → Nat) : ∀ n, n ≤ 4 → sumN (fun i => G (n - 1 - i)) n = sumN G n
  | 0, _ => rfl
  | 1, _ => rfl
  | 2, _ => by show 0 + G 1 + G 0 = 0 + G 0 + G 1; omega
  | 3, _ => by show 0 + G 2 + G 1 + G 0 = 0 + G 0 + G 1 + G 2; omega
  | 4, _ => by show 0 + G 3 + G 2 + G 1 + G 0 = 0 + G 0 + G 1 + G 2 + G 3; omega
theorem cnF_rev (f : Nat → Nat) {n : Nat} (hn : n ≤ 4) (s : Nat) : cnF (fun i => f (n - 1 - i)) n s = cnF f n s := sumN_rev (fun i => if f i = s then 1 else 0) n hn
theorem hF_rev (f h : Nat → Nat) {n : Nat} (hn : n ≤ 4) (s : Nat) : hF (fun i => f (n - 1 - i)) h n s = hF f h n s := by rw [hF_cn, hF_cn, cnF_rev f hn]
theorem rmF_rev (f h : Nat → Nat) {n : Nat} (hn : n ≤ 4) : rmF (fun i => f (n - 1 - i)) h n = rmF f h n := by
  rw [Bool.eq_iff_iff, rmF_iff, rmF_iff]
  constructor
  · intro q i hi
    have := q (n - 1 - i) (by omega)
    rw [cnF_rev f hn, show n - 1 - (n - 1 - i) = i by omega] at this
    exact this
  · intro q i hi
    have := q (n - 1 - i) (by omega)
    rw [cnF_rev f hn]
    exact this
theorem hF_bd {f h : Nat → Nat} {b : Nat} (hb : Bd b h) (n : Nat) : Bd (b + n) (hF f h n) := by
  induction n with
  | zero => exact hb
  | succ n ih =>
    refine fun s hs => ?_
    have := ih s hs
    show up1 (hF f h n) (f n) (hF f h n (f n) + 1) s ≤ _
    unfold up1
    split
    next c => rw [← c]; omega
    next => omega
theorem hF_b99 {f h : Nat → Nat} (hb : Bd 99 h) {n : Nat} (hr : rmF f h n = true) : Bd 99 (hF f h n) := by
  induction n with
  | zero => exact hb
  | succ n ih =>
    refine fun s hs => ?_
    have q2 := (Bool.and_eq_true _ _).mp (show (rmF f h n && decide (hF f h n (f n) < 99)) = true from hr)
    have q3 := of_decide_eq_true q2.2
    have := ih q2.1 s hs
    show up1 (hF f h n) (f n) (hF f h n (f n) + 1) s ≤ _
    unfold up1
    split
    next c => omega
    next => omega
/-- the sorts of a way, the last one first -/
def sN (ns w j : Nat) : Nat := w / ns ^ j % ns
def bhN (ns w : Nat) : Nat → Nat
  | 0 => 6
  | j + 1 => sN ns w j
def okS (ns w : Nat) : Nat → Bool
  | 0 => true
  | j + 1 => okS ns w j && Nat.ble (sN ns w j) (bhN ns w j)
def dS (ns w : Nat) : Nat → Nat
  | 0 => 0
  | j + 1 => dS ns w j + 10 ^ j * (sN ns w j + 1)
def dM (f : Nat → Nat) : Nat → Nat
  | 0 => 0
  | i + 1 => 10 * dM f i + f i + 1
def rwN (ns n w : Nat) : Nat → Nat := fun i => sN ns w (n - 1 - i)
theorem dM_dS (ns w : Nat) : ∀ n, n ≤ 4 → dM (rwN ns n w) n = dS ns w n
  | 0, _ => rfl
  | 1, _ => by show 10 * 0 + sN ns w 0 + 1 = 0 + 1 * (sN ns w 0 + 1); omega
  | 2, _ => by show 10 * (10 * 0 + sN ns w 1 + 1) + sN ns w 0 + 1 = 0 + 1 * (sN ns w 0 + 1) + 10 * (sN ns w 1 + 1); omega
  | 3, _ => by show 10 * (10 * (10 * 0 + sN ns w 2 + 1) + sN ns w 1 + 1) + sN ns w 0 + 1 = 0 + 1 * (sN ns w 0 + 1) + 10 * (sN ns w 1 + 1) + 100 * (sN ns w 2 + 1); omega
  | 4, _ => by show 10 * (10 * (10 * (10 * 0 + sN ns w 3 + 1) + sN ns w 2 + 1) + sN ns w 1 + 1) + sN ns w 0 + 1 = 0 + 1 * (sN ns w 0 + 1) + 10 * (sN ns w 1 + 1) + 100 * (sN ns w 2 + 1) + 1000 * (sN ns w 3 + 1); omega
theorem okS_dn {ns w j : Nat} : ∀ {n : Nat}, j ≤ n → okS ns w n = true → okS ns w j = true
  | 0, a, _ => by rw [show j = 0 by omega]; rfl
  | n + 1, a, b => by
    rcases Nat.lt_or_ge j (n + 1) with c | c
    · exact okS_dn (n := n) (by omega) ((Bool.and_eq_true _ _).mp (show (okS ns w n && _) = true from b)).1
    · rw [show j = n + 1 by omega]; exact b
/-- the next row that does not fall: its place -/
def kfN (r : Nat → Nat) (ns : Nat) : Nat → Option Nat
  | 0 => none
  | k + 1 => if r k < ns - 1 then some k else kfN r ns k
def nrN (r : Nat → Nat) (k : Nat) : Nat → Nat := fun i => if i < k then r i else r k + 1
def codN (ns : Nat) (r : Nat → Nat) : Nat → Nat
  | 0 => 0
  | i + 1 => codN ns r i * ns + r i
def noB (ns n : Nat) : Nat → Nat → Bool
  | 0, _ => true
  | m + 1, w => !(okS ns w n) && noB ns n m (w + 1)
def eqB (r q : Nat → Nat) : Nat → Bool
  | 0 => true
  | i + 1 => Nat.beq (r i) (q i) && eqB r q i
def nxB (ns n w : Nat) : Bool := match kfN (rwN ns n w) ns n with
  | none => noB ns n (ns ^ n - (w + 1)) (w + 1)
  | some k => Nat.ble (w + 1) (codN ns (nrN (rwN ns n w) k) n) && (Nat.ble (codN ns (nrN (rwN ns n w) k) n + 1) (ns ^ n) && (okS ns (codN ns (nrN (rwN ns n w) k) n) n && (eqB (rwN ns n (codN ns (nrN (rwN ns n w) k) n)) (nrN (rwN ns n w) k) n && noB ns n (codN ns (nrN (rwN ns n w) k) n - (w + 1)) (w + 1))))
def alB (ns n : Nat) : Nat → Bool
  | 0 => true
  | w + 1 => (!(okS ns w n) || nxB ns n w) && alB ns n w
theorem alB_all : ∀ ns, ns ≤ 6 → ∀ n, n ≤ 4 → alB ns n (ns ^ n) = true := by decide +kernel
theorem alB_at {ns n : Nat} : ∀ {m w : Nat}, alB ns n m = true → w < m → okS ns w n = true → nxB ns n w = true
  | 0, w, _, h, _ => absurd h (by omega)
  | m + 1, w, a, h, ok => by
    have q := (Bool.and_eq_true _ _).mp (show ((!(okS ns m n) || nxB ns n m) && alB ns n m) = true from a)
    rcases Nat.lt_or_ge w m with c | c
    · exact alB_at q.2 c ok
    · have e : w = m := by omega
      subst e
      have q1 := q.1
      rw [ok] at q1
      exact q1
theorem noB_at {ns n : Nat} : ∀ {m w v : Nat}, noB ns n m w = true → w ≤ v → v < w + m → okS ns v n = false
  | 0, w, v, _, a, b => absurd a (by omega)
  | m + 1, w, v, h, a, b => by
    have q := (Bool.and_eq_true _ _).mp (show (!(okS ns w n) && noB ns n m (w + 1)) = true from h)
    rcases Nat.lt_or_ge w v with c | c
    · exact noB_at q.2 c (by omega)
    · rw [show v = w by omega]
      have := q.1
      cases e : okS ns w n with
      | false => rfl
      | true => rw [e] at this; cases this
theorem eqB_at {r q : Nat → Nat} : ∀ {n i : Nat}, eqB r q n = true → i < n → r i = q i
  | 0, i, _, h => absurd h (by omega)
  | n + 1, i, a, h => by
    have w := (Bool.and_eq_true _ _).mp (show (Nat.beq (r n) (q n) && eqB r q n) = true from a)
    rcases Nat.lt_or_ge i n with c | c
    · exact eqB_at w.2 c
    · rw [show i = n by omega]; exact Nat.eq_of_beq_eq_true w.1
/-- the row behind -/
theorem nx_none {ns n w : Nat} (hn : n ≤ 4) (h6 : ns ≤ 6) (hw : w < ns ^ n) (ok : okS ns w n = true) (e : kfN (rwN ns n w) ns n = none) : ∀ v, w < v → v < ns ^ n → okS ns v n = false := by
  have h := alB_at (alB_all ns h6 n hn) hw ok
  unfold nxB at h
  rw [e] at h
  exact fun v a b => noB_at h a (by omega)
theorem nx_some {ns n w k : Nat} (hn : n ≤ 4) (h6 : ns ≤ 6) (hw : w < ns ^ n) (ok : okS ns w n = true) (e : kfN (rwN ns n w) ns n = some k) : ∃ v, w < v ∧ v < ns ^ n ∧ okS ns v n = true ∧ (∀ i, i < n → rwN ns n v i = nrN (rwN ns n w) k i) ∧ ∀ u, w < u → u < v → okS ns u n = false := by
  have h := alB_at (alB_all ns h6 n hn) hw ok
  unfold nxB at h
  rw [e] at h
  have h := h
  rw [Bool.and_eq_true, Bool.and_eq_true, Bool.and_eq_true, Bool.and_eq_true] at h
  have a1 := Nat.ble_eq.mp h.1
  have a2 := Nat.ble_eq.mp h.2.1
  exact ⟨_, a1, a2, h.2.2.1, fun i hi => eqB_at h.2.2.2.1 hi, fun u b1 b2 => noB_at h.2.2.2.2 b1 (by omega)⟩
theorem foldA_id {α : Type} {f : Nat → α → α} : ∀ (n i : Nat) (a : α), (∀ v, i ≤ v → v < i + n → ∀ a, f v a = a) → foldA f n i a = a
  | 0, i, a, _ => rfl
  | n + 1, i, a, h => by
    rw [foldA_s, h i (by omega) (by omega)]
    exact foldA_id n (i + 1) a (fun v a b => h v (by omega) (by omega))
def wgF (S : AS) (p n k : Nat) (w : Nat) (a : I2) : I2 := if okS (sNs S) w n = true ∧ rmF (sN (sNs S) w) (sHas S p) n = true then (if iN (oftA S k (hF (sN (sNs S) w) (sHas S p) n)) ≤ a.2 then a else (iN (dS (sNs S) w n), iN (oftA S k (hF (sN (sNs S) w) (sHas S p) n)))) else a
theorem powb {ns n : Nat} (h6 : ns ≤ 6) (hn : n ≤ 4) : ns ^ n ≤ 1296 := Nat.le_trans (Nat.pow_le_pow_left h6 n) (Nat.pow_le_pow_right (n := 6) (by omega) hn)
theorem sN_lt {ns : Nat} (h : 0 < ns) (w j : Nat) : sN ns w j < ns := Nat.mod_lt _ h
