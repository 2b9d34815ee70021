/-! pairs: purse, all, often, buy -/
theorem shl_N : ∀ s, s < 6 → (iN 1) <<< (iN s &&& iN 31) = iN (2 ^ s) := by decide +kernel
theorem sumN_zero {G : Nat → Nat} {n : Nat} : ∀ (m : Nat), (∀ s, n ≤ s → s < n + m → G s = 0) → sumN G (n + m) = sumN G n
  | 0, _ => rfl
  | m + 1, h => by
    show sumN G (n + m) + G (n + m) = _
    rw [sumN_zero m (fun s a b => h s a (by omega)), h (n + m) (by omega) (by omega)]; omega
theorem sumN6 {G : Nat → Nat} {n : Nat} (hn : n ≤ 6) (h : ∀ s, n ≤ s → s < 6 → G s = 0) : sumN G 6 = sumN G n := by
  have := sumN_zero (G := G) (n := n) (6 - n) (fun s a b => h s a (by omega))
  rw [show n + (6 - n) = 6 by omega] at this
  exact this
theorem bset_sum (f : Nat → Bool) : ∀ n, bset f n = sumN (fun s => if f s then 2 ^ s else 0) n
  | 0 => rfl
  | n + 1 => by show bset f n + _ = sumN _ n + _; rw [bset_sum f n]
theorem bset6 {f : Nat → Bool} {n : Nat} (hn : n ≤ 6) (h : ∀ s, n ≤ s → s < 6 → f s = false) : bset f 6 = bset f n := by
  rw [bset_sum, bset_sum]
  exact sumN6 hn (fun s a b => by rw [h s a b]; rfl)
theorem lay_pos {k : Nat} {h r l : Nat → Nat} (hq : layN k h r = some l) (hk : 0 < k) : bset (fun s => decide (l s < h s)) 6 ≠ 0 := fun e0 => by
  have hsm := layN_sum hq
  have hall : ∀ s, s < 6 → l s = h s := fun s hs6 => by
    have hb : ∀ n, n ≤ 6 → bset (fun s => decide (l s < h s)) n = 0 → ∀ s, s < n → ¬ l s < h s := by
      intro n
      induction n with
      | zero => intro _ _ s hs; omega
      | succ n ihn =>
        intro hn6 e s hs
        unfold bset at e
        have e1 : bset (fun s => decide (l s < h s)) n = 0 := by omega
        by_cases q : s = n
        · subst q
          intro w
          rw [decide_eq_true w, if_pos rfl] at e
          have := Nat.two_pow_pos s
          omega
        · exact ihn (by omega) e1 s (by omega)
    have := hb 6 (Nat.le_refl _) e0 s hs6
    have := layN_le hq s
    omega
  have : sum6 l = sum6 h := by unfold sum6; rw [hall 0 (by omega), hall 1 (by omega), hall 2 (by omega), hall 3 (by omega), hall 4 (by omega), hall 5 (by omega)]
  omega
section PB
variable {g : Gt} {d : Nat} {z : Zs} {I J : Is} {S : AS}
theorem purse_l {p : Nat} {K : Int32 → Is → Prop} (hs : GS g) (hz : Sh z) (hp : p < 5) (hnp : I 101 4 = iN p) (hK : ∀ J, Of [105] I J → (∀ i, i < 6 → J 105 (6 * p + i) = iN 0) → (∀ i, i / 6 ≠ p → J 105 i = I 105 i) → K (iN p) (up2 J 101 4 (iN (p + 1)))) : ∀ (n s : Nat) (J : Is), s + n = 6 → Of [105] I J → (∀ i, i < s → J 105 (6 * p + i) = iN 0) → (∀ i, i / 6 ≠ p → J 105 i = I 105 i) → WPc g m12_purse d 0 0 13 [(0, .ref 101), (1, .int (iN s))] [] z J (Qi z K)
  | 0, s, J, e, hJ, h1, h2 => by
    obtain rfl : s = 6 := by omega
    refine v12_purse_13 hs hz ⟨fun _ => ?_, fun c => absurd ((iN_le (by omega) (by omega)).mpr (Nat.le_refl _)) c⟩
    rw [hJ 101 (by simp), hnp, iN_add, iN_sub (by omega)]
    exact hK J hJ h1 h2
  | n + 1, s, J, e, hJ, h1, h2 => by
    refine v12_purse_13 hs hz ⟨fun c => ?_, fun c => ?_⟩
    · rw [iN_le (by omega) (by omega)] at c; omega
    · rw [hJ 101 (by simp), hnp, iN_mul, iN_add, iN_add, iN_toN (by omega)]
      refine ⟨inB_n (by omega) (by omega), purse_l hs hz hp hnp hK n (s + 1) _ (by omega) (hJ.upt (by simp) _ _) (fun i hi => ?_) (fun i hi => ?_)⟩
      · rw [up2_ra]; unfold up1; split
        · rfl
        · exact h1 i (by omega)
      · rw [up2_ra, up1_o _ (by omega)]; exact h2 i hi
theorem P_purse (hs : GS g) (o : OKS S) : Pair g S m11_purse m12_purse [] := by
  have p5 := o.1.2.1
  by_cases h1 : sNp S = 5
  · refine ⟨iM 4, S, o, fun d z I K hz c hK => v11_purse hs hz ⟨fun q => ?_, fun _ => hK.i c⟩, fun d z I K hz m hK => v12_purse hs hz (gT (by rw [m.np, h1]) (hK.i m))⟩
    rw [c.np, iN_lt (by omega) (by omega)] at q; omega
  · have o1 : OKS (hasU S (rowU S (sNp S) (fun _ => 0))) := o.uRow (fun _ _ => Nat.zero_le _) (fun _ _ _ => rfl)
    refine ⟨iN (sNp S), scU (hasU S (rowU S (sNp S) (fun _ => 0))) 1 (sNp S + 1), ⟨⟨o.1.1, by show sNp S + 1 ≤ 5; omega, o.1.2.2⟩, o1.2⟩, fun d z I K hz c hK => ?_, fun d z I K hz m hK => ?_⟩
    · refine v11_purse hs hz ⟨fun _ => ⟨sNp S, by omega, c.np, ?_⟩, fun q => by rw [c.np] at q; exact absurd ((iN_lt (by omega) (by omega)).mpr (by omega)) q⟩
      refine c_clear hs (hz.purse (by omega)) (fun J hJ hr => ?_)
      have e8 : J 8 = I 8 := hJ 8 (by simp; omega)
      have c1 : CI z J (hasU S (rowU S (sNp S) (fun _ => 0))) := c.uRow hz (by omega) (fun k _ hk => hJ k (by simp; exact hk)) hr
      rw [e8, c.np, iN_add, iN_sub (by omega)]
      refine hK _ (c1.scal hz (fun k _ h8 => up2_ro J h8 _ _) (by omega) ?_) (fun k a b => ?_)
      · have h := c.1
        simp only [up2, if_true]
        rw [e8]
        exact ⟨h.1, rfl, h.2.2.1, h.2.2.2.1, h.2.2.2.2.1⟩
      · rw [up2_ro _ (by omega)]; exact hJ k (by simp; omega)
    · refine v12_purse hs hz (gF (fun q => h1 ((iN_inj (by omega) (by omega)).mp (by rw [m.np] at q; exact q))) ?_)
      refine purse_l hs hz (by omega) m.np (fun J hJ h1 h2 => ?_) 6 0 I rfl (Of.rf _ _) (fun i hi => absurd hi (by omega)) (fun i hi => rfl)
      have m1 : MI J (hasU S (rowU S (sNp S) (fun _ => 0))) := m.uRow (fun k a b e => hJ k (by simp; exact e)) h1 h2
      refine hK _ (m1.scal (by omega) (fun k a b => up2_ro J (by omega) _ _) ?_ (fun j a b => ?_)) (fun k a => ?_)
      · have h := m1.1
        simp only [up2, if_true]
        exact ⟨h.1, rfl, h.2.2.1, h.2.2.2.1, h.2.2.2.2.1, h.2.2.2.2.2⟩
      · rw [up2_ra, up1_o _ (by omega)]
      · rw [up2_ro _ (by omega)]; exact hJ k (by simp; omega)
-- all
theorem c12_coinWorth {s n : Nat} {K : Int32 → Is → Prop} (hs : GS g) (hz : Sh z) (m : MI I S) (o : OKS S) (h6 : s < 6) (hn : n ≤ 1000) (hK : K (iN (wthN (S.1 1 s) (S.1 2 s) (S.1 3 s) n)) I) : Wi g m12_coinWorth d [.ref 101, .int (iN s), .int (iN n)] z I K := by
  obtain ⟨b1, b2, b3⟩ := o.2.1 s
  have fin : ∀ x, x = (if n < 2 then 3 * S.1 2 s else S.1 2 s) → WPc g m12_coinWorth d 0 0 22 [(0, .ref 101), (1, .int (iN s))] [.int (iN x)] z I (Qi z K) := fun x ex => by
    refine v12_coinWorth_22 hs hz ⟨inB_n h6 (by omega), ?_⟩
    rw [iN_toN (by omega), m.2.2.1 s, m.2.2.2.1 s, m.2.2.2.2.1 s, iN_inj (by omega) (by omega), iN_inj (by omega) (by omega), iN_add]
    unfold wthN at hK
    refine ⟨fun q => ?_, fun q => ⟨fun q2 => ?_, fun q2 => ?_⟩⟩
    · rw [if_pos q] at hK; rw [ex]; exact hK
    · rw [if_neg q, if_pos q2] at hK; rw [ex]; exact hK
    · rw [if_neg q, if_neg q2] at hK; exact hK
  refine v12_coinWorth hs hz ?_
  rw [iN_toN (by omega), m.2.2.2.1 s, iN_le (by omega) (by omega), iN_mul]
  exact ⟨fun q => ⟨inB_n h6 (by omega), fin _ (by rw [if_neg (by omega)])⟩, fun q => ⟨inB_n h6 (by omega), fin _ (by rw [if_pos (by omega)])⟩⟩
/-- what is summed up, sort by sort -/
def allG (S : AS) (h : Nat → Nat) (w : Nat) : Nat → Nat := fun s => if w = 0 then h s else if w = 1 then (if 0 < h s then 2 ^ s else 0) else h s * wthN (S.1 1 s) (S.1 2 s) (S.1 3 s) (h s)
theorem all_m {p w : Nat} {K : Int32 → Is → Prop} (hs : GS g) (hz : Sh z) (m : MI I S) (o : OKS S) (hp : p < 5) (hw : w < 3) (hK : K (iN (sumN (allG S (sHas S p) w) (sNs S))) I) : ∀ (n s : Nat), s + n = sNs S → WPc g m12_all (d + 2) 0 0 28 [(0, .ref 101), (1, .int (iN p)), (2, .int (iN w)), (3, .int (iN (sumN (allG S (sHas S p) w) s))), (4, .int (iN s))] [] z I (Qi z K)
  | 0, s, e => by
    have n6 := o.1.1
    refine v12_all_28 hs hz ⟨fun _ => ?_, fun q => ?_⟩
    · rw [show s = sNs S by omega]; exact hK
    · rw [m.ns] at q; exact absurd ((iN_le (by omega) (by omega)).mpr (by omega)) q
  | n + 1, s, e => by
    have n6 := o.1.1
    have ih := all_m (w := w) hs hz m o hp hw hK n (s + 1) (by omega)
    have hb : S.1 4 (6 * p + s) ≤ 99 := o.b p s (by omega)
    have eG : sumN (allG S (sHas S p) w) (s + 1) = sumN (allG S (sHas S p) w) s + allG S (sHas S p) w s := rfl
    have eg : allG S (sHas S p) w s = if w = 0 then sHas S p s else if w = 1 then (if 0 < sHas S p s then 2 ^ s else 0) else sHas S p s * wthN (S.1 1 s) (S.1 2 s) (S.1 3 s) (sHas S p s) := rfl
    rw [eG, eg] at ih
    refine v12_all_28 hs hz ⟨fun q => ?_, fun _ => ?_⟩
    · rw [m.ns] at q; exact absurd ((iN_le (by omega) (by omega)).mp q) (by omega)
    · rw [iN_mul, iN_add, iN_toN (by omega), m.has, iN_inj (by omega) (by omega), iN_inj (by omega) (by omega), iN_le (by omega) (by omega), shl_N s (by omega), iN_add, iN_add, iN_add, iN_add]
      refine ⟨inB_n (by omega) (by omega), fun q => ?_, fun q => ⟨fun q2 => ⟨fun q3 => ?_, fun q3 => ?_⟩, fun q2 => ?_⟩⟩
      · rw [if_pos q] at ih; exact ih
      · rw [if_neg q, if_pos q2, if_neg (by show ¬ 0 < S.1 4 (6 * p + s); omega)] at ih; exact ih
      · rw [if_neg q, if_pos q2, if_pos (by show 0 < S.1 4 (6 * p + s); omega)] at ih; exact ih
      · rw [if_neg q, if_neg q2] at ih
        refine c12_coinWorth hs hz m o (by omega) (by omega) ?_
        rw [iN_mul, iN_add]; exact ih
theorem P_all (hs : GS g) (o : OKS S) (v1 v2 : Int32) : Pair g S m11_all m12_all [.int v1, .int v2] := by
  have n6 := o.1.1
  have p5 := o.1.2.1
  by_cases h1 : inR v1 (iN 0) (iN (sNp S) - iN 1)
  · obtain ⟨p, hp, rfl⟩ := (inR_dn (by omega)).mp h1
    have hb := o.b p
    have z0 : ∀ s, sNs S ≤ s → s < 6 → sHas S p s = 0 := fun s a b => o.2.2.1.2 p s (by omega) b a
    by_cases h2 : inR v2 (iN 0) (iN 2)
    · obtain ⟨w, rfl, _, hw⟩ := (inR_nat (by omega) (by omega)).mp h2
      refine ⟨iN (sumN (allG S (sHas S p) w) (sNs S)), S, o, fun d z I K hz c hK => ?_, fun d z I K hz m hK => v12_all hs hz (gM m.np h1 (gT h2 (all_m hs hz m o (by omega) (by omega) (hK.i m) (sNs S) 0 (by omega))))⟩
      have hr := c.pu (p := p) (by omega)
      refine v11_all hs hz (gN c.np p5 (by omega) hp rfl ?_)
      obtain rfl | rfl | rfl : w = 0 ∨ w = 1 ∨ w = 2 := by omega
      · refine gT rfl (c_coins hs (hz.purse (by omega)) hr ?_)
        rw [sumN6 n6 z0]
        exact hK.i c
      · refine gF (fun q => absurd ((iN_inj (by omega) (by omega)).mp q) (by omega)) (gT rfl (c_sbits hs (hz.purse (by omega)) hr (fun s q => by have := hb s q; omega) ?_))
        rw [bset6 n6 (fun s a b => by rw [z0 s a b]; rfl), bset_sum]
        have e : (fun s => if decide (0 < sHas S p s) = true then 2 ^ s else 0) = allG S (sHas S p) 1 := by
          funext s
          show _ = (if 0 < sHas S p s then 2 ^ s else 0)
          by_cases q : 0 < sHas S p s
          · rw [if_pos q, if_pos (decide_eq_true q)]
          · rw [if_neg q, if_neg (by simpa using q)]
        rw [e]; exact hK.i c
      · refine gF (fun q => absurd ((iN_inj (by omega) (by omega)).mp q) (by omega)) (gF (fun q => absurd ((iN_inj (by omega) (by omega)).mp q) (by omega)) (gT rfl (c_worth hs hz (hz.purse (by omega)) c.so hr hb ?_)))
        rw [sumN6 (n := sNs S) n6 (fun s a b => by unfold wtN; rw [if_neg (by omega)])]
        have e : sumN (wtN (sNs S) (S.1 1) (S.1 2) (S.1 3) (sHas S p)) (sNs S) = sumN (allG S (sHas S p) 2) (sNs S) := sumN_cg (fun s hs' => by unfold wtN; rw [if_pos hs']; rfl)
        rw [e]; exact hK.i c
    · refine ⟨iM 7, S, o, fun d z I K hz c hK => ?_, fun d z I K hz m hK => v12_all hs hz (gM m.np h1 (gF h2 (hK.i m)))⟩
      refine v11_all hs hz (gN c.np p5 (by omega) hp rfl ?_)
      have nq : ∀ w, w ≤ 2 → ¬ v2 = iN w := fun w hw q => h2 (by rw [q, inR_iN (by omega) (by omega) (by omega)]; omega)
      exact gF (nq 0 (by omega)) (gF (nq 1 (by omega)) (gF (nq 2 (by omega)) (hK.i c)))
  · exact ⟨iM 5, S, o, fun d z I K hz c hK => v11_all hs hz (gNn c.np p5 h1 (hK.i c)), fun d z I K hz m hK => v12_all hs hz (gMn m.np h1 (hK.i m))⟩
-- often
theorem left_l {l : Nat → Nat} {w : Nat} {K : Int32 → Is → Prop} (hs : GS g) (hz : Sh z) (m : MI I S) (o : OKS S) (hr : Rw I 118 l) (hb : Bd 1000 l) (hK : K (iN (sumN (fun s => if w = 0 then l s else (if 0 < l s then 2 ^ s else 0)) (sNs S))) I) : ∀ (n s : Nat), s + n = sNs S → w < 100 → WPc g m12_leftNow d 0 0 4 [(0, .ref 101), (1, .int (iN w)), (2, .int (iN (sumN (fun s => if w = 0 then l s else (if 0 < l s then 2 ^ s else 0)) s))), (3, .int (iN s))] [] z I (Qi z K)
  | 0, s, e, _ => by
    have n6 := o.1.1
    refine v12_leftNow_4 hs hz ⟨fun _ => ?_, fun q => ?_⟩
    · rw [show s = sNs S by omega]; exact hK
    · rw [m.ns] at q; exact absurd ((iN_le (by omega) (by omega)).mpr (by omega)) q
  | n + 1, s, e, hw => by
    have n6 := o.1.1
    have ih := left_l (w := w) hs hz m o hr hb hK n (s + 1) (by omega) hw
    have hbs := hb s (by omega)
    have eG : sumN (fun s => if w = 0 then l s else (if 0 < l s then 2 ^ s else 0)) (s + 1) = sumN (fun s => if w = 0 then l s else (if 0 < l s then 2 ^ s else 0)) s + (if w = 0 then l s else (if 0 < l s then 2 ^ s else 0)) := rfl
    rw [eG] at ih
    refine v12_leftNow_4 hs hz ⟨fun q => ?_, fun _ => ?_⟩
    · rw [m.ns] at q; exact absurd ((iN_le (by omega) (by omega)).mp q) (by omega)
    · rw [iN_toN (by omega), hr s (by omega), iN_inj (by omega) (by omega), iN_le (by omega) (by omega), shl_N s (by omega), iN_add, iN_add, iN_add, iN_add]
      refine ⟨fun q => ⟨inB_n (by omega) (by omega), ?_⟩, fun q => ⟨inB_n (by omega) (by omega), fun q2 => ?_, fun q2 => ?_⟩⟩
      · rw [if_pos q] at ih; exact ih
      · rw [if_neg q, if_neg (by omega)] at ih; exact ih
      · rw [if_neg q, if_pos (by omega)] at ih; exact ih
theorem c_leftNow0 {l : Nat → Nat} {K : Int32 → Is → Prop} (hs : GS g) (hz : Sh z) (m : MI I S) (o : OKS S) (hr : Rw I 118 l) (hb : Bd 1000 l) (h0 : ∀ s, sNs S ≤ s → s < 6 → l s = 0) (hK : K (iN (sumN l 6)) I) : Wi g m12_leftNow d [.ref 101, .int (iN 0)] z I K := by
  refine v12_leftNow hs (left_l (w := 0) hs hz m o hr hb ?_ (sNs S) 0 (by omega) (by omega))
  rw [sumN6 o.1.1 h0] at hK
  exact hK
theorem c_leftNow1 {l : Nat → Nat} {K : Int32 → Is → Prop} (hs : GS g) (hz : Sh z) (m : MI I S) (o : OKS S) (hr : Rw I 118 l) (hb : Bd 1000 l) (h0 : ∀ s, sNs S ≤ s → s < 6 → l s = 0) (hK : K (iN (bset (fun s => decide (0 < l s)) 6)) I) : Wi g m12_leftNow d [.ref 101, .int (iN 1)] z I K := by
  refine v12_leftNow hs (left_l (w := 1) hs hz m o hr hb ?_ (sNs S) 0 (by omega) (by omega))
  rw [bset6 o.1.1 (fun s a b => by rw [h0 s a b]; rfl), bset_sum] at hK
  have e : sumN (fun s => if decide (0 < l s) = true then 2 ^ s else 0) (sNs S) = sumN (fun s => if 1 = 0 then l s else if 0 < l s then 2 ^ s else 0) (sNs S) := sumN_cg (fun s _ => by
    rw [if_neg (show ¬ 1 = 0 by omega)]
    by_cases q : 0 < l s
    · rw [if_pos q, if_pos (decide_eq_true q)]
    · rw [if_neg q, if_neg (by simpa using q)])
  rw [e] at hK
  exact hK
theorem isP {k : Int32} (h : inR k (iN 1) (iN 12)) : ∃ n, k = iN n ∧ 1 ≤ n ∧ n ≤ 12 := (inR_nat (by omega) (by omega)).mp h
theorem P_often (hs : GS g) (o : OKS S) (v1 v2 v3 : Int32) : Pair g S m11_often m12_often [.int v1, .int v2, .int v3] := by
  have n6 := o.1.1
  have p5 := o.1.2.1
  by_cases h1 : inR v1 (iN 0) (iN (sNp S) - iN 1)
  · obtain ⟨p, hp, rfl⟩ := (inR_dn (by omega)).mp h1
    have hb := o.b p
    by_cases h2 : inR v2 (iN 1) (iN 12)
    · obtain ⟨k, rfl, hk1, hk⟩ := isP h2
      by_cases h3 : inR v3 (iN 0) (iN 2)
      · obtain ⟨w, rfl, _, hw⟩ := (inR_nat (by omega) (by omega)).mp h3
        have hl : Bd 99 (leftA S k (sHas S p)) := leftA_bd hb
        have hl0 : ∀ s, sNs S ≤ s → s < 6 → leftA S k (sHas S p) s = 0 := fun s a b => by
          have h1 : leftA S k (sHas S p) s ≤ sHas S p s := oft_le s
          have h2 : sHas S p s = 0 := o.2.2.1.2 p s (by omega) b a
          omega
        refine ⟨iN (if w = 0 then oftA S k (sHas S p) else if w = 1 then sumN (leftA S k (sHas S p)) 6 else oftA S k (sHas S p) * wAt S (sLw S) k), S, o, fun d z I K hz c hK => ?_, fun d z I K hz m hK => ?_⟩
        · refine v11_often hs hz (gN c.np p5 (by omega) hp rfl (gT h2 (gT h3 (c_timesAt hs hz c (hz.purse (by omega)) (c.pu (by omega)) hb (by omega) (by omega) (fun J hJ hr => ?_)))))
          have f : FrC z I J := FrC.of hJ scr_thought
          rw [iN_inj (by omega) (by omega), iN_inj (by omega) (by omega)]
          refine ⟨fun q => ?_, fun q => ⟨fun q2 => ?_, fun q2 => ?_⟩⟩
          · rw [if_pos q] at hK; exact hK.f hz c f
          · rw [if_neg q, if_pos q2] at hK
            exact c_coins (a := 12) hs hz.thought hr (hK.f hz c f)
          · rw [if_neg q, if_neg q2] at hK
            have cJ := c.fr hz f
            rw [cJ.lw]
            refine c11_worthAt hs hz cJ o o.1.2.2.2.2.1 (fun J2 hJ2 => ?_)
            rw [iN_mul]; exact hK.f hz c (f.tr hJ2)
        · refine v12_often hs hz (gM m.np h1 (gT h2 (gT h3 (c_oftenOf hs hz m o (by omega) (by omega) (by omega) (fun J hJ hr => ?_)))))
          have mJ := m.fr hJ
          rw [iN_inj (by omega) (by omega), iN_inj (by omega) (by omega)]
          refine ⟨fun q => ?_, fun q => ⟨fun q2 => ?_, fun q2 => ?_⟩⟩
          · rw [if_pos q] at hK; exact hK.f m hJ
          · rw [if_neg q, if_pos q2] at hK
            exact c_leftNow0 hs hz mJ o hr (fun s q => by have := hl s q; omega) hl0 (hK.f m hJ)
          · rw [if_neg q, if_neg q2] at hK
            refine c12_worthOf hs hz mJ o (fun J2 hJ2 => ?_)
            rw [iN_mul]
            exact hK.f (L := [116, 117, 118, 119, 120]) m ((hJ.mo (by simp)).tr (hJ2.mo (by simp)))
      · exact ⟨iM 7, S, o, fun d z I K hz c hK => v11_often hs hz (gN c.np p5 (by omega) hp rfl (gT h2 (gF h3 (hK.i c)))), fun d z I K hz m hK => v12_often hs hz (gM m.np h1 (gT h2 (gF h3 (hK.i m))))⟩
    · exact ⟨iM 7, S, o, fun d z I K hz c hK => v11_often hs hz (gN c.np p5 (by omega) hp rfl (gF h2 (hK.i c))), fun d z I K hz m hK => v12_often hs hz (gM m.np h1 (gF h2 (hK.i m)))⟩
  · exact ⟨iM 5, S, o, fun d z I K hz c hK => v11_often hs hz (gNn c.np p5 h1 (hK.i c)), fun d z I K hz m hK => v12_often hs hz (gMn m.np h1 (hK.i m))⟩
-- buy
theorem comes_l {p : Nat} {h l : Nat → Nat} {K : Int32 → Is → Prop} (hs : GS g) (hz : Sh z) (hns : I 101 0 = iN (sNs S)) (n6 : sNs S ≤ 6) (hp : p < 5) (hl : Rw I 118 l) (hy : Rw I 120 (fun s => h s - l s)) (hb : Bd 1000 h) (hK : ∀ J, Of [105] I J → (∀ i, i < sNs S → J 105 (6 * p + i) = iN (l i)) → (∀ i, (i / 6 ≠ p ∨ sNs S ≤ i % 6) → J 105 i = I 105 i) → K (iN (bset (fun s => decide (l s < h s)) (sNs S))) J) : ∀ (n s : Nat) (J : Is), s + n = sNs S → Of [105] I J → (∀ i, i < s → J 105 (6 * p + i) = iN (l i)) → (∀ i, (i / 6 ≠ p ∨ s ≤ i % 6) → J 105 i = I 105 i) → WPc g m12_comesTrue d 0 0 4 [(0, .ref 101), (1, .int (iN p)), (2, .int (iN (bset (fun s => decide (l s < h s)) s))), (3, .int (iN s))] [] z J (Qi z K)
  | 0, s, J, e, hJ, h1, h2 => by
    obtain rfl : s = sNs S := by omega
    refine v12_comesTrue_4 hs hz ⟨fun _ => hK J hJ h1 h2, fun q => ?_⟩
    rw [hJ 101 (by simp), hns] at q; exact absurd ((iN_le (by omega) (by omega)).mpr (by omega)) q
  | n + 1, s, J, e, hJ, h1, h2 => by
    have hbs := hb s (by omega)
    have eq : J 120 s = iN (h s - l s) := by rw [hJ 120 (by simp)]; exact hy s (by omega)
    have el : J 118 s = iN (l s) := by rw [hJ 118 (by simp)]; exact hl s (by omega)
    have nx : WPc g m12_comesTrue d 0 0 4 [(0, .ref 101), (1, .int (iN p)), (2, .int (iN (bset (fun s => decide (l s < h s)) s + (if decide (l s < h s) then 2 ^ s else 0)))), (3, .int (iN (s + 1)))] [] z (up2 J 105 (6 * p + s) (iN (l s))) (Qi z K) := comes_l hs hz hns n6 hp hl hy hb hK n (s + 1) _ (by omega) (hJ.upt (by simp) _ _) (fun i hi => by
        rw [up2_ra]; unfold up1; split
        next q => rw [show i = s by omega]
        next q => exact h1 i (by omega)) (fun i hi => by
        rw [up2_ra, up1_o _ (by omega)]; exact h2 i (by omega))
    refine v12_comesTrue_4 hs hz ⟨fun q => ?_, fun _ => ?_⟩
    · rw [hJ 101 (by simp), hns] at q; exact absurd ((iN_le (by omega) (by omega)).mp q) (by omega)
    · rw [iN_toN (by omega), iN_mul, iN_add, iN_toN (by omega), eq, el, iN_le (by omega) (by omega), or_up s (by omega) _ (bset_lt _ s), iN_add]
      refine ⟨inB_n (by omega) (by omega), inB_n (by omega) (by omega), fun q => ?_, fun q => ?_⟩
      · rw [decide_eq_false (by omega), if_neg (by simp), Nat.add_zero] at nx
        have e0 : iN (bset (fun s => decide (l s < h s)) s) ||| iN 0 = iN (bset (fun s => decide (l s < h s)) s) := Int32.or_zero
        rw [e0]; exact nx
      · rw [decide_eq_true (by omega), if_pos rfl] at nx
        exact nx
theorem P_buy (hs : GS g) (o : OKS S) (v1 v2 : Int32) : Pair g S m11_buy m12_buy [.int v1, .int v2] := by
  have n6 := o.1.1
  have p5 := o.1.2.1
  by_cases h1 : inR v1 (iN 0) (iN (sNp S) - iN 1)
  · obtain ⟨p, hp, rfl⟩ := (inR_dn (by omega)).mp h1
    have hb := o.b p
    have z0 : ∀ s, sNs S ≤ s → s < 6 → sHas S p s = 0 := fun s a b => o.2.2.1.2 p s (by omega) b a
    by_cases h2 : inR v2 (iN 1) (iN 12)
    · obtain ⟨k, rfl, hk1, hk⟩ := isP h2
      cases hq : layN k (sHas S p) (fun s => sTg S s (sHas S p s)) with
      | none =>
        refine ⟨iM 3, S, o, fun d z I K hz c hK => ?_, fun d z I K hz m hK => ?_⟩
        · refine v11_buy hs hz (gN c.np p5 (by omega) hp rfl (gT h2 (c_lay hs hz (hz.purse (by omega)) c.so (c.pu (by omega)) (fun s q => by have := hb s q; omega) (by omega) ?_)))
          rw [hq]
          exact fun J hJ => gT rfl (hK.f hz c (FrC.of hJ (fun k hk => by
            simp at hk
            rcases hk with rfl | rfl
            · exact (scr_lr (by omega)).1
            · exact (scr_lr (by omega)).2)))
        · refine v12_buy hs hz (gM m.np h1 (gT h2 (c_thinksOf hs hz m o (by omega) (fun J hJ hr => c_lays hs hz ((m.fr hJ).md o) hr (fun s q => by have := hb s q; omega) (by omega) ?_))))
          rw [hq]
          exact fun J2 hJ2 _ => gT rfl (hK.f (L := [118, 119, 120]) m ((hJ.mo (by simp)).tr hJ2))
      | some l =>
        have hpos := lay_pos hq (by omega)
        have hlt := bset_lt (fun s => decide (l s < sHas S p s)) 6
        have hle := layN_le hq
        have l0 : ∀ s, sNs S ≤ s → s < 6 → l s = 0 := fun s a b => by have h1 := hle s; have h2 := z0 s a b; omega
        refine ⟨iN (bset (fun s => decide (l s < sHas S p s)) 6), hasU S (rowU S p l), o.uRow (fun s q => Nat.le_trans (hle s) (hb s q)) (fun s a b => l0 s b a), fun d z I K hz c hK => ?_, fun d z I K hz m hK => ?_⟩
        · refine v11_buy hs hz (gN c.np p5 (by omega) hp rfl (gT h2 (c_lay hs hz (hz.purse (by omega)) c.so (c.pu (by omega)) (fun s q => by have := hb s q; omega) (by omega) ?_)))
          rw [hq]
          refine fun J hJ hr => gF (fun q => hpos ((iN_inj (by omega) (by omega)).mp q)) ?_
          have s2 := scr_lr (z := z) (p := p) (by omega)
          refine hK J (c.uRow hz (by omega) (fun k hk hk2 => hJ k (fun q => ?_)) hr) (KeepM.of hJ (by simp; omega))
          simp at q
          rcases q with rfl | rfl | rfl
          · exact hk2 rfl
          · exact hk s2.1
          · exact hk s2.2
        · refine v12_buy hs hz (gM m.np h1 (gT h2 (c_thinksOf hs hz m o (by omega) (fun J hJ hr => c_lays hs hz ((m.fr hJ).md o) hr (fun s q => by have := hb s q; omega) (by omega) ?_))))
          rw [hq]
          refine fun J2 hJ2 hl hy => gF (fun q => absurd ((iN_inj (by omega) (by omega)).mp q) (by omega)) ?_
          have hO : Of [118, 119, 120] I J2 := (hJ.mo (by simp)).tr hJ2
          have m2 := m.fr hO
          refine v12_comesTrue hs (comes_l (h := sHas S p) (l := l) hs hz m2.ns n6 (by omega) hl hy (fun s q => by have := hb s q; omega) (fun J3 hJ3 a b => ?_) (sNs S) 0 J2 (by omega) (Of.rf _ _) (fun i hi => absurd hi (by omega)) (fun i hi => rfl))
          have hO3 : Of [105, 118, 119, 120] I J3 := (hO.mo (by simp)).tr (hJ3.mo (by simp))
          rw [bset6 n6 (fun s a b => by rw [l0 s a b, z0 s a b]; rfl)] at hK
          refine hK J3 (m2.uRow (fun k a b e => hJ3 k (by simp; exact e)) (fun s hs6 => ?_) (fun i hi => b i (Or.inl hi))) (KeepC.of hO3)
          by_cases q : s < sNs S
          · exact a s q
          · rw [b _ (Or.inr (by omega)), m2.has, show S.1 4 (6 * p + s) = 0 from z0 s (by omega) hs6, l0 s (by omega) hs6]
    · exact ⟨iM 7, S, o, fun d z I K hz c hK => v11_buy hs hz (gN c.np p5 (by omega) hp rfl (gF h2 (hK.i c))), fun d z I K hz m hK => v12_buy hs hz (gM m.np h1 (gF h2 (hK.i m)))⟩
  · exact ⟨iM 5, S, o, fun d z I K hz c hK => v11_buy hs hz (gNn c.np p5 h1 (hK.i c)), fun d z I K hz m hK => v12_buy hs hz (gMn m.np h1 (hK.i m))⟩
end PB
