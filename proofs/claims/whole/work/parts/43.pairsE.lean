/-! pairs: swap, best -/
abbrev cSw (S : AS) (p q x t : Nat) : Prop := 0 < sHas S p x ∧ 0 < sHas S q t ∧ sHas S q x < 99 ∧ sHas S p t < 99
def swH (h : Nat → Nat) (p q x t : Nat) : Nat → Nat := up1 (up1 (up1 (up1 h (6 * p + x) (h (6 * p + x) - 1)) (6 * q + x) (h (6 * q + x) + 1)) (6 * q + t) (h (6 * q + t) - 1)) (6 * p + t) (h (6 * p + t) + 1)
section PE
variable {g : Gt} {d : Nat} {z : Zs} {I J : Is} {S : AS}
theorem c11_canSwap {p q x t : Nat} {K : Int32 → Is → Prop} (hs : GS g) (hz : Sh z) (c : CI z I S) (o : OKS S) (hp : p < 5) (hq : q < 5) (hx : x < 6) (ht : t < 6) (h1 : cSw S p q x t → K (iN 1) I) (h0 : ¬ cSw S p q x t → K (iN 0) I) : Wi g m11_canSwap (d + 2) [.ref (49 + 8 * p), .ref (49 + 8 * q), .int (iN x), .int (iN t)] z I K := by
  have b1 := o.b p x hx
  have b2 := o.b q t ht
  have b3 := o.b q x hx
  have b4 := o.b p t ht
  refine v11_canSwap hs ⟨by rw [(hz.purse hp).t]; rfl, c_many hs (hz.purse hp) hx ?_⟩
  rw [c.pu hp x hx, iN_le (by omega) (by omega)]
  refine ⟨fun w => h0 (fun k => by have := k.1; omega), fun w1 => ⟨by rw [(hz.purse hq).t]; rfl, c_many hs (hz.purse hq) ht ?_⟩⟩
  rw [c.pu hq t ht, iN_le (by omega) (by omega)]
  refine ⟨fun w => h0 (fun k => by have := k.2.1; omega), fun w2 => ⟨by rw [(hz.purse hq).t]; rfl, c_many hs (hz.purse hq) hx ?_⟩⟩
  rw [c.pu hq x hx, iN_le (by omega) (by omega)]
  refine ⟨fun w => h0 (fun k => by have := k.2.2.1; omega), fun w3 => ⟨by rw [(hz.purse hp).t]; rfl, c_many hs (hz.purse hp) ht ?_⟩⟩
  rw [c.pu hp t ht, iN_le (by omega) (by omega)]
  exact ⟨fun w => h0 (fun k => by have := k.2.2.2; omega), fun w4 => h1 ⟨by omega, by omega, by omega, by omega⟩⟩
theorem c12_canSwap {p q x t : Nat} {K : Int32 → Is → Prop} (hs : GS g) (hz : Sh z) (m : MI I S) (o : OKS S) (hp : p < 5) (hq : q < 5) (hx : x < 6) (ht : t < 6) (h1 : cSw S p q x t → K (iN 1) I) (h0 : ¬ cSw S p q x t → K (iN 0) I) : Wi g m12_canSwap d [.ref 101, .int (iN p), .int (iN q), .int (iN x), .int (iN t)] z I K := by
  have b1 : S.1 4 (6 * p + x) ≤ 99 := o.b p x hx
  have b2 : S.1 4 (6 * q + t) ≤ 99 := o.b q t ht
  have b3 : S.1 4 (6 * q + x) ≤ 99 := o.b q x hx
  have b4 : S.1 4 (6 * p + t) ≤ 99 := o.b p t ht
  refine v12_canSwap hs hz ?_
  rw [iN_mul, iN_mul, iN_add, iN_add, iN_add, iN_add, iN_toN (by omega), iN_toN (by omega), iN_toN (by omega), iN_toN (by omega), m.has, m.has, m.has, m.has, iN_le (by omega) (by omega), iN_le (by omega) (by omega), iN_le (by omega) (by omega), iN_le (by omega) (by omega)]
  refine ⟨inB_n (by omega) (by omega), fun w => h0 (fun k => by have : 0 < S.1 4 (6 * p + x) := k.1; omega), fun w1 => ⟨inB_n (by omega) (by omega), fun w => h0 (fun k => by have : 0 < S.1 4 (6 * q + t) := k.2.1; omega), fun w2 => ⟨inB_n (by omega) (by omega), fun w => h0 (fun k => by have : S.1 4 (6 * q + x) < 99 := k.2.2.1; omega), fun w3 => ⟨inB_n (by omega) (by omega), fun w => h0 (fun k => by have : S.1 4 (6 * p + t) < 99 := k.2.2.2; omega), fun w4 => h1 ⟨?_, ?_, ?_, ?_⟩⟩⟩⟩⟩
  · show 0 < S.1 4 (6 * p + x); omega
  · show 0 < S.1 4 (6 * q + t); omega
  · show S.1 4 (6 * q + x) < 99; omega
  · show S.1 4 (6 * p + t) < 99; omega
theorem c12_swaps {p q x t : Nat} {h : Nat → Nat} {K : Is → Prop} (hs : GS g) (hz : Sh z) (hh : ∀ i, I 105 i = iN (h i)) (hp : p < 5) (hq : q < 5) (hpq : p ≠ q) (hx : x < 6) (ht : t < 6) (hxt : x ≠ t) (h1 : 0 < h (6 * p + x)) (h2 : 0 < h (6 * q + t)) (hK : ∀ J, Of [105] I J → (∀ i, J 105 i = iN (swH h p q x t i)) → K J) : Wv g m12_swaps d [.ref 101, .int (iN p), .int (iN q), .int (iN x), .int (iN t)] z I K := by
  refine v12_swaps hs hz ?_
  rw [iN_mul, iN_mul, iN_add, iN_add, iN_add, iN_add, iN_toN (by omega), iN_toN (by omega), iN_toN (by omega), iN_toN (by omega)]
  refine ⟨inB_n (by omega) (by omega), inB_n (by omega) (by omega), inB_n (by omega) (by omega), inB_n (by omega) (by omega), ?_⟩
  rw [up2_ra, up1_o (i := 6 * p + x) (j := 6 * q + x) _ (by omega), up2_ra, up1_o (i := 6 * q + x) (j := 6 * q + t) _ (by omega), up2_ra, up1_o (i := 6 * p + x) (j := 6 * q + t) _ (by omega), up2_ra, up1_o (i := 6 * q + t) (j := 6 * p + t) _ (by omega), up2_ra, up1_o (i := 6 * q + x) (j := 6 * p + t) _ (by omega), up2_ra, up1_o (i := 6 * p + x) (j := 6 * p + t) _ (by omega)]
  rw [hh, hh, hh, hh, iN_sub h1, iN_add, iN_sub h2, iN_add]
  refine hK _ ((((Of.rf [105] I).upt (by simp) _ _).upt (by simp) _ _).upt (by simp) _ _ |>.upt (by simp) _ _) (fun i => ?_)
  rw [up2_ra, up2_ra, up2_ra, up2_ra]
  unfold swH up1
  split
  · rfl
  split
  · rfl
  split
  · rfl
  split
  · rfl
  · exact hh i
theorem swH_p {S : AS} {p q x t : Nat} (hpq : p ≠ q) (hx : x < 6) (ht : t < 6) (hxt : x ≠ t) (h : sHas S p t < 99) : ∀ s, s < 6 → swH (S.1 4) p q x t (6 * p + s) = lessA (moreA (sHas S p) t) x s := fun s hs => by
  have e1 : moreA (sHas S p) t x = sHas S p x := by unfold moreA; rw [up1_o _ hxt]
  unfold lessA
  rw [e1]
  unfold swH moreA up1
  have h' : S.1 4 (6 * p + t) < 99 := h
  by_cases w : s = t
  · rw [if_pos (by omega), if_neg (show ¬ s = x by omega), if_pos w]
    show S.1 4 (6 * p + t) + 1 = S.1 4 (6 * p + t) + min 1 (99 - S.1 4 (6 * p + t))
    omega
  · rw [if_neg (by omega), if_neg (by omega), if_neg (by omega)]
    by_cases w2 : s = x
    · rw [if_pos (by omega), if_pos w2]
    · rw [if_neg (by omega), if_neg w2, if_neg w]
theorem swH_q {S : AS} {p q x t : Nat} (hpq : p ≠ q) (hx : x < 6) (ht : t < 6) (hxt : x ≠ t) (h : sHas S q x < 99) : ∀ s, s < 6 → swH (S.1 4) p q x t (6 * q + s) = lessA (moreA (sHas S q) x) t s := fun s hs => by
  have e1 : moreA (sHas S q) x t = sHas S q t := by unfold moreA; rw [up1_o _ (Ne.symm hxt)]
  unfold lessA
  rw [e1]
  unfold swH moreA up1
  have h' : S.1 4 (6 * q + x) < 99 := h
  by_cases w : s = t
  · rw [if_neg (by omega), if_pos (by omega), if_pos w]
  · rw [if_neg (by omega), if_neg (by omega), if_neg w]
    by_cases w2 : s = x
    · rw [if_pos (by omega), if_pos w2]
      show S.1 4 (6 * q + x) + 1 = S.1 4 (6 * q + x) + min 1 (99 - S.1 4 (6 * q + x))
      omega
    · rw [if_neg (by omega), if_neg (by omega), if_neg w2]
theorem swH_o {h : Nat → Nat} {p q x t i : Nat} (hx : x < 6) (ht : t < 6) (h1 : i / 6 ≠ p) (h2 : i / 6 ≠ q) : swH h p q x t i = h i := by
  unfold swH up1
  rw [if_neg (by omega), if_neg (by omega), if_neg (by omega), if_neg (by omega)]
theorem swH_back {h : Nat → Nat} {p q x t : Nat} (hpq : p ≠ q) (hx : x < 6) (ht : t < 6) (hxt : x ≠ t) (h1 : 0 < h (6 * p + x)) (h2 : 0 < h (6 * q + t)) : ∀ i, swH (swH h p q x t) q p x t i = h i := fun i => by
  have a1 : swH h p q x t (6 * q + x) = h (6 * q + x) + 1 := by
    unfold swH up1; rw [if_neg (by omega), if_neg (by omega), if_pos rfl]
  have a2 : swH h p q x t (6 * p + x) = h (6 * p + x) - 1 := by
    unfold swH up1; rw [if_neg (by omega), if_neg (by omega), if_neg (by omega), if_pos rfl]
  have a3 : swH h p q x t (6 * p + t) = h (6 * p + t) + 1 := by
    unfold swH up1; rw [if_pos rfl]
  have a4 : swH h p q x t (6 * q + t) = h (6 * q + t) - 1 := by
    unfold swH up1; rw [if_neg (by omega), if_pos rfl]
  show up1 (up1 (up1 (up1 (swH h p q x t) (6 * q + x) (swH h p q x t (6 * q + x) - 1)) (6 * p + x) (swH h p q x t (6 * p + x) + 1)) (6 * p + t) (swH h p q x t (6 * p + t) - 1)) (6 * q + t) (swH h p q x t (6 * q + t) + 1) i = h i
  rw [a1, a2, a3, a4]
  unfold up1
  by_cases w1 : i = 6 * q + t
  · rw [if_pos w1, w1]; omega
  · rw [if_neg w1]
    by_cases w2 : i = 6 * p + t
    · rw [if_pos w2, w2]; omega
    · rw [if_neg w2]
      by_cases w3 : i = 6 * p + x
      · rw [if_pos w3, w3]; omega
      · rw [if_neg w3]
        by_cases w4 : i = 6 * q + x
        · rw [if_pos w4, w4]; omega
        · rw [if_neg w4]
          unfold swH up1
          rw [if_neg w2, if_neg w1, if_neg w4, if_neg w3]
theorem hasU_self (S : AS) : hasU S (S.1 4) = S := by
  have : up1 S.1 4 (S.1 4) = S.1 := by
    funext i; unfold up1; split
    · next q => rw [q]
    · rfl
  unfold hasU; rw [this]
theorem two_ok {v w : Int32} {k : Nat} (hk : k ≤ 1000) (h : inR v (iN 0) (iN k - iN 1) ∧ inR w (iN 0) (iN k - iN 1) ∧ v ≠ w) : ∃ p q, p < k ∧ q < k ∧ p ≠ q ∧ v = iN p ∧ w = iN q := by
  obtain ⟨p, hp, rfl⟩ := (inR_dn (by omega)).mp h.1
  obtain ⟨q, hq, rfl⟩ := (inR_dn (by omega)).mp h.2.1
  exact ⟨p, q, hp, hq, fun e => h.2.2 (by rw [e]), rfl, rfl⟩
theorem c12_areTwo {v w : Int32} {K : Int32 → Is → Prop} (hs : GS g) (hz : Sh z) (m : MI I S) (h1 : (inR v (iN 0) (iN (sNp S) - iN 1) ∧ inR w (iN 0) (iN (sNp S) - iN 1) ∧ v ≠ w) → K (iN 1) I) (h0 : ¬ (inR v (iN 0) (iN (sNp S) - iN 1) ∧ inR w (iN 0) (iN (sNp S) - iN 1) ∧ v ≠ w) → K (iN 0) I) : Wi g m12_areTwo (d + 2) [.ref 101, .int v, .int w] z I K := by
  refine v12_areTwo hs hz ?_
  rw [m.np]
  exact ⟨fun a => ⟨fun b => ⟨fun e => h0 (fun k => k.2.2 e), fun e => h1 ⟨a, b, e⟩⟩, fun b => h0 (fun k => b k.2.1)⟩, fun a => h0 (fun k => a k.1)⟩
theorem lt0_of {v : Int32} (h : ¬ v < iN 0) : ∃ n, v = iN n ∧ n < 2147483648 := of_nn (Int32.not_lt.mp h)
theorem OKS.swp {p q x t : Nat} (o : OKS S) (hp : p < 5) (hq : q < 5) (hpq : p ≠ q) (hx : x < sNs S) (ht : t < sNs S) (hxt : x ≠ t) (hc : cSw S p q x t) : OKS (hasU S (swH (S.1 4) p q x t)) := by
  have n6 := o.1.1
  refine o.uHas (fun i => ?_) (fun r s hr hs6 hn => ?_)
  · have := o.2.2.1.1
    have h3 : S.1 4 (6 * q + x) < 99 := hc.2.2.1
    have h4 : S.1 4 (6 * p + t) < 99 := hc.2.2.2
    unfold swH up1
    split
    · omega
    split
    · have := this (6 * q + t); omega
    split
    · omega
    split
    · have := this (6 * p + x); omega
    · exact this i
  · have := o.2.2.1.2 r s hr hs6 hn
    unfold swH up1
    rw [if_neg (by omega), if_neg (by omega), if_neg (by omega), if_neg (by omega)]
    exact this
theorem P_swap (hs : GS g) (o : OKS S) (v1 v2 v3 : Int32) : Pair g S m11_swap m12_swap [.int v1, .int v2, .int v3] := by
  have n6 := o.1.1
  have p5 := o.1.2.1
  have N1 : ¬ iN 1 = iN 0 := fun q => absurd ((iN_inj (by omega) (by omega)).mp q) (by omega)
  by_cases h : inR v1 (iN 0) (iN (sNp S) - iN 1) ∧ inR v2 (iN 0) (iN (sNp S) - iN 1) ∧ v1 ≠ v2
  · obtain ⟨p, q, hp, hq, hpq, rfl, rfl⟩ := two_ok (by omega) h
    have M : ∀ {d : Nat} {z : Zs} {I : Is} {K : Int32 → Is → Prop}, Sh z → MI I S → ((v3 < iN 0 → K (iM 7) I) ∧ (¬ v3 < iN 0 → (inR (v3 / iN 10) (iN 0) (I 101 0 - iN 1) → (inR (iR v3 (iN 10)) (iN 0) (I 101 0 - iN 1) → ((v3 / iN 10) = (iR v3 (iN 10)) → K (iM 7) I) ∧ (¬ (v3 / iN 10) = (iR v3 (iN 10)) → Wi g m12_canSwap (d + 19) [.ref 101, .int (iN p), .int (iN q), .int (v3 / iN 10), .int (iR v3 (iN 10))] z I (fun x4 J3 => (x4 = iN 0 → K (iM 3) J3) ∧ (¬ x4 = iN 0 → Wv g m12_swaps (d + 19) [.ref 101, .int (iN p), .int (iN q), .int (v3 / iN 10), .int (iR v3 (iN 10))] z J3 (fun J5 => Wi g m12_feeOf (d + 19) [.ref 101, .int (v3 / iN 10), .int (iR v3 (iN 10))] z J5 (fun x7 J6 => K x7 J6)))))) ∧ (¬ (inR (iR v3 (iN 10)) (iN 0) (I 101 0 - iN 1)) → K (iM 7) I)) ∧ (¬ (inR (v3 / iN 10) (iN 0) (I 101 0 - iN 1)) → K (iM 7) I))) → Wi g m12_swap (d + 20) [.ref 101, .int (iN p), .int (iN q), .int v3] z I K := fun hz m hh =>
      v12_swap hs hz (c12_areTwo hs hz m (fun _ => gF N1 hh) (fun k => absurd h k))
    have C : ∀ {d : Nat} {z : Zs} {I : Is} {K : Int32 → Is → Prop}, Sh z → CI z I S → _ → Wi g m11_swap (d + 20) [.ref 8, .int (iN p), .int (iN q), .int v3] z I K := fun {d z I K} hz c hh =>
      v11_swap (d := d + 18) (K := K) hs hz (gN c.np p5 (by omega) hp rfl (gN c.np p5 (by omega) hq rfl (gF h.2.2 hh)))
    by_cases h3 : v3 < iN 0
    · exact ⟨iM 7, S, o, fun d z I K hz c hK => C hz c (gT h3 (hK.i c)), fun d z I K hz m hK => M hz m (gT h3 (hK.i m))⟩
    · obtain ⟨n, rfl, hn⟩ := lt0_of h3
      have e1 : iN n / iN 10 = iN (n / 10) := iN_div hn (by omega)
      have e2 : iR (iN n) (iN 10) = iN (n % 10) := iR_N hn (by omega)
      rw [e1, e2] at M
      by_cases hx : n / 10 < sNs S
      · by_cases ht : n % 10 < sNs S
        · have ix : ∀ {y}, y < sNs S → inR (iN y) (iN 0) (iN (sNs S) - iN 1) := fun hy => (inR_idn (by omega) (by omega)).mpr hy
          by_cases hxt : n / 10 = n % 10
          · refine ⟨iM 7, S, o, fun d z I K hz c hK => ?_, fun d z I K hz m hK => M hz m (gF h3 (gM m.ns (ix hx) (gM m.ns (ix ht) (gT (by rw [hxt]) (hK.i m)))))⟩
            obtain ⟨⟨qa, ea, sa⟩, -⟩ := c.so.2.1 _ hx
            obtain ⟨⟨qb, eb, sb⟩, -⟩ := c.so.2.1 _ ht
            exact C hz c (gF h3 (gN c.ns n6 (by omega) hx e1 ⟨qa, ea, gN c.ns n6 (by omega) ht e2 ⟨qb, eb, gT (by rw [e1, e2, hxt]) (hK.i c)⟩⟩))
          · have Nx : ¬ iN (n / 10) = iN (n % 10) := fun w => hxt ((iN_inj (by omega) (by omega)).mp w)
            by_cases hc : cSw S p q (n / 10) (n % 10)
            · refine ⟨iN (feeA S (n / 10) (n % 10)), hasU S (swH (S.1 4) p q (n / 10) (n % 10)), o.swp (by omega) (by omega) hpq hx ht hxt hc, fun d z I K hz c hK => ?_, fun d z I K hz m hK => ?_⟩
              · obtain ⟨⟨qa, ea, sa⟩, -⟩ := c.so.2.1 _ hx
                obtain ⟨⟨qb, eb, sb⟩, -⟩ := c.so.2.1 _ ht
                refine C hz c (gF h3 (gN c.ns n6 (by omega) hx e1 ⟨qa, ea, gN c.ns n6 (by omega) ht e2 ⟨qb, eb, gF (by rw [e1, e2]; exact Nx) ?_⟩⟩))
                rw [e1, e2]
                refine c11_canSwap hs hz c o (by omega) (by omega) (by omega) (by omega) (fun _ => gF N1 ?_) (fun w => absurd hc w)
                have bp := o.b p
                have bq := o.b q
                have r0 := c.pu (p := p) (by omega)
                have s0 := c.pu (p := q) (by omega)
                have cx := hc.1
                have ct := hc.2.1
                have dx := hc.2.2.1
                have dt := hc.2.2.2
                refine c_lose hs (hz.purse (by omega)) (by omega) (r0 _ (by omega)) (bp _ (by omega)) ?_
                refine c_grow (x := sHas S q (n / 10)) hs (hz.purse (by omega)) (by omega) (by rw [up2_ro _ (by omega)]; exact s0 _ (by omega)) (bq _ (by omega)) (by omega) ?_
                refine c_lose (x := sHas S q (n % 10)) hs (hz.purse (by omega)) (by omega) (by rw [up2_ra, up1_o _ (Ne.symm hxt), up2_ro _ (by omega)]; exact s0 _ (by omega)) (bq _ (by omega)) ?_
                refine c_grow (x := sHas S p (n % 10)) hs (hz.purse (by omega)) (by omega) (by rw [up2_ro _ (by omega), up2_ro _ (by omega), up2_ra, up1_o _ (Ne.symm hxt)]; exact r0 _ (by omega)) (bp _ (by omega)) (by omega) ?_
                generalize hJ : up2 (up2 (up2 (up2 I (49 + 8 * p + 1) (n / 10) (iN (sHas S p (n / 10) - 1))) (49 + 8 * q + 1) (n / 10) (iN (sHas S q (n / 10) + min 1 (99 - sHas S q (n / 10))))) (49 + 8 * q + 1) (n % 10) (iN (sHas S q (n % 10) - 1))) (49 + 8 * p + 1) (n % 10) (iN (sHas S p (n % 10) + min 1 (99 - sHas S p (n % 10)))) = J
                have hO : Of [49 + 8 * p + 1, 49 + 8 * q + 1] I J := by
                  rw [← hJ]
                  exact (((Of.rf _ I).upt (by simp) _ _).upt (by simp) _ _).upt (by simp) _ _ |>.upt (by simp) _ _
                have rp : Rw J (49 + 8 * p + 1) (fun s => swH (S.1 4) p q (n / 10) (n % 10) (6 * p + s)) := by
                  have r1 : Rw J (49 + 8 * p + 1) (lessA (moreA (sHas S p) (n % 10)) (n / 10)) := by
                    have ra : Rw J (49 + 8 * p + 1) (up1 (up1 (sHas S p) (n / 10) (sHas S p (n / 10) - 1)) (n % 10) (sHas S p (n % 10) + min 1 (99 - sHas S p (n % 10)))) := by
                      rw [← hJ]
                      exact Rw.up ((r0.up _).cg (by rw [up2_ro _ (by omega), up2_ro _ (by omega)])) _
                    refine ra.fn (fun s hs6 => ?_)
                    have em : moreA (sHas S p) (n % 10) (n / 10) = sHas S p (n / 10) := by unfold moreA; rw [up1_o _ hxt]
                    unfold lessA
                    rw [em]
                    unfold moreA up1
                    by_cases w : s = n % 10
                    · rw [if_pos w, if_neg (by omega), if_pos w]
                    · rw [if_neg w]
                      by_cases w2 : s = n / 10
                      · rw [if_pos w2, if_pos w2]
                      · rw [if_neg w2, if_neg w2, if_neg w]
                  exact r1.fn (fun s hs6 => (swH_p hpq (by omega) (by omega) hxt dt s hs6).symm)
                have rq : Rw J (49 + 8 * q + 1) (fun s => swH (S.1 4) p q (n / 10) (n % 10) (6 * q + s)) := by
                  have r1 : Rw J (49 + 8 * q + 1) (lessA (moreA (sHas S q) (n / 10)) (n % 10)) := by
                    have ra : Rw J (49 + 8 * q + 1) (up1 (up1 (sHas S q) (n / 10) (sHas S q (n / 10) + min 1 (99 - sHas S q (n / 10)))) (n % 10) (sHas S q (n % 10) - 1)) := by
                      rw [← hJ]
                      exact Rw.cg (Rw.up (Rw.up (s0.cg (up2_ro _ (by omega) _ _)) _) _) (up2_ro _ (by omega) _ _)
                    refine ra.fn (fun s hs6 => ?_)
                    have em : moreA (sHas S q) (n / 10) (n % 10) = sHas S q (n % 10) := by unfold moreA; rw [up1_o _ (Ne.symm hxt)]
                    unfold lessA
                    rw [em]
                    rfl
                  exact r1.fn (fun s hs6 => (swH_q hpq (by omega) (by omega) hxt dx s hs6).symm)
                have c1 : CI z J (hasU S (swH (S.1 4) p q (n / 10) (n % 10))) := c.uHas hz (fun k hk hl => hO k (by simp at hl ⊢; omega)) (fun r hr => by
                  by_cases w : r = p
                  · rw [w]; exact rp
                  · by_cases w2 : r = q
                    · rw [w2]; exact rq
                    · refine ((c.pu (p := r) hr).cg (hO _ (by simp; omega))).fn (fun s hs6 => (swH_o (h := S.1 4) (p := p) (q := q) (x := n / 10) (t := n % 10) (i := 6 * r + s) (by omega) (by omega) (by omega) (by omega)).symm))
                exact c11_feeFor hs hz c1 (o.swp (by omega) (by omega) hpq hx ht hxt hc) hx ht (fun J2 hJ2 => hK J2 (c1.fr hz hJ2) ((KeepM.of hO (by simp; omega)).tr (fun k a b => hJ2 _ (c1.ns_m a b))))
              · refine M hz m (gF h3 (gM m.ns (ix hx) (gM m.ns (ix ht) (gF Nx (c12_canSwap hs hz m o (by omega) (by omega) (by omega) (by omega) (fun _ => gF N1 ?_) (fun w => absurd hc w))))))
                refine c12_swaps hs hz m.has (by omega) (by omega) hpq (by omega) (by omega) hxt hc.1 hc.2.1 (fun J hJ hr => ?_)
                have m1 : MI J (hasU S (swH (S.1 4) p q (n / 10) (n % 10))) := m.uHas (fun k a b e => hJ k (by simp; exact e)) hr
                exact c12_feeOf hs hz m1 (o.swp (by omega) (by omega) hpq hx ht hxt hc) (by omega) (by omega) (fun J2 hJ2 => hK J2 (m1.fr hJ2) ((KeepC.of hJ).tr (KeepC.of hJ2)))
            · refine ⟨iM 3, S, o, fun d z I K hz c hK => ?_, fun d z I K hz m hK => M hz m (gF h3 (gM m.ns (ix hx) (gM m.ns (ix ht) (gF Nx (c12_canSwap hs hz m o (by omega) (by omega) (by omega) (by omega) (fun w => absurd w hc) (fun _ => gT rfl (hK.i m)))))))⟩
              obtain ⟨⟨qa, ea, sa⟩, -⟩ := c.so.2.1 _ hx
              obtain ⟨⟨qb, eb, sb⟩, -⟩ := c.so.2.1 _ ht
              refine C hz c (gF h3 (gN c.ns n6 (by omega) hx e1 ⟨qa, ea, gN c.ns n6 (by omega) ht e2 ⟨qb, eb, gF (by rw [e1, e2]; exact Nx) ?_⟩⟩))
              rw [e1, e2]
              exact c11_canSwap hs hz c o (by omega) (by omega) (by omega) (by omega) (fun w => absurd w hc) (fun _ => gT rfl (hK.i c))
        · have it : ¬ inR (iN (n % 10)) (iN 0) (iN (sNs S) - iN 1) := fun w => ht ((inR_idn (by omega) (by omega)).mp w)
          have ix : inR (iN (n / 10)) (iN 0) (iN (sNs S) - iN 1) := (inR_idn (by omega) (by omega)).mpr hx
          refine ⟨iM 7, S, o, fun d z I K hz c hK => ?_, fun d z I K hz m hK => M hz m (gF h3 (gM m.ns ix (gMn m.ns it (hK.i m))))⟩
          obtain ⟨⟨qa, ea, sa⟩, -⟩ := c.so.2.1 _ hx
          exact C hz c (gF h3 (gN c.ns n6 (by omega) hx e1 ⟨qa, ea, gNn c.ns n6 (by rw [e2]; exact it) (hK.i c)⟩))
      · have ix : ¬ inR (iN (n / 10)) (iN 0) (iN (sNs S) - iN 1) := fun w => hx ((inR_idn (by omega) (by omega)).mp w)
        exact ⟨iM 7, S, o, fun d z I K hz c hK => C hz c (gF h3 (gNn c.ns n6 (by rw [e1]; exact ix) (hK.i c))), fun d z I K hz m hK => M hz m (gF h3 (gMn m.ns ix (hK.i m)))⟩
  · refine ⟨iM 5, S, o, fun d z I K hz c hK => ?_, fun d z I K hz m hK => v12_swap hs hz (c12_areTwo hs hz m (fun k => absurd k h) (fun _ => gT rfl (hK.i m)))⟩
    by_cases h1 : inR v1 (iN 0) (iN (sNp S) - iN 1)
    · obtain ⟨p, hp, rfl⟩ := (inR_dn (by omega)).mp h1
      by_cases h2 : inR v2 (iN 0) (iN (sNp S) - iN 1)
      · obtain ⟨q, hq, rfl⟩ := (inR_dn (by omega)).mp h2
        have e : iN p = iN q := Classical.byContradiction (fun w => h ⟨h1, h2, w⟩)
        exact v11_swap hs hz (gN c.np p5 (by omega) hp rfl (gN c.np p5 (by omega) hq rfl (gT e (hK.i c))))
      · exact v11_swap hs hz (gN c.np p5 (by omega) hp rfl (gNn c.np p5 h2 (hK.i c)))
    · refine v11_swap hs hz (gNn c.np p5 h1 ?_)
      by_cases h2 : inR v2 (iN 0) (iN (sNp S) - iN 1)
      · obtain ⟨q, hq, rfl⟩ := (inR_dn (by omega)).mp h2
        exact gN c.np p5 (by omega) hq rfl (hK.i c)
      · exact gNn c.np p5 h2 (hK.i c)
end PE
