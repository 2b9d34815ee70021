/-! pair: pass -/
theorem dm_eq {a b n r t : Nat} (hr : r < n) (ht : t < n) (e : a * n + r = b * n + t) : a = b ∧ r = t := by
  rcases Nat.lt_trichotomy a b with q | q | q
  · have := Nat.mul_le_mul_right n (show a + 1 ≤ b from q)
    rw [Nat.succ_mul] at this; omega
  · subst q; exact ⟨rfl, by omega⟩
  · have := Nat.mul_le_mul_right n (show b + 1 ≤ a from q)
    rw [Nat.succ_mul] at this; omega
theorem sumN_app (f : Nat → Nat) (a : Nat) : ∀ b, sumN f (a + b) = sumN f a + sumN (fun i => f (a + i)) b
  | 0 => rfl
  | b + 1 => by
    show sumN f (a + b) + f (a + b) = sumN f a + (sumN (fun i => f (a + i)) b + f (a + b))
    rw [sumN_app f a b]; omega
theorem lftN_le (k mo n : Nat) : lftN k mo n ≤ n := by
  unfold lftN
  split
  next => omega
  next =>
    split
    next =>
      have h1 := Nat.mul_le_mul_left n (show 9 - mo ≤ 9 by omega)
      have h2 := Nat.div_le_div_right (c := 9) h1
      rw [Nat.mul_div_cancel _ (by omega)] at h2
      exact h2
    next => exact Nat.le_refl _
def pwA (S : AS) (s x : Nat) : Nat := lftN (S.1 1 s) (S.1 3 s) x + min (sayA S (sLw S) 2 (nm6 (S.1 2 s) (lftN (S.1 1 s) (S.1 3 s) x) (S.1 3 s) (sYr S) s 0)) (99 - lftN (S.1 1 s) (S.1 3 s) x)
def pvA (S : AS) (i : Nat) : Nat := if i % 6 < sNs S then pwA S (i % 6) (S.1 4 i) else S.1 4 i
def psH (S : AS) (m : Nat) : Nat → Nat := fun i => if i % 6 < sNs S ∧ i / 6 * sNs S + i % 6 < m then pwA S (i % 6) (S.1 4 i) else S.1 4 i
theorem pwA_le {S : AS} {s x : Nat} (h : x ≤ 99) : pwA S s x ≤ 99 := by
  have := lftN_le (S.1 1 s) (S.1 3 s) x
  unfold pwA; omega
theorem psH_ok {S : AS} (o : OKS S) (m : Nat) : OKS (hasU S (psH S m)) := o.uHas (fun i => by
  have := o.2.2.1.1 i
  unfold psH; split
  next => exact pwA_le this
  next => exact this) (fun p t hp ht hn => by
  unfold psH
  rw [if_neg (fun q => by have := q.1; omega)]
  exact o.2.2.1.2 p t hp ht hn)
theorem psH_0 (S : AS) : hasU S (psH S 0) = S := by
  have : psH S 0 = S.1 4 := by funext i; unfold psH; rw [if_neg (by omega)]
  rw [this, hasU_self]
theorem psH_s {S : AS} {p s : Nat} (hs : s < sNs S) (n6 : sNs S ≤ 6) : psH S (p * sNs S + s + 1) = up1 (psH S (p * sNs S + s)) (6 * p + s) (pwA S s (S.1 4 (6 * p + s))) := by
  funext i
  unfold up1
  by_cases q : i = 6 * p + s
  · rw [if_pos q, q]
    unfold psH
    rw [show (6 * p + s) % 6 = s by omega, show (6 * p + s) / 6 = p by omega, if_pos ⟨hs, by omega⟩]
  · rw [if_neg q]
    unfold psH
    by_cases c : i % 6 < sNs S ∧ i / 6 * sNs S + i % 6 < p * sNs S + s
    · rw [if_pos c, if_pos ⟨c.1, by omega⟩]
    · rw [if_neg c, if_neg (fun w => by
        have := dm_eq w.1 hs (show i / 6 * sNs S + i % 6 = p * sNs S + s by omega)
        omega)]
theorem psH_at {S : AS} {p s m : Nat} (hs : s < 6) (h : p * sNs S + s ≥ m) : psH S m (6 * p + s) = S.1 4 (6 * p + s) := by
  unfold psH
  rw [show (6 * p + s) % 6 = s by omega, show (6 * p + s) / 6 = p by omega, if_neg (by omega)]
theorem psH_pv {S : AS} {p s m : Nat} (hs : s < 6) (h : p * sNs S + sNs S ≤ m) : psH S m (6 * p + s) = pvA S (6 * p + s) := by
  unfold psH pvA
  rw [show (6 * p + s) % 6 = s by omega, show (6 * p + s) / 6 = p by omega]
  by_cases q : s < sNs S
  · rw [if_pos ⟨q, by omega⟩, if_pos q]
  · rw [if_neg (fun c => q c.1), if_neg q]
theorem pv_sum {S : AS} (o : OKS S) : ∀ p, p ≤ 5 → sumN (fun k => pvA S (6 * (k / sNs S) + k % sNs S)) (p * sNs S) = sumN (fun q => sumN (fun s => pvA S (6 * q + s)) 6) p
  | 0, _ => by rw [Nat.zero_mul]; rfl
  | p + 1, h => by
    have n6 := o.1.1
    rw [Nat.succ_mul, sumN_app, pv_sum o p (by omega)]
    show _ = sumN (fun q => sumN (fun s => pvA S (6 * q + s)) 6) p + sumN (fun s => pvA S (6 * p + s)) 6
    rw [sumN6 (n := sNs S) n6 (fun s a b => ?_)]
    · congr 1
      refine sumN_cg (fun s hs => ?_)
      show pvA S (6 * ((p * sNs S + s) / sNs S) + (p * sNs S + s) % sNs S) = pvA S (6 * p + s)
      rw [Nat.mul_comm p, Nat.mul_add_div (by omega), Nat.mul_add_mod, Nat.div_eq_of_lt hs, Nat.mod_eq_of_lt hs, Nat.add_zero]
    · show pvA S (6 * p + s) = 0
      unfold pvA
      rw [show (6 * p + s) % 6 = s by omega, if_neg (by omega)]
      exact o.2.2.1.2 p s (by omega) b a
section PV
variable {g : Gt} {d : Nat} {z : Zs} {I J : Is} {S : AS}
theorem CI.pset {f : Nat → Nat} {p s : Nat} (c : CI z I (hasU S f)) (hz : Sh z) (hp : p < 5) (hs : s < 6) (v : Nat) : CI z (up2 I (49 + 8 * p + 1) s (iN v)) (hasU S (up1 f (6 * p + s) v)) := by
  have c2 := c.uHas (J := up2 I (49 + 8 * p + 1) s (iN v)) (f := up1 f (6 * p + s) v) hz (fun k _ hk => up2_ro I (by simp at hk; omega) _ _) (fun t ht => by
    by_cases w : t = p
    · subst w
      refine ((c.pu (p := t) ht).up (s := s) _).fn (fun i hi => ?_)
      show up1 (fun s_1 => f (6 * t + s_1)) s v i = up1 f (6 * t + s) v (6 * t + i)
      unfold up1
      by_cases q : i = s
      · rw [if_pos q, if_pos (by omega)]
      · rw [if_neg q, if_neg (by omega)]
    · refine ((c.pu (p := t) ht).cg (up2_ro I (by omega) _ _)).fn (fun i hi => ?_)
      show f (6 * t + i) = up1 f (6 * p + s) v (6 * t + i)
      unfold up1
      rw [if_neg (by omega)])
  rw [hasU_hasU] at c2; exact c2
theorem MI.pset {f : Nat → Nat} {i : Nat} (m : MI I (hasU S f)) (v : Nat) : MI (up2 I 105 i (iN v)) (hasU S (up1 f i v)) := by
  have c2 := m.uHas (J := up2 I 105 i (iN v)) (f := up1 f i v) (fun k a b e => up2_ro I e _ _) (fun j => by
    rw [up2_ra]
    unfold up1
    by_cases w : j = i
    · rw [if_pos w, if_pos w]
    · rw [if_neg w, if_neg w]; exact m.has j)
  rw [hasU_hasU] at c2; exact c2
theorem up1_le {f : Nat → Nat} {i v b : Nat} (h : ∀ j, f j ≤ b) (hv : v ≤ b) : ∀ j, up1 f i v j ≤ b := fun j => by
  unfold up1; split
  next => exact hv
  next => exact h j
theorem up1_up1 {f : Nat → Nat} {i v w : Nat} : up1 (up1 f i v) i w = up1 f i w := by
  funext j; unfold up1; split <;> rfl
theorem pf_l {p : Nat} {K : Is → Prop} (hs : GS g) (hz : Sh z) (o : OKS S) (hp : p < 5) : ∀ (r s : Nat) (J : Is), s + r = sNs S → CI z J (hasU S (psH S (p * sNs S + s))) → (∀ J2, CI z J2 (hasU S (psH S (p * sNs S + sNs S))) → KeepM J J2 → K J2) → WPc g m11_passFor (d + 4) 0 0 2 [(0, .ref 8), (1, .ref (49 + 8 * p)), (2, .int (iN s))] [] z J (Qv z K)
  | 0, s, J, e, c, hK => by
    have n6 := o.1.1
    have e2 : s = sNs S := by omega
    rw [e2] at c
    refine v11_passFor_2 hs hz ⟨fun _ => hK J c (fun _ _ _ => rfl), fun q => ?_⟩
    rw [c.ns] at q; exact absurd ((iN_le (a := sNs S) (by omega) (by omega)).mpr (by omega)) q
  | r + 1, s, J, e, c, hK => by
    have n6 := o.1.1
    have s6 : s < 6 := by omega
    have hb : sHas S p s ≤ 99 := o.b p s s6
    have oc := psH_ok o (p * sNs S + s)
    have hpu := hz.purse hp
    have hv : J (49 + 8 * p + 1) s = iN (sHas S p s) := by
      rw [c.pu hp s s6]
      show iN (psH S (p * sNs S + s) (6 * p + s)) = _
      rw [psH_at s6 (Nat.le_refl _)]
    obtain ⟨⟨qs, es, so'⟩, kb1', kb2, kb3'⟩ := c.so.2.1 s (show s < sNs S by omega)
    have so : SoO z J qs (S.1 1 s) (S.1 2 s) (S.1 3 s) := so'
    have kb1 : S.1 1 s ≤ 5 := kb1'
    have kb3 : S.1 3 s ≤ 9 := kb3'
    have hl := lftN_le (S.1 1 s) (S.1 3 s) (sHas S p s)
    refine v11_passFor_2 hs hz ⟨fun q => ?_, fun _ => gN c.ns n6 (by omega) (show s < sNs S by omega) rfl ⟨qs, es, by rw [hpu.t]; rfl, c_many hs hpu s6 ?_⟩⟩
    · rw [c.ns] at q; exact absurd ((iN_le (a := sNs S) (by omega) (by omega)).mp q) (by omega)
    · rw [hv]
      refine c_left hs so kb1 kb3 (by omega) ⟨tag_so so.1, tag_so so.1, ?_⟩
      rw [so.2.1, so.2.2]
      refine c11_nameAll (h := 0) hs hz c (fun J1 hJ1 hn1 => ⟨by rw [hpu.t]; rfl, c_pput hs hpu s6 ?_⟩)
      have c1 := c.fr hz hJ1
      have c2 := c1.pset hz hp s6 (lftN (S.1 1 s) (S.1 3 s) (sHas S p s))
      have o2 : OKS (hasU S (up1 (psH S (p * sNs S + s)) (6 * p + s) (lftN (S.1 1 s) (S.1 3 s) (sHas S p s)))) := o.uHas (up1_le oc.2.2.1.1 (by omega)) (fun q t hq ht hn => by
        unfold up1
        rw [if_neg (by omega)]
        exact oc.2.2.1.2 q t hq ht hn)
      have elw : up2 J1 (49 + 8 * p + 1) s (iN (lftN (S.1 1 s) (S.1 3 s) (sHas S p s))) 8 14 = iN (sLw S) := c2.lw
      rw [elw]
      refine c11_says (t := sLw S) (p := 2) hs hz c2 o2 o.1.2.2.2.2.1 (by omega) (hn1.cg (up2_ro J1 (by omega) _ _)) (fun J3 hJ3 => ⟨by rw [hpu.t]; rfl, ?_⟩)
      have c3 := c2.fr hz hJ3
      have sle := sayA_le S (sLw S) 2 (nm6 (S.1 2 s) (lftN (S.1 1 s) (S.1 3 s) (sHas S p s)) (S.1 3 s) (sYr S) s 0)
      refine c_grow (x := lftN (S.1 1 s) (S.1 3 s) (sHas S p s)) hs hpu s6 ?_ (by omega) (show sayA S (sLw S) 2 (nm6 (S.1 2 s) (lftN (S.1 1 s) (S.1 3 s) (sHas S p s)) (S.1 3 s) (sYr S) s 0) ≤ 1000 by omega) ?_
      · rw [c3.pu hp s s6]
        show iN (up1 (psH S (p * sNs S + s)) (6 * p + s) (lftN (S.1 1 s) (S.1 3 s) (sHas S p s)) (6 * p + s)) = _
        rw [up1_s]
      · have c4 := c3.pset hz hp s6 (pwA S s (sHas S p s))
        rw [up1_up1, ← psH_s (show s < sNs S by omega) n6] at c4
        rw [iN_add]
        have k1 : KeepM J J1 := fun k a b => hJ1 k (c.ns_m a b)
        have k3 : KeepM (up2 J1 (49 + 8 * p + 1) s (iN (lftN (S.1 1 s) (S.1 3 s) (sHas S p s)))) J3 := fun k a b => hJ3 k (c2.ns_m a b)
        exact pf_l hs hz o hp r (s + 1) _ (by omega) c4 (fun J5 hc hk => hK J5 hc (KeepM.tr (KeepM.tr (KeepM.tr (KeepM.tr k1 (fun k a b => up2_ro J1 (by omega) _ _)) k3) (fun k a b => up2_ro J3 (by omega) _ _)) hk))
theorem pa_c {K : Int32 → Is → Prop} (hs : GS g) (hz : Sh z) (o : OKS S) : ∀ (r p : Nat) (J : Is), p + r = sNp S → CI z J (hasU S (psH S (p * sNs S))) → (∀ J2, CI z J2 (hasU S (psH S (sNp S * sNs S))) → KeepM J J2 → K (iN (sumN (fun q => sumN (fun s => pvA S (6 * q + s)) 6) (sNp S))) J2) → WPc g m11_pass (d + 5) 0 0 19 [(0, .ref 8), (1, .int (iN (sumN (fun q => sumN (fun s => pvA S (6 * q + s)) 6) p))), (2, .int (iN p))] [] z J (Qi z K)
  | 0, p, J, e, c, hK => by
    have p5 := o.1.2.1
    refine v11_pass_19 hs hz ⟨fun _ => ?_, fun q => ?_⟩
    · rw [show p = sNp S by omega] at c ⊢; exact hK J c (fun _ _ _ => rfl)
    · rw [c.np] at q; exact absurd ((iN_le (a := sNp S) (by omega) (by omega)).mpr (by omega)) q
  | r + 1, p, J, e, c, hK => by
    have p5 := o.1.2.1
    refine v11_pass_19 hs hz ⟨fun q => ?_, fun _ => ⟨p, by omega, rfl, v11_passFor hs (pf_l hs hz o (by omega) (sNs S) 0 J (by omega) c (fun J2 hc hk => ⟨p, by omega, rfl, ?_⟩))⟩⟩
    · rw [c.np] at q; exact absurd ((iN_le (a := sNp S) (by omega) (by omega)).mp q) (by omega)
    · refine c_coins (h := fun s => pvA S (6 * p + s)) hs (hz.purse (by omega)) ((hc.pu (p := p) (by omega)).fn (fun s h6 => psH_pv h6 (Nat.le_refl _))) ?_
      rw [iN_add, iN_add]
      rw [← Nat.succ_mul] at hc
      exact pa_c hs hz o r (p + 1) J2 (by omega) hc (fun J3 a b => hK J3 a (KeepM.tr hk b))
theorem c_remains {s n : Nat} {K : Int32 → Is → Prop} (hs : GS g) (hz : Sh z) (m : MI I S) (o : OKS S) (h6 : s < 6) (hn : n ≤ 99) (hK : K (iN (lftN (S.1 1 s) (S.1 3 s) n)) I) : Wi g m12_remains (d + 1) [.ref 101, .int (iN s), .int (iN n)] z I K := by
  have ob := o.2.1 s
  refine v12_remains hs hz ⟨inB_n h6 (by omega), ?_⟩
  rw [iN_toN (by omega), m.2.2.1, m.2.2.2.2.1, iN_inj (b := 4) (by omega) (by omega), iN_inj (b := 5) (by omega) (by omega), iN_sub (a := 9) (b := S.1 3 s) (by omega), iN_mul, iN_div (by have := Nat.mul_le_mul hn (show 9 - S.1 3 s ≤ 9 by omega); omega) (by omega)]
  unfold lftN at hK
  refine ⟨fun q => ?_, fun q => ⟨fun q2 => ?_, fun q2 => ?_⟩⟩
  · rw [if_pos q] at hK
    rcases Nat.eq_zero_or_pos n with q3 | q3
    · rw [q3] at hK ⊢; exact hK
    · rw [iN_sub (by omega), clI_N (by omega), show capN 99 (iN (n - 1)) = n - 1 by unfold capN; rw [iN_toN (by omega)]; omega]; exact hK
  · rw [if_neg q, if_pos q2] at hK; exact hK
  · rw [if_neg q, if_neg q2] at hK; exact hK
theorem pa_m {K : Int32 → Is → Prop} (hs : GS g) (hz : Sh z) (o : OKS S) : ∀ (r k : Nat) (J : Is), k + r = sNp S * sNs S → MI J (hasU S (psH S k)) → (∀ J2, MI J2 (hasU S (psH S (sNp S * sNs S))) → Of [105, 116, 117] J J2 → K (iN (sumN (fun k => pvA S (6 * (k / sNs S) + k % sNs S)) (sNp S * sNs S))) J2) → WPc g m12_pass (d + 4) 0 0 20 [(0, .ref 101), (1, .int (iN (sumN (fun k => pvA S (6 * (k / sNs S) + k % sNs S)) k))), (2, .int (iN k))] [] z J (Qi z K)
  | 0, k, J, e, m, hK => by
    have pb := Nat.mul_le_mul o.1.2.1 o.1.1
    refine v12_pass_20 hs hz ?_
    have e1 : J 101 4 * J 101 0 = iN (sNp S * sNs S) := by rw [m.np, m.ns]; exact iN_mul _ _
    rw [e1]
    refine ⟨fun _ => ?_, fun q => absurd ((iN_le (by omega) (by omega)).mpr (by omega)) q⟩
    rw [show k = sNp S * sNs S by omega] at m ⊢; exact hK J m (Of.rf _ J)
  | r + 1, k, J, e, m, hK => by
    have pb := Nat.mul_le_mul o.1.2.1 o.1.1
    have n6 := o.1.1
    have p5 := o.1.2.1
    have ns0 : 0 < sNs S := by
      rcases Nat.eq_zero_or_pos (sNs S) with q | q
      · rw [q, Nat.mul_zero] at e; omega
      · exact q
    have hs6 : k % sNs S < sNs S := Nat.mod_lt _ ns0
    have hp5 : k / sNs S < 5 := Nat.lt_of_lt_of_le (Nat.div_lt_of_lt_mul (show k < sNs S * sNp S by rw [Nat.mul_comm]; omega)) p5
    have hk : k / sNs S * sNs S + k % sNs S = k := by rw [Nat.mul_comm]; exact Nat.div_add_mod k (sNs S)
    generalize hp : k / sNs S = p at hp5 hk
    generalize hq : k % sNs S = s at hs6 hk
    have s6 : s < 6 := by omega
    have hb : sHas S p s ≤ 99 := o.b p s s6
    have oc := psH_ok o k
    have hl := lftN_le (S.1 1 s) (S.1 3 s) (sHas S p s)
    have e1 : J 101 4 * J 101 0 = iN (sNp S * sNs S) := by rw [m.np, m.ns]; exact iN_mul _ _
    have e0 : J 101 0 = iN (sNs S) := m.ns
    have eh : J 105 (6 * p + s) = iN (sHas S p s) := by
      rw [m.has]
      show iN (psH S k (6 * p + s)) = _
      rw [psH_at s6 (by omega)]
    refine v12_pass_20 hs hz ?_
    rw [e1, e0, iN_div (by omega) (by omega), iR_N (by omega) (by omega), hp, hq, iN_mul, iN_add, iN_toN (by omega), iN_toN (by omega), eh]
    refine ⟨fun q => absurd ((iN_le (by omega) (by omega)).mp q) (by omega), fun _ => ⟨fun q => absurd ((iN_inj (b := 0) (by omega) (by omega)).mp q) (by omega), fun q => absurd ((iN_inj (b := 0) (by omega) (by omega)).mp q) (by omega), inB_n (by omega) (by omega), ?_⟩⟩
    refine c_remains (S := hasU S (psH S k)) hs hz m oc s6 hb ⟨inB_n s6 (by omega), ?_⟩
    have e3 : J 103 s = iN (S.1 2 s) := m.2.2.2.1 s
    have e4 : J 104 s = iN (S.1 3 s) := m.2.2.2.2.1 s
    rw [e3, e4]
    refine c12_asksOf (p := 2) (a := S.1 2 s) (b := lftN (S.1 1 s) (S.1 3 s) (sHas S p s)) (x := S.1 3 s) (f := s) (h := 0) hs hz m oc (by omega) (fun J1 hJ1 => ?_)
    have m1 := m.fr hJ1
    have sle := sayA_le S (sLw S) 2 (nm6 (S.1 2 s) (lftN (S.1 1 s) (S.1 3 s) (sHas S p s)) (S.1 3 s) (sYr S) s 0)
    have goal : WPc g m12_pass (d + 4) 0 0 20 [(0, .ref 101), (1, .int (iN (sumN (fun k => pvA S (6 * (k / sNs S) + k % sNs S)) k) + iN (pwA S s (sHas S p s)))), (2, .int (iN k + iN 1))] [] z (up2 J1 105 (6 * p + s) (iN (pwA S s (sHas S p s)))) (Qi z K) := by
      rw [iN_add, iN_add]
      have ev : sumN (fun k => pvA S (6 * (k / sNs S) + k % sNs S)) k + pwA S s (sHas S p s) = sumN (fun k => pvA S (6 * (k / sNs S) + k % sNs S)) (k + 1) := by
        show _ = _ + pvA S (6 * (k / sNs S) + k % sNs S)
        rw [hp, hq]
        unfold pvA
        rw [show (6 * p + s) % 6 = s by omega, if_pos hs6]
      rw [ev]
      have m2 := m1.pset (i := 6 * p + s) (pwA S s (sHas S p s))
      rw [← hk, ← psH_s hs6 n6, hk] at m2
      exact pa_m hs hz o r (k + 1) _ (by omega) m2 (fun J2 a b => hK J2 a (((hJ1.mo (by simp)).upt (by simp) _ _).tr b))
    have ec : clI (iN (lftN (S.1 1 s) (S.1 3 s) (sHas S p s)) + iN (sayA S (sLw S) 2 (nm6 (S.1 2 s) (lftN (S.1 1 s) (S.1 3 s) (sHas S p s)) (S.1 3 s) (sYr S) s 0))) (iN 0) (iN 99) = iN (pwA S s (sHas S p s)) := by
      rw [iN_add, clI_N (by omega)]
      congr 1
      unfold capN pwA
      rw [iN_toN (by omega)]; omega
    show WPc g m12_pass (d + 4) 0 0 20 [(0, .ref 101), (1, .int (iN (sumN (fun k => pvA S (6 * (k / sNs S) + k % sNs S)) k) + (up2 J1 105 (6 * p + s) (clI (iN (lftN (S.1 1 s) (S.1 3 s) (sHas S p s)) + iN (sayA S (sLw S) 2 (nm6 (S.1 2 s) (lftN (S.1 1 s) (S.1 3 s) (sHas S p s)) (S.1 3 s) (sYr S) s 0))) (iN 0) (iN 99)) 105 (6 * p + s)))), (2, .int (iN k + iN 1))] [] z (up2 J1 105 (6 * p + s) (clI (iN (lftN (S.1 1 s) (S.1 3 s) (sHas S p s)) + iN (sayA S (sLw S) 2 (nm6 (S.1 2 s) (lftN (S.1 1 s) (S.1 3 s) (sHas S p s)) (S.1 3 s) (sYr S) s 0))) (iN 0) (iN 99))) (Qi z K)
    rw [ec, up2_ra, up1_s]
    exact goal
theorem P_pass (hs : GS g) (o : OKS S) : Pair g S m11_pass m12_pass [] := by
  have hy := o.1.2.2.1
  have o1 : OKS (scU S 2 (min 99 (sYr S + 1))) := ⟨⟨o.1.1, o.1.2.1, by show min 99 (sYr S + 1) ≤ 99; omega, o.1.2.2.2⟩, o.2⟩
  refine ⟨iN (sumN (fun q => sumN (fun s => pvA (scU S 2 (min 99 (sYr S + 1))) (6 * q + s)) 6) (sNp S)), _, psH_ok o1 (sNp S * sNs S), fun d z I K hz c hK => ?_, fun d z I K hz m hK => ?_⟩
  · refine v11_pass hs hz ?_
    rw [c.yr, iN_add, mnI_N (by omega) (by omega)]
    have c1 : CI z (up2 I 8 13 (iN (min 99 (sYr S + 1)))) (scU S 2 (min 99 (sYr S + 1))) := c.scal hz (fun k _ h8 => up2_ro I h8 _ _) (by omega) (by
      have h := c.1
      simp only [up2, if_true]
      exact ⟨h.1, h.2.1, h.2.2.1, rfl, h.2.2.2.2.1⟩)
    refine pa_c hs hz o1 (sNp S) 0 _ (Nat.zero_add _) ?_ (fun J2 hc hk => hK J2 hc (KeepM.tr (fun k a b => up2_ro I (by omega) _ _) hk))
    rw [Nat.zero_mul, psH_0]; exact c1
  · refine v12_pass hs hz ?_
    have ec : clI (I 101 6 + iN 1) (iN 0) (iN 99) = iN (min 99 (sYr S + 1)) := by
      rw [m.yr, iN_add, clI_N (by omega)]
      congr 1
      unfold capN; rw [iN_toN (by omega)]
    rw [ec]
    have m1 : MI (up2 I 101 6 (iN (min 99 (sYr S + 1)))) (scU S 2 (min 99 (sYr S + 1))) := m.scal (by omega) (fun k a b => up2_ro I (by omega) _ _) (by
      have h := m.1
      rw [up2_ra, up1_s, up1_o _ (by omega), up1_o _ (by omega), up1_o _ (by omega), up1_o _ (by omega), up1_o _ (by omega)]
      exact ⟨h.1, h.2.1, rfl, h.2.2.2.1, h.2.2.2.2.1, h.2.2.2.2.2⟩) (fun j a b => by rw [up2_ra, up1_o _ (by omega)])
    refine pa_m hs hz o1 (sNp S * sNs S) 0 _ (Nat.zero_add _) ?_ (fun J2 a b => ?_)
    · rw [psH_0]; exact m1
    · have hb : KeepC (up2 I 101 6 (iN (min 99 (sYr S + 1)))) J2 := KeepC.of b
      have := hK J2 a (KeepC.tr (fun k a => up2_ro I (by omega) _ _) hb)
      rw [← pv_sum o1 (sNp S) o.1.2.1] at this
      exact this
end PV
