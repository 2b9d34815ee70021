/-! pairs: best, two -/
def bsU (x t n f : Nat) : I3 := (iN (10 * x + t), iN n, iN f)
def bsF (S : AS) (p q k x t : Nat) (a : I3) : I3 :=
  if x = t then a else if cSw S p q x t then
    (if a.2.1 < iN (oftA S k (lessA (moreA (sHas S p) t) x) + oftA S k (lessA (moreA (sHas S q) x) t)) then bsU x t (oftA S k (lessA (moreA (sHas S p) t) x) + oftA S k (lessA (moreA (sHas S q) x) t)) (feeA S x t)
     else if a.1 = iM 1 then a
     else if iN (oftA S k (lessA (moreA (sHas S p) t) x) + oftA S k (lessA (moreA (sHas S q) x) t)) = a.2.1 then (if a.2.2 ≤ iN (feeA S x t) then a else bsU x t (oftA S k (lessA (moreA (sHas S p) t) x) + oftA S k (lessA (moreA (sHas S q) x) t)) (feeA S x t))
     else a)
  else a
theorem foldA_add {α : Type} (f : Nat → α → α) : ∀ (n m i : Nat) (a : α), foldA f (n + m) i a = foldA f m (i + n) (foldA f n i a)
  | 0, m, i, a => by rw [Nat.zero_add]; rfl
  | n + 1, m, i, a => by
    rw [show n + 1 + m = (n + m) + 1 by omega, foldA_s, foldA_s, foldA_add f n m (i + 1), show i + 1 + n = i + (n + 1) by omega]
theorem fold_row {α : Type} (F : Nat → Nat → α → α) {n r : Nat} : ∀ (j i : Nat) (a : α), i + j ≤ n → foldA (fun w => F (w / n) (w % n)) j (r * n + i) a = foldA (F r) j i a
  | 0, _, _, _ => rfl
  | j + 1, i, a, h => by
    have e1 : (r * n + i) / n = r := by
      rw [Nat.mul_comm, Nat.mul_add_div (by omega), Nat.div_eq_of_lt (by omega), Nat.add_zero]
    have e2 : (r * n + i) % n = i := by
      rw [Nat.mul_comm, Nat.mul_add_mod, Nat.mod_eq_of_lt (by omega)]
    rw [foldA_s, foldA_s, e1, e2, show r * n + i + 1 = r * n + (i + 1) by omega]
    exact fold_row F j (i + 1) _ (by omega)
theorem fold_flat {α : Type} (F : Nat → Nat → α → α) (n : Nat) : ∀ (m r : Nat) (a : α), foldA (fun w => F (w / n) (w % n)) (m * n) (r * n) a = foldA (fun x a => foldA (F x) n 0 a) m r a
  | 0, r, a => by rw [Nat.zero_mul]; rfl
  | m + 1, r, a => by
    rw [show (m + 1) * n = n + m * n by rw [Nat.succ_mul]; omega, foldA_add, foldA_s, show r * n + n = (r + 1) * n by rw [Nat.succ_mul]]
    rw [show foldA (fun w => F (w / n) (w % n)) n (r * n) a = foldA (F r) n 0 a from fold_row F n 0 a (by omega)]
    exact fold_flat F n m (r + 1) _
section PF
variable {g : Gt} {d : Nat} {z : Zs} {I J : Is} {S : AS}
theorem best_c1 {p q k w x : Nat} {K : Int32 → Is → Prop} (hs : GS g) (hz : Sh z) (o : OKS S) (hp : p < 5) (hq : q < 5) (h0 : 0 < k) (hk : k ≤ 1000) (hx : x < sNs S) : ∀ (n t : Nat) (a : I3) (J : Is), t + n = sNs S → CI z J S → (∀ J2, FrC z J J2 → WPc g m11_best (d + 7) 0 0 78 [(0, .ref 8), (3, .int (iN k)), (4, .int (iN w)), (5, .ref (49 + 8 * p)), (6, .ref (49 + 8 * q)), (7, .int (foldA (bsF S p q k x) n t a).2.1), (8, .int (foldA (bsF S p q k x) n t a).1), (9, .int (foldA (bsF S p q k x) n t a).2.2), (10, .int (iN (x + 1)))] [] z J2 (Qi z K)) → WPc g m11_best (d + 7) 0 0 90 [(0, .ref 8), (3, .int (iN k)), (4, .int (iN w)), (5, .ref (49 + 8 * p)), (6, .ref (49 + 8 * q)), (7, .int a.2.1), (8, .int a.1), (9, .int a.2.2), (10, .int (iN x)), (11, .int (iN t))] [] z J (Qi z K)
  | 0, t, a, J, e, c, hK => by
    have n6 := o.1.1
    refine v11_best_90 hs hz ⟨fun _ => ?_, fun r => ?_⟩
    · rw [iN_add]; exact hK J (FrC.rf z J)
    · rw [c.ns] at r; exact absurd ((iN_le (by omega) (by omega)).mpr (by omega)) r
  | n + 1, t, a, J, e, c, hK => by
    have n6 := o.1.1
    have l1 := oftA_le S k (lessA (moreA (sHas S p) t) x)
    have l2 := oftA_le S k (lessA (moreA (sHas S q) x) t)
    rw [foldA_s] at hK
    have nx : ∀ (a' : I3) (J1 : Is), FrC z J J1 → bsF S p q k x t a = a' → WPc g m11_best (d + 7) 0 0 90 [(0, .ref 8), (3, .int (iN k)), (4, .int (iN w)), (5, .ref (49 + 8 * p)), (6, .ref (49 + 8 * q)), (7, .int a'.2.1), (8, .int a'.1), (9, .int a'.2.2), (10, .int (iN x)), (11, .int (iN t + iN 1))] [] z J1 (Qi z K) := fun a' J1 hJ1 e1 => by
      rw [iN_add]
      exact best_c1 hs hz o hp hq h0 hk hx n (t + 1) a' J1 (by omega) (c.fr hz hJ1) (fun J2 hJ2 => by rw [← e1]; exact hK J2 (hJ1.tr hJ2))
    refine v11_best_90 hs hz ⟨fun r => ?_, fun _ => ?_⟩
    · rw [c.ns] at r; exact absurd ((iN_le (by omega) (by omega)).mp r) (by omega)
    · rw [iN_inj (by omega) (by omega)]
      refine ⟨fun r => nx a J (FrC.rf z J) (by unfold bsF; rw [if_pos r]), fun r => ?_⟩
      refine c11_canSwap hs hz c o hp hq (by omega) (by omega) (fun hc => gF (fun y => absurd ((iN_inj (by omega) (by omega)).mp y) (by omega)) ?_) (fun hc => gT rfl (nx a J (FrC.rf z J) (by unfold bsF; rw [if_neg r, if_neg hc])))
      refine c_timesWith2 hs hz c (hz.purse hp) (c.pu hp) (o.b p) h0 hk (by omega) (by omega) (fun J1 hJ1 => ?_)
      have c1 := c.fr hz hJ1
      refine c_timesWith2 hs hz c1 (hz.purse hq) (c1.pu hq) (o.b q) h0 hk (by omega) (by omega) (fun J2 hJ2 => ?_)
      have f2 := hJ1.tr hJ2
      refine c11_feeFor hs hz (c.fr hz f2) o hx (by omega) (fun J3 hJ3 => ?_)
      have f3 := f2.tr hJ3
      have up : bsF S p q k x t a = bsU x t (oftA S k (lessA (moreA (sHas S p) t) x) + oftA S k (lessA (moreA (sHas S q) x) t)) (feeA S x t) → WPc g m11_best (d + 7) 0 0 90 [(0, .ref 8), (3, .int (iN k)), (4, .int (iN w)), (5, .ref (49 + 8 * p)), (6, .ref (49 + 8 * q)), (7, .int (iN (oftA S k (lessA (moreA (sHas S p) t) x) + oftA S k (lessA (moreA (sHas S q) x) t)))), (8, .int (iN (10 * x + t))), (9, .int (iN (feeA S x t))), (10, .int (iN x)), (11, .int (iN t + iN 1))] [] z J3 (Qi z K) := fun e1 => nx _ J3 f3 e1
      rw [iN_add, iN_mul, iN_add]
      refine ⟨fun y => up (by unfold bsF; rw [if_neg r, if_pos hc, if_pos y]), fun y => ⟨fun y2 => nx a J3 f3 (by unfold bsF; rw [if_neg r, if_pos hc, if_neg y, if_pos y2]), fun y2 => ⟨fun y3 => ⟨fun y4 => nx a J3 f3 (by unfold bsF; rw [if_neg r, if_pos hc, if_neg y, if_neg y2, if_pos y3, if_pos y4]), fun y4 => up (by unfold bsF; rw [if_neg r, if_pos hc, if_neg y, if_neg y2, if_pos y3, if_neg y4])⟩, fun y3 => nx a J3 f3 (by unfold bsF; rw [if_neg r, if_pos hc, if_neg y, if_neg y2, if_neg y3])⟩⟩⟩
theorem best_c2 {p q k w : Nat} {K : Int32 → Is → Prop} (hs : GS g) (hz : Sh z) (o : OKS S) (hp : p < 5) (hq : q < 5) (h0 : 0 < k) (hk : k ≤ 1000) (hw : w < 2) : ∀ (n x : Nat) (a : I3) (J : Is), x + n = sNs S → CI z J S → (∀ J2, FrC z J J2 → K (if w = 0 then (foldA (fun x a => foldA (bsF S p q k x) (sNs S) 0 a) n x a).1 else (foldA (fun x a => foldA (bsF S p q k x) (sNs S) 0 a) n x a).2.1) J2) → WPc g m11_best (d + 7) 0 0 78 [(0, .ref 8), (3, .int (iN k)), (4, .int (iN w)), (5, .ref (49 + 8 * p)), (6, .ref (49 + 8 * q)), (7, .int a.2.1), (8, .int a.1), (9, .int a.2.2), (10, .int (iN x))] [] z J (Qi z K)
  | 0, x, a, J, e, c, hK => by
    have n6 := o.1.1
    have hK := hK J (FrC.rf z J)
    refine v11_best_78 hs hz ⟨fun _ => ?_, fun r => ?_⟩
    · rw [iN_inj (by omega) (by omega)]
      refine ⟨fun r => ?_, fun r => ?_⟩
      · rw [if_pos r] at hK; exact hK
      · rw [if_neg r] at hK; exact hK
    · rw [c.ns] at r; exact absurd ((iN_le (by omega) (by omega)).mpr (by omega)) r
  | n + 1, x, a, J, e, c, hK => by
    have n6 := o.1.1
    rw [foldA_s] at hK
    refine v11_best_78 hs hz ⟨fun r => ?_, fun _ => ?_⟩
    · rw [c.ns] at r; exact absurd ((iN_le (by omega) (by omega)).mp r) (by omega)
    · exact best_c1 hs hz o hp hq h0 hk (by omega) (sNs S) 0 a J (by omega) c (fun J2 hJ2 => best_c2 hs hz o hp hq h0 hk hw n (x + 1) _ J2 (by omega) (c.fr hz hJ2) (fun J3 hJ3 => hK J3 (hJ2.tr hJ3)))
theorem sTg_has (f : Nat → Nat) : sTg (hasU S f) = sTg S := rfl
theorem oftA_has (f : Nat → Nat) (k : Nat) (h : Nat → Nat) : oftA (hasU S f) k h = oftA S k h := rfl
theorem best_m {p q k w : Nat} {K : Int32 → Is → Prop} (hs : GS g) (hz : Sh z) (o : OKS S) (hp : p < 5) (hq : q < 5) (hpq : p ≠ q) (h0 : 0 < k) (hk : k ≤ 1000) (hw : w < 2) : ∀ (n v : Nat) (a : I3) (J : Is), v + n = sNs S * sNs S → MI J S → (∀ J2, Of [105, 116, 117, 118, 119, 120] J J2 → MI J2 S → K (if w = 0 then (foldA (fun v => bsF S p q k (v / sNs S) (v % sNs S)) n v a).1 else (foldA (fun v => bsF S p q k (v / sNs S) (v % sNs S)) n v a).2.1) J2) → WPc g m12_best (d + 7) 0 0 56 [(0, .ref 101), (1, .int (iN p)), (2, .int (iN q)), (3, .int (iN k)), (4, .int (iN w)), (5, .int a.1), (6, .int a.2.1), (7, .int a.2.2), (8, .int (iN v))] [] z J (Qi z K)
  | 0, v, a, J, e, m, hK => by
    have n6 := o.1.1
    have hn : sNs S * sNs S ≤ 6 * 6 := Nat.mul_le_mul n6 n6
    have hK := hK J (Of.rf _ J) m
    refine v12_best_56 hs hz ?_
    rw [m.ns, iN_mul]
    refine ⟨fun _ => ?_, fun r => absurd ((iN_le (by omega) (by omega)).mpr (by omega)) r⟩
    rw [iN_inj (by omega) (by omega)]
    refine ⟨fun r => ?_, fun r => ?_⟩
    · rw [if_pos r] at hK; exact hK
    · rw [if_neg r] at hK; exact hK
  | n + 1, v, a, J, e, m, hK => by
    have n6 := o.1.1
    have hn : sNs S * sNs S ≤ 6 * 6 := Nat.mul_le_mul n6 n6
    have hpos : 0 < sNs S := by
      rcases Nat.eq_zero_or_pos (sNs S) with r | r
      · rw [r] at e; omega
      · exact r
    have hx : v / sNs S < sNs S := Nat.div_lt_of_lt_mul (by omega)
    have ht : v % sNs S < sNs S := Nat.mod_lt _ hpos
    rw [foldA_s] at hK
    have N1 : ¬ iN 1 = iN 0 := fun r => absurd ((iN_inj (by omega) (by omega)).mp r) (by omega)
    have nx : ∀ (a' : I3) (J1 : Is), Of [105, 116, 117, 118, 119, 120] J J1 → MI J1 S → bsF S p q k (v / sNs S) (v % sNs S) a = a' → WPc g m12_best (d + 7) 0 0 56 [(0, .ref 101), (1, .int (iN p)), (2, .int (iN q)), (3, .int (iN k)), (4, .int (iN w)), (5, .int a'.1), (6, .int a'.2.1), (7, .int a'.2.2), (8, .int (iN v + iN 1))] [] z J1 (Qi z K) := fun a' J1 hJ1 m1 e1 => by
      rw [iN_add]
      exact best_m hs hz o hp hq hpq h0 hk hw n (v + 1) a' J1 (by omega) m1 (fun J2 hJ2 => by rw [← e1]; exact hK J2 (hJ1.tr hJ2))
    refine v12_best_56 hs hz ?_
    rw [m.ns, iN_mul, iN_div (by omega) (by omega), iR_N (by omega) (by omega)]
    refine ⟨fun r => absurd ((iN_le (by omega) (by omega)).mp r) (by omega), fun _ => ⟨fun r => absurd ((iN_inj (by omega) (by omega)).mp r) (by omega), fun r => absurd ((iN_inj (by omega) (by omega)).mp r) (by omega), ?_⟩⟩
    generalize hgx : v / sNs S = x at hx nx ⊢
    generalize hgt : v % sNs S = t at ht nx ⊢
    have l1 := oftA_le S k (lessA (moreA (sHas S p) t) x)
    have l2 := oftA_le S k (lessA (moreA (sHas S q) x) t)
    rw [iN_inj (by omega) (by omega)]
    refine ⟨fun r => nx a J (Of.rf _ J) m (by unfold bsF; rw [if_pos r]), fun r => ?_⟩
    refine c12_canSwap hs hz m o hp hq (by omega) (by omega) (fun hc => gF N1 ?_) (fun hc => gT rfl (nx a J (Of.rf _ J) m (by unfold bsF; rw [if_neg r, if_neg hc])))
    refine c12_swaps hs hz m.has hp hq hpq (by omega) (by omega) r hc.1 hc.2.1 (fun J1 hJ1 hr1 => ?_)
    have o1 : OKS (hasU S (swH (S.1 4) p q x t)) := o.swp hp hq hpq hx ht r hc
    have m1 : MI J1 (hasU S (swH (S.1 4) p q x t)) := m.uHas (fun k a b e => hJ1 k (by simp; exact e)) hr1
    refine c_oftenOf hs hz m1 o1 hp h0 hk (fun J2 hJ2 _ => ?_)
    refine c_oftenOf hs hz (m1.fr hJ2) o1 hq h0 hk (fun J3 hJ3 _ => ?_)
    have m3 := (m1.fr hJ2).fr hJ3
    have eA : oftA (hasU S (swH (S.1 4) p q x t)) k (sHas (hasU S (swH (S.1 4) p q x t)) p) = oftA S k (lessA (moreA (sHas S p) t) x) := (oft_cg (fun s hs6 => swH_p hpq (by omega) (by omega) r hc.2.2.2 s hs6)).1
    have eB : oftA (hasU S (swH (S.1 4) p q x t)) k (sHas (hasU S (swH (S.1 4) p q x t)) q) = oftA S k (lessA (moreA (sHas S q) x) t) := (oft_cg (fun s hs6 => swH_q hpq (by omega) (by omega) r hc.2.2.1 s hs6)).1
    rw [eA, eB]
    have hp1 : 0 < S.1 4 (6 * p + x) := hc.1
    have hq1 : 0 < S.1 4 (6 * q + t) := hc.2.1
    refine c12_swaps (h := swH (S.1 4) p q x t) hs hz m3.has hq hp (Ne.symm hpq) (by omega) (by omega) r (by unfold swH up1; rw [if_neg (by omega), if_neg (by omega), if_pos rfl]; omega) (by unfold swH up1; rw [if_pos rfl]; omega) (fun J4 hJ4 hr4 => ?_)
    have hO4 : Of [105, 118, 119, 120] J J4 := (((hJ1.mo (by simp)).tr (hJ2.mo (by simp))).tr (hJ3.mo (by simp))).tr (hJ4.mo (by simp))
    have m4 : MI J4 S := by
      have := m.uHas (J := J4) (f := S.1 4) (fun k a b e => hO4 k (by simp; omega)) (fun i => by rw [hr4 i, swH_back hpq (by omega) (by omega) r hp1 hq1 i])
      rw [hasU_self] at this
      exact this
    refine c12_feeOf hs hz m4 o (by omega) (by omega) (fun J5 hJ5 => ?_)
    have hO5 : Of [105, 116, 117, 118, 119, 120] J J5 := (hO4.mo (by simp)).tr (hJ5.mo (by simp))
    have m5 := m4.fr hJ5
    -- better or not
    have no : bsF S p q k x t a = a → ∀ v11 v12, WPc g m12_best (d + 7) 0 0 184 [(0, .ref 101), (1, .int (iN p)), (2, .int (iN q)), (3, .int (iN k)), (4, .int (iN w)), (5, .int a.1), (6, .int a.2.1), (7, .int a.2.2), (8, .int (iN v)), (9, .int (iN x)), (10, .int (iN t)), (11, .int v11), (12, .int v12)] [] z J5 (Qi z K) := fun e1 v11 v12 =>
      v12_best_184 hs (v12_best_185 hs (gT rfl (v12_best_205 hs (gT rfl (gT rfl (nx a J5 hO5 m5 e1))))))
    have up : bsF S p q k x t a = bsU x t (oftA S k (lessA (moreA (sHas S p) t) x) + oftA S k (lessA (moreA (sHas S q) x) t)) (feeA S x t) → WPc g m12_best (d + 7) 0 0 180 [(0, .ref 101), (1, .int (iN p)), (2, .int (iN q)), (3, .int (iN k)), (4, .int (iN w)), (5, .int a.1), (6, .int a.2.1), (7, .int a.2.2), (8, .int (iN v)), (9, .int (iN x)), (10, .int (iN t)), (11, .int (iN (oftA S k (lessA (moreA (sHas S p) t) x) + oftA S k (lessA (moreA (sHas S q) x) t)))), (12, .int (iN (feeA S x t)))] [] z J5 (Qi z K) := fun e1 =>
      v12_best_180 hs (v12_best_185 hs (gF N1 (v12_best_205 hs (gF N1 (gF N1 (by rw [iN_mul, iN_add]; exact nx _ J5 hO5 m5 e1))))))
    rw [iN_add]
    exact ⟨fun y => up (by unfold bsF; rw [if_neg r, if_pos hc, if_pos y]), fun y => ⟨fun y2 => no (by unfold bsF; rw [if_neg r, if_pos hc, if_neg y, if_pos y2]) _ _, fun y2 => ⟨fun y3 => ⟨fun y4 => no (by unfold bsF; rw [if_neg r, if_pos hc, if_neg y, if_neg y2, if_pos y3, if_pos y4]) _ _, fun y4 => up (by unfold bsF; rw [if_neg r, if_pos hc, if_neg y, if_neg y2, if_pos y3, if_neg y4])⟩, fun y3 => no (by unfold bsF; rw [if_neg r, if_pos hc, if_neg y, if_neg y2, if_neg y3]) _ _⟩⟩⟩
theorem P_best (hs : GS g) (o : OKS S) (v1 v2 v3 v4 : Int32) : Pair g S m11_best m12_best [.int v1, .int v2, .int v3, .int v4] := by
  have n6 := o.1.1
  have p5 := o.1.2.1
  have N1 : ¬ iN 1 = iN 0 := fun q => absurd ((iN_inj (by omega) (by omega)).mp q) (by omega)
  by_cases h : inR v1 (iN 0) (iN (sNp S) - iN 1) ∧ inR v2 (iN 0) (iN (sNp S) - iN 1) ∧ v1 ≠ v2
  · obtain ⟨p, q, hp, hq, hpq, rfl, rfl⟩ := two_ok (by omega) h
    by_cases h3 : inR v3 (iN 1) (iN 12)
    · obtain ⟨k, rfl, hk1, hk⟩ := isP h3
      by_cases h4 : inR v4 (iN 0) (iN 1)
      · obtain ⟨w, rfl, _, hw⟩ := (inR_nat (by omega) (by omega)).mp h4
        refine ⟨if w = 0 then (foldA (fun x a => foldA (bsF S p q k x) (sNs S) 0 a) (sNs S) 0 (iM 1, iN (oftA S k (sHas S p) + oftA S k (sHas S q)), iN 0)).1 else (foldA (fun x a => foldA (bsF S p q k x) (sNs S) 0 a) (sNs S) 0 (iM 1, iN (oftA S k (sHas S p) + oftA S k (sHas S q)), iN 0)).2.1, S, o, fun d z I K hz c hK => ?_, fun d z I K hz m hK => ?_⟩
        · refine v11_best hs hz (gN c.np p5 (by omega) hp rfl (gN c.np p5 (by omega) hq rfl (gF h.2.2 (gT h3 (gT h4 ?_)))))
          refine c_timesAt hs hz c (hz.purse (by omega)) (c.pu (by omega)) (o.b p) (by omega) (by omega) (fun J hJ _ => ?_)
          have f1 : FrC z I J := FrC.of hJ scr_thought
          have c1 := c.fr hz f1
          refine c_timesAt hs hz c1 (hz.purse (by omega)) (c1.pu (by omega)) (o.b q) (by omega) (by omega) (fun J2 hJ2 _ => ?_)
          have f2 := f1.tr (FrC.of hJ2 scr_thought)
          rw [iN_add]
          exact best_c2 hs hz o (by omega) (by omega) (by omega) (by omega) (by omega) (sNs S) 0 (iM 1, iN (oftA S k (sHas S p) + oftA S k (sHas S q)), iN 0) J2 (by omega) (c.fr hz f2) (fun J3 hJ3 => hK.f hz c (f2.tr hJ3))
        · refine v12_best hs hz (c12_areTwo hs hz m (fun _ => gF N1 (gT h3 (gT h4 ?_))) (fun k => absurd h k))
          refine c_oftenOf hs hz m o (by omega) (by omega) (by omega) (fun J hJ _ => ?_)
          refine c_oftenOf hs hz (m.fr hJ) o (by omega) (by omega) (by omega) (fun J2 hJ2 _ => ?_)
          rw [iN_add]
          refine best_m hs hz o (by omega) (by omega) hpq (by omega) (by omega) (by omega) (sNs S * sNs S) 0 (iM 1, iN (oftA S k (sHas S p) + oftA S k (sHas S q)), iN 0) J2 (by omega) ((m.fr hJ).fr hJ2) (fun J3 hJ3 m3 => ?_)
          have ef := fold_flat (bsF S p q k) (sNs S) (sNs S) 0 (iM 1, iN (oftA S k (sHas S p) + oftA S k (sHas S q)), iN 0)
          rw [Nat.zero_mul] at ef
          rw [ef]
          exact hK J3 m3 (KeepC.of (((hJ.mo (by simp)).tr (hJ2.mo (by simp))).tr hJ3))
      · exact ⟨iM 7, S, o, fun d z I K hz c hK => v11_best hs hz (gN c.np p5 (by omega) hp rfl (gN c.np p5 (by omega) hq rfl (gF h.2.2 (gT h3 (gF h4 (hK.i c)))))), fun d z I K hz m hK => v12_best hs hz (c12_areTwo hs hz m (fun _ => gF N1 (gT h3 (gF h4 (hK.i m)))) (fun k => absurd h k))⟩
    · exact ⟨iM 7, S, o, fun d z I K hz c hK => v11_best hs hz (gN c.np p5 (by omega) hp rfl (gN c.np p5 (by omega) hq rfl (gF h.2.2 (gF h3 (hK.i c))))), fun d z I K hz m hK => v12_best hs hz (c12_areTwo hs hz m (fun _ => gF N1 (gF h3 (hK.i m))) (fun k => absurd h k))⟩
  · refine ⟨iM 5, S, o, fun d z I K hz c hK => ?_, fun d z I K hz m hK => v12_best hs hz (c12_areTwo hs hz m (fun k => absurd k h) (fun _ => gT rfl (hK.i m)))⟩
    by_cases h1 : inR v1 (iN 0) (iN (sNp S) - iN 1)
    · obtain ⟨p, hp, rfl⟩ := (inR_dn (by omega)).mp h1
      by_cases h2 : inR v2 (iN 0) (iN (sNp S) - iN 1)
      · obtain ⟨q, hq, rfl⟩ := (inR_dn (by omega)).mp h2
        have e : iN p = iN q := Classical.byContradiction (fun w => h ⟨h1, h2, w⟩)
        exact v11_best hs hz (gN c.np p5 (by omega) hp rfl (gN c.np p5 (by omega) hq rfl (gT e (hK.i c))))
      · exact v11_best hs hz (gN c.np p5 (by omega) hp rfl (gNn c.np p5 h2 (hK.i c)))
    · refine v11_best hs hz (gNn c.np p5 h1 ?_)
      by_cases h2 : inR v2 (iN 0) (iN (sNp S) - iN 1)
      · obtain ⟨q, hq, rfl⟩ := (inR_dn (by omega)).mp h2
        exact gN c.np p5 (by omega) hq rfl (hK.i c)
      · exact gNn c.np p5 h2 (hK.i c)
end PF
