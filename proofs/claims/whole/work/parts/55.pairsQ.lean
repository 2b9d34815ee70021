/-! drawn: the pair -/
section PQ
variable {g : Gt} {d : Nat} {z : Zs} {I J : Is} {S T : AS}
theorem hs6_row {p : Nat} {l : Nat → Nat} (h : ∀ s, 6 ≤ s → l s = 0) : hs6 (hasU T (rowU T p l)) = fun q => if q = p then l else hs6 T q := by
  funext q s
  unfold hs6
  by_cases c : s < 6
  · rw [if_pos c]
    show rowU T p l (6 * q + s) = _
    rw [rowU_at c]
    split
    · rfl
    · show _ = if s < 6 then sHas T q s else 0
      rw [if_pos c]
  · rw [if_neg c]
    split
    · exact (h s (by omega)).symm
    · show _ = if s < 6 then sHas T q s else 0
      rw [if_neg c]
theorem cb_m (hs : GS g) (hz : Sh z) (hp : 0 < sNp S) {n : Nat} (hn : n ≤ 40) {K : Int32 → Is → Prop} : ∀ (r i x cnt : Nat) (f : Nat → Nat) (J : Is), i + r = n → cnt ≤ i → x < 2147483648 → OKS (hasU S f) → MI J (hasU S f) → (∀ J2 f2, Of [105, 118, 119, 120] J J2 → MI J2 (hasU S f2) → (∀ i, 30 ≤ i → f2 i = f i) → WPc g m12_couldBy (d + 21) 0 0 120 [(0, .ref 101), (5, .int (iN (cnt + drwN S r x (hs6 (hasU S f))))), (6, .int (iN 0))] [] z J2 (Qi z K)) → WPc g m12_couldBy (d + 21) 0 0 41 [(0, .ref 101), (2, .int (iN n)), (3, .long (loN x)), (5, .int (iN cnt)), (6, .int (iN i))] [] z J (Qi z K)
  | 0, i, x, cnt, f, J, e, hc, hx, o, m, hK => v12_couldBy_41 hs hz ⟨fun _ => hK J f (Of.rf _ _) m (fun _ _ => rfl), fun q => absurd ((iN_le (by omega) (by omega)).mpr (by omega)) q⟩
  | r + 1, i, x, cnt, f, J, e, hc, hx, o, m, hK => by
    have p5 : sNp S ≤ 5 := o.1.2.1
    have hx1 := lotX_lt x
    have hx2 := lotX_lt (lotX x)
    have enp : J 101 4 = iN (sNp S) := m.np
    refine v12_couldBy_41 hs hz ⟨fun q => absurd ((iN_le (by omega) (by omega)).mp q) (by omega), fun _ => ?_⟩
    rw [enp]
    refine gF (fun w => absurd ((iN_le (b := 0) (by omega) (by omega)).mp w) (by omega)) ?_
    rw [lotX_e hx, lotX_e (by omega), iN_long (by omega)]
    have hm := Nat.mod_lt (lotX x) hp
    have hm6 := Nat.mod_lt (lotX (lotX x)) (show 0 < 6 by omega)
    refine ⟨fun w => absurd ((loN_inj (b := 0) (by omega) (by omega)).mp w) (by omega), ?_⟩
    rw [loN_rem (by omega) (by omega), loN_int (by omega), show (6 : Int64) = loN 6 from rfl, loN_rem (by omega) (by omega), loN_int (by omega), iN_add]
    refine m_buy hs hz o m hm (by omega) (by omega) ?_
    unfold drwN buyH at hK
    show MbK _ _ _ _ (layN _ _ (fun s => sTg S s _))
    split at hK
    · rename_i q
      rw [q]
      refine fun J2 hJ2 m2 => gT (by decide) ?_
      rw [iN_add i 1, iN_add cnt 0]
      refine cb_m hs hz hp hn r (i + 1) (lotX (lotX x)) cnt f J2 (by omega) (by omega) (by omega) o m2 (fun J3 f2 f3 m3 e3 => ?_)
      have := hK J3 f2 (hJ2.tr f3) m3 e3
      rw [Nat.zero_add] at this
      exact this
    · rename_i l q
      rw [q]
      have hle := layN_le q
      have hlt := bset_lt (fun s => decide (l s < hs6 (hasU S f) (lotX x % sNp S) s)) (sNs S)
      have n6 : sNs S ≤ 6 := o.1.1
      have hpw : 2 ^ sNs S ≤ 2 ^ 6 := Nat.pow_le_pow_right (by omega) n6
      have h6 : ∀ s, 6 ≤ s → l s = 0 := fun s a => by
        have := hle s
        unfold hs6 at this
        rw [if_neg (by omega)] at this
        omega
      have o2 := o.uRow (p := lotX x % sNp S) (h := l) (fun s _ => Nat.le_trans (hle s) (hs6_b o _ s)) (fun s a b => by
        have := hle s
        unfold hs6 at this
        rw [if_pos a, show sHas (hasU S f) (lotX x % sNp S) s = 0 from o.2.2.1.2 _ s (by omega) a b] at this
        omega)
      refine fun J2 hJ2 m2 => gF (fun w => absurd ((iN_lt (a := bset (fun s => decide (l s < hs6 (hasU S f) (lotX x % sNp S) s)) (sNs S)) (b := 0) (by omega) (by omega)).mp w) (by omega)) ?_
      rw [iN_add i 1, iN_add cnt 1]
      have e6 := hs6_row (T := hasU S f) (p := lotX x % sNp S) h6
      rw [hasU_hasU] at o2 m2 e6
      refine cb_m hs hz hp hn r (i + 1) (lotX (lotX x)) (cnt + 1) _ J2 (by omega) (by omega) (by omega) o2 m2 (fun J3 f2 f3 m3 e3 => ?_)
      have := hK J3 f2 (hJ2.tr f3) m3 (fun i hi => by
        rw [e3 i hi]
        unfold rowU
        rw [if_neg (by omega)]; rfl)
      rw [← Nat.add_assoc] at this
      rw [e6]
      exact this
theorem cb_1 (hs : GS g) (hz : Sh z) {n x : Nat} {K : Int32 → Is → Prop} (hK : ∀ J, Of [123] I J → (∀ i, i < 30 → J 123 i = I 105 i) → WPc g m12_couldBy (d + 21) 0 0 41 [(0, .ref 101), (2, .int (iN n)), (3, .long (loN x)), (5, .int (iN 0)), (6, .int (iN 0))] [] z J (Qi z K)) : ∀ (r i : Nat) (J : Is), i + r = 30 → Of [123] I J → (∀ j, j < i → J 123 j = I 105 j) → WPc g m12_couldBy (d + 21) 0 0 11 [(0, .ref 101), (2, .int (iN n)), (3, .long (loN x)), (5, .int (iN 0)), (6, .int (iN i))] [] z J (Qi z K)
  | 0, i, J, e, hJ, h1 => v12_couldBy_11 hs hz ⟨fun _ => hK J hJ (fun j hj => h1 j (by omega)), fun q => absurd ((iN_le (by omega) (by omega)).mpr (by omega)) q⟩
  | r + 1, i, J, e, hJ, h1 => by
    refine v12_couldBy_11 hs hz ⟨fun q => absurd ((iN_le (by omega) (by omega)).mp q) (by omega), fun _ => ⟨inB_n (by omega) (by omega), ?_⟩⟩
    rw [iN_add i 1, iN_toN (by omega)]
    refine cb_1 hs hz hK r (i + 1) _ (by omega) (hJ.upt (by simp) _ _) (fun j hj => ?_)
    rw [up2_ra]
    unfold up1
    split
    · rename_i q; rw [q, hJ 105 (by simp)]
    · exact h1 j (by omega)
theorem cb_3 (hs : GS g) (hz : Sh z) {v : Int32} {K : Int32 → Is → Prop} (hK : ∀ J, Of [105] I J → (∀ i, i < 30 → J 105 i = I 123 i) → (∀ i, 30 ≤ i → J 105 i = I 105 i) → K v J) : ∀ (r i : Nat) (J : Is), i + r = 30 → Of [105] I J → (∀ j, j < i → J 105 j = I 123 j) → (∀ j, i ≤ j → J 105 j = I 105 j) → WPc g m12_couldBy (d + 21) 0 0 120 [(0, .ref 101), (5, .int v), (6, .int (iN i))] [] z J (Qi z K)
  | 0, i, J, e, hJ, h1, h2 => v12_couldBy_120 hs hz ⟨fun _ => hK J hJ (fun j hj => h1 j (by omega)) (fun j hj => h2 j (by omega)), fun q => absurd ((iN_le (by omega) (by omega)).mpr (by omega)) q⟩
  | r + 1, i, J, e, hJ, h1, h2 => by
    refine v12_couldBy_120 hs hz ⟨fun q => absurd ((iN_le (by omega) (by omega)).mp q) (by omega), fun _ => ⟨inB_n (by omega) (by omega), ?_⟩⟩
    rw [iN_add i 1, iN_toN (by omega)]
    refine cb_3 hs hz hK r (i + 1) _ (by omega) (hJ.upt (by simp) _ _) (fun j hj => ?_) (fun j hj => ?_)
    · rw [up2_ra]
      unfold up1
      split
      · rename_i q; rw [q, hJ 123 (by simp)]
      · exact h1 j (by omega)
    · rw [up2_ra]
      unfold up1
      rw [if_neg (by omega)]
      exact h2 j (by omega)
theorem c_couldBy (hs : GS g) (hz : Sh z) (o : OKS S) (m : MI I S) {n a : Nat} (hn : n ≤ 40) (ha : a < 1000000) {K : Int32 → Is → Prop} (hK : ∀ J, Of [105, 118, 119, 120, 123] I J → MI J S → K (iN (drwA S a n)) J) : Wi g m12_couldBy (d + 21) [.ref 101, .int (iN a), .int (iN n)] z I K := by
  have p5 := o.1.2.1
  refine v12_couldBy hs ?_
  rw [iN_long (by omega), show (1 : Int64) = loN 1 from rfl, loN_add]
  refine cb_1 (I := I) hs hz (fun J hJ h1 => ?_) 30 0 I rfl (Of.rf _ _) (fun j hj => absurd hj (by omega))
  have m1 : MI J S := m.fr (L := [123]) hJ
  have fin : ∀ J2 f2, Of [105, 118, 119, 120] J J2 → MI J2 (hasU S f2) → (∀ i, 30 ≤ i → f2 i = S.1 4 i) → WPc g m12_couldBy (d + 21) 0 0 120 [(0, .ref 101), (5, .int (iN (drwA S a n))), (6, .int (iN 0))] [] z J2 (Qi z K) := fun J2 f2 hJ2 m2 e2 => by
    refine cb_3 (I := J2) hs hz (fun J3 hJ3 a1 a2 => ?_) 30 0 J2 rfl (Of.rf _ _) (fun j hj => absurd hj (by omega)) (fun j hj => rfl)
    refine hK J3 ((hJ.mo (by simp)).tr ((hJ2.mo (by simp)).tr (hJ3.mo (by simp)))) ?_
    have m3 : MI J3 (hasU (hasU S f2) (S.1 4)) := m2.uHas (fun k a b e => hJ3 k (by simp; exact e)) (fun i => by
      by_cases q : i < 30
      · rw [a1 i q, hJ2 123 (by simp), h1 i q, m.has]
      · rw [a2 i (by omega), m2.has]
        show iN (f2 i) = _
        rw [e2 i (by omega)])
    rw [hasU_hasU, hasU_self] at m3
    exact m3
  have mS : MI J (hasU S (S.1 4)) := by rw [hasU_self]; exact m1
  by_cases hp : sNp S = 0
  · have e0 : drwA S a n = 0 := by unfold drwA; rw [if_pos hp]
    rw [e0] at fin
    have enp : J 101 4 = iN (sNp S) := m1.np
    refine v12_couldBy_41 hs hz ⟨fun _ => fin J (S.1 4) (Of.rf _ _) mS (fun _ _ => rfl), fun _ => ?_⟩
    rw [enp, hp]
    exact gT (by decide) (fin J (S.1 4) (Of.rf _ _) mS (fun _ _ => rfl))
  · have e0 : drwA S a n = drwN S n (a + 1) (hs6 S) := by unfold drwA; rw [if_neg hp]
    rw [e0] at fin
    refine cb_m hs hz (by omega) hn n 0 (a + 1) 0 (S.1 4) J (by omega) (by omega) (by omega) (by rw [hasU_self]; exact o) mS (fun J2 f2 hJ2 m2 e2 => ?_)
    rw [hasU_self, Nat.zero_add]
    exact fin J2 f2 hJ2 m2 e2
theorem P_drawn (hs : GS g) (o : OKS S) (v1 v2 : Int32) : Pair40 g S m11_drawn m12_drawn [.int v1, .int v2] := by
  by_cases h1 : inR v1 (iN 0) (iN 99999)
  · by_cases h2 : inR v2 (iN 0) (iN 40)
    · obtain ⟨a, rfl, _, ha⟩ := (inR_nat (by omega) (by omega)).mp h1
      obtain ⟨n, rfl, _, hn⟩ := (inR_nat (by omega) (by omega)).mp h2
      exact ⟨iN (drwA S a n), S, o, fun d z I K hz c hK => v11_drawn (d := d + 39) hs hz (gT h1 (gT h2 (c_drawnBy (d := d + 35) hs hz o c hn (by omega) (fun J2 f => hK.f hz c f)))), fun d z I K hz m hK => v12_drawn (d := d + 38) hs hz (gT ⟨h1, h2⟩ (c_couldBy (d := d + 18) hs hz o m hn (by omega) (fun J hJ m2 => hK J m2 (KeepC.of hJ))))⟩
    · exact ⟨iM 2, S, o, fun d z I K hz c hK => v11_drawn (d := d + 39) hs hz (gT h1 (gF h2 (hK.i c))), fun d z I K hz m hK => v12_drawn (d := d + 38) hs hz (gF (fun w => h2 w.2) (hK.i m))⟩
  · exact ⟨iM 2, S, o, fun d z I K hz c hK => v11_drawn (d := d + 39) hs hz (gF h1 (hK.i c)), fun d z I K hz m hK => v12_drawn (d := d + 38) hs hz (gF (fun w => h1 w.1) (hK.i m))⟩
end PQ
