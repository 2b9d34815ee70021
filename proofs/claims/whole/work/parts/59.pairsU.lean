section PU
variable {g : Gt} {d : Nat} {z : Zs} {I J : Is} {S : AS}
theorem wgF_ge {p n k w : Nat} {a : I2} (h : iM 1 ≤ a.2) : iM 1 ≤ (wgF S p n k w a).2 := by
  unfold wgF
  split
  next =>
    split
    next => exact h
    next => exact iM_le (by have := oftA_le S k (hF (sN (sNs S) w) (sHas S p) n); omega) (by omega)
  next => exact h
-- the class
theorem tw_l {w n p : Nat} {K : Int32 → Is → Prop} (hs : GS g) (hz : Sh z) (c : CI z I S) (o : OKS S) (hn : n ≤ 4) (h0 : 0 < n → 0 < sNs S) (hw : w < 1296)
    (hK : okS (sNs S) w n = true ∧ rmF (sN (sNs S) w) (sHas S p) n = true → ∀ J, Of [17] I J → Rw J 17 (hF (sN (sNs S) w) (sHas S p) n) → K (iN (dS (sNs S) w n)) J)
    (hN : ¬ (okS (sNs S) w n = true ∧ rmF (sN (sNs S) w) (sHas S p) n = true) → ∀ J, Of [17] I J → K (iM 1) J) : ∀ (m j : Nat) (J : Is), j + m = n → okS (sNs S) w j = true → rmF (sN (sNs S) w) (sHas S p) j = true → Of [17] I J → Rw J 17 (hF (sN (sNs S) w) (sHas S p) j) → WPc g m11_tryWage (d + 2) 0 0 24 [(0, .ref 8), (2, .int (iN n)), (4, .int (iN (w / sNs S ^ j))), (5, .int (iN (bhN (sNs S) w j))), (6, .int (iN (10 ^ j))), (7, .int (iN (dS (sNs S) w j))), (8, .int (iN j))] [] z J (Qi z K)
  | 0, j, J, e, ho, hr, hO, hrw => by
    have e2 : j = n := by omega
    rw [e2] at ho hr hrw
    refine v11_tryWage_24 hs hz ⟨fun _ => ?_, fun q => absurd ((iN_le (by omega) (by omega)).mpr (by omega)) q⟩
    rw [e2]; exact hK ⟨ho, hr⟩ J hO hrw
  | m + 1, j, J, e, ho, hr, hO, hrw => by
    have n6 := o.1.1
    have ns0 := h0 (by omega)
    have cJ := c.fr hz (FrC.of hO (fun k hk => scr_trial k (by simp at hk ⊢; omega)))
    have dw : w / sNs S ^ j ≤ w := Nat.div_le_self _ _
    have hs6 : sN (sNs S) w j < 6 := Nat.lt_of_lt_of_le (sN_lt ns0 w j) n6
    have hb := hF_b99 (o.b p) hr (sN (sNs S) w j) hs6
    have bh : bhN (sNs S) w j ≤ 6 := by
      cases j with
      | zero => exact Nat.le_refl _
      | succ j => have := sN_lt ns0 w j; show sN (sNs S) w j ≤ 6; omega
    have bad : ¬ (okS (sNs S) w (j + 1) = true ∧ rmF (sN (sNs S) w) (sHas S p) (j + 1) = true) → ¬ (okS (sNs S) w n = true ∧ rmF (sN (sNs S) w) (sHas S p) n = true) := fun q a => q ⟨okS_dn (by omega) a.1, rmF_dn _ _ (by omega) a.2⟩
    refine v11_tryWage_24 hs hz ⟨fun q => absurd ((iN_le (by omega) (by omega)).mp q) (by omega), fun _ => ⟨fun q => ?_, fun _ => ⟨fun q => ?_, ?_⟩⟩⟩
    · rw [cJ.ns] at q; exact absurd ((iN_le (b := 0) (by omega) (by omega)).mp q) (by omega)
    · rw [cJ.ns] at q; exact absurd ((iN_inj (b := 0) (by omega) (by omega)).mp q) (by omega)
    · rw [cJ.ns, iR_N (by omega) (by omega)]
      show WPc g m11_tryWage (d + 2) 0 0 48 [(0, .ref 8), (2, .int (iN n)), (4, .int (iN (w / sNs S ^ j))), (5, .int (iN (bhN (sNs S) w j))), (6, .int (iN (10 ^ j))), (7, .int (iN (dS (sNs S) w j))), (8, .int (iN j))] [.int (iN (sN (sNs S) w j))] z J (Qi z K)
      refine v11_tryWage_48 hs hz ⟨fun q => ?_, fun q => ?_⟩
      · rw [iN_lt (by omega) (by omega)] at q
        refine hN (bad (fun a => ?_)) J hO
        have := Nat.ble_eq.mp ((Bool.and_eq_true _ _).mp (show (okS (sNs S) w j && Nat.ble (sN (sNs S) w j) (bhN (sNs S) w j)) = true from a.1)).2
        omega
      · rw [iN_lt (by omega) (by omega)] at q
        refine c_grow hs hz.trial hs6 (hrw _ hs6) hb (by omega) ⟨fun q2 => ?_, fun q2 => ?_⟩
        · rw [iN_inj (b := 0) (by omega) (by omega)] at q2
          refine hN (bad (fun a => ?_)) _ (hO.upt (by simp) _ _)
          have := of_decide_eq_true ((Bool.and_eq_true _ _).mp (show (rmF (sN (sNs S) w) (sHas S p) j && decide (hF (sN (sNs S) w) (sHas S p) j (sN (sNs S) w j) < 99)) = true from a.2)).2
          omega
        · rw [iN_inj (b := 0) (by omega) (by omega)] at q2
          have hm : min 1 (99 - hF (sN (sNs S) w) (sHas S p) j (sN (sNs S) w j)) = 1 := by omega
          have nsJ : up2 J (16 + 1) (sN (sNs S) w j) (iN (hF (sN (sNs S) w) (sHas S p) j (sN (sNs S) w j) + min 1 (99 - hF (sN (sNs S) w) (sHas S p) j (sN (sNs S) w j)))) 8 10 = iN (sNs S) := by rw [up2_ro _ (by omega)]; exact cJ.ns
          rw [nsJ, show mxI (iN 1) (iN (sNs S)) = iN (sNs S) by rw [mxI_N (by omega) (by omega)]; congr 1; omega]
          refine ⟨fun q3 => absurd ((iN_inj (b := 0) (by omega) (by omega)).mp q3) (by omega), ?_⟩
          rw [iN_div (by omega) (by omega), iN_mul, iN_add, iN_mul, iN_add, iN_add, hm, Nat.div_div_eq_div_mul, ← Nat.pow_succ, ← Nat.pow_succ]
          refine tw_l hs hz c o hn h0 hw hK hN m (j + 1) _ (by omega) ?_ ?_ (hO.upt (by simp) _ _) (hrw.up _)
          · show (okS (sNs S) w j && Nat.ble (sN (sNs S) w j) (bhN (sNs S) w j)) = true
            rw [ho, Bool.true_and]; exact Nat.ble_eq.mpr (by omega)
          · show (rmF (sN (sNs S) w) (sHas S p) j && decide (hF (sN (sNs S) w) (sHas S p) j (sN (sNs S) w j) < 99)) = true
            rw [hr, Bool.true_and]; exact decide_eq_true (by omega)
theorem tw_0 {w n p : Nat} {K : Int32 → Is → Prop} (hs : GS g) (hz : Sh z) (c : CI z I S) (o : OKS S) (hn : n ≤ 4) (h0 : 0 < n → 0 < sNs S) (hw : w < 1296) (hr : Rw I 17 (sHas S p))
    (hK : okS (sNs S) w n = true ∧ rmF (sN (sNs S) w) (sHas S p) n = true → ∀ J, Of [17] I J → Rw J 17 (hF (sN (sNs S) w) (sHas S p) n) → K (iN (dS (sNs S) w n)) J)
    (hN : ¬ (okS (sNs S) w n = true ∧ rmF (sN (sNs S) w) (sHas S p) n = true) → ∀ J, Of [17] I J → K (iM 1) J) : WPc g m11_tryWage (d + 2) 0 0 24 [(0, .ref 8), (2, .int (iN n)), (4, .int (iN w)), (5, .int (iN 6)), (6, .int (iN 1)), (7, .int (iN 0)), (8, .int (iN 0))] [] z I (Qi z K) := by
  have := tw_l (d := d) hs hz c o hn h0 hw hK hN n 0 I (by omega) rfl rfl (Of.rf _ I) hr
  rw [Nat.pow_zero, Nat.div_one] at this
  exact this
theorem wg_c {p n k v : Nat} {K : Int32 → Is → Prop} (hs : GS g) (hz : Sh z) (o : OKS S) (hp : p < 5) (hn : n ≤ 4) (hk0 : 0 < k) (hk : k ≤ 12) (hv : v < 2) : ∀ (r w : Nat) (a : I2) (J : Is), w + r = sNs S ^ n → iM 1 ≤ a.2 → CI z J S → (∀ J2, FrC z J J2 → K (pk2 v (foldA (wgF S p n k) r w a)) J2) → WPc g m11_wage (d + 7) 0 0 80 [(0, .ref 8), (2, .int (iN n)), (3, .int (iN k)), (4, .int (iN v)), (5, .ref (49 + 8 * p)), (6, .int (iN (sNs S ^ n))), (7, .int a.1), (8, .int a.2), (9, .int (iN w))] [] z J (Qi z K)
  | 0, w, a, J, e, ha, c, hK => by
    have pb := powb o.1.1 hn
    exact v11_wage_80 hs hz ⟨fun _ => pick2 (by omega) rfl (hK J (FrC.rf z J)), fun q => absurd ((iN_le (by omega) (by omega)).mpr (by omega)) q⟩
  | r + 1, w, a, J, e, ha, c, hK => by
    have pb := powb o.1.1 hn
    have n6 := o.1.1
    have nx := fun a' (J1 : Is) (f1 : FrC z J J1) => wg_c (K := K) (v := v) hs hz o hp hn hk0 hk hv r (w + 1) a' J1 (by omega)
    have h0 : 0 < n → 0 < sNs S := fun a => by
      rcases Nat.eq_zero_or_pos (sNs S) with q | q
      · rw [q, Nat.zero_pow a] at e; omega
      · exact q
    refine v11_wage_80 hs hz ⟨fun q => absurd ((iN_le (by omega) (by omega)).mp q) (by omega), fun _ => ?_⟩
    refine v11_tryWage hs hz (c_become (h := sHas S p) hs hz.trial (hz.purse hp) (c.pu hp) (fun J0 hJ0 hr0 => ?_))
    have f0 : FrC z J J0 := FrC.of (Of.mo hJ0 (fun k hk => hk)) (fun k hk => scr_trial k (by simp at hk ⊢; omega))
    refine tw_0 (w := w) (n := n) (p := p) (d := d + 4) hs hz (c.fr hz f0) o hn h0 (by omega) hr0 (fun h1 J1 hJ1 hr1 => ?_) (fun h1 J1 hJ1 => ?_)
    · have f1 : FrC z J J1 := f0.tr (FrC.of hJ1 (fun k hk => scr_trial k (by simp at hk ⊢; omega)))
      have hd : dS (sNs S) w n < 100000 := by
        have : ∀ j, sN (sNs S) w j ≤ 6 := fun j => by
          rcases Nat.eq_zero_or_pos (sNs S) with q | q
          · rcases Nat.eq_zero_or_pos n with q2 | q2
            · rw [q2] at e; unfold sN; rw [q, Nat.mod_zero]
              have : w = 0 := by rw [Nat.pow_zero] at e; omega
              rw [this, Nat.zero_div]; omega
            · rw [q] at h0; exact absurd (h0 q2) (by omega)
          · have := sN_lt q w j; omega
        have a0 := this 0; have a1 := this 1; have a2 := this 2; have a3 := this 3
        have key : n = 0 ∨ n = 1 ∨ n = 2 ∨ n = 3 ∨ n = 4 := by omega
        rcases key with rfl | rfl | rfl | rfl | rfl
        · show 0 < 100000; omega
        · show 0 + 1 * (sN (sNs S) w 0 + 1) < _; omega
        · show 0 + 1 * (sN (sNs S) w 0 + 1) + 10 * (sN (sNs S) w 1 + 1) < _; omega
        · show 0 + 1 * (sN (sNs S) w 0 + 1) + 10 * (sN (sNs S) w 1 + 1) + 100 * (sN (sNs S) w 2 + 1) < _; omega
        · show 0 + 1 * (sN (sNs S) w 0 + 1) + 10 * (sN (sNs S) w 1 + 1) + 100 * (sN (sNs S) w 2 + 1) + 1000 * (sN (sNs S) w 3 + 1) < _; omega
      refine ⟨fun _ => ?_, fun q => absurd ((iN_le (a := 0) (by omega) (by omega)).mpr (Nat.zero_le _)) q⟩
      refine c_timesAt hs hz (c.fr hz f1) hz.trial hr1 (hF_b99 (o.b p) h1.2) hk0 (by omega) (fun J2 hJ2 _ => ?_)
      have f2 := f1.tr (FrC.of hJ2 scr_thought)
      have hK' : ∀ J3, FrC z J2 J3 → K (pk2 v (foldA (wgF S p n k) r (w + 1) (wgF S p n k w a))) J3 := fun J3 hJ3 => hK J3 (f2.tr hJ3)
      have hg := wgF_ge (S := S) (p := p) (n := n) (k := k) (w := w) ha
      unfold wgF at hK' hg
      rw [if_pos h1] at hK' hg
      rw [iN_add]
      refine ⟨fun q => ?_, fun q => ?_⟩
      · rw [if_pos q] at hK'; exact nx a J2 f2 ha (c.fr hz f2) hK'
      · rw [if_neg q] at hK' hg; exact nx (iN (dS (sNs S) w n), iN (oftA S k (hF (sN (sNs S) w) (sHas S p) n))) J2 f2 hg (c.fr hz f2) hK'
    · have f1 : FrC z J J1 := f0.tr (FrC.of hJ1 (fun k hk => scr_trial k (by simp at hk ⊢; omega)))
      refine ⟨fun q => absurd q (by decide), fun _ => ⟨fun _ => ?_, fun q => absurd ha q⟩⟩
      rw [iN_add]
      refine nx a J1 f1 ha (c.fr hz f1) (fun J3 hJ3 => ?_)
      have := hK J3 (f1.tr hJ3)
      rw [foldA_s] at this
      unfold wgF at this
      rw [if_neg h1] at this
      exact this
theorem wp_c {p n k v : Nat} {K : Int32 → Is → Prop} (hs : GS g) (hz : Sh z) (c : CI z I S) (o : OKS S) (hp : p < 5) (hn : n ≤ 4) (hk0 : 0 < k) (hk : k ≤ 12) (hv : v < 2) (hK : ∀ J2, FrC z I J2 → K (pk2 v (foldA (wgF S p n k) (sNs S ^ n) 0 (iM 1, iM 1))) J2) : ∀ (r i : Nat), i + r = n → WPc g m11_wage (d + 7) 0 0 50 [(0, .ref 8), (2, .int (iN n)), (3, .int (iN k)), (4, .int (iN v)), (5, .ref (49 + 8 * p)), (6, .int (iN (sNs S ^ i))), (7, .int (iN i))] [] z I (Qi z K)
  | 0, i, e => by
    obtain rfl : i = n := by omega
    exact v11_wage_50 hs hz ⟨fun _ => wg_c hs hz o hp hn hk0 hk hv (sNs S ^ i) 0 (iM 1, iM 1) I (by omega) (by decide) c hK, fun q => absurd ((iN_le (by omega) (by omega)).mpr (Nat.le_refl _)) q⟩
  | r + 1, i, e => by
    refine v11_wage_50 hs hz ⟨fun q => absurd ((iN_le (by omega) (by omega)).mp q) (by omega), fun _ => ?_⟩
    rw [c.ns, iN_mul, ← Nat.pow_succ, iN_add]
    exact wp_c hs hz c o hp hn hk0 hk hv hK r (i + 1) (by omega)
-- the reference
theorem or_l {n k : Nat} {f h : Nat → Nat} {K : Int32 → Is → Prop} (hs : GS g) (hz : Sh z) (m : MI I S) (o : OKS S) (hn : n ≤ 4) (hk0 : 0 < k) (hk : k ≤ 12) (hb : Bd 99 h) (hf : ∀ i, i < n → f i < 6 ∧ I 121 i = iN (f i))
    (hK : rmF f h n = true → ∀ J, Of [118, 119, 120] I J → K (iN (oftA S k (hF f h n))) J) (hN : ¬ rmF f h n = true → ∀ J, Of [118, 119, 120] I J → K (iM 1) J) : ∀ (r i : Nat) (J : Is), i + r = n → rmF f h i = true → Of [118] I J → Rw J 118 (hF f h i) → WPc g m12_oftenWithRow (d + 4) 0 0 8 [(0, .ref 101), (2, .int (iN n)), (3, .int (iN k)), (4, .int (iN i))] [] z J (Qi z K)
  | 0, i, J, e, hr, hO, hrw => by
    obtain rfl : i = n := by omega
    refine v12_oftenWithRow_8 hs hz ⟨fun _ => ?_, fun q => absurd ((iN_le (by omega) (by omega)).mpr (Nat.le_refl _)) q⟩
    exact c_oftenNow hs hz (m.fr hO) o hk0 (by omega) (hF_b99 hb hr) hrw (fun J2 hJ2 _ => hK hr J2 ((hO.mo (by simp)).tr hJ2))
  | r + 1, i, J, e, hr, hO, hrw => by
    obtain ⟨f6, fi⟩ := hf i (by omega)
    have hb9 := hF_b99 hb hr (f i) f6
    have mid : inB (iN (f i)) 6 = true ∧ ((((up2 J 118 (f i) ((J 118 (f i)) + iN 1)) 118 (f i)) ≤ iN 99 → WPc g m12_oftenWithRow (d + 4) 0 0 8 [(0, .ref 101), (2, .int (iN n)), (3, .int (iN k)), (4, .int (iN i + iN 1))] [] z (up2 J 118 (f i) ((J 118 (f i)) + iN 1)) (Qi z K)) ∧ (¬ ((up2 J 118 (f i) ((J 118 (f i)) + iN 1)) 118 (f i)) ≤ iN 99 → K (iM 1) (up2 J 118 (f i) ((J 118 (f i)) + iN 1)))) := by
      rw [hrw (f i) f6, up2_ra, up1_s, iN_add, iN_add, iN_le (by omega) (by omega)]
      refine ⟨inB_n f6 (by omega), fun q => ?_, fun q => ?_⟩
      · refine or_l hs hz m o hn hk0 hk hb hf hK hN r (i + 1) _ (by omega) ?_ (hO.upt (by simp) _ _) (hrw.up _)
        show (rmF f h i && decide (hF f h i (f i) < 99)) = true
        rw [hr, Bool.true_and]; exact decide_eq_true (by omega)
      · refine hN (fun a => ?_) _ ((hO.mo (by simp)).upt (by simp) _ _)
        have := of_decide_eq_true ((Bool.and_eq_true _ _).mp (show (rmF f h i && decide (hF f h i (f i) < 99)) = true from rmF_dn f h (i := i + 1) (by omega) a)).2
        omega
    refine v12_oftenWithRow_8 hs hz ⟨fun q => absurd ((iN_le (by omega) (by omega)).mp q) (by omega), fun _ => ⟨inB_n (by omega) (by omega), ?_⟩⟩
    rw [iN_toN (by omega), hO 121 (by simp), fi, iN_toN (by omega)]
    exact mid
theorem rd_l {n : Nat} {f : Nat → Nat} {K : Int32 → Is → Prop} (hs : GS g) (hz : Sh z) (hn : n ≤ 4) (hf : ∀ i, i < n → I 121 i = iN (f i)) (hK : K (iN (dM f n)) I) : ∀ (r i : Nat), i + r = n → WPc g m12_rowDigits d 0 0 4 [(0, .ref 101), (1, .int (iN n)), (2, .int (iN (dM f i))), (3, .int (iN i))] [] z I (Qi z K)
  | 0, i, e => by
    obtain rfl : i = n := by omega
    exact v12_rowDigits_4 hs hz ⟨fun _ => hK, fun q => absurd ((iN_le (by omega) (by omega)).mpr (Nat.le_refl _)) q⟩
  | r + 1, i, e => by
    refine v12_rowDigits_4 hs hz ⟨fun q => absurd ((iN_le (by omega) (by omega)).mp q) (by omega), fun _ => ⟨inB_n (by omega) (by omega), ?_⟩⟩
    rw [iN_toN (by omega), hf i (by omega), iN_mul, iN_add, iN_add, iN_add]
    exact rd_l hs hz hn hf hK r (i + 1) (by omega)
theorem nr_2 {n v k : Nat} {K : Int32 → Is → Prop} (hs : GS g) (hz : Sh z) (hn : n ≤ 4) (hK : ∀ J, Of [121] I J → (∀ i, i < k → J 121 i = I 121 i) → (∀ i, k ≤ i → i < n → J 121 i = iN v) → K (iN 1) J) : ∀ (r i : Nat) (J : Is), i + r = n → k ≤ i → Of [121] I J → (∀ j, j < k → J 121 j = I 121 j) → (∀ j, k ≤ j → j < i → J 121 j = iN v) → WPc g m12_nextRow d 0 0 35 [(0, .ref 101), (1, .int (iN n)), (3, .int (iN v)), (4, .int (iN i))] [] z J (Qi z K)
  | 0, i, J, e, hki, hO, h1, h2 => by
    obtain rfl : i = n := by omega
    exact v12_nextRow_35 hs hz ⟨fun _ => hK J hO h1 h2, fun q => absurd ((iN_le (by omega) (by omega)).mpr (Nat.le_refl _)) q⟩
  | r + 1, i, J, e, hki, hO, h1, h2 => by
    refine v12_nextRow_35 hs hz ⟨fun q => absurd ((iN_le (by omega) (by omega)).mp q) (by omega), fun _ => ⟨inB_n (by omega) (by omega), ?_⟩⟩
    rw [iN_toN (by omega), iN_add]
    refine nr_2 hs hz hn hK r (i + 1) _ (by omega) (by omega) (hO.upt (by simp) _ _) (fun j hj => ?_) (fun j a b => ?_)
    · rw [up2_ra, up1_o _ (by omega)]; exact h1 j hj
    · rw [up2_ra]; unfold up1; split
      next => rfl
      next => exact h2 j a (by omega)
theorem nr_1 {n : Nat} {f : Nat → Nat} {K : Int32 → Is → Prop} (hs : GS g) (hz : Sh z) (m : MI I S) (o : OKS S) (ns0 : 0 < sNs S) (hn : n ≤ 4) (hf : ∀ i, i < n → f i < 6 ∧ I 121 i = iN (f i)) : ∀ (k : Nat), k ≤ n → (kfN f (sNs S) k = none → K (iN 0) I) → (∀ j, kfN f (sNs S) k = some j → ∀ J, Of [121] I J → (∀ i, i < n → J 121 i = iN (nrN f j i)) → K (iN 1) J) → WPc g m12_nextRow d 0 0 4 [(0, .ref 101), (1, .int (iN n)), (2, .int (iN k - iN 1))] [] z I (Qi z K)
  | 0, hk, h0, h1 => v12_nextRow_4 hs hz ⟨fun _ => h0 rfl, fun q => absurd (by decide) q⟩
  | k + 1, hk, h0, h1 => by
    have n6 := o.1.1
    obtain ⟨f6, fk⟩ := hf k (by omega)
    rw [iN_sub (by omega), show k + 1 - 1 = k by omega]
    refine v12_nextRow_4 hs hz ⟨fun q => absurd ((iN_lt (by omega) (by omega)).mp q) (by omega), fun _ => ⟨inB_n (by omega) (by omega), ?_⟩⟩
    rw [iN_toN (by omega), fk, m.ns, iN_sub (by omega), iN_le (by omega) (by omega)]
    refine ⟨fun q => ?_, fun q => ?_⟩
    · have e : kfN f (sNs S) (k + 1) = kfN f (sNs S) k := by
        show (if f k < sNs S - 1 then some k else kfN f (sNs S) k) = _
        rw [if_neg (by omega)]
      rw [e] at h0 h1
      have := nr_1 hs hz m o ns0 hn hf k (by omega) h0 h1
      rw [show iN k + iM 1 = iN k - iN 1 by rw [Int32.sub_eq_add_neg]; rfl]
      exact this
    · have e : kfN f (sNs S) (k + 1) = some k := by
        show (if f k < sNs S - 1 then some k else kfN f (sNs S) k) = _
        rw [if_pos (by omega)]
      rw [iN_add]
      refine nr_2 hs hz hn (k := k) (fun J hJ a b => h1 k e J hJ (fun i hi => ?_)) (n - k) k I (by omega) (Nat.le_refl _) (Of.rf _ I) (fun _ _ => rfl) (fun j a b => absurd b (by omega))
      show J 121 i = iN (if i < k then f i else f k + 1)
      by_cases q2 : i < k
      · rw [if_pos q2, a i q2, (hf i hi).2]
      · rw [if_neg q2, b i (by omega) hi]
theorem rw_lt {ns n w : Nat} (h6 : ns ≤ 6) (h : 0 < n → 0 < ns) {i : Nat} (hi : i < n) : rwN ns n w i < 6 := Nat.lt_of_lt_of_le (sN_lt (h (by omega)) w _) h6
theorem wg_m {p n k v : Nat} {K : Int32 → Is → Prop} (hs : GS g) (hz : Sh z) (o : OKS S) (hp : p < 5) (hn : n ≤ 4) (hk0 : 0 < k) (hk : k ≤ 12) (hv : v < 2) (h0 : 0 < n → 0 < sNs S) : ∀ (r w : Nat) (a : I2) (J : Is), sNs S ^ n - w ≤ r → w < sNs S ^ n → okS (sNs S) w n = true → iM 1 ≤ a.2 → MI J S → (∀ i, i < n → J 121 i = iN (rwN (sNs S) n w i)) → (∀ J2, Of [118, 119, 120, 121] J J2 → K (pk2 v (foldA (wgF S p n k) (sNs S ^ n - w) w a)) J2) → WPc g m12_wage (d + 6) 0 0 87 [(0, .ref 101), (1, .int (iN p)), (2, .int (iN n)), (3, .int (iN k)), (4, .int (iN v)), (5, .int a.1), (6, .int a.2), (7, .int (iN 1))] [] z J (Qi z K)
  | 0, w, a, J, e, hw, ok, ha, m, hr, hK => absurd e (by omega)
  | r + 1, w, a, J, e, hw, ok, ha, m, hr, hK => by
    have n6 := o.1.1
    have pb := powb o.1.1 hn
    have N1 : ¬ iN 1 = iN 0 := fun q => absurd ((iN_inj (by omega) (by omega)).mp q) (by omega)
    have hfo := oftA_le S k (hF (sN (sNs S) w) (sHas S p) n)
    -- behind the row
    have fin : ∀ (a' : I2) (J1 : Is), wgF S p n k w a = a' → Of [118, 119, 120] J J1 → Wi g m12_nextRow (d + 5) [.ref 101, .int (iN n)] z J1 (fun x J2 => WPc g m12_wage (d + 6) 0 0 87 [(0, .ref 101), (1, .int (iN p)), (2, .int (iN n)), (3, .int (iN k)), (4, .int (iN v)), (5, .int a'.1), (6, .int a'.2), (7, .int x)] [] z J2 (Qi z K)) := fun a' J1 ea h1 => by
      have hr1 : ∀ i, i < n → rwN (sNs S) n w i < 6 ∧ J1 121 i = iN (rwN (sNs S) n w i) := fun i hi => ⟨rw_lt n6 h0 hi, by rw [h1 121 (by simp)]; exact hr i hi⟩
      have ha' : iM 1 ≤ a'.2 := by rw [← ea]; exact wgF_ge ha
      have go0 : kfN (rwN (sNs S) n w) (sNs S) n = none → WPc g m12_wage (d + 6) 0 0 87 [(0, .ref 101), (1, .int (iN p)), (2, .int (iN n)), (3, .int (iN k)), (4, .int (iN v)), (5, .int a'.1), (6, .int a'.2), (7, .int (iN 0))] [] z J1 (Qi z K) := fun q => by
        have no := nx_none hn n6 hw ok q
        have hK1 := hK J1 (h1.mo (by simp))
        rw [show sNs S ^ n - w = (sNs S ^ n - w - 1) + 1 by omega, foldA_s, ea, foldA_id _ _ _ (fun u b1 b2 a2 => by unfold wgF; rw [if_neg (fun c => by rw [no u (by omega) (by omega)] at c; exact absurd c.1 (by decide))])] at hK1
        exact v12_wage_87 hs hz ⟨fun _ => pick2 (by omega) rfl hK1, fun q => absurd rfl q⟩
      have go1 : ∀ j, kfN (rwN (sNs S) n w) (sNs S) n = some j → ∀ J2, Of [121] J1 J2 → (∀ i, i < n → J2 121 i = iN (nrN (rwN (sNs S) n w) j i)) → WPc g m12_wage (d + 6) 0 0 87 [(0, .ref 101), (1, .int (iN p)), (2, .int (iN n)), (3, .int (iN k)), (4, .int (iN v)), (5, .int a'.1), (6, .int a'.2), (7, .int (iN 1))] [] z J2 (Qi z K) := fun j q J2 h2 hr2 => by
        obtain ⟨u, b1, b2, b3, b4, b5⟩ := nx_some hn n6 hw ok q
        have f2 : Of [118, 119, 120, 121] J J2 := (h1.mo (by simp)).tr (h2.mo (by simp))
        refine wg_m hs hz o hp hn hk0 hk hv h0 r u a' J2 (by omega) b2 b3 ha' (m.fr f2) (fun i hi => by rw [hr2 i hi, b4 i hi]) (fun J3 hJ3 => ?_)
        have hK1 := hK J3 (f2.tr hJ3)
        rw [show sNs S ^ n - w = ((u - w - 1) + (sNs S ^ n - u)) + 1 by omega, foldA_s, ea, foldA_add, foldA_id (u - w - 1) (w + 1) a' (fun x c1 c2 a2 => by unfold wgF; rw [if_neg (fun c => by rw [b5 x (by omega) (by omega)] at c; exact absurd c.1 (by decide))]), show w + 1 + (u - w - 1) = u by omega] at hK1
        exact hK1
      refine v12_nextRow hs ?_
      rcases Nat.eq_zero_or_pos (sNs S) with q | q
      · rcases Nat.eq_zero_or_pos n with q2 | q2
        · rw [q2] at go0 ⊢
          exact v12_nextRow_4 hs hz ⟨fun _ => go0 rfl, fun q => absurd (by decide) q⟩
        · have := h0 q2; omega
      · exact nr_1 hs hz (m.fr h1) o q hn hr1 n (Nat.le_refl _) go0 go1
    refine v12_wage_87 hs hz ⟨fun q => absurd q N1, fun _ => ?_⟩
    refine v12_oftenWithRow hs hz (c_thinksOf hs hz m o hp (fun J0 hJ0 hr0 => ?_))
    have h0' : Of [118, 119, 120] J J0 := hJ0.mo (by simp)
    have hrev := rmF_rev (sN (sNs S) w) (sHas S p) hn
    refine or_l (f := rwN (sNs S) n w) (h := sHas S p) hs hz (m.fr hJ0) o hn hk0 hk (o.b p) (fun i hi => ⟨rw_lt n6 h0 hi, by rw [hJ0 121 (by simp)]; exact hr i hi⟩) (fun hroom J1 hJ1 => ?_) (fun hroom J1 hJ1 => ?_) n 0 J0 (by omega) rfl (Of.rf _ J0) hr0
    · have h1 : Of [118, 119, 120] J J1 := h0'.tr hJ1
      have hc : okS (sNs S) w n = true ∧ rmF (sN (sNs S) w) (sHas S p) n = true := ⟨ok, by rw [← hrev]; exact hroom⟩
      have eo : oftA S k (hF (rwN (sNs S) n w) (sHas S p) n) = oftA S k (hF (sN (sNs S) w) (sHas S p) n) := (oft_cg (fun s _ => hF_rev (sN (sNs S) w) (sHas S p) hn s)).1
      rw [eo]
      refine ⟨fun q => ?_, fun q => ?_⟩
      · refine v12_wage_118 hs hz (gT q (fin (a.1, a.2) J1 ?_ h1))
        unfold wgF; rw [if_pos hc, if_pos q]
      · refine v12_rowDigits hs (rd_l (f := rwN (sNs S) n w) hs hz hn (fun i hi => by rw [h1 121 (by simp)]; exact hr i hi) ?_ n 0 (by omega))
        rw [dM_dS _ _ n hn]
        refine v12_wage_118 hs hz (gF q (fin (iN (dS (sNs S) w n), iN (oftA S k (hF (sN (sNs S) w) (sHas S p) n))) J1 ?_ h1))
        unfold wgF; rw [if_pos hc, if_neg q]
    · have h1 : Of [118, 119, 120] J J1 := h0'.tr hJ1
      refine ⟨fun _ => v12_wage_118 hs hz (gT ha (fin (a.1, a.2) J1 ?_ h1)), fun q => absurd ha q⟩
      unfold wgF; rw [if_neg (fun c => hroom (by rw [← hrev] at c; exact c.2))]
theorem r0_m {p n k v : Nat} {K : Int32 → Is → Prop} (hs : GS g) (hz : Sh z) (m : MI I S) (o : OKS S) (hp : p < 5) (hn : n ≤ 4) (hk0 : 0 < k) (hk : k ≤ 12) (hv : v < 2) (hK : ∀ J2, Of [118, 119, 120, 121] I J2 → K (pk2 v (foldA (wgF S p n k) (sNs S ^ n) 0 (iM 1, iM 1))) J2) : ∀ (r i : Nat) (J : Is), i + r = 4 → Of [121] I J → (∀ j, j < i → J 121 j = iN 0) → WPc g m12_wage (d + 6) 0 0 49 [(0, .ref 101), (1, .int (iN p)), (2, .int (iN n)), (3, .int (iN k)), (4, .int (iN v)), (5, .int (iM 1)), (6, .int (iM 1)), (7, .int (iN i))] [] z J (Qi z K)
  | 0, i, J, e, hO, h1 => by
    obtain rfl : i = 4 := by omega
    have mJ := m.fr hO
    have n6 := o.1.1
    have go : (0 < n → 0 < sNs S) → WPc g m12_wage (d + 6) 0 0 87 [(0, .ref 101), (1, .int (iN p)), (2, .int (iN n)), (3, .int (iN k)), (4, .int (iN v)), (5, .int (iM 1)), (6, .int (iM 1)), (7, .int (iN 1))] [] z J (Qi z K) := fun h0 => by
      have s0 : ∀ j, sN (sNs S) 0 j = 0 := fun j => by unfold sN; rw [Nat.zero_div, Nat.zero_mod]
      refine wg_m hs hz o hp hn hk0 hk hv h0 (sNs S ^ n) 0 (iM 1, iM 1) J (by omega) ?_ ?_ (by decide) mJ (fun i hi => ?_) (fun J2 hJ2 => hK J2 ((hO.mo (by simp)).tr hJ2))
      · rcases Nat.eq_zero_or_pos n with q | q
        · rw [q, Nat.pow_zero]; omega
        · exact Nat.pow_pos (h0 q)
      · have : ∀ j, okS (sNs S) 0 j = true := fun j => by
          induction j with
          | zero => rfl
          | succ j ih =>
            show (okS (sNs S) 0 j && Nat.ble (sN (sNs S) 0 j) (bhN (sNs S) 0 j)) = true
            rw [ih, s0]
            cases bhN (sNs S) 0 j <;> rfl
        exact this n
      · rw [h1 i (by omega)]; unfold rwN; rw [s0]
    refine v12_wage_49 hs hz ⟨fun _ => ⟨fun q => ?_, fun q => ⟨fun q2 => ?_, fun q2 => ?_⟩⟩, fun q => absurd ((iN_le (by omega) (by omega)).mpr (Nat.le_refl _)) q⟩
    · rw [iN_inj (b := 0) (by omega) (by omega)] at q
      exact go (fun a => by omega)
    · rw [iN_inj (b := 0) (by omega) (by omega)] at q
      rw [mJ.ns, iN_le (b := 0) (by omega) (by omega)] at q2
      have hK1 := hK J (hO.mo (by simp))
      rw [show sNs S = 0 by omega, Nat.zero_pow (by omega)] at hK1
      exact v12_wage_87 hs hz ⟨fun _ => pick2 (a := (iM 1, iM 1)) (by omega) rfl hK1, fun q => absurd rfl q⟩
    · rw [mJ.ns, iN_le (b := 0) (by omega) (by omega)] at q2
      exact go (fun _ => by omega)
  | r + 1, i, J, e, hO, h1 => by
    refine v12_wage_49 hs hz ⟨fun q => absurd ((iN_le (by omega) (by omega)).mp q) (by omega), fun _ => ⟨inB_n (by omega) (by omega), ?_⟩⟩
    rw [iN_toN (by omega), iN_add]
    refine r0_m hs hz m o hp hn hk0 hk hv hK r (i + 1) _ (by omega) (hO.upt (by simp) _ _) (fun j hj => ?_)
    rw [up2_ra]; unfold up1; split
    next => rfl
    next => exact h1 j (by omega)
theorem P_wage (hs : GS g) (o : OKS S) (v1 v2 v3 v4 : Int32) : Pair g S m11_wage m12_wage [.int v1, .int v2, .int v3, .int v4] := by
  have p5 := o.1.2.1
  by_cases h1 : inR v1 (iN 0) (iN (sNp S) - iN 1)
  · obtain ⟨p, hp, rfl⟩ := (inR_dn (by omega)).mp h1
    by_cases h2 : inR v2 (iN 0) (iN 4)
    · by_cases h3 : inR v3 (iN 1) (iN 12)
      · by_cases h4 : inR v4 (iN 0) (iN 1)
        · obtain ⟨n, rfl, _, hn⟩ := (inR_nat (by omega) (by omega)).mp h2
          obtain ⟨k, rfl, hk1, hk⟩ := isP h3
          obtain ⟨v, rfl, _, hv⟩ := (inR_nat (by omega) (by omega)).mp h4
          refine ⟨pk2 v (foldA (wgF S p n k) (sNs S ^ n) 0 (iM 1, iM 1)), S, o, fun d z I K hz c hK => ?_, fun d z I K hz m hK => ?_⟩
          · exact v11_wage hs hz (gN c.np p5 (by omega) hp rfl (gT h2 (gT h3 (gT h4 (wp_c hs hz c o (by omega) hn (by omega) hk (by omega) (fun J hJ => hK.f hz c hJ) n 0 (by omega))))))
          · exact v12_wage hs hz (gM m.np h1 (gT h2 (gT h3 (gT h4 (r0_m hs hz m o (by omega) hn (by omega) hk (by omega) (fun J hJ => hK.f m hJ) 4 0 I rfl (Of.rf _ I) (fun j hj => absurd hj (by omega)))))))
        · exact ⟨iM 7, S, o, fun d z I K hz c hK => v11_wage hs hz (gN c.np p5 (by omega) hp rfl (gT h2 (gT h3 (gF h4 (hK.i c))))), fun d z I K hz m hK => v12_wage hs hz (gM m.np h1 (gT h2 (gT h3 (gF h4 (hK.i m)))))⟩
      · exact ⟨iM 7, S, o, fun d z I K hz c hK => v11_wage hs hz (gN c.np p5 (by omega) hp rfl (gT h2 (gF h3 (hK.i c)))), fun d z I K hz m hK => v12_wage hs hz (gM m.np h1 (gT h2 (gF h3 (hK.i m))))⟩
    · exact ⟨iM 7, S, o, fun d z I K hz c hK => v11_wage hs hz (gN c.np p5 (by omega) hp rfl (gF h2 (hK.i c))), fun d z I K hz m hK => v12_wage hs hz (gM m.np h1 (gF h2 (hK.i m)))⟩
  · exact ⟨iM 5, S, o, fun d z I K hz c hK => v11_wage hs hz (gNn c.np p5 h1 (hK.i c)), fun d z I K hz m hK => v12_wage hs hz (gMn m.np h1 (hK.i m))⟩
end PU
