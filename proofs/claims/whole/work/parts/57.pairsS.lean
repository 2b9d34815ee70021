/-! pair: was -/
def wyN (ns w s : Nat) : Nat := w / 4 ^ (ns - 1 - s) % 4
theorem wy_I : ∀ a, a < 64 → ∀ b, b < 64 → ∀ j, j < 6 → (iN (64 * a + b) >>> (iN (2 * j) &&& iN 31)) &&& iN 3 = iN ((64 * a + b) / 4 ^ j % 4) := by decide +kernel
theorem four6 {ns : Nat} (hn : ns ≤ 6) : 4 ^ ns ≤ 4096 := Nat.pow_le_pow_right (n := 4) (by omega) hn
theorem wy_at {ns w s : Nat} (hn : ns ≤ 6) (hs : s < ns) (hw : w < 4 ^ ns) : (iN w >>> ((iN 2 * ((iN ns - iN 1) - iN s)) &&& iN 31)) &&& iN 3 = iN (wyN ns w s) := by
  have h6 := four6 hn
  rw [iN_sub (by omega), iN_sub (by omega), iN_mul]
  have := wy_I (w / 64) (by omega) (w % 64) (by omega) (ns - 1 - s) (by omega)
  rw [show 64 * (w / 64) + w % 64 = w by omega] at this
  exact this
theorem wys : ∀ ns, ns ≤ 6 → iN 1 <<< ((iN 2 * iN ns) &&& iN 31) = iN (4 ^ ns) := by decide +kernel
def dgW (ns w : Nat) : Nat → Nat
  | 0 => 0
  | s + 1 => 10 * dgW ns w s + wyN ns w s
def thW (S : AS) (w : Nat) : Nat → Nat := fun s => if s < sNs S then wyN (sNs S) w s else 0
theorem wyN_le (ns w s : Nat) : wyN ns w s ≤ 3 := by unfold wyN; omega
theorem thW_bd (S : AS) (w : Nat) : Bd 99 (thW S w) := fun s _ => by
  have := wyN_le (sNs S) w s
  unfold thW; split <;> omega
def waF (S : AS) (s : Nat) (w : Nat) (a : I2) : I2 := if foF S s (thW S w) (S.1 9 s) 0 = iM 1 then (a.1 + iN 1, if a.2 = iM 1 then iN (dgW (sNs S) w (sNs S)) else a.2) else a
section PS
variable {g : Gt} {d : Nat} {z : Zs} {I J : Is} {S : AS}
theorem tp_l {w : Nat} {K : Int32 → Is → Prop} (hs : GS g) (hz : Sh z) (c : CI z I S) (o : OKS S) (hw : w < 4 ^ sNs S) (hK : ∀ J, Of [17] I J → Rw J 17 (thW S w) → K (iN (dgW (sNs S) w (sNs S))) J) : ∀ (n s : Nat) (J : Is), s + n = sNs S → Of [17] I J → Rw J 17 (fun i => if i < s then wyN (sNs S) w i else 0) → WPc g m11_tryPurse (d + 2) 0 0 11 [(0, .ref 8), (1, .int (iN w)), (2, .int (iN (dgW (sNs S) w s))), (3, .int (iN s))] [] z J (Qi z K)
  | 0, s, J, e, hO, hr => by
    have n6 := o.1.1
    have cJ := c.fr hz (FrC.of hO (fun k hk => scr_trial k (by simp at hk ⊢; omega)))
    have e2 : s = sNs S := by omega
    rw [e2] at hr
    refine v11_tryPurse_11 hs hz ⟨fun _ => ?_, fun q => ?_⟩
    · rw [e2]; exact hK J hO hr
    · rw [cJ.ns] at q; exact absurd ((iN_le (by omega) (by omega)).mpr (by omega)) q
  | n + 1, s, J, e, hO, hr => by
    have n6 := o.1.1
    have cJ := c.fr hz (FrC.of hO (fun k hk => scr_trial k (by simp at hk ⊢; omega)))
    refine v11_tryPurse_11 hs hz ⟨fun q => ?_, fun _ => ?_⟩
    · rw [cJ.ns] at q; exact absurd ((iN_le (by omega) (by omega)).mp q) (by omega)
    · rw [cJ.ns, wy_at n6 (by omega) hw, iN_mul, iN_add, iN_add]
      refine c_pput hs hz.trial (by omega) ?_
      refine tp_l hs hz c o hw hK n (s + 1) _ (by omega) (hO.upt (by simp) _ _) ((hr.up _).fn (fun i hi => ?_))
      unfold up1
      by_cases h : i = s
      · rw [if_pos h, h, if_pos (by omega)]
      · rw [if_neg h]
        show (if i < s then wyN (sNs S) w i else 0) = _
        by_cases h2 : i < s
        · rw [if_pos h2, if_pos (by omega)]
        · rw [if_neg h2, if_neg (by omega)]
theorem c_tryPurse {w : Nat} {K : Int32 → Is → Prop} (hs : GS g) (hz : Sh z) (c : CI z I S) (o : OKS S) (hw : w < 4 ^ sNs S) (hK : ∀ J, Of [17] I J → Rw J 17 (thW S w) → K (iN (dgW (sNs S) w (sNs S))) J) : Wi g m11_tryPurse (d + 2) [.ref 8, .int (iN w)] z I K :=
  v11_tryPurse hs hz (c_clear hs hz.trial (fun J hJ hr => tp_l hs hz (c.fr hz (FrC.of hJ (fun k hk => scr_trial k (by simp at hk ⊢; omega)))) o hw (fun J2 hJ2 hr2 => hK J2 (Of.tr (Of.mo hJ (fun k hk => hk)) hJ2) hr2) (sNs S) 0 J (by omega) (Of.rf _ J) (hr.fn (fun i _ => by rw [if_neg (by omega)]))))
theorem was_c {s v : Nat} {K : Int32 → Is → Prop} (hs : GS g) (hz : Sh z) (o : OKS S) (h4 : s < 4) (h12 : S.1 9 s ≤ 12) (hv : v < 2) : ∀ (n w : Nat) (a : I2) (J : Is), w + n = 4 ^ sNs S → CI z J S → (∀ J2, FrC z J J2 → K (pk2 v (foldA (waF S s) n w a)) J2) → WPc g m11_was (d + 7) 0 0 66 [(0, .ref 8), (2, .int (iN v)), (3, .ref (89 + 2 * s)), (4, .int a.1), (5, .int a.2), (6, .int (iN (4 ^ sNs S))), (7, .int (iN w))] [] z J (Qi z K)
  | 0, w, a, J, e, c, hK => by
    have n6 := four6 o.1.1
    refine v11_was_66 hs hz ⟨fun _ => pick2 (by omega) rfl (hK J (FrC.rf z J)), fun q => absurd ((iN_le (by omega) (by omega)).mpr (by omega)) q⟩
  | n + 1, w, a, J, e, c, hK => by
    have n6 := four6 o.1.1
    have c0 := c
    refine v11_was_66 hs hz ⟨fun q => absurd ((iN_le (by omega) (by omega)).mp q) (by omega), fun _ => ?_⟩
    refine c_tryPurse hs hz c o (by omega) (fun J1 hJ1 hr1 => ?_)
    have f1 : FrC z J J1 := FrC.of hJ1 (fun k hk => scr_trial k (by simp at hk ⊢; omega))
    refine c_firstOther hs hz (c.fr hz f1) o h4 h12 hz.trial (thW_bd S w) (by omega) hr1 (fun J2 hJ2 => ?_)
    have f2 : FrC z J J2 := f1.tr (FrC.of hJ2 scr_thought)
    have nx := fun a' => was_c (v := v) (K := K) hs hz o h4 h12 hv n (w + 1) a' J2 (by omega) (c.fr hz f2)
    have hK' : ∀ J3, FrC z J2 J3 → K (pk2 v (foldA (waF S s) n (w + 1) (waF S s w a))) J3 := fun J3 hJ3 => hK J3 (f2.tr hJ3)
    rw [iN_add]
    refine ⟨fun q => ⟨fun q2 => ?_, fun q2 => ?_⟩, fun q => ?_⟩
    · exact nx (a.1 + iN 1, iN (dgW (sNs S) w (sNs S))) (by unfold waF at hK'; rw [if_pos q, if_pos q2] at hK'; exact hK')
    · exact nx (a.1 + iN 1, a.2) (by unfold waF at hK'; rw [if_pos q, if_neg q2] at hK'; exact hK')
    · exact nx a (by unfold waF at hK'; rw [if_neg q] at hK'; exact hK')
theorem wi_m {s v w : Nat} {a : I2} {K : Int32 → Is → Prop} (hs : GS g) (hz : Sh z) (m : MI I S) (o : OKS S) (hw : w < 4 ^ sNs S) (hK : ∀ J, Of [122] I J → Rw J 122 (thW S w) → WPc g m12_was (d + 5) 0 0 52 [(0, .ref 101), (1, .int (iN s)), (2, .int (iN v)), (4, .int a.1), (5, .int a.2), (6, .int (iN w)), (7, .int (iN (dgW (sNs S) w (sNs S)))), (8, .int (iN 6))] [] z J (Qi z K)) : ∀ (n i : Nat) (J : Is), i + n = 6 → Of [122] I J → (∀ j, j < i → J 122 j = iN (thW S w j)) → WPc g m12_was (d + 5) 0 0 52 [(0, .ref 101), (1, .int (iN s)), (2, .int (iN v)), (4, .int a.1), (5, .int a.2), (6, .int (iN w)), (7, .int (iN (dgW (sNs S) w (min i (sNs S))))), (8, .int (iN i))] [] z J (Qi z K)
  | 0, i, J, e, hJ, h1 => by
    have n6 := o.1.1
    obtain rfl : i = 6 := by omega
    rw [show min 6 (sNs S) = sNs S by omega]
    exact hK J hJ h1
  | n + 1, i, J, e, hJ, h1 => by
    have n6 := o.1.1
    have mJ := m.fr hJ
    have nx := fun x (hx : x = iN (thW S w i)) => wi_m hs hz m o hw hK n (i + 1) (up2 J 122 i x) (by omega) (hJ.upt (by simp) _ _) (fun j hj => by
      rw [up2_ra]; unfold up1; split
      next q => rw [q]; exact hx
      next => exact h1 j (by omega))
    refine v12_was_52 hs hz ⟨fun q => absurd ((iN_le (by omega) (by omega)).mp q) (by omega), fun _ => ⟨fun q => ?_, fun q => ?_⟩⟩
    · rw [mJ.ns, iN_le (by omega) (by omega)] at q
      refine v12_was_94 hs hz ⟨inB_n (by omega) (by omega), fun _ => ?_, fun q2 => ?_⟩
      · rw [iN_toN (by omega), iN_add]
        have e0 : min (i + 1) (sNs S) = min i (sNs S) := by omega
        have nx := nx (iN 0) (by unfold thW; rw [if_neg (by omega)])
        rw [e0] at nx
        exact nx
      · rw [mJ.ns, iN_le (by omega) (by omega)] at q2; omega
    · rw [mJ.ns, iN_le (by omega) (by omega)] at q
      rw [mJ.ns, wy_at n6 (by omega) hw]
      refine v12_was_94 hs hz ⟨inB_n (by omega) (by omega), fun q2 => ?_, fun _ => ⟨inB_n (by omega) (by omega), ?_⟩⟩
      · rw [mJ.ns, iN_le (by omega) (by omega)] at q2; omega
      · rw [iN_toN (by omega), iN_add, up2_ra, up1_s, iN_mul, iN_add]
        have e0 : dgW (sNs S) w (min (i + 1) (sNs S)) = 10 * dgW (sNs S) w (min i (sNs S)) + wyN (sNs S) w i := by
          rw [show min (i + 1) (sNs S) = i + 1 by omega, show min i (sNs S) = i by omega]; rfl
        have nx := nx (iN (wyN (sNs S) w i)) (by unfold thW; rw [if_pos (by omega)])
        rw [e0] at nx
        exact nx
theorem was_m {s v : Nat} {K : Int32 → Is → Prop} (hs : GS g) (hz : Sh z) (o : OKS S) (h4 : s < 4) (hv : v < 2) : ∀ (n w : Nat) (a : I2) (J : Is), w + n = 4 ^ sNs S → MI J S → (∀ J2, Of [118, 119, 120, 122] J J2 → K (pk2 v (foldA (waF S s) n w a)) J2) → WPc g m12_was (d + 5) 0 0 33 [(0, .ref 101), (1, .int (iN s)), (2, .int (iN v)), (4, .int a.1), (5, .int a.2), (6, .int (iN w))] [] z J (Qi z K)
  | 0, w, a, J, e, m, hK => by
    have n6 := four6 o.1.1
    refine v12_was_33 hs hz ?_
    rw [m.ns, wys _ o.1.1]
    exact ⟨fun _ => pick2 (by omega) rfl (hK J (Of.rf _ J)), fun q => absurd ((iN_le (by omega) (by omega)).mpr (by omega)) q⟩
  | n + 1, w, a, J, e, m, hK => by
    have n6 := four6 o.1.1
    refine v12_was_33 hs hz ?_
    rw [m.ns, wys _ o.1.1]
    refine ⟨fun q => absurd ((iN_le (by omega) (by omega)).mp q) (by omega), fun _ => ?_⟩
    refine wi_m hs hz m o (by omega) (fun J1 hJ1 hr1 => ?_) 6 0 J rfl (Of.rf _ J) (fun j hj => absurd hj (by omega))
    refine v12_was_52 hs hz ⟨fun _ => ?_, fun q => absurd ((iN_le (by omega) (by omega)).mpr (Nat.le_refl _)) q⟩
    refine c_unlikeThought hs hz (m.fr hJ1) o h4 (thW_bd S w) hr1 (fun J2 hJ2 => ?_)
    have f2 : Of [118, 119, 120, 122] J J2 := (hJ1.mo (by simp)).tr (hJ2.mo (by simp))
    have nx := fun a' => was_m (v := v) (K := K) hs hz o h4 hv n (w + 1) a' J2 (by omega) (m.fr f2)
    have hK' : ∀ J3, Of [118, 119, 120, 122] J2 J3 → K (pk2 v (foldA (waF S s) n (w + 1) (waF S s w a))) J3 := fun J3 hJ3 => hK J3 (f2.tr hJ3)
    rw [iN_add]
    refine ⟨fun q => ⟨fun q2 => ?_, fun q2 => ?_⟩, fun q => ?_⟩
    · exact nx (a.1 + iN 1, iN (dgW (sNs S) w (sNs S))) (by unfold waF at hK'; rw [if_pos q, if_pos q2] at hK'; exact hK')
    · exact nx (a.1 + iN 1, a.2) (by unfold waF at hK'; rw [if_pos q, if_neg q2] at hK'; exact hK')
    · exact nx a (by unfold waF at hK'; rw [if_neg q] at hK'; exact hK')
theorem P_was (hs : GS g) (o : OKS S) (v1 v2 : Int32) : Pair g S m11_was m12_was [.int v1, .int v2] := by
  have nM : ∀ n, 0 < n → n ≤ 100 → ¬ iM n = iN 0 := fun n a b q => iM_ne (n := 0) (by omega) (by omega) a q.symm
  by_cases h1 : inR v1 (iN 0) (iN 3)
  · obtain ⟨s, rfl, _, hs3⟩ := (inR_nat (by omega) (by omega)).mp h1
    have U : ∀ {t}, t < 4 → iN s = iN t → t = s := fun ht q => ((iN_inj (by omega) (by omega)).mp q).symm
    by_cases hf : S.2.1 s = iM 1
    · refine ⟨iM 11, S, o, fun d z I K hz c hK => ?_, fun d z I K hz m hK => ?_⟩
      · exact v11_was hs hz (g4 (by omega) rfl (c_cannotTell hs hz c o (by omega) (fun _ => gF (fun q => absurd ((iN_inj (by omega) (by omega)).mp q) (by omega)) (c_isMissing hs hz c (by omega) (fun _ => gF (fun q => absurd ((iN_inj (by omega) (by omega)).mp q) (by omega)) (hK.i c)) (fun w => absurd hf w))) (fun w => absurd (Or.inl hf) w)))
      · refine v12_was hs hz (c_sheetWrong hs hz m o (fun t ht e a => absurd hf (by rw [U ht e] at a; exact a)) (fun t ht e a => gF (nM 11 (by omega) (by omega)) (hK.i m)) (fun w => ?_))
        rcases w with w | ⟨t, ht, e, a, _⟩
        · exact absurd h1 w
        · rw [U ht e] at a; exact absurd hf a
    · by_cases h12 : S.1 9 s ≤ 12
      · have hct : ¬ (S.2.1 s = iM 1 ∨ 12 < S.1 9 s) := fun w => by rcases w with w | w; exact hf w; omega
        by_cases h2 : inR v2 (iN 0) (iN 1)
        · obtain ⟨v, rfl, _, hv⟩ := (inR_nat (by omega) (by omega)).mp h2
          refine ⟨pk2 v (foldA (waF S s) (4 ^ sNs S) 0 (iN 0, iM 1)), S, o, fun d z I K hz c hK => ?_, fun d z I K hz m hK => ?_⟩
          · refine v11_was hs hz (g4 (by omega) rfl (c_cannotTell hs hz c o (by omega) (fun w => absurd w hct) (fun _ => gT rfl (gT h2 ?_))))
            rw [c.ns, wys _ o.1.1]
            exact was_c hs hz o (by omega) h12 (by omega) (4 ^ sNs S) 0 (iN 0, iM 1) I (by omega) c (fun J hJ => hK.f hz c hJ)
          · refine v12_was hs hz (c_sheetWrong hs hz m o (fun t ht e a b => gT rfl (gT h2 (was_m hs hz o (by omega) (by omega) (4 ^ sNs S) 0 (iN 0, iM 1) I (by omega) m (fun J hJ => hK.f m hJ)))) (fun t ht e a => ?_) (fun w => ?_))
            · rw [U ht e] at a; exact absurd a hf
            · rcases w with w | ⟨t, ht, e, a, b⟩
              · exact absurd h1 w
              · rw [U ht e] at b; omega
        · refine ⟨iM 7, S, o, fun d z I K hz c hK => ?_, fun d z I K hz m hK => ?_⟩
          · exact v11_was hs hz (g4 (by omega) rfl (c_cannotTell hs hz c o (by omega) (fun w => absurd w hct) (fun _ => gT rfl (gF h2 (hK.i c)))))
          · refine v12_was hs hz (c_sheetWrong hs hz m o (fun t ht e a b => gT rfl (gF h2 (hK.i m))) (fun t ht e a => ?_) (fun w => ?_))
            · rw [U ht e] at a; exact absurd a hf
            · rcases w with w | ⟨t, ht, e, a, b⟩
              · exact absurd h1 w
              · rw [U ht e] at b; omega
      · refine ⟨iM 2, S, o, fun d z I K hz c hK => ?_, fun d z I K hz m hK => ?_⟩
        · exact v11_was hs hz (g4 (by omega) rfl (c_cannotTell hs hz c o (by omega) (fun _ => gF (fun q => absurd ((iN_inj (by omega) (by omega)).mp q) (by omega)) (c_isMissing hs hz c (by omega) (fun w => absurd w hf) (fun _ => gT rfl (hK.i c)))) (fun w => absurd (Or.inr (by omega)) w)))
        · refine v12_was hs hz (c_sheetWrong hs hz m o (fun t ht e a b => ?_) (fun t ht e a => ?_) (fun w => gF (nM 2 (by omega) (by omega)) (hK.i m)))
          · rw [U ht e] at b; exact absurd b h12
          · rw [U ht e] at a; exact absurd a hf
  · exact ⟨iM 2, S, o, fun d z I K hz c hK => v11_was hs hz (g4n h1 (hK.i c)), fun d z I K hz m hK => v12_was hs hz (c_sheetWrong hs hz m o (fun t ht e _ _ => absurd (by rw [e, inR_iN (by omega) (by omega) (by omega)]; omega) h1) (fun t ht e _ => absurd (by rw [e, inR_iN (by omega) (by omega) (by omega)]; omega) h1) (fun _ => gF (nM 2 (by omega) (by omega)) (hK.i m)))⟩
end PS
