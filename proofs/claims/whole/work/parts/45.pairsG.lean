/-! pair: two -/
def layX (S : AS) (j : Nat) (h : Nat → Nat) : Nat → Nat := match layN j h (fun s => sTg S s (h s)) with
  | none => h
  | some l => l
def hIt (S : AS) (j : Nat) (h : Nat → Nat) : Nat → Nat → Nat
  | 0 => h
  | n + 1 => layX S j (hIt S j h n)
theorem layX_le {S : AS} {j : Nat} {h : Nat → Nat} : ∀ s, layX S j h s ≤ h s := fun s => by
  unfold layX
  cases hq : layN j h (fun s => sTg S s (h s)) with
  | none => exact Nat.le_refl _
  | some l => exact layN_le hq s
theorem hIt_bd {S : AS} {j b : Nat} {h : Nat → Nat} (hb : Bd b h) : ∀ n, Bd b (hIt S j h n)
  | 0 => hb
  | n + 1 => fun s hs => Nat.le_trans (layX_le s) (hIt_bd hb n s hs)
theorem oftA_step {S : AS} {j : Nat} {h : Nat → Nat} (hj : 0 < j) (hb : Bd 99 h) : (layN j h (fun s => sTg S s (h s)) = none → oftA S j h = 0) ∧ (∀ l, layN j h (fun s => sTg S s (h s)) = some l → oftA S j h = oftA S j l + 1 ∧ layX S j h = l) := by
  have st := oft_step (tg := sTg S) hj (h := h) (by have := sum6_le hb; omega)
  refine ⟨fun e => ?_, fun l e => ⟨?_, ?_⟩⟩
  · rw [e] at st; unfold oftA; rw [st]
  · rw [e] at st; unfold oftA; rw [st]
  · unfold layX; rw [e]
def twF (S : AS) (j k : Nat) (h : Nat → Nat) (n : Nat) (a : I2) : I2 := if iN (n * wAt S (sLw S) j + oftA S k (hIt S j h n) * wAt S (sLw S) k) ≤ a.2 then a else (iN n, iN (n * wAt S (sLw S) j + oftA S k (hIt S j h n) * wAt S (sLw S) k))
section PG
variable {g : Gt} {d : Nat} {z : Zs} {I J : Is} {S : AS}
theorem pick2 {v : Int32} {w : Nat} {a : I2} {K : Int32 → Is → Prop} (hw : w < 100) (e : v = iN w) (h : K (pk2 w a) I) : (v = iN 0 → K a.1 I) ∧ (¬ v = iN 0 → K a.2 I) := by
  rw [e, iN_inj (by omega) (by omega)]
  unfold pk2 at h
  exact ⟨fun q => by rw [if_pos q] at h; exact h, fun q => by rw [if_neg q] at h; exact h⟩
theorem two_c {p j k w : Nat} {K : Int32 → Is → Prop} (hs : GS g) (hz : Sh z) (o : OKS S) (hw : w < 2) (hj : 0 < j) (hj2 : j ≤ 12) (h0 : 0 < k) (hk : k ≤ 12) : ∀ (r n : Nat) (a : I2) (J : Is), n + r ≤ 594 → oftA S j (hIt S j (sHas S p) n) = r → CI z J S → Rw J 17 (hIt S j (sHas S p) n) → (∀ J2, FrC z J J2 → K (pk2 w (foldA (twF S j k (sHas S p)) (r + 1) n a)) J2) → WPc g m11_two (d + 6) 0 0 90 [(0, .ref 8), (2, .int (iN j)), (3, .int (iN k)), (4, .int (iN w)), (6, .int (iN (wAt S (sLw S) j))), (7, .int (iN (wAt S (sLw S) k))), (8, .int a.1), (9, .int a.2), (10, .int (iN 1)), (11, .int (iN n))] [] z J (Qi z K) := by
  intro r
  induction r with
  | zero =>
    intro n a J hn hr c hrw hK
    have hb := hIt_bd (S := S) (j := j) (o.b p) n
    have N1 : ¬ iN 1 = iN 0 := fun q => absurd ((iN_inj (by omega) (by omega)).mp q) (by omega)
    have en : layN j (hIt S j (sHas S p) n) (fun s => sTg S s (hIt S j (sHas S p) n s)) = none := by
      cases hq : layN j (hIt S j (sHas S p) n) (fun s => sTg S s (hIt S j (sHas S p) n s)) with
      | none => rfl
      | some l => have := ((oftA_step hj hb).2 l hq).1; omega
    have last : ∀ (a' : I2) (J1 : Is), FrC z J J1 → Rw J1 17 (hIt S j (sHas S p) n) → twF S j k (sHas S p) n a = a' → WPc g m11_two (d + 6) 0 0 138 [(0, .ref 8), (2, .int (iN j)), (3, .int (iN k)), (4, .int (iN w)), (6, .int (iN (wAt S (sLw S) j))), (7, .int (iN (wAt S (sLw S) k))), (8, .int a'.1), (9, .int a'.2), (11, .int (iN n))] [] z J1 (Qi z K) := fun a' J1 hJ1 hr1 e1 => by
      have c1 := c.fr hz hJ1
      refine v11_two_138 hs hz (c_lay (a := 16) hs hz hz.trial c1.so hr1 (fun s q => by have := hb s q; omega) (by omega) ?_)
      rw [en]
      refine fun J2 hJ2 => gT rfl ?_
      have f2 : FrC z J J2 := hJ1.tr (FrC.of hJ2 (fun k hk => scr_trial k (by simp at hk ⊢; omega)))
      have hK2 := hK J2 f2
      rw [foldA_s, e1] at hK2
      exact v11_two_90 hs hz ⟨fun _ => pick2 (a := a') (by omega) rfl hK2, fun _ => gT rfl (pick2 (a := a') (by omega) rfl hK2)⟩
    refine v11_two_90 hs hz ⟨fun q => absurd ((iN_lt (by omega) (by omega)).mp q) (by omega), fun _ => gF N1 ?_⟩
    refine c_timesAt hs hz c hz.trial hrw hb h0 (by omega) (fun J1 hJ1 _ => ?_)
    rw [iN_mul, iN_mul, iN_add]
    have r1 : Rw J1 17 (hIt S j (sHas S p) n) := hrw.cg (hJ1 17 (by decide))
    exact ⟨fun q => last a J1 (FrC.of hJ1 scr_thought) r1 (by unfold twF; rw [if_pos q]), fun q => last (iN n, iN (n * wAt S (sLw S) j + oftA S k (hIt S j (sHas S p) n) * wAt S (sLw S) k)) J1 (FrC.of hJ1 scr_thought) r1 (by unfold twF; rw [if_neg q])⟩
  | succ r ih =>
    intro n a J hn hr c hrw hK
    have hb := hIt_bd (S := S) (j := j) (o.b p) n
    have N1 : ¬ iN 1 = iN 0 := fun q => absurd ((iN_inj (by omega) (by omega)).mp q) (by omega)
    have hst := oftA_step (S := S) hj hb
    cases hq : layN j (hIt S j (sHas S p) n) (fun s => sTg S s (hIt S j (sHas S p) n s)) with
    | none => have := hst.1 hq; omega
    | some l =>
      obtain ⟨e1, e2⟩ := hst.2 l hq
      have hpos := lay_pos hq (by omega)
      have hlt := bset_lt (fun s => decide (l s < hIt S j (sHas S p) n s)) 6
      have last : ∀ (a' : I2) (J1 : Is), FrC z J J1 → Rw J1 17 (hIt S j (sHas S p) n) → twF S j k (sHas S p) n a = a' → WPc g m11_two (d + 6) 0 0 138 [(0, .ref 8), (2, .int (iN j)), (3, .int (iN k)), (4, .int (iN w)), (6, .int (iN (wAt S (sLw S) j))), (7, .int (iN (wAt S (sLw S) k))), (8, .int a'.1), (9, .int a'.2), (11, .int (iN n))] [] z J1 (Qi z K) := fun a' J1 hJ1 hr1 ea => by
        have c1 := c.fr hz hJ1
        refine v11_two_138 hs hz (c_lay (a := 16) hs hz hz.trial c1.so hr1 (fun s q => by have := hb s q; omega) (by omega) ?_)
        rw [hq]
        refine fun J2 hJ2 hr2 => gF (fun y => hpos ((iN_inj (by omega) (by omega)).mp y)) ?_
        have f2 : FrC z J J2 := hJ1.tr (FrC.of hJ2 scr_trial)
        rw [iN_add]
        have eh : hIt S j (sHas S p) (n + 1) = l := e2
        refine ih (n + 1) a' J2 (by omega) (by rw [eh]; omega) (c.fr hz f2) (by rw [eh]; exact hr2) (fun J3 hJ3 => ?_)
        have := hK J3 (f2.tr hJ3)
        rw [foldA_s, ea] at this
        exact this
      refine v11_two_90 hs hz ⟨fun q => absurd ((iN_lt (by omega) (by omega)).mp q) (by omega), fun _ => gF N1 ?_⟩
      refine c_timesAt hs hz c hz.trial hrw hb h0 (by omega) (fun J1 hJ1 _ => ?_)
      rw [iN_mul, iN_mul, iN_add]
      have r1 : Rw J1 17 (hIt S j (sHas S p) n) := hrw.cg (hJ1 17 (by decide))
      exact ⟨fun q => last a J1 (FrC.of hJ1 scr_thought) r1 (by unfold twF; rw [if_pos q]), fun q => last (iN n, iN (n * wAt S (sLw S) j + oftA S k (hIt S j (sHas S p) n) * wAt S (sLw S) k)) J1 (FrC.of hJ1 scr_thought) r1 (by unfold twF; rw [if_neg q])⟩
theorem wtwo_l {p j k n : Nat} {K : Int32 → Is → Prop} (hs : GS g) (hz : Sh z) (o : OKS S) (hj : 0 < j) (hj2 : j ≤ 12) (h0 : 0 < k) (hk : k ≤ 12) (hn : n ≤ 1000) : ∀ (r i : Nat) (J : Is), i + r = n → MI J S → Rw J 118 (hIt S j (sHas S p) i) → (∀ J2, Of [116, 117, 118, 119, 120] J J2 → K (iN (n * wAt S (sLw S) j + oftA S k (hIt S j (sHas S p) n) * wAt S (sLw S) k)) J2) → WPc g m12_worthTwo (d + 5) 0 0 8 [(0, .ref 101), (2, .int (iN j)), (3, .int (iN k)), (4, .int (iN n)), (5, .int (iN i))] [] z J (Qi z K)
  | 0, i, J, e, m, hr, hK => by
    obtain rfl : i = n := by omega
    have hb := hIt_bd (S := S) (j := j) (o.b p) i
    refine v12_worthTwo_8 hs hz ⟨fun _ => ?_, fun q => absurd ((iN_le (by omega) (by omega)).mpr (Nat.le_refl _)) q⟩
    refine c12_worthOf hs hz m o (fun J1 hJ1 => ?_)
    have m1 := m.fr hJ1
    refine c_oftenNow hs hz m1 o h0 (by omega) hb (hr.cg (hJ1 118 (by decide))) (fun J2 hJ2 _ => ?_)
    refine c12_worthOf hs hz (m1.fr hJ2) o (fun J3 hJ3 => ?_)
    rw [iN_mul, iN_mul, iN_add]
    exact hK J3 (((hJ1.mo (by simp)).tr (hJ2.mo (by simp))).tr (hJ3.mo (by simp)))
  | r + 1, i, J, e, m, hr, hK => by
    have hb := hIt_bd (S := S) (j := j) (o.b p) i
    refine v12_worthTwo_8 hs hz ⟨fun q => absurd ((iN_le (by omega) (by omega)).mp q) (by omega), fun _ => ?_⟩
    refine c_lays hs hz (m.md o) hr (fun s q => by have := hb s q; omega) (by omega) ?_
    have nx : ∀ J1, Of [118, 119, 120] J J1 → Rw J1 118 (hIt S j (sHas S p) (i + 1)) → WPc g m12_worthTwo (d + 5) 0 0 8 [(0, .ref 101), (2, .int (iN j)), (3, .int (iN k)), (4, .int (iN n)), (5, .int (iN i + iN 1))] [] z J1 (Qi z K) := fun J1 hJ1 hr1 => by
      rw [iN_add]
      exact wtwo_l hs hz o hj hj2 h0 hk hn r (i + 1) J1 (by omega) (m.fr hJ1) hr1 (fun J2 hJ2 => hK J2 ((hJ1.mo (by simp)).tr hJ2))
    have eh : hIt S j (sHas S p) (i + 1) = layX S j (hIt S j (sHas S p) i) := rfl
    unfold layX at eh
    cases hq : layN j (hIt S j (sHas S p) i) (fun s => sTg S s (hIt S j (sHas S p) i s)) with
    | none =>
      rw [hq] at eh
      exact fun J1 hJ1 hr1 => nx J1 hJ1 (by rw [eh]; exact hr1)
    | some l =>
      rw [hq] at eh
      exact fun J1 hJ1 hr1 _ => nx J1 hJ1 (by rw [eh]; exact hr1)
theorem two_m {p j k w far : Nat} {K : Int32 → Is → Prop} (hs : GS g) (hz : Sh z) (o : OKS S) (hp : p < 5) (hw : w < 2) (hj : 0 < j) (hj2 : j ≤ 12) (h0 : 0 < k) (hk : k ≤ 12) (hf : far ≤ 594) : ∀ (r n : Nat) (a : I2) (J : Is), n + r = far + 1 → MI J S → (∀ J2, Of [116, 117, 118, 119, 120] J J2 → K (pk2 w (foldA (twF S j k (sHas S p)) r n a)) J2) → WPc g m12_two_ (d + 8) 0 0 60 [(0, .ref 101), (1, .int (iN p)), (2, .int (iN j)), (3, .int (iN k)), (4, .int (iN w)), (5, .int (iN far)), (6, .int a.1), (7, .int a.2), (8, .int (iN n))] [] z J (Qi z K)
  | 0, n, a, J, e, m, hK => by
    refine v12_two__60 hs hz ⟨fun _ => pick2 (a := a) (by omega) rfl (hK J (Of.rf _ J)), fun q => absurd ((iN_lt (by omega) (by omega)).mpr (by omega)) q⟩
  | r + 1, n, a, J, e, m, hK => by
    refine v12_two__60 hs hz ⟨fun q => absurd ((iN_lt (by omega) (by omega)).mp q) (by omega), fun _ => ?_⟩
    refine v12_worthTwo hs hz (c_thinksOf hs hz m o hp (fun J0 hJ0 hr0 => wtwo_l hs hz o hj hj2 h0 hk (by omega) n 0 J0 (by omega) (m.fr hJ0) hr0 (fun J1 hJ1 => ?_)))
    have hO : Of [116, 117, 118, 119, 120] J J1 := (hJ0.mo (by simp)).tr hJ1
    have nx := fun a' => two_m (w := w) (K := K) hs hz o hp hw hj hj2 h0 hk hf r (n + 1) a' J1 (by omega) (m.fr hO)
    rw [iN_add]
    refine ⟨fun q => gT q (nx a (fun J2 hJ2 => ?_)), fun q => gF q (nx (iN n, iN (n * wAt S (sLw S) j + oftA S k (hIt S j (sHas S p) n) * wAt S (sLw S) k)) (fun J2 hJ2 => ?_))⟩
    · have := hK J2 (hO.tr hJ2)
      rw [foldA_s, show twF S j k (sHas S p) n a = a by unfold twF; rw [if_pos q]] at this
      exact this
    · have := hK J2 (hO.tr hJ2)
      rw [foldA_s, show twF S j k (sHas S p) n a = (iN n, iN (n * wAt S (sLw S) j + oftA S k (hIt S j (sHas S p) n) * wAt S (sLw S) k)) by unfold twF; rw [if_neg q]] at this
      exact this
theorem P_two (hs : GS g) (o : OKS S) (v1 v2 v3 v4 : Int32) : Pair g S m11_two m12_two_ [.int v1, .int v2, .int v3, .int v4] := by
  have p5 := o.1.2.1
  by_cases h1 : inR v1 (iN 0) (iN (sNp S) - iN 1)
  · obtain ⟨p, hp, rfl⟩ := (inR_dn (by omega)).mp h1
    by_cases h2 : inR v2 (iN 1) (iN 12)
    · by_cases h3 : inR v3 (iN 1) (iN 12)
      · by_cases h5 : v2 ≤ v3
        · exact ⟨iM 7, S, o, fun d z I K hz c hK => v11_two hs hz (gN c.np p5 (by omega) hp rfl (gT h2 (gT h3 (gT h5 (hK.i c))))), fun d z I K hz m hK => v12_two_ hs hz (gM m.np h1 (gT h2 (gT h3 (gT h5 (hK.i m)))))⟩
        · by_cases h4 : inR v4 (iN 0) (iN 1)
          · obtain ⟨j, rfl, hj1, hj⟩ := isP h2
            obtain ⟨k, rfl, hk1, hk⟩ := isP h3
            obtain ⟨w, rfl, _, hw⟩ := (inR_nat (by omega) (by omega)).mp h4
            have hf := oftA_le S j (sHas S p)
            refine ⟨pk2 w (foldA (twF S j k (sHas S p)) (oftA S j (sHas S p) + 1) 0 (iN 0, iM 1)), S, o, fun d z I K hz c hK => ?_, fun d z I K hz m hK => ?_⟩
            · refine v11_two hs hz (gN c.np p5 (by omega) hp rfl (gT h2 (gT h3 (gF h5 (gT h4 ?_)))))
              rw [c.lw]
              refine c11_worthAt hs hz c o o.1.2.2.2.2.1 (fun J hJ => ?_)
              have c1 := c.fr hz hJ
              rw [c1.lw]
              refine c11_worthAt hs hz c1 o o.1.2.2.2.2.1 (fun J2 hJ2 => ?_)
              have f2 := hJ.tr hJ2
              have c2 := c.fr hz f2
              refine c_become (a := 16) hs hz.trial (hz.purse (by omega)) (c2.pu (by omega)) (fun J3 hJ3 hr3 => ?_)
              have f3 : FrC z I J3 := f2.tr (FrC.of hJ3 (fun k hk => scr_trial k (by simp at hk ⊢; omega)))
              exact two_c hs hz o (by omega) (by omega) (by omega) (by omega) (by omega) (oftA S j (sHas S p)) 0 (iN 0, iM 1) J3 (by omega) rfl (c.fr hz f3) hr3 (fun J4 hJ4 => hK.f hz c (f3.tr hJ4))
            · refine v12_two_ hs hz (gM m.np h1 (gT h2 (gT h3 (gF h5 (gT h4 ?_)))))
              refine c_oftenOf hs hz m o (by omega) (by omega) (by omega) (fun J hJ _ => ?_)
              exact two_m hs hz o (by omega) (by omega) (by omega) (by omega) (by omega) (by omega) hf (oftA S j (sHas S p) + 1) 0 (iN 0, iM 1) J (by omega) (m.fr hJ) (fun J2 hJ2 => hK.f m ((hJ.mo (by simp)).tr hJ2))
          · exact ⟨iM 7, S, o, fun d z I K hz c hK => v11_two hs hz (gN c.np p5 (by omega) hp rfl (gT h2 (gT h3 (gF h5 (gF h4 (hK.i c)))))), fun d z I K hz m hK => v12_two_ hs hz (gM m.np h1 (gT h2 (gT h3 (gF h5 (gF h4 (hK.i m))))))⟩
      · exact ⟨iM 7, S, o, fun d z I K hz c hK => v11_two hs hz (gN c.np p5 (by omega) hp rfl (gT h2 (gF h3 (hK.i c)))), fun d z I K hz m hK => v12_two_ hs hz (gM m.np h1 (gT h2 (gF h3 (hK.i m))))⟩
    · exact ⟨iM 7, S, o, fun d z I K hz c hK => v11_two hs hz (gN c.np p5 (by omega) hp rfl (gF h2 (hK.i c))), fun d z I K hz m hK => v12_two_ hs hz (gM m.np h1 (gF h2 (hK.i m)))⟩
  · exact ⟨iM 5, S, o, fun d z I K hz c hK => v11_two hs hz (gNn c.np p5 h1 (hK.i c)), fun d z I K hz m hK => v12_two_ hs hz (gMn m.np h1 (hK.i m))⟩
end PG
