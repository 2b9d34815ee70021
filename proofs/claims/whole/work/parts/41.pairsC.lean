/-! pairs: price, idle, dearest, two -/
def foldA {α : Type} (f : Nat → α → α) : Nat → Nat → α → α
  | 0, _, a => a
  | n + 1, i, a => foldA f n (i + 1) (f i a)
theorem foldA_s {α : Type} (f : Nat → α → α) (n i : Nat) (a : α) : foldA f (n + 1) i a = foldA f n (i + 1) (f i a) := rfl
abbrev I3 : Type := Int32 × Int32 × Int32
def prF (S : AS) (k : Nat) (a : I3) : I3 := if iN (allA S k none) * iN k ≤ a.2.1 then a else (iN k, iN (allA S k none) * iN k, iN (allA S k none))
def pk3 (w : Nat) (a : I3) : Int32 := if w = 0 then a.1 else if w = 1 then a.2.1 else a.2.2
section PC
variable {g : Gt} {d : Nat} {z : Zs} {I J : Is} {S : AS}
theorem price_c {w : Nat} {K : Int32 → Is → Prop} (hs : GS g) (hz : Sh z) (o : OKS S) (hw : w < 3) : ∀ (n k : Nat) (a : I3) (J : Is), k + n = 13 → 0 < k → CI z J S → (∀ J2, FrC z J J2 → K (pk3 w (foldA (prF S) n k a)) J2) → WPc g m11_price (d + 6) 0 0 22 [(0, .ref 8), (1, .int (iN w)), (2, .int a.1), (3, .int a.2.1), (4, .int a.2.2), (5, .int (iN k))] [] z J (Qi z K)
  | 0, k, a, J, e, h0, c, hK => by
    have hK := hK J (FrC.rf z J)
    refine v11_price_22 hs hz ⟨fun _ => ?_, fun q => absurd ((iN_lt (by omega) (by omega)).mpr (by omega)) q⟩
    rw [iN_inj (by omega) (by omega), iN_inj (by omega) (by omega)]
    unfold pk3 at hK
    refine ⟨fun q => ?_, fun q => ⟨fun q2 => ?_, fun q2 => ?_⟩⟩
    · rw [if_pos q] at hK; exact hK
    · rw [if_neg q, if_pos q2] at hK; exact hK
    · rw [if_neg q, if_neg q2] at hK; exact hK
  | n + 1, k, a, J, e, h0, c, hK => by
    refine v11_price_22 hs hz ⟨fun q => absurd ((iN_lt (by omega) (by omega)).mp q) (by omega), fun _ => ?_⟩
    refine c_timesOfAll (o := none) hs hz c o h0 (by omega) (fun _ q => by cases q) (fun J1 hJ1 => ?_)
    have nx := fun a' => price_c (w := w) (K := K) hs hz o hw n (k + 1) a' J1 (by omega) (by omega) (c.fr hz hJ1)
    rw [iN_add]
    refine ⟨fun q => ?_, fun q => ?_⟩
    · exact nx a (fun J2 hJ2 => by
        have := hK J2 (hJ1.tr hJ2)
        rw [show foldA (prF S) (n + 1) k a = foldA (prF S) n (k + 1) a by show foldA (prF S) n (k + 1) (prF S k a) = _; unfold prF; rw [if_pos q]] at this
        exact this)
    · exact nx (iN k, iN (allA S k none) * iN k, iN (allA S k none)) (fun J2 hJ2 => by
        have := hK J2 (hJ1.tr hJ2)
        rw [show foldA (prF S) (n + 1) k a = foldA (prF S) n (k + 1) (iN k, iN (allA S k none) * iN k, iN (allA S k none)) by show foldA (prF S) n (k + 1) (prF S k a) = _; unfold prF; rw [if_neg q]] at this
        exact this)
theorem price_m {w : Nat} {K : Int32 → Is → Prop} (hs : GS g) (hz : Sh z) (o : OKS S) (hw : w < 3) : ∀ (n k : Nat) (a : I3) (J : Is), k + n = 13 → 0 < k → MI J S → (∀ J2, Of [118, 119, 120] J J2 → K (pk3 w (foldA (prF S) n k a)) J2) → WPc g m12_price (d + 6) 0 0 22 [(0, .ref 101), (1, .int (iN w)), (2, .int a.1), (3, .int a.2.1), (4, .int a.2.2), (5, .int (iN k))] [] z J (Qi z K)
  | 0, k, a, J, e, h0, c, hK => by
    have hK := hK J (Of.rf _ J)
    refine v12_price_22 hs hz ⟨fun _ => ?_, fun q => absurd ((iN_lt (by omega) (by omega)).mpr (by omega)) q⟩
    rw [iN_inj (by omega) (by omega), iN_inj (by omega) (by omega)]
    unfold pk3 at hK
    refine ⟨fun q => ?_, fun q => ⟨fun q2 => ?_, fun q2 => ?_⟩⟩
    · rw [if_pos q] at hK; exact hK
    · rw [if_neg q, if_pos q2] at hK; exact hK
    · rw [if_neg q, if_neg q2] at hK; exact hK
  | n + 1, k, a, J, e, h0, c, hK => by
    refine v12_price_22 hs hz ⟨fun q => absurd ((iN_lt (by omega) (by omega)).mp q) (by omega), fun _ => ?_⟩
    refine c_oftenOfAll hs hz c o h0 (by omega) (fun J1 hJ1 => ?_)
    have nx := fun a' => price_m (w := w) (K := K) hs hz o hw n (k + 1) a' J1 (by omega) (by omega) (c.fr hJ1)
    have N1 : ¬ iN 1 = iN 0 := fun q => absurd ((iN_inj (by omega) (by omega)).mp q) (by omega)
    refine ⟨fun q => ?_, fun q => ?_⟩
    · refine v12_price_51 hs (gT rfl (v12_price_64 hs (gT rfl (gT rfl ?_))))
      rw [iN_add]
      exact nx a (fun J2 hJ2 => by
        have := hK J2 (hJ1.tr hJ2)
        rw [show foldA (prF S) (n + 1) k a = foldA (prF S) n (k + 1) a by show foldA (prF S) n (k + 1) (prF S k a) = _; unfold prF; rw [if_pos q]] at this
        exact this)
    · refine v12_price_51 hs (gF N1 (v12_price_64 hs (gF N1 (gF N1 ?_))))
      rw [iN_add]
      exact nx (iN k, iN (allA S k none) * iN k, iN (allA S k none)) (fun J2 hJ2 => by
        have := hK J2 (hJ1.tr hJ2)
        rw [show foldA (prF S) (n + 1) k a = foldA (prF S) n (k + 1) (iN k, iN (allA S k none) * iN k, iN (allA S k none)) by show foldA (prF S) n (k + 1) (prF S k a) = _; unfold prF; rw [if_neg q]] at this
        exact this)
theorem allA_le (S : AS) (k : Nat) (x : Option Nat) (o : OKS S) : allA S k x ≤ 5 * 594 := Nat.le_trans (sumN_le (b := 594) (fun s _ => oftA_le S k _)) (Nat.mul_le_mul_right _ o.1.2.1)
theorem P_price (hs : GS g) (o : OKS S) (v : Int32) : Pair g S m11_price m12_price [.int v] := by
  by_cases h1 : inR v (iN 0) (iN 2)
  · obtain ⟨w, rfl, _, hw⟩ := (inR_nat (by omega) (by omega)).mp h1
    have e1 : ∀ b, foldA (prF S) 12 1 (b, iM 1, iN 0) = foldA (prF S) 11 2 (iN 1, iN (allA S 1 none) * iN 1, iN (allA S 1 none)) := fun b => by
      have e : prF S 1 (b, iM 1, iN 0) = (iN 1, iN (allA S 1 none) * iN 1, iN (allA S 1 none)) := by
        unfold prF
        rw [if_neg]
        show ¬ _ ≤ iM 1
        have := allA_le S 1 none o
        rw [iN_mul]; exact iM_nle (by omega) (by omega) (by omega)
      rw [foldA_s, e]
    refine ⟨pk3 w (foldA (prF S) 12 1 (iN 0, iM 1, iN 0)), S, o, fun d z I K hz c hK => ?_, fun d z I K hz m hK => ?_⟩
    · exact v11_price hs (gT h1 (price_c hs hz o (by omega) 12 1 (iN 0, iM 1, iN 0) I rfl (by omega) c (fun J hJ => hK.f hz c hJ)))
    · exact v12_price hs (gT h1 (price_m hs hz o (by omega) 12 1 (iN 1, iM 1, iN 0) I rfl (by omega) m (fun J hJ => by rw [e1, ← e1 (iN 0)]; exact hK.f m hJ)))
  · exact ⟨iM 2, S, o, fun d z I K hz c hK => v11_price hs (gF h1 (hK.i c)), fun d z I K hz m hK => v12_price hs (gF h1 (hK.i m))⟩
theorem left0 {p k : Nat} (o : OKS S) (hp : p < 5) : ∀ s, sNs S ≤ s → s < 6 → leftA S k (sHas S p) s = 0 := fun s a b => by
  have h1 : leftA S k (sHas S p) s ≤ sHas S p s := oft_le s
  have h2 : sHas S p s = 0 := o.2.2.1.2 p s hp b a
  omega
theorem P_idle (hs : GS g) (o : OKS S) (v1 v2 : Int32) : Pair g S m11_idle m12_idle [.int v1, .int v2] := by
  have n6 := o.1.1
  have p5 := o.1.2.1
  by_cases h1 : inR v1 (iN 0) (iN (sNp S) - iN 1)
  · obtain ⟨p, hp, rfl⟩ := (inR_dn (by omega)).mp h1
    have hb := o.b p
    by_cases h2 : inR v2 (iN 1) (iN 12)
    · obtain ⟨k, rfl, hk1, hk⟩ := isP h2
      have hl : Bd 1000 (leftA S k (sHas S p)) := fun s q => by have := leftA_bd (S := S) (k := k) hb s q; omega
      refine ⟨iN (bset (fun s => decide (0 < leftA S k (sHas S p) s)) 6), S, o, fun d z I K hz c hK => ?_, fun d z I K hz m hK => ?_⟩
      · exact v11_idle hs hz (gN c.np p5 (by omega) hp rfl (gT h2 (c_timesAt hs hz c (hz.purse (by omega)) (c.pu (by omega)) hb (by omega) (by omega) (fun J hJ hr => c_sbits (a := 12) hs hz.thought hr hl (hK.f hz c (FrC.of hJ scr_thought))))))
      · exact v12_idle hs hz (gM m.np h1 (gT h2 (c_oftenOf hs hz m o (by omega) (by omega) (by omega) (fun J hJ hr => c_leftNow1 hs hz (m.fr hJ) o hr hl (left0 o (by omega)) (hK.f m hJ)))))
    · exact ⟨iM 7, S, o, fun d z I K hz c hK => v11_idle hs hz (gN c.np p5 (by omega) hp rfl (gF h2 (hK.i c))), fun d z I K hz m hK => v12_idle hs hz (gM m.np h1 (gF h2 (hK.i m)))⟩
  · exact ⟨iM 5, S, o, fun d z I K hz c hK => v11_idle hs hz (gNn c.np p5 h1 (hK.i c)), fun d z I K hz m hK => v12_idle hs hz (gMn m.np h1 (hK.i m))⟩
def deaN (S : AS) (p n : Nat) : Nat → Nat
  | 0 => 0
  | k + 1 => if n ≤ oftA S (k + 1) (sHas S p) then k + 1 else deaN S p n k
theorem dea_c {p n : Nat} {K : Int32 → Is → Prop} (hs : GS g) (hz : Sh z) (o : OKS S) (hp : p < 5) (hn : n ≤ 1000) : ∀ (k : Nat) (J : Is), k ≤ 12 → CI z J S → (∀ J2, FrC z J J2 → K (iN (deaN S p n k)) J2) → WPc g m11_dearest (d + 6) 0 0 30 [(0, .ref 8), (2, .int (iN n)), (3, .ref (49 + 8 * p)), (4, .int (iN k))] [] z J (Qi z K)
  | 0, J, e, c, hK => v11_dearest_30 hs hz ⟨fun _ => hK J (FrC.rf z J), fun q => absurd ((iN_lt (by omega) (by omega)).mpr (by omega)) q⟩
  | k + 1, J, e, c, hK => by
    have hle := oftA_le S (k + 1) (sHas S p)
    refine v11_dearest_30 hs hz ⟨fun q => absurd ((iN_lt (by omega) (by omega)).mp q) (by omega), fun _ => ?_⟩
    refine c_timesAt hs hz c (hz.purse hp) (c.pu hp) (o.b p) (by omega) (by omega) (fun J1 hJ1 _ => ?_)
    have f : FrC z J J1 := FrC.of hJ1 scr_thought
    rw [iN_lt (by omega) (by omega), iN_dec (by omega)]
    unfold deaN at hK
    refine ⟨fun q => ?_, fun q => ?_⟩
    · rw [if_neg (by omega)] at hK
      exact dea_c hs hz o hp hn k J1 (by omega) (c.fr hz f) (fun J2 hJ2 => hK J2 (f.tr hJ2))
    · rw [if_pos (by omega)] at hK
      exact hK J1 f
theorem dea_m {p n : Nat} {K : Int32 → Is → Prop} (hs : GS g) (hz : Sh z) (o : OKS S) (hp : p < 5) (hn : n ≤ 1000) : ∀ (k : Nat) (J : Is), k ≤ 12 → MI J S → (∀ J2, Of [118, 119, 120] J J2 → K (iN (deaN S p n k)) J2) → WPc g m12_dearest (d + 6) 0 0 27 [(0, .ref 101), (1, .int (iN p)), (2, .int (iN n)), (3, .int (iN k))] [] z J (Qi z K)
  | 0, J, e, c, hK => v12_dearest_27 hs hz ⟨fun _ => hK J (Of.rf _ J), fun q => absurd ((iN_lt (by omega) (by omega)).mpr (by omega)) q⟩
  | k + 1, J, e, c, hK => by
    have hle := oftA_le S (k + 1) (sHas S p)
    refine v12_dearest_27 hs hz ⟨fun q => absurd ((iN_lt (by omega) (by omega)).mp q) (by omega), fun _ => ?_⟩
    refine c_oftenOf hs hz c o hp (by omega) (by omega) (fun J1 hJ1 _ => ?_)
    rw [iN_lt (by omega) (by omega), iN_dec (by omega)]
    unfold deaN at hK
    refine ⟨fun q => ?_, fun q => ?_⟩
    · rw [if_neg (by omega)] at hK
      exact dea_m hs hz o hp hn k J1 (by omega) (c.fr hJ1) (fun J2 hJ2 => hK J2 (hJ1.tr hJ2))
    · rw [if_pos (by omega)] at hK
      exact hK J1 hJ1
theorem P_dearest (hs : GS g) (o : OKS S) (v1 v2 : Int32) : Pair g S m11_dearest m12_dearest [.int v1, .int v2] := by
  have p5 := o.1.2.1
  by_cases h1 : inR v1 (iN 0) (iN (sNp S) - iN 1)
  · obtain ⟨p, hp, rfl⟩ := (inR_dn (by omega)).mp h1
    by_cases h2 : inR v2 (iN 1) (iN 99)
    · obtain ⟨n, rfl, _, hn⟩ := (inR_nat (by omega) (by omega)).mp h2
      exact ⟨iN (deaN S p n 12), S, o, fun d z I K hz c hK => v11_dearest hs hz (gN c.np p5 (by omega) hp rfl (gT h2 (dea_c hs hz o (by omega) (by omega) 12 I (by omega) c (fun J hJ => hK.f hz c hJ)))), fun d z I K hz m hK => v12_dearest hs hz (gM m.np h1 (gT h2 (dea_m hs hz o (by omega) (by omega) 12 I (by omega) m (fun J hJ => hK.f m hJ))))⟩
    · exact ⟨iM 7, S, o, fun d z I K hz c hK => v11_dearest hs hz (gN c.np p5 (by omega) hp rfl (gF h2 (hK.i c))), fun d z I K hz m hK => v12_dearest hs hz (gM m.np h1 (gF h2 (hK.i m)))⟩
  · exact ⟨iM 5, S, o, fun d z I K hz c hK => v11_dearest hs hz (gNn c.np p5 h1 (hK.i c)), fun d z I K hz m hK => v12_dearest hs hz (gMn m.np h1 (hK.i m))⟩
end PC
