/-! pairs: lacks, thief, rob -/
abbrev I2 : Type := Int32 × Int32
def pk2 (w : Nat) (a : I2) : Int32 := if w = 0 then a.1 else a.2
def laF (S : AS) (k s : Nat) (a : I2) : I2 := if iN (allA S k (some s)) ≤ a.2 then a else (iN s, iN (allA S k (some s)))
def thF (S : AS) (p k s : Nat) (o : Option (Nat × Nat)) : Option (Nat × Nat) := if sHas S p s = 0 then o else match o with
  | none => some (s, oftA S k (lessA (sHas S p) s))
  | some (w, l) => if l ≤ oftA S k (lessA (sHas S p) s) then some (w, l) else some (s, oftA S k (lessA (sHas S p) s))
def fsI (o : Option (Nat × Nat)) : Int32 := match o with
  | none => iM 1
  | some (w, _) => iN w
def snI (o : Option (Nat × Nat)) : Int32 := match o with
  | none => iM 1
  | some (_, l) => iN l
theorem iM_inj1 : iM 1 = iM 1 := rfl
section PD
variable {g : Gt} {d : Nat} {z : Zs} {I J : Is} {S : AS}
theorem lacks_c {k w : Nat} {K : Int32 → Is → Prop} (hs : GS g) (hz : Sh z) (o : OKS S) (hw : w < 2) (h0 : 0 < k) (hk : k ≤ 1000) : ∀ (n s : Nat) (a : I2) (J : Is), s + n = sNs S → CI z J S → (∀ J2, FrC z J J2 → K (pk2 w (foldA (laF S k) n s a)) J2) → WPc g m11_lacks (d + 6) 0 0 27 [(0, .ref 8), (1, .int (iN k)), (2, .int (iN w)), (3, .int a.1), (4, .int a.2), (5, .int (iN s))] [] z J (Qi z K)
  | 0, s, a, J, e, c, hK => by
    have n6 := o.1.1
    have hK := hK J (FrC.rf z J)
    refine v11_lacks_27 hs hz ⟨fun _ => ?_, fun q => ?_⟩
    · rw [iN_inj (by omega) (by omega)]
      unfold pk2 at hK
      refine ⟨fun q => ?_, fun q => ?_⟩
      · rw [if_pos q] at hK; exact hK
      · rw [if_neg q] at hK; exact hK
    · rw [c.ns] at q; exact absurd ((iN_le (by omega) (by omega)).mpr (by omega)) q
  | n + 1, s, a, J, e, c, hK => by
    have n6 := o.1.1
    refine v11_lacks_27 hs hz ⟨fun q => ?_, fun _ => ?_⟩
    · rw [c.ns] at q; exact absurd ((iN_le (by omega) (by omega)).mp q) (by omega)
    · refine c_timesOfAll (o := some s) hs hz c o h0 hk (fun _ q => by cases q; omega) (fun J1 hJ1 => ?_)
      have nx := fun a' => lacks_c (w := w) (K := K) hs hz o hw h0 hk n (s + 1) a' J1 (by omega) (c.fr hz hJ1)
      rw [iN_add]
      refine ⟨fun q => nx a (fun J2 hJ2 => ?_), fun q => nx (iN s, iN (allA S k (some s))) (fun J2 hJ2 => ?_)⟩
      · have := hK J2 (hJ1.tr hJ2)
        rw [foldA_s, show laF S k s a = a by unfold laF; rw [if_pos q]] at this
        exact this
      · have := hK J2 (hJ1.tr hJ2)
        rw [foldA_s, show laF S k s a = (iN s, iN (allA S k (some s))) by unfold laF; rw [if_neg q]] at this
        exact this
theorem lacks_m {k w : Nat} {K : Int32 → Is → Prop} (hs : GS g) (hz : Sh z) (o : OKS S) (hw : w < 2) (h0 : 0 < k) (hk : k ≤ 1000) : ∀ (n s : Nat) (a : I2) (J : Is), s + n = sNs S → MI J S → (∀ J2, Of [118, 119, 120] J J2 → K (pk2 w (foldA (laF S k) n s a)) J2) → WPc g m12_lacks (d + 6) 0 0 27 [(0, .ref 101), (1, .int (iN k)), (2, .int (iN w)), (3, .int a.1), (4, .int a.2), (5, .int (iN s))] [] z J (Qi z K)
  | 0, s, a, J, e, c, hK => by
    have n6 := o.1.1
    have hK := hK J (Of.rf _ J)
    refine v12_lacks_27 hs hz ⟨fun _ => ?_, fun q => ?_⟩
    · rw [iN_inj (by omega) (by omega)]
      unfold pk2 at hK
      refine ⟨fun q => ?_, fun q => ?_⟩
      · rw [if_pos q] at hK; exact hK
      · rw [if_neg q] at hK; exact hK
    · rw [c.ns] at q; exact absurd ((iN_le (by omega) (by omega)).mpr (by omega)) q
  | n + 1, s, a, J, e, c, hK => by
    have n6 := o.1.1
    refine v12_lacks_27 hs hz ⟨fun q => ?_, fun _ => ?_⟩
    · rw [c.ns] at q; exact absurd ((iN_le (by omega) (by omega)).mp q) (by omega)
    · refine c_oftenWithMore hs hz c o h0 hk (by omega) (fun J1 hJ1 => ?_)
      have nx := fun a' => lacks_m (w := w) (K := K) hs hz o hw h0 hk n (s + 1) a' J1 (by omega) (c.fr hJ1)
      rw [iN_add]
      refine ⟨fun q => gT q (nx a (fun J2 hJ2 => ?_)), fun q => gF q (nx (iN s, iN (allA S k (some s))) (fun J2 hJ2 => ?_))⟩
      · have := hK J2 (hJ1.tr hJ2)
        rw [foldA_s, show laF S k s a = a by unfold laF; rw [if_pos q]] at this
        exact this
      · have := hK J2 (hJ1.tr hJ2)
        rw [foldA_s, show laF S k s a = (iN s, iN (allA S k (some s))) by unfold laF; rw [if_neg q]] at this
        exact this
theorem P_lacks (hs : GS g) (o : OKS S) (v1 v2 : Int32) : Pair g S m11_lacks m12_lacks [.int v1, .int v2] := by
  by_cases h1 : inR v1 (iN 1) (iN 12)
  · obtain ⟨k, rfl, hk1, hk⟩ := isP h1
    by_cases h2 : inR v2 (iN 0) (iN 1)
    · obtain ⟨w, rfl, _, hw⟩ := (inR_nat (by omega) (by omega)).mp h2
      exact ⟨pk2 w (foldA (laF S k) (sNs S) 0 (iM 1, iM 1)), S, o, fun d z I K hz c hK => v11_lacks hs (gT h1 (gT h2 (lacks_c hs hz o (by omega) (by omega) (by omega) (sNs S) 0 (iM 1, iM 1) I (by omega) c (fun J hJ => hK.f hz c hJ)))), fun d z I K hz m hK => v12_lacks hs (gT h1 (gT h2 (lacks_m hs hz o (by omega) (by omega) (by omega) (sNs S) 0 (iM 1, iM 1) I (by omega) m (fun J hJ => hK.f m hJ))))⟩
    · exact ⟨iM 2, S, o, fun d z I K hz c hK => v11_lacks hs (gT h1 (gF h2 (hK.i c))), fun d z I K hz m hK => v12_lacks hs (gT h1 (gF h2 (hK.i m)))⟩
  · exact ⟨iM 2, S, o, fun d z I K hz c hK => v11_lacks hs (gF h1 (hK.i c)), fun d z I K hz m hK => v12_lacks hs (gF h1 (hK.i m))⟩
-- thief
def OtO (b : Nat) (o : Option (Nat × Nat)) : Prop := ∀ x, o = some x → x.1 ≤ b ∧ x.2 ≤ b
theorem thief_c {p k w : Nat} {K : Int32 → Is → Prop} (hs : GS g) (hz : Sh z) (o : OKS S) (hp : p < 5) (hw : w < 2) (h0 : 0 < k) (hk : k ≤ 1000) : ∀ (n s : Nat) (a : Option (Nat × Nat)) (J : Is), s + n = sNs S → OtO 1000 a → CI z J S → (∀ J2, FrC z J J2 → K (if w = 0 then fsI (foldA (thF S p k) n s a) else snI (foldA (thF S p k) n s a)) J2) → WPc g m11_thief (d + 7) 0 0 43 [(0, .ref 8), (2, .int (iN k)), (3, .int (iN w)), (4, .ref (49 + 8 * p)), (5, .int (fsI a)), (6, .int (snI a)), (7, .int (iN s))] [] z J (Qi z K)
  | 0, s, a, J, e, ha, c, hK => by
    have n6 := o.1.1
    have hK := hK J (FrC.rf z J)
    refine v11_thief_43 hs hz ⟨fun _ => ?_, fun q => ?_⟩
    · rw [iN_inj (by omega) (by omega)]
      refine ⟨fun q => ?_, fun q => ?_⟩
      · rw [if_pos q] at hK; exact hK
      · rw [if_neg q] at hK; exact hK
    · rw [c.ns] at q; exact absurd ((iN_le (by omega) (by omega)).mpr (by omega)) q
  | n + 1, s, a, J, e, ha, c, hK => by
    have n6 := o.1.1
    have hb : sHas S p s ≤ 99 := o.b p s (by omega)
    have hl := oftA_le S k (lessA (sHas S p) s)
    refine v11_thief_43 hs hz ⟨fun q => ?_, fun _ => ⟨by rw [(hz.purse hp).t]; rfl, c_many hs (hz.purse hp) (by omega) ?_⟩⟩
    · rw [c.ns] at q; exact absurd ((iN_le (by omega) (by omega)).mp q) (by omega)
    · rw [c.pu hp s (by omega), iN_inj (by omega) (by omega)]
      rw [foldA_s] at hK
      refine ⟨fun q => ?_, fun q => ?_⟩
      · have e1 : thF S p k s a = a := by unfold thF; rw [if_pos q]
        rw [e1] at hK
        rw [iN_add]
        exact thief_c hs hz o hp hw h0 hk n (s + 1) a J (by omega) ha c hK
      · refine c_timesWith1 hs hz c (hz.purse hp) (c.pu hp) (o.b p) h0 hk (by omega) (fun J1 hJ1 => ?_)
        have nx := fun a' h' => thief_c (w := w) (K := K) hs hz o hp hw h0 hk n (s + 1) a' J1 (by omega) h' (c.fr hz hJ1)
        have hK1 : ∀ J2, FrC z J1 J2 → _ := fun J2 hJ2 => hK J2 (hJ1.tr hJ2)
        rw [iN_add]
        cases a with
        | none =>
          have e1 : thF S p k s none = some (s, oftA S k (lessA (sHas S p) s)) := by unfold thF; rw [if_neg q]
          rw [e1] at hK1
          exact gT rfl (nx (some (s, oftA S k (lessA (sHas S p) s))) (fun x hx => by cases hx; exact ⟨by show s ≤ 1000; omega, by show oftA S k _ ≤ 1000; omega⟩) hK1)
        | some x =>
          obtain ⟨w', l⟩ := x
          have hx := ha _ rfl
          refine gF (iM_ne (by show w' < _; have := hx.1; simp at this; omega) (by omega) (by omega)) ?_
          show (iN l ≤ iN _ → _) ∧ (¬ iN l ≤ iN _ → _)
          have hl2 : l ≤ 1000 := hx.2
          rw [iN_le (by omega) (by omega)]
          refine ⟨fun q2 => ?_, fun q2 => ?_⟩
          · have e1 : thF S p k s (some (w', l)) = some (w', l) := by unfold thF; rw [if_neg q]; show (if _ then _ else _) = _; rw [if_pos q2]
            rw [e1] at hK1
            exact nx (some (w', l)) ha hK1
          · have e1 : thF S p k s (some (w', l)) = some (s, oftA S k (lessA (sHas S p) s)) := by unfold thF; rw [if_neg q]; show (if _ then _ else _) = _; rw [if_neg q2]
            rw [e1] at hK1
            exact nx (some (s, oftA S k (lessA (sHas S p) s))) (fun x hx => by cases hx; exact ⟨by show s ≤ 1000; omega, by show oftA S k _ ≤ 1000; omega⟩) hK1
theorem thief_m {p k w : Nat} {K : Int32 → Is → Prop} (hs : GS g) (hz : Sh z) (o : OKS S) (hp : p < 5) (hw : w < 2) (h0 : 0 < k) (hk : k ≤ 1000) : ∀ (n s : Nat) (a : Option (Nat × Nat)) (J : Is), s + n = sNs S → OtO 1000 a → MI J S → (∀ J2, Of [118, 119, 120] J J2 → K (if w = 0 then fsI (foldA (thF S p k) n s a) else snI (foldA (thF S p k) n s a)) J2) → WPc g m12_thief (d + 7) 0 0 39 [(0, .ref 101), (1, .int (iN p)), (2, .int (iN k)), (3, .int (iN w)), (4, .int (fsI a)), (5, .int (snI a)), (6, .int (iN s))] [] z J (Qi z K)
  | 0, s, a, J, e, ha, c, hK => by
    have n6 := o.1.1
    have hK := hK J (Of.rf _ J)
    refine v12_thief_39 hs hz ⟨fun _ => ?_, fun q => ?_⟩
    · rw [iN_inj (by omega) (by omega)]
      refine ⟨fun q => ?_, fun q => ?_⟩
      · rw [if_pos q] at hK; exact hK
      · rw [if_neg q] at hK; exact hK
    · rw [c.ns] at q; exact absurd ((iN_le (by omega) (by omega)).mpr (by omega)) q
  | n + 1, s, a, J, e, ha, c, hK => by
    have n6 := o.1.1
    have hb : sHas S p s ≤ 99 := o.b p s (by omega)
    have hl := oftA_le S k (lessA (sHas S p) s)
    refine v12_thief_39 hs hz ⟨fun q => ?_, fun _ => ?_⟩
    · rw [c.ns] at q; exact absurd ((iN_le (by omega) (by omega)).mp q) (by omega)
    · rw [iN_mul, iN_add, iN_toN (by omega), c.has]
      rw [foldA_s] at hK
      refine ⟨inB_n (by omega) (by omega), ?_⟩
      show (iN (sHas S p s) ≤ iN 0 → _) ∧ (¬ iN (sHas S p s) ≤ iN 0 → _)
      rw [iN_le (by omega) (by omega)]
      refine ⟨fun q => ?_, fun q => ?_⟩
      · have e1 : thF S p k s a = a := by unfold thF; rw [if_pos (by omega)]
        rw [e1] at hK
        rw [iN_add]
        exact thief_m hs hz o hp hw h0 hk n (s + 1) a J (by omega) ha c hK
      · have qn : ¬ sHas S p s = 0 := by omega
        refine c_thinksOf hs hz c o hp (fun J0 hJ0 hr0 => ⟨inB_n (by omega) (by omega), ?_⟩)
        rw [iN_toN (by omega), hr0 s (by omega), iN_sub (by omega)]
        have hO : Of [118, 119, 120] J (up2 J0 118 s (iN (sHas S p s - 1))) := (hJ0.mo (by simp)).upt (by simp) _ _
        refine c_oftenNow (h := lessA (sHas S p) s) hs hz (c.fr hO) o h0 hk (lessA_bd (o.b p) (by omega)) (hr0.up _) (fun J1' hJ1' _ => ?_)
        have hJ1 := hO.tr hJ1'
        have nx := fun a' h' => thief_m (w := w) (K := K) hs hz o hp hw h0 hk n (s + 1) a' J1' (by omega) h' (c.fr hJ1)
        have hK1 : ∀ J2, Of [118, 119, 120] J1' J2 → _ := fun J2 hJ2 => hK J2 (hJ1.tr hJ2)
        have new : Option (Nat × Nat) := some (s, oftA S k (lessA (sHas S p) s))
        cases a with
        | none =>
          have e1 : thF S p k s none = some (s, oftA S k (lessA (sHas S p) s)) := by unfold thF; rw [if_neg qn]
          rw [e1] at hK1
          refine gT rfl (v12_thief_99 hs (v12_thief_106 hs (gT rfl ?_)))
          rw [iN_add]
          exact nx (some (s, oftA S k (lessA (sHas S p) s))) (fun x hx => by cases hx; exact ⟨by show s ≤ 1000; omega, by show oftA S k _ ≤ 1000; omega⟩) hK1
        | some x =>
          obtain ⟨w', l⟩ := x
          have hx := ha _ rfl
          have hl2 : l ≤ 1000 := hx.2
          have hl1 : w' ≤ 1000 := hx.1
          refine gF (iM_ne (by omega) (by omega) (by omega)) ?_
          show (iN l ≤ iN _ → _) ∧ (¬ iN l ≤ iN _ → _)
          have nl : ¬ snI (some (w', l)) = iM 1 := iM_ne (by omega) (by omega) (by omega)
          refine ⟨fun q2 => v12_thief_106 hs (gF nl (gT q2 ?_)), fun q2 => v12_thief_99 hs (v12_thief_106 hs (gF nl (gF q2 ?_)))⟩
          · rw [iN_le (by omega) (by omega)] at q2
            have e1 : thF S p k s (some (w', l)) = some (w', l) := by unfold thF; rw [if_neg qn]; show (if _ then _ else _) = _; rw [if_pos q2]
            rw [e1] at hK1
            rw [iN_add]
            exact nx (some (w', l)) ha hK1
          · rw [iN_le (by omega) (by omega)] at q2
            have e1 : thF S p k s (some (w', l)) = some (s, oftA S k (lessA (sHas S p) s)) := by unfold thF; rw [if_neg qn]; show (if _ then _ else _) = _; rw [if_neg q2]
            rw [e1] at hK1
            rw [iN_add]
            exact nx (some (s, oftA S k (lessA (sHas S p) s))) (fun x hx => by cases hx; exact ⟨by show s ≤ 1000; omega, by show oftA S k _ ≤ 1000; omega⟩) hK1
theorem P_thief (hs : GS g) (o : OKS S) (v1 v2 v3 : Int32) : Pair g S m11_thief m12_thief [.int v1, .int v2, .int v3] := by
  have p5 := o.1.2.1
  by_cases h1 : inR v1 (iN 0) (iN (sNp S) - iN 1)
  · obtain ⟨p, hp, rfl⟩ := (inR_dn (by omega)).mp h1
    by_cases h2 : inR v2 (iN 1) (iN 12)
    · obtain ⟨k, rfl, hk1, hk⟩ := isP h2
      by_cases h3 : inR v3 (iN 0) (iN 1)
      · obtain ⟨w, rfl, _, hw⟩ := (inR_nat (by omega) (by omega)).mp h3
        exact ⟨if w = 0 then fsI (foldA (thF S p k) (sNs S) 0 none) else snI (foldA (thF S p k) (sNs S) 0 none), S, o, fun d z I K hz c hK => v11_thief hs hz (gN c.np p5 (by omega) hp rfl (gT h2 (gT h3 (thief_c hs hz o (by omega) (by omega) (by omega) (by omega) (sNs S) 0 none I (by omega) (fun x hx => by cases hx) c (fun J hJ => hK.f hz c hJ))))), fun d z I K hz m hK => v12_thief hs hz (gM m.np h1 (gT h2 (gT h3 (thief_m hs hz o (by omega) (by omega) (by omega) (by omega) (sNs S) 0 none I (by omega) (fun x hx => by cases hx) m (fun J hJ => hK.f m hJ)))))⟩
      · exact ⟨iM 7, S, o, fun d z I K hz c hK => v11_thief hs hz (gN c.np p5 (by omega) hp rfl (gT h2 (gF h3 (hK.i c)))), fun d z I K hz m hK => v12_thief hs hz (gM m.np h1 (gT h2 (gF h3 (hK.i m))))⟩
    · exact ⟨iM 7, S, o, fun d z I K hz c hK => v11_thief hs hz (gN c.np p5 (by omega) hp rfl (gF h2 (hK.i c))), fun d z I K hz m hK => v12_thief hs hz (gM m.np h1 (gF h2 (hK.i m)))⟩
  · exact ⟨iM 5, S, o, fun d z I K hz c hK => v11_thief hs hz (gNn c.np p5 h1 (hK.i c)), fun d z I K hz m hK => v12_thief hs hz (gMn m.np h1 (hK.i m))⟩
-- rob
def robH (h : Nat → Nat) (n : Nat) : Nat → Nat := fun s => if s < n ∧ h s = 1 then 0 else h s
def robN (h : Nat → Nat) : Nat → Nat
  | 0 => 0
  | n + 1 => robN h n + (if h n = 1 then 1 else 0)
theorem robN_le (h : Nat → Nat) : ∀ n, robN h n ≤ n
  | 0 => Nat.le_refl _
  | n + 1 => by have := robN_le h n; unfold robN; split <;> omega
theorem rob_c {p : Nat} {h : Nat → Nat} {K : Int32 → Is → Prop} (hs : GS g) (hz : Sh z) (n6 : sNs S ≤ 6) (hp : p < 5) (hb : Bd 99 h) (hns : I 8 10 = iN (sNs S)) (hK : ∀ J, Of [49 + 8 * p + 1] I J → Rw J (49 + 8 * p + 1) (robH h (sNs S)) → K (iN (robN h (sNs S))) J) : ∀ (n s : Nat) (J : Is), s + n = sNs S → Of [49 + 8 * p + 1] I J → Rw J (49 + 8 * p + 1) (robH h s) → WPc g m11_rob (d + 3) 0 0 18 [(0, .ref 8), (2, .ref (49 + 8 * p)), (3, .int (iN (robN h s))), (4, .int (iN s))] [] z J (Qi z K)
  | 0, s, J, e, hJ, hr => by
    refine v11_rob_18 hs hz ⟨fun _ => ?_, fun q => ?_⟩
    · rw [show s = sNs S by omega] at hr ⊢; exact hK J hJ hr
    · rw [hJ 8 (by simp; omega), hns] at q; exact absurd ((iN_le (by omega) (by omega)).mpr (by omega)) q
  | n + 1, s, J, e, hJ, hr => by
    have hbs := hb s (by omega)
    have hrn := robN_le h s
    have e1 : robH h s s = h s := by unfold robH; rw [if_neg (by omega)]
    have er := hr s (by omega)
    rw [e1] at er
    refine v11_rob_18 hs hz ⟨fun q => ?_, fun _ => ⟨by rw [(hz.purse hp).t]; rfl, c_many hs (hz.purse hp) (by omega) ?_⟩⟩
    · rw [hJ 8 (by simp; omega), hns] at q; exact absurd ((iN_le (by omega) (by omega)).mp q) (by omega)
    · rw [er, iN_inj (by omega) (by omega)]
      refine ⟨fun q => ⟨by rw [(hz.purse hp).t]; rfl, c_lose hs (hz.purse hp) (by omega) er (by omega) ?_⟩, fun q => ?_⟩
      · rw [iN_add, iN_add]
        have e2 : robN h s + 1 = robN h (s + 1) := by show _ = robN h s + _; rw [if_pos q]
        rw [e2]
        refine rob_c hs hz n6 hp hb hns hK n (s + 1) _ (by omega) (hJ.upt (by simp) _ _) ((hr.up _).fn (fun i hi => ?_))
        unfold up1 robH
        by_cases w : i = s
        · rw [if_pos w, if_pos ⟨by omega, by rw [w]; exact q⟩]; omega
        · rw [if_neg w]
          by_cases w2 : i < s ∧ h i = 1
          · rw [if_pos w2, if_pos ⟨by omega, w2.2⟩]
          · rw [if_neg w2, if_neg (fun x => w2 ⟨by omega, x.2⟩)]
      · rw [iN_add]
        have e2 : robN h s = robN h (s + 1) := by show _ = robN h s + _; rw [if_neg q]; rfl
        rw [e2]
        refine rob_c hs hz n6 hp hb hns hK n (s + 1) _ (by omega) hJ (hr.fn (fun i hi => ?_))
        unfold robH
        by_cases w2 : i < s ∧ h i = 1
        · rw [if_pos w2, if_pos ⟨by omega, w2.2⟩]
        · rw [if_neg w2]
          by_cases w : i = s
          · rw [if_neg (fun x => q (by rw [← w]; exact x.2))]
          · rw [if_neg (fun x => w2 ⟨by omega, x.2⟩)]
theorem rob_m {p : Nat} {h : Nat → Nat} {K : Int32 → Is → Prop} (hs : GS g) (hz : Sh z) (n6 : sNs S ≤ 6) (hp : p < 5) (hb : Bd 99 h) (hns : I 101 0 = iN (sNs S)) (hK : ∀ J, Of [105] I J → (∀ i, i < 6 → J 105 (6 * p + i) = iN (robH h (sNs S) i)) → (∀ i, i / 6 ≠ p → J 105 i = I 105 i) → K (iN (robN h (sNs S))) J) : ∀ (n s : Nat) (J : Is), s + n = sNs S → Of [105] I J → (∀ i, i < 6 → J 105 (6 * p + i) = iN (robH h s i)) → (∀ i, i / 6 ≠ p → J 105 i = I 105 i) → WPc g m12_rob (d + 3) 0 0 15 [(0, .ref 101), (1, .int (iN p)), (2, .int (iN (robN h s))), (3, .int (iN s))] [] z J (Qi z K)
  | 0, s, J, e, hJ, hr, h2 => by
    refine v12_rob_15 hs hz ⟨fun _ => ?_, fun q => ?_⟩
    · rw [show s = sNs S by omega] at hr ⊢; exact hK J hJ hr h2
    · rw [hJ 101 (by simp), hns] at q; exact absurd ((iN_le (by omega) (by omega)).mpr (by omega)) q
  | n + 1, s, J, e, hJ, hr, h2 => by
    have hbs := hb s (by omega)
    have hrn := robN_le h s
    have e1 : robH h s s = h s := by unfold robH; rw [if_neg (by omega)]
    have er := hr s (by omega)
    rw [e1] at er
    have eix : (iN 6 * iN p + iN s).toNatClampNeg = 6 * p + s := by rw [iN_mul, iN_add, iN_toN (by omega)]
    have eib : inB (iN 6 * iN p + iN s) 30 = true := by rw [iN_mul, iN_add]; exact inB_n (by omega) (by omega)
    have wr : ∀ v, (∀ i, i < 6 → (if i = s then v else robH h s i) = robH h (s + 1) i) → ∀ i, i < 6 → up2 J 105 (6 * p + s) (iN v) 105 (6 * p + i) = iN (robH h (s + 1) i) := fun v hv i hi => by
      rw [up2_ra, ← hv i hi]; unfold up1
      by_cases w : i = s
      · rw [if_pos (by omega), if_pos w]
      · rw [if_neg (by omega), if_neg w]; exact hr i hi
    have w2 : ∀ v, ∀ i, i / 6 ≠ p → up2 J 105 (6 * p + s) v 105 i = I 105 i := fun v i hi => by rw [up2_ra, up1_o _ (by omega)]; exact h2 i hi
    refine v12_rob_15 hs hz ⟨fun q => ?_, fun _ => ⟨eib, ?_⟩⟩
    · rw [hJ 101 (by simp), hns] at q; exact absurd ((iN_le (by omega) (by omega)).mp q) (by omega)
    · rw [eix, er, iN_inj (by omega) (by omega)]
      refine ⟨fun q => v12_rob_44 hs hz ⟨eib, ?_⟩, fun q => v12_rob_44 hs hz ⟨eib, ?_⟩⟩
      · rw [eix, er, iN_inj (by omega) (by omega), iN_add, iN_add]
        refine gT q ?_
        have e2 : robN h s + 1 = robN h (s + 1) := by show _ = robN h s + _; rw [if_pos q]
        rw [e2]
        refine rob_m hs hz n6 hp hb hns hK n (s + 1) _ (by omega) (hJ.upt (by simp) _ _) (wr 0 (fun i hi => ?_)) (w2 _)
        unfold robH
        by_cases w : i = s
        · rw [if_pos w, if_pos ⟨by omega, by rw [w]; exact q⟩]
        · rw [if_neg w]
          by_cases w2 : i < s ∧ h i = 1
          · rw [if_pos w2, if_pos ⟨by omega, w2.2⟩]
          · rw [if_neg w2, if_neg (fun x => w2 ⟨by omega, x.2⟩)]
      · rw [eix, er, iN_inj (by omega) (by omega), iN_add, iN_add]
        refine gF q ?_
        have e2 : robN h s + 0 = robN h (s + 1) := by show _ = robN h s + _; rw [if_neg q]
        rw [e2]
        refine rob_m hs hz n6 hp hb hns hK n (s + 1) _ (by omega) (hJ.upt (by simp) _ _) (wr _ (fun i hi => ?_)) (w2 _)
        unfold robH
        by_cases w : i = s
        · rw [if_pos w, if_neg (fun x => q (by rw [← w]; exact x.2)), w]
        · rw [if_neg w]
          by_cases w2 : i < s ∧ h i = 1
          · rw [if_pos w2, if_pos ⟨by omega, w2.2⟩]
          · rw [if_neg w2, if_neg (fun x => w2 ⟨by omega, x.2⟩)]
theorem P_rob (hs : GS g) (o : OKS S) (v : Int32) : Pair g S m11_rob m12_rob [.int v] := by
  have p5 := o.1.2.1
  have n6 := o.1.1
  by_cases h1 : inR v (iN 0) (iN (sNp S) - iN 1)
  · obtain ⟨p, hp, rfl⟩ := (inR_dn (by omega)).mp h1
    have hb := o.b p
    have r0 : ∀ i, robH (sHas S p) 0 i = sHas S p i := fun i => by unfold robH; rw [if_neg (by omega)]
    refine ⟨iN (robN (sHas S p) (sNs S)), hasU S (rowU S p (robH (sHas S p) (sNs S))), o.uRow (fun s q => ?_) (fun s a b => ?_), fun d z I K hz c hK => ?_, fun d z I K hz m hK => ?_⟩
    · unfold robH; split
      · omega
      · exact hb s q
    · unfold robH; split
      · rfl
      · exact o.2.2.1.2 p s (by omega) a b
    · refine v11_rob hs hz (gN c.np p5 (by omega) hp rfl (rob_c (h := sHas S p) hs hz n6 (by omega) hb c.ns (fun J hJ hr => ?_) (sNs S) 0 I (by omega) (Of.rf _ I) ((c.pu (p := p) (by omega)).fn (fun i _ => (r0 i).symm))))
      exact hK J (c.uRow hz (by omega) (fun k _ hk => hJ k (by simp; exact hk)) hr) (KeepM.of hJ (by simp; omega))
    · refine v12_rob hs hz (gM m.np h1 (rob_m (h := sHas S p) hs hz n6 (by omega) hb m.ns (fun J hJ hr h2 => ?_) (sNs S) 0 I (by omega) (Of.rf _ I) (fun i _ => by rw [r0 i]; exact m.has _) (fun i _ => rfl)))
      exact hK J (m.uRow (fun k a b e => hJ k (by simp; exact e)) hr h2) (KeepC.of hJ)
  · exact ⟨iM 5, S, o, fun d z I K hz c hK => v11_rob hs hz (gNn c.np p5 h1 (hK.i c)), fun d z I K hz m hK => v12_rob hs hz (gMn m.np h1 (hK.i m))⟩
end PD
