/-! how often, on both sides -/
def oftA (S : AS) (k : Nat) (h : Nat → Nat) : Nat := (oft (sTg S) k h).1
def leftA (S : AS) (k : Nat) (h : Nat → Nat) : Nat → Nat := (oft (sTg S) k h).2
theorem oftA_le (S : AS) (k : Nat) (h : Nat → Nat) : oftA S k h ≤ 594 := oft_n
theorem leftA_bd {S : AS} {k b : Nat} {h : Nat → Nat} (e : Bd b h) : Bd b (leftA S k h) := fun s hs => Nat.le_trans (oft_le s) (e s hs)
section OFTC
variable {g : Gt} {d : Nat} {z : Zs} {I : Is} {S : AS} {h : Nat → Nat}
theorem scr_thought : ∀ k ∈ [13, 14, 15], Scr z k := fun k hk => scr_l (by simp at hk; rcases hk with rfl | rfl | rfl <;> decide)
theorem scr_trial : ∀ k ∈ [17, 18, 19], Scr z k := fun k hk => scr_l (by simp at hk; rcases hk with rfl | rfl | rfl <;> decide)
theorem times_l {k : Nat} {K : Int32 → Is → Prop} (hs : GS g) (hz : Sh z) (c : CI z I S) (hk0 : 0 < k) (hk : k ≤ 1000) : ∀ (F : Nat) (h : Nat → Nat) (n : Nat) (J : Is), sum6 h ≤ F → n + F = 594 → Bd 99 h → Of [13, 14, 15] I J → Rw J 13 h → (∀ J', Of [13, 14, 15] I J' → Rw J' 13 (leftA S k h) → K (iN (n + oftA S k h)) J') → WPc g m11_timesAt (d + 4) 0 0 10 [(0, .ref 8), (2, .int (iN k)), (3, .int (iN n))] [] z J (Qi z K) := by
  intro F
  induction F with
  | zero =>
    intro h n J h1 h2 bh hJ hr hK
    have st := oft_step (tg := sTg S) hk0 (h := h) (by omega)
    have hq : layN k h (fun s => sTg S s (h s)) = none := by
      cases hq : layN k h (fun s => sTg S s (h s)) with
      | none => rfl
      | some l => have := layN_sum hq; omega
    rw [hq] at st
    unfold oftA leftA at hK
    rw [st] at hK
    refine v11_timesAt_10 hs hz ⟨fun _ => hK J hJ hr, fun q => absurd ((iN_le (by omega) (by omega)).mpr (by omega)) q⟩
  | succ F ih =>
    intro h n J h1 h2 bh hJ hr hK
    have st := oft_step (tg := sTg S) hk0 (h := h) (by omega)
    have cJ := c.fr hz (FrC.of hJ scr_thought)
    refine v11_timesAt_10 hs hz ⟨fun q => absurd ((iN_le (by omega) (by omega)).mp q) (by omega), fun _ => ?_⟩
    refine c_lay (a := 12) hs hz hz.thought cJ.so hr (fun s q => by have := bh s q; omega) hk ?_
    cases hq : layN k h (fun s => sTg S s (h s)) with
    | none =>
      rw [hq] at st
      unfold oftA leftA at hK
      rw [st] at hK
      intro J' hJ'
      have e1 : J' 13 = J 13 := hJ' 13 (by decide)
      exact ⟨fun _ => hK J' (hJ.tr (hJ'.mo (by simp))) (hr.cg e1), fun q => absurd rfl q⟩
    | some l =>
      have hsm := layN_sum hq
      rw [hq] at st
      intro J' hJ' hr'
      have hle := layN_le hq
      have hpos : bset (fun s => decide (l s < h s)) 6 ≠ 0 := fun e0 => by
        -- some coin was laid
        have hall : ∀ s, s < 6 → l s = h s := fun s hs6 => by
          have hb : ∀ n, n ≤ 6 → bset (fun s => decide (l s < h s)) n = 0 → ∀ s, s < n → ¬ l s < h s := by
            intro n
            induction n with
            | zero => intro _ _ s hs; omega
            | succ n ihn =>
              intro hn6 e s hs
              unfold bset at e
              have e1 : bset (fun s => decide (l s < h s)) n = 0 := by omega
              by_cases q : s = n
              · subst q
                intro w
                rw [decide_eq_true w, if_pos rfl] at e
                have := Nat.two_pow_pos s
                omega
              · exact ihn (by omega) e1 s (by omega)
          have := hb 6 (Nat.le_refl _) e0 s hs6
          have := hle s
          omega
        have : sum6 l = sum6 h := by unfold sum6; rw [hall 0 (by omega), hall 1 (by omega), hall 2 (by omega), hall 3 (by omega), hall 4 (by omega), hall 5 (by omega)]
        omega
      have hlt := bset_lt (fun s => decide (l s < h s)) 6
      refine ⟨fun q => absurd ((iN_inj (by omega) (by omega)).mp q) hpos, fun _ => ?_⟩
      rw [iN_add]
      refine ih l (n + 1) J' (by omega) (by omega) (fun s q => Nat.le_trans (hle s) (bh s q)) (hJ.tr hJ') hr' (fun J2 a b => ?_)
      have ea : oftA S k h = oftA S k l + 1 := by unfold oftA; rw [st]
      have eb : leftA S k h = leftA S k l := by unfold leftA; rw [st]
      rw [ea, eb] at hK
      rw [show n + 1 + oftA S k l = n + (oftA S k l + 1) by omega]
      exact hK J2 a b
theorem c_timesAt {b k : Nat} {K : Int32 → Is → Prop} (hs : GS g) (hz : Sh z) (c : CI z I S) (hb : PuO z b) (hr : Rw I (b + 1) h) (bh : Bd 99 h) (hk0 : 0 < k) (hk : k ≤ 1000) (hK : ∀ J, Of [13, 14, 15] I J → Rw J 13 (leftA S k h) → K (iN (oftA S k h)) J) : Wi g m11_timesAt (d + 4) [.ref 8, .ref b, .int (iN k)] z I K :=
  v11_timesAt hs hz (c_become (a := 12) hs hz.thought hb hr (fun J hJ hr' => times_l hs hz c hk0 hk 594 h 0 J (by have := sum6_le bh; omega) (by omega) bh (hJ.mo (by simp)) hr' (fun J' a b => by rw [Nat.zero_add]; exact hK J' a b)))
/-- with one more of a sort (99 at most), one less of another -/
def moreA (h : Nat → Nat) (s : Nat) : Nat → Nat := up1 h s (h s + min 1 (99 - h s))
def lessA (h : Nat → Nat) (s : Nat) : Nat → Nat := up1 h s (h s - 1)
theorem moreA_bd {s : Nat} (bh : Bd 99 h) (hs : s < 6) : Bd 99 (moreA h s) := fun i hi => by
  unfold moreA up1; split
  · have := bh s hs; omega
  · exact bh i hi
theorem lessA_bd {s : Nat} (bh : Bd 99 h) (hs : s < 6) : Bd 99 (lessA h s) := fun i hi => by
  unfold lessA up1; split
  · have := bh s hs; omega
  · exact bh i hi
theorem c_timesWith2 {b k gn ls : Nat} {K : Int32 → Is → Prop} (hs : GS g) (hz : Sh z) (c : CI z I S) (hb : PuO z b) (hr : Rw I (b + 1) h) (bh : Bd 99 h) (hk0 : 0 < k) (hk : k ≤ 1000) (hg : gn < 6) (hl : ls < 6) (hK : ∀ J, FrC z I J → K (iN (oftA S k (lessA (moreA h gn) ls))) J) : Wi g m11_timesWith (d + 5) [.ref 8, .ref b, .int (iN k), .int (iN gn), .int (iN ls)] z I K := by
  refine v11_timesWith hs hz (c_become (a := 16) hs hz.trial hb hr (fun J hJ hr1 => ?_))
  refine c_grow (a := 16) hs hz.trial hg (hr1 gn hg) (bh gn hg) (by omega) ?_
  have hr2 : Rw (up2 J (16 + 1) gn (iN (h gn + min 1 (99 - h gn)))) 17 (moreA h gn) := hr1.up _
  have b2 := moreA_bd bh hg
  refine c_lose (a := 16) hs hz.trial hl (hr2 ls hl) (b2 ls hl) ?_
  have hr3 : Rw (up2 (up2 J (16 + 1) gn (iN (h gn + min 1 (99 - h gn)))) (16 + 1) ls (iN (moreA h gn ls - 1))) 17 (lessA (moreA h gn) ls) := hr2.up _
  have hO : Of [17, 18, 19] I (up2 (up2 J (16 + 1) gn (iN (h gn + min 1 (99 - h gn)))) (16 + 1) ls (iN (moreA h gn ls - 1))) := ((hJ.mo (by simp)).upt (by simp) _ _).upt (by simp) _ _
  have f1 : FrC z _ _ := FrC.of hO scr_trial
  exact c_timesAt hs hz (c.fr hz f1) hz.trial hr3 (lessA_bd b2 hl) hk0 hk (fun J2 hJ2 _ => hK J2 (f1.tr (FrC.of hJ2 scr_thought)))
theorem c_timesWith1 {b k ls : Nat} {K : Int32 → Is → Prop} (hs : GS g) (hz : Sh z) (c : CI z I S) (hb : PuO z b) (hr : Rw I (b + 1) h) (bh : Bd 99 h) (hk0 : 0 < k) (hk : k ≤ 1000) (hl : ls < 6) (hK : ∀ J, FrC z I J → K (iN (oftA S k (lessA h ls))) J) : Wi g m11_timesWith (d + 5) [.ref 8, .ref b, .int (iN k), .int (iM 1), .int (iN ls)] z I K := by
  refine v11_timesWith hs hz (c_become (a := 16) hs hz.trial hb hr (fun J hJ hr1 => ?_))
  refine c_grow0 (a := 16) hs hz.trial ?_
  refine c_lose (a := 16) hs hz.trial hl (hr1 ls hl) (bh ls hl) ?_
  have hr3 : Rw (up2 J (16 + 1) ls (iN (h ls - 1))) 17 (lessA h ls) := hr1.up _
  have hO : Of [17, 18, 19] I (up2 J (16 + 1) ls (iN (h ls - 1))) := (hJ.mo (by simp)).upt (by simp) _ _
  have f1 : FrC z _ _ := FrC.of hO scr_trial
  exact c_timesAt hs hz (c.fr hz f1) hz.trial hr3 (lessA_bd bh hl) hk0 hk (fun J2 hJ2 _ => hK J2 (f1.tr (FrC.of hJ2 scr_thought)))
/-- all purses together, each with one more of a sort or none -/
def gnI (o : Option Nat) : Int32 := match o with
  | none => iM 1
  | some s => iN s
def gnH (o : Option Nat) (h : Nat → Nat) : Nat → Nat := match o with
  | none => h
  | some s => moreA h s
def allA (S : AS) (k : Nat) (o : Option Nat) : Nat := sumN (fun p => oftA S k (gnH o (sHas S p))) (sNp S)
theorem all_l {k : Nat} {o : Option Nat} {K : Int32 → Is → Prop} (hs : GS g) (hz : Sh z) (ok : OKS S) (hk0 : 0 < k) (hk : k ≤ 1000) (ho : ∀ s, o = some s → s < 6) : ∀ (n p : Nat) (J : Is), p + n = sNp S → CI z J S → (∀ J2, FrC z J J2 → K (iN (allA S k o)) J2) → WPc g m11_timesOfAll (d + 5) 0 0 5 [(0, .ref 8), (1, .int (iN k)), (2, .int (gnI o)), (3, .int (iN (sumN (fun p => oftA S k (gnH o (sHas S p))) p))), (4, .int (iN p))] [] z J (Qi z K)
  | 0, p, J, e, c, hK => by
    have np5 := ok.1.2.1
    refine v11_timesOfAll_5 hs hz ⟨fun _ => ?_, fun q => ?_⟩
    · rw [show p = sNp S by omega]; exact hK J (FrC.rf z J)
    · rw [c.np] at q; exact absurd ((iN_le (by omega) (by omega)).mpr (by omega)) q
  | n + 1, p, J, e, c, hK => by
    have np5 := ok.1.2.1
    refine v11_timesOfAll_5 hs hz ⟨fun q => ?_, fun _ => ⟨p, by omega, rfl, ?_⟩⟩
    · rw [c.np] at q; exact absurd ((iN_le (by omega) (by omega)).mp q) (by omega)
    · have bh := ok.b p
      refine c_become (a := 16) hs hz.trial (hz.purse (by omega)) (c.pu (by omega)) (fun J1 hJ1 hr1 => ?_)
      -- behind the growing
      have fin : ∀ J2, Of [17, 18, 19] J J2 → Rw J2 17 (gnH o (sHas S p)) → Bd 99 (gnH o (sHas S p)) → Wi g m11_timesAt (d + 4) [.ref 8, .ref 16, .int (iN k)] z J2 (fun x6 J5 => WPc g m11_timesOfAll (d + 5) 0 0 5 [(0, .ref 8), (1, .int (iN k)), (2, .int (gnI o)), (3, .int ((iN (sumN (fun p => oftA S k (gnH o (sHas S p))) p)) + x6)), (4, .int (iN p + iN 1))] [] z J5 (Qi z K)) := fun J2 hO hr2 b2 => by
        have f1 : FrC z _ _ := FrC.of hO scr_trial
        refine c_timesAt hs hz (c.fr hz f1) hz.trial hr2 b2 hk0 hk (fun J3 hJ3 _ => ?_)
        have f2 := f1.tr (FrC.of hJ3 scr_thought)
        rw [iN_add, iN_add]
        exact all_l hs hz ok hk0 hk ho n (p + 1) J3 (by omega) (c.fr hz f2) (fun J4 hJ4 => hK J4 (f2.tr hJ4))
      cases o with
      | none => exact c_grow0 (a := 16) hs hz.trial (fin J1 (hJ1.mo (by simp)) hr1 bh)
      | some s =>
        have h6 := ho s rfl
        exact c_grow (a := 16) hs hz.trial h6 (hr1 s h6) (bh s h6) (by omega) (fin _ ((hJ1.mo (by simp)).upt (by simp) _ _) (hr1.up _) (moreA_bd bh h6))
theorem c_timesOfAll {k : Nat} {o : Option Nat} {K : Int32 → Is → Prop} (hs : GS g) (hz : Sh z) (c : CI z I S) (ok : OKS S) (hk0 : 0 < k) (hk : k ≤ 1000) (ho : ∀ s, o = some s → s < 6) (hK : ∀ J, FrC z I J → K (iN (allA S k o)) J) : Wi g m11_timesOfAll (d + 5) [.ref 8, .int (iN k), .int (gnI o)] z I K :=
  v11_timesOfAll hs (all_l hs hz ok hk0 hk ho (sNp S) 0 I (by omega) c hK)
-- the reference
theorem thinks_l {p : Nat} {v : Int32} {K : Is → Prop} (hs : GS g) (hz : Sh z) (m : MI I S) (o : OKS S) (hp : p < 5) (hK : ∀ J, Of [118] I J → Rw J 118 (sHas S p) → K J) : ∀ (n s : Nat) (J : Is), s + n = 6 → Of [118] I J → (∀ i, i < s → J 118 i = iN (sHas S p i)) → WPc g m12_thinksOf d 0 0 2 [(0, .ref 101), (1, .int (iN p)), (2, .int (iN s))] [] z J (Qv z K)
  | 0, s, J, e, hJ, h1 => by
    obtain rfl : s = 6 := by omega
    exact v12_thinksOf_2 hs hz ⟨fun _ => hK J hJ h1, fun c => absurd ((iN_le (by omega) (by omega)).mpr (Nat.le_refl _)) c⟩
  | n + 1, s, J, e, hJ, h1 => by
    have n6 := o.1.1
    have ih := thinks_l (v := v) hs hz m o hp hK n (s + 1)
    have mJ := m.fr hJ
    have nx : WPc g m12_thinksOf d 0 0 2 [(0, .ref 101), (1, .int (iN p)), (2, .int (iN (s + 1)))] [] z (up2 J 118 s (iN (sHas S p s))) (Qv z K) := ih _ (by omega) (hJ.upt (by simp) _ _) (fun i hi => by
      rw [up2_ra]; unfold up1; split
      next q => rw [q]
      next => exact h1 i (by omega))
    refine v12_thinksOf_2 hs hz ⟨fun c => ?_, fun c => ⟨fun q => ⟨inB_n (by omega) (by omega), ?_⟩, fun q => ?_⟩⟩
    · rw [iN_le (by omega) (by omega)] at c; omega
    · rw [mJ.ns, iN_le (by omega) (by omega)] at q
      have e0 : sHas S p s = 0 := o.2.2.1.2 p s hp (by omega) q
      rw [e0] at nx
      rw [iN_toN (by omega), iN_add]
      exact nx
    · rw [iN_toN (by omega), iN_add, iN_mul, iN_add, iN_toN (by omega), mJ.has]
      exact ⟨inB_n (by omega) (by omega), inB_n (by omega) (by omega), nx⟩
theorem c_thinksOf {p : Nat} {K : Is → Prop} (hs : GS g) (hz : Sh z) (m : MI I S) (o : OKS S) (hp : p < 5) (hK : ∀ J, Of [118] I J → Rw J 118 (sHas S p) → K J) : Wv g m12_thinksOf d [.ref 101, .int (iN p)] z I K :=
  v12_thinksOf hs (thinks_l (v := iN 0) hs hz m o hp hK 6 0 I rfl (Of.rf _ _) (fun i hi => absurd hi (by omega)))
theorem c_oftenNow {k : Nat} {K : Int32 → Is → Prop} (hs : GS g) (hz : Sh z) (m : MI I S) (o : OKS S) (hk0 : 0 < k) (hk : k ≤ 1000) (bh : Bd 99 h) (hr : Rw I 118 h) (hK : ∀ J, Of [118, 119, 120] I J → Rw J 118 (leftA S k h) → K (iN (oftA S k h)) J) : Wi g m12_oftenNow (d + 3) [.ref 101, .int (iN k)] z I K :=
  c_oftNow hs hz (m.md o) hk0 hk bh hr hK
theorem c_oftenOf {p k : Nat} {K : Int32 → Is → Prop} (hs : GS g) (hz : Sh z) (m : MI I S) (o : OKS S) (hp : p < 5) (hk0 : 0 < k) (hk : k ≤ 1000) (hK : ∀ J, Of [118, 119, 120] I J → Rw J 118 (leftA S k (sHas S p)) → K (iN (oftA S k (sHas S p))) J) : Wi g m12_oftenOf (d + 4) [.ref 101, .int (iN p), .int (iN k)] z I K :=
  v12_oftenOf hs hz (c_thinksOf hs hz m o hp (fun J hJ hr => c_oftenNow hs hz (m.fr hJ) o hk0 hk (o.b p) hr (fun J2 hJ2 hr2 => hK J2 ((hJ.mo (by simp)).tr hJ2) hr2)))
theorem mall_l {k : Nat} {K : Int32 → Is → Prop} (hs : GS g) (hz : Sh z) (ok : OKS S) (hk0 : 0 < k) (hk : k ≤ 1000) : ∀ (n p : Nat) (J : Is), p + n = sNp S → MI J S → (∀ J2, Of [118, 119, 120] J J2 → K (iN (allA S k none)) J2) → WPc g m12_oftenOfAll (d + 5) 0 0 4 [(0, .ref 101), (1, .int (iN k)), (2, .int (iN (sumN (fun p => oftA S k (gnH none (sHas S p))) p))), (3, .int (iN p))] [] z J (Qi z K)
  | 0, p, J, e, m, hK => by
    have np5 := ok.1.2.1
    refine v12_oftenOfAll_4 hs hz ⟨fun _ => ?_, fun q => ?_⟩
    · rw [show p = sNp S by omega]; exact hK J (Of.rf _ _)
    · rw [m.np] at q; exact absurd ((iN_le (by omega) (by omega)).mpr (by omega)) q
  | n + 1, p, J, e, m, hK => by
    have np5 := ok.1.2.1
    refine v12_oftenOfAll_4 hs hz ⟨fun q => ?_, fun _ => ?_⟩
    · rw [m.np] at q; exact absurd ((iN_le (by omega) (by omega)).mp q) (by omega)
    · refine c_oftenOf hs hz m ok (by omega) hk0 hk (fun J1 hJ1 _ => ?_)
      rw [iN_add, iN_add]
      exact mall_l hs hz ok hk0 hk n (p + 1) J1 (by omega) (m.fr hJ1) (fun J4 hJ4 => hK J4 (hJ1.tr hJ4))
theorem c_oftenOfAll {k : Nat} {K : Int32 → Is → Prop} (hs : GS g) (hz : Sh z) (m : MI I S) (ok : OKS S) (hk0 : 0 < k) (hk : k ≤ 1000) (hK : ∀ J, Of [118, 119, 120] I J → K (iN (allA S k none)) J) : Wi g m12_oftenOfAll (d + 5) [.ref 101, .int (iN k)] z I K :=
  v12_oftenOfAll hs (mall_l hs hz ok hk0 hk (sNp S) 0 I (by omega) m hK)
theorem mmore_l {k s : Nat} {K : Int32 → Is → Prop} (hs : GS g) (hz : Sh z) (ok : OKS S) (hk0 : 0 < k) (hk : k ≤ 1000) (h6 : s < 6) : ∀ (n p : Nat) (J : Is), p + n = sNp S → MI J S → (∀ J2, Of [118, 119, 120] J J2 → K (iN (allA S k (some s))) J2) → WPc g m12_oftenWithMore (d + 5) 0 0 5 [(0, .ref 101), (1, .int (iN s)), (2, .int (iN k)), (3, .int (iN (sumN (fun p => oftA S k (gnH (some s) (sHas S p))) p))), (4, .int (iN p))] [] z J (Qi z K)
  | 0, p, J, e, m, hK => by
    have np5 := ok.1.2.1
    refine v12_oftenWithMore_5 hs hz ⟨fun _ => ?_, fun q => ?_⟩
    · rw [show p = sNp S by omega]; exact hK J (Of.rf _ _)
    · rw [m.np] at q; exact absurd ((iN_le (by omega) (by omega)).mpr (by omega)) q
  | n + 1, p, J, e, m, hK => by
    have np5 := ok.1.2.1
    refine v12_oftenWithMore_5 hs hz ⟨fun q => ?_, fun _ => ?_⟩
    · rw [m.np] at q; exact absurd ((iN_le (by omega) (by omega)).mp q) (by omega)
    · have bh := ok.b p
      have b6 := bh s h6
      refine c_thinksOf hs hz m ok (by omega) (fun J1 hJ1 hr1 => ⟨inB_n h6 (by omega), ?_⟩)
      rw [iN_toN (by omega), hr1 s h6, iN_add, clI_N (by omega)]
      have ec : capN 99 (iN (sHas S p s + 1)) = sHas S p s + min 1 (99 - sHas S p s) := by unfold capN; rw [iN_toN (by omega)]; omega
      rw [ec]
      have hO : Of [118, 119, 120] J (up2 J1 118 s (iN (sHas S p s + min 1 (99 - sHas S p s)))) := (hJ1.mo (by simp)).upt (by simp) _ _
      refine c_oftenNow hs hz (m.fr hO) ok hk0 hk (moreA_bd bh h6) (hr1.up _) (fun J3 hJ3 _ => ?_)
      rw [iN_add, iN_add]
      exact mmore_l hs hz ok hk0 hk h6 n (p + 1) J3 (by omega) (m.fr (hO.tr hJ3)) (fun J4 hJ4 => hK J4 ((hO.tr hJ3).tr hJ4))
theorem c_oftenWithMore {k s : Nat} {K : Int32 → Is → Prop} (hs : GS g) (hz : Sh z) (m : MI I S) (ok : OKS S) (hk0 : 0 < k) (hk : k ≤ 1000) (h6 : s < 6) (hK : ∀ J, Of [118, 119, 120] I J → K (iN (allA S k (some s))) J) : Wi g m12_oftenWithMore (d + 5) [.ref 101, .int (iN s), .int (iN k)] z I K :=
  v12_oftenWithMore hs (mmore_l hs hz ok hk0 hk h6 (sNp S) 0 I (by omega) m hK)
end OFTC
