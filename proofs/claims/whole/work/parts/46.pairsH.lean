/-! pairs: strike, laws, judge, whose -/
theorem hasU_hasU (S : AS) (f f' : Nat → Nat) : hasU (hasU S f) f' = hasU S f' := by
  have : up1 (up1 S.1 4 f) 4 f' = up1 S.1 4 f' := by
    funext i; unfold up1; split
    · rfl
    · rfl
  show (up1 (up1 S.1 4 f) 4 f', S.2) = (up1 S.1 4 f', S.2)
  rw [this]
def stH (S : AS) (s n m : Nat) : Nat → Nat := fun i => if i % 6 = s ∧ i / 6 < m then S.1 4 i + min n (99 - S.1 4 i) else S.1 4 i
theorem or_0 (v : Int32) : v ||| iN 0 = v := Int32.or_zero
section PH
variable {g : Gt} {d : Nat} {z : Zs} {I J : Is} {S : AS}
theorem stH_ok {s n m : Nat} (o : OKS S) (hs : s < sNs S) : OKS (hasU S (stH S s n m)) := o.uHas (fun i => by
  have := o.2.2.1.1 i
  unfold stH; split <;> omega) (fun p t hp ht hn => by
  unfold stH
  rw [if_neg (by omega)]
  exact o.2.2.1.2 p t hp ht hn)
theorem strike_c {s n : Nat} {K : Int32 → Is → Prop} (hs : GS g) (hz : Sh z) (o : OKS S) (hS : s < sNs S) (hn : n ≤ 20) : ∀ (r p : Nat) (J : Is), p + r = sNp S → CI z J (hasU S (stH S s n p)) → (∀ J2, CI z J2 (hasU S (stH S s n (sNp S))) → KeepM J J2 → K (iN (sumN (fun p => min n (99 - sHas S p s)) (sNp S))) J2) → WPc g m11_strike (d + 3) 0 0 29 [(0, .ref 8), (1, .int (iN s)), (2, .int (iN n)), (3, .int (iN (sumN (fun p => min n (99 - sHas S p s)) p))), (4, .int (iN p))] [] z J (Qi z K)
  | 0, p, J, e, c, hK => by
    have p5 := o.1.2.1
    refine v11_strike_29 hs hz ⟨fun _ => ?_, fun q => ?_⟩
    · rw [show p = sNp S by omega] at c ⊢; exact hK J c (fun _ _ _ => rfl)
    · rw [c.np] at q; exact absurd ((iN_le (a := sNp S) (by omega) (by omega)).mpr (by omega)) q
  | r + 1, p, J, e, c, hK => by
    have p5 := o.1.2.1
    have n6 := o.1.1
    have hb : sHas S p s ≤ 99 := o.b p s (by omega)
    have e1 : stH S s n p (6 * p + s) = sHas S p s := by unfold stH; rw [if_neg (by omega)]
    refine v11_strike_29 hs hz ⟨fun q => ?_, fun _ => ⟨p, by omega, rfl, ?_⟩⟩
    · rw [c.np] at q; exact absurd ((iN_le (a := sNp S) (by omega) (by omega)).mp q) (by omega)
    · refine c_grow (x := sHas S p s) hs (hz.purse (by omega)) (by omega) (by rw [c.pu (p := p) (by omega) s (by omega)]; show iN (stH S s n p (6 * p + s)) = _; rw [e1]) hb (by omega) ?_
      rw [iN_add, iN_add]
      have c2 := c.uHas (J := up2 J (49 + 8 * p + 1) s (iN (sHas S p s + min n (99 - sHas S p s)))) (f := stH S s n (p + 1)) hz (fun k _ hk => up2_ro J (by simp at hk; omega) _ _) (fun t ht => by
        by_cases w : t = p
        · subst w
          refine ((c.pu (p := t) (by omega)).up (s := s) _).fn (fun i hi => ?_)
          show up1 (fun s_1 => stH S s n t (6 * t + s_1)) s _ i = _
          unfold up1 stH
          by_cases w2 : i = s
          · rw [if_pos w2, w2, if_pos ⟨by omega, by omega⟩]
          · rw [if_neg w2, if_neg (show ¬ ((6 * t + i) % 6 = s ∧ (6 * t + i) / 6 < t + 1) by omega)]
            exact if_neg (by omega)
        · refine ((c.pu (p := t) ht).cg (up2_ro J (by omega) _ _)).fn (fun i hi => ?_)
          show stH S s n p (6 * t + i) = stH S s n (p + 1) (6 * t + i)
          unfold stH
          by_cases w2 : (6 * t + i) % 6 = s ∧ (6 * t + i) / 6 < p
          · rw [if_pos w2, if_pos ⟨w2.1, by omega⟩]
          · rw [if_neg w2, if_neg (by omega)])
      rw [hasU_hasU] at c2
      exact strike_c hs hz o hS hn r (p + 1) _ (by omega) c2 (fun J2 hc hk => hK J2 hc (KeepM.tr (fun k a b => up2_ro J (by omega) _ _) hk))
theorem strike_m {s n : Nat} {K : Int32 → Is → Prop} (hs : GS g) (hz : Sh z) (o : OKS S) (hS : s < sNs S) (hn : n ≤ 20) : ∀ (r p : Nat) (J : Is), p + r = sNp S → MI J (hasU S (stH S s n p)) → (∀ J2, MI J2 (hasU S (stH S s n (sNp S))) → Of [105] J J2 → K (iN (sumN (fun p => min n (99 - sHas S p s)) (sNp S))) J2) → WPc g m12_strike (d + 3) 0 0 29 [(0, .ref 101), (1, .int (iN s)), (2, .int (iN n)), (3, .int (iN (sumN (fun p => min n (99 - sHas S p s)) p))), (4, .int (iN p))] [] z J (Qi z K)
  | 0, p, J, e, c, hK => by
    have p5 := o.1.2.1
    refine v12_strike_29 hs hz ⟨fun _ => ?_, fun q => ?_⟩
    · rw [show p = sNp S by omega] at c ⊢; exact hK J c (Of.rf _ J)
    · rw [c.np] at q; exact absurd ((iN_le (a := sNp S) (by omega) (by omega)).mpr (by omega)) q
  | r + 1, p, J, e, c, hK => by
    have p5 := o.1.2.1
    have n6 := o.1.1
    have hb : sHas S p s ≤ 99 := o.b p s (by omega)
    have e1 : stH S s n p (6 * p + s) = sHas S p s := by unfold stH; rw [if_neg (by omega)]
    refine v12_strike_29 hs hz ⟨fun q => ?_, fun _ => ?_⟩
    · rw [c.np] at q; exact absurd ((iN_le (a := sNp S) (by omega) (by omega)).mp q) (by omega)
    · rw [iN_mul, iN_add, iN_toN (by omega), c.has]
      show inB (iN (6 * p + s)) 30 = true ∧ WPc g m12_strike (d + 3) 0 0 29 [(0, .ref 101), (1, .int (iN s)), (2, .int (iN n)), (3, .int (iN (sumN (fun p => min n (99 - sHas S p s)) p) + (clI (iN (stH S s n p (6 * p + s)) + iN n) (iN 0) (iN 99) - iN (stH S s n p (6 * p + s))))), (4, .int (iN p + iN 1))] [] z (up2 J 105 (6 * p + s) (clI (iN (stH S s n p (6 * p + s)) + iN n) (iN 0) (iN 99))) (Qi z K)
      rw [e1, iN_add, clI_N (by omega)]
      have ec : capN 99 (iN (sHas S p s + n)) = sHas S p s + min n (99 - sHas S p s) := by unfold capN; rw [iN_toN (by omega)]; omega
      rw [ec, iN_sub (by omega), iN_add, iN_add, show sHas S p s + min n (99 - sHas S p s) - sHas S p s = min n (99 - sHas S p s) by omega]
      have c2 := c.uHas (J := up2 J 105 (6 * p + s) (iN (sHas S p s + min n (99 - sHas S p s)))) (f := stH S s n (p + 1)) (fun k a b e => up2_ro J e _ _) (fun i => by
        rw [up2_ra]
        unfold up1
        by_cases w : i = 6 * p + s
        · rw [if_pos w, w]
          have : stH S s n (p + 1) (6 * p + s) = sHas S p s + min n (99 - sHas S p s) := by unfold stH; rw [if_pos ⟨by omega, by omega⟩]
          rw [this]
        · rw [if_neg w, c.has]
          show iN (stH S s n p i) = iN (stH S s n (p + 1) i)
          unfold stH
          by_cases w2 : i % 6 = s ∧ i / 6 < p
          · rw [if_pos w2, if_pos ⟨w2.1, by omega⟩]
          · rw [if_neg w2, if_neg (by omega)])
      rw [hasU_hasU] at c2
      exact ⟨inB_n (by omega) (by omega), strike_m hs hz o hS hn r (p + 1) _ (by omega) c2 (fun J2 hc hk => hK J2 hc ((Of.up (by simp) _ _).tr hk))⟩
theorem P_strike (hs : GS g) (o : OKS S) (v1 v2 : Int32) : Pair g S m11_strike m12_strike [.int v1, .int v2] := by
  have n6 := o.1.1
  by_cases h1 : inR v1 (iN 0) (iN (sNs S) - iN 1)
  · obtain ⟨s, hS, rfl⟩ := (inR_dn (by omega)).mp h1
    by_cases h2 : inR v2 (iN 0) (iN 20)
    · obtain ⟨n, rfl, _, hn⟩ := (inR_nat (by omega) (by omega)).mp h2
      have e0 : hasU S (stH S s n 0) = S := by
        have : stH S s n 0 = S.1 4 := by funext i; unfold stH; rw [if_neg (by omega)]
        rw [this, hasU_self]
      refine ⟨_, hasU S (stH S s n (sNp S)), stH_ok o hS, fun d z I K hz c hK => ?_, fun d z I K hz m hK => v12_strike hs hz (gM m.ns h1 (gT h2 (strike_m hs hz o hS hn (sNp S) 0 I (by omega) (by rw [e0]; exact m) (fun J hJ hk => hK J hJ (KeepC.of hk)))))⟩
      obtain ⟨⟨q, e, so⟩, -⟩ := c.so.2.1 s hS
      exact v11_strike hs hz (gN c.ns n6 (by omega) hS rfl ⟨q, e, gT h2 (strike_c hs hz o hS hn (sNp S) 0 I (by omega) (by rw [e0]; exact c) (fun J hJ hk => hK J hJ hk))⟩)
    · refine ⟨iM 7, S, o, fun d z I K hz c hK => ?_, fun d z I K hz m hK => v12_strike hs hz (gM m.ns h1 (gF h2 (hK.i m)))⟩
      obtain ⟨⟨q, e, so⟩, -⟩ := c.so.2.1 s hS
      exact v11_strike hs hz (gN c.ns n6 (by omega) hS rfl ⟨q, e, gF h2 (hK.i c)⟩)
  · exact ⟨iM 5, S, o, fun d z I K hz c hK => v11_strike hs hz (gNn c.ns n6 h1 (hK.i c)), fun d z I K hz m hK => v12_strike hs hz (gMn m.ns h1 (hK.i m))⟩
-- laws
def lwB (S : AS) (k n much : Nat) : Nat → Bool := fun t => decide (iN (n * wAt S t k) = iN much)
theorem laws_c {k n much : Nat} {K : Int32 → Is → Prop} (hs : GS g) (hz : Sh z) (o : OKS S) : ∀ (r t : Nat) (J : Is), t + r = sNt S → CI z J S → (∀ J2, FrC z J J2 → K (iN (bset (lwB S k n much) (sNt S))) J2) → WPc g m11_laws (d + 6) 0 0 50 [(0, .ref 8), (2, .int (iN k)), (3, .int (iN much)), (5, .int (iN n)), (6, .int (iN (bset (lwB S k n much) t))), (7, .int (iN t))] [] z J (Qi z K)
  | 0, t, J, e, c, hK => by
    have t6 := o.1.2.2.2.1.2
    refine v11_laws_50 hs hz ⟨fun _ => ?_, fun q => ?_⟩
    · rw [show t = sNt S by omega]; exact hK J (FrC.rf z J)
    · rw [c.nt] at q; exact absurd ((iN_le (by omega) (by omega)).mpr (by omega)) q
  | r + 1, t, J, e, c, hK => by
    have t6 := o.1.2.2.2.1.2
    refine v11_laws_50 hs hz ⟨fun q => ?_, fun _ => ?_⟩
    · rw [c.nt] at q; exact absurd ((iN_le (by omega) (by omega)).mp q) (by omega)
    · refine c11_worthAt hs hz c o (by omega) (fun J1 hJ1 => ?_)
      rw [iN_mul, or_up t (by omega) _ (bset_lt _ t), iN_add]
      have nx := laws_c (k := k) (n := n) (much := much) (K := K) hs hz o r (t + 1) J1 (by omega) (c.fr hz hJ1) (fun J2 hJ2 => hK J2 (hJ1.tr hJ2))
      have eb : bset (lwB S k n much) (t + 1) = bset (lwB S k n much) t + (if lwB S k n much t then 2 ^ t else 0) := rfl
      rw [eb] at nx
      refine ⟨fun q => ?_, fun q => ?_⟩
      · rw [show lwB S k n much t = true from decide_eq_true q, if_pos rfl] at nx; exact nx
      · rw [show lwB S k n much t = false from decide_eq_false q, if_neg (by simp), Nat.add_zero] at nx; exact nx
theorem laws_m {k n much : Nat} {K : Int32 → Is → Prop} (hs : GS g) (hz : Sh z) (o : OKS S) (m : MI I S) (hK : ∀ J2, Of [116, 117, 118, 119, 120] I J2 → K (iN (bset (lwB S k n much) (sNt S))) J2) : ∀ (r t : Nat) (J : Is), t + r = sNt S → Of [101, 116, 117, 118, 119, 120] I J → (∀ j, j ≠ 12 → J 101 j = I 101 j) → WPc g m12_laws (d + 6) 0 0 52 [(0, .ref 101), (2, .int (iN k)), (3, .int (iN much)), (4, .int (iN n)), (5, .int (iN (sLw S))), (6, .int (iN (bset (lwB S k n much) t))), (7, .int (iN t))] [] z J (Qi z K)
  | 0, t, J, e, hO, h1 => by
    have t6 := o.1.2.2.2.1.2
    refine v12_laws_52 hs hz ⟨fun _ => ?_, fun q => ?_⟩
    · rw [show t = sNt S by omega]
      refine hK _ (fun q hq => ?_)
      by_cases w : q = 101
      · subst w
        funext j
        rw [up2_ra]; unfold up1
        by_cases w2 : j = 12
        · rw [if_pos w2, w2, m.lw]
        · rw [if_neg w2]; exact h1 j w2
      · rw [up2_ro _ w]; exact hO q (by simp at hq ⊢; omega)
    · rw [h1 11 (by omega), m.nt] at q; exact absurd ((iN_le (by omega) (by omega)).mpr (by omega)) q
  | r + 1, t, J, e, hO, h1 => by
    have t6 := o.1.2.2.2.1.2
    have oT : OKS (scU S 4 t) := ⟨⟨o.1.1, o.1.2.1, o.1.2.2.1, o.1.2.2.2.1, by show t < sNt S; omega, o.1.2.2.2.2.2⟩, o.2⟩
    have mT : MI (up2 J 101 12 (iN t)) (scU S 4 t) := m.scal (by omega) (fun k a b => by rw [up2_ro _ (by omega)]; exact hO k (by simp; omega)) (by
      have h := m.1
      rw [up2_ra, up1_s, up1_o _ (by omega), up1_o _ (by omega), up1_o _ (by omega), up1_o _ (by omega), up1_o _ (by omega), h1 _ (by omega), h1 _ (by omega), h1 _ (by omega), h1 _ (by omega), h1 _ (by omega)]
      exact ⟨h.1, h.2.1, h.2.2.1, h.2.2.2.1, h.2.2.2.2.1, rfl⟩) (fun j a b => by rw [up2_ra, up1_o _ (by omega), h1 j (by omega)])
    refine v12_laws_52 hs hz ⟨fun q => ?_, fun _ => ?_⟩
    · rw [h1 11 (by omega), m.nt] at q; exact absurd ((iN_le (by omega) (by omega)).mp q) (by omega)
    · refine c12_worthOf hs hz mT oT (fun J1 hJ1 => ?_)
      have ew : wAt (scU S 4 t) (sLw (scU S 4 t)) k = wAt S t k := rfl
      rw [ew, iN_mul, or_up t (by omega) _ (bset_lt _ t), or_0, iN_add]
      have nx := laws_m (K := K) hs hz o m hK r (t + 1) J1 (by omega) ((hO.upt (by simp) _ _).tr (hJ1.mo (by simp))) (fun j hj => by rw [hJ1 101 (by simp), up2_ra, up1_o _ hj]; exact h1 j hj)
      have eb : bset (lwB S k n much) (t + 1) = bset (lwB S k n much) t + (if lwB S k n much t then 2 ^ t else 0) := rfl
      rw [eb] at nx
      refine ⟨fun q => ?_, fun q => ?_⟩
      · rw [show lwB S k n much t = true from decide_eq_true q, if_pos rfl] at nx; exact nx
      · rw [show lwB S k n much t = false from decide_eq_false q, if_neg (by simp), Nat.add_zero] at nx; exact nx
theorem P_laws (hs : GS g) (o : OKS S) (v1 v2 v3 : Int32) : Pair g S m11_laws m12_laws [.int v1, .int v2, .int v3] := by
  have p5 := o.1.2.1
  by_cases h1 : inR v1 (iN 0) (iN (sNp S) - iN 1)
  · obtain ⟨p, hp, rfl⟩ := (inR_dn (by omega)).mp h1
    by_cases h2 : inR v2 (iN 1) (iN 12)
    · by_cases h3 : inR v3 (iN 0) (iN 99999)
      · obtain ⟨k, rfl, hk1, hk⟩ := isP h2
        obtain ⟨y, rfl, _, hy⟩ := (inR_nat (by omega) (by omega)).mp h3
        refine ⟨iN (bset (lwB S k (oftA S k (sHas S p)) y) (sNt S)), S, o, fun d z I K hz c hK => ?_, fun d z I K hz m hK => ?_⟩
        · refine v11_laws hs hz (gN c.np p5 (by omega) hp rfl (gT h2 (gT h3 (c_timesAt hs hz c (hz.purse (by omega)) (c.pu (by omega)) (o.b p) (by omega) (by omega) (fun J hJ _ => ?_)))))
          have f : FrC z I J := FrC.of hJ scr_thought
          exact laws_c hs hz o (sNt S) 0 J (by omega) (c.fr hz f) (fun J2 hJ2 => hK.f hz c (f.tr hJ2))
        · refine v12_laws hs hz (gM m.np h1 (gT h2 (gT h3 (c_oftenOf hs hz m o (by omega) (by omega) (by omega) (fun J hJ _ => ?_)))))
          have mJ := m.fr hJ
          rw [mJ.lw]
          exact laws_m hs hz o mJ (fun J2 hJ2 => hK.f m ((hJ.mo (by simp)).tr hJ2)) (sNt S) 0 J (by omega) (Of.rf _ J) (fun _ _ => rfl)
      · exact ⟨iM 7, S, o, fun d z I K hz c hK => v11_laws hs hz (gN c.np p5 (by omega) hp rfl (gT h2 (gF h3 (hK.i c)))), fun d z I K hz m hK => v12_laws hs hz (gM m.np h1 (gT h2 (gF h3 (hK.i m))))⟩
    · exact ⟨iM 7, S, o, fun d z I K hz c hK => v11_laws hs hz (gN c.np p5 (by omega) hp rfl (gF h2 (hK.i c))), fun d z I K hz m hK => v12_laws hs hz (gM m.np h1 (gF h2 (hK.i m)))⟩
  · exact ⟨iM 5, S, o, fun d z I K hz c hK => v11_laws hs hz (gNn c.np p5 h1 (hK.i c)), fun d z I K hz m hK => v12_laws hs hz (gMn m.np h1 (hK.i m))⟩
-- sheets that tell how often
def foF (S : AS) (s : Nat) (h : Nat → Nat) : Nat → Nat → Int32
  | 0, _ => iM 1
  | n + 1, i => if S.2.2 (40 * s + i) = iN (oftA S (i + 1) h) then foF S s h n (i + 1) else iN (i + 1)
theorem c_isMissing {s : Nat} {K : Int32 → Is → Prop} (hs : GS g) (hz : Sh z) (c : CI z I S) (h4 : s < 4) (h1 : S.2.1 s = iM 1 → K (iN 1) I) (h0 : ¬ S.2.1 s = iM 1 → K (iN 0) I) : Wi g m7_isMissing d [.ref (89 + 2 * s)] z I K := by
  refine v7_isMissing hs (hz.sheet h4) ?_
  rw [(c.sh h4).1]
  exact ⟨h1, h0⟩
theorem c_cannotTell {s : Nat} {K : Int32 → Is → Prop} (hs : GS g) (hz : Sh z) (c : CI z I S) (o : OKS S) (h4 : s < 4) (h1 : (S.2.1 s = iM 1 ∨ 12 < S.1 9 s) → K (iN 1) I) (h0 : ¬ (S.2.1 s = iM 1 ∨ 12 < S.1 9 s) → K (iN 0) I) : Wi g m7_cannotTell (d + 1) [.ref (89 + 2 * s)] z I K := by
  have hsz := o.2.2.2.2.2.2 s h4
  refine v7_cannotTell hs (hz.sheet h4) (c_isMissing hs hz c h4 (fun e => gF (fun q => absurd ((iN_inj (by omega) (by omega)).mp q) (by omega)) (h1 (Or.inl e))) (fun e => gT rfl ?_))
  rw [(c.sh h4).2.1, iN_le (by omega) (by omega)]
  exact ⟨fun q => h0 (fun w => by rcases w with w | w; exact e w; omega), fun q => h1 (Or.inr (by omega))⟩
theorem c_holds1 {s i : Nat} {K : Int32 → Is → Prop} (hs : GS g) (hz : Sh z) (c : CI z I S) (o : OKS S) (h4 : s < 4) (hi : i < S.1 9 s) (hK : K (iN 1) I) : Wi g m7_holds d [.ref (89 + 2 * s), .int (iN i), .int (iN 1)] z I K := by
  have hsz := o.2.2.2.2.2.2 s h4
  refine v7_holds hs (hz.sheet h4) ⟨fun q => absurd ((iN_lt (by omega) (by omega)).mp q) (by omega), fun _ => ⟨fun q => absurd ((iN_lt (by omega) (by omega)).mp q) (by omega), fun _ => ?_⟩⟩
  rw [(c.sh h4).2.1, iN_lt (by omega) (by omega)]
  refine ⟨fun q => absurd q (by omega), fun _ => ?_⟩
  rw [iN_sub (by omega), iN_lt (by omega) (by omega)]
  exact ⟨fun q => absurd q (by omega), fun _ => hK⟩
theorem c_get {s i : Nat} {K : Int32 → Is → Prop} (hs : GS g) (hz : Sh z) (c : CI z I S) (o : OKS S) (h4 : s < 4) (hi : i < S.1 9 s) (hK : K (S.2.2 (40 * s + i)) I) : Wi g m7_get (d + 1) [.ref (89 + 2 * s), .int (iN i)] z I K := by
  have hsz := o.2.2.2.2.2.2 s h4
  refine v7_get hs (hz.sheet h4) (c_holds1 hs hz c o h4 hi (gF (fun q => absurd ((iN_inj (by omega) (by omega)).mp q) (by omega)) ⟨inB_n (by omega) (by omega), ?_⟩))
  rw [iN_toN (by omega), (c.sh h4).2.2 i (by omega)]; exact hK
theorem fo_l {s b : Nat} {h : Nat → Nat} {K : Int32 → Is → Prop} (hs : GS g) (hz : Sh z) (o : OKS S) (h4 : s < 4) (h12 : S.1 9 s ≤ 12) (hb : PuO z b) (bh : Bd 99 h) (hn : b + 1 ≠ 13 ∧ b + 1 ≠ 14 ∧ b + 1 ≠ 15) : ∀ (n i : Nat) (J : Is), i + n = S.1 9 s → CI z J S → Rw J (b + 1) h → (∀ J2, Of [13, 14, 15] J J2 → K (foF S s h n i) J2) → WPc g m11_firstOther (d + 5) 0 0 2 [(0, .ref 8), (1, .ref (89 + 2 * s)), (2, .ref b), (3, .int (iN i))] [] z J (Qi z K)
  | 0, i, J, e, c, hr, hK => by
    refine v11_firstOther_2 hs hz ⟨by rw [(hz.sheet h4).t]; rfl, ?_⟩
    rw [(c.sh h4).2.1]
    exact ⟨fun _ => hK J (Of.rf _ J), fun q => absurd ((iN_le (by omega) (by omega)).mpr (by omega)) q⟩
  | n + 1, i, J, e, c, hr, hK => by
    refine v11_firstOther_2 hs hz ⟨by rw [(hz.sheet h4).t]; rfl, ?_⟩
    rw [(c.sh h4).2.1]
    refine ⟨fun q => absurd ((iN_le (by omega) (by omega)).mp q) (by omega), fun _ => ⟨by rw [(hz.sheet h4).t]; rfl, c_get hs hz c o h4 (by omega) ?_⟩⟩
    rw [iN_add]
    refine c_timesAt hs hz c hb hr bh (by omega) (by omega) (fun J1 hJ1 _ => ?_)
    have f : FrC z J J1 := FrC.of hJ1 scr_thought
    unfold foF at hK
    refine ⟨fun q => ?_, fun q => ?_⟩
    · rw [if_pos q] at hK
      exact fo_l hs hz o h4 h12 hb bh hn n (i + 1) J1 (by omega) (c.fr hz f) (hr.cg (hJ1 _ (by simp; omega))) (fun J2 hJ2 => hK J2 (hJ1.tr hJ2))
    · rw [if_neg q] at hK
      exact hK J1 hJ1
theorem c_firstOther {s b : Nat} {h : Nat → Nat} {K : Int32 → Is → Prop} (hs : GS g) (hz : Sh z) (c : CI z I S) (o : OKS S) (h4 : s < 4) (h12 : S.1 9 s ≤ 12) (hb : PuO z b) (bh : Bd 99 h) (hn : b + 1 ≠ 13 ∧ b + 1 ≠ 14 ∧ b + 1 ≠ 15) (hr : Rw I (b + 1) h) (hK : ∀ J2, Of [13, 14, 15] I J2 → K (foF S s h (S.1 9 s) 0) J2) : Wi g m11_firstOther (d + 5) [.ref 8, .ref (89 + 2 * s), .ref b] z I K :=
  v11_firstOther hs (fo_l hs hz o h4 h12 hb bh hn (S.1 9 s) 0 I (by omega) c hr hK)
theorem ut_in {s k : Nat} {h : Nat → Nat} {K : Int32 → Is → Prop} (hs : GS g) (hz : Sh z) (hr : Rw I 122 h) (hK : ∀ J, Of [118, 119, 120] I J → Rw J 118 h → inB (((iN 40 * iN s) + iN k) - iN 1) 160 = true ∧ (Wi g m12_oftenNow (d + 3) [.ref 101, .int (iN k)] z J (fun x2 J1 => ((J 112 ((((iN 40 * iN s) + iN k) - iN 1).toNatClampNeg)) = x2 → WPc g m12_unlikeThought (d + 4) 0 0 2 [(0, .ref 101), (1, .int (iN s)), (2, .int (iN k + iN 1))] [] z J1 (Qi z K)) ∧ (¬ (J 112 ((((iN 40 * iN s) + iN k) - iN 1).toNatClampNeg)) = x2 → K (iN k) J1)))) : ∀ (n i : Nat) (J : Is), i + n = 6 → Of [118, 119, 120] I J → (∀ j, j < i → J 118 j = iN (h j)) → WPc g m12_unlikeThought (d + 4) 0 0 14 [(0, .ref 101), (1, .int (iN s)), (2, .int (iN k)), (3, .int (iN i))] [] z J (Qi z K)
  | 0, i, J, e, hJ, h1 => by
    obtain rfl : i = 6 := by omega
    exact v12_unlikeThought_14 hs hz ⟨fun _ => hK J hJ h1, fun c => absurd ((iN_le (by omega) (by omega)).mpr (Nat.le_refl _)) c⟩
  | n + 1, i, J, e, hJ, h1 => by
    refine v12_unlikeThought_14 hs hz ⟨fun c => ?_, fun c => ⟨inB_n (by omega) (by omega), ?_⟩⟩
    · rw [iN_le (by omega) (by omega)] at c; omega
    · rw [iN_toN (by omega), hJ 122 (by simp), hr i (by omega), iN_add]
      refine ut_in hs hz hr hK n (i + 1) _ (by omega) (hJ.upt (by simp) _ _) (fun j hj => ?_)
      rw [up2_ra]; unfold up1; split
      next q => rw [q]
      next => exact h1 j (by omega)
theorem ut_l {s : Nat} {h : Nat → Nat} {K : Int32 → Is → Prop} (hs : GS g) (hz : Sh z) (o : OKS S) (h4 : s < 4) (bh : Bd 99 h) : ∀ (n i : Nat) (J : Is), i + n = S.1 9 s → MI J S → Rw J 122 h → (∀ J2, Of [118, 119, 120] J J2 → K (foF S s h n i) J2) → WPc g m12_unlikeThought (d + 4) 0 0 2 [(0, .ref 101), (1, .int (iN s)), (2, .int (iN (i + 1)))] [] z J (Qi z K)
  | 0, i, J, e, m, hr, hK => by
    have hsz := o.2.2.2.2.2.2 s h4
    refine v12_unlikeThought_2 hs hz ⟨inB_n (by omega) (by omega), ?_⟩
    rw [iN_toN (by omega), m.sz]
    exact ⟨fun _ => hK J (Of.rf _ J), fun q => absurd ((iN_lt (by omega) (by omega)).mpr (by omega)) q⟩
  | n + 1, i, J, e, m, hr, hK => by
    have hsz := o.2.2.2.2.2.2 s h4
    refine v12_unlikeThought_2 hs hz ⟨inB_n (by omega) (by omega), ?_⟩
    rw [iN_toN (by omega), m.sz]
    refine ⟨fun q => absurd ((iN_lt (by omega) (by omega)).mp q) (by omega), fun _ => ?_⟩
    refine ut_in hs hz hr (fun J1 hJ1 hr1 => ?_) 6 0 J rfl (Of.rf _ J) (fun j hj => absurd hj (by omega))
    have m1 := m.fr hJ1
    rw [iN_mul, iN_add, iN_sub (by omega), iN_toN (by omega), m1.sc, show 40 * s + (i + 1) - 1 = 40 * s + i by omega]
    refine ⟨inB_n (by omega) (by omega), c_oftenNow hs hz m1 o (by omega) (by omega) bh hr1 (fun J2 hJ2 _ => ?_)⟩
    have hO := hJ1.tr hJ2
    unfold foF at hK
    rw [iN_add]
    refine ⟨fun q => ?_, fun q => ?_⟩
    · rw [if_pos q] at hK
      exact ut_l hs hz o h4 bh n (i + 1) J2 (by omega) (m.fr hO) (hr.cg (hO 122 (by simp))) (fun J3 hJ3 => hK J3 (hO.tr hJ3))
    · rw [if_neg q] at hK
      exact hK J2 hO
theorem c_unlikeThought {s : Nat} {h : Nat → Nat} {K : Int32 → Is → Prop} (hs : GS g) (hz : Sh z) (m : MI I S) (o : OKS S) (h4 : s < 4) (bh : Bd 99 h) (hr : Rw I 122 h) (hK : ∀ J2, Of [118, 119, 120] I J2 → K (foF S s h (S.1 9 s) 0) J2) : Wi g m12_unlikeThought (d + 4) [.ref 101, .int (iN s)] z I K :=
  v12_unlikeThought hs (ut_l hs hz o h4 bh (S.1 9 s) 0 I (by omega) m hr hK)
theorem unl_l {s p : Nat} {K : Int32 → Is → Prop} (hs : GS g) (hz : Sh z) (m : MI I S) (o : OKS S) (h4 : s < 4) (hp : p < 5) (hK : ∀ J2, Of [118, 119, 120, 122] I J2 → K (foF S s (sHas S p) (S.1 9 s) 0) J2) : ∀ (n i : Nat) (J : Is), i + n = 6 → Of [122] I J → (∀ j, j < i → J 122 j = iN (sHas S p j)) → WPc g m12_unlike (d + 5) 0 0 2 [(0, .ref 101), (1, .int (iN s)), (2, .int (iN p)), (3, .int (iN i))] [] z J (Qi z K)
  | 0, i, J, e, hJ, h1 => by
    obtain rfl : i = 6 := by omega
    exact v12_unlike_2 hs hz ⟨fun _ => c_unlikeThought hs hz (m.fr hJ) o h4 (o.b p) h1 (fun J2 hJ2 => hK J2 ((hJ.mo (by simp)).tr (hJ2.mo (by simp)))), fun c => absurd ((iN_le (by omega) (by omega)).mpr (Nat.le_refl _)) c⟩
  | n + 1, i, J, e, hJ, h1 => by
    have n6 := o.1.1
    have mJ := m.fr hJ
    have nx : WPc g m12_unlike (d + 5) 0 0 2 [(0, .ref 101), (1, .int (iN s)), (2, .int (iN p)), (3, .int (iN (i + 1)))] [] z (up2 J 122 i (iN (sHas S p i))) (Qi z K) := unl_l hs hz m o h4 hp hK n (i + 1) _ (by omega) (hJ.upt (by simp) _ _) (fun j hj => by
      rw [up2_ra]; unfold up1; split
      next q => rw [q]
      next => exact h1 j (by omega))
    refine v12_unlike_2 hs hz ⟨fun c => ?_, fun c => ⟨fun q => ⟨inB_n (by omega) (by omega), ?_⟩, fun q => ?_⟩⟩
    · rw [iN_le (by omega) (by omega)] at c; omega
    · rw [mJ.ns, iN_le (by omega) (by omega)] at q
      have e0 : sHas S p i = 0 := o.2.2.1.2 p i hp (by omega) q
      rw [e0] at nx
      rw [iN_toN (by omega), iN_add]
      exact nx
    · rw [iN_toN (by omega), iN_add, iN_mul, iN_add, iN_toN (by omega), mJ.has]
      exact ⟨inB_n (by omega) (by omega), inB_n (by omega) (by omega), nx⟩
theorem c_unlike {s p : Nat} {K : Int32 → Is → Prop} (hs : GS g) (hz : Sh z) (m : MI I S) (o : OKS S) (h4 : s < 4) (hp : p < 5) (hK : ∀ J2, Of [118, 119, 120, 122] I J2 → K (foF S s (sHas S p) (S.1 9 s) 0) J2) : Wi g m12_unlike (d + 5) [.ref 101, .int (iN s), .int (iN p)] z I K :=
  v12_unlike hs (unl_l hs hz m o h4 hp hK 6 0 I rfl (Of.rf _ I) (fun j hj => absurd hj (by omega)))
theorem c_sheetWrong {v : Int32} {K : Int32 → Is → Prop} (hs : GS g) (hz : Sh z) (m : MI I S) (o : OKS S) (h0 : ∀ s, s < 4 → v = iN s → ¬ S.2.1 s = iM 1 → S.1 9 s ≤ 12 → K (iN 0) I) (h11 : ∀ s, s < 4 → v = iN s → S.2.1 s = iM 1 → K (iM 11) I) (h2 : (¬ inR v (iN 0) (iN 3) ∨ ∃ s, s < 4 ∧ v = iN s ∧ ¬ S.2.1 s = iM 1 ∧ 12 < S.1 9 s) → K (iM 2) I) : Wi g m12_sheetWrong (d + 1) [.ref 101, .int v] z I K := by
  refine v12_sheetWrong hs hz ⟨fun q => ?_, fun q => h2 (Or.inl q)⟩
  obtain ⟨s, rfl, _, hs3⟩ := (inR_nat (by omega) (by omega)).mp q
  have hsz := o.2.2.2.2.2.2 s (by omega)
  rw [iN_toN (by omega), m.sf, m.sz, iN_le (by omega) (by omega)]
  exact ⟨inB_n (by omega) (by omega), fun a => h11 s (by omega) rfl a, fun a => ⟨fun b => h0 s (by omega) rfl a b, fun b => h2 (Or.inr ⟨s, by omega, rfl, a, by omega⟩)⟩⟩
theorem P_judge (hs : GS g) (o : OKS S) (v1 v2 : Int32) : Pair g S m11_judge m12_judge [.int v1, .int v2] := by
  have p5 := o.1.2.1
  have nM : ∀ n, 0 < n → n ≤ 100 → ¬ iM n = iN 0 := fun n a b q => iM_ne (n := 0) (by omega) (by omega) a q.symm
  by_cases h1 : inR v1 (iN 0) (iN 3)
  · obtain ⟨s, rfl, _, hs3⟩ := (inR_nat (by omega) (by omega)).mp h1
    have U : ∀ {t}, t < 4 → iN s = iN t → t = s := fun ht q => ((iN_inj (by omega) (by omega)).mp q).symm
    by_cases hf : S.2.1 s = iM 1
    · refine ⟨iM 11, S, o, fun d z I K hz c hK => ?_, fun d z I K hz m hK => ?_⟩
      · exact v11_judge hs hz (g4 (by omega) rfl (c_cannotTell hs hz c o (by omega) (fun _ => gF (fun q => absurd ((iN_inj (by omega) (by omega)).mp q) (by omega)) (c_isMissing hs hz c (by omega) (fun _ => gF (fun q => absurd ((iN_inj (by omega) (by omega)).mp q) (by omega)) (hK.i c)) (fun w => absurd hf w))) (fun w => absurd (Or.inl hf) w)))
      · refine v12_judge hs hz (c_sheetWrong hs hz m o (fun t ht e a => absurd hf (by rw [U ht e] at a; exact a)) (fun t ht e a => gF (nM 11 (by omega) (by omega)) (gF (nM 11 (by omega) (by omega)) (hK.i m))) (fun w => ?_))
        rcases w with w | ⟨t, ht, e, a, _⟩
        · exact absurd h1 w
        · rw [U ht e] at a; exact absurd hf a
    · by_cases h12 : S.1 9 s ≤ 12
      · have hct : ¬ (S.2.1 s = iM 1 ∨ 12 < S.1 9 s) := fun w => by rcases w with w | w; exact hf w; omega
        by_cases h2 : inR v2 (iN 0) (iN (sNp S) - iN 1)
        · obtain ⟨p, hp, rfl⟩ := (inR_dn (by omega)).mp h2
          refine ⟨foF S s (sHas S p) (S.1 9 s) 0, S, o, fun d z I K hz c hK => ?_, fun d z I K hz m hK => ?_⟩
          · exact v11_judge hs hz (g4 (by omega) rfl (c_cannotTell hs hz c o (by omega) (fun w => absurd w hct) (fun _ => gT rfl (gN c.np p5 (by omega) hp rfl (c_firstOther hs hz c o (by omega) h12 (hz.purse (by omega)) (o.b p) (by omega) (c.pu (by omega)) (fun J hJ => hK.f hz c (FrC.of hJ scr_thought)))))))
          · refine v12_judge hs hz (c_sheetWrong hs hz m o (fun t ht e a b => gT rfl (gM m.np h2 (c_unlike hs hz m o (by omega) (by omega) (fun J hJ => hK.f m hJ)))) (fun t ht e a => ?_) (fun w => ?_))
            · rw [U ht e] at a; exact absurd a hf
            · rcases w with w | ⟨t, ht, e, a, b⟩
              · exact absurd h1 w
              · rw [U ht e] at b; omega
        · refine ⟨iM 5, S, o, fun d z I K hz c hK => ?_, fun d z I K hz m hK => ?_⟩
          · exact v11_judge hs hz (g4 (by omega) rfl (c_cannotTell hs hz c o (by omega) (fun w => absurd w hct) (fun _ => gT rfl (gNn c.np p5 h2 (hK.i c)))))
          · refine v12_judge hs hz (c_sheetWrong hs hz m o (fun t ht e a b => gT rfl (gMn m.np h2 (gT rfl (hK.i m)))) (fun t ht e a => ?_) (fun w => ?_))
            · rw [U ht e] at a; exact absurd a hf
            · rcases w with w | ⟨t, ht, e, a, b⟩
              · exact absurd h1 w
              · rw [U ht e] at b; omega
      · refine ⟨iM 2, S, o, fun d z I K hz c hK => ?_, fun d z I K hz m hK => ?_⟩
        · exact v11_judge hs hz (g4 (by omega) rfl (c_cannotTell hs hz c o (by omega) (fun _ => gF (fun q => absurd ((iN_inj (by omega) (by omega)).mp q) (by omega)) (c_isMissing hs hz c (by omega) (fun w => absurd w hf) (fun _ => gT rfl (hK.i c)))) (fun w => absurd (Or.inr (by omega)) w)))
        · refine v12_judge hs hz (c_sheetWrong hs hz m o (fun t ht e a b => ?_) (fun t ht e a => ?_) (fun w => gF (nM 2 (by omega) (by omega)) (gF (nM 2 (by omega) (by omega)) (hK.i m))))
          · rw [U ht e] at b; exact absurd b h12
          · rw [U ht e] at a; exact absurd a hf
  · exact ⟨iM 2, S, o, fun d z I K hz c hK => v11_judge hs hz (g4n h1 (hK.i c)), fun d z I K hz m hK => v12_judge hs hz (c_sheetWrong hs hz m o (fun t ht e _ _ => absurd (by rw [e, inR_iN (by omega) (by omega) (by omega)]; omega) h1) (fun t ht e _ => absurd (by rw [e, inR_iN (by omega) (by omega) (by omega)]; omega) h1) (fun _ => gF (nM 2 (by omega) (by omega)) (gF (nM 2 (by omega) (by omega)) (hK.i m))))⟩
def whB (S : AS) (s : Nat) : Nat → Bool := fun p => decide (foF S s (sHas S p) (S.1 9 s) 0 = iM 1)
theorem whose_c {s : Nat} {K : Int32 → Is → Prop} (hs : GS g) (hz : Sh z) (o : OKS S) (h4 : s < 4) (h12 : S.1 9 s ≤ 12) : ∀ (r p : Nat) (J : Is), p + r = sNp S → CI z J S → (∀ J2, FrC z J J2 → K (iN (bset (whB S s) (sNp S))) J2) → WPc g m11_whose (d + 6) 0 0 40 [(0, .ref 8), (2, .ref (89 + 2 * s)), (3, .int (iN (bset (whB S s) p))), (4, .int (iN p))] [] z J (Qi z K)
  | 0, p, J, e, c, hK => by
    have p5 := o.1.2.1
    refine v11_whose_40 hs hz ⟨fun _ => ?_, fun q => ?_⟩
    · rw [show p = sNp S by omega]; exact hK J (FrC.rf z J)
    · rw [c.np] at q; exact absurd ((iN_le (by omega) (by omega)).mpr (by omega)) q
  | r + 1, p, J, e, c, hK => by
    have p5 := o.1.2.1
    refine v11_whose_40 hs hz ⟨fun q => ?_, fun _ => ⟨p, by omega, rfl, ?_⟩⟩
    · rw [c.np] at q; exact absurd ((iN_le (by omega) (by omega)).mp q) (by omega)
    · refine c_firstOther hs hz c o h4 h12 (hz.purse (by omega)) (o.b p) (by omega) (c.pu (by omega)) (fun J1 hJ1' => ?_)
      have hJ1 : FrC z J J1 := FrC.of hJ1' scr_thought
      rw [or_up p (by omega) _ (bset_lt _ p), iN_add]
      have nx := whose_c (K := K) hs hz o h4 h12 r (p + 1) J1 (by omega) (c.fr hz hJ1) (fun J2 hJ2 => hK J2 (hJ1.tr hJ2))
      have eb : bset (whB S s) (p + 1) = bset (whB S s) p + (if whB S s p then 2 ^ p else 0) := rfl
      rw [eb] at nx
      refine ⟨fun q => ?_, fun q => ?_⟩
      · rw [show whB S s p = true from decide_eq_true q, if_pos rfl] at nx; exact nx
      · rw [show whB S s p = false from decide_eq_false q, if_neg (by simp), Nat.add_zero] at nx; exact nx
theorem whose_m {s : Nat} {K : Int32 → Is → Prop} (hs : GS g) (hz : Sh z) (o : OKS S) (h4 : s < 4) : ∀ (r p : Nat) (J : Is), p + r = sNp S → MI J S → (∀ J2, Of [118, 119, 120, 122] J J2 → K (iN (bset (whB S s) (sNp S))) J2) → WPc g m12_whose (d + 6) 0 0 17 [(0, .ref 101), (1, .int (iN s)), (3, .int (iN (bset (whB S s) p))), (4, .int (iN p))] [] z J (Qi z K)
  | 0, p, J, e, c, hK => by
    have p5 := o.1.2.1
    refine v12_whose_17 hs hz ⟨fun _ => ?_, fun q => ?_⟩
    · rw [show p = sNp S by omega]; exact hK J (Of.rf _ J)
    · rw [c.np] at q; exact absurd ((iN_le (by omega) (by omega)).mpr (by omega)) q
  | r + 1, p, J, e, c, hK => by
    have p5 := o.1.2.1
    refine v12_whose_17 hs hz ⟨fun q => ?_, fun _ => ?_⟩
    · rw [c.np] at q; exact absurd ((iN_le (by omega) (by omega)).mp q) (by omega)
    · refine c_unlike hs hz c o h4 (by omega) (fun J1 hJ1 => ?_)
      rw [or_up p (by omega) _ (bset_lt _ p), or_0, iN_add]
      have nx := whose_m (K := K) hs hz o h4 r (p + 1) J1 (by omega) (c.fr hJ1) (fun J2 hJ2 => hK J2 (hJ1.tr hJ2))
      have eb : bset (whB S s) (p + 1) = bset (whB S s) p + (if whB S s p then 2 ^ p else 0) := rfl
      rw [eb] at nx
      refine ⟨fun q => ?_, fun q => ?_⟩
      · rw [show whB S s p = true from decide_eq_true q, if_pos rfl] at nx; exact nx
      · rw [show whB S s p = false from decide_eq_false q, if_neg (by simp), Nat.add_zero] at nx; exact nx
theorem P_whose (hs : GS g) (o : OKS S) (v1 : Int32) : Pair g S m11_whose m12_whose [.int v1] := by
  have nM : ∀ n, 0 < n → n ≤ 100 → ¬ iM n = iN 0 := fun n a b q => iM_ne (n := 0) (by omega) (by omega) a q.symm
  by_cases h1 : inR v1 (iN 0) (iN 3)
  · obtain ⟨s, rfl, _, hs3⟩ := (inR_nat (by omega) (by omega)).mp h1
    have U : ∀ {t}, t < 4 → iN s = iN t → t = s := fun ht q => ((iN_inj (by omega) (by omega)).mp q).symm
    by_cases hf : S.2.1 s = iM 1
    · refine ⟨iM 11, S, o, fun d z I K hz c hK => ?_, fun d z I K hz m hK => ?_⟩
      · exact v11_whose hs hz (g4 (by omega) rfl (c_cannotTell hs hz c o (by omega) (fun _ => gF (fun q => absurd ((iN_inj (by omega) (by omega)).mp q) (by omega)) (c_isMissing hs hz c (by omega) (fun _ => gF (fun q => absurd ((iN_inj (by omega) (by omega)).mp q) (by omega)) (hK.i c)) (fun w => absurd hf w))) (fun w => absurd (Or.inl hf) w)))
      · refine v12_whose hs hz (c_sheetWrong hs hz m o (fun t ht e a => absurd hf (by rw [U ht e] at a; exact a)) (fun t ht e a => gF (nM 11 (by omega) (by omega)) (hK.i m)) (fun w => ?_))
        rcases w with w | ⟨t, ht, e, a, _⟩
        · exact absurd h1 w
        · rw [U ht e] at a; exact absurd hf a
    · by_cases h12 : S.1 9 s ≤ 12
      · have hct : ¬ (S.2.1 s = iM 1 ∨ 12 < S.1 9 s) := fun w => by rcases w with w | w; exact hf w; omega
        refine ⟨iN (bset (whB S s) (sNp S)), S, o, fun d z I K hz c hK => ?_, fun d z I K hz m hK => ?_⟩
        · exact v11_whose hs hz (g4 (by omega) rfl (c_cannotTell hs hz c o (by omega) (fun w => absurd w hct) (fun _ => gT rfl (whose_c hs hz o (by omega) h12 (sNp S) 0 I (by omega) c (fun J hJ => hK.f hz c hJ)))))
        · refine v12_whose hs hz (c_sheetWrong hs hz m o (fun t ht e a b => gT rfl (whose_m hs hz o (by omega) (sNp S) 0 I (by omega) m (fun J hJ => hK.f m hJ))) (fun t ht e a => ?_) (fun w => ?_))
          · rw [U ht e] at a; exact absurd a hf
          · rcases w with w | ⟨t, ht, e, a, b⟩
            · exact absurd h1 w
            · rw [U ht e] at b; omega
      · refine ⟨iM 2, S, o, fun d z I K hz c hK => ?_, fun d z I K hz m hK => ?_⟩
        · exact v11_whose hs hz (g4 (by omega) rfl (c_cannotTell hs hz c o (by omega) (fun _ => gF (fun q => absurd ((iN_inj (by omega) (by omega)).mp q) (by omega)) (c_isMissing hs hz c (by omega) (fun w => absurd w hf) (fun _ => gT rfl (hK.i c)))) (fun w => absurd (Or.inr (by omega)) w)))
        · refine v12_whose hs hz (c_sheetWrong hs hz m o (fun t ht e a b => ?_) (fun t ht e a => ?_) (fun w => gF (nM 2 (by omega) (by omega)) (hK.i m)))
          · rw [U ht e] at b; exact absurd b h12
          · rw [U ht e] at a; exact absurd a hf
  · exact ⟨iM 2, S, o, fun d z I K hz c hK => v11_whose hs hz (g4n h1 (hK.i c)), fun d z I K hz m hK => v12_whose hs hz (c_sheetWrong hs hz m o (fun t ht e _ _ => absurd (by rw [e, inR_iN (by omega) (by omega) (by omega)]; omega) h1) (fun t ht e _ => absurd (by rw [e, inR_iN (by omega) (by omega) (by omega)]; omega) h1) (fun _ => gF (nM 2 (by omega) (by omega)) (hK.i m)))⟩
end PH
