/-! pair: back -/
section PB
variable {g : Gt} {d : Nat} {z z' : Zs} {I J : Is} {S : AS}
def bkU (S : AS) : AS := (fun i => if i = 0 then up1 (up1 (up1 (up1 (S.1 0) 0 (S.1 0 7)) 1 (S.1 0 8)) 2 (S.1 0 9)) 4 (S.1 0 10) else if i = 4 then (fun j => if j < 30 then S.1 8 j else S.1 4 j) else S.1 i, S.2)
theorem bkU_ok (o : OKS S) : OKS (bkU S) := by
  obtain ⟨o1, o2, o3, o4, o5, o6, o7⟩ := o
  refine ⟨⟨by show S.1 0 7 ≤ 6; have := o6.2.2.2.1; omega, by show S.1 0 8 ≤ 5; exact o6.2.2.2.2.1, by show S.1 0 9 ≤ 99; exact o6.2.2.2.2.2.1, o1.2.2.2.1, by show S.1 0 10 < sNt S; exact o6.2.2.2.2.2.2, o1.2.2.2.2.2⟩, o2, ⟨fun i => ?_, fun p s hp hs hn => ?_⟩, o4, o5, ⟨o6.1, o6.2.1, o6.2.2.1, Nat.le_refl _, o6.2.2.2.2⟩, o7⟩
  · show (if i < 30 then S.1 8 i else S.1 4 i) ≤ 99
    split
    · exact o6.1 i
    · exact o3.1 i
  · show (if 6 * p + s < 30 then S.1 8 (6 * p + s) else S.1 4 (6 * p + s)) = 0
    rw [if_pos (by omega)]
    exact o6.2.1 p s hp hs hn
/-- sorts gone from v on -/
def zBk (z : Zs) (v : Nat) : Nat → Zs
  | 0 => z
  | n + 1 => zBk (zPut z 9 v none) (v + 1) n
theorem bk_ex : ∀ (n v : Nat) {z0 z : Zs}, ExZ z0 z → ExZ z0 (zBk z v n)
  | 0, _, _, _, h => h
  | n + 1, v, z0, z, h => bk_ex n (v + 1) (h.put (Or.inl rfl))
theorem bk_T : ∀ (n v : Nat) (z : Zs), zT (zBk z v n) = zT z ∧ zL (zBk z v n) = zL z ∧ zN (zBk z v n) = zN z ∧ zP (zBk z v n) 20 = zP z 20
  | 0, _, _ => ⟨rfl, rfl, rfl, rfl⟩
  | n + 1, v, z => by
    have := bk_T n (v + 1) (zPut z 9 v none)
    exact ⟨this.1, this.2.1, this.2.2.1, by rw [show zBk z v (n + 1) = zBk (zPut z 9 v none) (v + 1) n from rfl, this.2.2.2, zPut_o (by omega)]⟩
theorem bk_P : ∀ (n v : Nat) (z : Zs) (s : Nat), (s < v → zP (zBk z v n) 9 s = zP z 9 s) ∧ (v ≤ s → s < v + n → zP (zBk z v n) 9 s = none)
  | 0, _, _, s => ⟨fun _ => rfl, fun a b => by omega⟩
  | n + 1, v, z, s => by
    have := bk_P n (v + 1) (zPut z 9 v none) s
    refine ⟨fun a => ?_, fun a b => ?_⟩
    · rw [show zBk z v (n + 1) = zBk (zPut z 9 v none) (v + 1) n from rfl, this.1 (by omega), zPut_i (by omega)]
    · rw [show zBk z v (n + 1) = zBk (zPut z 9 v none) (v + 1) n from rfl]
      rcases Nat.lt_or_ge v s with q | q
      · exact this.2 q (by omega)
      · rw [this.1 (by omega), show s = v by omega, zPut_s]
theorem b2_l {K : Int32 → Zs → Is → Prop} (hs : GS g) : ∀ (n v : Nat) (z : Zs), v + n = 6 → Sh z → K (I 26 2) (zBk z v n) (up2 (up2 (up2 (up2 I 8 10 (I 26 1)) 8 11 (I 26 2)) 8 13 (I 26 3)) 8 14 (I 26 4)) → WPc g m11_back (d + 3) 0 0 52 [(0, .ref 8), (1, .int (iN v))] [] z I (Zi K)
  | 0, v, z, e, hz, hK => v11_back_52 hs hz ⟨fun _ => hK, fun q => absurd ((iN_le (by omega) (by omega)).mpr (by omega)) q⟩
  | n + 1, v, z, e, hz, hK => by
    refine v11_back_52 hs hz ⟨fun q => absurd ((iN_le (by omega) (by omega)).mp q) (by omega), fun _ => ⟨by rw [hz.t 9 rfl]; rfl, by rw [hz.l 9 rfl]; exact inB_n (by omega) (by omega), ?_⟩⟩
    rw [iN_toN (by omega), iN_add]
    exact b2_l hs n (v + 1) _ (by omega) (hz.ex ((ExZ.rf z).put (Or.inl rfl))) hK
theorem b1_l {K : Int32 → Zs → Is → Prop} (hs : GS g) (hz : Sh z) (c : CI z I S) (hK : ∀ J, (∀ k, k ∉ [50, 58, 66, 74, 82] → J k = I k) → (∀ p, p < 5 → Rw J (49 + 8 * p + 1) (sIm S p)) → WPc g m11_back (d + 3) 0 0 52 [(0, .ref 8), (1, .int (J 26 1))] [] z J (Zi K)) : ∀ (r p : Nat) (J : Is), p + r = 5 → (∀ k, k ∉ [50, 58, 66, 74, 82] → J k = I k) → (∀ q, q < p → Rw J (49 + 8 * q + 1) (sIm S q)) → WPc g m11_back (d + 3) 0 0 15 [(0, .ref 8), (1, .int (iN p))] [] z J (Zi K)
  | 0, p, J, e, hJ, hR => v11_back_15 hs hz ⟨fun _ => hK J hJ (fun q hq => hR q (by omega)), fun q => absurd ((iN_le (by omega) (by omega)).mpr (by omega)) q⟩
  | r + 1, p, J, e, hJ, hR => by
    refine v11_back_15 hs hz ⟨fun q => absurd ((iN_le (by omega) (by omega)).mp q) (by omega), fun _ => ⟨p, by omega, rfl, p, by omega, rfl, c_become (h := sIm S p) hs (hz.purse (by omega)) (hz.kpurse (by omega)) ((c.kp (by omega)).cg (hJ _ (by simp; omega))) (fun J1 h1 r1 => ?_)⟩⟩
    rw [iN_add]
    refine b1_l hs hz c hK r (p + 1) J1 (by omega) (fun k hk => by rw [h1 k (by simp at hk ⊢; omega)]; exact hJ k hk) (fun q hq => ?_)
    rcases Nat.lt_or_ge q p with a | a
    · exact (hR q a).cg (h1 _ (by simp; omega))
    · rw [show q = p by omega]; exact r1
theorem mb_l {K : Int32 → Is → Prop} (hs : GS g) (hz : Sh z) (hK : ∀ J, Of [105] I J → (∀ i, J 105 i = if i < 30 then I 109 i else I 105 i) → K (J 101 4) J) : ∀ (r p : Nat) (J : Is), p + r = 30 → Of [105] I J → (∀ i, J 105 i = if i < p then I 109 i else I 105 i) → WPc g m12_back d 0 0 44 [(0, .ref 101), (1, .int (iN p))] [] z J (Qi z K)
  | 0, p, J, e, hO, h1 => by
    obtain rfl : p = 30 := by omega
    exact v12_back_44 hs hz ⟨fun _ => hK J hO h1, fun q => absurd ((iN_le (by omega) (by omega)).mpr (Nat.le_refl _)) q⟩
  | r + 1, p, J, e, hO, h1 => by
    refine v12_back_44 hs hz ⟨fun q => absurd ((iN_le (by omega) (by omega)).mp q) (by omega), fun _ => ⟨inB_n (by omega) (by omega), ?_⟩⟩
    rw [iN_toN (by omega), iN_add]
    refine mb_l hs hz hK r (p + 1) _ (by omega) (hO.upt (by simp) _ _) (fun i => ?_)
    rw [up2_ra]; unfold up1
    by_cases q : i = p
    · rw [if_pos q, if_pos (by omega), hO 109 (by simp), q]
    · rw [if_neg q, h1 i]
      by_cases q2 : i < p
      · rw [if_pos q2, if_pos (by omega)]
      · rw [if_neg q2, if_neg (by omega)]
theorem CI.back (c : CI z I S) (hz : Sh z) (zt : ZtO z) (o : OKS S) (hJ : ∀ k, k ∉ [50, 58, 66, 74, 82] → k ≠ 8 → J k = I k) (h8 : J 8 = up1 (up1 (up1 (up1 (I 8) 10 (I 26 1)) 11 (I 26 2)) 13 (I 26 3)) 14 (I 26 4)) (hR : ∀ p, p < 5 → Rw J (49 + 8 * p + 1) (sIm S p)) : CI (zBk z (S.1 0 7) (6 - S.1 0 7)) J (bkU S) := by
  have z124 := hz.2.2.2
  have ez : ExZ z (zBk z (S.1 0 7) (6 - S.1 0 7)) := bk_ex _ _ (ExZ.rf z)
  obtain ⟨bT, bL, bN2, b20⟩ := bk_T (6 - S.1 0 7) (S.1 0 7) z
  obtain ⟨i1, i2, i3, i4, i5⟩ := c.im
  have ns7 : S.1 0 7 ≤ sNs S := o.2.2.2.2.2.1.2.2.2.1
  have n6 := o.1.1
  have fx : ∀ q, q < 124 → q ∉ [50, 58, 66, 74, 82] → q ≠ 8 → J q = I q := fun q hq h1 h2 => hJ q h1 h2
  have t5 : ∀ k, zT z k ≠ 100 → k ∉ [50, 58, 66, 74, 82] := fun k e q => e (by
    simp only [List.mem_cons, List.not_mem_nil, or_false] at q
    rcases q with rfl | rfl | rfl | rfl | rfl <;> exact hz.t _ rfl)
  obtain ⟨h1, h2, h3, h4, h5, h6', h7⟩ := id c
  refine ⟨⟨?_, ?_, ?_, ?_, ?_, ?_⟩, ⟨by show S.1 0 7 ≤ 6; omega, fun s hs1 => ?_, fun s hs1 hs2 => ?_⟩, fun p hp => (hR p hp).fn (fun s hs6 => ?_), ⟨fun p hp => (h4.1 p hp).cg (fx _ (by omega) (by simp; omega) (by omega)), by rw [fx 26 (by omega) (by simp) (by omega)]; exact h4.2⟩, by rw [fx 23 (by omega) (by simp) (by omega)]; exact h5, ⟨fun t ht' => ?_, fun t ht1 ht2 => ?_⟩, fun s hs1 => by rw [fx (89 + 2 * s) (by omega) (by simp; omega) (by omega), fx (89 + 2 * s + 1) (by omega) (by simp; omega) (by omega)]; exact h7 s hs1⟩
  · rw [h8, up1_o _ (by omega), up1_o _ (by omega), up1_o _ (by omega), up1_s]; exact i1
  · rw [h8, up1_o _ (by omega), up1_o _ (by omega), up1_s]; exact i2
  · rw [h8, up1_o _ (by omega), up1_o _ (by omega), up1_o _ (by omega), up1_o _ (by omega)]; exact h1.2.2.1
  · rw [h8, up1_o _ (by omega), up1_s]; exact i3
  · rw [h8, up1_s]; exact i4
  · rw [fx 22 (by omega) (by simp) (by omega)]; exact h1.2.2.2.2.2
  · have hs1 : s < S.1 0 7 := hs1
    rw [(bk_P _ _ z s).1 hs1]
    obtain ⟨⟨qq, e1, so⟩, kb⟩ := h2.2.1 s (by omega)
    have kl := kcl_lt (S.1 1 s)
    have n8 : qq ≠ 8 := fun w => by have := so.1; rw [w, hz.t 8 rfl] at this; omega
    exact ⟨⟨qq, e1, (so.ex zt ez).cg (hJ qq (t5 qq (by rw [so.1]; omega)) n8)⟩, kb⟩
  · have hs1 : S.1 0 7 ≤ s := hs1
    exact (bk_P _ _ z s).2 hs1 (by omega)
  · show S.1 8 (6 * p + s) = if 6 * p + s < 30 then S.1 8 (6 * p + s) else S.1 4 (6 * p + s)
    rw [if_pos (by omega)]
  · obtain ⟨t6, a, ea, r⟩ := h6'.1 t ht'
    refine ⟨t6, a, by rw [b20]; exact ea, ?_⟩
    have r1 := r.1.ex hz zt ez
    have ra := r.2.1
    exact ⟨r1.1, r.2.1, fun p hp => by rw [hJ _ (by simp; omega) (by omega)]; exact r.2.2.1 p hp, by rw [r1.2]; exact r.2.2.2.1, fun k hk => by rw [hJ _ (by simp; omega) (by omega)]; exact r.2.2.2.2 k hk⟩
  · rw [b20]; exact h6'.2 t ht1 ht2
theorem P_back (hs : GS g) (o : OKS S) : PairG g S m11_back m12_back [] 0 0 := by
  have n6 := o.1.1
  have ns7 : S.1 0 7 ≤ sNs S := o.2.2.2.2.2.1.2.2.2.1
  by_cases h1 : sHi S = 0
  · refine ⟨iM 3, S, fun d z I K hz _ c hK => v11_back hs hz ?_, fun d z I K hz m hK => v12_back hs hz ?_⟩
    · rw [c.im.2.2.2.2, h1]; exact gT rfl (hK z I hz c (fun _ _ _ => rfl))
    · rw [m.2.1.1, h1]; exact gT rfl (hK I S o (Eqv.rf S) m (fun _ _ => rfl))
  · have hi := o.2.2.2.2.2.1.2.2.1
    refine ⟨iN (S.1 0 8), bkU S, fun d z I K hz zt c hK => v11_back hs hz ?_, fun d z I K hz m hK => v12_back hs hz ?_⟩
    · obtain ⟨i1, i2, i3, i4, i5⟩ := c.im
      rw [i5, iN_inj (b := 0) (by omega) (by omega)]
      refine gF h1 (b1_l hs hz c (fun J hJ hR => ?_) 5 0 I rfl (fun _ _ => rfl) (fun q hq => absurd hq (by omega)))
      have e26 : J 26 = I 26 := hJ 26 (by simp)
      rw [e26, i1]
      refine b2_l hs (6 - S.1 0 7) (S.1 0 7) z (by omega) hz ?_
      rw [e26, i2]
      refine hK _ _ (hz.ex (bk_ex _ _ (ExZ.rf z))) (c.back hz zt o (fun k hk h8 => ?_) ?_ (fun p hp => ?_)) (fun k a b => ?_)
      · rw [up2_ro _ h8, up2_ro _ h8, up2_ro _ h8, up2_ro _ h8]; exact hJ k hk
      · rw [up2_ra, up2_ra, up2_ra, up2_ra, hJ 8 (by simp), i2]
      · exact (hR p hp).cg (by rw [up2_ro _ (by omega), up2_ro _ (by omega), up2_ro _ (by omega), up2_ro _ (by omega)])
      · rw [up2_ro _ (by omega), up2_ro _ (by omega), up2_ro _ (by omega), up2_ro _ (by omega)]; exact hJ k (by simp; omega)
    · obtain ⟨m1, m2, m3, m4, m5, m6, m7, m8, m9, m10, m11, m12, m13, m14⟩ := id m
      rw [m2.1, iN_inj (b := 0) (by omega) (by omega)]
      refine gF h1 (mb_l hs hz (fun J hO h105 => ?_) 30 0 _ rfl (Of.rf _ _) (fun i => by rw [if_neg (by omega)]))
      have r : ∀ q, q ≠ 101 → q ≠ 105 → J q = I q := fun q a b => by
        rw [hO q (by simp; omega), up2_ro _ a, up2_ro _ a, up2_ro _ a, up2_ro _ a]
      have j101 : J 101 = up1 (up1 (up1 (up1 (I 101) 0 (I 101 14)) 4 (I 101 15)) 6 (I 101 16)) 12 (I 101 17) := by
        rw [hO 101 (by simp), up2_ra, up2_ra, up2_ra, up2_ra]
      have e4 : J 101 4 = iN (S.1 0 8) := by rw [j101, up1_o _ (by omega), up1_o _ (by omega), up1_s]; exact m2.2.2.1
      rw [e4]
      refine hK J (bkU S) (bkU_ok o) (Eqv.rf _) ?_ (fun q a => r q (by omega) (by omega))
      have o101 : ∀ i, i ≠ 0 → i ≠ 4 → i ≠ 6 → i ≠ 12 → J 101 i = I 101 i := fun i a b c d => by rw [j101, up1_o _ d, up1_o _ c, up1_o _ b, up1_o _ a]
      refine ⟨⟨?_, e4, ?_, ?_, ?_, ?_⟩, ?_, ?_, ?_, ?_, fun i => ?_, ?_, ?_, ?_, ?_, ?_, ?_, ?_, ?_⟩
      · rw [j101, up1_o _ (by omega), up1_o _ (by omega), up1_o _ (by omega), up1_s]; exact m2.2.1
      · rw [j101, up1_o _ (by omega), up1_s]; exact m2.2.2.2.1
      · rw [o101 8 (by omega) (by omega) (by omega) (by omega)]; exact m1.2.2.2.1
      · rw [o101 11 (by omega) (by omega) (by omega) (by omega)]; exact m1.2.2.2.2.1
      · rw [j101, up1_s]; exact m2.2.2.2.2
      · rw [o101 13 (by omega) (by omega) (by omega) (by omega), o101 14 (by omega) (by omega) (by omega) (by omega), o101 15 (by omega) (by omega) (by omega) (by omega), o101 16 (by omega) (by omega) (by omega) (by omega), o101 17 (by omega) (by omega) (by omega) (by omega)]; exact m2
      · rw [r 102 (by omega) (by omega)]; exact m3
      · rw [r 103 (by omega) (by omega)]; exact m4
      · rw [r 104 (by omega) (by omega)]; exact m5
      · rw [h105 i, up2_ro _ (by omega), up2_ro _ (by omega), up2_ro _ (by omega), up2_ro _ (by omega), up2_ro _ (by omega), up2_ro _ (by omega), up2_ro _ (by omega), up2_ro _ (by omega), m10, m6]
        show (if i < 30 then iN (S.1 8 i) else iN (S.1 4 i)) = iN (if i < 30 then S.1 8 i else S.1 4 i)
        split <;> rfl
      · rw [r 106 (by omega) (by omega)]; exact m7
      · rw [r 107 (by omega) (by omega)]; exact m8
      · rw [r 108 (by omega) (by omega)]; exact m9
      · rw [r 109 (by omega) (by omega)]; exact m10
      · rw [r 110 (by omega) (by omega)]; exact m11
      · rw [r 111 (by omega) (by omega)]; exact m12
      · rw [r 112 (by omega) (by omega)]; exact m13
      · rw [r 114 (by omega) (by omega)]; exact m14
end PB
