/-! pairs: image, feed -/
def imU (S : AS) : AS := (up1 (up1 S.1 8 (fun i => if i < 30 then S.1 4 i else S.1 8 i)) 0 (fun j => if j = 6 then 1 else if j = 7 then sNs S else if j = 8 then sNp S else if j = 9 then sYr S else if j = 10 then sLw S else S.1 0 j), S.2)
def tpU (S : AS) (b : Nat) : AS := (up1 (up1 S.1 5 (up1 (S.1 5) (sTn S) b)) 0 (up1 (S.1 0) 5 (sTn S + 1)), S.2)
theorem kcl_2 (k : Nat) : kcl k ≠ 2 := by unfold kcl; split <;> omega
section PL
variable {g : Gt} {d : Nat} {z : Zs} {I J : Is} {S : AS}
theorem OKS.uIm (o : OKS S) : OKS (imU S) := ⟨o.1, o.2.1, o.2.2.1, o.2.2.2.1, o.2.2.2.2.1, ⟨fun i => by
  show (if i < 30 then S.1 4 i else S.1 8 i) ≤ 99
  split
  · exact o.2.2.1.1 i
  · exact o.2.2.2.2.2.1.1 i, fun p s hp hs hn => by
  show (if 6 * p + s < 30 then S.1 4 (6 * p + s) else _) = 0
  rw [if_pos (by omega)]
  exact o.2.2.1.2 p s hp hs hn, Nat.le_refl 1, Nat.le_refl _, o.1.2.1, o.1.2.2.1, o.1.2.2.2.2.1⟩, o.2.2.2.2.2.2⟩
theorem image_c {K : Int32 → Is → Prop} (hs : GS g) (hz : Sh z) (c : CI z I S) (hK : ∀ J, Of [29, 33, 37, 41, 45] I J → (∀ p, p < 5 → Rw J (28 + 4 * p + 1) (sHas S p)) → K (J 8 11) (up2 (up2 (up2 (up2 (up2 J 26 1 (J 8 10)) 26 2 (J 8 11)) 26 3 (J 8 13)) 26 4 (J 8 14)) 26 5 (iN 1))) : ∀ (r p : Nat) (J : Is), p + r = 5 → Of [29, 33, 37, 41, 45] I J → (∀ q, q < p → Rw J (28 + 4 * q + 1) (sHas S q)) → WPc g m11_image (d + 2) 0 0 2 [(0, .ref 8), (1, .int (iN p))] [] z J (Qi z K)
  | 0, p, J, e, hJ, h1 => by
    obtain rfl : p = 5 := by omega
    exact v11_image_2 hs hz ⟨fun _ => hK J hJ h1, fun q => absurd ((iN_le (by omega) (by omega)).mpr (Nat.le_refl _)) q⟩
  | r + 1, p, J, e, hJ, h1 => by
    refine v11_image_2 hs hz ⟨fun q => absurd ((iN_le (by omega) (by omega)).mp q) (by omega), fun _ => ⟨p, by omega, rfl, p, by omega, rfl, ?_⟩⟩
    have rp : Rw J (49 + 8 * p + 1) (sHas S p) := (c.pu (p := p) (by omega)).cg (hJ _ (by simp; omega))
    refine c_become hs (hz.kpurse (by omega)) (hz.purse (by omega)) rp (fun J1 hJ1 hr1 => ?_)
    rw [iN_add]
    refine image_c hs hz c hK r (p + 1) J1 (by omega) (hJ.tr (hJ1.mo (by simp; omega))) (fun q hq => ?_)
    by_cases w : q = p
    · rw [w]; exact hr1
    · exact (h1 q (by omega)).cg (hJ1 _ (by simp; omega))
theorem image_m {K : Int32 → Is → Prop} (hs : GS g) (hz : Sh z) (hK : ∀ J, Of [109] I J → (∀ i, J 109 i = if i < 30 then I 105 i else I 109 i) → K (J 101 4) J) : ∀ (r k : Nat) (J : Is), k + r = 30 → Of [109] I J → (∀ i, J 109 i = if i < k then I 105 i else I 109 i) → WPc g m12_image d 0 0 39 [(0, .ref 101), (1, .int (iN k))] [] z J (Qi z K)
  | 0, k, J, e, hJ, h1 => by
    obtain rfl : k = 30 := by omega
    exact v12_image_39 hs hz ⟨fun _ => hK J hJ h1, fun q => absurd ((iN_le (by omega) (by omega)).mpr (Nat.le_refl _)) q⟩
  | r + 1, k, J, e, hJ, h1 => by
    refine v12_image_39 hs hz ⟨fun q => absurd ((iN_le (by omega) (by omega)).mp q) (by omega), fun _ => ⟨inB_n (by omega) (by omega), ?_⟩⟩
    rw [iN_toN (by omega), iN_add, hJ 105 (by simp)]
    refine image_m hs hz hK r (k + 1) _ (by omega) (hJ.upt (by simp) _ _) (fun i => ?_)
    rw [up2_ra]; unfold up1
    by_cases w : i = k
    · rw [if_pos w, if_pos (by omega), w]
    · rw [if_neg w, h1 i]
      by_cases w2 : i < k
      · rw [if_pos w2, if_pos (by omega)]
      · rw [if_neg w2, if_neg (by omega)]
theorem P_image (hs : GS g) (o : OKS S) : Pair g S m11_image m12_image [] := by
  refine ⟨iN (sNp S), imU S, o.uIm, fun d z I K hz c hK => ?_, fun d z I K hz m hK => ?_⟩
  · refine v11_image hs (image_c hs hz c (fun J hJ hr => ?_) 5 0 I rfl (Of.rf _ I) (fun q hq => absurd hq (by omega)))
    have e8 : J 8 = I 8 := hJ 8 (by decide)
    rw [e8, c.np, c.ns, c.yr, c.lw]
    have h26 : ∀ k, k ≠ 26 → up2 (up2 (up2 (up2 (up2 J 26 1 (iN (sNs S))) 26 2 (iN (sNp S))) 26 3 (iN (sYr S))) 26 4 (iN (sLw S))) 26 5 (iN 1) k = J k := fun k hk => by rw [up2_ro _ hk, up2_ro _ hk, up2_ro _ hk, up2_ro _ hk, up2_ro _ hk]
    have fx : ∀ k, k ≠ 26 → k ∉ [29, 33, 37, 41, 45] → up2 (up2 (up2 (up2 (up2 J 26 1 (iN (sNs S))) 26 2 (iN (sNp S))) 26 3 (iN (sYr S))) 26 4 (iN (sLw S))) 26 5 (iN 1) k = I k := fun k hk hl => by rw [h26 k hk]; exact hJ k hl
    obtain ⟨a1, a2, a3, a4, a5, a6, a7⟩ := id c
    refine hK _ ⟨?_, a2.cg2 (fun q k hq => fx q (fun e => ?_) (fun e => ?_)), fun p hp => (a3 p hp).cg (fx _ (by omega) (by simp; omega)), ⟨fun p hp => ?_, ?_⟩, ?_, ⟨fun t ht => ?_, a6.2⟩, fun s hs => ?_⟩ (fun k a b => fx k (by omega) (by simp; omega))
    · rw [fx 8 (by omega) (by decide), fx 22 (by omega) (by decide)]; exact a1
    · have := kcl_2 k; rw [← hq, e, hz.t 26 rfl] at this; exact this rfl
    · have hk := kcl_lt k
      simp only [List.mem_cons, List.not_mem_nil, or_false] at e
      rw [← hq] at hk
      rcases e with rfl | rfl | rfl | rfl | rfl <;> (rw [hz.t _ rfl] at hk; omega)
    · refine ((hr p hp).cg (h26 _ (by omega))).fn (fun s hs6 => ?_)
      show S.1 4 (6 * p + s) = if 6 * p + s < 30 then S.1 4 (6 * p + s) else _
      rw [if_pos (by omega)]
    · simp only [up2, if_true]
      exact ⟨rfl, rfl, rfl, rfl, rfl⟩
    · rw [fx 23 (by omega) (by decide)]; exact a5
    · obtain ⟨t6, a, e, r⟩ := a6.1 t ht
      have ra := r.2.1
      refine ⟨t6, a, e, r.1, r.2.1, fun p hp => ?_, r.2.2.2.1, fun k hk => ?_⟩
      · rw [fx _ (by omega) (by simp; omega)]; exact r.2.2.1 p hp
      · rw [fx _ (by omega) (by simp; omega)]; exact r.2.2.2.2 k hk
    · rw [fx (89 + 2 * s) (by omega) (by simp; omega), fx (89 + 2 * s + 1) (by omega) (by simp; omega)]; exact a7 s hs
  · refine v12_image hs hz (image_m hs hz (fun J hJ hr => ?_) 30 0 _ rfl (Of.rf _ _) (fun i => by rw [if_neg (by omega)]))
    rw [m.ns, m.np, m.yr, m.lw] at hJ hr
    have hO : Of [101, 109] I J := ((((((Of.rf _ I).upt (by simp) 13 (iN 1)).upt (by simp) 14 (iN (sNs S))).upt (by simp) 15 (iN (sNp S))).upt (by simp) 16 (iN (sYr S))).upt (by simp) 17 (iN (sLw S))).tr (hJ.mo (by simp))
    have e1 : ∀ j, j < 13 → J 101 j = I 101 j := fun j hj => by
      rw [hJ 101 (by simp), up2_ra, up1_o _ (by omega), up2_ra, up1_o _ (by omega), up2_ra, up1_o _ (by omega), up2_ra, up1_o _ (by omega), up2_ra, up1_o _ (by omega)]
    have r : ∀ k, k ≠ 101 → k ≠ 109 → J k = I k := fun k a b => hO k (by simp; omega)
    rw [e1 4 (by omega), m.np]
    obtain ⟨m1, m2, m3, m4, m5, m6, m7, m8, m9, m10, m11, m12, m13, m14⟩ := id m
    refine hK J ⟨?_, ?_, ?_, ?_, ?_, ?_, ?_, ?_, ?_, fun i => ?_, ?_, ?_, ?_, ?_⟩ (KeepC.of hO)
    · rw [e1 0 (by omega), e1 4 (by omega), e1 6 (by omega), e1 8 (by omega), e1 11 (by omega), e1 12 (by omega)]; exact m1
    · rw [hJ 101 (by simp)]
      simp only [up2, if_true]
      exact ⟨rfl, rfl, rfl, rfl, rfl⟩
    · rw [r 102 (by omega) (by omega)]; exact m3
    · rw [r 103 (by omega) (by omega)]; exact m4
    · rw [r 104 (by omega) (by omega)]; exact m5
    · rw [r 105 (by omega) (by omega)]; exact m6
    · rw [r 106 (by omega) (by omega)]; exact m7
    · rw [r 107 (by omega) (by omega)]; exact m8
    · rw [r 108 (by omega) (by omega)]; exact m9
    · show J 109 i = iN (if i < 30 then S.1 4 i else S.1 8 i)
      rw [hr i]
      by_cases w : i < 30
      · rw [if_pos w, if_pos w, up2_ro _ (by omega), up2_ro _ (by omega), up2_ro _ (by omega), up2_ro _ (by omega), up2_ro _ (by omega)]; exact m6 i
      · rw [if_neg w, if_neg w, up2_ro _ (by omega), up2_ro _ (by omega), up2_ro _ (by omega), up2_ro _ (by omega), up2_ro _ (by omega)]; exact m10 i
    · rw [r 110 (by omega) (by omega)]; exact m11
    · rw [r 111 (by omega) (by omega)]; exact m12
    · rw [r 112 (by omega) (by omega)]; exact m13
    · rw [r 114 (by omega) (by omega)]; exact m14
end PL
