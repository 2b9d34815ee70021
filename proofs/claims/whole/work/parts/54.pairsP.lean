/-! drawn: the reference -/
section PP
variable {g : Gt} {d : Nat} {z : Zs} {I J : Is} {S T : AS}
theorem hs6_b (o : OKS T) (p s : Nat) : hs6 T p s ≤ 99 := by
  unfold hs6
  split
  · exact o.b p s (by assumption)
  · omega
def MbK (T : AS) (I : Is) (p : Nat) (K : Int32 → Is → Prop) (q : Option (Nat → Nat)) : Prop := match q with
  | none => ∀ J, Of [105, 118, 119, 120] I J → MI J T → K (iM 3) J
  | some l => ∀ J, Of [105, 118, 119, 120] I J → MI J (hasU T (rowU T p l)) → K (iN (bset (fun s => decide (l s < hs6 T p s)) (sNs T))) J
theorem m_buy (hs : GS g) (hz : Sh z) (o : OKS T) (m : MI I T) {p k : Nat} {K : Int32 → Is → Prop} (hp : p < sNp T) (hk1 : 1 ≤ k) (hk : k ≤ 12) (hK : MbK T I p K (layN k (hs6 T p) (fun s => sTg T s (hs6 T p s)))) : Wi g m12_buy (d + 20) [.ref 101, .int (iN p), .int (iN k)] z I K := by
  have n6 := o.1.1
  have p5 := o.1.2.1
  have h1 : inR (iN p) (iN 0) (iN (sNp T) - iN 1) := (inR_dn (by omega)).mpr ⟨p, hp, rfl⟩
  have h2 : inR (iN k) (iN 1) (iN 12) := (inR_nat (by omega) (by omega)).mpr ⟨k, rfl, hk1, hk⟩
  have hb := hs6_b o p
  have z0 : ∀ s, sNs T ≤ s → hs6 T p s = 0 := fun s a => by
    unfold hs6
    split
    · exact o.2.2.1.2 p s (by omega) (by assumption) a
    · rfl
  refine v12_buy hs hz (gM m.np h1 (gT h2 (c_thinksOf hs hz m o (by omega) (fun J hJ hr => c_lays (h := hs6 T p) hs hz ((m.fr hJ).md o) (fun s q => by rw [hr s q]; unfold hs6; rw [if_pos q]) (fun s q => by have := hb s; omega) (by omega) ?_))))
  show LysK _ _ _ (layN k _ (fun s => sTg T s _))
  cases hq : layN k (hs6 T p) (fun s => sTg T s (hs6 T p s)) with
  | none =>
    rw [hq] at hK
    exact fun J2 hJ2 _ => gT rfl (hK J2 ((hJ.mo (by simp)).tr (hJ2.mo (by simp))) (m.fr (L := [118, 119, 120]) ((hJ.mo (by simp)).tr hJ2)))
  | some l =>
    rw [hq] at hK
    have hle := layN_le hq
    have hlt := bset_lt (fun s => decide (l s < hs6 T p s)) 6
    have l0 : ∀ s, sNs T ≤ s → l s = 0 := fun s a => by have h1 := hle s; have h2 := z0 s a; omega
    refine fun J2 hJ2 hl hy => gF (fun q => absurd ((iN_inj (by omega) (by omega)).mp q) (by omega)) ?_
    have hO : Of [118, 119, 120] I J2 := (hJ.mo (by simp)).tr hJ2
    have m2 := m.fr hO
    refine v12_comesTrue hs (comes_l (h := hs6 T p) (l := l) hs hz m2.ns n6 (by omega) hl hy (fun s q => by have := hb s; omega) (fun J3 hJ3 a b => ?_) (sNs T) 0 J2 (by omega) (Of.rf _ _) (fun i hi => absurd hi (by omega)) (fun i hi => rfl))
    have hO3 : Of [105, 118, 119, 120] I J3 := (hO.mo (by simp)).tr (hJ3.mo (by simp))
    refine hK J3 hO3 (m2.uRow (fun k a b e => hJ3 k (by simp; exact e)) (fun s hs6 => ?_) (fun i hi => b i (Or.inl hi)))
    by_cases q : s < sNs T
    · exact a s q
    · rw [b _ (Or.inr (by omega)), m2.has, show T.1 4 (6 * p + s) = 0 from o.2.2.1.2 p s (by omega) hs6 (by omega), l0 s (by omega)]
end PP
