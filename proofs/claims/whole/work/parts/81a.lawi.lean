/-! the law from its first row -/
theorem vL0 {g : Gt} (hs : GS g) {d : Nat} {z : Zs} {I : Is} {K : Int32 → Zs → Is → Prop}  (h : WPv g m11_init d 92 1261 [.ref (zN z)] (zNew z 11 0) (nI0 I (zN z)) (fun z1 J2 => WPv g m12_init d 22 2224 [.ref (zN z1)] (zNew z1 12 0) (nI0 J2 (zN z1)) (fun z3 J4 => WPc g mL (d + 1) 3884 196460 18 [(0, .ref 0), (1, .ref (zN z)), (2, .ref (zN z1)), (3, .int (iN 0))] [] z3 J4 (Zi K)))) : WPc g mL (d + 1) 4000 200000 0 [(0, .ref 0)] [] z I (Zi K) := wmL hs 3 (WPv_m h (fun z1 J2 h => show WPc g mL (d + 1) 3907 198724 7 [(0, .ref 0)] [.ref (zN z)] z1 J2 (Zi K) from wmL hs 4 (WPv_m h (fun z3 J4 h => show WPc g mL (d + 1) 3884 196460 15 [(1, .ref (zN z)), (0, .ref 0)] [.ref (zN z1)] z3 J4 (Zi K) from wmL hs 3 (wcut [0, 1, 2, 3] rfl h)))))
section LI
variable {g : Gt} {d : Nat} {z : Zs} {I : Is}
theorem law_i {Ln : Nat} {K : Int32 → Zs → Is → Prop} (hs : GS g) (hl : gL g 0 = Ln) (h35 : Ln ≤ 3584) (hK : ∀ z I, K (iN 1) z I) (h8 : zN z = 8) (hp : ∀ k i, 8 ≤ k → zP z k i = none) : WPc g mL (d + 80 + 1) 4000 200000 0 [(0, .ref 0)] [] z I (Zi K) := by
  refine vL0 hs ?_
  have hz : ZQ 1 0 (zNew z 11 0) := by
    refine ⟨by rw [zN_n]; omega, fun k t hk q => ?_, fun k t hk q => ?_, fun k i hk => ?_⟩
    · by_cases w : k = 8
      · rw [w] at q ⊢; rw [← h8, zT_s]; cases q; rfl
      · have : ∀ k, k < 8 → stg k = none := by decide
        rw [this k (by omega)] at q; cases q
    · have : ∀ k, k < 9 → sln k = none := by decide
      rw [this k (by omega)] at q; cases q
    · show (if k = zN z then none else zP z k i) = none
      split
      · rfl
      · exact hp k i hk
  have hI : IQ 1 (nI0 I 8) := fun k a b => by
    obtain rfl : k = 8 := by omega
    funext i
    show (if 8 = 8 then 0 else _) = _
    rw [if_pos rfl]; rfl
  rw [h8]
  refine c_class hs hz hI (fun z1 J hc => ?_)
  have e : zN z1 = 101 := hc.1.1
  rw [e]
  refine c_model (z0 := z1) (J0 := J) hs hc ?_ ?_ (fun z3 J4 S sh ok ci mi => ?_)
  · refine ⟨by rw [zN_n]; omega, fun k hk => ⟨zT_o (by omega), zL_o (by omega), funext (fun i => zP_o (by omega) i)⟩, fun k t a b q => ?_, fun k t a b q => ?_, fun j hj => by omega⟩
    · obtain rfl : k = 101 := by omega
      rw [← e, zT_s]; cases q; rfl
    · obtain rfl : k = 101 := by omega
      cases q
  · refine ⟨fun k hk => nI0_o _ (by omega), fun k a b => ?_⟩
    obtain rfl : k = 101 := by omega
    exact cM_0 (by omega) (by omega) (by omega)
  · exact (law_l hs hl h35 hK 512 0 z3 J4 S (by omega) (by omega) sh ok ci mi).room (by omega) (by omega)
end LI
