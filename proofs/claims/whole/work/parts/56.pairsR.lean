/-! mean -/
section PR
variable {g : Gt} {d : Nat} {z : Zs} {I J : Is} {S : AS}
def PairL (g : Gt) (S : AS) (mc mm : Mth) (args : List Value) : Prop := ∃ (ans : Int64) (S' : AS), OKS S' ∧
  (∀ (d : Nat) (z : Zs) (I : Is) (K : Int64 → Is → Prop), Sh z → CI z I S → KC z I S' (K ans) → Wl g mc (d + 40) (.ref 8 :: args) z I K) ∧
  (∀ (d : Nat) (z : Zs) (I : Is) (K : Int64 → Is → Prop), Sh z → MI I S → KM I S' (K ans) → Wl g mm (d + 40) (.ref 101 :: args) z I K)
def sumD (S : AS) (a n : Nat) : Nat → Nat
  | 0 => 0
  | k + 1 => sumD S a n k + drwA S (a + k) n
theorem sumD_le (S : AS) (a n : Nat) : ∀ k, sumD S a n k ≤ n * k
  | 0 => Nat.le_refl _
  | k + 1 => by
    unfold sumD
    have := sumD_le S a n k
    have := drwA_le S (a + k) n
    rw [Nat.mul_succ]; omega
theorem sumD_lt {a n k : Nat} (hn : n ≤ 40) (hk : k ≤ 20) : sumD S a n k ≤ 800 := Nat.le_trans (sumD_le S a n k) (Nat.mul_le_mul hn hk)
def meaA (S : AS) (a b n p : Nat) : Nat := (if p = 0 then sumD S a n b else b) / Nat.gcd (sumD S a n b) b
theorem mean_c (hs : GS g) (hz : Sh z) (o : OKS S) {a b n p : Nat} (ha : a ≤ 99999) (hb : b ≤ 20) (b0 : 0 < b) (hn : n ≤ 40) (hp : p ≤ 1) {K : Int64 → Is → Prop} : ∀ (r i : Nat) (J : Is), i + r = b → CI z J S → (∀ J2, FrC z J J2 → K (loN (meaA S a b n p)) J2) → WPc g m11_mean (d + 5) 0 0 50 [(0, .ref 8), (1, .int (iN a)), (2, .int (iN b)), (3, .int (iN n)), (4, .int (iN p)), (5, .int (iN (sumD S a n i))), (6, .int (iN i))] [] z J (Ql z K)
  | 0, i, J, e, c, hK => by
    have eb : i = b := by omega
    subst eb
    have hl := sumD_lt (S := S) (a := a) hn hb
    have gp := gcd_pos (a := sumD S a n i) b0
    have gl := Nat.gcd_le_right (sumD S a n i) b0
    have n0 : ¬ iN (Nat.gcd (sumD S a n i) i) = 0 := fun w => by
      have := (iN_inj (b := 0) (by omega) (by omega)).mp w
      omega
    refine v11_mean_50 hs hz ⟨fun _ => c_common hs (by omega) (by omega) b0 ⟨fun q => ⟨n0, ?_⟩, fun q => ⟨n0, ?_⟩⟩, fun q => absurd ((iN_le (by omega) (by omega)).mpr (by omega)) q⟩
    · have q := (iN_inj (by omega) (by omega)).mp q
      have := hK J (FrC.rf _ _)
      unfold meaA at this
      rw [if_pos q] at this
      rw [iN_div (by omega) (by omega), iN_long (Nat.lt_of_le_of_lt (Nat.div_le_self _ _) (by omega))]
      exact this
    · have q : ¬ p = 0 := fun w => q (by rw [w])
      have := hK J (FrC.rf _ _)
      unfold meaA at this
      rw [if_neg q] at this
      rw [iN_div (by omega) (by omega), iN_long (Nat.lt_of_le_of_lt (Nat.div_le_self _ _) (by omega))]
      exact this
  | r + 1, i, J, e, c, hK => by
    refine v11_mean_50 hs hz ⟨fun q => absurd ((iN_le (by omega) (by omega)).mp q) (by omega), fun _ => ?_⟩
    rw [iN_add a i]
    refine c_drawnBy hs hz o c hn (by omega) (fun J2 f2 => ?_)
    rw [iN_add, iN_add i 1]
    exact mean_c hs hz o ha hb b0 hn hp r (i + 1) J2 (by omega) (c.fr hz f2) (fun J3 f3 => hK J3 (f2.tr f3))
theorem mean_m (hs : GS g) (hz : Sh z) (o : OKS S) {a b n p : Nat} (ha : a ≤ 99999) (hb : b ≤ 20) (b0 : 0 < b) (hn : n ≤ 40) (hp : p ≤ 1) {K : Int64 → Is → Prop} : ∀ (r i : Nat) (J : Is), i + r = b → MI J S → (∀ J2, Of [105, 118, 119, 120, 123] J J2 → MI J2 S → K (loN (meaA S a b n p)) J2) → WPc g m12_mean (d + 22) 0 0 38 [(0, .ref 101), (1, .int (iN a)), (2, .int (iN b)), (3, .int (iN n)), (4, .int (iN p)), (5, .long (loN (sumD S a n i))), (7, .int (iN i))] [] z J (Ql z K)
  | 0, i, J, e, m, hK => by
    have eb : i = b := by omega
    subst eb
    have hl := sumD_lt (S := S) (a := a) hn hb
    refine v12_mean_38 hs hz ⟨fun _ => ?_, fun q => absurd ((iN_le (by omega) (by omega)).mpr (by omega)) q⟩
    rw [iN_long (by omega)]
    exact c_lowest hs hp (by omega) (by omega) b0 (hK J (Of.rf _ _) m)
  | r + 1, i, J, e, m, hK => by
    have dl := drwA_le S (a + i) n
    refine v12_mean_38 hs hz ⟨fun q => absurd ((iN_le (by omega) (by omega)).mp q) (by omega), fun _ => ?_⟩
    rw [iN_add a i]
    refine c_couldBy hs hz o m hn (by omega) (fun J2 f2 m2 => ?_)
    rw [iN_long (by omega), loN_add, iN_add i 1]
    exact mean_m hs hz o ha hb b0 hn hp r (i + 1) J2 (by omega) m2 (fun J3 f3 m3 => hK J3 (f2.tr f3) m3)
theorem P_mean (hs : GS g) (o : OKS S) (v1 v2 v3 v4 : Int32) : PairL g S m11_mean m12_mean [.int v1, .int v2, .int v3, .int v4] := by
  by_cases h1 : inR v1 (iN 0) (iN 99999)
  · by_cases h2 : inR v2 (iN 1) (iN 20)
    · by_cases h3 : inR v3 (iN 0) (iN 40)
      · by_cases h4 : inR v4 (iN 0) (iN 1)
        · obtain ⟨a, rfl, _, ha⟩ := (inR_nat (by omega) (by omega)).mp h1
          obtain ⟨b, rfl, b0, hb⟩ := (inR_nat (by omega) (by omega)).mp h2
          obtain ⟨n, rfl, _, hn⟩ := (inR_nat (by omega) (by omega)).mp h3
          obtain ⟨p, rfl, _, hp⟩ := (inR_nat (by omega) (by omega)).mp h4
          exact ⟨loN (meaA S a b n p), S, o, fun d z I K hz c hK => v11_mean (d := d + 39) hs (gT h1 (gT h2 (gT h3 (gT h4 (mean_c (d := d + 35) hs hz o ha hb b0 hn hp b 0 I (by omega) c (fun J2 f => hK.f hz c f)))))), fun d z I K hz m hK => v12_mean (d := d + 38) hs (gT ⟨h1, h3⟩ (gT h2 (gT h4 (mean_m (d := d + 18) hs hz o ha hb b0 hn hp b 0 I (by omega) m (fun J hJ m2 => hK J m2 (KeepC.of hJ))))))⟩
        · exact ⟨_, S, o, fun d z I K hz c hK => v11_mean (d := d + 39) hs (gT h1 (gT h2 (gT h3 (gF h4 (hK.i c))))), fun d z I K hz m hK => v12_mean (d := d + 38) hs (gT ⟨h1, h3⟩ (gT h2 (gF h4 (hK.i m))))⟩
      · exact ⟨_, S, o, fun d z I K hz c hK => v11_mean (d := d + 39) hs (gT h1 (gT h2 (gF h3 (hK.i c)))), fun d z I K hz m hK => v12_mean (d := d + 38) hs (gF (fun w => h3 w.2) (hK.i m))⟩
    · by_cases h3 : inR v3 (iN 0) (iN 40)
      · exact ⟨_, S, o, fun d z I K hz c hK => v11_mean (d := d + 39) hs (gT h1 (gF h2 (hK.i c))), fun d z I K hz m hK => v12_mean (d := d + 38) hs (gT ⟨h1, h3⟩ (gF h2 (hK.i m)))⟩
      · exact ⟨_, S, o, fun d z I K hz c hK => v11_mean (d := d + 39) hs (gT h1 (gF h2 (hK.i c))), fun d z I K hz m hK => v12_mean (d := d + 38) hs (gF (fun w => h3 w.2) (hK.i m))⟩
  · exact ⟨_, S, o, fun d z I K hz c hK => v11_mean (d := d + 39) hs (gF h1 (hK.i c)), fun d z I K hz m hK => v12_mean (d := d + 38) hs (gF (fun w => h1 w.1) (hK.i m))⟩
end PR
