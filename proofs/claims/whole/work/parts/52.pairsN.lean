/-! long numbers; the greatest common divisor on both sides -/
section PN
variable {g : Gt} {d : Nat} {z : Zs} {I J : Is}
def loN (n : Nat) : Int64 := Int64.ofNat n
theorem loN_toInt {a : Nat} (h : a < 9223372036854775808) : (loN a).toInt = a := Int64.toInt_ofNat_of_lt (by omega)
theorem loN_add (a b : Nat) : loN a + loN b = loN (a + b) := (Int64.ofNat_add a b).symm
theorem loN_mul (a b : Nat) : loN a * loN b = loN (a * b) := (Int64.ofNat_mul a b).symm
theorem loN_div {a b : Nat} (ha : a < 9223372036854775808) (hb : b < 9223372036854775808) : loN a / loN b = loN (a / b) := (Int64.ofNat_div (by omega) (by omega)).symm
theorem loN_inj {a b : Nat} (ha : a < 9223372036854775808) (hb : b < 9223372036854775808) : loN a = loN b ↔ a = b := by
  refine ⟨fun h => ?_, fun h => by rw [h]⟩
  have := congrArg Int64.toInt h
  rw [loN_toInt ha, loN_toInt hb] at this
  omega
theorem loN_rem {a b : Nat} (ha : a < 9223372036854775808) (hb : b < 9223372036854775808) : lR (loN a) (loN b) = loN (a % b) := by
  unfold lR
  rw [loN_div ha hb, loN_mul]
  have h : a % b + a / b * b = a := by rw [Nat.mul_comm]; exact Nat.mod_add_div a b
  have h2 := loN_add (a % b) (a / b * b)
  rw [h] at h2
  rw [← h2, Int64.add_sub_cancel]
theorem iN_rem {a b : Nat} (ha : a < 2147483648) (hb : b < 2147483648) : iR (iN a) (iN b) = iN (a % b) := by
  unfold iR
  rw [iN_div ha hb, iN_mul]
  have h : a % b + a / b * b = a := by rw [Nat.mul_comm]; exact Nat.mod_add_div a b
  have h2 := iN_add (a % b) (a / b * b)
  rw [h] at h2
  rw [← h2, Int32.add_sub_cancel]
theorem lcm0 {n : Nat} (h : n < 9223372036854775808) : lg_cmp (loN n) (0 : Int64) = iN 0 ↔ n = 0 := by
  have e : (0 : Int64) = loN 0 := rfl
  rw [e]
  constructor
  · intro q
    unfold lg_cmp at q
    split at q
    · exact absurd q (by decide)
    · split at q
      · exact (loN_inj h (by omega)).mp ‹_›
      · exact absurd q (by decide)
  · rintro rfl
    decide
theorem iN_long {n : Nat} (h : n < 2147483648) : (iN n).toInt64 = loN n := by
  apply Int64.toInt_inj.mp
  rw [Int32.toInt_toInt64, iN_toInt h, loN_toInt (by omega)]
theorem loN_int {n : Nat} (h : n < 2147483648) : (loN n).toInt32 = iN n := by
  rw [← iN_long h, Int32.toInt32_toInt64]
/-- the greatest number up to k that divides both -/
def cdv (a b : Nat) : Nat → Nat
  | 0 => 1
  | k + 1 => if k = 0 then 1 else if a % (k + 1) = 0 ∧ b % (k + 1) = 0 then k + 1 else cdv a b k
theorem cdv_gcd {a b : Nat} (hb : 0 < b) : ∀ k, (∀ j, k < j → ¬ (j ∣ a ∧ j ∣ b)) → cdv a b k = Nat.gcd a b
  | 0, h => absurd ⟨Nat.one_dvd a, Nat.one_dvd b⟩ (h 1 (by omega))
  | k + 1, h => by
    have g1 : 0 < Nat.gcd a b := Nat.gcd_pos_of_pos_right a hb
    have g2 : Nat.gcd a b ≤ k + 1 := by
      rcases Nat.lt_or_ge (k + 1) (Nat.gcd a b) with q | q
      · exact absurd ⟨Nat.gcd_dvd_left a b, Nat.gcd_dvd_right a b⟩ (h _ q)
      · exact q
    unfold cdv
    split
    · omega
    · split
      · rename_i q
        have := Nat.dvd_gcd (Nat.dvd_of_mod_eq_zero q.1) (Nat.dvd_of_mod_eq_zero q.2)
        have := Nat.le_of_dvd g1 this
        omega
      · rename_i q
        refine cdv_gcd hb k fun j hj => ?_
        rcases Nat.lt_or_ge (k + 1) j with r | r
        · exact h j r
        · have : j = k + 1 := by omega
          subst this
          exact fun w => q ⟨Nat.mod_eq_zero_of_dvd w.1, Nat.mod_eq_zero_of_dvd w.2⟩
theorem cdv_b {a b : Nat} (hb : 0 < b) : cdv a b b = Nat.gcd a b := cdv_gcd hb b fun j hj w => by
  have := Nat.le_of_dvd hb w.2; omega
theorem cdv_pos (a b : Nat) : ∀ k, 0 < cdv a b k
  | 0 => Nat.one_pos
  | k + 1 => by
    unfold cdv
    split
    · decide
    · split
      · omega
      · exact cdv_pos a b k
theorem c_cdv (hs : GS g) {a b : Nat} (ha : a < 2147483648) (hb : b < 2147483648) {K : Int32 → Is → Prop} : ∀ {k : Nat}, k < 2147483648 → K (iN (cdv a b k)) I → WPc g m11_commonDivisor d 0 0 2 [(0, .int (iN a)), (1, .int (iN b)), (2, .int (iN k))] [] z I (Qi z K)
  | 0, _, h => v11_commonDivisor_2 hs ⟨fun _ => h, fun q => absurd ((iN_le (by omega) (by omega)).mpr (by omega)) q⟩
  | k + 1, hk, h => by
    refine v11_commonDivisor_2 hs ⟨fun q => ?_, fun q => ?_⟩
    · have q := (iN_le hk (by omega)).mp q
      have : k = 0 := by omega
      subst this
      exact h
    · have q : ¬ k + 1 ≤ 1 := fun w => q ((iN_le hk (by omega)).mpr w)
      have n0 : ¬ iN (k + 1) = 0 := fun w => by
        have := (iN_inj (b := 0) hk (by omega)).mp w
        omega
      have st : iN (k + 1) + iM 1 = iN k := by
        have : iN k + iN 1 = iN (k + 1) := iN_add k 1
        rw [← this, Int32.add_assoc, show iN 1 + iM 1 = 0 from rfl, Int32.add_zero]
      unfold cdv at h
      rw [if_neg (by omega)] at h
      refine ⟨n0, fun e => ⟨n0, fun e2 => ?_, fun e2 => ?_⟩, fun e => ?_⟩
      · rw [iN_rem ha hk, iN_inj (by have := Nat.mod_le a (k + 1); omega) (by omega)] at e
        rw [iN_rem hb hk, iN_inj (by have := Nat.mod_le b (k + 1); omega) (by omega)] at e2
        rw [if_pos ⟨e, e2⟩] at h
        exact h
      · rw [iN_rem hb hk, iN_inj (by have := Nat.mod_le b (k + 1); omega) (by omega)] at e2
        rw [if_neg (fun w => e2 w.2)] at h
        rw [st]
        exact c_cdv hs ha hb (by omega) h
      · rw [iN_rem ha hk, iN_inj (by have := Nat.mod_le a (k + 1); omega) (by omega)] at e
        rw [if_neg (fun w => e w.1)] at h
        rw [st]
        exact c_cdv hs ha hb (by omega) h
theorem c_common (hs : GS g) {a b : Nat} (ha : a < 2147483648) (hb : b < 2147483648) (b0 : 0 < b) {K : Int32 → Is → Prop} (h : K (iN (Nat.gcd a b)) I) : Wi g m11_commonDivisor d [.int (iN a), .int (iN b)] z I K := v11_commonDivisor hs (c_cdv hs ha hb hb (by rw [cdv_b b0]; exact h))
theorem gcd_pos {a b : Nat} (b0 : 0 < b) : 0 < Nat.gcd a b := Nat.gcd_pos_of_pos_right a b0
/-- Euclid's way of the reference -/
theorem c_euclid (hs : GS g) {p : Nat} (hp : p ≤ 1) {a b : Nat} (ha : a < 2147483648) (hb : b < 2147483648) (b0 : 0 < b) {K : Int64 → Is → Prop} : ∀ n x y, y < n → x < 2147483648 → y < 2147483648 → Nat.gcd x y = Nat.gcd a b → K (loN ((if p = 0 then a else b) / Nat.gcd a b)) I → WPc g m12_lowest d 0 0 16 [(0, .long (loN a)), (2, .long (loN b)), (4, .int (iN p)), (5, .long (loN x)), (7, .long (loN y))] [] z I (Ql z K)
  | 0, _, _, h, _, _, _, _ => by omega
  | n + 1, x, y, h, hx, hy, e, k => by
    refine v12_lowest_16 hs ⟨fun q => ?_, fun q => ?_⟩
    · have q := (lcm0 (by omega)).mp q
      subst q
      rw [Nat.gcd_zero_right] at e
      have x0 : 0 < x := by rw [e]; exact gcd_pos b0
      have n0 : ¬ loN x = 0 := fun w => by
        have := (loN_inj (b := 0) (by omega) (by omega)).mp w
        omega
      refine ⟨fun c => ⟨n0, ?_⟩, fun c => ⟨n0, ?_⟩⟩
      · have c := (iN_inj (by omega) (by omega)).mp c
        rw [loN_div (by omega) (by omega), e]
        rw [if_pos c] at k; exact k
      · have c : ¬ p = 0 := fun w => c (by rw [w])
        rw [loN_div (by omega) (by omega), e]
        rw [if_neg c] at k; exact k
    · have q : ¬ y = 0 := fun w => q ((lcm0 (by omega)).mpr w)
      have n0 : ¬ loN y = 0 := fun w => by
        have := (loN_inj (b := 0) (by omega) (by omega)).mp w
        omega
      refine ⟨n0, ?_⟩
      rw [loN_rem (by omega) (by omega)]
      have l := Nat.mod_lt x (Nat.pos_of_ne_zero q)
      refine c_euclid hs hp ha hb b0 n y (x % y) (by omega) hy (by omega) ?_ k
      rw [← e, Nat.gcd_comm x y, Nat.gcd_rec y x, Nat.gcd_comm]
theorem c_lowest (hs : GS g) {p : Nat} (hp : p ≤ 1) {a b : Nat} (ha : a < 2147483648) (hb : b < 2147483648) (b0 : 0 < b) {K : Int64 → Is → Prop} (k : K (loN ((if p = 0 then a else b) / Nat.gcd a b)) I) : Wl g m12_lowest d [.long (loN a), .long (loN b), .int (iN p)] z I K := by
  refine v12_lowest hs ⟨fun q => ?_, fun q => ?_⟩
  · have q := (lcm0 (by omega)).mp q
    subst q
    rw [iN_long (by omega)]
    rw [Nat.gcd_zero_left] at k
    have : (if p = 0 then 0 else b) / b = p := by
      split
      · rename_i c; rw [c]; exact Nat.zero_div b
      · rw [Nat.div_self b0]; omega
    rw [this] at k; exact k
  · exact c_euclid hs hp ha hb b0 (b + 1) a b (by omega) ha hb rfl k
end PN
