/-! drawn -/
section PO
variable {g : Gt} {d : Nat} {z : Zs} {I J : Is} {S : AS}
def lotX (x : Nat) : Nat := x * 48271 % 2147483647
theorem lotX_lt (x : Nat) : lotX x < 2147483647 := Nat.mod_lt _ (by omega)
theorem lotX_e {x : Nat} (h : x < 2147483648) : lR (loN x * (48271 : Int64)) (2147483647 : Int64) = loN (lotX x) := by
  show lR (loN x * loN 48271) (loN 2147483647) = _
  rw [loN_mul, loN_rem (by omega) (by omega)]; rfl
/-- one purse's move: what it holds then, and whether it could pay -/
def buyH (S : AS) (H : Nat → Nat → Nat) (p k : Nat) : (Nat → Nat → Nat) × Nat := match layN k (H p) (fun s => sTg S s (H p s)) with
  | none => (H, 0)
  | some l => (fun q => if q = p then l else H q, 1)
def drwN (S : AS) : Nat → Nat → (Nat → Nat → Nat) → Nat
  | 0, _, _ => 0
  | n + 1, x, H => (buyH S H (lotX x % sNp S) (1 + lotX (lotX x) % 6)).2 + drwN S n (lotX (lotX x)) (buyH S H (lotX x % sNp S) (1 + lotX (lotX x) % 6)).1
theorem buyH_le (S : AS) (H : Nat → Nat → Nat) (p k q s : Nat) : (buyH S H p k).1 q s ≤ H q s := by
  unfold buyH
  split
  · exact Nat.le_refl _
  · rename_i l e
    show (if q = p then l else H q) s ≤ _
    split
    · rename_i c; subst c; exact layN_le e s
    · exact Nat.le_refl _
theorem buyH_w (S : AS) (H : Nat → Nat → Nat) (p k : Nat) : (buyH S H p k).2 ≤ 1 := by
  unfold buyH; split
  · exact Nat.zero_le _
  · exact Nat.le_refl _
theorem drwN_le (S : AS) : ∀ n x H, drwN S n x H ≤ n
  | 0, _, _ => Nat.le_refl _
  | n + 1, x, H => by
    unfold drwN
    have h1 := buyH_w S H (lotX x % sNp S) (1 + lotX (lotX x) % 6)
    have h2 := drwN_le S n (lotX (lotX x)) (buyH S H (lotX x % sNp S) (1 + lotX (lotX x) % 6)).1
    omega
theorem scr_t {p : Nat} (hp : p < 5) : Scr z (53 + 8 * p + 1) ∧ Scr z (53 + 8 * p + 2) ∧ Scr z (53 + 8 * p + 3) := by
  obtain rfl | rfl | rfl | rfl | rfl : p = 0 ∨ p = 1 ∨ p = 2 ∨ p = 3 ∨ p = 4 := by omega
  all_goals exact ⟨scr_l (by decide), scr_l (by decide), scr_l (by decide)⟩
theorem drw_c (hs : GS g) (hz : Sh z) (o : OKS S) (hp : 0 < sNp S) {n : Nat} (hn : n ≤ 40) {K : Int32 → Is → Prop} : ∀ (r i x cnt : Nat) (H : Nat → Nat → Nat) (J : Is), i + r = n → cnt ≤ i → x < 2147483648 → CI z J S → (∀ p, p < sNp S → Rw J (53 + 8 * p + 1) (H p)) → (∀ p s, H p s ≤ 1000) → (∀ J2, FrC z J J2 → K (iN (cnt + drwN S r x H)) J2) → WPc g m11_drawnBy (d + 4) 0 0 52 [(0, .ref 8), (2, .int (iN n)), (3, .long (loN x)), (5, .int (iN cnt)), (6, .int (iN i))] [] z J (Qi z K)
  | 0, i, x, cnt, H, J, e, hc, hx, c, hr, hb, hK => v11_drawnBy_52 hs hz ⟨fun _ => hK J (FrC.rf _ _), fun q => absurd ((iN_le (by omega) (by omega)).mpr (by omega)) q⟩
  | r + 1, i, x, cnt, H, J, e, hc, hx, c, hr, hb, hK => by
    have p5 := o.1.2.1
    have hx1 := lotX_lt x
    have hx2 := lotX_lt (lotX x)
    refine v11_drawnBy_52 hs hz ⟨fun q => absurd ((iN_le (by omega) (by omega)).mp q) (by omega), fun _ => v11_lotBehind hs ?_⟩
    rw [lotX_e hx, c.np, iN_long (by omega)]
    refine ⟨fun w => absurd ((loN_inj (b := 0) (by omega) (by omega)).mp w) (by omega), v11_lotBehind hs ?_⟩
    have hm := Nat.mod_lt (lotX x) hp
    have hm6 := Nat.mod_lt (lotX (lotX x)) (show 0 < 6 by omega)
    rw [lotX_e (by omega), loN_rem (by omega) (by omega), loN_int (by omega), show (6 : Int64) = loN 6 from rfl, loN_rem (by omega) (by omega), loN_int (by omega), iN_add]
    refine gT ((inR_nat (by omega) (by omega)).mpr ⟨_, rfl, by omega, by omega⟩) ⟨_, by omega, rfl, ?_⟩
    have s3 := scr_t (z := z) (p := lotX x % sNp S) (by omega)
    refine c_lay hs hz (hz.tpurse (by omega)) c.so (hr _ hm) (fun s _ => hb _ s) (by omega) ?_
    show LayK _ _ _ _ (layN _ _ (fun s => sTg S s _))
    unfold drwN buyH at hK
    split at hK
    · rename_i q
      rw [q]
      refine fun J2 hJ2 => gT rfl ?_
      have f2 : FrC z J J2 := FrC.of hJ2 (fun k hk => by
        simp at hk
        rcases hk with rfl | rfl
        · exact s3.2.1
        · exact s3.2.2)
      rw [iN_add i 1]
      refine drw_c hs hz o hp hn r (i + 1) (lotX (lotX x)) cnt H J2 (by omega) (by omega) (by omega) (c.fr hz f2) (fun p hp2 => (hr p hp2).cg (hJ2 _ (by simp; omega))) hb (fun J3 f3 => ?_)
      have := hK J3 (f2.tr f3)
      rw [Nat.zero_add] at this
      exact this
    · rename_i l q
      rw [q]
      have hpos := lay_pos q (by omega)
      have hlt := bset_lt (fun s => decide (l s < H (lotX x % sNp S) s)) 6
      refine fun J2 hJ2 hl => gF (fun w => hpos ((iN_inj (by omega) (by omega)).mp w)) ?_
      have f2 : FrC z J J2 := FrC.of hJ2 (fun k hk => by
        simp at hk
        rcases hk with rfl | rfl | rfl
        · exact s3.1
        · exact s3.2.1
        · exact s3.2.2)
      rw [iN_add i 1, iN_add cnt 1]
      refine drw_c hs hz o hp hn r (i + 1) (lotX (lotX x)) (cnt + 1) (fun q => if q = lotX x % sNp S then l else H q) J2 (by omega) (by omega) (by omega) (c.fr hz f2) (fun p hp2 => ?_) (fun p s => ?_) (fun J3 f3 => ?_)
      · show Rw J2 _ (if p = lotX x % sNp S then l else H p)
        split
        · rename_i w; rw [w]; exact hl
        · exact (hr p hp2).cg (hJ2 _ (by simp; omega))
      · show (if p = lotX x % sNp S then l else H p) s ≤ 1000
        split
        · have := layN_le q s; have := hb (lotX x % sNp S) s; omega
        · exact hb p s
      · have := hK J3 (f2.tr f3)
        rw [← Nat.add_assoc] at this
        exact this
/-- the six sorts of a purse -/
def hs6 (S : AS) (p s : Nat) : Nat := if s < 6 then sHas S p s else 0
/-- what is drawn -/
def drwA (S : AS) (seed n : Nat) : Nat := if sNp S = 0 then 0 else drwN S n (seed + 1) (hs6 S)
theorem drwA_le (S : AS) (a n : Nat) : drwA S a n ≤ n := by
  unfold drwA; split
  · omega
  · exact drwN_le _ _ _ _
theorem drb_c (hs : GS g) (hz : Sh z) (o : OKS S) (hp : 0 < sNp S) {n a : Nat} (hn : n ≤ 40) (ha : a < 1000000) {K : Int32 → Is → Prop} : ∀ (r i : Nat) (J : Is), i + r = sNp S → CI z J S → (∀ p, p < i → Rw J (53 + 8 * p + 1) (hs6 S p)) → (∀ J2, FrC z J J2 → K (iN (drwA S a n)) J2) → WPc g m11_drawnBy (d + 4) 0 0 12 [(0, .ref 8), (1, .int (iN a)), (2, .int (iN n)), (3, .int (iN i))] [] z J (Qi z K)
  | 0, i, J, e, c, hr, hK => by
    have p5 := o.1.2.1
    refine v11_drawnBy_12 hs hz ⟨fun _ => ?_, fun q => absurd (by rw [c.np]; exact (iN_le (by omega) (by omega)).mpr (by omega)) q⟩
    rw [iN_long (by omega), show (1 : Int64) = loN 1 from rfl, loN_add]
    refine drw_c hs hz o hp hn n 0 (a + 1) 0 (hs6 S) J (by omega) (by omega) (by omega) c (fun p q => hr p (by omega)) (fun p s => by
      unfold hs6
      split
      · have := o.b p s (by assumption); omega
      · omega) (fun J2 f => ?_)
    have := hK J2 f
    unfold drwA at this
    rw [if_neg (by omega)] at this
    rw [Nat.zero_add]; exact this
  | r + 1, i, J, e, c, hr, hK => by
    have p5 := o.1.2.1
    refine v11_drawnBy_12 hs hz ⟨fun q => by
      rw [c.np] at q
      have q := (iN_le (by omega) (by omega)).mp q
      omega, fun _ => ⟨i, by omega, rfl, i, by omega, rfl, ?_⟩⟩
    refine c_become hs (hz.tpurse (by omega)) (hz.purse (by omega)) (h := hs6 S i) (fun s q => by rw [c.pu (by omega) s q]; unfold hs6; rw [if_pos q]) (fun J2 hJ2 hr2 => ?_)
    have s3 := scr_t (z := z) (p := i) (by omega)
    have f2 : FrC z J J2 := FrC.of hJ2 (fun k hk => by
      simp at hk
      subst hk
      exact s3.1)
    rw [iN_add i 1]
    refine drb_c hs hz o hp hn ha r (i + 1) J2 (by omega) (c.fr hz f2) (fun p q => ?_) (fun J3 f3 => hK J3 (f2.tr f3))
    by_cases w : p = i
    · rw [w]; exact hr2
    · exact (hr p (by omega)).cg (hJ2 _ (by simp; omega))
theorem c_drawnBy (hs : GS g) (hz : Sh z) (o : OKS S) (c : CI z I S) {n a : Nat} (hn : n ≤ 40) (ha : a < 1000000) {K : Int32 → Is → Prop} (hK : ∀ J2, FrC z I J2 → K (iN (drwA S a n)) J2) : Wi g m11_drawnBy (d + 4) [.ref 8, .int (iN a), .int (iN n)] z I K := by
  have p5 := o.1.2.1
  refine v11_drawnBy hs hz ⟨fun q => ?_, fun q => ?_⟩
  · rw [c.np] at q
    have q := (iN_le (by omega) (by omega)).mp q
    exact drb_c hs hz o (by omega) hn ha (sNp S) 0 I (by omega) c (fun p w => absurd w (by omega)) hK
  · rw [c.np] at q
    have q : ¬ 1 ≤ sNp S := fun w => q ((iN_le (by omega) (by omega)).mpr w)
    have := hK I (FrC.rf _ _)
    unfold drwA at this
    rw [if_pos (by omega)] at this
    exact this
end PO
