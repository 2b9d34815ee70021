/-! what a text says: the class' value, the reference's says -/
section SAYS
variable {g : Gt} {d a : Nat} {z : Zs} {I : Is} {nm f : Nat → Nat}
theorem value_88 {part : Nat} {X : Int32} {st : Nat → Int32} {J : Is} {K : Int32 → Is → Prop} (hs : GS g) (ht : TxO z a) (hp : part < 3) (hst : StO J a 1 st) (hX : st 0 = X) (hK : ∀ J2, Of [a, a + 3] J J2 → K (mxI (iN 0) (mnI (iN (if part = 2 then 9 else 99)) X)) J2) : WPc g m10_value (d + 2) 0 0 88 [(0, .ref a), (1, .int (iN part))] [] z J (Qi z K) := by
  refine v10_value_88 hs ht ⟨fun q => c_pop hs ht hst (by omega) (by omega) (fun J2 hJ2 _ => ?_), fun q => c_pop hs ht hst (by omega) (by omega) (fun J2 hJ2 _ => ?_)⟩
  · rw [iN_inj (by omega) (by omega)] at q
    rw [if_pos q] at hK
    rw [show st (1 - 1) = X from hX]; exact hK J2 hJ2
  · rw [iN_inj (by omega) (by omega)] at q
    rw [if_neg q] at hK
    rw [show st (1 - 1) = X from hX]; exact hK J2 hJ2
theorem value_l {part b e : Nat} {X : Int32} {K : Int32 → Is → Prop} (hs : GS g) (hz : Sh z) (ht : TxO z a) (hp : part < 3) (hn : Rw I 48 nm) (he : I (a + 2) part = iN e) (hl : e ≤ zL z (a + 1)) (hl2 : zL z (a + 1) ≤ 1000) (hc : ∀ k, b ≤ k → k < e → I (a + 1) k = cTr (f k)) (hK : ∀ J, Of [a, a + 3] I J → K (mxI (iN 0) (mnI (iN (if part = 2 then 9 else 99)) X)) J) : ∀ (n i h : Nat) (st : Nat → Int32) (J : Is), i + n = e → b ≤ i → Of [a, a + 3] I J → StO J a h st → hrun f n i h 1 → (erun nm f n i h st).2 0 = X → WPc g m10_value (d + 2) 0 0 49 [(0, .ref a), (1, .int (iN part)), (2, .ref 48), (4, .int (iN i))] [] z J (Qi z K) := by
  obtain ⟨r1, r2, r3⟩ := tx_rows hz ht
  intro n
  induction n with
  | zero =>
    intro i h st J e1 hb hJ hst hr hX
    obtain rfl : i = e := by omega
    have hh : h = 1 := hr
    subst hh
    refine v10_value_49 hs ht ⟨inB_n hp (by omega), fun _ => ?_, fun q => ?_⟩
    · exact value_88 hs ht hp hst hX (fun J2 hJ2 => hK J2 (hJ.tr hJ2))
    · rw [iN_toN (by omega), hJ _ r3, he] at q
      exact absurd ((iN_le (by omega) (by omega)).mpr (Nat.le_refl _)) q
  | succ n ih =>
    intro i h st J e1 hb hJ hst hr hX
    obtain ⟨h1, hok1, hr⟩ := hr
    have hest := est_cg (nm := nm) (st := st) (st2 := st) hok1 (fun _ _ => rfl)
    refine v10_value_49 hs ht ⟨inB_n hp (by omega), fun q => ?_, fun q => ⟨fun q2 => ?_, fun q2 => ⟨inB_n (by omega) (by omega), ?_⟩⟩⟩
    · rw [iN_toN (by omega), hJ _ r3, he, iN_le (by omega) (by omega)] at q; omega
    · exact absurd ((iN_le (by omega) (by omega)).mp q2) (by omega)
    · rw [iN_toN (by omega), hJ _ r2, hc i hb (by omega), iN_add]
      refine c_step hs hz ht hst (hn.cg (hJ _ r1)) hok1 (fun J2 hJ2 hst2 => ?_)
      refine ih (i + 1) h1 _ J2 (by omega) (by omega) (hJ.tr hJ2) hst2 hr ?_
      have hX' : (erun nm f n (i + 1) (est nm (f i) h st).1 (est nm (f i) h st).2).2 0 = X := hX
      rw [hest.1] at hX'
      exact hX'
theorem c_value {part b e : Nat} {K : Int32 → Is → Prop} (hs : GS g) (hz : Sh z) (ht : TxO z a) (hp : part < 3) (hn : Rw I 48 nm) (he : I (a + 2) part = iN e) (hb0 : part = 0 → b = 0) (hb : 0 < part → I (a + 2) (part - 1) = iN b) (hbe : b ≤ e) (hl : e ≤ zL z (a + 1)) (hl2 : zL z (a + 1) ≤ 1000) (hc : ∀ k, b ≤ k → k < e → I (a + 1) k = cTr (f k)) (hr : hrun f (e - b) b 0 1) (hK : ∀ J, Of [a, a + 3] I J → K (mxI (iN 0) (mnI (iN (if part = 2 then 9 else 99)) (sayI f b e nm))) J) : Wi g m10_value (d + 2) [.ref a, .int (iN part), .ref 48] z I K := by
  have hO : Of [a, a + 3] I (up2 I a 3 (iN 0)) := Of.up (by simp) _ _
  have key : WPc g m10_value (d + 2) 0 0 49 [(0, .ref a), (1, .int (iN part)), (2, .ref 48), (4, .int (iN b))] [] z (up2 I a 3 (iN 0)) (Qi z K) :=
    value_l (f := f) (b := b) (X := sayI f b e nm) hs hz ht hp hn he hl hl2 hc hK (e - b) b 0 (I (a + 3)) _ (by omega) (Nat.le_refl _) hO ⟨by rw [up2_ra, up1_s], fun i hi => by rw [up2_ro _ (by omega)]⟩ hr (erun_cg hr (fun i hi => absurd hi (by omega)) 0 (by omega))
  refine v10_value hs ht ⟨fun _ => ⟨fun _ => ⟨fun q => ?_, fun q => ?_⟩, fun q => absurd ?_ q⟩, fun q => absurd ((inR_iN (by omega) (by omega) (by omega)).mpr ⟨by omega, by omega⟩) q⟩
  · rw [iN_inj (by omega) (by omega)] at q
    rw [hb0 q] at key
    exact key
  · rw [iN_inj (by omega) (by omega)] at q
    rw [iN_sub (by omega), iN_toN (by omega), up2_ro _ (by omega), hb (by omega), mxI_N (by omega) (by omega), Nat.max_eq_right (Nat.zero_le _)]
    exact ⟨inB_n (by omega) (by omega), key⟩
  · rw [ht.l2]; exact (iN_le (a := 3) (b := 3) (by omega) (by omega)).mpr (Nat.le_refl _)
-- the reference
theorem c_mtwo {c : Nat} {K : Int32 → Is → Prop} {v w : Int32} (hs : GS g) (hc : c = 11 ∨ c = 12 ∨ (14 ≤ c ∧ c ≤ 18)) (hK : K (twI c v w) I) : Wi g m12_two d [.int (iN c), .int v, .int w] z I K := by
  have N : ∀ n m : Nat, n ≠ m → n < 100 → m < 100 → iN n = iN m → False := fun n m h1 h2 h3 q => h1 ((iN_inj (by omega) (by omega)).mp q)
  have F : ∀ n m : Nat, ∀ {X Y : Prop}, n ≠ m → n < 100 → m < 100 → Y → (iN n = iN m → X) ∧ (¬ iN n = iN m → Y) := fun n m X Y h1 h2 h3 y => ⟨fun q => (N n m h1 h2 h3 q).elim, fun _ => y⟩
  have T : ∀ n : Nat, ∀ {X Y : Prop}, X → (iN n = iN n → X) ∧ (¬ iN n = iN n → Y) := fun n X Y x => ⟨fun _ => x, fun q => absurd rfl q⟩
  refine v12_two hs ?_
  unfold twI at hK
  rcases hc with rfl | rfl | ⟨h1, h2⟩
  · refine T 11 ⟨fun c1 => ⟨fun c2 => ?_, fun c2 => ?_⟩, fun c1 => ?_⟩
    · rw [if_pos rfl, if_pos ⟨c1, c2⟩] at hK; exact hK
    · rw [if_pos rfl, if_neg (fun q => c2 q.2)] at hK; exact hK
    · rw [if_pos rfl, if_neg (fun q => c1 q.1)] at hK; exact hK
  · refine F 12 _ (by omega) (by omega) (by omega) (T 12 ⟨fun c1 => ?_, fun c1 => ⟨fun c2 => ?_, fun c2 => ?_⟩⟩)
    · rw [if_neg (by omega), if_pos rfl, if_pos (Or.inl c1)] at hK; exact hK
    · rw [if_neg (by omega), if_pos rfl, if_pos (Or.inr c2)] at hK; exact hK
    · rw [if_neg (by omega), if_pos rfl, if_neg (fun q => q.elim c1 c2)] at hK; exact hK
  · obtain rfl | rfl | rfl | rfl | rfl : c = 14 ∨ c = 15 ∨ c = 16 ∨ c = 17 ∨ c = 18 := by omega
    · simp only [show (14 = 11) = False by simp, show (14 = 12) = False by simp, if_false, if_true] at hK
      refine F 14 _ (by omega) (by omega) (by omega) (F 14 _ (by omega) (by omega) (by omega) (F 14 _ (by omega) (by omega) (by omega) (T 14 ⟨fun q => ?_, fun q => ?_⟩)))
      · rw [if_pos q] at hK; exact hK
      · rw [if_neg q] at hK; exact hK
    · simp only [show (15 = 11) = False by simp, show (15 = 12) = False by simp, show (15 = 14) = False by simp, if_false, if_true] at hK
      refine F 15 _ (by omega) (by omega) (by omega) (F 15 _ (by omega) (by omega) (by omega) (F 15 _ (by omega) (by omega) (by omega) (F 15 _ (by omega) (by omega) (by omega) (T 15 ⟨fun q => ?_, fun q => ?_⟩))))
      · rw [if_pos q] at hK; exact hK
      · rw [if_neg q] at hK; exact hK
    · exact F 16 _ (by omega) (by omega) (by omega) (F 16 _ (by omega) (by omega) (by omega) (F 16 _ (by omega) (by omega) (by omega) (F 16 _ (by omega) (by omega) (by omega) (F 16 _ (by omega) (by omega) (by omega) (T 16 hK)))))
    · exact F 17 _ (by omega) (by omega) (by omega) (F 17 _ (by omega) (by omega) (by omega) (F 17 _ (by omega) (by omega) (by omega) (F 17 _ (by omega) (by omega) (by omega) (F 17 _ (by omega) (by omega) (by omega) (F 17 _ (by omega) (by omega) (by omega) (T 17 hK))))))
    · exact F 18 _ (by omega) (by omega) (by omega) (F 18 _ (by omega) (by omega) (by omega) (F 18 _ (by omega) (by omega) (by omega) (F 18 _ (by omega) (by omega) (by omega) (F 18 _ (by omega) (by omega) (by omega) (F 18 _ (by omega) (by omega) (by omega) (F 18 _ (by omega) (by omega) (by omega) hK))))))
theorem says_l {t part b e : Nat} {X : Int32} {K : Int32 → Is → Prop} (hs : GS g) (hz : Sh z) (ht : t < 6) (hp : part < 3) (hrl : I 101 12 = iN t) (hn : Rw I 117 nm) (he : I 108 (4 * t + part + 1) = iN e) (he2 : e ≤ 160) (hc : ∀ k, b ≤ k → k < e → I 107 (200 * t + k) = iN (f k)) (hK : ∀ J, Of [116] I J → K X J) : ∀ (n i h : Nat) (st : Nat → Int32) (J : Is), i + n = e → b ≤ i → Of [116] I J → (∀ i, i < 32 → J 116 i = st i) → hrun f n i h 1 → (erun nm f n i h st).2 0 = X → WPc g m12_says (d + 1) 0 0 16 [(0, .ref 101), (1, .int (iN part)), (2, .int (iN h)), (3, .int (iN i))] [] z J (Qi z K) := by
  have ix : ∀ k, k ≤ 160 → (iN 200 * iN t + iN k).toNatClampNeg = 200 * t + k := fun k hk => by rw [iN_mul, iN_add, iN_toN (by omega)]
  have ixb : ∀ k, k < 160 → inB (iN 200 * iN t + iN k) 1200 = true := fun k hk => by rw [iN_mul, iN_add]; exact inB_n (by omega) (by omega)
  have eb : inB (iN 4 * iN t + iN part + iN 1) 24 = true := by rw [iN_mul, iN_add, iN_add]; exact inB_n (by omega) (by omega)
  have ei : (iN 4 * iN t + iN part + iN 1).toNatClampNeg = 4 * t + part + 1 := by rw [iN_mul, iN_add, iN_add, iN_toN (by omega)]
  intro n
  induction n with
  | zero =>
    intro i h st J e1 hb hJ hst hr hX
    obtain rfl : i = e := by omega
    have hh : h = 1 := hr
    subst hh
    refine v12_says_16 hs hz ?_
    rw [hJ 101 (by simp), hJ 108 (by simp), hrl, ei, he]
    refine ⟨eb, fun _ => ?_, fun q => absurd ((iN_le (by omega) (by omega)).mpr (Nat.le_refl _)) q⟩
    rw [hst 0 (by omega), show st 0 = X from hX]
    exact hK J hJ
  | succ n ih =>
    intro i h st J e1 hb hJ hst hr hX
    obtain ⟨h1, hok1, hr⟩ := hr
    have hest := est_cg (nm := nm) (st := st) (st2 := st) hok1 (fun _ _ => rfl)
    have hX' : (erun nm f n (i + 1) h1 (est nm (f i) h st).2).2 0 = X := by rw [← hest.1]; exact hX
    -- one code is done: what is on the stack behind it
    have nxt : ∀ J2, Of [116] I J2 → (∀ j, j < 32 → J2 116 j = (est nm (f i) h st).2 j) → WPc g m12_says (d + 1) 0 0 16 [(0, .ref 101), (1, .int (iN part)), (2, .int (iN h1)), (3, .int (iN (i + 1)))] [] z J2 (Qi z K) := fun J2 a b' => ih (i + 1) h1 _ J2 (by omega) (by omega) a b' hr hX'
    have wr : ∀ (j : Nat) (v : Int32) (J3 : Is), J3 116 = J 116 → (est nm (f i) h st).2 = up1 st j v → ∀ q, q < 32 → up2 J3 116 j v 116 q = (est nm (f i) h st).2 q := fun j v J3 e3 e4 q hq => by
      rw [up2_ra, e3, e4]; unfold up1; split
      · rfl
      · exact hst q hq
    refine v12_says_16 hs hz ?_
    rw [hJ 101 (by simp), hJ 108 (by simp), hJ 107 (by simp), hrl, ei, he, ix i (by omega), hc i hb (by omega)]
    refine ⟨eb, fun q => ?_, fun _ => ⟨ixb i (by omega), ?_⟩⟩
    · rw [iN_le (by omega) (by omega)] at q; omega
    · rw [iN_add]
      rcases hok1 with ⟨hc1, h2, rfl⟩ | ⟨hc1, h2, h3, rfl⟩ | ⟨hc1, h2, h3, rfl⟩
      · rcases hc1 with hc1 | hc1
        · have e := est_num (nm := nm) (h := h) (st := st) hc1.1
          rw [iN_le (by omega) (by omega)]
          refine ⟨fun _ => v12_says_66 hs hz ⟨fun _ => ⟨inB_n (by omega) (by omega), ?_⟩, fun q => absurd ((iN_le (by omega) (by omega)).mpr (by omega)) q⟩, fun q => absurd hc1.1 q⟩
          rw [iN_toN (by omega), iN_sub hc1.1, iN_add, iN_add]
          exact nxt _ (hJ.upt (by simp) _ _) (wr _ _ J rfl (by rw [e]))
        · have e := est_nam (nm := nm) (h := h) (st := st) hc1
          rw [iN_le (by omega) (by omega), iN_le (by omega) (by omega)]
          refine ⟨fun q => absurd q (by omega), fun _ => ⟨fun q => absurd q (by omega), fun _ => ?_⟩⟩
          refine v12_says_66 hs hz ⟨fun q => absurd ((iN_le (by omega) (by omega)).mp q) (by omega), fun _ => ⟨inB_n (by omega) (by omega), inB_n (by omega) (by omega), ?_⟩⟩
          rw [iN_toN (by omega), iN_toN (by omega), hJ 117 (by simp), hn _ (by omega), iN_add, iN_add]
          exact nxt _ (hJ.upt (by simp) _ _) (wr _ _ J rfl (by rw [e]))
      · have hb1 : inB (iN h1 - iN 1) 200 = true := by rw [iN_sub h2]; exact inB_n (by omega) (by omega)
        have ht1 : (iN h1 - iN 1).toNatClampNeg = h1 - 1 := by rw [iN_sub h2, iN_toN (by omega)]
        rw [ht1, hst (h1 - 1) (by omega)]
        rcases hc1 with hc1 | hc1
        · rw [hc1] at nxt wr ⊢
          refine ⟨fun q => absurd ((iN_le (by omega) (by omega)).mp q) (by omega), fun _ => ⟨fun _ => ⟨fun _ => ⟨hb1, fun q => ?_, fun q => ?_⟩, fun q => absurd rfl q⟩, fun q => absurd ((iN_le (by omega) (by omega)).mpr (by omega)) q⟩⟩
          · exact nxt _ (hJ.upt (by simp) _ _) (wr _ _ J rfl (by rw [est_not, if_pos q]))
          · exact nxt _ (hJ.upt (by simp) _ _) (wr _ _ J rfl (by rw [est_not, if_neg q]))
        · rw [hc1] at nxt wr ⊢
          refine ⟨fun q => absurd ((iN_le (by omega) (by omega)).mp q) (by omega), fun _ => ⟨fun _ => ⟨fun q => absurd ((iN_inj (by omega) (by omega)).mp q) (by omega), fun _ => ⟨fun _ => ⟨hb1, ?_⟩, fun q => absurd rfl q⟩⟩, fun q => absurd ((iN_le (by omega) (by omega)).mpr (by omega)) q⟩⟩
          exact nxt _ (hJ.upt (by simp) _ _) (wr _ _ J rfl (by rw [est_neg]))
      · have hcl : f i ≤ 18 := by omega
        have e := est_two (nm := nm) (h := h) (st := st) hc1
        rw [iN_le (by omega) (by omega), iN_le (by omega) (by omega), iN_inj (by omega) (by omega), iN_inj (by omega) (by omega)]
        refine ⟨fun q => absurd q (by omega), fun _ => ⟨fun _ => ⟨fun q => absurd q (by omega), fun _ => ⟨fun q => absurd q (by omega), fun _ => ?_⟩⟩, fun q => absurd q (by omega)⟩⟩
        rw [iN_dec (by omega)]
        refine v12_says_164 hs hz ?_
        rw [iN_sub (by omega), iN_toN (by omega), iN_toN (by omega), show h - 1 - 1 = h - 2 by omega, hst (h - 2) (by omega), hst (h - 1) (by omega)]
        refine ⟨inB_n (by omega) (by omega), inB_n (by omega) (by omega), c_mtwo hs hc1 ?_⟩
        rw [iN_add]
        exact nxt _ (hJ.upt (by simp) _ _) (wr _ _ J rfl (by rw [e]))
theorem c_msays {t part b e : Nat} {K : Int32 → Is → Prop} (hs : GS g) (hz : Sh z) (ht : t < 6) (hp : part < 3) (hrl : I 101 12 = iN t) (hn : Rw I 117 nm) (hb : I 108 (4 * t + part) = iN b) (he : I 108 (4 * t + part + 1) = iN e) (hbe : b ≤ e) (he2 : e ≤ 160) (hc : ∀ k, b ≤ k → k < e → I 107 (200 * t + k) = iN (f k)) (hr : hrun f (e - b) b 0 1) (hK : ∀ J, Of [116] I J → K (sayI f b e nm) J) : Wi g m12_says (d + 1) [.ref 101, .int (iN part)] z I K := by
  refine v12_says hs hz ?_
  have eb : inB (iN 4 * iN t + iN part) 24 = true := by rw [iN_mul, iN_add]; exact inB_n (by omega) (by omega)
  have ei : (iN 4 * iN t + iN part).toNatClampNeg = 4 * t + part := by rw [iN_mul, iN_add, iN_toN (by omega)]
  rw [hrl, ei, hb]
  exact ⟨eb, says_l (f := f) (b := b) (X := sayI f b e nm) hs hz ht hp hrl hn he he2 hc hK (e - b) b 0 (I 116) I (by omega) (Nat.le_refl _) (Of.rf _ _) (fun _ _ => rfl) hr (erun_cg hr (fun i hi => absurd hi (by omega)) 0 (by omega))⟩
/-- the bound of what is said, as a number -/
def capN (hi : Nat) (v : Int32) : Nat := min hi v.toNatClampNeg
theorem clI_N {v : Int32} {hi : Nat} (h : hi < 2147483648) : clI v (iN 0) (iN hi) = iN (capN hi v) := by
  unfold clI capN
  by_cases c : v < iN 0
  · rw [if_pos c]
    have : v.toNatClampNeg = 0 := by
      have h1 := Int32.lt_iff_toInt_lt.mp c
      rw [iN_toInt (by omega)] at h1
      show v.toInt.toNat = 0
      omega
    rw [this, Nat.min_zero]
  · rw [if_neg c]
    have c' : iN 0 ≤ v := Int32.not_lt.mp c
    obtain ⟨n, rfl, hn⟩ := of_nn c'
    rw [iN_toN hn]
    by_cases q : hi < n
    · rw [if_pos ((iN_lt h hn).mpr q), Nat.min_eq_left (by omega)]
    · rw [if_neg (fun w => q ((iN_lt h hn).mp w)), Nat.min_eq_right (by omega)]
theorem capN_neg {v : Int32} {hi : Nat} (c : v < iN 0) : capN hi v = 0 := by
  have h1 := Int32.lt_iff_toInt_lt.mp c
  rw [iN_toInt (by omega)] at h1
  have : v.toNatClampNeg = 0 := by show v.toInt.toNat = 0; omega
  unfold capN; rw [this, Nat.min_zero]
theorem mxmn_N {v : Int32} {hi : Nat} (h : hi < 2147483648) : mxI (iN 0) (mnI (iN hi) v) = iN (capN hi v) := by
  by_cases c : v < iN 0
  · have c2 : ¬ iN hi ≤ v := fun q => by
      rw [Int32.le_iff_toInt_le, iN_toInt h] at q
      rw [Int32.lt_iff_toInt_lt, iN_toInt (by omega)] at c; omega
    rw [capN_neg c]
    unfold mxI mnI
    rw [if_neg c2, if_pos (Int32.le_of_lt c)]
  · have c' : iN 0 ≤ v := Int32.not_lt.mp c
    obtain ⟨n, rfl, hn⟩ := of_nn c'
    rw [mnI_N h hn, mxI_N (by omega) (by omega), Nat.max_eq_right (Nat.zero_le _)]
    unfold capN; rw [iN_toN hn]
end SAYS
