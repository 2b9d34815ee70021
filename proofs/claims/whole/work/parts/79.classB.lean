/-! the class' constructor: its end -/
theorem ShC.ex {z z' : Zs} (h : ShC z) (e : ExZ z z') : ShC z' := by
  obtain ⟨h1, h2, h3, h4⟩ := h
  refine ⟨fun k t hk q => ?_, fun k l hk q => ?_, fun k i q hk q2 => ?_, Nat.le_trans h4 e.1⟩
  · rw [(e.2.1 k (by omega)).1]; exact h1 k t hk q
  · rw [(e.2.1 k (by omega)).2]; exact h2 k l hk q
  · obtain ⟨a, b, c⟩ := spt_lt q2
    rw [e.2.2 k (by omega) b c]; exact h3 k i q hk q2
def sptB (k i : Nat) : Bool := match spt k i with | some q => (match plk 88 k i with | some q2 => Nat.beq q q2 | none => false) | none => true
theorem sptB_e : ∀ k, k < 97 → ∀ i, i < 10 → sptB k i = true := by decide +kernel
theorem sptB_l : ∀ k, k < 97 → (sptL.getD k []).length ≤ 10 := by decide +kernel
theorem sptB_8 : ∀ k, k < 8 → ∀ i, i < 10 → spt k i = none := by decide +kernel
theorem ZQ.c {z : Zs} (hz : ZQ 89 88 z) : ShC z := by
  refine ⟨fun k t hk q => hz.t k (by omega) q, fun k l hk q => hz.l k (by omega) q, fun k i q hk e => ?_, Nat.le_of_eq hz.1.symm⟩
  have hi : i < 10 := by
    rcases Nat.lt_or_ge i 10 with a | a
    · exact a
    · have l := sptB_l k hk
      unfold spt at e
      rw [List.getD_eq_getElem?_getD, List.getElem?_eq_none (by omega)] at e
      cases e
  have h8 : 8 ≤ k := by
    rcases Nat.lt_or_ge k 8 with a | a
    · rw [sptB_8 k a i hi] at e; cases e
    · exact a
  have b := sptB_e k hk i hi
  unfold sptB at b
  rw [e] at b
  refine hz.p k i h8 ?_
  cases w : plk 88 k i with
  | none => rw [w] at b; cases b
  | some q2 => rw [w] at b; rw [Nat.eq_of_beq_eq_true b]
theorem fx_l {j : Nat} (h : 34 ≤ j) : fxC.getD j 0 = 0 := by
  rw [List.getD_eq_getElem?_getD, List.getElem?_eq_none (show fxC.length ≤ j from Nat.le_trans (by decide) h)]; rfl
theorem fx_255 (j : Nat) : fxC.getD j 0 ≤ 255 := by
  rcases Nat.lt_or_ge j 34 with a | a
  · have : ∀ j, j < 34 → fxC.getD j 0 ≤ 255 := by decide
    exact this j a
  · rw [fx_l a]; omega
def fxT : Nat → Nat := fun i => fxC.getD i 0
def fO : List Nat := [5, 100002, 18, 100001, 100001]
def fE : List Nat := [3, 4, 5]
theorem tx_0 : (tx 3 0 (tks fxT 34 0) [] []).1 = some (fO, fE) := by decide +kernel
theorem fxTp : TpO fxT 34 := ⟨by omega, fx_255⟩
/-- what the class' constructor leaves -/
def CP (z : Zs) (J : Is) : Prop := (zN z = 101 ∧ ShC z) ∧ (∀ s, zP z 9 s = none) ∧ (zP z 20 0 = some 97 ∧ ∀ t, 1 ≤ t → zP z 20 t = none) ∧ (TxO z 97 ∧ zL z 98 = 5) ∧ (∀ i, i < 5 → J 98 i = cTr (fO.getD i 0)) ∧ (∀ p, p < 3 → J 99 p = iN (fE.getD p 0)) ∧
  (∀ i, J 8 i = if i = 12 then iN 1 else 0) ∧ J 22 3 = iN 0 ∧ (∀ i, J 23 i = iN (fxT i)) ∧ ∀ k, 8 < k → k < 97 → k ≠ 22 → k ≠ 23 → k ≠ 24 → k ≠ 25 → J k = cC k
theorem k11_l {g : Gt} {d : Nat} {z : Zs} {K : Zs → Is → Prop} (hs : GS g) (hz : ZQ 89 88 z) (hK : ∀ z J, CP z J → K z J) : ∀ (r i : Nat) (I : Is), i + r = 34 → (∀ k, 8 ≤ k → k < 97 → k ≠ 22 → k ≠ 23 → I k = cC k) → I 22 3 = iN i → (∀ j, I 23 j = if j < i then iN (fxT j) else 0) → WPc g m11_init (d + 61) 4 356 165 [(0, .ref 8), (1, .int (iN i))] [] z I (Zv K)
  | 0, i, I, e, h1, h2, h3 => by
    obtain rfl : i = 34 := by omega
    refine WPc.sz (fun sp _ => ?_)
    have hc := hz.c
    have e97 : zN z = 97 := hz.1
    have t8 : tagB [11] (zT z 8) = true := by rw [hz.t 8 (by decide) rfl]; rfl
    have t22 : Nat.beq (zT z 22) 5 = true := by rw [hz.t 22 (by decide) rfl]; rfl
    have p7 : zP z 8 7 = some 22 := hz.p 8 7 (by decide) (by decide)
    refine v11_init_165 (rc := 0) (rs := 0) hs (c_length1 hs sp ⟨fun _ => ⟨t8, oe_s p7 ⟨t22, ?_⟩⟩, fun q => absurd ((iN_le (by omega) (by omega)).mpr (by omega)) q⟩)
    refine c_readText (T := fxT) (n := 34) hs hc fxTp h2 (fun j => ?_) (fun q => by rw [tx_0] at q; cases q) (fun o es q J1 hO hcd hl9 hen _ => ?_)
    · rw [h3 j]; split
      · rfl
      · next w => show 0 = iN (fxC.getD j 0); rw [fx_l (by omega)]; rfl
    rw [tx_0] at q
    cases q
    refine ⟨t8, oe_s (hz.p 8 5 (by decide) (q := some 20) (by decide)) ⟨t8, oe_s p7 ⟨t22, ?_⟩⟩⟩
    refine c_textRead (L := 5) hs hc hl9 (by omega) (fun z' J e N z20 z9 t10 tx hl hq hcd2 he => ?_)
    rw [e97] at N t10 tx hl hq hcd2 he
    have o8 : ∀ k, k < 97 → zT z' k = zT z k := fun k hk => (e.2.1 k (by omega)).1
    have ez : ExZ z (zPut z' 20 0 (some 97)) := e.put (Or.inr (Or.inl rfl))
    have hc2 := hc.ex ez
    refine oe_s rfl ⟨by rw [o8 20 (by omega), hz.t 20 (by decide) rfl]; rfl, by rw [e97, t10, o8 20 (by omega), hz.t 20 (by decide) rfl]; rfl, by rw [(e.2.1 20 (by omega)).2, hz.l 20 (by decide) rfl]; decide, ?_⟩
    rw [e97]
    refine v11_init_214 (rc := 0) (rs := 0) hs ⟨by rw [hc2.t 8 (by decide) rfl]; rfl, by rw [hc2.t 8 (by decide) rfl]; rfl, oe_s (hc2.p 8 7 (by decide) rfl) ⟨by rw [hc2.t 22 (by decide) rfl]; rfl, w5_clear hs hc2 (hK _ _ ?_)⟩⟩
    refine ⟨⟨by rw [zPut_N]; omega, hc2⟩, fun s => ?_, ⟨zPut_s _ _ _ _, fun t ht => ?_⟩, ⟨?_, hl⟩, fun i hi => ?_, fun p hp => ?_, fun i => ?_, up2_s _ _ _ _, fun j => ?_, fun k a b n1 n2 n3 n4 => ?_⟩
    · rw [zPut_o (by omega), z9]; exact hz.p 9 s (by decide) (plk_n 9 s 88 (by decide))
    · rw [zPut_i (by omega), z20]; exact hz.p 20 t (by decide) (plk_n 20 t 88 (by decide))
    · unfold TxO; rw [zPut_o (by omega)]; exact tx
    · rw [up2_ro _ (by omega), up2_ro _ (by omega), hcd2 i hi, ← hcd i _ (getD_lt (l := fO) hi), Nat.zero_add]
    · rw [up2_ro _ (by omega), up2_ro _ (by omega), he p hp]; exact hen p _ (getD_lt (l := fE) hp)
    · rw [up2_ro _ (by omega), up2_ra, hq 8 (by omega), hO 8 (by simp), h1 8 (by omega) (by omega) (by omega) (by omega)]; rfl
    · rw [up2_ro _ (by omega), up2_ro _ (by omega), hq 23 (by omega), hO 23 (by simp), h3 j]; split
      · rfl
      · next w => show 0 = iN (fxC.getD j 0); rw [fx_l (by omega)]; rfl
    · rw [up2_ro _ n1, up2_ro _ (by omega), hq k (by omega), hO k (by simp; omega)]; exact h1 k (by omega) b n1 n2
  | r + 1, i, I, e, h1, h2, h3 => by
    refine WPc.sz (fun sp _ => ?_)
    have hc := hz.c
    refine v11_init_165 (rc := 0) (rs := 0) hs (c_length1 hs sp ⟨fun q => absurd ((iN_le (by omega) (by omega)).mp q) (by omega), fun _ => ⟨by rw [hz.t 8 (by decide) rfl]; rfl, oe_s (hz.p 8 7 (by decide) (q := some 22) (by decide)) (c_charAt1 hs sp (by omega) ⟨by rw [hz.t 22 (by decide) rfl]; rfl, w5_put hs hc ⟨fun q => ?_, fun _ => ⟨by rw [h2]; exact inB_n (by omega) (by omega), ?_⟩⟩⟩)⟩⟩)
    · rw [h2] at q; exact absurd ((iN_le (by omega) (by omega)).mp q) (by omega)
    · rw [h2, iN_toN (by omega), iN_add]
      refine k11_l hs hz hK r (i + 1) _ (by omega) (fun k a b n1 n2 => ?_) (up2_s _ _ _ _) (fun j => ?_)
      · rw [up2_ro _ n1, up2_ro _ n2]; exact h1 k a b n1 n2
      · rw [up2_ro _ (by omega), up2_ra]
        unfold up1
        by_cases q : j = i
        · rw [if_pos q, if_pos (by omega), q]; rfl
        · rw [if_neg q, h3 j]
          by_cases q2 : j < i
          · rw [if_pos q2, if_pos (by omega)]
          · rw [if_neg q2, if_neg (by omega)]
/-- the class' constructor -/
theorem c_class {g : Gt} {d : Nat} {z : Zs} {I : Is} {K : Zs → Is → Prop} (hs : GS g) (hz : ZQ 1 0 z) (hI : IQ 1 I) (hK : ∀ z J, CP z J → K z J) : WPv g m11_init (d + 61) 92 1261 [.ref 8] z I K := by
  refine k11_0 hs hz hI (fun z I hz hI => ?_)
  refine k11_13 hs hz hI (fun z I hz hI => ?_)
  refine k11_21 hs hz hI (fun z I hz hI => ?_)
  refine k11_29 hs hz hI (fun z I hz hI => ?_)
  refine k11_40 hs hz hI (fun z I hz hI => ?_)
  refine k11_51 hs hz hI (fun z I hz hI => ?_)
  refine k11_60 hs hz hI (fun z I hz hI => ?_)
  refine k11_68 hs hz hI (fun z I hz hI => ?_)
  refine k11_79 hs hz hI (fun z I hz hI => ?_)
  refine k11_90 hs hz hI (fun z I hz hI => ?_)
  refine k11_98 hs ?_
  refine k11_100_0 hs hz hI (fun z I hz hI => ?_)
  refine k11_100_1 hs hz hI (fun z I hz hI => ?_)
  refine k11_100_2 hs hz hI (fun z I hz hI => ?_)
  refine k11_100_3 hs hz hI (fun z I hz hI => ?_)
  refine k11_100_4 hs hz hI (fun z I hz hI => ?_)
  refine k11_100_5 hs ?_
  refine k11_139_0 hs hz hI (fun z I hz hI => ?_)
  refine k11_139_1 hs hz hI (fun z I hz hI => ?_)
  refine k11_139_2 hs hz hI (fun z I hz hI => ?_)
  refine k11_139_3 hs hz hI (fun z I hz hI => ?_)
  refine k11_139_4 hs (k11_l hs hz hK 34 0 _ rfl (fun k a b _ _ => hI k a (by omega)) ?_ (fun j => ?_))
  · rw [hI 22 (by omega) (by omega)]; rfl
  · rw [hI 23 (by omega) (by omega), if_neg (by omega)]; rfl
