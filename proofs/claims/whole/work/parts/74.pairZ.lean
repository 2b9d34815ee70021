/-! pairs that change references: sort, back -/
/-- beyond what is made there is nothing -/
def ZtO (z : Zs) : Prop := ∀ k, zN z ≤ k → 105 ≤ zT z k
/-- the same state, but for what stands where no text is yet -/
def Eqv (S S2 : AS) : Prop := (∀ i, i ≠ 6 → i ≠ 7 → S2.1 i = S.1 i) ∧ (∀ t k, t < sNt S → k < sSt S t 3 → S2.1 6 (200 * t + k) = S.1 6 (200 * t + k)) ∧ (∀ t p, t < sNt S → p ≤ 3 → S2.1 7 (4 * t + p) = S.1 7 (4 * t + p)) ∧ S2.2 = S.2
def PairG (g : Gt) (S : AS) (mc mm : Mth) (args : List Value) (cc cs : Nat) : Prop := ∃ (ans : Int32) (S1 : AS),
  (∀ (d : Nat) (z : Zs) (I : Is) (K : Int32 → Zs → Is → Prop), Sh z → ZtO z → CI z I S → (∀ z' J, Sh z' → CI z' J S1 → KeepM I J → K ans z' J) → WPi g mc (d + 80) cc cs (.ref 8 :: args) z I K) ∧
  (∀ (d : Nat) (z : Zs) (I : Is) (K : Int32 → Is → Prop), Sh z → MI I S → (∀ J S2, OKS S2 → Eqv S1 S2 → MI J S2 → KeepC I J → K ans J) → Wi g mm (d + 80) (.ref 101 :: args) z I K)
theorem Eqv.rf (S : AS) : Eqv S S := ⟨fun _ _ _ => rfl, fun _ _ _ _ => rfl, fun _ _ _ _ => rfl, rfl⟩
theorem Pair.G {g : Gt} {S : AS} {mc mm : Mth} {args : List Value} (h : Pair g S mc mm args) : PairG g S mc mm args 0 0 := by
  obtain ⟨ans, S', o, h1, h2⟩ := h
  refine ⟨ans, S', fun d z I K hz _ c hK => ?_, fun d z I K hz m hK => h2 (d + 60) z I K hz m (fun J mJ kc => hK J S' o (Eqv.rf S') mJ kc)⟩
  exact Wi_e (h1 (d + 60) z I (fun x J => K x z J) hz c (fun J cJ km => hK z J hz cJ km)) (fun x J q => q)
theorem zT_o {z : Zs} {c l k : Nat} (h : k ≠ zN z) : zT (zNew z c l) k = zT z k := up1_o _ h c
theorem zT_s (z : Zs) (c l : Nat) : zT (zNew z c l) (zN z) = c := up1_s _ _ _
theorem zL_o {z : Zs} {c l k : Nat} (h : k ≠ zN z) : zL (zNew z c l) k = zL z k := up1_o _ h l
theorem zL_s (z : Zs) (c l : Nat) : zL (zNew z c l) (zN z) = l := up1_s _ _ _
theorem zP_o {z : Zs} {c l k : Nat} (h : k ≠ zN z) (i : Nat) : zP (zNew z c l) k i = zP z k i := by
  show (if k = zN z then none else zP z k i) = _
  rw [if_neg h]
theorem zN_n (z : Zs) (c l : Nat) : zN (zNew z c l) = zN z + 1 := rfl
theorem zPut_T (z : Zs) (a i : Nat) (o : Option Nat) : zT (zPut z a i o) = zT z := rfl
theorem zPut_L (z : Zs) (a i : Nat) (o : Option Nat) : zL (zPut z a i o) = zL z := rfl
theorem zPut_N (z : Zs) (a i : Nat) (o : Option Nat) : zN (zPut z a i o) = zN z := rfl
theorem zPut_o {z : Zs} {a i k : Nat} {o : Option Nat} (h : k ≠ a) : zP (zPut z a i o) k = zP z k := up2_ro (zP z) h i o
theorem zPut_i {z : Zs} {a i j : Nat} {o : Option Nat} (h : j ≠ i) : zP (zPut z a i o) a j = zP z a j := by
  show up2 (zP z) a i o a j = _
  rw [up2_ra, up1_o _ h]
theorem zPut_s (z : Zs) (a i : Nat) (o : Option Nat) : zP (zPut z a i o) a i = o := by
  show up2 (zP z) a i o a i = _
  rw [up2_ra, up1_s]
theorem nI0_o (I : Is) {n k : Nat} (h : k ≠ n) : nI0 I n k = I k := by funext j; show (if k = n then 0 else I k j) = _; rw [if_neg h]
/-- a world that holds an elder one -/
def ExZ (z z' : Zs) : Prop := zN z ≤ zN z' ∧ (∀ k, k < zN z → zT z' k = zT z k ∧ zL z' k = zL z k) ∧ ∀ k, k < zN z → k ≠ 9 → k ≠ 20 → zP z' k = zP z k
theorem stg_lt {k t : Nat} (h : stg k = some t) : k < 124 := by
  rcases Nat.lt_or_ge k 124 with a | a
  · exact a
  · unfold stg at h
    rw [List.getD_eq_getElem?_getD, List.getElem?_eq_none (show stgL.length ≤ k from Nat.le_trans (by decide +kernel) a)] at h
    cases h
theorem sln_lt {k t : Nat} (h : sln k = some t) : k < 124 := by
  rcases Nat.lt_or_ge k 124 with a | a
  · exact a
  · unfold sln at h
    rw [List.getD_eq_getElem?_getD, List.getElem?_eq_none (show slnL.length ≤ k from Nat.le_trans (by decide +kernel) a)] at h
    cases h
theorem spt_lt {k i q : Nat} (h : spt k i = some q) : k < 124 ∧ k ≠ 9 ∧ k ≠ 20 := by
  refine ⟨?_, fun e => ?_, fun e => ?_⟩
  · rcases Nat.lt_or_ge k 124 with a | a
    · exact a
    · have e : sptL.getD k [] = [] := by rw [List.getD_eq_getElem?_getD, List.getElem?_eq_none (show sptL.length ≤ k from Nat.le_trans (by decide +kernel) a)]; rfl
      unfold spt at h
      rw [e] at h
      cases i <;> cases h
  · subst e; cases i <;> cases h
  · subst e; cases i <;> cases h
theorem Sh.ex {z z' : Zs} (h : Sh z) (e : ExZ z z') : Sh z' := by
  obtain ⟨h1, h2, h3, h4⟩ := h
  refine ⟨fun k t q => ?_, fun k l q => ?_, fun k i q q2 => ?_, Nat.le_trans h4 e.1⟩
  · rw [(e.2.1 k (by have := stg_lt q; omega)).1]; exact h1 k t q
  · rw [(e.2.1 k (by have := sln_lt q; omega)).2]; exact h2 k l q
  · obtain ⟨a, b, c⟩ := spt_lt q2
    rw [e.2.2 k (by omega) b c]; exact h3 k i q q2
theorem lt_zN {z : Zs} (zt : ZtO z) {k : Nat} (h : zT z k ≤ 104) : k < zN z := by
  rcases Nat.lt_or_ge k (zN z) with c | c
  · exact c
  · have := zt k c; omega
theorem TxO.ex {z z' : Zs} {a : Nat} (h : TxO z a) (hz : Sh z) (zt : ZtO z) (e : ExZ z z') : TxO z' a ∧ zL z' (a + 1) = zL z (a + 1) := by
  have ha := lt_zN zt (k := a) (by rw [h.t]; omega)
  have h1 := lt_zN zt (k := a + 1) (by rw [h.t1]; omega)
  have h2 := lt_zN zt (k := a + 2) (by rw [h.t2]; omega)
  have h3 := lt_zN zt (k := a + 3) (by rw [h.t3]; omega)
  have n9 : a ≠ 9 := fun c => by have := h.t; rw [c, hz.t 9 rfl] at this; omega
  have n20 : a ≠ 20 := fun c => by have := h.t; rw [c, hz.t 20 rfl] at this; omega
  refine ⟨?_, (e.2.1 _ h1).2⟩
  unfold TxO
  rw [(e.2.1 a ha).1, (e.2.1 _ h1).1, (e.2.1 _ h2).1, (e.2.1 _ h2).2, (e.2.1 _ h3).1, (e.2.1 _ h3).2, e.2.2 a ha n9 n20]
  exact h
theorem SoO.ex {z z' : Zs} {I : Is} {q k tl mo : Nat} (h : SoO z I q k tl mo) (zt : ZtO z) (e : ExZ z z') : SoO z' I q k tl mo := by
  have := kcl_lt k
  exact ⟨by rw [(e.2.1 q (lt_zN zt (by rw [h.1]; omega))).1]; exact h.1, h.2⟩
section PZ
variable {g : Gt} {d : Nat} {z z' : Zs} {I J : Is} {S : AS}
/-- the class' state in a larger world: all but the numbers, the sorts and the places of the texts -/
theorem CI.ex (c : CI z I S) (hz : Sh z) (zt : ZtO z) (e : ExZ z z') (hJ : ∀ k, k < zN z → k ≠ 8 → k ≠ 22 → J k = I k) (_e22 : J 22 3 = I 22 3) {t a : Nat} (ht : t < sNt S) (ea : zP z 20 t = some a) : TxR z' J a S t := by
  obtain ⟨t6, b, eb, r⟩ := c.tx ht
  rw [ea] at eb
  cases eb
  have h1 := lt_zN zt (k := a + 1) (by rw [r.1.t1]; omega)
  have h2 := lt_zN zt (k := a + 2) (by rw [r.1.t2]; omega)
  have tx := r.1.ex hz zt e
  have ra := r.2.1
  exact ⟨tx.1, r.2.1, fun p hp => by rw [hJ _ h2 (by omega) (by omega)]; exact r.2.2.1 p hp, by rw [tx.2]; exact r.2.2.2.1, fun k hk => by rw [hJ _ h1 (by omega) (by omega)]; exact r.2.2.2.2 k hk⟩
-- sort
def soU (S : AS) (k tl mo : Nat) : AS := (fun i => if i = 0 then up1 (S.1 0) 0 (sNs S + 1) else if i = 1 then up1 (S.1 1) (sNs S) k else if i = 2 then up1 (S.1 2) (sNs S) tl else if i = 3 then up1 (S.1 3) (sNs S) mo else S.1 i, S.2)
theorem soU_ok {k tl mo : Nat} (o : OKS S) (h6 : sNs S < 6) (hk : k ≤ 5) (ht : tl ≤ 99) (hm : mo ≤ 9) : OKS (soU S k tl mo) := by
  obtain ⟨o1, o2, o3, o4, o5, o6, o7⟩ := o
  refine ⟨⟨by show sNs S + 1 ≤ 6; omega, o1.2⟩, fun s => ?_, ⟨o3.1, fun p s hp hs hn => o3.2 p s hp hs (by have hn : sNs S + 1 ≤ s := hn; omega)⟩, o4, o5, ⟨o6.1, o6.2.1, o6.2.2.1, by show S.1 0 7 ≤ sNs S + 1; have := o6.2.2.2.1; omega, o6.2.2.2.2⟩, o7⟩
  show up1 (S.1 1) (sNs S) k s ≤ 5 ∧ up1 (S.1 2) (sNs S) tl s ≤ 99 ∧ up1 (S.1 3) (sNs S) mo s ≤ 9
  unfold up1
  by_cases q : s = sNs S
  · rw [if_pos q, if_pos q, if_pos q]; exact ⟨hk, ht, hm⟩
  · rw [if_neg q, if_neg q, if_neg q]; exact o2 s
theorem c_newSort {k tl mo : Nat} {K : Option Nat → Zs → Is → Prop} (hs : GS g) (hk : k ≤ 5) (hK : K (some (zN z)) (zNew z (kcl k) 0) (up2 (up2 (nI0 I (zN z)) (zN z) 0 (iN tl)) (zN z) 1 (iN mo))) : WPr g m11_newSort (d + 5) 1 2 [.int (iN k), .int (iN tl), .int (iN mo)] z I K := by
  have base : ∀ {d : Nat} {c : Nat} {K : Is → Prop}, tagB [8, 0, 6, 9, 1, 3] c = true → K (up2 (up2 (nI0 I (zN z)) (zN z) 0 (iN tl)) (zN z) 1 (iN mo)) → Wv g m8_init (d + 1) [.ref (zN z), .int (iN tl), .int (iN mo)] (zNew z c 0) (nI0 I (zN z)) K := fun ht hK => v8_init hs ⟨by rw [zT_s]; exact ht, by rw [zT_s]; exact ht, hK⟩
  have N : ∀ a b : Nat, a ≤ 5 → b ≤ 5 → a ≠ b → ¬ iN a = iN b := fun a b ha hb q w => q ((iN_inj (by omega) (by omega)).mp w)
  refine v11_newSort hs ?_
  have key : k = 0 ∨ k = 1 ∨ k = 2 ∨ k = 3 ∨ k = 4 ∨ k = 5 := by omega
  rcases key with rfl | rfl | rfl | rfl | rfl | rfl
  · exact gF (by decide) (gF (by decide) (gF (by decide) (gF (by decide) (gF (by decide) (base rfl hK)))))
  · exact gT rfl (v0_init hs (base rfl hK))
  · exact gF (by decide) (gT rfl (v6_init hs (base rfl hK)))
  · exact gF (by decide) (gF (by decide) (gT rfl (v9_init hs (v0_init hs (base rfl hK)))))
  · exact gF (by decide) (gF (by decide) (gF (by decide) (gT rfl (v1_init hs (v6_init hs (base rfl hK))))))
  · exact gF (by decide) (gF (by decide) (gF (by decide) (gF (by decide) (gT rfl (v3_init hs (base rfl hK))))))
theorem exZ_new {c l : Nat} : ExZ z (zNew z c l) := ⟨Nat.le_succ _, fun k hk => ⟨zT_o (by omega), zL_o (by omega)⟩, fun k hk _ _ => funext (fun i => zP_o (by omega) i)⟩
theorem ExZ.put (e : ExZ z z') {a i : Nat} {o : Option Nat} (ha : a = 9 ∨ a = 20 ∨ zN z ≤ a) : ExZ z (zPut z' a i o) := ⟨e.1, e.2.1, fun k hk n9 n20 => by rw [zPut_o (by omega)]; exact e.2.2 k hk n9 n20⟩
theorem ExZ.rf (z : Zs) : ExZ z z := ⟨Nat.le_refl _, fun _ _ => ⟨rfl, rfl⟩, fun _ _ _ _ => rfl⟩
theorem CI.sort {k tl mo : Nat} (c : CI z I S) (hz : Sh z) (zt : ZtO z) (o : OKS S) (h6 : sNs S < 6) (hk : k ≤ 5) (ht : tl ≤ 99) (hm : mo ≤ 9) (J : Is) (eJ : J = up2 (up2 (up2 (nI0 I (zN z)) (zN z) 0 (iN tl)) (zN z) 1 (iN mo)) 8 10 (iN (sNs S + 1))) : CI (zPut (zNew z (kcl k) 0) 9 (sNs S) (some (zN z))) J (soU S k tl mo) := by
  have z124 := hz.2.2.2
  have ez : ExZ z (zPut (zNew z (kcl k) 0) 9 (sNs S) (some (zN z))) := exZ_new.put (Or.inl rfl)
  have hJ : ∀ q, q < zN z → q ≠ 8 → J q = I q := fun q hq h8 => by rw [eJ, up2_ro _ h8, up2_ro _ (by omega), up2_ro _ (by omega), nI0_o _ (by omega)]
  have hJ8 : ∀ i, i ≠ 10 → J 8 i = I 8 i := fun i hi => by rw [eJ, up2_i _ _ hi, up2_ro _ (by omega), up2_ro _ (by omega), nI0_o _ (by omega)]
  have fx : ∀ q, q < 124 → q ≠ 8 → J q = I q := fun q hq h8 => hJ q (by omega) h8
  obtain ⟨h1, h2, h3, h4, h5, h6', h7⟩ := id c
  refine ⟨⟨by rw [eJ, up2_s]; rfl, ?_, ?_, ?_, ?_, ?_⟩, ⟨by show sNs S + 1 ≤ 6; omega, fun s hs1 => ?_, fun s hs1 hs2 => ?_⟩, fun p hp => (h3 p hp).cg (fx _ (by omega) (by omega)), ⟨fun p hp => (h4.1 p hp).cg (fx _ (by omega) (by omega)), by rw [fx 26 (by omega) (by omega)]; exact h4.2⟩, by rw [fx 23 (by omega) (by omega)]; exact h5, ⟨fun t ht' => ?_, fun t ht1 ht2 => ?_⟩, fun s hs1 => by rw [fx (89 + 2 * s) (by omega) (by omega), fx (89 + 2 * s + 1) (by omega) (by omega)]; exact h7 s hs1⟩
  · rw [hJ8 11 (by omega)]; exact h1.2.1
  · rw [hJ8 12 (by omega)]; exact h1.2.2.1
  · rw [hJ8 13 (by omega)]; exact h1.2.2.2.1
  · rw [hJ8 14 (by omega)]; exact h1.2.2.2.2.1
  · rw [fx 22 (by omega) (by omega)]; exact h1.2.2.2.2.2
  · have hs1 : s < sNs S + 1 := hs1
    show (∃ q, zP _ 9 s = some q ∧ SoO _ J q (up1 (S.1 1) (sNs S) k s) (up1 (S.1 2) (sNs S) tl s) (up1 (S.1 3) (sNs S) mo s)) ∧ up1 (S.1 1) (sNs S) k s ≤ 5 ∧ up1 (S.1 2) (sNs S) tl s ≤ 99 ∧ up1 (S.1 3) (sNs S) mo s ≤ 9
    by_cases q : s = sNs S
    · rw [q, up1_s, up1_s, up1_s, zPut_s]
      exact ⟨⟨zN z, rfl, by rw [zPut_T, zT_s], by rw [eJ, up2_ro _ (by omega), up2_i _ _ (by omega), up2_s], by rw [eJ, up2_ro _ (by omega), up2_s]⟩, hk, ht, hm⟩
    · rw [up1_o _ q, up1_o _ q, up1_o _ q, zPut_i q, zP_o (by omega)]
      obtain ⟨⟨qq, e1, so⟩, kb⟩ := h2.2.1 s (by omega)
      have kl := kcl_lt (S.1 1 s)
      have lq := lt_zN zt (k := qq) (by rw [so.1]; omega)
      have n8 : qq ≠ 8 := fun w => by have := so.1; rw [w, hz.t 8 rfl] at this; omega
      exact ⟨⟨qq, e1, (so.ex zt ez).cg (hJ qq lq n8)⟩, kb⟩
  · have hs1 : sNs S + 1 ≤ s := hs1
    rw [zPut_i (by omega), zP_o (by omega)]
    exact h2.2.2 s (by omega) hs2
  · obtain ⟨t6, a, ea, r⟩ := h6'.1 t ht'
    refine ⟨t6, a, by rw [zPut_o (by omega), zP_o (by omega)]; exact ea, ?_⟩
    exact c.ex hz zt ez (fun q hq h8 _ => hJ q hq h8) (by rw [fx 22 (by omega) (by omega)]) ht' ea
  · rw [zPut_o (by omega), zP_o (by omega)]; exact h6'.2 t ht1 ht2
theorem ms_l {K : Int32 → Is → Prop} (hs : GS g) (hz : Sh z) (o : OKS S) (h6 : sNs S < 6) (hK : ∀ J, Of [105] I J → (∀ i, J 105 i = iN (S.1 4 i)) → K (iN (sNs S)) (up2 J 101 0 (iN (sNs S + 1)))) : ∀ (r p : Nat) (J : Is), p + r = 5 → Of [105] I J → J 101 0 = iN (sNs S) → (∀ i, J 105 i = iN (S.1 4 i)) → WPc g m12_sort (d + 1) 0 0 77 [(0, .ref 101), (4, .int (iN p))] [] z J (Qi z K)
  | 0, p, J, e, hO, h0, h1 => by
    refine v12_sort_77 hs hz ⟨fun _ => ?_, fun q => absurd ((iN_le (by omega) (by omega)).mpr (by omega)) q⟩
    rw [h0, iN_add, iN_sub (by omega), Nat.add_sub_cancel]
    exact hK J hO h1
  | r + 1, p, J, e, hO, h0, h1 => by
    refine v12_sort_77 hs hz ⟨fun q => absurd ((iN_le (by omega) (by omega)).mp q) (by omega), fun _ => ?_⟩
    rw [h0, iN_mul, iN_add, iN_toN (by omega), iN_add]
    refine ⟨inB_n (by omega) (by omega), ms_l hs hz o h6 hK r (p + 1) _ (by omega) (hO.upt (by simp) _ _) (by rw [up2_ro _ (by omega)]; exact h0) (fun i => ?_)⟩
    rw [up2_ra]; unfold up1; split
    next q => rw [q, o.2.2.1.2 p (sNs S) (by omega) h6 (Nat.le_refl _)]
    next => exact h1 i
theorem P_sort (hs : GS g) (o : OKS S) (v1 v2 v3 : Int32) : PairG g S m11_sort m12_sort [.int v1, .int v2, .int v3] 1 2 := by
  have n6 := o.1.1
  have nix : ∀ (ans : Int32), (∀ (d : Nat) (z : Zs) (I : Is) (K : Int32 → Zs → Is → Prop), Sh z → CI z I S → K ans z I → WPi g m11_sort (d + 80) 1 2 [.ref 8, .int v1, .int v2, .int v3] z I K) → (∀ (d : Nat) (z : Zs) (I : Is) (K : Int32 → Is → Prop), Sh z → MI I S → K ans I → Wi g m12_sort (d + 80) [.ref 101, .int v1, .int v2, .int v3] z I K) → PairG g S m11_sort m12_sort [.int v1, .int v2, .int v3] 1 2 := fun ans h1 h2 =>
    ⟨ans, S, fun d z I K hz _ c hK => h1 d z I K hz c (hK z I hz c (fun _ _ _ => rfl)), fun d z I K hz m hK => h2 d z I K hz m (hK I S o (Eqv.rf S) m (fun _ _ => rfl))⟩
  by_cases h1 : inR v1 (iN 0) (iN 5)
  · by_cases h2 : inR v2 (iN 0) (iN 99)
    · by_cases h3 : inR v3 (iN 0) (iN 9)
      · by_cases h4 : sNs S < 6
        · obtain ⟨k, rfl, _, hk⟩ := (inR_nat (by omega) (by omega)).mp h1
          obtain ⟨tl, rfl, _, ht⟩ := (inR_nat (by omega) (by omega)).mp h2
          obtain ⟨mo, rfl, _, hm⟩ := (inR_nat (by omega) (by omega)).mp h3
          refine ⟨iN (sNs S), soU S k tl mo, fun d z I K hz zt c hK => ?_, fun d z I K hz m hK => ?_⟩
          · have z124 := hz.2.2.2
            refine v11_sort hs hz (gT h1 (gT h2 (gT h3 (gT (by rw [c.ns]; exact (iN_lt (by omega) (by omega)).mpr h4) (c_newSort hs hk ?_)))))
            have T : ∀ q, q ≠ zN z → zT (zPut (zNew z (kcl k) 0) 9 (I 8 10).toNatClampNeg (some (zN z))) q = zT z q := fun q hq => zT_o (l := 0) hq
            have e8 : zT (zPut (zNew z (kcl k) 0) 9 (I 8 10).toNatClampNeg (some (zN z))) 8 = 11 := by rw [T 8 (by omega)]; exact hz.t 8 rfl
            refine ⟨by rw [zT_o (by omega), hz.t 9 rfl]; rfl, ?_, ?_, by rw [e8]; rfl, by rw [e8]; rfl, by rw [e8]; rfl, ?_⟩
            · rw [zT_o (k := 9) (by omega), hz.t 9 rfl, zT_s]
              have key : k = 0 ∨ k = 1 ∨ k = 2 ∨ k = 3 ∨ k = 4 ∨ k = 5 := by omega
              rcases key with rfl | rfl | rfl | rfl | rfl | rfl <;> rfl
            · rw [zL_o (by omega), hz.l 9 rfl, c.ns]; exact inB_n h4 (by omega)
            · have e10 : up2 (up2 (nI0 I (zN z)) (zN z) 0 (iN tl)) (zN z) 1 (iN mo) 8 10 = iN (sNs S) := by rw [up2_ro _ (by omega), up2_ro _ (by omega), nI0_o _ (by omega)]; exact c.ns
              rw [e10, c.ns, iN_toN (by omega), iN_add, iN_sub (by omega), Nat.add_sub_cancel]
              have cS := c.sort hz zt o h4 hk ht hm _ rfl
              refine hK _ _ (hz.ex (exZ_new.put (Or.inl rfl))) cS (fun q a b => ?_)
              rw [up2_ro _ (by omega), up2_ro _ (by omega), up2_ro _ (by omega), nI0_o _ (by omega)]
          · refine v12_sort hs hz (gT h1 (gT h2 (gT h3 ?_)))
            rw [m.ns, iN_inj (b := 6) (by omega) (by omega), iN_toN (by omega)]
            refine ⟨fun q => by omega, fun _ => ⟨inB_n h4 (by omega), ms_l hs hz o h4 (fun J hO h105 => ?_) 5 0 _ rfl (Of.rf _ _) (by rw [up2_ro _ (by omega), up2_ro _ (by omega), up2_ro _ (by omega)]; exact m.ns) (fun i => by rw [up2_ro _ (by omega), up2_ro _ (by omega), up2_ro _ (by omega)]; exact m.has i)⟩⟩
            have r : ∀ q, q ≠ 101 → q ≠ 102 → q ≠ 103 → q ≠ 104 → q ≠ 105 → up2 J 101 0 (iN (sNs S + 1)) q = I q := fun q a b c d e => by
              rw [up2_ro _ a, hO q (by simp; omega), up2_ro _ d, up2_ro _ c, up2_ro _ b]
            have r101 : ∀ i, i ≠ 0 → up2 J 101 0 (iN (sNs S + 1)) 101 i = I 101 i := fun i hi => by
              rw [up2_i _ _ hi, hO 101 (by simp), up2_ro _ (by omega), up2_ro _ (by omega), up2_ro _ (by omega)]
            refine hK _ (soU S k tl mo) (soU_ok o h4 hk ht hm) (Eqv.rf _) ?_ (fun q a => by rw [r q (by omega) (by omega) (by omega) (by omega) (by omega)])
            obtain ⟨m1, m2, m3, m4, m5, m6, m7, m8, m9, m10, m11, m12, m13, m14⟩ := m
            refine ⟨⟨up2_s _ _ _ _, ?_, ?_, ?_, ?_, ?_⟩, ?_, fun i => ?_, fun i => ?_, fun i => ?_, fun i => ?_, ?_, ?_, ?_, ?_, ?_, ?_, ?_, ?_⟩
            · rw [r101 4 (by omega)]; exact m1.2.1
            · rw [r101 6 (by omega)]; exact m1.2.2.1
            · rw [r101 8 (by omega)]; exact m1.2.2.2.1
            · rw [r101 11 (by omega)]; exact m1.2.2.2.2.1
            · rw [r101 12 (by omega)]; exact m1.2.2.2.2.2
            · rw [r101 13 (by omega), r101 14 (by omega), r101 15 (by omega), r101 16 (by omega), r101 17 (by omega)]; exact m2
            · rw [up2_ro _ (by omega), hO 102 (by simp), up2_ro _ (by omega), up2_ro _ (by omega), up2_ra]
              show up1 (I 102) (sNs S) (iN k) i = iN (up1 (S.1 1) (sNs S) k i)
              unfold up1; split
              · rfl
              · exact m3 i
            · rw [up2_ro _ (by omega), hO 103 (by simp), up2_ro _ (by omega), up2_ra, up2_ro _ (by omega)]
              show up1 (I 103) (sNs S) (iN tl) i = iN (up1 (S.1 2) (sNs S) tl i)
              unfold up1; split
              · rfl
              · exact m4 i
            · rw [up2_ro _ (by omega), hO 104 (by simp), up2_ra, up2_ro _ (by omega), up2_ro _ (by omega)]
              show up1 (I 104) (sNs S) (iN mo) i = iN (up1 (S.1 3) (sNs S) mo i)
              unfold up1; split
              · rfl
              · exact m5 i
            · rw [up2_ro _ (by omega)]; exact h105 i
            · rw [r 106 (by omega) (by omega) (by omega) (by omega) (by omega)]; exact m7
            · rw [r 107 (by omega) (by omega) (by omega) (by omega) (by omega)]; exact m8
            · rw [r 108 (by omega) (by omega) (by omega) (by omega) (by omega)]; exact m9
            · rw [r 109 (by omega) (by omega) (by omega) (by omega) (by omega)]; exact m10
            · rw [r 110 (by omega) (by omega) (by omega) (by omega) (by omega)]; exact m11
            · rw [r 111 (by omega) (by omega) (by omega) (by omega) (by omega)]; exact m12
            · rw [r 112 (by omega) (by omega) (by omega) (by omega) (by omega)]; exact m13
            · rw [r 114 (by omega) (by omega) (by omega) (by omega) (by omega)]; exact m14
        · exact nix (iM 4) (fun d z I K hz c hK => v11_sort hs hz (gT h1 (gT h2 (gT h3 (gF (by rw [c.ns]; exact fun q => h4 ((iN_lt (by omega) (by omega)).mp q)) hK))))) (fun d z I K hz m hK => v12_sort hs hz (gT h1 (gT h2 (gT h3 (gT (by rw [m.ns]; congr 1; omega) hK)))))
      · exact nix (iM 2) (fun d z I K hz c hK => v11_sort hs hz (gT h1 (gT h2 (gF h3 hK)))) (fun d z I K hz m hK => v12_sort hs hz (gT h1 (gT h2 (gF h3 hK))))
    · exact nix (iM 2) (fun d z I K hz c hK => v11_sort hs hz (gT h1 (gF h2 hK))) (fun d z I K hz m hK => v12_sort hs hz (gT h1 (gF h2 hK)))
  · exact nix (iM 2) (fun d z I K hz c hK => v11_sort hs hz (gF h1 hK)) (fun d z I K hz m hK => v12_sort hs hz (gF h1 hK))
end PZ
