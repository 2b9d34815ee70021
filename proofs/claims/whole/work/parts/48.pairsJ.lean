/-! pairs: film, copy, taken -/
theorem shU_cg (S : AS) (s : Nat) (f : Int32) (n : Nat) {r r' : Nat → Int32} (h : ∀ j, j < 40 → r j = r' j) : shU S s f n r = shU S s f n r' := by
  have : (fun i => if i / 40 = s then r (i % 40) else S.2.2 i) = fun i => if i / 40 = s then r' (i % 40) else S.2.2 i := by
    funext i
    rw [h _ (Nat.mod_lt _ (by omega))]
  unfold shU; rw [this]
theorem clU_shU (S : AS) {s i : Nat} (f : Int32) (n : Nat) (r : Nat → Int32) (v : Int32) (hi : i < 40) : clU (shU S s f n r) (40 * s + i) v = shU S s f n (up1 r i v) := by
  have : up1 (fun i => if i / 40 = s then r (i % 40) else S.2.2 i) (40 * s + i) v = fun j => if j / 40 = s then up1 r i v (j % 40) else S.2.2 j := by
    funext j
    unfold up1
    by_cases w : j = 40 * s + i
    · rw [if_pos w, if_pos (by omega), if_pos (by omega)]
    · rw [if_neg w]
      by_cases w2 : j / 40 = s
      · rw [if_pos w2, if_neg (show ¬ j % 40 = i by omega)]
        exact if_pos w2
      · rw [if_neg w2]
        exact if_neg w2
  show (_, _, up1 (fun i => if i / 40 = s then r (i % 40) else S.2.2 i) (40 * s + i) v) = _
  rw [this]; rfl
section PJ
variable {g : Gt} {d : Nat} {z : Zs} {I J : Is} {S : AS}
def fiR (S : AS) (h : Nat → Nat) (i : Nat) : Nat → Int32 := fun j => if j < i then iN (oftA S (j + 1) h) else iN 0
theorem film_c {s p n : Nat} {K : Int32 → Is → Prop} (hs : GS g) (hz : Sh z) (o : OKS S) (h4 : s < 4) (hp : p < 5) (hn : n ≤ 12) : ∀ (r i : Nat) (J : Is), i + r = n → CI z J (shU S s (iN 2) n (fiR S (sHas S p) i)) → (∀ J2, CI z J2 (shU S s (iN 2) n (fiR S (sHas S p) n)) → KeepM J J2 → K (iN n) J2) → WPc g m11_film (d + 6) 0 0 53 [(0, .ref 8), (3, .int (iN n)), (4, .ref (89 + 2 * s)), (5, .ref (49 + 8 * p)), (6, .int (iN i))] [] z J (Qi z K)
  | 0, i, J, e, c, hK => by
    obtain rfl : i = n := by omega
    exact v11_film_53 hs hz ⟨fun _ => hK J c (fun _ _ _ => rfl), fun q => absurd ((iN_le (by omega) (by omega)).mpr (Nat.le_refl _)) q⟩
  | r + 1, i, J, e, c, hK => by
    have oS : OKS (shU S s (iN 2) n (fiR S (sHas S p) i)) := o.uSh (by omega)
    refine v11_film_53 hs hz ⟨fun q => absurd ((iN_le (by omega) (by omega)).mp q) (by omega), fun _ => ?_⟩
    rw [iN_add]
    refine c_timesAt hs hz c (hz.purse hp) (c.pu hp) (oS.b p) (by omega) (by omega) (fun J1 hJ1 _ => ⟨by rw [(hz.sheet h4).t]; rfl, ?_⟩)
    have f1 : FrC z J J1 := FrC.of hJ1 scr_thought
    have c1 := c.fr hz f1
    have e1 : oftA (shU S s (iN 2) n (fiR S (sHas S p) i)) (i + 1) (sHas (shU S s (iN 2) n (fiR S (sHas S p) i)) p) = oftA S (i + 1) (sHas S p) := rfl
    rw [e1]
    refine c_shPut hs hz c1 oS h4 (by show i < up1 (S.1 9) s n s; rw [up1_s]; omega) ?_
    have e2 : cutI ((shU S s (iN 2) n (fiR S (sHas S p) i)).2.1 s) (iN (oftA S (i + 1) (sHas S p))) = iN (oftA S (i + 1) (sHas S p)) := by
      show cutI (up1 S.2.1 s (iN 2) s) _ = _
      rw [up1_s]; unfold cutI
      rw [if_neg (fun q => absurd ((iN_inj (by omega) (by omega)).mp q) (by omega)), if_neg (fun q => absurd ((iN_inj (by omega) (by omega)).mp q) (by omega))]
    rw [e2]
    have c2 := c1.uCl (s := s) (i := i) (v := iN (oftA S (i + 1) (sHas S p))) hz h4 (by omega)
    rw [clU_shU S _ _ _ _ (by omega), shU_cg S s (iN 2) n (r' := fiR S (sHas S p) (i + 1)) (fun j _ => by
      unfold up1 fiR
      by_cases w : j = i
      · rw [if_pos w, if_pos (by omega), w]
      · rw [if_neg w]
        by_cases w2 : j < i
        · rw [if_pos w2, if_pos (by omega)]
        · rw [if_neg w2, if_neg (by omega)])] at c2
    exact film_c hs hz o h4 hp hn r (i + 1) _ (by omega) c2 (fun J2 hc hk => hK J2 hc (KeepM.tr (KeepM.tr (fun k a b => f1 _ (c.ns_m a b)) (fun k a b => up2_ro J1 (by omega) _ _)) hk))
def fmR (S : AS) (h : Nat → Nat) (s n i : Nat) : Nat → Int32 := fun j => if j < i then fiR S h n j else S.2.2 (40 * s + j)
theorem film_m {s p n : Nat} {K : Int32 → Is → Prop} (hs : GS g) (hz : Sh z) (o : OKS S) (h4 : s < 4) (hp : p < 5) (hn : n ≤ 12) : ∀ (r i : Nat) (J : Is), i + r = 40 → MI J (shU S s (iN 2) n (fmR S (sHas S p) s n i)) → (∀ J2, MI J2 (shU S s (iN 2) n (fiR S (sHas S p) n)) → Of [112, 118, 119, 120] J J2 → K (iN n) J2) → WPc g m12_film (d + 6) 0 0 53 [(0, .ref 101), (1, .int (iN s)), (2, .int (iN p)), (3, .int (iN n)), (4, .int (iN i))] [] z J (Qi z K)
  | 0, i, J, e, m, hK => by
    obtain rfl : i = 40 := by omega
    rw [shU_cg S s (iN 2) n (r' := fiR S (sHas S p) n) (fun j hj => by unfold fmR; rw [if_pos hj])] at m
    exact v12_film_53 hs hz ⟨fun _ => hK J m (Of.rf _ J), fun q => absurd ((iN_le (by omega) (by omega)).mpr (Nat.le_refl _)) q⟩
  | r + 1, i, J, e, m, hK => by
    have oS : OKS (shU S s (iN 2) n (fmR S (sHas S p) s n i)) := o.uSh (by omega)
    have nx : ∀ (J1 : Is) (v : Int32), Of [118, 119, 120] J J1 → v = fiR S (sHas S p) n i → WPc g m12_film (d + 6) 0 0 53 [(0, .ref 101), (1, .int (iN s)), (2, .int (iN p)), (3, .int (iN n)), (4, .int (iN (i + 1)))] [] z (up2 J1 112 (40 * s + i) v) (Qi z K) := fun J1 v hJ1 ev => by
      have m2 := (m.fr hJ1).uCl (j := 40 * s + i) (v := v)
      rw [clU_shU S _ _ _ _ (by omega), shU_cg S s (iN 2) n (r' := fmR S (sHas S p) s n (i + 1)) (fun j _ => by
        unfold up1 fmR
        by_cases w : j = i
        · rw [if_pos w, if_pos (by omega), ev, w]
        · rw [if_neg w]
          by_cases w2 : j < i
          · rw [if_pos w2, if_pos (by omega)]
          · rw [if_neg w2, if_neg (by omega)])] at m2
      exact film_m hs hz o h4 hp hn r (i + 1) _ (by omega) m2 (fun J2 hc hk => hK J2 hc ((hJ1.mo (by simp)).tr ((Of.up (by simp) _ _).tr hk)))
    refine v12_film_53 hs hz ⟨fun q => absurd ((iN_le (by omega) (by omega)).mp q) (by omega), fun _ => ?_⟩
    rw [iN_mul, iN_add, iN_add, iN_toN (by omega), iN_le (by omega) (by omega)]
    refine ⟨fun q => ⟨inB_n (by omega) (by omega), ?_⟩, fun q => ?_⟩
    · exact nx J _ (Of.rf _ J) (by unfold fiR; rw [if_neg (by omega)])
    · refine c_oftenOf hs hz m oS hp (by omega) (by omega) (fun J1 hJ1 _ => ⟨inB_n (by omega) (by omega), ?_⟩)
      exact nx J1 _ hJ1 (by unfold fiR; rw [if_pos (by omega)]; rfl)
theorem P_film (hs : GS g) (o : OKS S) (v1 v2 v3 : Int32) : Pair g S m11_film m12_film [.int v1, .int v2, .int v3] := by
  have p5 := o.1.2.1
  by_cases h1 : inR v1 (iN 0) (iN 3)
  · obtain ⟨s, rfl, _, hs3⟩ := (inR_nat (by omega) (by omega)).mp h1
    by_cases h2 : inR v2 (iN 0) (iN (sNp S) - iN 1)
    · obtain ⟨p, hp, rfl⟩ := (inR_dn (by omega)).mp h2
      by_cases h3 : inR v3 (iN 0) (iN 12)
      · obtain ⟨n, rfl, _, hn⟩ := (inR_nat (by omega) (by omega)).mp h3
        refine ⟨iN n, shU S s (iN 2) n (fiR S (sHas S p) n), o.uSh (by omega), fun d z I K hz c hK => ?_, fun d z I K hz m hK => ?_⟩
        · refine v11_film hs hz (g4 (by omega) rfl (gN c.np p5 (by omega) hp rfl (gT h3 (c_shBecome hs hz (by omega) (fun J hJ a b e => ?_)))))
          have c1 : CI z J (shU S s (iN 2) n (fiR S (sHas S p) 0)) := c.uSh hz (by omega) (fun k _ e1 e2 => hJ k (by simp; omega)) a b (fun i hi => by rw [e i hi]; unfold fiR; rw [if_neg (by omega)])
          exact film_c hs hz o (by omega) (by omega) hn n 0 J (by omega) c1 (fun J2 hc hk => hK J2 hc ((KeepM.of hJ (by simp; omega)).tr hk))
        · refine v12_film hs hz (gT h1 (gM m.np h2 (gT h3 ⟨inB_n (by omega) (by omega), ?_⟩)))
          rw [iN_toN (by omega)]
          have hO : Of [110, 111] I (up2 (up2 I 110 s (iN 2)) 111 s (iN n)) := ((Of.rf _ I).upt (by simp) _ _).upt (by simp) _ _
          have m1 : MI (up2 (up2 I 110 s (iN 2)) 111 s (iN n)) (shU S s (iN 2) n (fmR S (sHas S p) s n 0)) := m.uSh (by omega) (fun k a b e => hO k (by simp; omega)) (fun i => by
            rw [up2_ro _ (by omega), up2_ra]; unfold up1; split
            · rfl
            · exact m.sf i) (fun i => by
            rw [up2_ra, up2_ro _ (by omega)]; unfold up1; split
            · rfl
            · exact m.sz i) (fun i => by
            rw [up2_ro _ (by omega), up2_ro _ (by omega), m.sc]
            unfold fmR
            by_cases w : i / 40 = s
            · rw [if_pos w, if_neg (by omega), show 40 * s + i % 40 = i by omega]
            · rw [if_neg w])
          exact film_m hs hz o (by omega) (by omega) hn 40 0 _ rfl m1 (fun J2 hc hk => hK J2 hc (KeepC.of (L := [110, 111, 112, 118, 119, 120]) ((hO.mo (by simp)).tr (hk.mo (by simp)))))
      · exact ⟨iM 7, S, o, fun d z I K hz c hK => v11_film hs hz (g4 (by omega) rfl (gN c.np p5 (by omega) hp rfl (gF h3 (hK.i c)))), fun d z I K hz m hK => v12_film hs hz (gT h1 (gM m.np h2 (gF h3 (hK.i m))))⟩
    · exact ⟨iM 5, S, o, fun d z I K hz c hK => v11_film hs hz (g4 (by omega) rfl (gNn c.np p5 h2 (hK.i c))), fun d z I K hz m hK => v12_film hs hz (gT h1 (gMn m.np h2 (hK.i m)))⟩
  · exact ⟨iM 2, S, o, fun d z I K hz c hK => v11_film hs hz (g4n h1 (hK.i c)), fun d z I K hz m hK => v12_film hs hz (gF h1 (hK.i m))⟩
-- taken
def undB (k w : Nat) : Prop := w = 0 ∨ k = w ∨ (w = 1 ∧ k = 3) ∨ (w = 2 ∧ k = 4)
theorem kcl_i : ∀ k, k < 6 → ∀ w, w < 6 → (w = 1 → tagB (insY 0) (kcl k) = decide (k = 1 ∨ k = 3)) ∧ (w = 2 → tagB (insY 6) (kcl k) = decide (k = 2 ∨ k = 4)) ∧ (w = 3 → tagB (insY 9) (kcl k) = decide (k = 3)) ∧ (w = 4 → tagB (insY 1) (kcl k) = decide (k = 4)) ∧ (w = 5 → tagB (insY 3) (kcl k) = decide (k = 5)) := by decide +kernel
theorem ins_i {b : Bool} {t : Nat} {X Y : Prop} (ht : tagB [8, 0, 6, 9, 1, 3] t = true) (h1 : b = true → X) (h0 : b = false → Y) : iteB b X (ckB (tagB [8, 0, 6, 9, 1, 3] t) Y) := by
  cases b with
  | true => exact h1 rfl
  | false => exact ckB_i ht (h0 rfl)
theorem c_isOfKind {q k tl mo w : Nat} {K : Int32 → Is → Prop} (hs : GS g) (so : SoO z I q k tl mo) (hk : k ≤ 5) (hw : w ≤ 6) (h1 : (w < 6 ∧ undB k w) → K (iN 1) I) (h0 : ¬ (w < 6 ∧ undB k w) → K (iN 0) I) : Wi g m11_isOfKind d [.ref q, .int (iN w)] z I K := by
  have NE : ∀ n, n ≠ w → n < 100 → ¬ iN w = iN n := fun n a b e => a ((iN_inj (by omega) (by omega)).mp e).symm
  have tg := tag_so so.1
  unfold undB at h1 h0
  refine v11_isOfKind hs ?_
  rw [so.1] at tg ⊢
  obtain rfl | rfl | rfl | rfl | rfl | rfl | rfl : w = 0 ∨ w = 1 ∨ w = 2 ∨ w = 3 ∨ w = 4 ∨ w = 5 ∨ w = 6 := by omega
  · exact gT rfl (h1 ⟨by omega, by omega⟩)
  · have e := (kcl_i k (by omega) 1 (by omega)).1 rfl
    rw [e]
    exact gF (NE 0 (by omega) (by omega)) (gT rfl (ins_i tg (fun q => h1 ⟨by omega, by have := of_decide_eq_true q; omega⟩) (fun q => h0 (fun x => by have := of_decide_eq_false q; omega))))
  · have e := (kcl_i k (by omega) 2 (by omega)).2.1 rfl
    rw [e]
    exact gF (NE 0 (by omega) (by omega)) (gF (NE 1 (by omega) (by omega)) (gT rfl (ins_i tg (fun q => h1 ⟨by omega, by have := of_decide_eq_true q; omega⟩) (fun q => h0 (fun x => by have := of_decide_eq_false q; omega)))))
  · have e := (kcl_i k (by omega) 3 (by omega)).2.2.1 rfl
    rw [e]
    exact gF (NE 0 (by omega) (by omega)) (gF (NE 1 (by omega) (by omega)) (gF (NE 2 (by omega) (by omega)) (gT rfl (ins_i tg (fun q => h1 ⟨by omega, by have := of_decide_eq_true q; omega⟩) (fun q => h0 (fun x => by have := of_decide_eq_false q; omega))))))
  · have e := (kcl_i k (by omega) 4 (by omega)).2.2.2.1 rfl
    rw [e]
    exact gF (NE 0 (by omega) (by omega)) (gF (NE 1 (by omega) (by omega)) (gF (NE 2 (by omega) (by omega)) (gF (NE 3 (by omega) (by omega)) (gT rfl (ins_i tg (fun q => h1 ⟨by omega, by have := of_decide_eq_true q; omega⟩) (fun q => h0 (fun x => by have := of_decide_eq_false q; omega)))))))
  · have e := (kcl_i k (by omega) 5 (by omega)).2.2.2.2 rfl
    rw [e]
    exact gF (NE 0 (by omega) (by omega)) (gF (NE 1 (by omega) (by omega)) (gF (NE 2 (by omega) (by omega)) (gF (NE 3 (by omega) (by omega)) (gF (NE 4 (by omega) (by omega)) (gT rfl (ins_i tg (fun q => h1 ⟨by omega, by have := of_decide_eq_true q; omega⟩) (fun q => h0 (fun x => by have := of_decide_eq_false q; omega))))))))
  · exact gF (NE 0 (by omega) (by omega)) (gF (NE 1 (by omega) (by omega)) (gF (NE 2 (by omega) (by omega)) (gF (NE 3 (by omega) (by omega)) (gF (NE 4 (by omega) (by omega)) (gF (NE 5 (by omega) (by omega)) (h0 (fun x => by omega)))))))
theorem c_isUnder {k w : Nat} {K : Int32 → Is → Prop} (hs : GS g) (hk : k ≤ 5) (hw : w < 6) (h1 : undB k w → K (iN 1) I) (h0 : ¬ undB k w → K (iN 0) I) : Wi g m12_isUnder d [.int (iN k), .int (iN w)] z I K := by
  unfold undB at h1 h0
  refine v12_isUnder hs ?_
  rw [iN_inj (by omega) (by omega), iN_inj (by omega) (by omega), iN_inj (by omega) (by omega), iN_inj (by omega) (by omega), iN_inj (by omega) (by omega), iN_inj (by omega) (by omega)]
  exact ⟨fun a => h1 (by omega), fun a => ⟨fun b => h1 (by omega), fun b => ⟨fun c => ⟨fun e => h1 (by omega), fun e => ⟨fun f => absurd f (by omega), fun f => h0 (by omega)⟩⟩, fun c => ⟨fun e => ⟨fun f => h1 (by omega), fun f => h0 (by omega)⟩, fun e => h0 (by omega)⟩⟩⟩⟩
theorem coinsOf_l {p : Nat} {K : Int32 → Is → Prop} (hs : GS g) (hz : Sh z) (m : MI I S) (o : OKS S) (hp : p < 5) (hK : K (iN (sumN (sHas S p) (sNs S))) I) : ∀ (n s : Nat), s + n = sNs S → WPc g m12_coinsOf d 0 0 4 [(0, .ref 101), (1, .int (iN p)), (2, .int (iN (sumN (sHas S p) s))), (3, .int (iN s))] [] z I (Qi z K)
  | 0, s, e => by
    have n6 := o.1.1
    refine v12_coinsOf_4 hs hz ⟨fun _ => ?_, fun q => ?_⟩
    · rw [show s = sNs S by omega]; exact hK
    · rw [m.ns] at q; exact absurd ((iN_le (by omega) (by omega)).mpr (by omega)) q
  | n + 1, s, e => by
    have n6 := o.1.1
    refine v12_coinsOf_4 hs hz ⟨fun q => ?_, fun _ => ?_⟩
    · rw [m.ns] at q; exact absurd ((iN_le (by omega) (by omega)).mp q) (by omega)
    · rw [iN_mul, iN_add, iN_toN (by omega), m.has, iN_add, iN_add]
      exact ⟨inB_n (by omega) (by omega), coinsOf_l hs hz m o hp hK n (s + 1) (by omega)⟩
theorem P_taken (hs : GS g) (o : OKS S) (v1 v2 : Int32) : Pair g S m11_taken m12_taken [.int v1, .int v2] := by
  have p5 := o.1.2.1
  have n6 := o.1.1
  have N1 : ¬ iN 1 = iN 0 := fun q => absurd ((iN_inj (by omega) (by omega)).mp q) (by omega)
  by_cases h2 : inR v2 (iN 0) (iN 6)
  · obtain ⟨w, rfl, _, hw⟩ := (inR_nat (by omega) (by omega)).mp h2
    by_cases h1 : inR v1 (iN 0) (iN 10)
    · obtain ⟨i, rfl, _, hi⟩ := (inR_nat (by omega) (by omega)).mp h1
      by_cases h5 : 5 ≤ i
      · have q5 : iN 5 ≤ iN i := (iN_le (by omega) (by omega)).mpr h5
        by_cases hS : i - 5 < sNs S
        · have hin : inR (iN (i - 5)) (iN 0) (iN (sNs S) - iN 1) := (inR_idn (by omega) (by omega)).mpr hS
          have bk := (o.2.1 (i - 5)).1
          by_cases hu : w < 6 ∧ undB (S.1 1 (i - 5)) w
          · refine ⟨iN (i - 5), S, o, fun d z I K hz c hK => ?_, fun d z I K hz m hK => ?_⟩
            · obtain ⟨⟨q, e, so⟩, hk, -⟩ := c.so.2.1 _ hS
              refine v11_taken hs hz (gT h2 (gT h1 (gT q5 ?_)))
              rw [iN_sub h5]
              exact gN c.ns n6 (by omega) hS rfl ⟨q, e, c_isOfKind hs so hk hw (fun _ => gF N1 (hK.i c)) (fun x => absurd hu x)⟩
            · refine v12_taken hs hz (gT h2 (gT h1 (gT q5 ?_)))
              rw [iN_sub h5, m.ns, iN_lt (by omega) (by omega), iN_toN (by omega), m.2.2.1]
              exact gT hS (gF (fun q => absurd ((iN_le (by omega) (by omega)).mp q) (by omega)) ⟨inB_n (by omega) (by omega), c_isUnder hs bk hu.1 (fun _ => gF N1 (hK.i m)) (fun x => absurd hu.2 x)⟩)
          · refine ⟨iM 13, S, o, fun d z I K hz c hK => ?_, fun d z I K hz m hK => ?_⟩
            · obtain ⟨⟨q, e, so⟩, hk, -⟩ := c.so.2.1 _ hS
              refine v11_taken hs hz (gT h2 (gT h1 (gT q5 ?_)))
              rw [iN_sub h5]
              exact gN c.ns n6 (by omega) hS rfl ⟨q, e, c_isOfKind hs so hk hw (fun x => absurd x hu) (fun _ => gT rfl (hK.i c))⟩
            · refine v12_taken hs hz (gT h2 (gT h1 (gT q5 ?_)))
              rw [iN_sub h5, m.ns, iN_lt (by omega) (by omega), iN_toN (by omega), m.2.2.1, iN_le (by omega) (by omega)]
              refine gT hS ⟨fun _ => hK.i m, fun x => ⟨inB_n (by omega) (by omega), c_isUnder hs bk (by omega) (fun y => absurd ⟨by omega, y⟩ hu) (fun _ => gT rfl (hK.i m))⟩⟩
        · have hin : ¬ inR (iN (i - 5)) (iN 0) (iN (sNs S) - iN 1) := fun q => hS ((inR_idn (by omega) (by omega)).mp q)
          refine ⟨iM 11, S, o, fun d z I K hz c hK => ?_, fun d z I K hz m hK => ?_⟩
          · refine v11_taken hs hz (gT h2 (gT h1 (gT q5 ?_)))
            rw [iN_sub h5]
            exact gNn c.ns n6 hin (hK.i c)
          · refine v12_taken hs hz (gT h2 (gT h1 (gT q5 ?_)))
            rw [iN_sub h5, m.ns, iN_lt (by omega) (by omega)]
            exact gF hS (hK.i m)
      · have q5 : ¬ iN 5 ≤ iN i := fun q => h5 ((iN_le (by omega) (by omega)).mp q)
        by_cases hP : i < sNp S
        · have hb := o.b i
          have e6 : sumN (sHas S i) 6 = sumN (sHas S i) (sNs S) := sumN6 n6 (fun s a b => o.2.2.1.2 i s (by omega) b a)
          have hsm : sumN (sHas S i) (sNs S) ≤ 6 * 99 := Nat.le_trans (sumN_le (b := 99) (fun s hs' => hb s (by omega))) (Nat.mul_le_mul_right _ n6)
          refine ⟨if sumN (sHas S i) (sNs S) = 0 then iM 11 else if w = 6 then iN (sumN (sHas S i) (sNs S)) else iM 13, S, o, fun d z I K hz c hK => ?_, fun d z I K hz m hK => ?_⟩
          · have hr := c.pu (p := i) (by omega)
            refine v11_taken hs hz (gT h2 (gT h1 (gF q5 (gN c.np p5 (by omega) hP rfl (c_coins hs (hz.purse (by omega)) hr ?_)))))
            rw [e6, iN_inj (by omega) (by omega), iN_inj (by omega) (by omega)]
            refine ⟨fun q => ?_, fun q => ⟨fun q2 => c_coins hs (hz.purse (by omega)) hr ?_, fun q2 => ?_⟩⟩
            · rw [if_pos q] at hK; exact hK.i c
            · rw [if_neg q, if_pos q2] at hK; rw [e6]; exact hK.i c
            · rw [if_neg q, if_neg q2] at hK; exact hK.i c
          · refine v12_taken hs hz (gT h2 (gT h1 (gF q5 ?_)))
            rw [m.np, iN_le (by omega) (by omega)]
            refine ⟨fun q => absurd q (by omega), fun _ => v12_coinsOf hs (coinsOf_l hs hz m o (by omega) ?_ (sNs S) 0 (by omega))⟩
            rw [iN_inj (by omega) (by omega), iN_inj (by omega) (by omega)]
            refine ⟨fun q => ?_, fun q => ⟨fun q2 => ?_, fun q2 => ?_⟩⟩
            · rw [if_pos q] at hK; exact hK.i m
            · rw [if_neg q, if_pos q2] at hK; exact hK.i m
            · rw [if_neg q, if_neg q2] at hK; exact hK.i m
        · have hin : ¬ inR (iN i) (iN 0) (iN (sNp S) - iN 1) := fun q => hP ((inR_idn (by omega) (by omega)).mp q)
          refine ⟨iM 11, S, o, fun d z I K hz c hK => v11_taken hs hz (gT h2 (gT h1 (gF q5 (gNn c.np p5 hin (hK.i c))))), fun d z I K hz m hK => v12_taken hs hz (gT h2 (gT h1 (gF q5 ?_)))⟩
          rw [m.np, iN_le (by omega) (by omega)]
          exact ⟨fun _ => hK.i m, fun q => absurd q (by omega)⟩
    · exact ⟨iM 12, S, o, fun d z I K hz c hK => v11_taken hs hz (gT h2 (gF h1 (hK.i c))), fun d z I K hz m hK => v12_taken hs hz (gT h2 (gF h1 (hK.i m)))⟩
  · exact ⟨iM 2, S, o, fun d z I K hz c hK => v11_taken hs hz (gF h2 (hK.i c)), fun d z I K hz m hK => v12_taken hs hz (gF h2 (hK.i m))⟩
end PJ
