/-! pairs: sheet, cell, film, taken -/
/-- a sheet is another -/
def shU (S : AS) (s : Nat) (f : Int32) (n : Nat) (r : Nat → Int32) : AS := (up1 S.1 9 (up1 (S.1 9) s n), up1 S.2.1 s f, fun i => if i / 40 = s then r (i % 40) else S.2.2 i)
theorem SrO.cg2 {z : Zs} {I J : Is} {ns : Nat} {kd tl mo : Nat → Nat} (h : SrO z I ns kd tl mo) (e : ∀ q k, zT z q = kcl k → J q = I q) : SrO z J ns kd tl mo :=
  ⟨h.1, fun s hs => ⟨(h.2.1 s hs).1.imp fun q hq => ⟨hq.1, hq.2.cg (e q _ hq.2.1)⟩, (h.2.1 s hs).2⟩, h.2.2⟩
theorem kcl_7 (k : Nat) : kcl k ≠ 7 := by unfold kcl; split <;> omega
section PI
variable {g : Gt} {d : Nat} {z : Zs} {I J : Is} {S : AS}
theorem OKS.uSh {s n : Nat} {f : Int32} {r : Nat → Int32} (o : OKS S) (hn : n ≤ 40) : OKS (shU S s f n r) := ⟨o.1, o.2.1, o.2.2.1, o.2.2.2.1, o.2.2.2.2.1, o.2.2.2.2.2.1, fun t ht => by
  show up1 (S.1 9) s n t ≤ 40
  unfold up1; split
  · exact hn
  · exact o.2.2.2.2.2.2 t ht⟩
theorem CI.uSh {s n : Nat} {f : Int32} {r : Nat → Int32} (c : CI z I S) (hz : Sh z) (h4 : s < 4) (h : ∀ k, ¬ Scr z k → k ≠ 89 + 2 * s → k ≠ 89 + 2 * s + 1 → J k = I k) (h1 : J (89 + 2 * s) 1 = f) (h2 : J (89 + 2 * s) 2 = iN n) (h3 : ∀ i, i < 40 → J (89 + 2 * s + 1) i = r i) : CI z J (shU S s f n r) := by
  have fx : ∀ k, k < 97 → k ∉ [13, 14, 15, 17, 18, 19, 48, 51, 52, 54, 55, 56, 59, 60, 62, 63, 64, 67, 68, 70, 71, 72, 75, 76, 78, 79, 80, 83, 84, 86, 87, 88] → k ≠ 89 + 2 * s → k ≠ 89 + 2 * s + 1 → J k = I k := fun k a b e e2 => h k (c.ns_fix a b) e e2
  have ts := hz.sheet h4
  obtain ⟨a1, a2, a3, a4, a5, a6, a7⟩ := id c
  refine ⟨?_, a2.cg2 (fun q k hq => h q (c.ns_sort hz (by rw [hq]; exact kcl_lt k)) (fun e => ?_) (fun e => ?_)), fun p hp => (a3 p hp).cg (fx _ (by omega) (by simp; omega) (by omega) (by omega)), ⟨fun p hp => (a4.1 p hp).cg (fx _ (by omega) (by simp; omega) (by omega) (by omega)), ?_⟩, ?_, ⟨fun t ht => ?_, a6.2⟩, fun t ht => ?_⟩
  · rw [fx 8 (by omega) (by decide) (by omega) (by omega), fx 22 (by omega) (by decide) (by omega) (by omega)]; exact a1
  · have := ts.t; rw [← e, hq] at this; exact kcl_7 _ this
  · have := ts.t1; rw [← e, hq] at this; have := kcl_lt k; omega
  · rw [fx 26 (by omega) (by decide) (by omega) (by omega)]; exact a4.2
  · rw [fx 23 (by omega) (by decide) (by omega) (by omega)]; exact a5
  · obtain ⟨t6, a, e, r⟩ := a6.1 t ht
    have ra := r.2.1
    refine ⟨t6, a, e, r.1, r.2.1, fun p hp => ?_, r.2.2.2.1, fun k hk => ?_⟩
    · rw [h _ (c.ns_tx hz t6 e).2 (by omega) (by omega)]; exact r.2.2.1 p hp
    · rw [h _ (c.ns_tx hz t6 e).1 (by omega) (by omega)]; exact r.2.2.2.2 k hk
  · show J (89 + 2 * t) 1 = up1 S.2.1 s f t ∧ J (89 + 2 * t) 2 = iN (up1 (S.1 9) s n t) ∧ ∀ i, i < 40 → J (89 + 2 * t + 1) i = if (40 * t + i) / 40 = s then r ((40 * t + i) % 40) else S.2.2 (40 * t + i)
    by_cases w : t = s
    · subst w
      rw [up1_s, up1_s]
      refine ⟨h1, h2, fun i hi => ?_⟩
      rw [if_pos (by omega), show (40 * t + i) % 40 = i by omega]; exact h3 i hi
    · rw [up1_o _ w, up1_o _ w, fx (89 + 2 * t) (by omega) (by simp; omega) (by omega) (by omega), fx (89 + 2 * t + 1) (by omega) (by simp; omega) (by omega) (by omega)]
      refine ⟨(a7 t ht).1, (a7 t ht).2.1, fun i hi => ?_⟩
      rw [if_neg (by omega)]; exact (a7 t ht).2.2 i hi
theorem MI.uSh {s n : Nat} {f : Int32} {r : Nat → Int32} (m : MI I S) (h4 : s < 4) (h : ∀ k, 101 ≤ k → k ≤ 114 → k < 110 ∨ 112 < k → J k = I k) (h1 : ∀ i, J 110 i = up1 S.2.1 s f i) (h2 : ∀ i, J 111 i = iN (up1 (S.1 9) s n i)) (h3 : ∀ i, J 112 i = if i / 40 = s then r (i % 40) else S.2.2 i) : MI J (shU S s f n r) := by
  obtain ⟨m1, m2, m3, m4, m5, m6, m7, m8, m9, m10, m11, m12, m13, m14⟩ := m
  refine ⟨?_, ?_, ?_, ?_, ?_, ?_, ?_, ?_, ?_, ?_, h1, h2, h3, ?_⟩
  · rw [h 101 (by omega) (by omega) (by omega)]; exact m1
  · rw [h 101 (by omega) (by omega) (by omega)]; exact m2
  · rw [h 102 (by omega) (by omega) (by omega)]; exact m3
  · rw [h 103 (by omega) (by omega) (by omega)]; exact m4
  · rw [h 104 (by omega) (by omega) (by omega)]; exact m5
  · rw [h 105 (by omega) (by omega) (by omega)]; exact m6
  · rw [h 106 (by omega) (by omega) (by omega)]; exact m7
  · rw [h 107 (by omega) (by omega) (by omega)]; exact m8
  · rw [h 108 (by omega) (by omega) (by omega)]; exact m9
  · rw [h 109 (by omega) (by omega) (by omega)]; exact m10
  · rw [h 114 (by omega) (by omega) (by omega)]; exact m14
theorem c_shBecome {s n : Nat} {f : Int32} {K : Is → Prop} (hs : GS g) (hz : Sh z) (h4 : s < 4) (hK : ∀ J, Of [89 + 2 * s, 89 + 2 * s + 1] I J → J (89 + 2 * s) 1 = f → J (89 + 2 * s) 2 = iN n → (∀ i, i < 40 → J (89 + 2 * s + 1) i = iN 0) → K J) : Wv g m7_become (d + 1) [.ref (89 + 2 * s), .int f, .int (iN n)] z I K := by
  refine v7_become hs (hz.sheet h4) (c_fill hs (hz.sheet h4).t1 (hz.sheet h4).l1 (by omega) (fun J hJ h0 _ => ?_))
  refine hK J (((Of.rf _ I).upt (by simp) _ _).upt (by simp) _ _ |>.tr (hJ.mo (by simp))) ?_ ?_ h0
  · rw [hJ _ (by simp), up2_ra, up1_o _ (by omega), up2_ra, up1_s]
  · rw [hJ _ (by simp), up2_ra, up1_s]
theorem msheet_l {s : Nat} {K : Int32 → Is → Prop} (hs : GS g) (hz : Sh z) (h4 : s < 4) (hK : ∀ J, Of [112] I J → (∀ i, J 112 i = if i / 40 = s then iN 0 else I 112 i) → K (iN 1) J) : ∀ (n i : Nat) (J : Is), i + n = 40 → Of [112] I J → (∀ j, J 112 j = if j / 40 = s ∧ j % 40 < i then iN 0 else I 112 j) → WPc g m12_sheet (d + 2) 0 0 70 [(0, .ref 101), (1, .int (iN s)), (4, .int (iN i))] [] z J (Qi z K)
  | 0, i, J, e, hJ, h1 => by
    obtain rfl : i = 40 := by omega
    refine v12_sheet_70 hs hz ⟨fun _ => hK J hJ (fun j => ?_), fun c => absurd ((iN_le (by omega) (by omega)).mpr (Nat.le_refl _)) c⟩
    rw [h1 j]
    by_cases w : j / 40 = s
    · rw [if_pos ⟨w, Nat.mod_lt _ (by omega)⟩, if_pos w]
    · rw [if_neg (fun q => w q.1), if_neg w]
  | n + 1, i, J, e, hJ, h1 => by
    refine v12_sheet_70 hs hz ⟨fun c => ?_, fun c => ?_⟩
    · rw [iN_le (by omega) (by omega)] at c; omega
    · rw [iN_mul, iN_add, iN_toN (by omega), iN_add]
      refine ⟨inB_n (by omega) (by omega), msheet_l hs hz h4 hK n (i + 1) _ (by omega) (hJ.upt (by simp) _ _) (fun j => ?_)⟩
      rw [up2_ra]; unfold up1
      by_cases w : j = 40 * s + i
      · rw [if_pos w, if_pos ⟨by omega, by omega⟩]
      · rw [if_neg w, h1 j]
        by_cases w2 : j / 40 = s ∧ j % 40 < i
        · rw [if_pos w2, if_pos ⟨w2.1, by omega⟩]
        · rw [if_neg w2, if_neg (by omega)]
theorem P_sheet (hs : GS g) (o : OKS S) (v1 v2 v3 : Int32) : Pair g S m11_sheet m12_sheet [.int v1, .int v2, .int v3] := by
  by_cases h1 : inR v1 (iN 0) (iN 3)
  · obtain ⟨s, rfl, _, hs3⟩ := (inR_nat (by omega) (by omega)).mp h1
    -- the sheet becomes n of f, all 0
    have fin : ∀ (n : Nat) (f : Int32), n ≤ 40 → OKS (shU S s f n (fun _ => iN 0)) := fun n f hn => o.uSh hn
    have M : ∀ (n : Nat) (f : Int32) (d : Nat) (z : Zs) (I : Is) (K : Int32 → Is → Prop), n ≤ 40 → Sh z → MI I S → KM I (shU S s f n (fun _ => iN 0)) (K (iN 1)) → WPc g m12_sheet (d + 20) 0 0 70 [(0, .ref 101), (1, .int (iN s)), (4, .int (iN 0))] [] z (up2 (up2 I 110 (iN s).toNatClampNeg f) 111 (iN s).toNatClampNeg (iN n)) (Qi z K) := fun n f d z I K hn hz m hK => by
      rw [iN_toN (by omega)]
      refine msheet_l hs hz (by omega) (fun J hJ h2 => ?_) 40 0 _ rfl (Of.rf _ _) (fun j => by rw [if_neg (by omega)])
      have hO : Of [110, 111, 112] I J := (((Of.rf _ I).upt (by simp) _ _).upt (by simp) _ _).tr (hJ.mo (by simp))
      refine hK J (m.uSh (by omega) (fun k a b e => hO k (by simp; omega)) (fun i => ?_) (fun i => ?_) (fun i => ?_)) (KeepC.of hO)
      · rw [hJ 110 (by simp), up2_ro _ (by omega), up2_ra]; unfold up1; split
        · rfl
        · exact m.sf i
      · rw [hJ 111 (by simp), up2_ra, up2_ro _ (by omega)]; unfold up1; split
        · rfl
        · exact m.sz i
      · rw [h2 i, up2_ro _ (by omega), up2_ro _ (by omega), m.sc]
    have C : ∀ (n : Nat) (f : Int32) (d : Nat) (z : Zs) (I : Is) (K : Int32 → Is → Prop), Sh z → CI z I S → KC z I (shU S s f n (fun _ => iN 0)) (K (iN 1)) → Wv g m7_become (d + 19) [.ref (89 + 2 * s), .int f, .int (iN n)] z I (fun J => K (iN 1) J) := fun n f d z I K hz c hK =>
      c_shBecome hs hz (by omega) (fun J hJ a b e => hK J (c.uSh hz (by omega) (fun k _ e1 e2 => hJ k (by simp; omega)) a b e) (KeepM.of hJ (by simp; omega)))
    by_cases h2 : inR v2 (iM 1) (iN 2)
    · by_cases hm : v2 = iM 1
      · refine ⟨iN 1, shU S s (iM 1) 0 (fun _ => iN 0), fin _ _ (by omega), fun d z I K hz c hK => v11_sheet hs hz (g4 (by omega) rfl (gT h2 (gT hm (C 0 (iM 1) d z I K hz c hK)))), fun d z I K hz m hK => ?_⟩
        refine v12_sheet hs (gT h1 (gT h2 (gT hm (v12_sheet_32 hs (gT hm (v12_sheet_44 hs hz ⟨inB_n (by omega) (by omega), gT hm ?_⟩))))))
        rw [hm]
        exact M 0 (iM 1) d z I K (by omega) hz m hK
      · by_cases h3 : v3 ≤ iN 40
        · by_cases h0 : iN 0 ≤ v3
          · obtain ⟨n, rfl, _, hn⟩ := (inR_nat (by omega) (by omega)).mp (show inR v3 (iN 0) (iN 40) from ⟨h0, h3⟩)
            refine ⟨iN 1, shU S s v2 n (fun _ => iN 0), fin _ _ hn, fun d z I K hz c hK => v11_sheet hs hz (g4 (by omega) rfl (gT h2 (gF hm (gT h3 (gT h0 (C n v2 d z I K hz c hK)))))), fun d z I K hz m hK => ?_⟩
            exact v12_sheet hs (gT h1 (gT h2 (gF hm (gT h3 (v12_sheet_32 hs (gF hm (gT h0 (v12_sheet_44 hs hz ⟨inB_n (by omega) (by omega), gF hm (M n v2 d z I K hn hz m hK)⟩))))))))
          · exact ⟨iM 14, S, o, fun d z I K hz c hK => v11_sheet hs hz (g4 (by omega) rfl (gT h2 (gF hm (gT h3 (gF h0 (hK.i c)))))), fun d z I K hz m hK => v12_sheet hs (gT h1 (gT h2 (gF hm (gT h3 (v12_sheet_32 hs (gF hm (gF h0 (hK.i m))))))))⟩
        · exact ⟨iM 2, S, o, fun d z I K hz c hK => v11_sheet hs hz (g4 (by omega) rfl (gT h2 (gF hm (gF h3 (hK.i c))))), fun d z I K hz m hK => v12_sheet hs (gT h1 (gT h2 (gF hm (gF h3 (hK.i m)))))⟩
    · exact ⟨iM 2, S, o, fun d z I K hz c hK => v11_sheet hs hz (g4 (by omega) rfl (gF h2 (hK.i c))), fun d z I K hz m hK => v12_sheet hs (gT h1 (gF h2 (hK.i m)))⟩
  · exact ⟨iM 2, S, o, fun d z I K hz c hK => v11_sheet hs hz (g4n h1 (hK.i c)), fun d z I K hz m hK => v12_sheet hs (gF h1 (hK.i m))⟩
-- one cell
theorem c_holds {s : Nat} {v w : Int32} {K : Int32 → Is → Prop} (hs : GS g) (hz : Sh z) (c : CI z I S) (o : OKS S) (h4 : s < 4) (h1 : ∀ i n, v = iN i → w = iN n → i + n ≤ S.1 9 s → K (iN 1) I) (h0 : (∀ i n, v = iN i → w = iN n → i + n ≤ S.1 9 s → False) → K (iN 0) I) : Wi g m7_holds d [.ref (89 + 2 * s), .int v, .int w] z I K := by
  have hsz := o.2.2.2.2.2.2 s h4
  refine v7_holds hs (hz.sheet h4) ⟨fun q => h0 (fun i n e _ hin => ?_), fun a => ⟨fun q => h0 (fun i n _ e hin => ?_), fun b => ?_⟩⟩
  · rw [e] at q; exact absurd ((iN_lt (by omega) (by omega)).mp q) (by omega)
  · rw [e] at q; exact absurd ((iN_lt (by omega) (by omega)).mp q) (by omega)
  · obtain ⟨i, rfl, hi⟩ := lt0_of a
    obtain ⟨n, rfl, hn⟩ := lt0_of b
    rw [(c.sh h4).2.1, iN_lt (by omega) (by omega)]
    refine ⟨fun q => h0 (fun i' n' e1 e2 hin => ?_), fun q => ?_⟩
    · have : n = n' ∨ 2147483648 ≤ n' := by
        by_cases w : n' < 2147483648
        · exact Or.inl ((iN_inj hn w).mp e2)
        · exact Or.inr (by omega)
      omega
    · rw [iN_sub (by omega), iN_lt (by omega) (by omega)]
      refine ⟨fun q2 => h0 (fun i' n' e1 e2 hin => ?_), fun q2 => h1 i n rfl rfl (by omega)⟩
      have a1 := (iN_inj hn (by omega)).mp e2
      have a2 := (iN_inj hi (by omega)).mp e1
      omega
/-- what a sheet of a sort keeps of a number -/
def cutI (f v : Int32) : Int32 := if f = iN 0 then v.toInt8.toInt32 else if f = iN 1 then v.toInt16.toInt32 else v
theorem c_shPut {s i : Nat} {v : Int32} {K : Is → Prop} (hs : GS g) (hz : Sh z) (c : CI z I S) (o : OKS S) (h4 : s < 4) (hi : i < S.1 9 s) (hK : K (up2 I (89 + 2 * s + 1) i (cutI (S.2.1 s) v))) : Wv g m7_put (d + 1) [.ref (89 + 2 * s), .int (iN i), .int v] z I K := by
  have hsz := o.2.2.2.2.2.2 s h4
  refine v7_put hs (hz.sheet h4) (c_holds1 hs hz c o h4 hi (gF (fun q => absurd ((iN_inj (by omega) (by omega)).mp q) (by omega)) ?_))
  rw [(c.sh h4).1, iN_toN (by omega)]
  unfold cutI at hK
  refine ⟨fun q => ⟨inB_n (by omega) (by omega), ?_⟩, fun q => ⟨fun q2 => ⟨inB_n (by omega) (by omega), ?_⟩, fun q2 => ⟨inB_n (by omega) (by omega), ?_⟩⟩⟩
  · rw [if_pos q] at hK; exact hK
  · rw [if_neg q, if_pos q2] at hK; exact hK
  · rw [if_neg q, if_neg q2] at hK; exact hK
/-- one number of a sheet is another -/
def clU (S : AS) (j : Nat) (v : Int32) : AS := (S.1, S.2.1, up1 S.2.2 j v)
theorem CI.uCl {s i : Nat} {v : Int32} (c : CI z I S) (hz : Sh z) (h4 : s < 4) (hi : i < 40) : CI z (up2 I (89 + 2 * s + 1) i v) (clU S (40 * s + i) v) := by
  have ts := hz.sheet h4
  have h : ∀ k, k ≠ 89 + 2 * s + 1 → up2 I (89 + 2 * s + 1) i v k = I k := fun k hk => up2_ro I hk _ _
  obtain ⟨a1, a2, a3, a4, a5, a6, a7⟩ := id c
  refine ⟨?_, a2.cg (fun q hq => h q (fun e => ?_)), fun p hp => (a3 p hp).cg (h _ (by omega)), ⟨fun p hp => (a4.1 p hp).cg (h _ (by omega)), ?_⟩, ?_, ⟨fun t ht => ?_, a6.2⟩, fun t ht => ?_⟩
  · rw [h 8 (by omega), h 22 (by omega)]; exact a1
  · have := ts.t1; rw [← e] at this; omega
  · rw [h 26 (by omega)]; exact a4.2
  · rw [h 23 (by omega)]; exact a5
  · obtain ⟨t6, a, e, r⟩ := a6.1 t ht
    have ra := r.2.1
    refine ⟨t6, a, e, r.1, r.2.1, fun p hp => ?_, r.2.2.2.1, fun k hk => ?_⟩
    · rw [h _ (by omega)]; exact r.2.2.1 p hp
    · rw [h _ (by omega)]; exact r.2.2.2.2 k hk
  · rw [h (89 + 2 * t) (by omega)]
    refine ⟨(a7 t ht).1, (a7 t ht).2.1, fun j hj => ?_⟩
    show _ = up1 S.2.2 (40 * s + i) v (40 * t + j)
    by_cases w : t = s
    · subst w
      rw [up2_ra]; unfold up1
      by_cases w2 : j = i
      · rw [if_pos w2, if_pos (by omega)]
      · rw [if_neg w2, if_neg (by omega)]; exact (a7 t ht).2.2 j hj
    · rw [h _ (by omega), up1_o _ (by omega)]; exact (a7 t ht).2.2 j hj
theorem MI.uCl {j : Nat} {v : Int32} (m : MI I S) : MI (up2 I 112 j v) (clU S j v) := by
  have h : ∀ k, k ≠ 112 → up2 I 112 j v k = I k := fun k hk => up2_ro I hk _ _
  obtain ⟨m1, m2, m3, m4, m5, m6, m7, m8, m9, m10, m11, m12, m13, m14⟩ := m
  refine ⟨?_, ?_, ?_, ?_, ?_, ?_, ?_, ?_, ?_, ?_, ?_, ?_, fun i => ?_, ?_⟩
  · rw [h 101 (by omega)]; exact m1
  · rw [h 101 (by omega)]; exact m2
  · rw [h 102 (by omega)]; exact m3
  · rw [h 103 (by omega)]; exact m4
  · rw [h 104 (by omega)]; exact m5
  · rw [h 105 (by omega)]; exact m6
  · rw [h 106 (by omega)]; exact m7
  · rw [h 107 (by omega)]; exact m8
  · rw [h 108 (by omega)]; exact m9
  · rw [h 109 (by omega)]; exact m10
  · rw [h 110 (by omega)]; exact m11
  · rw [h 111 (by omega)]; exact m12
  · show up2 I 112 j v 112 i = up1 S.2.2 j v i
    rw [up2_ra]; unfold up1; split
    · rfl
    · exact m13 i
  · rw [h 114 (by omega)]; exact m14
theorem P_cell (hs : GS g) (o : OKS S) (v1 v2 v3 : Int32) : Pair g S m11_cell m12_cell [.int v1, .int v2, .int v3] := by
  have N1 : ¬ iN 1 = iN 0 := fun q => absurd ((iN_inj (by omega) (by omega)).mp q) (by omega)
  by_cases h1 : inR v1 (iN 0) (iN 3)
  · obtain ⟨s, rfl, _, hs3⟩ := (inR_nat (by omega) (by omega)).mp h1
    have hsz := o.2.2.2.2.2.2 s (by omega)
    by_cases hf : S.2.1 s = iM 1
    · refine ⟨iM 11, S, o, fun d z I K hz c hK => v11_cell hs hz (g4 (by omega) rfl (c_isMissing hs hz c (by omega) (fun _ => gF N1 (hK.i c)) (fun w => absurd hf w))), fun d z I K hz m hK => v12_cell hs hz (gT h1 ⟨inB_n (by omega) (by omega), ?_⟩)⟩
      rw [iN_toN (by omega), m.sf]
      exact gT hf (hK.i m)
    · by_cases h2 : inR v2 (iN 0) (iN (S.1 9 s) - iN 1)
      · obtain ⟨i, hi, rfl⟩ := (inR_dn (by omega)).mp h2
        refine ⟨iN 1, clU S (40 * s + i) (cutI (S.2.1 s) v3), o, fun d z I K hz c hK => ?_, fun d z I K hz m hK => v12_cell hs hz (gT h1 ⟨inB_n (by omega) (by omega), ?_⟩)⟩
        · refine v11_cell hs hz (g4 (by omega) rfl (c_isMissing hs hz c (by omega) (fun w => absurd w hf) (fun _ => gT rfl (c_holds1 hs hz c o (by omega) hi (gF N1 (c_shPut hs hz c o (by omega) hi ?_))))))
          exact hK _ (c.uCl hz (by omega) (by omega)) (fun k a b => up2_ro I (by omega) _ _)
        · rw [iN_toN (by omega), m.sf, m.sz, iN_mul, iN_add, iN_toN (by omega)]
          refine gF hf (gT h2 ?_)
          have hK2 : ∀ v, cutI (S.2.1 s) v3 = v → K (iN 1) (up2 I 112 (40 * s + i) v) := fun v e => by
            rw [← e]; exact hK _ m.uCl (fun k a => up2_ro I (by omega) _ _)
          refine ⟨fun q => ⟨inB_n (by omega) (by omega), hK2 _ (by unfold cutI; rw [if_pos q])⟩, fun q => ⟨fun q2 => ⟨inB_n (by omega) (by omega), hK2 _ (by unfold cutI; rw [if_neg q, if_pos q2])⟩, fun q2 => ⟨inB_n (by omega) (by omega), hK2 _ (by unfold cutI; rw [if_neg q, if_neg q2])⟩⟩⟩
      · refine ⟨iM 12, S, o, fun d z I K hz c hK => ?_, fun d z I K hz m hK => v12_cell hs hz (gT h1 ⟨inB_n (by omega) (by omega), ?_⟩)⟩
        · exact v11_cell hs hz (g4 (by omega) rfl (c_isMissing hs hz c (by omega) (fun w => absurd w hf) (fun _ => gT rfl (c_holds hs hz c o (by omega) (fun i n e1 e2 hin => absurd ((inR_dn (by omega)).mpr ⟨i, by
            by_cases w : n < 2147483648
            · have := (iN_inj (a := 1) (b := n) (by omega) w).mp e2; omega
            · omega, e1⟩) h2) (fun _ => gT rfl (hK.i c))))))
        · rw [iN_toN (by omega), m.sf, m.sz]
          exact gF hf (gF h2 (hK.i m))
  · exact ⟨iM 2, S, o, fun d z I K hz c hK => v11_cell hs hz (g4n h1 (hK.i c)), fun d z I K hz m hK => v12_cell hs hz (gF h1 (hK.i m))⟩
end PI
