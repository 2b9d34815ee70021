/-! the Model's constructor -/
def mpL : List Nat := [1, 2, 3, 5, 7, 9, 10, 18, 19, 20, 21, 22, 27, 28, 32, 33, 34, 35, 36, 37, 38, 39]
/-- of the Model p rows are made; what is before it stays -/
def ZR (z0 : Zs) (n p : Nat) (z : Zs) : Prop := zN z = 101 + n ∧ (∀ k, k < 101 → zT z k = zT z0 k ∧ zL z k = zL z0 k ∧ zP z k = zP z0 k) ∧ (∀ k t, 101 ≤ k → k < 101 + n → stg k = some t → zT z k = t) ∧ (∀ k l, 101 ≤ k → k < 101 + n → sln k = some l → zL z k = l) ∧ ∀ j, j < p → zP z 101 (mpL.getD j 0) = some (102 + j)
def cM (k : Nat) : Nat → Int32 := if k = 110 then (fun i => if i < 4 then iM 1 else 0) else if k = 113 then (fun i => iN (fxT i)) else if k = 114 then (fun i => iN (wrdN.getD i 0)) else fun _ => 0
def IR (J0 : Is) (n : Nat) (J : Is) : Prop := (∀ k, k < 101 → J k = J0 k) ∧ ∀ k, 101 ≤ k → k < 101 + n → J k = cM k
theorem ZR.stp {z0 z : Zs} {p l i : Nat} (hz : ZR z0 (p + 1) p z) (h1 : stg (102 + p) = some 100) (h2 : sln (102 + p) = some l) (hi : mpL.getD p 0 = i) (h3 : ∀ j, j < p → mpL.getD j 0 ≠ i) : ZR z0 (p + 2) (p + 1) (zPut (zNew z 100 l) 101 i (some (zN z))) := by
  obtain ⟨a1, a2, a3, a4, a5⟩ := hz
  refine ⟨by rw [zPut_N, zN_n]; omega, fun k hk => ⟨?_, ?_, ?_⟩, fun k t hk hk2 q => ?_, fun k t hk hk2 q => ?_, fun j hj => ?_⟩
  · rw [zPut_T, zT_o (by omega)]; exact (a2 k hk).1
  · rw [zPut_L, zL_o (by omega)]; exact (a2 k hk).2.1
  · rw [zPut_o (by omega), ← (a2 k hk).2.2]; exact funext (fun i => zP_o (by omega) i)
  · rw [zPut_T]
    by_cases w : k = zN z
    · rw [w, zT_s]; rw [w, a1, show 101 + (p + 1) = 102 + p by omega, h1] at q; cases q; rfl
    · rw [zT_o w]; exact a3 k t hk (by omega) q
  · rw [zPut_L]
    by_cases w : k = zN z
    · rw [w, zL_s]; rw [w, a1, show 101 + (p + 1) = 102 + p by omega, h2] at q; cases q; rfl
    · rw [zL_o w]; exact a4 k t hk (by omega) q
  · by_cases w : j = p
    · rw [w, hi, zPut_s, a1]; congr 1; omega
    · rw [zPut_i (h3 j (by omega)), zP_o (by omega)]; exact a5 j (by omega)
theorem ZR.tg {z0 z : Zs} {p n l c : Nat} (hz : ZR z0 (n + 1) p z) : tagB [12] (zT (zNew z c l) 101) = true := by
  rw [zT_o (by have := hz.1; omega), hz.2.2.1 101 12 (by omega) (by omega) rfl]; rfl
theorem IR.stp {J0 I J : Is} {p m : Nat} (h : IR J0 (p + 1) I) (hm : m = 101 + (p + 1)) (h1 : ∀ k, k ≠ m → J k = I k) (h2 : J m = cM m) : IR J0 (p + 2) J := by
  refine ⟨fun k hk => by rw [h1 k (by omega)]; exact h.1 k hk, fun k a b => ?_⟩
  by_cases w : k = m
  · rw [w]; exact h2
  · rw [h1 k w]; exact h.2 k a (by omega)
theorem cM_0 {I : Is} {m : Nat} (h1 : m ≠ 110) (h2 : m ≠ 113) (h3 : m ≠ 114) : nI0 I m m = cM m := by
  unfold cM
  rw [if_neg h1, if_neg h2, if_neg h3]
  funext i
  show (if m = m then 0 else _) = _
  rw [if_pos rfl]
def upl (J : Is) (k : Nat) : Nat → List Nat → Is
  | _, [] => J
  | s, x :: l => upl (up2 J k s (iN x)) k (s + 1) l
theorem upl_o {q k : Nat} (h : q ≠ k) : ∀ (l : List Nat) (J : Is) (s : Nat), upl J k s l q = J q
  | [], _, _ => rfl
  | x :: l, J, s => by
    show upl (up2 J k s (iN x)) k (s + 1) l q = J q
    rw [upl_o h l, up2_ro _ h]
theorem upl_s {k : Nat} (i : Nat) : ∀ (l : List Nat) (J : Is) (s : Nat), upl J k s l k i = if s ≤ i ∧ i < s + l.length then iN (l.getD (i - s) 0) else J k i
  | [], J, s => by
    show J k i = _
    rw [if_neg (by show ¬ (s ≤ i ∧ i < s + 0); omega)]
  | x :: l, J, s => by
    show upl (up2 J k s (iN x)) k (s + 1) l k i = _
    rw [upl_s i l, List.length_cons]
    by_cases a : s + 1 ≤ i ∧ i < s + 1 + l.length
    · rw [if_pos a, if_pos (by omega), show i - s = (i - (s + 1)) + 1 by omega]; rfl
    · rw [if_neg a, up2_ra]
      unfold up1
      by_cases b : i = s
      · rw [if_pos b, if_pos (by omega), b, Nat.sub_self]; rfl
      · rw [if_neg b, if_neg (by omega)]
theorem upl_c {I : Is} {m : Nat} {l : List Nat} : upl (nI0 I m) m 0 l m = fun i => iN (l.getD i 0) := by
  funext i
  rw [upl_s, Nat.sub_zero, Nat.zero_add]
  by_cases a : i < l.length
  · rw [if_pos ⟨by omega, a⟩]
  · rw [if_neg (by omega)]
    show (if m = m then 0 else _) = _
    rw [if_pos rfl, List.getD_eq_getElem?_getD, List.getElem?_eq_none (by omega)]; rfl
section MM
variable {g : Gt} {d : Nat} {z0 z : Zs} {J0 I : Is} {K : Zs → Is → Prop}
theorem k12_0 (hs : GS g) (hz : ZR z0 1 0 z) (hI : IR J0 1 I) (hK : ∀ z I, ZR z0 2 1 z → IR J0 2 I → WPc g m12_init (d + 6) 21 2218 12 [(0, .ref 101)] [] z I (Zv K)) : WPv g m12_init (d + 6) 22 2224 [.ref 101] z I K := by
  have e : zN z = 102 := hz.1
  exact v12_init hs ⟨hz.tg, hK _ _ (hz.stp rfl rfl rfl (by decide)) (hI.stp hz.1 (fun k hk => nI0_o _ hk) (cM_0 (by omega) (by omega) (by omega)))⟩
theorem k12_12 (hs : GS g) (hz : ZR z0 2 1 z) (hI : IR J0 2 I) (hK : ∀ z I, ZR z0 3 2 z → IR J0 3 I → WPc g m12_init (d + 6) 20 2212 20 [(0, .ref 101)] [] z I (Zv K)) : WPc g m12_init (d + 6) 21 2218 12 [(0, .ref 101)] [] z I (Zv K) := by
  have e : zN z = 103 := hz.1
  exact v12_init_12 hs ⟨hz.tg, hK _ _ (hz.stp rfl rfl rfl (by decide)) (hI.stp hz.1 (fun k hk => nI0_o _ hk) (cM_0 (by omega) (by omega) (by omega)))⟩
theorem k12_20 (hs : GS g) (hz : ZR z0 3 2 z) (hI : IR J0 3 I) (hK : ∀ z I, ZR z0 4 3 z → IR J0 4 I → WPc g m12_init (d + 6) 19 2206 28 [(0, .ref 101)] [] z I (Zv K)) : WPc g m12_init (d + 6) 20 2212 20 [(0, .ref 101)] [] z I (Zv K) := by
  have e : zN z = 104 := hz.1
  exact v12_init_20 hs ⟨hz.tg, hK _ _ (hz.stp rfl rfl rfl (by decide)) (hI.stp hz.1 (fun k hk => nI0_o _ hk) (cM_0 (by omega) (by omega) (by omega)))⟩
theorem k12_28 (hs : GS g) (hz : ZR z0 4 3 z) (hI : IR J0 4 I) (hK : ∀ z I, ZR z0 5 4 z → IR J0 5 I → WPc g m12_init (d + 6) 18 2176 36 [(0, .ref 101)] [] z I (Zv K)) : WPc g m12_init (d + 6) 19 2206 28 [(0, .ref 101)] [] z I (Zv K) := by
  have e : zN z = 105 := hz.1
  exact v12_init_28 hs ⟨hz.tg, hK _ _ (hz.stp rfl rfl rfl (by decide)) (hI.stp hz.1 (fun k hk => nI0_o _ hk) (cM_0 (by omega) (by omega) (by omega)))⟩
theorem k12_36 (hs : GS g) (hz : ZR z0 5 4 z) (hI : IR J0 5 I) (hK : ∀ z I, ZR z0 6 5 z → IR J0 6 I → WPc g m12_init (d + 6) 17 2016 45 [(0, .ref 101)] [] z I (Zv K)) : WPc g m12_init (d + 6) 18 2176 36 [(0, .ref 101)] [] z I (Zv K) := by
  have e : zN z = 106 := hz.1
  exact v12_init_36 hs ⟨hz.tg, hK _ _ (hz.stp rfl rfl rfl (by decide)) (hI.stp hz.1 (fun k hk => nI0_o _ hk) (cM_0 (by omega) (by omega) (by omega)))⟩
theorem k12_45 (hs : GS g) (hz : ZR z0 6 5 z) (hI : IR J0 6 I) (hK : ∀ z I, ZR z0 7 6 z → IR J0 7 I → WPc g m12_init (d + 6) 16 816 54 [(0, .ref 101)] [] z I (Zv K)) : WPc g m12_init (d + 6) 17 2016 45 [(0, .ref 101)] [] z I (Zv K) := by
  have e : zN z = 107 := hz.1
  exact v12_init_45 hs ⟨hz.tg, hK _ _ (hz.stp rfl rfl rfl (by decide)) (hI.stp hz.1 (fun k hk => nI0_o _ hk) (cM_0 (by omega) (by omega) (by omega)))⟩
theorem k12_54 (hs : GS g) (hz : ZR z0 7 6 z) (hI : IR J0 7 I) (hK : ∀ z I, ZR z0 8 7 z → IR J0 8 I → WPc g m12_init (d + 6) 15 792 62 [(0, .ref 101)] [] z I (Zv K)) : WPc g m12_init (d + 6) 16 816 54 [(0, .ref 101)] [] z I (Zv K) := by
  have e : zN z = 108 := hz.1
  exact v12_init_54 hs ⟨hz.tg, hK _ _ (hz.stp rfl rfl rfl (by decide)) (hI.stp hz.1 (fun k hk => nI0_o _ hk) (cM_0 (by omega) (by omega) (by omega)))⟩
theorem k12_62 (hs : GS g) (hz : ZR z0 8 7 z) (hI : IR J0 8 I) (hK : ∀ z I, ZR z0 9 8 z → IR J0 9 I → WPc g m12_init (d + 6) 14 762 70 [(0, .ref 101)] [] z I (Zv K)) : WPc g m12_init (d + 6) 15 792 62 [(0, .ref 101)] [] z I (Zv K) := by
  have e : zN z = 109 := hz.1
  exact v12_init_62 hs ⟨hz.tg, hK _ _ (hz.stp rfl rfl rfl (by decide)) (hI.stp hz.1 (fun k hk => nI0_o _ hk) (cM_0 (by omega) (by omega) (by omega)))⟩
theorem k12_70 (hs : GS g) (hz : ZR z0 9 8 z) (hI : IR J0 9 I) (hK : ∀ z I, ZR z0 10 9 z → IR J0 10 I → WPc g m12_init (d + 6) 13 758 93 [(0, .ref 101)] [] z I (Zv K)) : WPc g m12_init (d + 6) 14 762 70 [(0, .ref 101)] [] z I (Zv K) := by
  have e : zN z = 110 := hz.1
  have a : Nat.beq (zT (zNew z 100 4) (zN z)) 100 = true := by rw [zT_s]; rfl
  have b : ∀ j, j < 4 → inB (iN j) (zL (zNew z 100 4) (zN z)) = true := fun j hj => by rw [zL_s]; exact inB_n hj (by omega)
  refine v12_init_70 hs ⟨a, b 0 (by omega), a, b 1 (by omega), a, b 2 (by omega), a, b 3 (by omega), hz.tg, hK _ _ (hz.stp rfl rfl rfl (by decide)) (hI.stp hz.1 (fun k hk => by rw [up2_ro _ hk, up2_ro _ hk, up2_ro _ hk, up2_ro _ hk, nI0_o _ hk]) ?_)⟩
  rw [up2_ra, up2_ra, up2_ra, up2_ra]
  funext i
  have z9 : nI0 I (zN z) (zN z) i = 0 := by show (if zN z = zN z then 0 else _) = _; rw [if_pos rfl]
  unfold cM
  rw [if_pos e]
  show _ = if i < 4 then iM 1 else 0
  unfold up1
  by_cases q : i < 4
  · rw [if_pos q]
    obtain rfl | rfl | rfl | rfl : i = 0 ∨ i = 1 ∨ i = 2 ∨ i = 3 := by omega
    · rfl
    · rfl
    · rfl
    · rfl
  · rw [if_neg (by omega), if_neg (by omega), if_neg (by omega), if_neg (by omega), z9, if_neg q]
theorem k12_93 (hs : GS g) (hz : ZR z0 10 9 z) (hI : IR J0 10 I) (hK : ∀ z I, ZR z0 11 10 z → IR J0 11 I → WPc g m12_init (d + 6) 12 754 100 [(0, .ref 101)] [] z I (Zv K)) : WPc g m12_init (d + 6) 13 758 93 [(0, .ref 101)] [] z I (Zv K) := by
  have e : zN z = 111 := hz.1
  exact v12_init_93 hs ⟨hz.tg, hK _ _ (hz.stp rfl rfl rfl (by decide)) (hI.stp hz.1 (fun k hk => nI0_o _ hk) (cM_0 (by omega) (by omega) (by omega)))⟩
theorem k12_100 (hs : GS g) (hz : ZR z0 11 10 z) (hI : IR J0 11 I) (hK : ∀ z I, ZR z0 12 11 z → IR J0 12 I → WPc g m12_init (d + 6) 11 594 109 [(0, .ref 101)] [] z I (Zv K)) : WPc g m12_init (d + 6) 12 754 100 [(0, .ref 101)] [] z I (Zv K) := by
  have e : zN z = 112 := hz.1
  exact v12_init_100 hs ⟨hz.tg, hK _ _ (hz.stp rfl rfl rfl (by decide)) (hI.stp hz.1 (fun k hk => nI0_o _ hk) (cM_0 (by omega) (by omega) (by omega)))⟩
theorem k12_109 (hs : GS g) (hz : ZR z0 12 11 z) (hI : IR J0 12 I) (hK : ∀ z I, ZR z0 13 12 z → IR J0 13 I → WPc g m12_init (d + 6) 10 560 315 [(0, .ref 101)] [] z I (Zv K)) : WPc g m12_init (d + 6) 11 594 109 [(0, .ref 101)] [] z I (Zv K) := by
  have e : zN z = 113 := hz.1
  have a : Nat.beq (zT (zNew z 100 34) (zN z)) 100 = true := by rw [zT_s]; rfl
  have b : ∀ j, j < 34 → inB (iN j) (zL (zNew z 100 34) (zN z)) = true := fun j hj => by rw [zL_s]; exact inB_n hj (by omega)
  exact v12_init_109 hs ⟨a, b 0 (by omega), a, b 1 (by omega), a, b 2 (by omega), a, b 3 (by omega), a, b 4 (by omega), a, b 5 (by omega), a, b 6 (by omega), a, b 7 (by omega), a, b 8 (by omega), a, b 9 (by omega), a, b 10 (by omega), a, b 11 (by omega), a, b 12 (by omega), a, b 13 (by omega), a, b 14 (by omega), a, b 15 (by omega), a, b 16 (by omega), a, b 17 (by omega), a, b 18 (by omega), a, b 19 (by omega), a, b 20 (by omega), a, b 21 (by omega), a, b 22 (by omega), a, b 23 (by omega), a, b 24 (by omega), a, b 25 (by omega), a, b 26 (by omega), a, b 27 (by omega), a, b 28 (by omega), a, b 29 (by omega), a, b 30 (by omega), a, b 31 (by omega), a, b 32 (by omega), a, b 33 (by omega), hz.tg, hK _ (upl (nI0 I (zN z)) (zN z) 0 fxC) (hz.stp rfl rfl rfl (by decide)) (hI.stp hz.1 (fun k hk => by rw [upl_o hk, nI0_o _ hk]) (by rw [upl_c]; unfold cM; rw [if_neg (by rw [e]; omega), if_pos e]; rfl))⟩
set_option maxRecDepth 100000 in
theorem k12_315 (hs : GS g) (hz : ZR z0 13 12 z) (hI : IR J0 13 I) (hK : ∀ z I, ZR z0 14 13 z → IR J0 14 I → WPc g m12_init (d + 6) 9 464 893 [(0, .ref 101)] [] z I (Zv K)) : WPc g m12_init (d + 6) 10 560 315 [(0, .ref 101)] [] z I (Zv K) := by
  have e : zN z = 114 := hz.1
  have a : Nat.beq (zT (zNew z 100 96) (zN z)) 100 = true := by rw [zT_s]; rfl
  have b : ∀ j, j < 96 → inB (iN j) (zL (zNew z 100 96) (zN z)) = true := fun j hj => by rw [zL_s]; exact inB_n hj (by omega)
  exact v12_init_315 hs ⟨a, b 0 (by omega), a, b 1 (by omega), a, b 2 (by omega), a, b 3 (by omega), a, b 4 (by omega), a, b 5 (by omega), a, b 6 (by omega), a, b 7 (by omega), a, b 8 (by omega), a, b 9 (by omega), a, b 10 (by omega), a, b 11 (by omega), a, b 12 (by omega), a, b 13 (by omega), a, b 14 (by omega), a, b 15 (by omega), a, b 16 (by omega), a, b 17 (by omega), a, b 18 (by omega), a, b 19 (by omega), a, b 20 (by omega), a, b 21 (by omega), a, b 22 (by omega), a, b 23 (by omega), a, b 24 (by omega), a, b 25 (by omega), a, b 26 (by omega), a, b 27 (by omega), a, b 28 (by omega), a, b 29 (by omega), a, b 30 (by omega), a, b 31 (by omega), a, b 32 (by omega), a, b 33 (by omega), a, b 34 (by omega), a, b 35 (by omega), a, b 36 (by omega), a, b 37 (by omega), a, b 38 (by omega), a, b 39 (by omega), a, b 40 (by omega), a, b 41 (by omega), a, b 42 (by omega), a, b 43 (by omega), a, b 44 (by omega), a, b 45 (by omega), a, b 46 (by omega), a, b 47 (by omega), a, b 48 (by omega), a, b 49 (by omega), a, b 50 (by omega), a, b 51 (by omega), a, b 52 (by omega), a, b 53 (by omega), a, b 54 (by omega), a, b 55 (by omega), a, b 56 (by omega), a, b 57 (by omega), a, b 58 (by omega), a, b 59 (by omega), a, b 60 (by omega), a, b 61 (by omega), a, b 62 (by omega), a, b 63 (by omega), a, b 64 (by omega), a, b 65 (by omega), a, b 66 (by omega), a, b 67 (by omega), a, b 68 (by omega), a, b 69 (by omega), a, b 70 (by omega), a, b 71 (by omega), a, b 72 (by omega), a, b 73 (by omega), a, b 74 (by omega), a, b 75 (by omega), a, b 76 (by omega), a, b 77 (by omega), a, b 78 (by omega), a, b 79 (by omega), a, b 80 (by omega), a, b 81 (by omega), a, b 82 (by omega), a, b 83 (by omega), a, b 84 (by omega), a, b 85 (by omega), a, b 86 (by omega), a, b 87 (by omega), a, b 88 (by omega), a, b 89 (by omega), a, b 90 (by omega), a, b 91 (by omega), a, b 92 (by omega), a, b 93 (by omega), a, b 94 (by omega), a, b 95 (by omega), hz.tg, hK _ (upl (nI0 I (zN z)) (zN z) 0 wrdN) (hz.stp rfl rfl rfl (by decide)) (hI.stp hz.1 (fun k hk => by rw [upl_o hk, nI0_o _ hk]) (by rw [upl_c]; unfold cM; rw [if_neg (by rw [e]; omega), if_neg (by rw [e]; omega), if_pos e]))⟩
theorem k12_893 (hs : GS g) (hz : ZR z0 14 13 z) (hI : IR J0 14 I) (hK : ∀ z I, ZR z0 15 14 z → IR J0 15 I → WPc g m12_init (d + 6) 8 264 902 [(0, .ref 101)] [] z I (Zv K)) : WPc g m12_init (d + 6) 9 464 893 [(0, .ref 101)] [] z I (Zv K) := by
  have e : zN z = 115 := hz.1
  exact v12_init_893 hs ⟨hz.tg, hK _ _ (hz.stp rfl rfl rfl (by decide)) (hI.stp hz.1 (fun k hk => nI0_o _ hk) (cM_0 (by omega) (by omega) (by omega)))⟩
theorem k12_902 (hs : GS g) (hz : ZR z0 15 14 z) (hI : IR J0 15 I) (hK : ∀ z I, ZR z0 16 15 z → IR J0 16 I → WPc g m12_init (d + 6) 7 64 911 [(0, .ref 101)] [] z I (Zv K)) : WPc g m12_init (d + 6) 8 264 902 [(0, .ref 101)] [] z I (Zv K) := by
  have e : zN z = 116 := hz.1
  exact v12_init_902 hs ⟨hz.tg, hK _ _ (hz.stp rfl rfl rfl (by decide)) (hI.stp hz.1 (fun k hk => nI0_o _ hk) (cM_0 (by omega) (by omega) (by omega)))⟩
theorem k12_911 (hs : GS g) (hz : ZR z0 16 15 z) (hI : IR J0 16 I) (hK : ∀ z I, ZR z0 17 16 z → IR J0 17 I → WPc g m12_init (d + 6) 6 58 919 [(0, .ref 101)] [] z I (Zv K)) : WPc g m12_init (d + 6) 7 64 911 [(0, .ref 101)] [] z I (Zv K) := by
  have e : zN z = 117 := hz.1
  exact v12_init_911 hs ⟨hz.tg, hK _ _ (hz.stp rfl rfl rfl (by decide)) (hI.stp hz.1 (fun k hk => nI0_o _ hk) (cM_0 (by omega) (by omega) (by omega)))⟩
theorem k12_919 (hs : GS g) (hz : ZR z0 17 16 z) (hI : IR J0 17 I) (hK : ∀ z I, ZR z0 18 17 z → IR J0 18 I → WPc g m12_init (d + 6) 5 52 927 [(0, .ref 101)] [] z I (Zv K)) : WPc g m12_init (d + 6) 6 58 919 [(0, .ref 101)] [] z I (Zv K) := by
  have e : zN z = 118 := hz.1
  exact v12_init_919 hs ⟨hz.tg, hK _ _ (hz.stp rfl rfl rfl (by decide)) (hI.stp hz.1 (fun k hk => nI0_o _ hk) (cM_0 (by omega) (by omega) (by omega)))⟩
theorem k12_927 (hs : GS g) (hz : ZR z0 18 17 z) (hI : IR J0 18 I) (hK : ∀ z I, ZR z0 19 18 z → IR J0 19 I → WPc g m12_init (d + 6) 4 46 935 [(0, .ref 101)] [] z I (Zv K)) : WPc g m12_init (d + 6) 5 52 927 [(0, .ref 101)] [] z I (Zv K) := by
  have e : zN z = 119 := hz.1
  exact v12_init_927 hs ⟨hz.tg, hK _ _ (hz.stp rfl rfl rfl (by decide)) (hI.stp hz.1 (fun k hk => nI0_o _ hk) (cM_0 (by omega) (by omega) (by omega)))⟩
theorem k12_935 (hs : GS g) (hz : ZR z0 19 18 z) (hI : IR J0 19 I) (hK : ∀ z I, ZR z0 20 19 z → IR J0 20 I → WPc g m12_init (d + 6) 3 40 943 [(0, .ref 101)] [] z I (Zv K)) : WPc g m12_init (d + 6) 4 46 935 [(0, .ref 101)] [] z I (Zv K) := by
  have e : zN z = 120 := hz.1
  exact v12_init_935 hs ⟨hz.tg, hK _ _ (hz.stp rfl rfl rfl (by decide)) (hI.stp hz.1 (fun k hk => nI0_o _ hk) (cM_0 (by omega) (by omega) (by omega)))⟩
theorem k12_943 (hs : GS g) (hz : ZR z0 20 19 z) (hI : IR J0 20 I) (hK : ∀ z I, ZR z0 21 20 z → IR J0 21 I → WPc g m12_init (d + 6) 2 36 950 [(0, .ref 101)] [] z I (Zv K)) : WPc g m12_init (d + 6) 3 40 943 [(0, .ref 101)] [] z I (Zv K) := by
  have e : zN z = 121 := hz.1
  exact v12_init_943 hs ⟨hz.tg, hK _ _ (hz.stp rfl rfl rfl (by decide)) (hI.stp hz.1 (fun k hk => nI0_o _ hk) (cM_0 (by omega) (by omega) (by omega)))⟩
theorem k12_950 (hs : GS g) (hz : ZR z0 21 20 z) (hI : IR J0 21 I) (hK : ∀ z I, ZR z0 22 21 z → IR J0 22 I → WPc g m12_init (d + 6) 1 30 958 [(0, .ref 101)] [] z I (Zv K)) : WPc g m12_init (d + 6) 2 36 950 [(0, .ref 101)] [] z I (Zv K) := by
  have e : zN z = 122 := hz.1
  exact v12_init_950 hs ⟨hz.tg, hK _ _ (hz.stp rfl rfl rfl (by decide)) (hI.stp hz.1 (fun k hk => nI0_o _ hk) (cM_0 (by omega) (by omega) (by omega)))⟩
theorem k12_958 (hs : GS g) (hz : ZR z0 22 21 z) (hI : IR J0 22 I) (hK : ∀ z I, ZR z0 23 22 z → IR J0 23 I → WPc g m12_init (d + 6) 0 0 966 [(0, .ref 101)] [] z I (Zv K)) : WPc g m12_init (d + 6) 1 30 958 [(0, .ref 101)] [] z I (Zv K) := by
  have e : zN z = 123 := hz.1
  exact v12_init_958 hs ⟨hz.tg, hK _ _ (hz.stp rfl rfl rfl (by decide)) (hI.stp hz.1 (fun k hk => nI0_o _ hk) (cM_0 (by omega) (by omega) (by omega)))⟩
theorem k12_l {I1 : Is} (hs : GS g) (hz : ZR z0 23 22 z) (hI : IR J0 23 I1) (hK : ∀ I, (∀ k, k ≠ 106 → I k = I1 k) → (∀ j, I 106 j = iN (fxT j)) → Wi g m12_text (d + 5) [.ref 101] z (up2 I 101 8 (iN 34)) (fun _ J => K z J)) : ∀ (r i : Nat) (I : Is), i + r = 34 → (∀ k, k ≠ 106 → I k = I1 k) → (∀ j, I 106 j = if j < i then iN (fxT j) else 0) → WPc g m12_init (d + 6) 0 0 968 [(0, .ref 101), (1, .int (iN i))] [] z I (Zv K)
  | 0, i, I, e, h1, h2 => by
    obtain rfl : i = 34 := by omega
    have t := hz.2.2.1 101 12 (by omega) (by omega) rfl
    refine v12_init_968 hs ⟨fun _ => ⟨by rw [t]; rfl, by rw [t]; rfl, hK I h1 (fun j => ?_)⟩, fun q => absurd ((iN_le (by omega) (by omega)).mpr (by omega)) q⟩
    rw [h2 j]; split
    · rfl
    · next w => show 0 = iN (fxC.getD j 0); rw [fx_l (by omega)]; rfl
  | r + 1, i, I, e, h1, h2 => by
    have t := hz.2.2.1 101 12 (by omega) (by omega) rfl
    have t6 := hz.2.2.1 106 100 (by omega) (by omega) rfl
    have t13 := hz.2.2.1 113 100 (by omega) (by omega) rfl
    have l6 := hz.2.2.2.1 106 160 (by omega) (by omega) rfl
    have l13 := hz.2.2.2.1 113 34 (by omega) (by omega) rfl
    refine v12_init_968 hs ⟨fun q => absurd ((iN_le (by omega) (by omega)).mp q) (by omega), fun _ => ⟨by rw [t]; rfl, oe_s (hz.2.2.2.2 4 (by omega)) ⟨by rw [t]; rfl, oe_s (hz.2.2.2.2 11 (by omega)) ⟨iarB_t t13, by rw [l13]; exact inB_n (by omega) (by omega), by rw [t6]; rfl, by rw [l6]; exact inB_n (by omega) (by omega), ?_⟩⟩⟩⟩
    rw [iN_toN (by omega), iN_add]
    refine k12_l hs hz hI hK r (i + 1) _ (by omega) (fun k a => by rw [up2_ro _ a]; exact h1 k a) (fun j => ?_)
    rw [up2_ra]
    unfold up1
    by_cases q : j = i
    · rw [if_pos q, if_pos (by omega), q, h1 113 (by omega), hI.2 113 (by omega) (by omega)]; rfl
    · rw [if_neg q, h2 j]
      by_cases q2 : j < i
      · rw [if_pos q2, if_pos (by omega)]
      · rw [if_neg q2, if_neg (by omega)]
theorem spt_101 : ∀ i, i < 40 → (match spt 101 i with | none => true | some q => Nat.beq (mpL.getD (q - 102) 0) i && (Nat.ble 102 q && Nat.ble q 123)) = true := by decide +kernel
theorem stg_97 : ∀ k, k < 101 → 97 ≤ k → stg k = none ∧ sln k = none ∧ (sptL.getD k []).length = 0 := by decide +kernel
theorem spt_102 : ∀ k, k < 124 → 102 ≤ k → (sptL.getD k []).length = 0 := by decide +kernel
theorem spt_n {k i q : Nat} {n : Nat} (h : (sptL.getD k []).length ≤ n) (e : spt k i = some q) : i < n := by
  rcases Nat.lt_or_ge i n with a | a
  · exact a
  · unfold spt at e
    rw [List.getD_eq_getElem?_getD, List.getElem?_eq_none (by omega)] at e
    cases e
theorem ZR.sh (hz : ZR z0 23 22 z) (hc : ShC z0) : Sh z := by
  obtain ⟨a1, a2, a3, a4, a5⟩ := hz
  refine ⟨fun k t q => ?_, fun k t q => ?_, fun k i q e => ?_, by omega⟩
  · have k1 := stg_lt q
    by_cases w : k < 97
    · rw [(a2 k (by omega)).1]; exact hc.1 k t w q
    · by_cases w2 : k < 101
      · rw [(stg_97 k w2 (by omega)).1] at q; cases q
      · exact a3 k t (by omega) (by omega) q
  · have k1 := sln_lt q
    by_cases w : k < 97
    · rw [(a2 k (by omega)).2.1]; exact hc.2.1 k t w q
    · by_cases w2 : k < 101
      · rw [(stg_97 k w2 (by omega)).2.1] at q; cases q
      · exact a4 k t (by omega) (by omega) q
  · have k1 := (spt_lt e).1
    by_cases w : k < 97
    · rw [(a2 k (by omega)).2.2]; exact hc.2.2.1 k i q w e
    · by_cases w2 : k < 101
      · exact absurd (spt_n (n := 0) (Nat.le_of_eq (stg_97 k w2 (by omega)).2.2) e) (by omega)
      · by_cases w3 : k = 101
        · rw [w3] at e ⊢
          have b := spt_101 i (spt_n (by decide +kernel) e)
          rw [e] at b
          simp only [Bool.and_eq_true] at b
          obtain ⟨b1, b2, b3⟩ := b
          have b2 := Nat.ble_eq.mp b2
          have b3 := Nat.ble_eq.mp b3
          have := a5 (q - 102) (by omega)
          rw [Nat.eq_of_beq_eq_true b1] at this
          rw [this]; congr 1; omega
        · exact absurd (spt_n (n := 0) (Nat.le_of_eq (spt_102 k k1 (by omega))) e) (by omega)
/-- before the first text is read -/
def Sm0 : AS := (fun r i => if r = 0 then (if i = 5 then 34 else 0) else if r = 5 then fxT i else 0, fun i => if i < 4 then iM 1 else 0, fun _ => 0)
def Sm1 : AS := (fun r i => if r = 0 then (if i = 3 then 1 else 0) else if r = 5 then fxT i else 0, fun i => if i < 4 then iM 1 else 0, fun _ => 0)
theorem m_0 {I1 I : Is} (hI : IR J0 23 I1) (h1 : ∀ k, k ≠ 106 → I k = I1 k) (h2 : ∀ j, I 106 j = iN (fxT j)) : MI (up2 I 101 8 (iN 34)) Sm0 := by
  have c : ∀ k, 101 < k → k < 124 → k ≠ 106 → k ≠ 110 → k ≠ 113 → k ≠ 114 → ∀ i, up2 I 101 8 (iN 34) k i = 0 := fun k a b n1 n2 n3 n4 i => by
    rw [up2_ro _ (by omega), h1 k n1, hI.2 k (by omega) (by omega)]
    unfold cM
    rw [if_neg n2, if_neg n3, if_neg n4]
  have c1 : ∀ i, i ≠ 8 → up2 I 101 8 (iN 34) 101 i = 0 := fun i hi => by
    rw [up2_i _ _ hi, h1 101 (by omega), hI.2 101 (by omega) (by omega)]; rfl
  refine ⟨⟨c1 0 (by omega), c1 4 (by omega), c1 6 (by omega), up2_s _ _ _ _, c1 11 (by omega), c1 12 (by omega)⟩, ⟨c1 13 (by omega), c1 14 (by omega), c1 15 (by omega), c1 16 (by omega), c1 17 (by omega)⟩, c 102 (by omega) (by omega) (by omega) (by omega) (by omega) (by omega), c 103 (by omega) (by omega) (by omega) (by omega) (by omega) (by omega), c 104 (by omega) (by omega) (by omega) (by omega) (by omega) (by omega), c 105 (by omega) (by omega) (by omega) (by omega) (by omega) (by omega), fun i => by rw [up2_ro _ (by omega)]; exact h2 i, c 107 (by omega) (by omega) (by omega) (by omega) (by omega) (by omega), c 108 (by omega) (by omega) (by omega) (by omega) (by omega) (by omega), c 109 (by omega) (by omega) (by omega) (by omega) (by omega) (by omega), fun i => ?_, c 111 (by omega) (by omega) (by omega) (by omega) (by omega) (by omega), c 112 (by omega) (by omega) (by omega) (by omega) (by omega) (by omega), fun i hi => ?_⟩
  · rw [up2_ro _ (by omega), h1 110 (by omega), hI.2 110 (by omega) (by omega)]; rfl
  · rw [up2_ro _ (by omega), h1 114 (by omega), hI.2 114 (by omega) (by omega)]; rfl
theorem tN_s {v : Nat} (hv : v < 4294967296) : tN32 (iN v) = v := by
  unfold tN32 iN
  simp
  exact hv
theorem shB_p : ∀ p, p < 5 → shB (49 + 8 * p + 1) = false ∧ shB (28 + 4 * p + 1) = false := by decide
theorem shB_s : ∀ s, s < 4 → shB (89 + 2 * s) = true ∧ shB (89 + 2 * s + 1) = false := by decide
theorem cC_f {k : Nat} (h : shB k = false) (i : Nat) : cC k i = 0 := by unfold cC; rw [h]; rfl
theorem cC_t {k : Nat} (h : shB k = true) (i : Nat) : cC k i = if i = 1 then iM 1 else 0 := by unfold cC; rw [h]; rfl
/-- both hold the same first state -/
theorem both_0 {J : Is} {S2 : AS} (hc : CP z0 J0) (hz : ZR z0 23 22 z) (hJ : ∀ k, k < 101 → J k = J0 k) (e1 : ∀ r, r ≠ 6 → r ≠ 7 → S2.1 r = Sm1.1 r) (e2 : S2.2 = Sm1.2) (h6 : ∀ i x, fO[i]? = some x → S2.1 6 (200 * 0 + i) = x) (h7 : ∀ p, p ≤ 3 → S2.1 7 (4 * 0 + p) = (0 :: fE).getD p 0) : OKS S2 ∧ CI z J S2 := by
  obtain ⟨⟨n1, hsc⟩, p9, ⟨p20, q20⟩, ⟨tx, l98⟩, j98, j99, j8, j22, j23, jc⟩ := hc
  have r0 : S2.1 0 = Sm1.1 0 := e1 0 (by omega) (by omega)
  have rz : ∀ r, r ≠ 0 → r ≠ 5 → r ≠ 6 → r ≠ 7 → ∀ i, S2.1 r i = 0 := fun r a b c d i => by
    rw [e1 r c d]; show (if r = 0 then _ else if r = 5 then _ else 0) = 0; rw [if_neg a, if_neg b]
  have nt : sNt S2 = 1 := by show S2.1 0 3 = 1; rw [r0]; rfl
  have s0 : ∀ i, i ≠ 3 → S2.1 0 i = 0 := fun i hi => by rw [r0]; show (if i = 3 then 1 else 0) = 0; rw [if_neg hi]
  have r5 : S2.1 5 = fxT := e1 5 (by omega) (by omega)
  obtain ⟨c0, c1, c2, eo, ee, w0, w1, w2, wl⟩ := tx_3 fxTp tx_0
  have w := txU_W S2 (t := 0) eo ee w0 w1 w2 wl h6 h7
  have t9 := (hz.2.1 9 (by omega)).2.2
  have t20 := (hz.2.1 20 (by omega)).2.2
  have jz : ∀ k, 8 < k → k < 97 → k ≠ 22 → k ≠ 23 → k ≠ 24 → k ≠ 25 → J k = cC k := fun k a b c d e f => by rw [hJ k (by omega)]; exact jc k a b c d e f
  refine ⟨⟨⟨Nat.le_trans (Nat.le_of_eq (s0 0 (by omega))) (by omega), Nat.le_trans (Nat.le_of_eq (s0 1 (by omega))) (by omega), Nat.le_trans (Nat.le_of_eq (s0 2 (by omega))) (by omega), by rw [nt]; omega, by rw [nt]; exact Nat.lt_of_le_of_lt (Nat.le_of_eq (s0 4 (by omega))) (by omega), Nat.le_trans (Nat.le_of_eq (s0 5 (by omega))) (by omega)⟩, fun s => by rw [rz 1 (by omega) (by omega) (by omega) (by omega), rz 2 (by omega) (by omega) (by omega) (by omega), rz 3 (by omega) (by omega) (by omega) (by omega)]; omega, ⟨fun i => by rw [rz 4 (by omega) (by omega) (by omega) (by omega)]; omega, fun p s _ _ _ => rz 4 (by omega) (by omega) (by omega) (by omega) _⟩, fun i => by rw [r5]; exact fx_255 i, fun t ht => ?_, ⟨fun i => by rw [rz 8 (by omega) (by omega) (by omega) (by omega)]; omega, fun p s _ _ _ => rz 8 (by omega) (by omega) (by omega) (by omega) _, Nat.le_trans (Nat.le_of_eq (s0 6 (by omega))) (by omega), by rw [s0 7 (by omega)]; omega, by rw [s0 8 (by omega)]; omega, by rw [s0 9 (by omega)]; omega, by rw [nt, s0 10 (by omega)]; omega⟩, fun s _ => by rw [rz 9 (by omega) (by omega) (by omega) (by omega)]; omega⟩, ?_⟩
  · obtain rfl : t = 0 := by rw [nt] at ht; omega
    exact w
  · refine ⟨⟨?_, ?_, ?_, ?_, ?_, ?_⟩, ⟨Nat.le_trans (Nat.le_of_eq (s0 0 (by omega))) (by omega), fun s hs1 => ?_, fun s _ _ => by rw [t9]; exact p9 s⟩, fun p hp s hs6 => ?_, ⟨fun p hp s hs6 => ?_, ?_, ?_, ?_, ?_, ?_⟩, fun i => by rw [hJ 23 (by omega), r5]; exact j23 i, ⟨fun t ht => ?_, fun t ht _ => ?_⟩, fun s hs4 => ⟨?_, ?_, fun i hi => ?_⟩⟩
    · rw [hJ 8 (by omega), j8]; show _ = iN (S2.1 0 0); rw [s0 0 (by omega)]; rfl
    · rw [hJ 8 (by omega), j8]; show _ = iN (S2.1 0 1); rw [s0 1 (by omega)]; rfl
    · rw [hJ 8 (by omega), j8, nt]; rfl
    · rw [hJ 8 (by omega), j8]; show _ = iN (S2.1 0 2); rw [s0 2 (by omega)]; rfl
    · rw [hJ 8 (by omega), j8]; show _ = iN (S2.1 0 4); rw [s0 4 (by omega)]; rfl
    · rw [hJ 22 (by omega), j22]; show _ = iN (S2.1 0 5); rw [s0 5 (by omega)]
    · have h : sNs S2 = 0 := s0 0 (by omega); omega
    · rw [jz _ (by omega) (by omega) (by omega) (by omega) (by omega) (by omega), cC_f (shB_p p hp).1]
      show 0 = iN (S2.1 4 _); rw [rz 4 (by omega) (by omega) (by omega) (by omega)]; rfl
    · rw [jz _ (by omega) (by omega) (by omega) (by omega) (by omega) (by omega), cC_f (shB_p p hp).2]
      show 0 = iN (S2.1 8 _); rw [rz 8 (by omega) (by omega) (by omega) (by omega)]; rfl
    · rw [jz 26 (by omega) (by omega) (by omega) (by omega) (by omega) (by omega), s0 7 (by omega)]; rfl
    · rw [jz 26 (by omega) (by omega) (by omega) (by omega) (by omega) (by omega), s0 8 (by omega)]; rfl
    · rw [jz 26 (by omega) (by omega) (by omega) (by omega) (by omega) (by omega), s0 9 (by omega)]; rfl
    · rw [jz 26 (by omega) (by omega) (by omega) (by omega) (by omega) (by omega), s0 10 (by omega)]; rfl
    · rw [jz 26 (by omega) (by omega) (by omega) (by omega) (by omega) (by omega)]; show _ = iN (S2.1 0 6); rw [s0 6 (by omega)]; rfl
    · obtain rfl : t = 0 := by rw [nt] at ht; omega
      have z97 := hz.2.1 97 (by omega)
      have z98 := hz.2.1 98 (by omega)
      have z99 := hz.2.1 99 (by omega)
      have z100 := hz.2.1 100 (by omega)
      have e3 : sSt S2 0 3 = 5 := h7 3 (by omega)
      refine ⟨by omega, 97, by rw [t20]; exact p20, ?_, ⟨by omega, Or.inl (by omega)⟩, fun p hp => ?_, ?_, fun k hk => ?_⟩
      · unfold TxO
        rw [z97.1, z97.2.2, z98.1, z99.1, z99.2.1, z100.1, z100.2.1]; exact tx
      · rw [hJ 99 (by omega), j99 p hp]
        show iN _ = iN (S2.1 7 (4 * 0 + (p + 1)))
        rw [h7 (p + 1) (by omega)]; rfl
      · rw [z98.2.1, e3]; exact l98
      · rw [e3] at hk
        rw [hJ 98 (by omega), j98 k hk]
        show _ = cTr (S2.1 6 (200 * 0 + k))
        rw [h6 k _ (getD_lt (l := fO) hk)]
    · rw [t20]; rw [nt] at ht; exact q20 t (by omega)
    · rw [jz _ (by omega) (by omega) (by omega) (by omega) (by omega) (by omega), cC_t (shB_s s hs4).1, e2]
      show iM 1 = if s < 4 then iM 1 else 0
      rw [if_pos hs4]
    · rw [jz _ (by omega) (by omega) (by omega) (by omega) (by omega) (by omega), cC_t (shB_s s hs4).1, rz 9 (by omega) (by omega) (by omega) (by omega)]; rfl
    · rw [jz _ (by omega) (by omega) (by omega) (by omega) (by omega) (by omega), cC_f (shB_s s hs4).2, e2]; rfl
/-- the Model's constructor -/
theorem c_model (hs : GS g) (hc : CP z0 J0) (hz : ZR z0 1 0 z) (hI : IR J0 1 I) (hK : ∀ z J S, Sh z → OKS S → CI z J S → MI J S → K z J) : WPv g m12_init (d + 6) 22 2224 [.ref 101] z I K := by
  refine k12_0 hs hz hI (fun z I hz hI => ?_)
  refine k12_12 hs hz hI (fun z I hz hI => ?_)
  refine k12_20 hs hz hI (fun z I hz hI => ?_)
  refine k12_28 hs hz hI (fun z I hz hI => ?_)
  refine k12_36 hs hz hI (fun z I hz hI => ?_)
  refine k12_45 hs hz hI (fun z I hz hI => ?_)
  refine k12_54 hs hz hI (fun z I hz hI => ?_)
  refine k12_62 hs hz hI (fun z I hz hI => ?_)
  refine k12_70 hs hz hI (fun z I hz hI => ?_)
  refine k12_93 hs hz hI (fun z I hz hI => ?_)
  refine k12_100 hs hz hI (fun z I hz hI => ?_)
  refine k12_109 hs hz hI (fun z I hz hI => ?_)
  refine k12_315 hs hz hI (fun z I hz hI => ?_)
  refine k12_893 hs hz hI (fun z I hz hI => ?_)
  refine k12_902 hs hz hI (fun z I hz hI => ?_)
  refine k12_911 hs hz hI (fun z I hz hI => ?_)
  refine k12_919 hs hz hI (fun z I hz hI => ?_)
  refine k12_927 hs hz hI (fun z I hz hI => ?_)
  refine k12_935 hs hz hI (fun z I hz hI => ?_)
  refine k12_943 hs hz hI (fun z I hz hI => ?_)
  refine k12_950 hs hz hI (fun z I hz hI => ?_)
  refine k12_958 hs hz hI (fun z I hz hI => ?_)
  have sh := hz.sh hc.1.2
  refine v12_init_966 hs (k12_l hs hz hI (fun I2 h1 h2 => ?_) 34 0 _ rfl (fun _ _ => rfl) (fun j => ?_))
  · have m := m_0 hI h1 h2
    refine c_mtext (t := 0) (T := fxT) (n := 34) hs sh fxTp (by omega) ⟨up2_s _ _ _ _, fun i => by rw [up2_ro _ (by omega)]; exact h2 i, fun i hi => m.2.2.2.2.2.2.2.2.2.2.2.2.2 i hi⟩ m.nt (fun q => by rw [tx_0] at q; cases q) (fun o' e' q J2 mf hO hS he30 _ => ?_)
    rw [tx_0] at q
    cases q
    have hJ : ∀ k, k < 101 → up2 (up2 (up2 J2 108 (4 * 0 + 3) (iN fO.length)) 101 8 (iN 0)) 101 11 (iN (0 + 1)) k = J0 k := fun k hk => by
      rw [up2_ro _ (by omega), up2_ro _ (by omega), up2_ro _ (by omega), mf.1 k (by simp; omega), up2_ro _ (by omega), h1 k (by omega), hI.1 k hk]
    have g6 : ∀ i x, fO[i]? = some x → (gbU Sm1 (up2 (up2 (up2 J2 108 (4 * 0 + 3) (iN fO.length)) 101 8 (iN 0)) 101 11 (iN (0 + 1))) 0).1 6 (200 * 0 + i) = x := fun i x qx => by
      show (if 200 * 0 + i < 200 * 0 then Sm1.1 6 (200 * 0 + i) else tN32 (up2 (up2 (up2 J2 108 (4 * 0 + 3) (iN fO.length)) 101 8 (iN 0)) 101 11 (iN (0 + 1)) 107 (200 * 0 + i))) = x
      rw [if_neg (by omega), up2_ro _ (by omega), up2_ro _ (by omega), up2_ro _ (by omega), hO.2 i x qx]
      have mx : ∀ x ∈ fO, x < 4294967296 := by decide
      exact tN_s (mx x (List.mem_of_getElem? qx))
    have g7 : ∀ p, p ≤ 3 → (gbU Sm1 (up2 (up2 (up2 J2 108 (4 * 0 + 3) (iN fO.length)) 101 8 (iN 0)) 101 11 (iN (0 + 1))) 0).1 7 (4 * 0 + p) = (0 :: fE).getD p 0 := fun p hp => by
      show (if 4 * 0 + p < 4 * 0 then Sm1.1 7 (4 * 0 + p) else tN32 (up2 (up2 (up2 J2 108 (4 * 0 + 3) (iN fO.length)) 101 8 (iN 0)) 101 11 (iN (0 + 1)) 108 (4 * 0 + p))) = _
      rw [if_neg (by omega), up2_ro _ (by omega), up2_ro _ (by omega)]
      by_cases q3 : p = 3
      · rw [q3, up2_s]; exact tN_s (by decide)
      · rw [up2_i _ _ (by omega), hS p (by omega)]
        obtain rfl | rfl | rfl : p = 0 ∨ p = 1 ∨ p = 2 := by omega
        · exact tN_s (by decide)
        · exact tN_s (by decide)
        · exact tN_s (by decide)
    obtain ⟨ok, ci⟩ := both_0 (S2 := gbU Sm1 (up2 (up2 (up2 J2 108 (4 * 0 + 3) (iN fO.length)) 101 8 (iN 0)) 101 11 (iN (0 + 1))) 0) hc hz hJ (fun r a b => by show (if r = 6 then _ else if r = 7 then _ else Sm1.1 r) = _; rw [if_neg a, if_neg b]) rfl g6 g7
    refine hK _ _ _ sh ok ci (m.tx (S1 := Sm1) mf _ (fun k a b => by rw [up2_ro _ a, up2_ro _ a, up2_ro _ b]) (fun i hi => by omega) (fun i a b c => ?_) rfl (fun i hi => by omega) (fun i hi => by omega) (fun i a b => ?_) (fun i a b c => by rw [up2_i _ _ c, up2_i _ _ b, up2_ro _ (by omega)]) (by rw [up2_i _ _ (by omega), up2_s]; rfl) (by rw [up2_s]; rfl))
    · funext j; show (if i = 0 then _ else if i = 5 then _ else 0) = (if i = 0 then _ else if i = 5 then _ else 0); rw [if_neg a, if_neg a]
    · show (if i = 3 then 1 else 0) = (if i = 5 then 34 else 0); rw [if_neg a, if_neg b]
  · rw [hI.2 106 (by omega) (by omega), if_neg (by omega)]; rfl
end MM
