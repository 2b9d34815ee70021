/-! the reference reads a whole text -/
def MFt (t : Nat) (I J : Is) : Prop := Of [101, 107, 108, 115] I J ∧ (∀ i, (i < 23 ∨ (26 < i ∧ i < 29) ∨ 31 < i) → J 101 i = I 101 i) ∧ (∀ i, (i < 200 * t ∨ 200 * t + 200 ≤ i) → J 107 i = I 107 i) ∧ ∀ i, (i < 4 * t ∨ 4 * t + 4 ≤ i) → J 108 i = I 108 i
section MTT
variable {g : Gt} {d : Nat} {z : Zs} {I J : Is} {T : Nat → Nat} {n t : Nat}
theorem MFt.rf (t : Nat) (I : Is) : MFt t I I := ⟨Of.rf _ I, fun _ _ => rfl, fun _ _ => rfl, fun _ _ => rfl⟩
theorem MFt.mf {L : Is} (h : MFt t I J) (h2 : MFr t J L) : MFt t I L := ⟨h.1.tr (h2.1.mo (by simp)), fun i hi => (h2.2.1 i hi).trans (h.2.1 i hi), fun i hi => (h2.2.2 i hi).trans (h.2.2.1 i hi), fun i hi => by rw [h2.1 108 (by simp)]; exact h.2.2.2 i hi⟩
theorem MFt.u108 (h : MFt t I J) {i : Nat} (hi : i < 4) (v : Int32) : MFt t I (up2 J 108 (4 * t + i) v) := ⟨h.1.upt (by simp) _ _, fun j hj => by rw [up2_ro _ (by omega)]; exact h.2.1 j hj, fun j hj => by rw [up2_ro _ (by omega)]; exact h.2.2.1 j hj, fun j hj => by rw [up2_i _ _ (by omega)]; exact h.2.2.2 j hj⟩
theorem NxO.mt (h : NxO T n I) (m : MFt t I J) : NxO T n J := h.of m.1 (m.2.1 8 (by omega)) (by simp)
/-- it has failed -/
theorem tf_l {q : Nat} {K : Int32 → Is → Prop} (hs : GS g) (hz : Sh z) (t6 : t < 6) (ht : J 101 11 = iN t) (h24 : J 101 24 = iN q) (hK : ∀ x, K (iM 100 - iN q) (up2 (up2 J 108 (4 * t + 3) x) 101 8 (iN 0))) : WPc g m12_text (d + 5) 0 0 101 [(0, .ref 101), (1, .int (iN 0))] [] z J (Qi z K) := by
  refine v12_text_101 hs hz (gT rfl (v12_text_122 hs hz ?_))
  rw [ht, iN_mul, iN_add, iN_toN (by omega), h24]
  exact ⟨inB_n (by omega) (by omega), gT rfl (hK _)⟩
theorem tf_2 {q : Nat} {v : Int32} {K : Int32 → Is → Prop} (hs : GS g) (hz : Sh z) (t6 : t < 6) (ht : J 101 11 = iN t) (h24 : J 101 24 = iN q) (hK : ∀ x, K (iM 100 - iN q) (up2 (up2 J 108 (4 * t + 3) x) 101 8 (iN 0))) : WPc g m12_text (d + 5) 0 0 26 [(0, .ref 101), (1, .int (iN 0)), (2, .int v)] [] z J (Qi z K) :=
  v12_text_26 hs hz ⟨fun _ => tf_l hs hz t6 ht h24 hK, fun _ => gT rfl (tf_l hs hz t6 ht h24 hK)⟩
theorem tl_l {K : Int32 → Is → Prop} (hs : GS g) (hz : Sh z) (hT : TpO T n) (t6 : t < 6) : ∀ (k p : Nat) (ts : List Tk) (out es : List Nat) (J : Is) (e : Nat), p + k = 3 → es.length = p → out.length = (0 :: es).getD p 0 → ts = tks T n e → e ≤ n → J 101 23 = iN e → NxO T n J → J 101 11 = iN t → OuO J t out → out.length + ts.length ≤ 160 → TkO ts → MFt t I J → (∀ i, i < p → J 108 (4 * t + i) = iN ((0 :: es).getD i 0)) →
    ((tx k p ts out es).1 = none → ∀ J2 x, MFt t I J2 → K (iM 100 - iN (hdS n (tx k p ts out es).2)) (up2 (up2 J2 108 (4 * t + 3) x) 101 8 (iN 0))) →
    (∀ o es2, (tx k p ts out es).1 = some (o, es2) → ∀ J2, MFt t I J2 → OuO J2 t o → (∀ i, i < 3 → J2 108 (4 * t + i) = iN ((0 :: es2).getD i 0)) → o.length = (0 :: es2).getD 3 0 → o.length ≤ 160 → K (iN t) (up2 (up2 (up2 J2 108 (4 * t + 3) (iN o.length)) 101 8 (iN 0)) 101 11 (iN (t + 1)))) →
    WPc g m12_text (d + 5) 0 0 26 [(0, .ref 101), (1, .int (iN 1)), (2, .int (iN p))] [] z J (Qi z K)
  | 0, p, ts, out, es, J, e, hp, he1, hL, hts, he, h23, hN, ht, hO, hl, tk, mf, hS, hKN, hKY => by
    obtain rfl : p = 3 := by omega
    have tkk := tk.k
    refine v12_text_26 hs hz ⟨fun _ => ?_, fun q => absurd ((iN_le (by omega) (by omega)).mpr (Nat.le_refl _)) q⟩
    refine v12_text_101 hs hz (gF (by decide) (c_nextT hs hz hT hN he h23 hts (fun J1 e1 h1 he1 a24 a25 v tl => ?_)))
    have m1 : MFt t I J1 := mf.mf (MFr.lm h1)
    have ht1 : J1 101 11 = iN t := by rw [h1.2.1 11 (by omega)]; exact ht
    have hO1 := hO.lm h1
    have ee : tx 0 3 ts out es = if hdK ts = 21 then (some (out, es), ts) else (none, ts) := rfl
    rw [ee] at hKN hKY
    rw [a25, (rt_f (hdK ts) (by omega)).2.2.2.2.2.2.2.2.1]
    refine ⟨fun q => ?_, fun q => ?_⟩
    · rw [if_pos q] at hKY
      refine v12_text_121 hs (v12_text_122 hs hz ?_)
      rw [ht1, hO1.1, iN_mul, iN_add, iN_toN (by omega), iN_add, iN_sub (by omega), Nat.add_sub_cancel]
      exact ⟨inB_n (by omega) (by omega), gF (by decide) (hKY out es rfl J1 m1 hO1 (fun i hi => by rw [h1.1 108 (by simp)]; exact hS i hi) hL (by omega))⟩
    · rw [if_neg q] at hKN
      refine v12_text_121 hs (v12_text_122 hs hz ?_)
      rw [ht1, a24, iN_mul, iN_add, iN_toN (by omega)]
      exact ⟨inB_n (by omega) (by omega), gT rfl (hKN rfl J1 _ m1)⟩
  | k + 1, p, ts, out, es, J, e, hp, he1, hL, hts, he, h23, hN, ht, hO, hl, tk, mf, hS, hKN, hKY => by
    have tkk := tk.k
    have ee : tx (k + 1) p ts out es = if hdK ts = p then (match sy ts.tail true true [] out with
      | (some o2, r) => tx k (p + 1) r o2 (es ++ [o2.length])
      | (none, r) => (none, r)) else (none, ts) := rfl
    refine v12_text_26 hs hz ⟨fun q => absurd ((iN_le (by omega) (by omega)).mp q) (by omega), fun _ => gF (by decide) (c_nextT hs hz hT hN he h23 hts (fun J1 e1 h1 he1' a24 a25 v tl => ?_))⟩
    have m1 : MFt t I J1 := mf.mf (MFr.lm h1)
    have ht1 : J1 101 11 = iN t := by rw [h1.2.1 11 (by omega)]; exact ht
    have hO1 := hO.lm h1
    have hN1 := hN.lm h1
    have n59 : hdK ts ≠ p → WPc g m12_text (d + 5) 0 0 59 [(0, .ref 101), (2, .int (iN p))] [] z J1 (Qi z K) := fun q => by
      rw [if_neg q] at ee
      rw [ee] at hKN
      refine v12_text_59 hs (v12_text_60 hs hz ?_)
      rw [ht1, iN_mul, iN_add, iN_toN (by omega)]
      refine ⟨inB_n (by omega) (by omega), gT rfl (tf_2 (t := t) hs hz t6 (by rw [up2_ro _ (by omega)]; exact ht1) (by rw [up2_ro _ (by omega)]; exact a24) (fun x => hKN rfl _ x (m1.u108 (by omega) _)))⟩
    rw [a25, (rt_f (hdK ts) (by omega)).2.2.2.2.2.2.2.1]
    refine ⟨fun q => ?_, fun q => n59 (fun w => q (by omega))⟩
    rw [v.2.2 q, iN_inj (by omega) (by omega)]
    refine ⟨fun q2 => ?_, fun q2 => n59 q2⟩
    cases ts with
    | nil => have q : (21 : Nat) < 3 := q; omega
    | cons tk0 ts' =>
      rw [List.length_cons] at hl
      rw [if_pos q2] at ee
      have ee : tx (k + 1) p (tk0 :: ts') out es = (match sy ts' true true [] out with
        | (some o2, r) => tx k (p + 1) r o2 (es ++ [o2.length])
        | (none, r) => (none, r)) := ee
      refine v12_text_60 hs hz ?_
      rw [ht1, hO1.1, iN_mul, iN_add, iN_toN (by omega)]
      refine ⟨inB_n (by omega) (by omega), gF (by decide) ?_⟩
      have m2 : MFt t I (up2 J1 108 (4 * t + p) (iN out.length)) := m1.u108 (by omega) _
      refine c_eRead (o := out) hs hz hT t6 tl he1' (by rw [up2_ro _ (by omega)]; exact h1.2.2) (hN1.of (L := [108]) (Of.up (by simp) _ _) (by rw [up2_ro _ (by omega)]) (by simp)) (by rw [up2_ro _ (by omega)]; exact ht1) (hO1.of (by rw [up2_ro _ (by omega)]) (by rw [up2_ro _ (by omega)])) (show out.length + ts'.length ≤ 160 by omega) tk.tl (fun r er J3 m3 c24 => gT rfl ?_) (fun o2 r er J3 e3 m3 hO3 he3 c23 hr hl3 => gF (by decide) ?_)
      · have er : sy ts' true true [] out = (none, r) := er
        rw [er] at ee
        rw [ee] at hKN
        have m4 := m2.mf m3
        exact tf_2 (t := t) hs hz t6 (by rw [m3.2.1 11 (by omega), up2_ro _ (by omega)]; exact ht1) c24 (fun x => hKN rfl _ x m4)
      · have er : sy ts' true true [] out = (some o2, r) := er
        rw [er] at ee
        have ee : tx (k + 1) p (tk0 :: ts') out es = tx k (p + 1) r o2 (es ++ [o2.length]) := ee
        rw [ee] at hKN hKY
        have m4 := m2.mf m3
        rw [iN_add]
        have gl : ∀ i, i < p → (0 :: (es ++ [o2.length])).getD i 0 = (0 :: es).getD i 0 := fun i hi => by
          rw [List.getD_eq_getElem?_getD, List.getD_eq_getElem?_getD, ← List.cons_append, List.getElem?_append_left (by rw [List.length_cons]; omega)]
        have gl2 : (0 :: (es ++ [o2.length])).getD p 0 = (0 :: es).getD p 0 := by
          rw [List.getD_eq_getElem?_getD, List.getD_eq_getElem?_getD, ← List.cons_append, List.getElem?_append_left (by rw [List.length_cons]; omega)]
        have gl3 : (0 :: (es ++ [o2.length])).getD (p + 1) 0 = o2.length := by
          rw [List.getD_eq_getElem?_getD, ← List.cons_append, List.getElem?_append_right (by rw [List.length_cons]; omega), List.length_cons, he1, Nat.sub_self]; rfl
        obtain ⟨ok, r2, c, s1, l1, st1, mc1, sm1⟩ := sy_E hT tk.tl
        have tr : TkO r := by
          rw [hr]; exact tks_ok he3
        refine tl_l hs hz hT t6 k (p + 1) r o2 (es ++ [o2.length]) J3 e3 (by omega) (by rw [List.length_append, he1]; rfl) gl3.symm hr he3 c23 (hN1.of (L := [101, 107, 108, 115]) (((Of.up (by simp) _ _)).tr (m3.1.mo (by simp))) (by rw [m3.2.1 8 (by omega), up2_ro _ (by omega)]) (by simp)) (by rw [m3.2.1 11 (by omega), up2_ro _ (by omega)]; exact ht1) hO3 hl3 tr m4 (fun i hi => ?_) hKN hKY
        rw [m3.1 108 (by simp)]
        rcases Nat.lt_or_ge i p with a | a
        · rw [up2_i _ _ (by omega), h1.1 108 (by simp), gl i a]; exact hS i a
        · rw [show i = p by omega, up2_s, gl2, hL]
/-- what the reference's text does -/
theorem c_mtext {K : Int32 → Is → Prop} (hs : GS g) (hz : Sh z) (hT : TpO T n) (t6 : t < 6) (hN : NxO T n I) (ht : I 101 11 = iN t)
    (hKN : (tx 3 0 (tks T n 0) [] []).1 = none → ∀ J2 x, MFt t I J2 → K (iM 100 - iN (hdS n (tx 3 0 (tks T n 0) [] []).2)) (up2 (up2 J2 108 (4 * t + 3) x) 101 8 (iN 0)))
    (hKY : ∀ o es, (tx 3 0 (tks T n 0) [] []).1 = some (o, es) → ∀ J2, MFt t I J2 → OuO J2 t o → (∀ i, i < 3 → J2 108 (4 * t + i) = iN ((0 :: es).getD i 0)) → o.length = (0 :: es).getD 3 0 → o.length ≤ 160 → K (iN t) (up2 (up2 (up2 J2 108 (4 * t + 3) (iN o.length)) 101 8 (iN 0)) 101 11 (iN (t + 1)))) : Wi g m12_text (d + 5) [.ref 101] z I K := by
  refine v12_text hs hz ?_
  have n6 := hT.1
  rw [ht, iN_inj (b := 6) (by omega) (by omega)]
  refine ⟨fun q => by omega, fun _ => ?_⟩
  have m0 : MFr t I (up2 (up2 I 101 23 (iN 0)) 101 31 (iN 0)) := (MFr.lm (e := 0) ⟨Of.up (by simp) _ _, fun i hi => up2_i _ _ (by omega) _, up2_s _ _ _ _⟩).u1 (by omega) _
  have lt := tks_len (T := T) (n := n) n 0 (by omega) (by omega)
  exact tl_l (I := I) hs hz hT t6 3 0 (tks T n 0) [] [] _ 0 rfl rfl rfl rfl (by omega) (by rw [up2_i _ _ (by omega), up2_s]) (hN.mf m0) (by rw [m0.2.1 11 (by omega)]; exact ht) ⟨by rw [up2_s]; rfl, fun i x q => by cases q⟩ (by show 0 + _ ≤ 160; omega) (tks_ok (by omega)) ((MFt.rf t I).mf m0) (fun i hi => absurd hi (by omega)) hKN hKY
end MTT
