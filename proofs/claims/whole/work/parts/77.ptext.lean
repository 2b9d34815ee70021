section PY
variable {g : Gt} {d : Nat} {z z' : Zs} {I J : Is} {S : AS}
theorem getD_at {l : List Nat} {i x : Nat} (h : l[i]? = some x) : l.getD i 0 = x := by rw [List.getD_eq_getElem?_getD, h]; rfl
theorem getD_lt {l : List Nat} {i : Nat} (h : i < l.length) : l[i]? = some (l.getD i 0) := by rw [List.getD_eq_getElem?_getD, List.getElem?_eq_getElem h]; rfl
theorem scT_ok (o : OKS S) : OKS (scU S 5 0) := ⟨⟨o.1.1, o.1.2.1, o.1.2.2.1, o.1.2.2.2.1, o.1.2.2.2.2.1, Nat.zero_le _⟩, o.2⟩
theorem CI.scT (c : CI z I S) (hz : Sh z) (hJ : ∀ k, k ≠ 22 → k ≠ 24 → k ≠ 25 → J k = I k) (h3 : J 22 3 = iN 0) : CI z J (scU S 5 0) := by
  obtain ⟨h1, h2, h3', h4, h5, h6, h7⟩ := id c
  have srt : SrO z J (sNs S) (S.1 1) (S.1 2) (S.1 3) := ⟨h2.1, fun s hs => ⟨(h2.2.1 s hs).1.imp fun q hq => ⟨hq.1, hq.2.cg (hJ q (fun e => by
      have b := (h2.2.1 s hs).2.1
      have t := hq.2.1
      rw [e, hz.t 22 rfl] at t
      unfold kcl at t
      split at t <;> omega) (hq.2.ne (hz.t 24 rfl)) (hq.2.ne (hz.t 25 rfl)))⟩, (h2.2.1 s hs).2⟩, h2.2.2⟩
  refine ⟨⟨?_, ?_, ?_, ?_, ?_, h3⟩, srt, fun p hp => (h3' p hp).cg (hJ _ (by omega) (by omega) (by omega)), ⟨fun p hp => (h4.1 p hp).cg (hJ _ (by omega) (by omega) (by omega)), by rw [hJ 26 (by omega) (by omega) (by omega)]; exact h4.2⟩, by rw [hJ 23 (by omega) (by omega) (by omega)]; exact h5, ⟨fun t ht => ?_, h6.2⟩, fun s hs => by rw [hJ (89 + 2 * s) (by omega) (by omega) (by omega), hJ (89 + 2 * s + 1) (by omega) (by omega) (by omega)]; exact h7 s hs⟩
  · rw [hJ 8 (by omega) (by omega) (by omega)]; exact h1.1
  · rw [hJ 8 (by omega) (by omega) (by omega)]; exact h1.2.1
  · rw [hJ 8 (by omega) (by omega) (by omega)]; exact h1.2.2.1
  · rw [hJ 8 (by omega) (by omega) (by omega)]; exact h1.2.2.2.1
  · rw [hJ 8 (by omega) (by omega) (by omega)]; exact h1.2.2.2.2.1
  · obtain ⟨t6, a, ea, r⟩ := h6.1 t ht
    have ra := r.2.1
    exact ⟨t6, a, ea, r.1, r.2.1, fun p hp => by rw [hJ _ (by omega) (by omega) (by omega)]; exact r.2.2.1 p hp, r.2.2.2.1, fun k hk => by rw [hJ _ (by omega) (by omega) (by omega)]; exact r.2.2.2.2 k hk⟩
/-- the reference's state behind a text: rows 107 and 108 as they lie -/
theorem MI.tx (m : MI I S) {t : Nat} {J2 : Is} (mf : MFt t I J2) {S1 : AS} (J : Is) (eJ : ∀ k, k ≠ 101 → k ≠ 108 → J k = J2 k) (e8 : ∀ i, i < 4 * t → J 108 i = J2 108 i) (hs : ∀ i, i ≠ 0 → i ≠ 6 → i ≠ 7 → S1.1 i = S.1 i) (hs2 : S1.2 = S.2) (h6 : ∀ i, i < 200 * t → S1.1 6 i = S.1 6 i) (h7 : ∀ i, i < 4 * t → S1.1 7 i = S.1 7 i)
    (h0 : ∀ i, i ≠ 3 → i ≠ 5 → S1.1 0 i = S.1 0 i) (j101 : ∀ i, i < 23 → i ≠ 8 → i ≠ 11 → J 101 i = J2 101 i) (j8 : J 101 8 = iN (S1.1 0 5)) (j11 : J 101 11 = iN (S1.1 0 3)) : MI J (gbU S1 J t) := by
  obtain ⟨m1, m2, m3, m4, m5, m6, m7, m8, m9, m10, m11, m12, m13, m14⟩ := m
  have r : ∀ q, q ≠ 101 → q ≠ 107 → q ≠ 108 → q ≠ 115 → J q = I q := fun q a b c e => by rw [eJ q a c]; exact mf.1 q (by simp; omega)
  have o : ∀ i, i < 23 → i ≠ 8 → i ≠ 11 → J 101 i = I 101 i := fun i a b c => by rw [j101 i a b c, mf.2.1 i (by omega)]
  have g0 : (gbU S1 J t).1 0 = S1.1 0 := rfl
  refine ⟨⟨?_, ?_, ?_, j8, j11, ?_⟩, ?_, fun i => ?_, fun i => ?_, fun i => ?_, fun i => ?_, fun i => ?_, fun i => ?_, fun i => ?_, fun i => ?_, fun i => ?_, fun i => ?_, fun i => ?_, ?_⟩
  · rw [o 0 (by omega) (by omega) (by omega), m1.1]; show _ = iN (S1.1 0 0); rw [h0 0 (by omega) (by omega)]
  · rw [o 4 (by omega) (by omega) (by omega), m1.2.1]; show _ = iN (S1.1 0 1); rw [h0 1 (by omega) (by omega)]
  · rw [o 6 (by omega) (by omega) (by omega), m1.2.2.1]; show _ = iN (S1.1 0 2); rw [h0 2 (by omega) (by omega)]
  · rw [o 12 (by omega) (by omega) (by omega), m1.2.2.2.2.2]; show _ = iN (S1.1 0 4); rw [h0 4 (by omega) (by omega)]
  · rw [o 13 (by omega) (by omega) (by omega), o 14 (by omega) (by omega) (by omega), o 15 (by omega) (by omega) (by omega), o 16 (by omega) (by omega) (by omega), o 17 (by omega) (by omega) (by omega)]
    show I 101 13 = iN (S1.1 0 6) ∧ I 101 14 = iN (S1.1 0 7) ∧ I 101 15 = iN (S1.1 0 8) ∧ I 101 16 = iN (S1.1 0 9) ∧ I 101 17 = iN (S1.1 0 10)
    rw [h0 6 (by omega) (by omega), h0 7 (by omega) (by omega), h0 8 (by omega) (by omega), h0 9 (by omega) (by omega), h0 10 (by omega) (by omega)]
    exact m2
  · rw [r 102 (by omega) (by omega) (by omega) (by omega), m3]; show _ = iN (S1.1 1 i); rw [hs 1 (by omega) (by omega) (by omega)]
  · rw [r 103 (by omega) (by omega) (by omega) (by omega), m4]; show _ = iN (S1.1 2 i); rw [hs 2 (by omega) (by omega) (by omega)]
  · rw [r 104 (by omega) (by omega) (by omega) (by omega), m5]; show _ = iN (S1.1 3 i); rw [hs 3 (by omega) (by omega) (by omega)]
  · rw [r 105 (by omega) (by omega) (by omega) (by omega), m6]; show _ = iN (S1.1 4 i); rw [hs 4 (by omega) (by omega) (by omega)]
  · rw [r 106 (by omega) (by omega) (by omega) (by omega), m7]; show _ = iN (S1.1 5 i); rw [hs 5 (by omega) (by omega) (by omega)]
  · show J 107 i = iN (if i < 200 * t then S1.1 6 i else tN32 (J 107 i))
    by_cases q : i < 200 * t
    · rw [if_pos q, h6 i q, eJ 107 (by omega) (by omega), mf.2.2.1 i (Or.inl q)]; exact m8 i
    · rw [if_neg q]; exact tN32_e _
  · show J 108 i = iN (if i < 4 * t then S1.1 7 i else tN32 (J 108 i))
    by_cases q : i < 4 * t
    · rw [if_pos q, h7 i q, e8 i q, mf.2.2.2 i (Or.inl q)]; exact m9 i
    · rw [if_neg q]; exact tN32_e _
  · rw [r 109 (by omega) (by omega) (by omega) (by omega), m10]; show _ = iN (S1.1 8 i); rw [hs 8 (by omega) (by omega) (by omega)]
  · rw [r 110 (by omega) (by omega) (by omega) (by omega), m11]; show _ = S1.2.1 i; rw [hs2]
  · rw [r 111 (by omega) (by omega) (by omega) (by omega), m12]; show _ = iN (S1.1 9 i); rw [hs 9 (by omega) (by omega) (by omega)]
  · rw [r 112 (by omega) (by omega) (by omega) (by omega), m13]; show _ = S1.2.2 i; rw [hs2]
  · rw [r 114 (by omega) (by omega) (by omega) (by omega)]; exact m14
theorem MI.nx (m : MI I S) : NxO (S.1 5) (sTn S) I := ⟨m.tn, m.tape, m.2.2.2.2.2.2.2.2.2.2.2.2.2⟩
theorem txU_W {o es c0 c1 c2 : List Nat} (S2 : AS) {t : Nat} (eo : o = c0 ++ (c1 ++ c2)) (ee : es = [c0.length, c0.length + c1.length, c0.length + (c1.length + c2.length)]) (h0 : hL c0 0 1) (h1 : hL c1 0 1) (h2 : hL c2 0 1) (hl : o.length ≤ 160) (h6 : ∀ i x, o[i]? = some x → S2.1 6 (200 * t + i) = x) (h7 : ∀ p, p ≤ 3 → S2.1 7 (4 * t + p) = (0 :: es).getD p 0) : TxW S2 t := by
  have s0 : sSt S2 t 0 = 0 := by show S2.1 7 (4 * t + 0) = 0; rw [h7 0 (by omega)]; rfl
  have s1 : sSt S2 t 1 = c0.length := by show S2.1 7 (4 * t + 1) = _; rw [h7 1 (by omega), ee]; rfl
  have s2 : sSt S2 t 2 = c0.length + c1.length := by show S2.1 7 (4 * t + 2) = _; rw [h7 2 (by omega), ee]; rfl
  have s3 : sSt S2 t 3 = c0.length + (c1.length + c2.length) := by show S2.1 7 (4 * t + 3) = _; rw [h7 3 (by omega), ee]; rfl
  have el : o.length = c0.length + (c1.length + c2.length) := by rw [eo]; simp
  refine ⟨s0, ⟨by omega, by omega, by omega, by omega⟩, fun p hp => ?_⟩
  obtain rfl | rfl | rfl : p = 0 ∨ p = 1 ∨ p = 2 := by omega
  · rw [s1, s0, Nat.sub_zero]
    refine hrun_L c0 0 0 1 (fun i x q => ?_) h0
    have hi : i < c0.length := by
      rcases Nat.lt_or_ge i c0.length with a | a
      · exact a
      · rw [List.getElem?_eq_none a] at q; cases q
    show S2.1 6 (200 * t + (0 + i)) = x
    rw [Nat.zero_add]
    exact h6 i x (by rw [eo, List.getElem?_append_left hi]; exact q)
  · rw [s2, s1, Nat.add_sub_cancel_left]
    refine hrun_L c1 c0.length 0 1 (fun i x q => ?_) h1
    have hi : i < c1.length := by
      rcases Nat.lt_or_ge i c1.length with a | a
      · exact a
      · rw [List.getElem?_eq_none a] at q; cases q
    exact h6 (c0.length + i) x (by rw [eo, List.getElem?_append_right (by omega), Nat.add_sub_cancel_left, List.getElem?_append_left hi]; exact q)
  · rw [s3, s2, show c0.length + (c1.length + c2.length) - (c0.length + c1.length) = c2.length by omega]
    refine hrun_L c2 (c0.length + c1.length) 0 1 (fun i x q => ?_) h2
    exact h6 (c0.length + c1.length + i) x (by rw [eo, List.getElem?_append_right (by omega), show c0.length + c1.length + i - c0.length = c1.length + i by omega, List.getElem?_append_right (by omega), Nat.add_sub_cancel_left]; exact q)
/-- of the class, behind a text that was read -/
theorem CI.txt {J1 J : Is} {o es : List Nat} (c : CI z I S) (hz : Sh z) (zt : ZtO z) (ok : OKS S) (h6 : sNt S < 6) (hes : es.length = 3) (he3 : (0 :: es).getD 3 0 = o.length) (e : ExZ z z') (z20 : zP z' 20 = zP z 20) (z9 : zP z' 9 = zP z 9) (tx : TxO z' (zN z)) (hl : zL z' (zN z + 1) = o.length)
    (h1 : ∀ k, k ≠ 22 → k ≠ 24 → k ≠ 25 → J1 k = I k) (h3 : J1 22 3 = iN 0) (hJ : ∀ q, q < zN z → J q = J1 q) (hc : ∀ i, i < o.length → J (zN z + 1) i = J1 24 i) (hcd : CdL J1 0 o) (he : ∀ i, i < 3 → J (zN z + 2) i = J1 25 i) (hen : EnO J1 es) : CI (zPut z' 20 (sNt S) (some (zN z))) (up2 J 8 12 (iN (sNt S + 1))) (txU S o es) := by
  have z124 := hz.2.2.2
  have ez : ExZ z (zPut z' 20 (sNt S) (some (zN z))) := e.put (Or.inr (Or.inl rfl))
  have fx : ∀ q, q < zN z → q ≠ 8 → q ≠ 22 → q ≠ 24 → q ≠ 25 → up2 J 8 12 (iN (sNt S + 1)) q = I q := fun q a b c1 c2 c3 => by rw [up2_ro _ b, hJ q a, h1 q c1 c2 c3]
  have f8 : ∀ i, i ≠ 12 → up2 J 8 12 (iN (sNt S + 1)) 8 i = I 8 i := fun i hi => by rw [up2_i _ _ hi, hJ 8 (by omega), h1 8 (by omega) (by omega) (by omega)]
  obtain ⟨c1, c2, c3, c4, c5, c6, c7⟩ := id c
  refine ⟨⟨?_, ?_, up2_s _ _ _ _, ?_, ?_, ?_⟩, ⟨c2.1, fun s hs => ?_, fun s hs hs6 => ?_⟩, fun p hp => (c3 p hp).cg (fx _ (by omega) (by omega) (by omega) (by omega) (by omega)), ⟨fun p hp => (c4.1 p hp).cg (fx _ (by omega) (by omega) (by omega) (by omega) (by omega)), by rw [fx 26 (by omega) (by omega) (by omega) (by omega) (by omega)]; exact c4.2⟩, by rw [fx 23 (by omega) (by omega) (by omega) (by omega) (by omega)]; exact c5, ⟨fun t ht => ?_, fun t ht ht6 => ?_⟩, fun s hs => by rw [fx (89 + 2 * s) (by omega) (by omega) (by omega) (by omega) (by omega), fx (89 + 2 * s + 1) (by omega) (by omega) (by omega) (by omega) (by omega)]; exact c7 s hs⟩
  · rw [f8 10 (by omega)]; exact c1.1
  · rw [f8 11 (by omega)]; exact c1.2.1
  · rw [f8 13 (by omega)]; exact c1.2.2.2.1
  · rw [f8 14 (by omega)]; exact c1.2.2.2.2.1
  · rw [up2_ro _ (by omega), hJ 22 (by omega)]; exact h3
  · obtain ⟨⟨qq, e1, so⟩, kb⟩ := c2.2.1 s hs
    have kl := kcl_lt (S.1 1 s)
    have lq := lt_zN zt (k := qq) (by rw [so.1]; omega)
    have n8 : qq ≠ 8 := fun w => by have := so.1; rw [w, hz.t 8 rfl] at this; omega
    have n22 : qq ≠ 22 := fun w => by
      have t := so.1
      have b := kb.1
      rw [w, hz.t 22 rfl] at t
      unfold kcl at t
      split at t <;> omega
    exact ⟨⟨qq, by rw [zPut_o (by omega), z9]; exact e1, (so.ex zt ez).cg (fx qq lq n8 n22 (so.ne (hz.t 24 rfl)) (so.ne (hz.t 25 rfl)))⟩, kb⟩
  · rw [zPut_o (by omega), z9]; exact c2.2.2 s hs hs6
  · have ht : t < sNt S + 1 := ht
    by_cases q : t = sNt S
    · rw [q]
      have e7 : ∀ p, p ≤ 3 → sSt (txU S o es) (sNt S) p = (0 :: es).getD p 0 := fun p hp => by
        show (if 4 * sNt S ≤ 4 * sNt S + p then (0 :: es).getD (4 * sNt S + p - 4 * sNt S) 0 else S.1 7 (4 * sNt S + p)) = _
        rw [if_pos (by omega), Nat.add_sub_cancel_left]
      refine ⟨h6, zN z, zPut_s _ _ _ _, by unfold TxO; rw [zPut_o (by omega)]; exact tx, ⟨by omega, Or.inr z124⟩, fun p hp => ?_, by rw [e7 3 (by omega), he3]; exact hl, fun k hk => ?_⟩
      · rw [up2_ro _ (by omega), he p hp, e7 (p + 1) (by omega)]
        exact hen p _ (getD_lt (by omega))
      · rw [e7 3 (by omega), he3] at hk
        rw [up2_ro _ (by omega), hc k hk]
        have hx := hcd k _ (getD_lt hk)
        rw [Nat.zero_add] at hx
        rw [hx]
        show _ = cTr (if 200 * sNt S ≤ 200 * sNt S + k then o.getD (200 * sNt S + k - 200 * sNt S) 0 else S.1 6 (200 * sNt S + k))
        rw [if_pos (by omega), Nat.add_sub_cancel_left]
    · obtain ⟨t6, a, ea, r⟩ := c6.1 t (by omega)
      have ra := r.2.1
      have a1 := lt_zN zt (k := a + 1) (by rw [r.1.t1]; omega)
      have a2 := lt_zN zt (k := a + 2) (by rw [r.1.t2]; omega)
      have r1 := r.1.ex hz zt ez
      have e7 : ∀ p, p ≤ 3 → sSt (txU S o es) t p = sSt S t p := fun p hp => by
        show (if 4 * sNt S ≤ 4 * t + p then _ else S.1 7 (4 * t + p)) = _
        rw [if_neg (by omega)]
      refine ⟨t6, a, by rw [zPut_i q, z20]; exact ea, r1.1, r.2.1, fun p hp => ?_, by rw [r1.2, e7 3 (by omega)]; exact r.2.2.2.1, fun k hk => ?_⟩
      · rw [fx _ a2 (by omega) (by omega) (by omega) (by omega), e7 (p + 1) (by omega)]; exact r.2.2.1 p hp
      · rw [e7 3 (by omega)] at hk
        have w3 := (ok.2.2.2.2.1 t (by omega)).2.1.2.2.2
        rw [fx _ a1 (by omega) (by omega) (by omega) (by omega)]
        show _ = cTr (if 200 * sNt S ≤ 200 * t + k then _ else S.1 6 (200 * t + k))
        rw [if_neg (by omega)]
        exact r.2.2.2.2 k hk
  · have ht : sNt S + 1 ≤ t := ht
    rw [zPut_i (by omega), z20]; exact c6.2 t (by omega) ht6
theorem P_text (hs : GS g) (o : OKS S) : PairG g S m11_text m12_text [] 4 356 := by
  have n6 := o.1.2.2.2.1
  have hT : TpO (S.1 5) (sTn S) := ⟨o.1.2.2.2.2.2, o.2.2.2.1⟩
  by_cases h6 : sNt S < 6
  · cases hx : (tx 3 0 (tks (S.1 5) (sTn S) 0) [] []).1 with
    | none =>
      refine ⟨iM 100 - iN (hdS (sTn S) (tx 3 0 (tks (S.1 5) (sTn S) 0) [] []).2), scU S 5 0, fun d z I K hz zt c hK => ?_, fun d z I K hz m hK => ?_⟩
      · refine v11_text hs hz (gT (by rw [c.nt]; exact (iN_lt (by omega) (by omega)).mpr h6) ((c_readText (T := S.1 5) (n := sTn S) hs hz.c hT c.tn c.tape (fun _ J1 hJ1 e4 => v5_clear hs hz (gT rfl (v5_place hs hz ?_))) (fun o' e' q => by rw [hx] at q; cases q))))
        rw [up2_i _ _ (by omega), e4]
        exact hK z _ hz (c.scT hz (fun k a b e => by rw [up2_ro _ a]; exact hJ1 k (by simp; omega)) (up2_s _ _ _ _)) (fun k a b => by rw [up2_ro _ (by omega)]; exact hJ1 k (by simp; omega))
      · refine c_mtext hs hz hT h6 m.nx m.nt (fun _ J2 x mf => ?_) (fun o' e' q => by rw [hx] at q; cases q)
        have e0 : ∀ i, i ≠ 5 → (scU S 5 0).1 0 i = S.1 0 i := fun i hi => up1_o _ hi _
        refine hK _ (gbU (scU S 5 0) (up2 (up2 J2 108 (4 * sNt S + 3) x) 101 8 (iN 0)) (sNt S)) ?_ ?_ (m.tx mf _ (fun k a b => by rw [up2_ro _ a, up2_ro _ b]) (fun i hi => by rw [up2_ro _ (by omega), up2_i _ _ (by omega)]) (fun i a b c => if_neg a) rfl (fun i _ => rfl) (fun i _ => rfl) (fun i _ b => e0 i b) (fun i a b c => by rw [up2_i _ _ b, up2_ro _ (by omega)]) (by rw [up2_s]; rfl) (by rw [up2_i _ _ (by omega), up2_ro _ (by omega), mf.2.1 11 (by omega)]; exact m.nt)) (fun k a => by rw [up2_ro _ (by omega), up2_ro _ (by omega)]; exact mf.1 k (by simp; omega))
        · obtain ⟨o1, o2, o3, o4, o5, o6, o7⟩ := scT_ok o
          refine ⟨o1, o2, o3, o4, fun t ht => (o5 t ht).cg (fun k hk => ?_) (fun p hp => ?_), o6, o7⟩
          · have ht : t < sNt S := ht
            exact if_pos (by omega)
          · have ht : t < sNt S := ht
            exact if_pos (by omega)
        · refine ⟨fun i a b => ?_, fun t k ht hk => ?_, fun t p ht hp => ?_, rfl⟩
          · show (if i = 6 then _ else if i = 7 then _ else (scU S 5 0).1 i) = _
            rw [if_neg a, if_neg b]
          · have ht : t < sNt S := ht
            have hk : k < sSt S t 3 := hk
            have w3 := (o.2.2.2.2.1 t ht).2.1.2.2.2
            exact if_pos (by omega)
          · have ht : t < sNt S := ht
            exact if_pos (by omega)
    | some oe2 =>
      obtain ⟨ou, es⟩ := oe2
      obtain ⟨c0, c1, c2, eo, ee, w0, w1, w2, wl⟩ := tx_3 hT hx
      have hes : es.length = 3 := by rw [ee]; rfl
      have he3 : (0 :: es).getD 3 0 = ou.length := by rw [ee, eo]; simp
      refine ⟨iN (sNt S), txU S ou es, fun d z I K hz zt c hK => ?_, fun d z I K hz m hK => ?_⟩
      · have z124 := hz.2.2.2
        refine v11_text hs hz (gT (by rw [c.nt]; exact (iN_lt (by omega) (by omega)).mpr h6) ((c_readText (T := S.1 5) (n := sTn S) hs hz.c hT c.tn c.tape (fun q => by rw [hx] at q; cases q) (fun o' e' q J1 hJ1 hcd hl9 hen e4 => v5_clear hs hz (gF (by decide) ?_)))))
        rw [hx] at q
        cases q
        refine c_textRead (L := ou.length) hs hz.c (by rw [up2_i _ _ (by omega)]; exact hl9) wl (fun z' J e _ z20 z9 t10 tx hl hq hc he => ?_)
        have j12 : up2 J1 22 3 (iN 0) 8 12 = iN (sNt S) := by rw [up2_ro _ (by omega), hJ1 8 (by simp)]; exact c.nt
        have j12' : J 8 12 = iN (sNt S) := by rw [hq 8 (by omega)]; exact j12
        have t20 : zT z' 20 = 103 := by rw [(e.2.1 20 (by omega)).1]; exact hz.t 20 rfl
        have t8 : ∀ o, zT (zPut z' 20 (up2 J1 22 3 (iN 0) 8 12).toNatClampNeg o) 8 = 11 := fun o => by rw [zPut_T, (e.2.1 8 (by omega)).1]; exact hz.t 8 rfl
        refine ⟨by rw [t20]; rfl, by rw [t20, t10]; rfl, by rw [j12, (e.2.1 20 (by omega)).2, hz.l 20 rfl]; exact inB_n h6 (by omega), by rw [t8]; rfl, by rw [t8]; rfl, by rw [t8]; rfl, ?_⟩
        rw [j12, j12', iN_toN (by omega), iN_add, iN_sub (by omega), Nat.add_sub_cancel]
        refine hK _ _ (hz.ex (e.put (Or.inr (Or.inl rfl)))) (c.txt (J1 := up2 J1 22 3 (iN 0)) (J := J) hz zt o h6 hes he3 e z20 z9 tx hl (fun k a b c => by rw [up2_ro _ a]; exact hJ1 k (by simp; omega)) (up2_s _ _ _ _) hq hc ?_ he ?_) (fun k a b => ?_)
        · exact fun i x qx => by rw [up2_ro _ (by omega)]; exact hcd i x qx
        · exact fun i x qx => by rw [up2_ro _ (by omega)]; exact hen i x qx
        · rw [up2_ro _ (by omega), hq k (by omega), up2_ro _ (by omega)]; exact hJ1 k (by simp; omega)
      · refine c_mtext hs hz hT h6 m.nx m.nt (fun q => by rw [hx] at q; cases q) (fun o' e' q J2 mf hO hS he30 _ => ?_)
        rw [hx] at q
        cases q
        have gS : ∀ (J : Is), J = up2 (up2 (up2 J2 108 (4 * sNt S + 3) (iN ou.length)) 101 8 (iN 0)) 101 11 (iN (sNt S + 1)) → (∀ i x, ou[i]? = some x → (gbU (txU S ou es) J (sNt S)).1 6 (200 * sNt S + i) = x) ∧ (∀ p, p ≤ 3 → (gbU (txU S ou es) J (sNt S)).1 7 (4 * sNt S + p) = (0 :: es).getD p 0) := fun J eJ => by
          have small : ∀ v, v < 4294967296 → tN32 (iN v) = v := fun v hv => by
            unfold tN32 iN
            simp
            exact hv
          refine ⟨fun i x qx => ?_, fun p hp => ?_⟩
          · show (if 200 * sNt S + i < 200 * sNt S then _ else tN32 (J 107 (200 * sNt S + i))) = x
            rw [if_neg (by omega), eJ, up2_ro _ (by omega), up2_ro _ (by omega), up2_ro _ (by omega), hO.2 i x qx]
            have hxb : x < 200000 := by
              have hm : ∀ (c : List Nat) (h h' : Nat), hL c h h' → ∀ y ∈ c, y < 200000 := by
                intro c
                induction c with
                | nil => intro h h' _ y hy; cases hy
                | cons a c ih =>
                  intro h h' p y hy
                  obtain ⟨h1, p1, p2⟩ := p
                  rcases List.mem_cons.mp hy with q | q
                  · rw [q]; rcases p1 with ⟨a1, _⟩ | ⟨a1, _⟩ | ⟨a1, _⟩ <;> omega
                  · exact ih h1 h' p2 y q
              have mx : x ∈ ou := List.mem_of_getElem? qx
              rw [eo] at mx
              rcases List.mem_append.mp mx with q | q
              · exact hm c0 0 1 w0 x q
              · rcases List.mem_append.mp q with q | q
                · exact hm c1 0 1 w1 x q
                · exact hm c2 0 1 w2 x q
            exact small x (by omega)
          · show (if 4 * sNt S + p < 4 * sNt S then _ else tN32 (J 108 (4 * sNt S + p))) = _
            rw [if_neg (by omega), eJ, up2_ro _ (by omega), up2_ro _ (by omega)]
            have hv : (0 :: es).getD p 0 ≤ 160 := by
              have el : ou.length = c0.length + (c1.length + c2.length) := by rw [eo]; simp
              rw [ee]
              obtain rfl | rfl | rfl | rfl : p = 0 ∨ p = 1 ∨ p = 2 ∨ p = 3 := by omega
              · show 0 ≤ 160; omega
              · show c0.length ≤ 160; omega
              · show c0.length + c1.length ≤ 160; omega
              · show c0.length + (c1.length + c2.length) ≤ 160; omega
            by_cases q3 : p = 3
            · rw [q3, up2_s, he3]; exact small _ (by omega)
            · rw [up2_i _ _ (by omega), hS p (by omega)]; exact small _ (by omega)
        refine hK _ (gbU (txU S ou es) (up2 (up2 (up2 J2 108 (4 * sNt S + 3) (iN ou.length)) 101 8 (iN 0)) 101 11 (iN (sNt S + 1))) (sNt S)) ?_ ?_ (m.tx mf _ (fun k a b => by rw [up2_ro _ a, up2_ro _ a, up2_ro _ b]) (fun i hi => by rw [up2_ro _ (by omega), up2_ro _ (by omega), up2_i _ _ (by omega)]) (fun i a b c => ?_) rfl (fun i hi => if_neg (by omega)) (fun i hi => if_neg (by omega)) (fun i a b => ?_) (fun i a b c => by rw [up2_i _ _ c, up2_i _ _ b, up2_ro _ (by omega)]) (by rw [up2_i _ _ (by omega), up2_s]; rfl) (by rw [up2_s]; rfl)) (fun k a => by rw [up2_ro _ (by omega), up2_ro _ (by omega), up2_ro _ (by omega)]; exact mf.1 k (by simp; omega))
        · obtain ⟨o1, o2, o3, o4, o5, o6, o7⟩ := o
          refine ⟨⟨o1.1, o1.2.1, o1.2.2.1, ⟨by show 1 ≤ sNt S + 1; omega, by show sNt S + 1 ≤ 6; omega⟩, by show sLw S < sNt S + 1; have := o1.2.2.2.2.1; omega, by show 0 ≤ 160; omega⟩, o2, o3, o4, fun t ht => ?_, ⟨o6.1, o6.2.1, o6.2.2.1, o6.2.2.2.1, o6.2.2.2.2.1, o6.2.2.2.2.2.1, by show S.1 0 10 < sNt S + 1; have := o6.2.2.2.2.2.2; omega⟩, o7⟩
          have ht : t < sNt S + 1 := ht
          by_cases q : t = sNt S
          · rw [q]
            obtain ⟨g6, g7⟩ := gS _ rfl
            exact txU_W _ eo ee w0 w1 w2 wl g6 g7
          · refine (o5 t (by omega)).cg (fun k hk => ?_) (fun p hp => ?_)
            · show (if 200 * t + k < 200 * sNt S then (if 200 * sNt S ≤ 200 * t + k then _ else S.1 6 (200 * t + k)) else _) = _
              rw [if_pos (by omega), if_neg (by omega)]
            · show (if 4 * t + p < 4 * sNt S then (if 4 * sNt S ≤ 4 * t + p then _ else S.1 7 (4 * t + p)) else _) = _
              rw [if_pos (by omega), if_neg (by omega)]
        · obtain ⟨g6, g7⟩ := gS _ rfl
          refine ⟨fun i a b => ?_, fun t k ht hk => ?_, fun t p ht hp => ?_, rfl⟩
          · show (if i = 6 then _ else if i = 7 then _ else (txU S ou es).1 i) = _
            rw [if_neg a, if_neg b]
          · have ht : t < sNt S + 1 := ht
            by_cases q : t = sNt S
            · rw [q] at hk ⊢
              have e73 : sSt (txU S ou es) (sNt S) 3 = ou.length := by
                show (if 4 * sNt S ≤ 4 * sNt S + 3 then (0 :: es).getD (4 * sNt S + 3 - 4 * sNt S) 0 else S.1 7 (4 * sNt S + 3)) = _
                rw [if_pos (by omega), Nat.add_sub_cancel_left, he3]
              rw [e73] at hk
              rw [g6 k _ (getD_lt hk)]
              show _ = (if 200 * sNt S ≤ 200 * sNt S + k then ou.getD (200 * sNt S + k - 200 * sNt S) 0 else S.1 6 (200 * sNt S + k))
              rw [if_pos (by omega), Nat.add_sub_cancel_left]
            · have w3 := (o.2.2.2.2.1 t (by omega)).2.1.2.2.2
              have hk : k < sSt (txU S ou es) t 3 := hk
              rw [show sSt (txU S ou es) t 3 = sSt S t 3 by
                show (if 4 * sNt S ≤ 4 * t + 3 then _ else S.1 7 (4 * t + 3)) = _
                rw [if_neg (by omega)]] at hk
              exact if_pos (by omega)
          · have ht : t < sNt S + 1 := ht
            by_cases q : t = sNt S
            · rw [q, g7 p hp]
              show _ = (if 4 * sNt S ≤ 4 * sNt S + p then (0 :: es).getD (4 * sNt S + p - 4 * sNt S) 0 else S.1 7 (4 * sNt S + p))
              rw [if_pos (by omega), Nat.add_sub_cancel_left]
            · exact if_pos (by omega)
        · show (if i = 0 then _ else if i = 6 then _ else if i = 7 then _ else S.1 i) = _
          rw [if_neg a, if_neg b, if_neg c]
        · show up1 (up1 (S.1 0) 3 (sNt S + 1)) 5 0 i = _
          rw [up1_o _ b, up1_o _ a]
  · have h6' : sNt S = 6 := by omega
    refine ⟨iM 4, S, fun d z I K hz zt c hK => v11_text hs hz (gF (by rw [c.nt, h6']; decide) (hK z I hz c (fun _ _ _ => rfl))), fun d z I K hz m hK => v12_text hs hz (gT (by rw [m.nt, h6']) (hK I S o (Eqv.rf S) m (fun _ _ => rfl)))⟩
end PY
