section GRN
variable {T : Nat → Nat} {n o : Nat}
theorem l9_of (hT : TpO T n) {N : Nat} (hg : ∀ ts, ts.length < N → TkO ts → G5 T n o ts) : ∀ (N' : Nat) (ts : List Tk), ts.length ≤ N' → N' ≤ N → TkO ts → h5 ts → L9 T n o ts := by
  intro N'
  induction N' with
  | zero =>
    intro ts hl hN tk hh
    cases ts with
    | cons t ts => rw [List.length_cons] at hl; omega
    | nil =>
      refine ⟨true, [], [], List.suffix_refl _, Nat.le_refl _, fun _ => (by decide : ¬ (15 ≤ (21 : Nat) ∧ (21 : Nat) ≤ 17)), fun _ _ _ _ => rfl, ?_, ?_⟩
      · intro g D z I L i K hs hz hD hR hL hi hK
        obtain ⟨d, rfl⟩ : ∃ d, D = d + 7 := ⟨D - 7, by omega⟩
        refine w5_readSum_11 hs hz ⟨fun _ => hK I (RP.rf hR), fun _ => ?_⟩
        rw [hR.2.2.1]
        exact gF (by decide) (gF (by decide) (hK I (RP.rf hR)))
      · intro H out _ _
        rfl
  | succ N' ih =>
    intro ts hl hN tk hh
    by_cases hk : hdK ts = 15 ∨ hdK ts = 16
    · cases ts with
      | nil => exact absurd hk (by decide)
      | cons t ts' =>
        have hk : t.1 = 15 ∨ t.1 = 16 := hk
        rw [List.length_cons] at hl
        obtain ⟨ok, r, c, s1, l1, st1, ht1, mc1, sm1⟩ := hg ts' (by omega) tk.tl
        have ecode : sgN t.1 = t.1 + 1 ∧ iM 1 - iN t.1 = cTr (t.1 + 1) ∧ lsN (t.1 + 1) = 5 ∧ rkN (t.1 + 1) = 5 := by
          rcases hk with e | e <;> rw [e] <;> decide
        have pre : ∀ (g : Gt) (d : Nat) (z : Zs) (I : Is) (L i : Nat) (K : Int32 → Is → Prop), GS g → ShC z → 16 + 7 * (5 - o) ≤ d + 7 → RS T n I (t :: ts') o L → L + (t :: ts').length ≤ 160 → i + (t :: ts').length ≤ 160 → (∀ J2, RP T n I L o r c J2 → (bN ok = iN 0 → K (iN 0) J2) ∧ (¬ bN ok = iN 0 → Wv g m5_emit (d + 6) [.ref 22, .int (iM 1 - iN t.1)] z J2 (fun J4 => WPc g m5_readSum (d + 7) 0 0 11 [(0, .ref 22), (1, .int (iN i + iN 1))] [] z J4 (Qi z K)))) → WPc g m5_readSum (d + 7) 0 0 11 [(0, .ref 22), (1, .int (iN i))] [] z I (Qi z K) := fun g d z I L i K hs hz hD hR hL hi hK => by
          rw [List.length_cons] at hL hi
          have go : WPc g m5_readSum (d + 7) 0 0 36 [(0, .ref 22), (1, .int (iN i))] [] z I (Qi z K) := by
            refine w5_readSum_36 hs hz (c_advance hs hz hT hR (fun J1 hJ1 hR1 => mc1 g _ z J1 L _ hs hz (by omega) hR1 (by show L + ts'.length ≤ 160; omega) (fun J2 hJ2 => ?_)))
            rw [hR.2.2.1]
            exact hK J2 (hJ2.st (hJ1.mo (by simp)) (fun i _ => by rw [hJ1 24 (by simp)]))
          refine w5_readSum_11 hs hz ⟨fun q => absurd ((iN_le (by omega) (by omega)).mp q) (by omega), fun _ => ?_⟩
          rw [hR.2.2.1]
          rcases hk with e | e
          · exact gT (by rw [show hdK (t :: ts') = 15 from e]) go
          · exact gF (by rw [show hdK (t :: ts') = 16 from e]; decide) (gT (by rw [show hdK (t :: ts') = 16 from e]) go)
        have sop : ∀ (H out : List Nat), opn H = o → tpB H < 5 → sy (t :: ts') false true H out = sy ts' true false ((t.1 + 1) :: H) out ∧ opn ((t.1 + 1) :: H) = o ∧ tpB ((t.1 + 1) :: H) < 6 := fun H out ho ht => by
          have e0 := sy_op (ts := ts') (t := t) (m := true) (H := H) (o := out) (s := t.1 + 1) (by omega) (by omega) ecode.1 (by omega) (by rw [ecode.2.2.1]; omega) (by rw [ecode.2.2.1]; exact ht) (fun q => by rw [ecode.2.2.2] at q; omega)
          refine ⟨?_, ?_, ?_⟩
          · rw [e0, show decide (t.1 + 1 ≤ 12) = false from decide_eq_false (by omega)]
          · show opn H + (if t.1 + 1 = 0 ∨ t.1 + 1 = 13 ∨ t.1 + 1 = 19 then 1 else 0) = o
            rw [if_neg (by omega)]; exact ho
          · show rkN (t.1 + 1) < 6
            rw [ecode.2.2.2]; omega
        cases ok with
        | false =>
          refine ⟨false, r, c, s1.trans sf_tl, by rw [List.length_cons]; omega, fun q => (by cases q), fun q => (by cases q), ?_, ?_⟩
          · intro g D z I L i K hs hz hD hR hL hi hK
            obtain ⟨d, rfl⟩ : ∃ d, D = d + 7 := ⟨D - 7, by omega⟩
            exact pre g d z I L i K hs hz hD hR hL hi (fun J2 hJ2 => bN_f (hK J2 hJ2))
          · intro H out ho ht
            obtain ⟨e1, e2, e3⟩ := sop H out ho ht
            rw [e1]
            exact sm1 _ out false e2 e3 (Or.inl rfl)
        | true =>
          have st1 := st1 rfl
          obtain ⟨ok2, r2, c2, s2, l2, st2, ht2, mc2, sm2⟩ := ih r (by omega) (by omega) (tk.tl.sf s1) st1.2
          refine ⟨ok2, r2, (c ++ [t.1 + 1]) ++ c2, (s2.trans s1).trans sf_tl, by rw [List.length_cons, List.length_append, List.length_append]; show c.length + 1 + c2.length + r2.length ≤ _; omega, st2, fun q h hh1 hh2 => ?_, ?_, ?_⟩
          · exact hL_app (hL_app (ht1 rfl h (by omega)) (hL_one (h' := h) (Or.inr (Or.inr ⟨by omega, by omega, by omega, by omega⟩)))) (ht2 q h hh1 hh2)
          · intro g D z I L i K hs hz hD hR hL hi hK
            obtain ⟨d, rfl⟩ : ∃ d, D = d + 7 := ⟨D - 7, by omega⟩
            refine pre g d z I L i K hs hz hD hR hL hi (fun J2 hJ2 => bN_t ?_)
            rw [List.length_cons] at hL hi
            refine c_emit hs hz hJ2.2.2.2.1.2.2.1 (by omega) ?_
            have h3 := hJ2.em (x := t.1 + 1) (v := iM 1 - iN t.1) ecode.2.1
            rw [iN_add]
            have el : (c ++ [t.1 + 1]).length = c.length + 1 := by rw [List.length_append]; rfl
            exact mc2 g _ z _ _ (i + 1) K hs hz hD h3.2.2.2 (by rw [el]; omega) (by omega) (fun J4 hJ4 => hK J4 (h3.seq hJ4))
          · intro H out ho ht
            obtain ⟨e1, e2, e3⟩ := sop H out ho ht
            rw [e1, sm1 _ out false e2 e3 (Or.inl rfl)]
            show sy r false true ((t.1 + 1) :: H) (out ++ c) = _
            rw [sy_hd (k := 5) (lst_5 st1.2) (by rw [ecode.2.2.2]; omega), sm2 H _ ho ht]
            simp only [List.append_assoc]
    · refine ⟨true, ts, [], List.suffix_refl _, by show 0 + ts.length ≤ ts.length; omega, fun _ => ?_, fun _ _ _ _ => rfl, ?_, ?_⟩
      · intro q
        have hh : hdK ts ≠ 17 := hh
        omega
      · intro g D z I L i K hs hz hD hR hL hi hK
        obtain ⟨d, rfl⟩ : ∃ d, D = d + 7 := ⟨D - 7, by omega⟩
        have := tk.k
        refine w5_readSum_11 hs hz ⟨fun _ => hK I (RP.rf hR), fun _ => ?_⟩
        rw [hR.2.2.1, iN_inj (by omega) (by omega), iN_inj (by omega) (by omega)]
        exact gF (fun q => hk (Or.inl q)) (gF (fun q => hk (Or.inr q)) (hK I (RP.rf hR)))
      · intro H out _ _
        rw [List.append_nil]; rfl
theorem g3_of (hT : TpO T n) {ts : List Tk} (tk : TkO ts) (hg : G4 T n o ts) (hg2 : ∀ r, r.length < ts.length → TkO r → G4 T n o r) : G3 T n o ts := by
  obtain ⟨ok, r, c, s1, l1, st1, ht1, mc1, sm1⟩ := hg
  cases ok with
  | false =>
    refine ⟨false, r, c, s1, l1, fun q => (by cases q), fun q => (by cases q), ?_, ?_⟩
    · intro g D z I L K hs hz hD hR hL hK
      obtain ⟨d, rfl⟩ : ∃ d, D = d + 1 := ⟨D - 1, by omega⟩
      exact w5_readCompared hs hz (mc1 g d z I L _ hs hz (by omega) hR hL (fun J hJ => bN_f (hK J hJ)))
    · intro H out m ho ht hm
      exact sm1 H out m ho (by omega) hm
  | true =>
    have st1 := st1 rfl
    have tr := tk.sf s1
    have kr := tr.k
    by_cases hk : hdK r = 18 ∨ hdK r = 19
    · cases r with
      | nil => exact absurd hk (by decide)
      | cons t r' =>
        have hk : t.1 = 18 ∨ t.1 = 19 := hk
        have lr := st1.1
        rw [List.length_cons] at lr l1
        obtain ⟨ok2, r2, c2, s2, l2, st2, ht2, mc2, sm2⟩ := hg2 r' (by omega) tr.tl
        have ecode : sgN t.1 = t.1 - 4 ∧ iM 1 - iN t.1 = cTr (t.1 - 4) ∧ lsN (t.1 - 4) = 5 ∧ rkN (t.1 - 4) = 4 := by
          rcases hk with e | e <;> rw [e] <;> decide
        refine ⟨ok2, r2, (c ++ c2) ++ [t.1 - 4], (s2.trans sf_tl).trans s1, by rw [List.length_append, List.length_append]; show c.length + c2.length + 1 + r2.length ≤ _; omega, fun q => ?_, fun q h hM => ?_, ?_, ?_⟩
        · have := s2.length_le
          exact ⟨by omega, (st2 q).2⟩
        · exact hL_app (hL_app (ht1 rfl h (by omega)) (ht2 q (h + 1) (by omega))) (hL_one (Or.inr (Or.inr ⟨by omega, by omega, by omega, by omega⟩)))
        · intro g D z I L K hs hz hD hR hL hK
          obtain ⟨d, rfl⟩ : ∃ d, D = d + 7 := ⟨D - 7, by omega⟩
          refine w5_readCompared hs hz (mc1 g _ z I L _ hs hz (by omega) hR hL (fun J hJ => bN_t ?_))
          have hR1 := hJ.2.2.2
          rw [hR1.2.2.1]
          have go : WPc g m5_readCompared (d + 7) 0 0 28 [(0, .ref 22), (1, .int (iN t.1))] [] z J (Qi z K) := by
            refine w5_readCompared_28 hs hz (c_advance hs hz hT hR1 (fun J1 hJ1 hR2 => mc2 g _ z J1 (L + c.length) _ hs hz (by omega) hR2 (by show L + c.length + r'.length ≤ 160; omega) (fun J2 hJ2 => ?_)))
            have hP := hJ.seq (hJ2.st (hJ1.mo (by simp)) (fun i _ => by rw [hJ1 24 (by simp)]))
            have el : (c ++ c2).length = c.length + c2.length := List.length_append
            refine c_emit hs hz hP.2.2.2.1.2.2.1 (by rw [el]; omega) ⟨nb_b _, hK _ (hP.em ecode.2.1)⟩
          rcases hk with e | e
          · exact gT (by rw [show hdK (t :: r') = 18 from e]) go
          · exact gF (by rw [show hdK (t :: r') = 19 from e]; decide) (gT (by rw [show hdK (t :: r') = 19 from e]) go)
        · intro H out m ho ht hm
          have e0 := sy_op (ts := r') (t := t) (m := true) (H := H) (o := out ++ c) (s := t.1 - 4) (by omega) (by omega) ecode.1 (by omega) (by rw [ecode.2.2.1]; omega) (by rw [ecode.2.2.1]; omega) (fun _ => by omega)
          rw [show decide (t.1 - 4 ≤ 12) = false from decide_eq_false (by omega)] at e0
          have e1 := sm1 H out m ho (by omega) hm
          have e2 := sm2 ((t.1 - 4) :: H) (out ++ c) false (by
            show opn H + (if t.1 - 4 = 0 ∨ t.1 - 4 = 13 ∨ t.1 - 4 = 19 then 1 else 0) = o
            rw [if_neg (by omega)]; exact ho) (by show rkN (t.1 - 4) < 5; rw [ecode.2.2.2]; omega) (Or.inl rfl)
          rw [e1]
          show sy (t :: r') false true H (out ++ c) = _
          rw [e0, e2]
          cases ok2 with
          | false => rfl
          | true =>
            show sy r2 false true ((t.1 - 4) :: H) (out ++ c ++ c2) = fnS r2 H _
            unfold fnS
            by_cases q : hdK r2 = 18 ∨ hdK r2 = 19
            · rw [if_pos q]
              cases r2 with
              | nil => rfl
              | cons u r3 =>
                have q : u.1 = 18 ∨ u.1 = 19 := q
                have eu : sgN u.1 = u.1 - 4 ∧ lsN (u.1 - 4) = 5 ∧ rkN (u.1 - 4) = 4 := by
                  rcases q with e | e <;> rw [e] <;> decide
                have ew : unw 5 ((t.1 - 4) :: H) (out ++ c ++ c2) = ((t.1 - 4) :: H, out ++ c ++ c2) := unw_lo (by omega) (by show rkN (t.1 - 4) < 5; rw [ecode.2.2.2]; omega)
                rw [sy_n, if_neg (by omega), if_neg (by omega), eu.1, if_neg (by omega), eu.2.1, ew, if_pos ⟨eu.2.2, ecode.2.2.2⟩]
            · rw [if_neg q, sy_hd (k := 2) (lst_2 (st2 rfl).2 q) (by rw [ecode.2.2.2]; omega)]
              simp only [List.append_assoc]
    · refine ⟨true, r, c, s1, l1, fun _ => st1, fun _ h hM => ht1 rfl h (by omega), ?_, ?_⟩
      · intro g D z I L K hs hz hD hR hL hK
        obtain ⟨d, rfl⟩ : ∃ d, D = d + 1 := ⟨D - 1, by omega⟩
        refine w5_readCompared hs hz (mc1 g d z I L _ hs hz (by omega) hR hL (fun J hJ => bN_t ?_))
        rw [hJ.2.2.2.2.2.1, iN_inj (by omega) (by omega), iN_inj (by omega) (by omega)]
        exact gF (fun q => hk (Or.inl q)) (gF (fun q => hk (Or.inr q)) (hK J hJ))
      · intro H out m ho ht hm
        rw [sm1 H out m ho (by omega) hm]
        show sy r false true H (out ++ c) = fnS r H (out ++ c)
        unfold fnS
        rw [if_neg hk]
theorem g2_of (hT : TpO T n) (ho5 : o ≤ 5) {ts : List Tk} (tk : TkO ts) (hg : G3 T n o ts) (hg2 : ∀ r, r.length < ts.length → o < 5 → TkO r → G2 T n (o + 1) r) : G2 T n o ts := by
  by_cases hk : hdK ts = 5
  · cases ts with
    | nil => exact absurd hk (by decide)
    | cons t ts' =>
      have hk : t.1 = 5 := hk
      by_cases h5 : o < 5
      · obtain ⟨ok, r, c, s1, l1, st1, ht1, mc1, sm1⟩ := hg2 ts' (by rw [List.length_cons]; omega) h5 tk.tl
        refine ⟨ok, r, c ++ [13], s1.trans sf_tl, by rw [List.length_cons, List.length_append]; show c.length + 1 + r.length ≤ _; omega, fun q => ?_, fun q h hM => ?_, ?_, ?_⟩
        · have := (st1 q).1
          exact ⟨by rw [List.length_cons]; omega, (st1 q).2⟩
        · exact hL_app (ht1 q h (by omega)) (hL_one (Or.inr (Or.inl ⟨by omega, by omega, by omega, rfl⟩)))
        · intro g D z I L K hs hz hD hR hL hK
          obtain ⟨d, rfl⟩ : ∃ d, D = d + 7 := ⟨D - 7, by omega⟩
          rw [List.length_cons] at hL
          refine w5_readDenied hs hz ?_
          rw [hR.2.2.1, hR.1.2.1]
          refine gT (by rw [show hdK (t :: ts') = 5 from hk]) (gT ((iN_lt (by omega) (by omega)).mpr h5) ?_)
          rw [iN_add]
          refine c_advance hs hz hT (hR.op (o + 1)) (fun J1 hJ1 hR1 => mc1 g _ z J1 L _ hs hz (by omega) hR1 (by show L + ts'.length ≤ 160; omega) (fun J2 hJ2 => ?_))
          have hP : RP T n I L (o + 1) r c J2 := hJ2.st (((Of.up (by simp) _ _).tr (hJ1.mo (by simp)))) (fun i _ => by rw [hJ1 24 (by simp), up2_ro _ (by omega)])
          rw [hJ2.2.2.2.1.2.1, iN_sub (by omega), Nat.add_sub_cancel]
          have hQ := hP.op o
          exact c_emit hs hz hQ.2.2.2.1.2.2.1 (by omega) ⟨nb_b _, hK _ (hQ.em rfl)⟩
        · intro H out ho ht
          have e : sy (t :: ts') true true H out = sy ts' true true (13 :: H) out := by
            show (if t.1 = 20 ∨ (6 ≤ t.1 ∧ t.1 ≤ 11) then _ else if (t.1 = 5 ∧ true = true) ∨ t.1 = 16 ∨ t.1 = 12 then (if opn H = 5 then _ else sy ts' true (!(Nat.beq t.1 16)) (sgU t.1 :: H) out) else _) = _
            rw [if_neg (by omega), if_pos (Or.inl ⟨hk, rfl⟩), if_neg (by omega), hk]; rfl
          rw [e, sm1 (13 :: H) out (by show opn H + 1 = o + 1; omega) (by show rkN 13 < 4; decide)]
          cases ok with
          | false => rfl
          | true =>
            show fnS r (13 :: H) (out ++ c) = fnS r H _
            rw [fn_hd (k := 2) (fun q => lst_2 (st1 rfl).2 q) (by decide), List.append_assoc]
      · refine ⟨false, t :: ts', [], List.suffix_refl _, by show 0 + (t :: ts').length ≤ _; omega, fun q => (by cases q), fun q => (by cases q), ?_, ?_⟩
        · intro g D z I L K hs hz hD hR hL hK
          obtain ⟨d, rfl⟩ : ∃ d, D = d + 7 := ⟨D - 7, by omega⟩
          refine w5_readDenied hs hz ?_
          rw [hR.2.2.1, hR.1.2.1]
          exact gT (by rw [show hdK (t :: ts') = 5 from hk]) (gF (fun q => h5 ((iN_lt (by omega) (by omega)).mp q)) (hK I (RP.rf hR)))
        · intro H out ho ht
          show (if t.1 = 20 ∨ (6 ≤ t.1 ∧ t.1 ≤ 11) then _ else if (t.1 = 5 ∧ true = true) ∨ t.1 = 16 ∨ t.1 = 12 then (if opn H = 5 then _ else sy ts' true (!(Nat.beq t.1 16)) (sgU t.1 :: H) out) else _) = _
          rw [if_neg (by omega), if_pos (Or.inl ⟨hk, rfl⟩), if_pos (by omega)]; rfl
  · obtain ⟨ok, r, c, s1, l1, st1, ht1, mc1, sm1⟩ := hg
    have := tk.k
    refine ⟨ok, r, c, s1, l1, st1, ht1, ?_, fun H out ho ht => sm1 H out true ho ht (Or.inr hk)⟩
    intro g D z I L K hs hz hD hR hL hK
    obtain ⟨d, rfl⟩ : ∃ d, D = d + 7 := ⟨D - 7, by omega⟩
    refine w5_readDenied hs hz ?_
    rw [hR.2.2.1, iN_inj (by omega) (by omega)]
    exact gF hk (mc1 g _ z I L _ hs hz (by omega) hR hL (fun J hJ => ⟨nb_b _, hK J hJ⟩))
end GRN
