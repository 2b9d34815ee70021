section GRO
variable {T : Nat → Nat} {n o : Nat}
theorem nm_tr : ∀ k, 6 ≤ k → k ≤ 11 → iM 1 - iN k = cTr (k - 6) := by
  intro k h1 h2
  have key : k = 6 ∨ k = 7 ∨ k = 8 ∨ k = 9 ∨ k = 10 ∨ k = 11 := by omega
  rcases key with rfl | rfl | rfl | rfl | rfl | rfl <;> decide
theorem sy_at {t : Tk} {ts : List Tk} {m : Bool} {H out : List Nat} (h : t.1 = 20 ∨ (6 ≤ t.1 ∧ t.1 ≤ 11)) : sy (t :: ts) true m H out = sy ts false m (unw 7 H (out ++ [cdK t])).1 (unw 7 H (out ++ [cdK t])).2 := by
  show (if t.1 = 20 ∨ (6 ≤ t.1 ∧ t.1 ≤ 11) then _ else _) = _
  rw [if_pos h]
theorem sy_u {t : Tk} {ts : List Tk} {m : Bool} {H out : List Nat} (h : t.1 = 16 ∨ t.1 = 12) : sy (t :: ts) true m H out = if opn H = 5 then (none, t :: ts) else sy ts true (!(Nat.beq t.1 16)) (sgU t.1 :: H) out := by
  show (if t.1 = 20 ∨ (6 ≤ t.1 ∧ t.1 ≤ 11) then _ else if (t.1 = 5 ∧ m = true) ∨ t.1 = 16 ∨ t.1 = 12 then (if opn H = 5 then _ else sy ts true (!(Nat.beq t.1 16)) (sgU t.1 :: H) out) else _) = _
  rw [if_neg (by omega), if_pos (Or.inr h)]
theorem g6_of (hT : TpO T n) (ho5 : o ≤ 5) {ts : List Tk} (tk : TkO ts) (hg0 : ∀ r, r.length < ts.length → o < 5 → TkO r → G0 T n (o + 1) r) (hg6 : ∀ r, r.length < ts.length → o < 5 → TkO r → G6 T n (o + 1) r) : G6 T n o ts := by
  have tkk := tk.k
  by_cases ha : hdK ts = 20 ∨ (6 ≤ hdK ts ∧ hdK ts ≤ 11)
  · cases ts with
    | nil => exact absurd ha (by decide)
    | cons t ts' =>
      have ha : t.1 = 20 ∨ (6 ≤ t.1 ∧ t.1 ≤ 11) := ha
      refine ⟨true, ts', [cdK t], sf_tl, by show 1 + ts'.length ≤ ts'.length + 1; omega, fun _ => ⟨by rw [List.length_cons]; omega, trivial⟩, fun _ h hM => hL_one (Or.inl ⟨?_, by omega, rfl⟩), ?_, ?_⟩
      · unfold cdK
        have := (tk t List.mem_cons_self).2
        split
        next q => have := this q; exact Or.inl ⟨by omega, by omega⟩
        next q => exact Or.inr (by omega)
      · intro g D z I L K hs hz hD hR hL hK
        obtain ⟨d, rfl⟩ : ∃ d, D = d + 7 := ⟨D - 7, by omega⟩
        rw [List.length_cons] at hL
        have go : ∀ v, v = cTr (cdK t) → Wv g m5_emit (d + 6) [.ref 22, .int v] z I (fun J3 => Wv g m5_advance (d + 6) [.ref 22] z J3 (fun J4 => K (iN 1) J4)) := fun v hv => by
          have hP := (RP.rf hR).em hv
          exact c_emit hs hz hR.1.2.2.1 (by omega) (c_advance hs hz hT hP.2.2.2 (fun J4 hJ4 hR4 => hK J4 (hP.adv hJ4 hR4)))
        have g23 : WPc g m5_readOne (d + 7) 0 0 23 [(0, .ref 22)] [] z I (Qi z K) := by
          refine w5_readOne_23 hs hz ?_
          rw [hR.2.2.1]
          refine ⟨fun q => ?_, fun q => ?_⟩
          · have q : hdK (t :: ts') = 20 := (iN_inj (by omega) (by omega)).mp q
            rw [hR.2.2.2.2.1 q]
            refine go _ ?_
            have q : t.1 = 20 := q
            unfold cdK cTr
            rw [if_pos q, if_pos (by omega), Nat.add_sub_cancel_left]; rfl
          · have q : ¬ t.1 = 20 := fun w => q (by rw [show hdK (t :: ts') = 20 from w])
            have hb : 6 ≤ t.1 ∧ t.1 ≤ 11 := by omega
            refine go _ ?_
            show iM 1 - iN t.1 = _
            unfold cdK
            rw [if_neg q]; exact nm_tr t.1 hb.1 hb.2
        refine w5_readOne hs hz ?_
        rw [hR.2.2.1, iN_inj (by omega) (by omega)]
        refine ⟨fun _ => g23, fun q => gT ((inR_iN (by omega) (by omega) (by omega)).mpr ?_) g23⟩
        have q : ¬ t.1 = 20 := q
        show 6 ≤ t.1 ∧ t.1 ≤ 11
        omega
      · intro H out m ho hm
        rw [sy_at ha]
        exact sy_m _ _ _ _ _
  · by_cases hk : hdK ts = 16 ∨ hdK ts = 12
    · cases ts with
      | nil => exact absurd hk (by decide)
      | cons t ts' =>
        have hk : t.1 = 16 ∨ t.1 = 12 := hk
        have e73 : ∀ {g : Gt} {d : Nat} {z : Zs} {I : Is} {L : Nat} {K : Int32 → Is → Prop}, GS g → ShC z → RS T n I (t :: ts') o L → WPc g m5_readOne (d + 7) 0 0 73 [(0, .ref 22)] [] z I (Qi z K) → Wi g m5_readOne (d + 7) [.ref 22] z I K := fun hs hz hR h => by
          refine w5_readOne hs hz ?_
          rw [hR.2.2.1, iN_inj (by omega) (by omega), iN_inj (by omega) (by omega), iN_inj (by omega) (by omega)]
          refine gF (fun q => ha (Or.inl q)) (gF (fun q => ha (Or.inr ((inR_iN (by omega) (by omega) (by omega)).mp q))) ⟨fun _ => h, fun q => gT ?_ h⟩)
          rcases hk with e | e
          · exact e
          · exact absurd e q
        by_cases h5 : o < 5
        · rcases hk with hk | hk
          · -- a minus
            obtain ⟨ok, r, c, s1, l1, st1, ht1, mc1, sm1⟩ := hg6 ts' (by rw [List.length_cons]; omega) h5 tk.tl
            refine ⟨ok, r, c ++ [19], s1.trans sf_tl, by rw [List.length_cons, List.length_append]; show c.length + 1 + r.length ≤ _; omega, fun q => ?_, fun q h hM => ?_, ?_, ?_⟩
            · have := (st1 q).1
              exact ⟨by rw [List.length_cons]; omega, trivial⟩
            · exact hL_app (ht1 q h (by omega)) (hL_one (Or.inr (Or.inl ⟨by omega, by omega, by omega, rfl⟩)))
            · intro g D z I L K hs hz hD hR hL hK
              obtain ⟨d, rfl⟩ : ∃ d, D = d + 7 := ⟨D - 7, by omega⟩
              rw [List.length_cons] at hL
              refine e73 hs hz hR (w5_readOne_73 hs hz ?_)
              rw [hR.2.2.1, hR.1.2.1]
              refine gT ((iN_lt (by omega) (by omega)).mpr h5) (gF (by rw [show hdK (t :: ts') = 16 from hk]; decide) (w5_readOne_97 hs hz ?_))
              rw [hR.1.2.1, iN_add]
              refine c_advance hs hz hT (hR.op (o + 1)) (fun J1 hJ1 hR1 => gT rfl (mc1 g _ z J1 L _ hs hz (by omega) hR1 (by show L + ts'.length ≤ 160; omega) (fun J2 hJ2 => w5_readOne_144 hs hz (gT rfl ?_))))
              have hP : RP T n I L (o + 1) r c J2 := hJ2.st (((Of.up (by simp) _ _).tr (hJ1.mo (by simp)))) (fun i _ => by rw [hJ1 24 (by simp), up2_ro _ (by omega)])
              rw [hJ2.2.2.2.1.2.1, iN_sub (by omega), Nat.add_sub_cancel]
              have hQ := hP.op o
              exact c_emit hs hz hQ.2.2.2.1.2.2.1 (by omega) ⟨nb_b _, hK _ (hQ.em rfl)⟩
            · intro H out m ho hm
              rw [sy_u (Or.inl hk), if_neg (by omega), hk]
              show sy ts' true false (19 :: H) out = _
              rw [sm1 (19 :: H) out false (by show opn H + 1 = o + 1; omega) (Or.inl rfl), unw_hi (k := 7) (s := 19) (by decide), List.append_assoc]
          · -- an opening bracket
            obtain ⟨ok, r, c, s1, l1, st1, ht1, mc1, sm1⟩ := hg0 ts' (by rw [List.length_cons]; omega) h5 tk.tl
            have tr := (tk.tl).sf s1
            have kr := tr.k
            have pre : ∀ {g : Gt} {d : Nat} {z : Zs} {I : Is} {L : Nat} {K : Int32 → Is → Prop}, GS g → ShC z → 14 + 7 * (5 - o) ≤ d + 8 → RS T n I (t :: ts') o L → L + (t :: ts').length ≤ 160 → (∀ J, RP T n I L (o + 1) r c J → (bN ok = iN 0 → K (iN 0) (up2 J 22 8 (iN o))) ∧ (¬ bN ok = iN 0 → (hdK r = 13 → ∀ H, Of [22] J H → RS T n H r.tail (o + 1) (L + c.length) → K (iN 1) (up2 H 22 8 (iN o))) ∧ (¬ hdK r = 13 → K (iN 0) (up2 J 22 8 (iN o))))) → Wi g m5_readOne (d + 8) [.ref 22] z I K := fun {g d z I L K} hs hz hD hR hL hK => by
              rw [List.length_cons] at hL
              refine e73 hs hz hR (w5_readOne_73 hs hz ?_)
              rw [hR.2.2.1, hR.1.2.1]
              refine gT ((iN_lt (by omega) (by omega)).mpr h5) (gT (by rw [show hdK (t :: ts') = 12 from hk]) (w5_readOne_97 hs hz ?_))
              rw [hR.1.2.1, iN_add]
              have N1 : ¬ iN 1 = iN 0 := by decide
              refine c_advance hs hz hT (hR.op (o + 1)) (fun J1 hJ1 hR1 => gF N1 (mc1 g _ z J1 L _ hs hz (by omega) hR1 (by show L + ts'.length ≤ 160; omega) (fun J2 hJ2 => ?_)))
              have hP : RP T n I L (o + 1) r c J2 := hJ2.st (((Of.up (by simp) _ _).tr (hJ1.mo (by simp)))) (fun i _ => by rw [hJ1 24 (by simp), up2_ro _ (by omega)])
              obtain ⟨k1, k2⟩ := hK J2 hP
              have out : ∀ (J3 : Is), J3 22 8 = iN (o + 1) → K (iN 0) (up2 J3 22 8 (iN o)) → WPc g m5_readOne (d + 8) 0 0 136 [(0, .ref 22), (1, .int (iN 1))] [] z J3 (Qi z K) := fun J3 e8 k => by
                refine w5_readOne_136 hs (w5_readOne_144 hs hz (gF N1 ⟨rfl, ?_⟩))
                rw [e8, iN_sub (by omega), Nat.add_sub_cancel]; exact k
              refine ⟨fun q => out J2 hJ2.2.2.2.1.2.1 (k1 q), fun q => ?_⟩
              refine c_readToken (k := 13) (d := d) hs hz hT hJ2.2.2.2 (by omega) kr (fun q2 J3 hJ3 hR3 => gF N1 (w5_readOne_144 hs hz (gF N1 ⟨rfl, ?_⟩))) (fun q2 => gT rfl (out J2 hJ2.2.2.2.1.2.1 ((k2 q).2 q2)))
              rw [hR3.1.2.1, iN_sub (by omega), Nat.add_sub_cancel]
              exact (k2 q).1 q2 J3 hJ3 hR3
            have sop : ∀ (H out : List Nat) (m : Bool), opn H = o → sy (t :: ts') true m H out = rsS ok r (fnS r (0 :: H) (out ++ c)) := fun H out m ho => by
              rw [sy_u (Or.inr hk), if_neg (by omega), hk]
              show sy ts' true true (0 :: H) out = _
              exact sm1 (0 :: H) out (by show opn H + 1 = o + 1; omega) (by show rkN 0 < 1; decide)
            cases ok with
            | false =>
              refine ⟨false, r, c, s1.trans sf_tl, by rw [List.length_cons]; omega, fun q => (by cases q), fun q => (by cases q), ?_, ?_⟩
              · intro g D z I L K hs hz hD hR hL hK
                obtain ⟨d, rfl⟩ : ∃ d, D = d + 8 := ⟨D - 8, by omega⟩
                exact pre hs hz hD hR hL (fun J hJ => bN_f (hK _ (hJ.op o)))
              · intro H out m ho hm
                exact sop H out m ho
            | true =>
              have st1 := st1 rfl
              have ht1 := ht1 rfl
              by_cases q : hdK r = 13
              · cases r with
                | nil => exact absurd q (by decide)
                | cons u r' =>
                  have l2 := st1.1
                  rw [List.length_cons] at l1 l2
                  refine ⟨true, r', c, (sf_tl.trans s1).trans sf_tl, by rw [List.length_cons]; omega, fun _ => ⟨by rw [List.length_cons]; omega, trivial⟩, fun _ h hM => ht1 h (by omega), ?_, ?_⟩
                  · intro g D z I L K hs hz hD hR hL hK
                    obtain ⟨d, rfl⟩ : ∃ d, D = d + 8 := ⟨D - 8, by omega⟩
                    exact pre hs hz hD hR hL (fun J hJ => bN_t (gT q (fun J3 hJ3 hR3 => hK _ ((hJ.adv hJ3 hR3).op o))))
                  · intro H out m ho hm
                    have q : u.1 = 13 := q
                    rw [sop H out m ho]
                    show fnS (u :: r') (0 :: H) (out ++ c) = _
                    unfold fnS
                    rw [if_neg (show ¬ (hdK (u :: r') = 18 ∨ hdK (u :: r') = 19) by show ¬ (u.1 = 18 ∨ u.1 = 19); omega), sy_n, if_neg (by omega), if_pos q, unw_lo (k := 1) (H := 0 :: H) (by decide) (by show rkN 0 < 1; decide)]
                    rfl
              · refine ⟨false, r, c, s1.trans sf_tl, by rw [List.length_cons]; omega, fun q => (by cases q), fun q => (by cases q), ?_, ?_⟩
                · intro g D z I L K hs hz hD hR hL hK
                  obtain ⟨d, rfl⟩ : ∃ d, D = d + 8 := ⟨D - 8, by omega⟩
                  exact pre hs hz hD hR hL (fun J hJ => bN_t (gF q (hK _ (hJ.op o))))
                · intro H out m ho hm
                  rw [sop H out m ho]
                  show fnS r (0 :: H) (out ++ c) = (none, r)
                  obtain ⟨⟨n1, n2⟩, n3⟩ := st1.2
                  have n1 : ¬ (15 ≤ hdK r ∧ hdK r ≤ 17) := n1
                  unfold fnS
                  by_cases q2 : hdK r = 18 ∨ hdK r = 19
                  · rw [if_pos q2]
                  · rw [if_neg q2]
                    by_cases q3 : hdK r = 14
                    · cases r with
                      | nil => rfl
                      | cons u r' =>
                        have q3 : u.1 = 14 := q3
                        rw [sy_n, if_pos q3, unw_lo (k := 1) (H := 0 :: H) (by decide) (by show rkN 0 < 1; decide), if_neg (by simp)]
                    · refine sy_bad q3 q ?_
                      unfold sgN
                      rw [if_neg n3, if_neg n2, if_neg (by omega), if_neg (by omega), if_neg (by omega), if_neg (by omega), if_neg (by omega)]
        · refine ⟨false, t :: ts', [], List.suffix_refl _, by show 0 + (t :: ts').length ≤ _; omega, fun q => (by cases q), fun q => (by cases q), ?_, ?_⟩
          · intro g D z I L K hs hz hD hR hL hK
            obtain ⟨d, rfl⟩ : ∃ d, D = d + 7 := ⟨D - 7, by omega⟩
            refine e73 hs hz hR (w5_readOne_73 hs hz ?_)
            rw [hR.1.2.1]
            exact gF (fun q => h5 ((iN_lt (by omega) (by omega)).mp q)) (hK I (RP.rf hR))
          · intro H out m ho hm
            rw [sy_u hk, if_pos (by omega)]; rfl
    · refine ⟨false, ts, [], List.suffix_refl _, by show 0 + ts.length ≤ _; omega, fun q => (by cases q), fun q => (by cases q), ?_, ?_⟩
      · intro g D z I L K hs hz hD hR hL hK
        obtain ⟨d, rfl⟩ : ∃ d, D = d + 7 := ⟨D - 7, by omega⟩
        refine w5_readOne hs hz ?_
        rw [hR.2.2.1, iN_inj (by omega) (by omega), iN_inj (by omega) (by omega), iN_inj (by omega) (by omega)]
        exact gF (fun q => ha (Or.inl q)) (gF (fun q => ha (Or.inr ((inR_iN (by omega) (by omega) (by omega)).mp q))) (gF (fun q => hk (Or.inr q)) (gF (fun q => hk (Or.inl q)) (hK I (RP.rf hR)))))
      · intro H out m ho hm
        cases ts with
        | nil => rfl
        | cons t ts' =>
          have ha : ¬ (t.1 = 20 ∨ (6 ≤ t.1 ∧ t.1 ≤ 11)) := ha
          have hk : ¬ (t.1 = 16 ∨ t.1 = 12) := hk
          have hm : m = false ∨ t.1 ≠ 5 := hm
          show (if t.1 = 20 ∨ (6 ≤ t.1 ∧ t.1 ≤ 11) then _ else if (t.1 = 5 ∧ m = true) ∨ t.1 = 16 ∨ t.1 = 12 then _ else (none, t :: ts')) = _
          rw [if_neg ha, if_neg (fun w => by
            rcases w with w | w
            · rcases hm with e | e
              · rw [e] at w; exact absurd w.2 (by decide)
              · exact e w.1
            · exact hk w)]
          rfl
theorem G_all (hT : TpO T n) : ∀ (N o : Nat) (ts : List Tk), o ≤ 5 → ts.length < N → TkO ts → G6 T n o ts ∧ G5 T n o ts ∧ G4 T n o ts ∧ G3 T n o ts ∧ G2 T n o ts ∧ G1 T n o ts ∧ G0 T n o ts
  | 0, o, ts, _, h, _ => absurd h (by omega)
  | N + 1, o, ts, ho, h, tk => by
    have P := G_all hT N
    have a6 := g6_of hT ho tk (fun r lr h5 tr => (P (o + 1) r (by omega) (by omega) tr).2.2.2.2.2.2) (fun r lr h5 tr => (P (o + 1) r (by omega) (by omega) tr).1)
    have a5 := g5_of a6 (fun r lr sr => l10_of hT (N := ts.length) (fun r2 l2 t2 => (P o r2 ho (by omega) t2).1) r.length r (Nat.le_refl _) (by omega) (tk.sf sr))
    have a4 := g4_of a5 (fun r lr sr hh => l9_of hT (N := ts.length) (fun r2 l2 t2 => (P o r2 ho (by omega) t2).2.1) r.length r (Nat.le_refl _) (by omega) (tk.sf sr) hh)
    have a3 := g3_of hT tk a4 (fun r lr tr => (P o r ho (by omega) tr).2.2.1)
    have a2 := g2_of hT ho tk a3 (fun r lr h5 tr => (P (o + 1) r (by omega) (by omega) tr).2.2.2.2.1)
    have a1 := g1_of a2 (fun r lr sr hh => l8_of hT (N := ts.length) (fun r2 l2 t2 => (P o r2 ho (by omega) t2).2.2.2.2.1) r.length r (Nat.le_refl _) (by omega) (tk.sf sr) hh)
    have a0 := g0_of a1 (fun r lr sr hh => l7_of hT (N := ts.length) (fun r2 l2 t2 => (P o r2 ho (by omega) t2).2.2.2.2.2.1) r.length r (Nat.le_refl _) (by omega) (tk.sf sr) hh)
    exact ⟨a6, a5, a4, a3, a2, a1, a0⟩
/-- an expression: how the class reads it, and that the reference reads it so -/
theorem G_E (hT : TpO T n) {ts : List Tk} (tk : TkO ts) : G0 T n 0 ts := (G_all hT (ts.length + 1) 0 ts (by omega) (by omega) tk).2.2.2.2.2.2
end GRO
