section MEX
variable {g : Gt} {d : Nat} {z : Zs} {I J : Is} {T : Nat → Nat} {n e t : Nat} {H o : List Nat}
theorem rk0 {s : Nat} (h : rkN s < 1) : s = 0 := by
  unfold rkN at h
  split at h
  next q => exact q
  next => repeat (first | (split at h) | omega)
theorem er_l {K : Int32 → Is → Prop} (hs : GS g) (hz : Sh z) (hT : TpO T n) (t6 : t < 6) : ∀ (ts : List Tk) (w m : Bool) (H o : List Nat) (J : Is) (e : Nat), ts = tks T n e → e ≤ n → J 101 23 = iN e → NxO T n J → J 101 11 = iN t → Sml H → HO J H → OuO J t o → H.length + o.length + ts.length ≤ 160 → TkO ts →
    (∀ r, sy ts w m H o = (none, r) → ∀ J2, MFr t J J2 → J2 101 24 = iN (hdS n r) → K (iN 0) J2) →
    (∀ o2 r, sy ts w m H o = (some o2, r) → ∀ J2 e2, MFr t J J2 → OuO J2 t o2 → e2 ≤ n → J2 101 23 = iN e2 → r = tks T n e2 → o2.length + r.length ≤ 160 → K (iN 1) J2) →
    WPc g m12_eRead (d + 4) 0 0 14 [(0, .ref 101), (1, .int (bN w)), (2, .int (bN m))] [] z J (Qi z K) := by
  intro ts
  induction ts with
  | nil =>
    intro w m H o J e hts he h23 hN ht hS hH hO hl tk hKN hKY
    refine v12_eRead_14 hs hz (c_nextT hs hz hT hN he h23 hts (fun J1 e1 h1 he1 a24 a25 v tl => ?_))
    have m1 : MFr t J J1 := MFr.lm h1
    have bad : ∀ (J2 : Is), MFr t J J2 → J2 101 24 = iN n → K (iN 0) J2 := fun J2 m2 h2 => by
      cases w with
      | true => exact hKN [] rfl J2 m2 h2
      | false => exact hKN [] rfl J2 m2 h2
    have a25 : J1 101 25 = iN 0 := a25
    rw [a25]
    cases w with
    | false =>
      refine bN_f (gF (by decide) (gF (by decide) (c_signOf (k := 21) hs hz (by omega) a25 (fun _ => gT rfl (bad J1 m1 a24)) (fun q => absurd (by decide) q))))
    | true =>
      refine bN_t (gF (by decide) (gF (by decide) (gF (by decide) (v12_eRead_99 hs hz ?_))))
      rw [a25]
      exact gF (by decide) (gF (by decide) (bad J1 m1 a24))
  | cons tk0 ts ih =>
    intro w m H o J e hts he h23 hN ht hS hH hO hl tk hKN hKY
    rw [List.length_cons] at hl
    have k22 : tk0.1 ≤ 22 := (tk tk0 List.mem_cons_self).1
    obtain ⟨f1, f2, f3, f4, f5, f6, f7, f8, f9, f10, f11, f12, f13, f14, f15⟩ := rt_f tk0.1 (by omega)
    refine v12_eRead_14 hs hz (c_nextT hs hz hT hN he h23 hts (fun J1 e1 h1 he1 a24 a25 v tl => ?_))
    have m1 : MFr t J J1 := MFr.lm h1
    have tl : ts = tks T n e1 := tl
    have a25 : J1 101 25 = rtN tk0.1 := a25
    have ht1 : J1 101 11 = iN t := by rw [h1.2.1 11 (by omega)]; exact ht
    have hH1 := hH.lm h1
    have hO1 := hO.lm h1
    have hN1 := hN.mf m1
    have bad : sy (tk0 :: ts) w m H o = (none, tk0 :: ts) → ∀ (J2 : Is), MFr t J J2 → J2 101 24 = J1 101 24 → K (iN 0) J2 := fun q J2 m2 h2 => hKN _ q J2 m2 (by rw [h2]; exact a24)
    -- on, behind the token
    have on : ∀ (w' m' : Bool) (H' o' : List Nat) (J2 : Is), sy (tk0 :: ts) w m H o = sy ts w' m' H' o' → MFr t J J2 → J2 101 23 = J1 101 23 → Sml H' → HO J2 H' → OuO J2 t o' → H'.length + o'.length + ts.length ≤ 160 → WPc g m12_eRead (d + 4) 0 0 14 [(0, .ref 101), (1, .int (bN w')), (2, .int (bN m'))] [] z J2 (Qi z K) := fun w' m' H' o' J2 es m2 c23 hS' hH' hO' hl' => by
      rw [es] at hKN hKY
      exact ih w' m' H' o' J2 e1 tl he1 (by rw [c23]; exact h1.2.2) (hN.mf m2) (by rw [m2.2.1 11 (by omega)]; exact ht) hS' hH' hO' hl' tk.tl (fun r q J3 m3 c => hKN r q J3 (m2.tr m3) c) (fun o2 r q J3 e3 m3 c1 c2 c3 c4 c5 => hKY o2 r q J3 e3 (m2.tr m3) c1 c2 c3 c4 c5)
    rw [a25, f6, f7, f1, f2, f3]
    cases w with
    | false =>
      refine bN_f ⟨fun q => ?_, fun q => ⟨fun q2 => ?_, fun q2 => ?_⟩⟩
      · -- the semicolon
        have es : sy (tk0 :: ts) false m H o = (if (unw 1 H o).1 = [] then (some (unw 1 H o).2, ts) else (none, tk0 :: ts)) := by rw [sy_n, if_pos q]
        refine c_unwinds hs hz t6 (by omega) (by omega) hS (by omega) ht1 hH1 hO1 (fun J2 m2 h2 o2 c1 c2 c3 => ?_)
        have ul := unw_len (k := 1) H o
        rw [h2.1, iN_inj (b := 0) (by omega) (by omega)]
        refine ⟨fun q3 => ?_, fun q3 => ?_⟩
        · rw [if_pos (List.length_eq_zero_iff.mp q3)] at es
          exact hKY _ _ es J2 e1 (m1.tr m2) o2 he1 (by rw [c1]; exact h1.2.2) tl (by omega)
        · rw [if_neg (fun w => q3 (by rw [w]; rfl))] at es
          exact bad es J2 (m1.tr m2) c2
      · -- a closing bracket
        refine c_unwinds hs hz t6 (by omega) (by omega) hS (by omega) ht1 hH1 hO1 (fun J2 m2 h2 o2 c1 c2 c3 => ?_)
        have ul := unw_len (k := 1) H o
        have us : Sml (unw 1 H o).1 := hS.unw
        have ut := unw_tp (k := 1) H o (by omega)
        have es : sy (tk0 :: ts) false m H o = (match (unw 1 H o).1 with
          | [] => (none, tk0 :: ts)
          | _ :: H' => sy ts false m (unw 7 H' (unw 1 H o).2).1 (unw 7 H' (unw 1 H o).2).2) := by
          rw [sy_n, if_neg q, if_pos q2]; rfl
        generalize hu : unw 1 H o = u at h2 o2 ul us ut es
        obtain ⟨H2, o2'⟩ := u
        cases H2 with
        | nil =>
          have e29 : J2 101 29 = iN 0 := h2.1
          rw [e29]
          exact gT rfl (bad es J2 (m1.tr m2) c2)
        | cons x H3 =>
          have ul : H3.length + 1 + o2'.length = H.length + o.length := ul
          have x0 : x = 0 := rk0 ut
          have e29 : J2 101 29 = iN (H3.length + 1) := h2.1
          have e30 : J2 101 30 = iN (opn H3 + 1) := by rw [x0] at h2; exact h2.2.1
          rw [e29, e30, iN_sub (by omega), iN_sub (by omega), Nat.add_sub_cancel, Nat.add_sub_cancel, iN_inj (b := 0) (by omega) (by omega)]
          refine ⟨fun w => by omega, fun _ => ?_⟩
          have m3 : MFr t J2 (up2 (up2 J2 101 29 (iN H3.length)) 101 30 (iN (opn H3))) := ((MFr.rf t J2).u1 (by omega) _).u1 (by omega) _
          have h3 : HO (up2 (up2 J2 101 29 (iN H3.length)) 101 30 (iN (opn H3))) H3 := h2.pop (by rw [up2_i _ _ (by omega), up2_s]) (by rw [up2_s]) (by rw [up2_ro _ (by omega), up2_ro _ (by omega)])
          have o3 : OuO (up2 (up2 J2 101 29 (iN H3.length)) 101 30 (iN (opn H3))) t o2' := OuO.of o2 (by rw [up2_i _ _ (by omega), up2_i _ _ (by omega)]) (by rw [up2_ro _ (by omega), up2_ro _ (by omega)])
          refine c_unwinds hs hz t6 (by omega) (by omega) (fun y hy => us y (List.mem_cons_of_mem _ hy)) (by omega) (by rw [m3.2.1 11 (by omega), m2.2.1 11 (by omega)]; exact ht1) h3 o3 (fun J4 m4 h4 o4 d1 d2 d3 => ?_)
          have ul7 := unw_len (k := 7) H3 o2'
          have es : sy (tk0 :: ts) false m H o = sy ts false m (unw 7 H3 o2').1 (unw 7 H3 o2').2 := es
          exact on false m (unw 7 H3 o2').1 (unw 7 H3 o2').2 J4 es (((m1.tr m2).tr m3).tr m4) (by rw [d1, up2_i _ _ (by omega), up2_i _ _ (by omega), c1]) (Sml.unw (fun y hy => us y (List.mem_cons_of_mem _ hy))) h4 o4 (by omega)
      · -- a sign
        refine c_signOf (k := tk0.1) hs hz (by omega) a25 (fun q3 => gT rfl (bad (by rw [sy_n, if_neg q, if_neg q2, if_pos q3]) J1 m1 rfl)) (fun q3 => gF ?_ ?_)
        · exact iM_ne (m := 1) (by have := sgN_b _ q3; omega) (by omega) (by omega)
        · have sb := sgN_b _ q3
          have es : sy (tk0 :: ts) false m H o = (if rkN (sgN tk0.1) = 4 ∧ tpB (unw (lsN (sgN tk0.1)) H o).1 = 4 then (none, tk0 :: ts)
            else sy ts true (decide (sgN tk0.1 ≤ 12)) (sgN tk0.1 :: (unw (lsN (sgN tk0.1)) H o).1) (unw (lsN (sgN tk0.1)) H o).2) := by rw [sy_n, if_neg q, if_neg q2, if_neg q3]
          have ul := unw_len (k := lsN (sgN tk0.1)) H o
          refine c_between hs hz t6 sb hS (by omega) ht1 hH1 hO1 (fun q4 J2 m2 c24 => gT rfl ?_) (fun q4 J2 m2 h2 o2 c23 c24 => gF (by decide) ?_)
          · rw [if_pos q4] at es
            exact bad es J2 (m1.tr m2) c24
          · rw [if_neg q4] at es
            have sml : Sml (sgN tk0.1 :: (unw (lsN (sgN tk0.1)) H o).1) := fun y hy => by
              rcases List.mem_cons.mp hy with a | a
              · rw [a]; omega
              · exact hS.unw y a
            have len : (sgN tk0.1 :: (unw (lsN (sgN tk0.1)) H o).1).length + (unw (lsN (sgN tk0.1)) H o).2.length + ts.length ≤ 160 := by rw [List.length_cons]; omega
            have go := on true (decide (sgN tk0.1 ≤ 12)) _ _ J2 es (m1.tr m2) c23 sml h2 o2 len
            rw [iN_lt (by omega) (by omega)]
            refine ⟨fun q5 => ?_, fun q5 => ?_⟩
            · rw [show decide (sgN tk0.1 ≤ 12) = false from decide_eq_false (by omega)] at go; exact go
            · rw [show decide (sgN tk0.1 ≤ 12) = true from decide_eq_true (by omega)] at go; exact go
    | true =>
      -- an opening one
      have opw : ∀ (s : Nat) (m2 : Bool) (K2 : Int32 → Is → Prop), (s = 0 ∨ s = 13 ∨ s = 19) → (sy (tk0 :: ts) true m H o = if opn H = 5 then (none, tk0 :: ts) else sy ts true m2 (s :: H) o) → (∀ J2, K (iN 0) J2 → K2 (iN 0) J2) → (∀ J2, WPc g m12_eRead (d + 4) 0 0 14 [(0, .ref 101), (1, .int (iN 1)), (2, .int (bN m2))] [] z J2 (Qi z K) → K2 (iN 1) J2) → Wi g m12_opensOne (d + 3) [.ref 101, .int (iN s)] z J1 K2 := fun s m2 K2 hs3 es k0 k1 => by
        refine c_opensOne hs hz hH1 (by omega) hs3 (fun q => k0 _ ?_) (fun q J2 mf c1 c2 h2 => k1 _ ?_)
        · rw [if_pos q] at es
          exact bad es J1 m1 rfl
        · rw [if_neg q] at es
          exact on true m2 (s :: H) o J2 es (m1.tr (mf t)) (c1 23 (by omega) (by omega)) (fun y hy => by
            rcases List.mem_cons.mp hy with a | a
            · rw [a]; omega
            · exact hS y a) h2 (hO1.of (c1 31 (by omega) (by omega)) c2) (by rw [List.length_cons]; omega)
      -- a number or a name
      have g38 : (tk0.1 = 20 ∨ (6 ≤ tk0.1 ∧ tk0.1 ≤ 11)) → WPc g m12_eRead (d + 4) 0 0 38 [(0, .ref 101), (2, .int (bN m))] [] z J1 (Qi z K) := fun q => by
        have es := sy_at (ts := ts) (m := m) (H := H) (out := o) q
        have put : ∀ v, v = iN (cdK tk0) → Wv g m12_puts (d + 3) [.ref 101, .int v] z J1 (fun J3 => Wv g m12_unwinds (d + 3) [.ref 101, .int (iN 7)] z J3 (fun J4 => WPc g m12_eRead (d + 4) 0 0 14 [(0, .ref 101), (1, .int (iN 0)), (2, .int (bN m))] [] z J4 (Qi z K))) := fun v hv => by
          rw [hv]
          refine c_puts (o := o) hs hz ht1 t6 hO1.1 (by omega) ?_
          have mf : MFr t J1 (up2 (up2 J1 107 (200 * t + o.length) (iN (cdK tk0))) 101 31 (iN (o.length + 1))) := ((MFr.rf t J1).u107 (by omega) _).u1 (by omega) _
          have o2 := hO1.add (cdK tk0)
          have h2 : HO (up2 (up2 J1 107 (200 * t + o.length) (iN (cdK tk0))) 101 31 (iN (o.length + 1))) H := hH1.of (by rw [up2_i _ _ (by omega), up2_ro _ (by omega)]) (by rw [up2_i _ _ (by omega), up2_ro _ (by omega)]) (by rw [up2_ro _ (by omega), up2_ro _ (by omega)])
          have la : (o ++ [cdK tk0]).length = o.length + 1 := by rw [List.length_append]; rfl
          refine c_unwinds hs hz t6 (by omega) (by omega) hS (by omega) (by rw [mf.2.1 11 (by omega)]; exact ht1) h2 o2 (fun J4 m4 h4 o4 d1 d2 d3 => ?_)
          have ul7 := unw_len (k := 7) H (o ++ [cdK tk0])
          exact on false m _ _ J4 es ((m1.tr mf).tr m4) (by rw [d1, up2_i _ _ (by omega), up2_ro _ (by omega)]) hS.unw h4 o4 (by omega)
        refine v12_eRead_38 hs hz ?_
        rw [a25, f1]
        refine ⟨fun q2 => put _ ?_, fun q2 => put _ ?_⟩
        · rw [v.1 q2, iN_add]; unfold cdK; rw [if_pos q2]; rfl
        · rw [v.2.1 (by show 6 ≤ tk0.1 ∧ tk0.1 ≤ 11; omega)]; unfold cdK; rw [if_neg q2]; rfl
      have g99 : tk0.1 ≠ 20 → ¬ (6 ≤ tk0.1 ∧ tk0.1 ≤ 11) → ¬ (tk0.1 = 5 ∧ m = true) → WPc g m12_eRead (d + 4) 0 0 99 [(0, .ref 101), (1, .int (iN 1))] [] z J1 (Qi z K) := fun n1 n2 n3 => by
        refine v12_eRead_99 hs hz ?_
        rw [a25, f4, f5]
        refine ⟨fun q => ?_, fun q => ⟨fun q2 => ?_, fun q2 => ?_⟩⟩
        · have es := sy_u (ts := ts) (m := m) (H := H) (out := o) (Or.inl q)
          rw [q] at es
          exact opw 19 false _ (by omega) es (fun J2 k => gT rfl k) (fun J2 k => gF (by decide) k)
        · have es := sy_u (ts := ts) (m := m) (H := H) (out := o) (Or.inr q2)
          rw [q2] at es
          exact opw 0 true _ (by omega) es (fun J2 k => gT rfl k) (fun J2 k => gF (by decide) k)
        · refine bad ?_ J1 m1 rfl
          show (if tk0.1 = 20 ∨ (6 ≤ tk0.1 ∧ tk0.1 ≤ 11) then _ else if (tk0.1 = 5 ∧ m = true) ∨ tk0.1 = 16 ∨ tk0.1 = 12 then _ else (none, tk0 :: ts)) = _
          rw [if_neg (fun w => w.elim n1 n2), if_neg (fun w => w.elim n3 (fun w => w.elim q q2))]
      refine bN_t ⟨fun q => g38 (Or.inl q), fun q => ⟨fun q2 => g38 (Or.inr q2), fun q2 => ⟨fun q3 => ?_, fun q3 => g99 q q2 (fun w => q3 w.1)⟩⟩⟩
      cases m with
      | false => exact bN_f (g99 q q2 (fun w => by cases w.2))
      | true =>
        have es : sy (tk0 :: ts) true true H o = if opn H = 5 then (none, tk0 :: ts) else sy ts true true (13 :: H) o := by
          show (if tk0.1 = 20 ∨ (6 ≤ tk0.1 ∧ tk0.1 ≤ 11) then _ else if (tk0.1 = 5 ∧ true = true) ∨ tk0.1 = 16 ∨ tk0.1 = 12 then (if opn H = 5 then _ else sy ts true (!(Nat.beq tk0.1 16)) (sgU tk0.1 :: H) o) else _) = _
          rw [if_neg (by omega), if_pos (Or.inl ⟨q3, rfl⟩), q3]; rfl
        exact bN_t (opw 13 true _ (by omega) es (fun J2 k => gT rfl k) (fun J2 k => gF (by decide) k))
theorem c_eRead {ts : List Tk} {K : Int32 → Is → Prop} (hs : GS g) (hz : Sh z) (hT : TpO T n) (t6 : t < 6) (hts : ts = tks T n e) (he : e ≤ n) (h23 : J 101 23 = iN e) (hN : NxO T n J) (ht : J 101 11 = iN t) (hO : OuO J t o) (hl : o.length + ts.length ≤ 160) (tk : TkO ts)
    (hKN : ∀ r, sy ts true true [] o = (none, r) → ∀ J2, MFr t J J2 → J2 101 24 = iN (hdS n r) → K (iN 0) J2)
    (hKY : ∀ o2 r, sy ts true true [] o = (some o2, r) → ∀ J2 e2, MFr t J J2 → OuO J2 t o2 → e2 ≤ n → J2 101 23 = iN e2 → r = tks T n e2 → o2.length + r.length ≤ 160 → K (iN 1) J2) : Wi g m12_eRead (d + 4) [.ref 101] z J K := by
  have m0 : MFr t J (up2 (up2 J 101 29 (iN 0)) 101 30 (iN 0)) := ((MFr.rf t J).u1 (by omega) _).u1 (by omega) _
  exact v12_eRead hs hz (er_l hs hz hT t6 ts true true [] o _ e hts he (by rw [up2_i _ _ (by omega), up2_i _ _ (by omega)]; exact h23) (hN.mf m0) (by rw [m0.2.1 11 (by omega)]; exact ht) (fun x hx => by cases hx) ⟨by rw [up2_i _ _ (by omega), up2_s]; rfl, by rw [up2_s]; rfl, fun j x q => by cases q⟩ (hO.of (by rw [up2_i _ _ (by omega), up2_i _ _ (by omega)]) (by rw [up2_ro _ (by omega), up2_ro _ (by omega)])) (by show 0 + o.length + ts.length ≤ 160; omega) tk (fun r q J2 m2 c => hKN r q J2 (m0.tr m2) c) (fun o2 r q J2 e2 m2 => hKY o2 r q J2 e2 (m0.tr m2)))
end MEX
