/-! the reference reads an expression: held signs, codes -/
def HO (J : Is) (H : List Nat) : Prop := J 101 29 = iN H.length ∧ J 101 30 = iN (opn H) ∧ ∀ j x, H[j]? = some x → J 115 (H.length - 1 - j) = iN x
def OuO (J : Is) (t : Nat) (o : List Nat) : Prop := J 101 31 = iN o.length ∧ ∀ i x, o[i]? = some x → J 107 (200 * t + i) = iN x
def Sml (H : List Nat) : Prop := ∀ x ∈ H, x ≤ 19
/-- what a reading leaves as it was -/
def MFr (t : Nat) (I J : Is) : Prop := Of [101, 107, 115] I J ∧ (∀ i, (i < 23 ∨ (26 < i ∧ i < 29) ∨ 31 < i) → J 101 i = I 101 i) ∧ ∀ i, (i < 200 * t ∨ 200 * t + 200 ≤ i) → J 107 i = I 107 i
theorem opn_le : ∀ H, opn H ≤ H.length
  | [] => Nat.le_refl _
  | s :: H => by
    have := opn_le H
    show opn H + (if s = 0 ∨ s = 13 ∨ s = 19 then 1 else 0) ≤ H.length + 1
    split <;> omega
theorem Sml.unw {k : Nat} : ∀ {H o : List Nat}, Sml H → Sml (unw k H o).1
  | [], o, h => h
  | s :: H, o, h => by
    by_cases q : k ≤ rkN s
    · rw [unw_hi q]; exact Sml.unw (fun x hx => h x (List.mem_cons_of_mem _ hx))
    · have e : _root_.Jvm.Pilot.CUnlikeCoinsLaw_law_r9061_7757f0.unw k (s :: H) o = (s :: H, o) := by
        show (if k ≤ rkN s then _ else (s :: H, o)) = _
        rw [if_neg q]
      rw [e]; exact h
theorem unw_len {k : Nat} : ∀ (H o : List Nat), (unw k H o).1.length + (unw k H o).2.length = H.length + o.length
  | [], o => rfl
  | s :: H, o => by
    by_cases q : k ≤ rkN s
    · rw [unw_hi q, unw_len H (o ++ [s])]; simp only [List.length_append, List.length_cons, List.length_nil]; omega
    · have e : unw k (s :: H) o = (s :: H, o) := by
        show (if k ≤ rkN s then _ else (s :: H, o)) = _
        rw [if_neg q]
      rw [e]
section MTX
variable {g : Gt} {d : Nat} {z : Zs} {I J : Is} {T : Nat → Nat} {n e t : Nat} {H o : List Nat}
theorem MFr.rf (t : Nat) (I : Is) : MFr t I I := ⟨Of.rf _ I, fun _ _ => rfl, fun _ _ => rfl⟩
theorem MFr.tr {L : Is} (h : MFr t I J) (h2 : MFr t J L) : MFr t I L := ⟨h.1.tr h2.1, fun i hi => (h2.2.1 i hi).trans (h.2.1 i hi), fun i hi => (h2.2.2 i hi).trans (h.2.2 i hi)⟩
theorem MFr.lm (h : LMt I J e) : MFr t I J := ⟨h.1.mo (by simp), fun i hi => h.2.1 i (by omega), fun i _ => by rw [h.1 107 (by simp)]⟩
theorem MFr.u1 (h : MFr t I J) {i : Nat} (hi : i = 29 ∨ i = 30 ∨ i = 31) (v : Int32) : MFr t I (up2 J 101 i v) := ⟨h.1.upt (by simp) _ _, fun j hj => by rw [up2_i _ _ (by omega)]; exact h.2.1 j hj, fun j hj => by rw [up2_ro _ (by omega)]; exact h.2.2 j hj⟩
theorem MFr.u115 (h : MFr t I J) (i : Nat) (v : Int32) : MFr t I (up2 J 115 i v) := ⟨h.1.upt (by simp) _ _, fun j hj => by rw [up2_ro _ (by omega)]; exact h.2.1 j hj, fun j hj => by rw [up2_ro _ (by omega)]; exact h.2.2 j hj⟩
theorem MFr.u107 (h : MFr t I J) {i : Nat} (hi : i < 200) (v : Int32) : MFr t I (up2 J 107 (200 * t + i) v) := ⟨h.1.upt (by simp) _ _, fun j hj => by rw [up2_ro _ (by omega)]; exact h.2.1 j hj, fun j hj => by rw [up2_i _ _ (by omega)]; exact h.2.2 j hj⟩
theorem NxO.mf (h : NxO T n I) (m : MFr t I J) : NxO T n J := h.of m.1 (m.2.1 8 (by omega)) (by simp)
theorem HO.of (h : HO I H) (e : J 101 29 = I 101 29) (e2 : J 101 30 = I 101 30) (e3 : J 115 = I 115) : HO J H := by unfold HO; rw [e, e2, e3]; exact h
theorem OuO.of (h : OuO I t o) (e : J 101 31 = I 101 31) (e2 : J 107 = I 107) : OuO J t o := by unfold OuO; rw [e, e2]; exact h
theorem HO.lm (h : HO I H) (m : LMt I J e) : HO J H := h.of (m.2.1 29 (by omega)) (m.2.1 30 (by omega)) (m.1 115 (by simp))
theorem OuO.lm (h : OuO I t o) (m : LMt I J e) : OuO J t o := h.of (m.2.1 31 (by omega)) (m.1 107 (by simp))
theorem HO.push (h : HO I H) (s : Nat) : HO (up2 (up2 (up2 I 101 30 (iN (opn (s :: H)))) 115 H.length (iN s)) 101 29 (iN (H.length + 1))) (s :: H) := by
  refine ⟨by rw [up2_s, List.length_cons], by rw [up2_i _ _ (by omega), up2_ro _ (by omega), up2_s], fun j x q => ?_⟩
  rw [up2_ro _ (by omega), List.length_cons]
  cases j with
  | zero =>
    cases q
    rw [show H.length + 1 - 1 - 0 = H.length by omega, up2_s]
  | succ j =>
    have q : H[j]? = some x := q
    have hj : j < H.length := by
      rcases Nat.lt_or_ge j H.length with a | a
      · exact a
      · rw [List.getElem?_eq_none a] at q; cases q
    rw [show H.length + 1 - 1 - (j + 1) = H.length - 1 - j by omega, up2_i _ _ (by omega), up2_ro _ (by omega)]
    exact h.2.2 j x q
theorem HO.push2 (h : HO I H) {s : Nat} (hs : ¬ (s = 0 ∨ s = 13 ∨ s = 19)) : HO (up2 (up2 I 115 H.length (iN s)) 101 29 (iN (H.length + 1))) (s :: H) := by
  refine ⟨by rw [up2_s, List.length_cons], ?_, fun j x q => ?_⟩
  · rw [up2_i _ _ (by omega), up2_ro _ (by omega), show opn (s :: H) = opn H by show opn H + (if s = 0 ∨ s = 13 ∨ s = 19 then 1 else 0) = _; rw [if_neg hs]; rfl]
    exact h.2.1
  · rw [up2_ro _ (by omega), List.length_cons]
    cases j with
    | zero =>
      cases q
      rw [show H.length + 1 - 1 - 0 = H.length by omega, up2_s]
    | succ j =>
      have q : H[j]? = some x := q
      have hj : j < H.length := by
        rcases Nat.lt_or_ge j H.length with a | a
        · exact a
        · rw [List.getElem?_eq_none a] at q; cases q
      rw [show H.length + 1 - 1 - (j + 1) = H.length - 1 - j by omega, up2_i _ _ (by omega)]
      exact h.2.2 j x q
theorem HO.top {s : Nat} (h : HO I (s :: H)) : I 115 H.length = iN s := by
  have := h.2.2 0 s rfl
  rw [List.length_cons, show H.length + 1 - 1 - 0 = H.length by omega] at this
  exact this
theorem HO.pop {s : Nat} (h : HO I (s :: H)) (e : J 101 29 = iN H.length) (e2 : J 101 30 = iN (opn H)) (e3 : J 115 = I 115) : HO J H := by
  refine ⟨e, e2, fun j x q => ?_⟩
  have hj : j < H.length := by
    rcases Nat.lt_or_ge j H.length with a | a
    · exact a
    · rw [List.getElem?_eq_none a] at q; cases q
  have := h.2.2 (j + 1) x q
  rw [List.length_cons, show H.length + 1 - 1 - (j + 1) = H.length - 1 - j by omega] at this
  rw [e3]; exact this
theorem OuO.add (h : OuO I t o) (c : Nat) : OuO (up2 (up2 I 107 (200 * t + o.length) (iN c)) 101 31 (iN (o.length + 1))) t (o ++ [c]) := by
  refine ⟨by rw [up2_s, List.length_append]; rfl, fun i x q => ?_⟩
  rw [up2_ro _ (by omega)]
  rw [List.getElem?_append] at q
  split at q
  next a => rw [up2_i _ _ (by omega)]; exact h.2 i x q
  next a =>
    have ei : i - o.length = 0 := by
      rcases Nat.eq_zero_or_pos (i - o.length) with z | z
      · exact z
      · rw [List.getElem?_eq_none (by simp; omega)] at q; cases q
    rw [ei] at q
    cases q
    rw [show i = o.length by omega, up2_s]
theorem c_rank {s : Nat} {K : Int32 → Is → Prop} (hs : GS g) (h : s ≤ 19) (hK : K (iN (rkN s)) I) : Wi g m12_rank d [.int (iN s)] z I K := by
  refine v12_rank hs ?_
  rw [iN_inj (b := 0) (by omega) (by omega), iN_inj (b := 11) (by omega) (by omega), iN_inj (b := 12) (by omega) (by omega), iN_inj (b := 13) (by omega) (by omega), iN_inj (b := 18) (by omega) (by omega), iN_lt (a := 15) (by omega) (by omega), iN_lt (a := 17) (by omega) (by omega)]
  unfold rkN at hK
  refine ⟨fun q => by rw [if_pos q] at hK; exact hK, fun q => ?_⟩
  rw [if_neg q] at hK
  refine ⟨fun q => by rw [if_pos q] at hK; exact hK, fun q => ?_⟩
  rw [if_neg q] at hK
  refine ⟨fun q => by rw [if_pos q] at hK; exact hK, fun q => ?_⟩
  rw [if_neg q] at hK
  refine ⟨fun q => by rw [if_pos q] at hK; exact hK, fun q => ?_⟩
  rw [if_neg q] at hK
  refine ⟨fun q => ?_, fun q => by rw [if_pos (by omega)] at hK; exact hK⟩
  rw [if_neg (by omega)] at hK
  refine ⟨fun q => ?_, fun q => by rw [if_pos (by omega)] at hK; exact hK⟩
  rw [if_neg (by omega)] at hK
  exact ⟨fun q => by rw [if_pos q] at hK; exact hK, fun q => by rw [if_neg q] at hK; exact hK⟩
theorem c_puts {c : Nat} {K : Is → Prop} (hs : GS g) (hz : Sh z) (ht : I 101 11 = iN t) (t6 : t < 6) (ho : I 101 31 = iN o.length) (hl : o.length < 200) (hK : K (up2 (up2 I 107 (200 * t + o.length) (iN c)) 101 31 (iN (o.length + 1)))) : Wv g m12_puts d [.ref 101, .int (iN c)] z I K := by
  refine v12_puts hs hz ?_
  rw [ht, ho, iN_mul, iN_add, iN_toN (by omega), iN_add]
  exact ⟨inB_n (by omega) (by omega), hK⟩
theorem uw_l {k : Nat} {K : Is → Prop} (hs : GS g) (hz : Sh z) (t6 : t < 6) (hk : 0 < k) (hk7 : k ≤ 7) : ∀ (H o : List Nat) (J : Is), Sml H → H.length + o.length ≤ 160 → J 101 11 = iN t → HO J H → OuO J t o → (∀ J2, MFr t J J2 → HO J2 (unw k H o).1 → OuO J2 t (unw k H o).2 → J2 101 23 = J 101 23 → J2 101 24 = J 101 24 → J2 101 25 = J 101 25 → K J2) → WPc g m12_unwinds (d + 1) 0 0 0 [(0, .ref 101), (1, .int (iN k))] [] z J (Qv z K)
  | [], o, J, hS, hl, ht, hH, hO, hK => by
    refine v12_unwinds_0 hs hz ?_
    rw [hH.1]
    exact ⟨fun _ => hK J (MFr.rf t J) hH hO rfl rfl rfl, fun q => absurd (by decide) q⟩
  | s :: H, o, J, hS, hl, ht, hH, hO, hK => by
    have hs19 : s ≤ 19 := hS s List.mem_cons_self
    have hol := opn_le H
    rw [List.length_cons] at hl
    refine v12_unwinds_0 hs hz ?_
    have e29 : J 101 29 = iN (H.length + 1) := hH.1
    rw [e29, iN_sub (by omega), show H.length + 1 - 1 = H.length by omega, iN_toN (by omega), hH.top]
    refine ⟨fun q => absurd ((iN_le (b := 0) (by omega) (by omega)).mp q) (by omega), fun _ => ⟨inB_n (by omega) (by omega), c_rank hs hs19 ?_⟩⟩
    rw [e29, iN_sub (by omega), show H.length + 1 - 1 = H.length by omega, iN_toN (by omega), hH.top, iN_lt (by unfold rkN; repeat (first | split | omega)) (by omega), iN_inj (by omega) (by omega), iN_inj (by omega) (by omega)]
    refine ⟨fun q => ?_, fun q => ⟨inB_n (by omega) (by omega), ?_⟩⟩
    · have e : unw k (s :: H) o = (s :: H, o) := by
        show (if k ≤ rkN s then _ else (s :: H, o)) = _
        rw [if_neg (by omega)]
      rw [e] at hK
      exact hK J (MFr.rf t J) hH hO rfl rfl rfl
    · rw [unw_hi (by omega)] at hK
      have s0 : s ≠ 0 := fun c => by rw [c] at q; exact q (by show 0 < k; exact hk)
      have e30 : J 101 30 = iN (opn H + (if s = 0 ∨ s = 13 ∨ s = 19 then 1 else 0)) := hH.2.1
      have go : ∀ v, v = iN (opn H) → Wv g m12_puts d [.ref 101, .int (iN s)] z (up2 (up2 J 101 29 (iN H.length)) 101 30 v) (fun J3 => WPc g m12_unwinds (d + 1) 0 0 0 [(0, .ref 101), (1, .int (iN k))] [] z J3 (Qv z K)) := fun v hv => by
        have ho2 : OuO (up2 (up2 J 101 29 (iN H.length)) 101 30 v) t o := hO.of (by rw [up2_i _ _ (by omega), up2_i _ _ (by omega)]) (by rw [up2_ro _ (by omega), up2_ro _ (by omega)])
        refine c_puts (o := o) hs hz (by rw [up2_i _ _ (by omega), up2_i _ _ (by omega)]; exact ht) t6 ho2.1 (by omega) ?_
        have ho3 := ho2.add s
        have mf : MFr t J (up2 (up2 (up2 (up2 J 101 29 (iN H.length)) 101 30 v) 107 (200 * t + o.length) (iN s)) 101 31 (iN (o.length + 1))) := ((((MFr.rf t J).u1 (by omega) _).u1 (by omega) _).u107 (by omega) _).u1 (by omega) _
        refine uw_l hs hz t6 hk hk7 H (o ++ [s]) _ (fun x hx => hS x (List.mem_cons_of_mem _ hx)) (by rw [List.length_append]; show H.length + (o.length + 1) ≤ 160; omega) (by rw [mf.2.1 11 (by omega)]; exact ht) (hH.pop ?_ ?_ ?_) ho3 (fun J2 m2 a b c1 c2 c3 => hK J2 (mf.tr m2) a b ?_ ?_ ?_)
        · rw [up2_i _ _ (by omega), up2_ro _ (by omega), up2_i _ _ (by omega), up2_s]
        · rw [up2_i _ _ (by omega), up2_ro _ (by omega), up2_s]; exact hv
        · rw [up2_ro _ (by omega), up2_ro _ (by omega), up2_ro _ (by omega), up2_ro _ (by omega)]
        · rw [c1, up2_i _ _ (by omega), up2_ro _ (by omega), up2_i _ _ (by omega), up2_i _ _ (by omega)]
        · rw [c2, up2_i _ _ (by omega), up2_ro _ (by omega), up2_i _ _ (by omega), up2_i _ _ (by omega)]
        · rw [c3, up2_i _ _ (by omega), up2_ro _ (by omega), up2_i _ _ (by omega), up2_i _ _ (by omega)]
      rw [e30]
      refine ⟨fun c => ?_, fun c => ⟨fun c2 => ?_, fun c2 => ?_⟩⟩
      · rw [if_pos (by omega)]; exact go _ (by rw [iN_sub (by omega), Nat.add_sub_cancel])
      · rw [if_pos (by omega)]; exact go _ (by rw [iN_sub (by omega), Nat.add_sub_cancel])
      · rw [if_neg (by omega)]; exact go _ (by rw [iN_sub (by omega)]; rfl)
theorem c_unwinds {k : Nat} {K : Is → Prop} (hs : GS g) (hz : Sh z) (t6 : t < 6) (hk : 0 < k) (hk7 : k ≤ 7) (hS : Sml H) (hl : H.length + o.length ≤ 160) (ht : I 101 11 = iN t) (hH : HO I H) (hO : OuO I t o) (hK : ∀ J2, MFr t I J2 → HO J2 (unw k H o).1 → OuO J2 t (unw k H o).2 → J2 101 23 = I 101 23 → J2 101 24 = I 101 24 → J2 101 25 = I 101 25 → K J2) : Wv g m12_unwinds (d + 1) [.ref 101, .int (iN k)] z I K :=
  Wv_in (by decide +kernel) (Nat.le_of_ble_eq_true rfl) (uw_l hs hz t6 hk hk7 H o I hS hl ht hH hO hK)
theorem c_holds1s {s : Nat} {K : Is → Prop} (hs : GS g) (hz : Sh z) (hh : I 101 29 = iN H.length) (hl : H.length < 200) (hK : K (up2 (up2 I 115 H.length (iN s)) 101 29 (iN (H.length + 1)))) : Wv g m12_holds d [.ref 101, .int (iN s)] z I K := by
  refine v12_holds hs hz ?_
  rw [hh, iN_toN (by omega), iN_add]
  exact ⟨inB_n hl (by omega), hK⟩
theorem c_opensOne {s : Nat} {K : Int32 → Is → Prop} (hs : GS g) (hz : Sh z) (hH : HO I H) (hl : H.length < 160) (hs3 : s = 0 ∨ s = 13 ∨ s = 19) (hN : opn H = 5 → K (iN 0) I) (hY : ¬ opn H = 5 → ∀ J, (∀ t, MFr t I J) → (∀ i, i ≠ 29 → i ≠ 30 → J 101 i = I 101 i) → J 107 = I 107 → HO J (s :: H) → K (iN 1) J) : Wi g m12_opensOne (d + 1) [.ref 101, .int (iN s)] z I K := by
  have hol := opn_le H
  refine v12_opensOne hs hz ?_
  rw [hH.2.1, iN_inj (by omega) (by omega), iN_add]
  refine ⟨hN, fun q => c_holds1s (H := H) hs hz (by rw [up2_i _ _ (by omega)]; exact hH.1) (by omega) (hY q _ (fun t => (((MFr.rf t I).u1 (by omega) _).u115 _ _).u1 (by omega) _) (fun i h1 h2 => by rw [up2_i _ _ h1, up2_ro _ (by omega), up2_i _ _ h2]) (by rw [up2_ro _ (by omega), up2_ro _ (by omega), up2_ro _ (by omega)]) ?_)⟩
  have := hH.push s
  rw [show opn (s :: H) = opn H + 1 by show opn H + (if s = 0 ∨ s = 13 ∨ s = 19 then 1 else 0) = _; rw [if_pos hs3]] at this
  exact this
theorem rkN_7 (s : Nat) : rkN s ≤ 7 := by unfold rkN; repeat (first | split | omega)
theorem sgN_b (k : Nat) (h : sgN k ≠ 0) : 11 ≤ sgN k ∧ sgN k ≤ 18 ∧ sgN k ≠ 13 ∧ 1 ≤ lsN (sgN k) ∧ lsN (sgN k) ≤ 6 ∧ 1 ≤ rkN (sgN k) := by
  have key : k = 3 ∨ k = 4 ∨ k = 18 ∨ k = 19 ∨ k = 15 ∨ k = 16 ∨ k = 17 := by
    unfold sgN at h
    repeat (first | (split at h) | omega)
  rcases key with rfl | rfl | rfl | rfl | rfl | rfl | rfl <;> decide
theorem c_signOf {k : Nat} {K : Int32 → Is → Prop} (hs : GS g) (hz : Sh z) (hk : k < 23) (h : I 101 25 = rtN k) (hN : sgN k = 0 → K (iM 1) I) (hY : ¬ sgN k = 0 → K (iN (sgN k)) I) : Wi g m12_signOf d [.ref 101] z I K := by
  obtain ⟨f1, f2, f3, f4, f5, f6, f7, f8, f9, f10, f11, f12, f13, f14, f15⟩ := rt_f k hk
  refine v12_signOf hs hz ?_
  rw [h, f10, f11, f12, f13, f14, f4, f15]
  unfold sgN at hN hY
  refine ⟨fun q => by rw [if_pos q] at hY; exact hY (by omega), fun q => ?_⟩
  rw [if_neg q] at hN hY
  refine ⟨fun q => by rw [if_pos q] at hY; exact hY (by omega), fun q => ?_⟩
  rw [if_neg q] at hN hY
  refine ⟨fun q => by rw [if_pos q] at hY; exact hY (by omega), fun q => ?_⟩
  rw [if_neg q] at hN hY
  refine ⟨fun q => by rw [if_pos q] at hY; exact hY (by omega), fun q => ?_⟩
  rw [if_neg q] at hN hY
  refine ⟨fun q => by rw [if_pos q] at hY; exact hY (by omega), fun q => ?_⟩
  rw [if_neg q] at hN hY
  refine ⟨fun q => by rw [if_pos q] at hY; exact hY (by omega), fun q => ?_⟩
  rw [if_neg q] at hN hY
  refine ⟨fun q => by rw [if_pos q] at hY; exact hY (by omega), fun q => ?_⟩
  rw [if_neg q] at hN
  exact hN rfl
theorem c_between {s : Nat} {K : Int32 → Is → Prop} (hs : GS g) (hz : Sh z) (t6 : t < 6) (hs18 : 11 ≤ s ∧ s ≤ 18 ∧ s ≠ 13 ∧ 1 ≤ lsN s ∧ lsN s ≤ 6 ∧ 1 ≤ rkN s) (hS : Sml H) (hl : H.length + o.length < 160) (ht : I 101 11 = iN t) (hH : HO I H) (hO : OuO I t o)
    (hN : rkN s = 4 ∧ tpB (unw (lsN s) H o).1 = 4 → ∀ J, MFr t I J → J 101 24 = I 101 24 → K (iN 0) J)
    (hY : ¬ (rkN s = 4 ∧ tpB (unw (lsN s) H o).1 = 4) → ∀ J, MFr t I J → HO J (s :: (unw (lsN s) H o).1) → OuO J t (unw (lsN s) H o).2 → J 101 23 = I 101 23 → J 101 24 = I 101 24 → K (iN 1) J) : Wi g m12_between (d + 2) [.ref 101, .int (iN s)] z I K := by
  have r7 := rkN_7 s
  have mid : WPc g m12_between (d + 2) 0 0 17 [(0, .ref 101), (1, .int (iN s))] [.int (iN (lsN s)), .ref 101] z I (Qi z K) := by
    refine v12_between_17 hs hz (c_unwinds hs hz t6 (by omega) (by omega) hS (by omega) ht hH hO (fun J2 m2 h2 o2 c1 c2 c3 => c_rank hs (by omega) ?_))
    have ul := unw_len (k := lsN s) H o
    have us : Sml (unw (lsN s) H o).1 := hS.unw
    generalize hg : (unw (lsN s) H o) = u at h2 o2 ul us hN hY
    obtain ⟨H2, o2'⟩ := u
    have push : ∀ (hq : ¬ (rkN s = 4 ∧ tpB H2 = 4)), Wv g m12_holds (d + 1) [.ref 101, .int (iN s)] z J2 (fun J8 => K (iN 1) J8) := fun hq => by
      have hol := opn_le H2
      have hw := HO.push2 (I := J2) (H := H2) h2 (s := s) (by omega)
      exact c_holds1s (H := H2) hs hz h2.1 (by simp at ul; omega) (hY hq _ ((m2.u115 _ _).u1 (by omega) _) hw (o2.of (by rw [up2_i _ _ (by omega), up2_ro _ (by omega)]) (by rw [up2_ro _ (by omega), up2_ro _ (by omega)])) (by rw [up2_i _ _ (by omega), up2_ro _ (by omega)]; exact c1) (by rw [up2_i _ _ (by omega), up2_ro _ (by omega)]; exact c2))
    rw [iN_inj (by omega) (by omega)]
    refine ⟨fun q => ?_, fun q => push (fun w => q w.1)⟩
    cases H2 with
    | nil =>
      have e29 : J2 101 29 = iN 0 := h2.1
      rw [e29]
      exact gT (by decide) (push (fun w => absurd (show (0 : Nat) = 4 from w.2) (by decide)))
    | cons x H3 =>
      have e29 : J2 101 29 = iN (H3.length + 1) := h2.1
      simp at ul
      rw [e29, iN_sub (by omega), show H3.length + 1 - 1 = H3.length by omega, iN_toN (by omega), h2.top]
      refine ⟨fun w => absurd ((iN_le (b := 0) (by omega) (by omega)).mp w) (by omega), fun _ => ⟨inB_n (by omega) (by omega), c_rank hs (us x List.mem_cons_self) ?_⟩⟩
      have rx := rkN_7 x
      rw [iN_inj (by omega) (by omega)]
      exact ⟨fun w => hN ⟨q, w⟩ J2 m2 c2, fun w => push (fun w2 => w w2.2)⟩
  refine v12_between hs (c_rank hs (by omega) ?_)
  rw [iN_inj (by omega) (by omega)]
  refine ⟨fun q => ?_, fun q => c_rank hs (by omega) ?_⟩
  · have : lsN s = 5 := by unfold lsN; rw [if_pos q]
    rw [this] at mid; exact mid
  · have : lsN s = rkN s := by unfold lsN; rw [if_neg q]
    rw [this] at mid; exact mid
end MTX
