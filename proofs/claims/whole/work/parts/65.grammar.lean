/-! the class' reading, level by level: what it reads, and that the reference's reading goes the same way -/
def TkO (ts : List Tk) : Prop := ∀ t ∈ ts, t.1 ≤ 22 ∧ (t.1 = 20 → t.2.1 < 100000)
theorem TkO.sf {ts r : List Tk} (h : TkO ts) (s : r <:+ ts) : TkO r := fun t ht => h t (s.subset ht)
theorem TkO.k {ts : List Tk} (h : TkO ts) : hdK ts ≤ 22 := by
  cases ts with
  | nil => show 21 ≤ 22; omega
  | cons t ts => exact (h t List.mem_cons_self).1
theorem TkO.tl {t : Tk} {ts : List Tk} (h : TkO (t :: ts)) : TkO ts := h.sf sf_tl
def MCo (T : Nat → Nat) (n : Nat) (m : Mth) (q o : Nat) (ts : List Tk) (ok : Bool) (r : List Tk) (c : List Nat) : Prop :=
  ∀ (g : Gt) (D : Nat) (z : Zs) (I : Is) (L : Nat) (K : Int32 → Is → Prop), GS g → ShC z → q + 7 * (5 - o) ≤ D → RS T n I ts o L → L + ts.length ≤ 160 → (∀ J, RP T n I L o r c J → K (bN ok) J) → Wi g m D [.ref 22] z I K
def MCl (T : Nat → Nat) (n : Nat) (m : Mth) (q o : Nat) (ts : List Tk) (ok : Bool) (r : List Tk) (c : List Nat) : Prop :=
  ∀ (g : Gt) (D : Nat) (z : Zs) (I : Is) (L i : Nat) (K : Int32 → Is → Prop), GS g → ShC z → q + 7 * (5 - o) ≤ D → RS T n I ts o L → L + ts.length ≤ 160 → i + ts.length ≤ 160 → (∀ J, RP T n I L o r c J → K (bN ok) J) → WPc g m D 0 0 11 [(0, .ref 22), (1, .int (iN i))] [] z I (Qi z K)
def GG (ts : List Tk) (M : Nat) (st : List Tk → Prop) (MC SM : Bool → List Tk → List Nat → Prop) : Prop :=
  ∃ (ok : Bool) (r : List Tk) (c : List Nat), r <:+ ts ∧ c.length + r.length ≤ ts.length ∧ (ok = true → r.length < ts.length ∧ st r) ∧ (ok = true → ∀ h, h + M ≤ 32 → hL c h (h + 1)) ∧ MC ok r c ∧ SM ok r c
def GL (ts : List Tk) (M : Nat) (st : List Tk → Prop) (MC SM : Bool → List Tk → List Nat → Prop) : Prop :=
  ∃ (ok : Bool) (r : List Tk) (c : List Nat), r <:+ ts ∧ c.length + r.length ≤ ts.length ∧ (ok = true → st r) ∧ (ok = true → ∀ h, 1 ≤ h → h + M ≤ 32 → hL c h h) ∧ MC ok r c ∧ SM ok r c
abbrev Rsy : Type := Option (List Nat) × List Tk
def rsS (ok : Bool) (r : List Tk) (X : Rsy) : Rsy := match ok with
  | true => X
  | false => (none, r)
def fnS (r : List Tk) (H out : List Nat) : Rsy := if hdK r = 18 ∨ hdK r = 19 then (none, r) else sy r false true H out
def h5 (r : List Tk) : Prop := hdK r ≠ 17
def h4 (r : List Tk) : Prop := ¬ (15 ≤ hdK r ∧ hdK r ≤ 17)
def h1 (r : List Tk) : Prop := h4 r ∧ hdK r ≠ 4
def h0 (r : List Tk) : Prop := h1 r ∧ hdK r ≠ 3
def SM6 (o : Nat) (ts : List Tk) (ok : Bool) (r : List Tk) (c : List Nat) : Prop := ∀ (H out : List Nat) (m : Bool), opn H = o → (m = false ∨ hdK ts ≠ 5) → sy ts true m H out = rsS ok r (sy r false true (unw 7 H (out ++ c)).1 (unw 7 H (out ++ c)).2)
def SM5 (b o : Nat) (ts : List Tk) (ok : Bool) (r : List Tk) (c : List Nat) : Prop := ∀ (H out : List Nat) (m : Bool), opn H = o → tpB H < b → (m = false ∨ hdK ts ≠ 5) → sy ts true m H out = rsS ok r (sy r false true H (out ++ c))
def SM3 (o : Nat) (ts : List Tk) (ok : Bool) (r : List Tk) (c : List Nat) : Prop := ∀ (H out : List Nat) (m : Bool), opn H = o → tpB H < 4 → (m = false ∨ hdK ts ≠ 5) → sy ts true m H out = rsS ok r (fnS r H (out ++ c))
def SM2 (b o : Nat) (ts : List Tk) (ok : Bool) (r : List Tk) (c : List Nat) : Prop := ∀ (H out : List Nat), opn H = o → tpB H < b → sy ts true true H out = rsS ok r (fnS r H (out ++ c))
def SLs (b o : Nat) (ts : List Tk) (ok : Bool) (r : List Tk) (c : List Nat) : Prop := ∀ (H out : List Nat), opn H = o → tpB H < b → sy ts false true H out = rsS ok r (sy r false true H (out ++ c))
def SLf (b o : Nat) (ts : List Tk) (ok : Bool) (r : List Tk) (c : List Nat) : Prop := ∀ (H out : List Nat), opn H = o → tpB H < b → fnS ts H out = rsS ok r (fnS r H (out ++ c))
def G6 (T : Nat → Nat) (n o : Nat) (ts : List Tk) : Prop := GG ts (1 + 5 * (5 - o)) (fun _ => True) (MCo T n m5_readOne 14 o ts) (SM6 o ts)
def G5 (T : Nat → Nat) (n o : Nat) (ts : List Tk) : Prop := GG ts (2 + 5 * (5 - o)) h5 (MCo T n m5_readTerm 15 o ts) (SM5 6 o ts)
def G4 (T : Nat → Nat) (n o : Nat) (ts : List Tk) : Prop := GG ts (3 + 5 * (5 - o)) h4 (MCo T n m5_readSum 16 o ts) (SM5 5 o ts)
def G3 (T : Nat → Nat) (n o : Nat) (ts : List Tk) : Prop := GG ts (4 + 5 * (5 - o)) h4 (MCo T n m5_readCompared 17 o ts) (SM3 o ts)
def G2 (T : Nat → Nat) (n o : Nat) (ts : List Tk) : Prop := GG ts (4 + 5 * (5 - o)) h4 (MCo T n m5_readDenied 18 o ts) (SM2 4 o ts)
def G1 (T : Nat → Nat) (n o : Nat) (ts : List Tk) : Prop := GG ts (5 + 5 * (5 - o)) h1 (MCo T n m5_readBoth 19 o ts) (SM2 2 o ts)
def G0 (T : Nat → Nat) (n o : Nat) (ts : List Tk) : Prop := GG ts (6 + 5 * (5 - o)) h0 (MCo T n m5_readEither 20 o ts) (SM2 1 o ts)
def L10 (T : Nat → Nat) (n o : Nat) (ts : List Tk) : Prop := GL ts (1 + 5 * (5 - o)) h5 (MCl T n m5_readTerm 15 o ts) (SLs 6 o ts)
def L9 (T : Nat → Nat) (n o : Nat) (ts : List Tk) : Prop := GL ts (2 + 5 * (5 - o)) h4 (MCl T n m5_readSum 16 o ts) (SLs 5 o ts)
def L8 (T : Nat → Nat) (n o : Nat) (ts : List Tk) : Prop := GL ts (4 + 5 * (5 - o)) h1 (MCl T n m5_readBoth 19 o ts) (SLf 2 o ts)
def L7 (T : Nat → Nat) (n o : Nat) (ts : List Tk) : Prop := GL ts (5 + 5 * (5 - o)) h0 (MCl T n m5_readEither 20 o ts) (SLf 1 o ts)
theorem sy_op {ts : List Tk} {t : Tk} {m : Bool} {H o : List Nat} {s : Nat} (h1 : t.1 ≠ 14) (h2 : t.1 ≠ 13) (hs : sgN t.1 = s) (h0 : s ≠ 0) (hl : 0 < lsN s) (ht : tpB H < lsN s) (h4 : rkN s = 4 → tpB H ≠ 4) : sy (t :: ts) false m H o = sy ts true (decide (s ≤ 12)) (s :: H) o := by
  rw [sy_n, if_neg h1, if_neg h2, hs, if_neg h0, unw_lo hl ht]
  show (if rkN s = 4 ∧ tpB H = 4 then _ else sy ts true (decide (s ≤ 12)) (s :: H) o) = _
  rw [if_neg (fun q => h4 q.1 q.2)]
theorem lst_6 (k : Nat) : lstK k ≤ 6 := by unfold lstK; repeat (first | split | omega)
theorem lst_5 {k : Nat} (h : k ≠ 17) : lstK k ≤ 5 := by unfold lstK; rw [if_neg h]; repeat (first | split | omega)
theorem lst_2 {k : Nat} (h : ¬ (15 ≤ k ∧ k ≤ 17)) (h2 : ¬ (k = 18 ∨ k = 19)) : lstK k ≤ 2 := by unfold lstK; rw [if_neg (by omega), if_neg (by omega)]; repeat (first | split | omega)
theorem lst_1 {k : Nat} (h : ¬ (15 ≤ k ∧ k ≤ 17)) (h2 : ¬ (k = 18 ∨ k = 19)) (h3 : k ≠ 4) : lstK k ≤ 1 := by unfold lstK; rw [if_neg (by omega), if_neg (by omega), if_neg h3]; repeat (first | split | omega)
/-- a sign held is as if it had come -/
theorem sy_hd {k s : Nat} {r : List Tk} {H o : List Nat} (hl : lstK (hdK r) ≤ k) (h : k ≤ rkN s) : sy r false true (s :: H) o = sy r false true H (o ++ [s]) := sy_cg hl (unw_hi h)
theorem fn_hd {k s : Nat} {r : List Tk} {H o : List Nat} (hl : ¬ (hdK r = 18 ∨ hdK r = 19) → lstK (hdK r) ≤ k) (h : k ≤ rkN s) : fnS r (s :: H) o = fnS r H (o ++ [s]) := by
  unfold fnS
  by_cases q : hdK r = 18 ∨ hdK r = 19
  · rw [if_pos q, if_pos q]
  · rw [if_neg q, if_neg q]; exact sy_hd (hl q) h
section GRM
variable {T : Nat → Nat} {n o : Nat}
theorem l10_of (hT : TpO T n) {N : Nat} (hg : ∀ ts, ts.length < N → TkO ts → G6 T n o ts) : ∀ (N' : Nat) (ts : List Tk), ts.length ≤ N' → N' ≤ N → TkO ts → L10 T n o ts := by
  intro N'
  induction N' with
  | zero =>
    intro ts hl hN tk
    cases ts with
    | cons t ts => rw [List.length_cons] at hl; omega
    | nil =>
      refine ⟨true, [], [], List.suffix_refl _, Nat.le_refl _, fun _ => ?_, fun _ _ _ _ => rfl, ?_, ?_⟩
      · exact (by decide : (21 : Nat) ≠ 17)
      · intro g D z I L i K hs hz hD hR hL hi hK
        obtain ⟨d, rfl⟩ : ∃ d, D = d + 7 := ⟨D - 7, by omega⟩
        refine w5_readTerm_11 hs hz ⟨fun _ => hK I (RP.rf hR), fun _ => ?_⟩
        rw [hR.2.2.1]
        exact gF (by decide) (hK I (RP.rf hR))
      · intro H out _ _
        rfl
  | succ N' ih =>
    intro ts hl hN tk
    by_cases hk : hdK ts = 17
    · cases ts with
      | nil => exact absurd hk (by decide)
      | cons t ts' =>
        have hk : t.1 = 17 := hk
        rw [List.length_cons] at hl
        obtain ⟨ok, r, c, s1, l1, st1, ht1, mc1, sm1⟩ := hg ts' (by omega) tk.tl
        have pre : ∀ (g : Gt) (d : Nat) (z : Zs) (I : Is) (L i : Nat) (K : Int32 → Is → Prop), GS g → ShC z → 15 + 7 * (5 - o) ≤ d + 7 → RS T n I (t :: ts') o L → L + (t :: ts').length ≤ 160 → i + (t :: ts').length ≤ 160 → (∀ J2, RP T n I L o r c J2 → (bN ok = iN 0 → K (iN 0) J2) ∧ (¬ bN ok = iN 0 → Wv g m5_emit (d + 6) [.ref 22, .int (iM 18)] z J2 (fun J4 => WPc g m5_readTerm (d + 7) 0 0 11 [(0, .ref 22), (1, .int (iN i + iN 1))] [] z J4 (Qi z K)))) → WPc g m5_readTerm (d + 7) 0 0 11 [(0, .ref 22), (1, .int (iN i))] [] z I (Qi z K) := fun g d z I L i K hs hz hD hR hL hi hK => by
          rw [List.length_cons] at hL hi
          refine w5_readTerm_11 hs hz ⟨fun q => absurd ((iN_le (by omega) (by omega)).mp q) (by omega), fun _ => ?_⟩
          rw [hR.2.2.1]
          refine gT (by rw [show hdK (t :: ts') = 17 from hk]) (c_advance hs hz hT hR (fun J1 hJ1 hR1 => mc1 g _ z J1 L _ hs hz (by omega) hR1 (by show L + ts'.length ≤ 160; omega) (fun J2 hJ2 => hK J2 (hJ2.st (hJ1.mo (by simp)) (fun i _ => by rw [hJ1 24 (by simp)])))))
        have sop : ∀ (H out : List Nat), opn H = o → tpB H < 6 → sy (t :: ts') false true H out = sy ts' true false (18 :: H) out := fun H out ho ht => by
          exact sy_op (s := 18) (by omega) (by omega) (by rw [hk]; rfl) (by decide) (by decide) ht (fun q => absurd q (by decide))
        cases ok with
        | false =>
          refine ⟨false, r, c, s1.trans sf_tl, by rw [List.length_cons]; omega, fun q => (by cases q), fun q => (by cases q), ?_, ?_⟩
          · intro g D z I L i K hs hz hD hR hL hi hK
            obtain ⟨d, rfl⟩ : ∃ d, D = d + 7 := ⟨D - 7, by omega⟩
            exact pre g d z I L i K hs hz hD hR hL hi (fun J2 hJ2 => bN_f (hK J2 hJ2))
          · intro H out ho ht
            rw [sop H out ho ht]
            exact sm1 (18 :: H) out false ho (Or.inl rfl)
        | true =>
          have st1 := st1 rfl
          obtain ⟨ok2, r2, c2, s2, l2, st2, ht2, mc2, sm2⟩ := ih r (by omega) (by omega) (tk.tl.sf s1)
          refine ⟨ok2, r2, (c ++ [18]) ++ c2, (s2.trans s1).trans sf_tl, by rw [List.length_cons, List.length_append, List.length_append]; show c.length + 1 + c2.length + r2.length ≤ _; omega, st2, fun q h hh1 hh2 => ?_, ?_, ?_⟩
          · exact hL_app (hL_app (ht1 rfl h (by omega)) (hL_one (h' := h) (Or.inr (Or.inr ⟨by omega, by omega, by omega, by omega⟩)))) (ht2 q h hh1 hh2)
          · intro g D z I L i K hs hz hD hR hL hi hK
            obtain ⟨d, rfl⟩ : ∃ d, D = d + 7 := ⟨D - 7, by omega⟩
            refine pre g d z I L i K hs hz hD hR hL hi (fun J2 hJ2 => bN_t ?_)
            rw [List.length_cons] at hL hi
            refine c_emit hs hz hJ2.2.2.2.1.2.2.1 (by omega) ?_
            have h3 := hJ2.em (x := 18) (v := iM 18) rfl
            rw [iN_add]
            have el : (c ++ [18]).length = c.length + 1 := by rw [List.length_append]; rfl
            exact mc2 g _ z _ _ (i + 1) K hs hz hD h3.2.2.2 (by rw [el]; omega) (by omega) (fun J4 hJ4 => hK J4 (h3.seq hJ4))
          · intro H out ho ht
            rw [sop H out ho ht, sm1 (18 :: H) out false ho (Or.inl rfl)]
            show sy r false true (unw 7 (18 :: H) (out ++ c)).1 (unw 7 (18 :: H) (out ++ c)).2 = _
            rw [unw_lo (k := 7) (H := 18 :: H) (by decide) (by show rkN 18 < 7; decide), sy_hd (k := 6) (lst_6 _) (by decide), sm2 H _ ho ht]
            simp only [List.append_assoc]
    · refine ⟨true, ts, [], List.suffix_refl _, by show 0 + ts.length ≤ ts.length; omega, fun _ => hk, fun _ _ _ _ => rfl, ?_, ?_⟩
      · intro g D z I L i K hs hz hD hR hL hi hK
        obtain ⟨d, rfl⟩ : ∃ d, D = d + 7 := ⟨D - 7, by omega⟩
        have := tk.k
        refine w5_readTerm_11 hs hz ⟨fun _ => hK I (RP.rf hR), fun _ => ?_⟩
        rw [hR.2.2.1, iN_inj (by omega) (by omega)]
        exact gF hk (hK I (RP.rf hR))
      · intro H out _ _
        rw [List.append_nil]; rfl
theorem l8_of (hT : TpO T n) {N : Nat} (hg : ∀ ts, ts.length < N → TkO ts → G2 T n o ts) : ∀ (N' : Nat) (ts : List Tk), ts.length ≤ N' → N' ≤ N → TkO ts → h4 ts → L8 T n o ts := by
  intro N'
  induction N' with
  | zero =>
    intro ts hl hN tk hh
    cases ts with
    | cons t ts => rw [List.length_cons] at hl; omega
    | nil =>
      refine ⟨true, [], [], List.suffix_refl _, Nat.le_refl _, fun _ => ?_, fun _ _ _ _ => rfl, ?_, ?_⟩
      · exact ⟨hh, (by decide : (21 : Nat) ≠ 4)⟩
      · intro g D z I L i K hs hz hD hR hL hi hK
        obtain ⟨d, rfl⟩ : ∃ d, D = d + 7 := ⟨D - 7, by omega⟩
        refine w5_readBoth_11 hs hz ⟨fun _ => hK I (RP.rf hR), fun _ => ?_⟩
        rw [hR.2.2.1]
        exact gF (by decide) (hK I (RP.rf hR))
      · intro H out _ _
        rfl
  | succ N' ih =>
    intro ts hl hN tk hh
    by_cases hk : hdK ts = 4
    · cases ts with
      | nil => exact absurd hk (by decide)
      | cons t ts' =>
        have hk : t.1 = 4 := hk
        rw [List.length_cons] at hl
        obtain ⟨ok, r, c, s1, l1, st1, ht1, mc1, sm1⟩ := hg ts' (by omega) tk.tl
        have pre : ∀ (g : Gt) (d : Nat) (z : Zs) (I : Is) (L i : Nat) (K : Int32 → Is → Prop), GS g → ShC z → 19 + 7 * (5 - o) ≤ d + 7 → RS T n I (t :: ts') o L → L + (t :: ts').length ≤ 160 → i + (t :: ts').length ≤ 160 → (∀ J2, RP T n I L o r c J2 → (bN ok = iN 0 → K (iN 0) J2) ∧ (¬ bN ok = iN 0 → Wv g m5_emit (d + 6) [.ref 22, .int (iM 5)] z J2 (fun J4 => WPc g m5_readBoth (d + 7) 0 0 11 [(0, .ref 22), (1, .int (iN i + iN 1))] [] z J4 (Qi z K)))) → WPc g m5_readBoth (d + 7) 0 0 11 [(0, .ref 22), (1, .int (iN i))] [] z I (Qi z K) := fun g d z I L i K hs hz hD hR hL hi hK => by
          rw [List.length_cons] at hL hi
          refine w5_readBoth_11 hs hz ⟨fun q => absurd ((iN_le (by omega) (by omega)).mp q) (by omega), fun _ => ?_⟩
          rw [hR.2.2.1]
          refine gT (by rw [show hdK (t :: ts') = 4 from hk]) (c_advance hs hz hT hR (fun J1 hJ1 hR1 => mc1 g _ z J1 L _ hs hz (by omega) hR1 (by show L + ts'.length ≤ 160; omega) (fun J2 hJ2 => hK J2 (hJ2.st (hJ1.mo (by simp)) (fun i _ => by rw [hJ1 24 (by simp)])))))
        have sop : ∀ (H out : List Nat), opn H = o → tpB H < 2 → fnS (t :: ts') H out = sy ts' true true (12 :: H) out := fun H out ho ht => by
          unfold fnS; rw [if_neg (show ¬ (hdK (t :: ts') = 18 ∨ hdK (t :: ts') = 19) by show ¬ (t.1 = 18 ∨ t.1 = 19); omega)]; exact sy_op (s := 12) (by omega) (by omega) (by rw [hk]; rfl) (by decide) (by decide) ht (fun q => absurd q (by decide))
        cases ok with
        | false =>
          refine ⟨false, r, c, s1.trans sf_tl, by rw [List.length_cons]; omega, fun q => (by cases q), fun q => (by cases q), ?_, ?_⟩
          · intro g D z I L i K hs hz hD hR hL hi hK
            obtain ⟨d, rfl⟩ : ∃ d, D = d + 7 := ⟨D - 7, by omega⟩
            exact pre g d z I L i K hs hz hD hR hL hi (fun J2 hJ2 => bN_f (hK J2 hJ2))
          · intro H out ho ht
            rw [sop H out ho ht]
            exact sm1 (12 :: H) out ho (by show rkN 12 < _; decide)
        | true =>
          have st1 := st1 rfl
          obtain ⟨ok2, r2, c2, s2, l2, st2, ht2, mc2, sm2⟩ := ih r (by omega) (by omega) (tk.tl.sf s1) st1.2
          refine ⟨ok2, r2, (c ++ [12]) ++ c2, (s2.trans s1).trans sf_tl, by rw [List.length_cons, List.length_append, List.length_append]; show c.length + 1 + c2.length + r2.length ≤ _; omega, st2, fun q h hh1 hh2 => ?_, ?_, ?_⟩
          · exact hL_app (hL_app (ht1 rfl h (by omega)) (hL_one (h' := h) (Or.inr (Or.inr ⟨by omega, by omega, by omega, by omega⟩)))) (ht2 q h hh1 hh2)
          · intro g D z I L i K hs hz hD hR hL hi hK
            obtain ⟨d, rfl⟩ : ∃ d, D = d + 7 := ⟨D - 7, by omega⟩
            refine pre g d z I L i K hs hz hD hR hL hi (fun J2 hJ2 => bN_t ?_)
            rw [List.length_cons] at hL hi
            refine c_emit hs hz hJ2.2.2.2.1.2.2.1 (by omega) ?_
            have h3 := hJ2.em (x := 12) (v := iM 5) rfl
            rw [iN_add]
            have el : (c ++ [12]).length = c.length + 1 := by rw [List.length_append]; rfl
            exact mc2 g _ z _ _ (i + 1) K hs hz hD h3.2.2.2 (by rw [el]; omega) (by omega) (fun J4 hJ4 => hK J4 (h3.seq hJ4))
          · intro H out ho ht
            rw [sop H out ho ht, sm1 (12 :: H) out ho (by show rkN 12 < _; decide)]
            show fnS r (12 :: H) (out ++ c) = _
            rw [fn_hd (k := 2) (fun q => lst_2 st1.2 q) (by decide), sm2 H _ ho ht]
            simp only [List.append_assoc]
    · refine ⟨true, ts, [], List.suffix_refl _, by show 0 + ts.length ≤ ts.length; omega, fun _ => ⟨hh, hk⟩, fun _ _ _ _ => rfl, ?_, ?_⟩
      · intro g D z I L i K hs hz hD hR hL hi hK
        obtain ⟨d, rfl⟩ : ∃ d, D = d + 7 := ⟨D - 7, by omega⟩
        have := tk.k
        refine w5_readBoth_11 hs hz ⟨fun _ => hK I (RP.rf hR), fun _ => ?_⟩
        rw [hR.2.2.1, iN_inj (by omega) (by omega)]
        exact gF hk (hK I (RP.rf hR))
      · intro H out _ _
        rw [List.append_nil]; rfl
theorem l7_of (hT : TpO T n) {N : Nat} (hg : ∀ ts, ts.length < N → TkO ts → G1 T n o ts) : ∀ (N' : Nat) (ts : List Tk), ts.length ≤ N' → N' ≤ N → TkO ts → h1 ts → L7 T n o ts := by
  intro N'
  induction N' with
  | zero =>
    intro ts hl hN tk hh
    cases ts with
    | cons t ts => rw [List.length_cons] at hl; omega
    | nil =>
      refine ⟨true, [], [], List.suffix_refl _, Nat.le_refl _, fun _ => ?_, fun _ _ _ _ => rfl, ?_, ?_⟩
      · exact ⟨hh, (by decide : (21 : Nat) ≠ 3)⟩
      · intro g D z I L i K hs hz hD hR hL hi hK
        obtain ⟨d, rfl⟩ : ∃ d, D = d + 7 := ⟨D - 7, by omega⟩
        refine w5_readEither_11 hs hz ⟨fun _ => hK I (RP.rf hR), fun _ => ?_⟩
        rw [hR.2.2.1]
        exact gF (by decide) (hK I (RP.rf hR))
      · intro H out _ _
        rfl
  | succ N' ih =>
    intro ts hl hN tk hh
    by_cases hk : hdK ts = 3
    · cases ts with
      | nil => exact absurd hk (by decide)
      | cons t ts' =>
        have hk : t.1 = 3 := hk
        rw [List.length_cons] at hl
        obtain ⟨ok, r, c, s1, l1, st1, ht1, mc1, sm1⟩ := hg ts' (by omega) tk.tl
        have pre : ∀ (g : Gt) (d : Nat) (z : Zs) (I : Is) (L i : Nat) (K : Int32 → Is → Prop), GS g → ShC z → 20 + 7 * (5 - o) ≤ d + 7 → RS T n I (t :: ts') o L → L + (t :: ts').length ≤ 160 → i + (t :: ts').length ≤ 160 → (∀ J2, RP T n I L o r c J2 → (bN ok = iN 0 → K (iN 0) J2) ∧ (¬ bN ok = iN 0 → Wv g m5_emit (d + 6) [.ref 22, .int (iM 4)] z J2 (fun J4 => WPc g m5_readEither (d + 7) 0 0 11 [(0, .ref 22), (1, .int (iN i + iN 1))] [] z J4 (Qi z K)))) → WPc g m5_readEither (d + 7) 0 0 11 [(0, .ref 22), (1, .int (iN i))] [] z I (Qi z K) := fun g d z I L i K hs hz hD hR hL hi hK => by
          rw [List.length_cons] at hL hi
          refine w5_readEither_11 hs hz ⟨fun q => absurd ((iN_le (by omega) (by omega)).mp q) (by omega), fun _ => ?_⟩
          rw [hR.2.2.1]
          refine gT (by rw [show hdK (t :: ts') = 3 from hk]) (c_advance hs hz hT hR (fun J1 hJ1 hR1 => mc1 g _ z J1 L _ hs hz (by omega) hR1 (by show L + ts'.length ≤ 160; omega) (fun J2 hJ2 => hK J2 (hJ2.st (hJ1.mo (by simp)) (fun i _ => by rw [hJ1 24 (by simp)])))))
        have sop : ∀ (H out : List Nat), opn H = o → tpB H < 1 → fnS (t :: ts') H out = sy ts' true true (11 :: H) out := fun H out ho ht => by
          unfold fnS; rw [if_neg (show ¬ (hdK (t :: ts') = 18 ∨ hdK (t :: ts') = 19) by show ¬ (t.1 = 18 ∨ t.1 = 19); omega)]; exact sy_op (s := 11) (by omega) (by omega) (by rw [hk]; rfl) (by decide) (by decide) ht (fun q => absurd q (by decide))
        cases ok with
        | false =>
          refine ⟨false, r, c, s1.trans sf_tl, by rw [List.length_cons]; omega, fun q => (by cases q), fun q => (by cases q), ?_, ?_⟩
          · intro g D z I L i K hs hz hD hR hL hi hK
            obtain ⟨d, rfl⟩ : ∃ d, D = d + 7 := ⟨D - 7, by omega⟩
            exact pre g d z I L i K hs hz hD hR hL hi (fun J2 hJ2 => bN_f (hK J2 hJ2))
          · intro H out ho ht
            rw [sop H out ho ht]
            exact sm1 (11 :: H) out ho (by show rkN 11 < _; decide)
        | true =>
          have st1 := st1 rfl
          obtain ⟨ok2, r2, c2, s2, l2, st2, ht2, mc2, sm2⟩ := ih r (by omega) (by omega) (tk.tl.sf s1) st1.2
          refine ⟨ok2, r2, (c ++ [11]) ++ c2, (s2.trans s1).trans sf_tl, by rw [List.length_cons, List.length_append, List.length_append]; show c.length + 1 + c2.length + r2.length ≤ _; omega, st2, fun q h hh1 hh2 => ?_, ?_, ?_⟩
          · exact hL_app (hL_app (ht1 rfl h (by omega)) (hL_one (h' := h) (Or.inr (Or.inr ⟨by omega, by omega, by omega, by omega⟩)))) (ht2 q h hh1 hh2)
          · intro g D z I L i K hs hz hD hR hL hi hK
            obtain ⟨d, rfl⟩ : ∃ d, D = d + 7 := ⟨D - 7, by omega⟩
            refine pre g d z I L i K hs hz hD hR hL hi (fun J2 hJ2 => bN_t ?_)
            rw [List.length_cons] at hL hi
            refine c_emit hs hz hJ2.2.2.2.1.2.2.1 (by omega) ?_
            have h3 := hJ2.em (x := 11) (v := iM 4) rfl
            rw [iN_add]
            have el : (c ++ [11]).length = c.length + 1 := by rw [List.length_append]; rfl
            exact mc2 g _ z _ _ (i + 1) K hs hz hD h3.2.2.2 (by rw [el]; omega) (by omega) (fun J4 hJ4 => hK J4 (h3.seq hJ4))
          · intro H out ho ht
            rw [sop H out ho ht, sm1 (11 :: H) out ho (by show rkN 11 < _; decide)]
            show fnS r (11 :: H) (out ++ c) = _
            rw [fn_hd (k := 1) (fun q => lst_1 st1.2.1 q st1.2.2) (by decide), sm2 H _ ho ht]
            simp only [List.append_assoc]
    · refine ⟨true, ts, [], List.suffix_refl _, by show 0 + ts.length ≤ ts.length; omega, fun _ => ⟨hh, hk⟩, fun _ _ _ _ => rfl, ?_, ?_⟩
      · intro g D z I L i K hs hz hD hR hL hi hK
        obtain ⟨d, rfl⟩ : ∃ d, D = d + 7 := ⟨D - 7, by omega⟩
        have := tk.k
        refine w5_readEither_11 hs hz ⟨fun _ => hK I (RP.rf hR), fun _ => ?_⟩
        rw [hR.2.2.1, iN_inj (by omega) (by omega)]
        exact gF hk (hK I (RP.rf hR))
      · intro H out _ _
        rw [List.append_nil]; rfl
theorem g5_of {ts : List Tk} (hg : G6 T n o ts) (hl : ∀ r, r.length < ts.length → r <:+ ts → L10 T n o r) : G5 T n o ts := by
  obtain ⟨ok, r, c, s1, l1, st1, ht1, mc1, sm1⟩ := hg
  cases ok with
  | false =>
    refine ⟨false, r, c, s1, l1, fun q => (by cases q), fun q => (by cases q), ?_, ?_⟩
    · intro g D z I L K hs hz hD hR hL hK
      obtain ⟨d, rfl⟩ : ∃ d, D = d + 1 := ⟨D - 1, by omega⟩
      exact w5_readTerm hs hz (mc1 g d z I L _ hs hz (by omega) hR hL (fun J hJ => bN_f (hK J hJ)))
    · intro H out m ho ht hm
      exact sm1 H out m ho hm
  | true =>
    have st1 := st1 rfl
    obtain ⟨ok2, r2, c2, s2, l2, st2, ht2, mc2, sm2⟩ := hl r st1.1 s1
    refine ⟨ok2, r2, c ++ c2, s2.trans s1, by rw [List.length_append]; omega, fun q => ⟨Nat.lt_of_le_of_lt s2.length_le st1.1, st2 q⟩, fun q h hM => ?_, ?_, ?_⟩
    · exact hL_app (ht1 rfl h (by omega)) (ht2 q (h + 1) (by omega) (by omega))
    · intro g D z I L K hs hz hD hR hL hK
      obtain ⟨d, rfl⟩ : ∃ d, D = d + 1 := ⟨D - 1, by omega⟩
      exact w5_readTerm hs hz (mc1 g d z I L _ hs hz (by omega) hR hL (fun J hJ => bN_t (mc2 g (d + 1) z J (L + c.length) 0 K hs hz hD hJ.2.2.2 (by omega) (by omega) (fun J2 hJ2 => hK J2 (hJ.seq hJ2)))))
    · intro H out m ho ht hm
      rw [sm1 H out m ho hm]
      show sy r false true (unw 7 H (out ++ c)).1 (unw 7 H (out ++ c)).2 = _
      rw [unw_lo (k := 7) (by decide) (by omega)]; rw [sm2 H _ ho ht, List.append_assoc]
theorem g4_of {ts : List Tk} (hg : G5 T n o ts) (hl : ∀ r, r.length < ts.length → r <:+ ts → h5 r → L9 T n o r) : G4 T n o ts := by
  obtain ⟨ok, r, c, s1, l1, st1, ht1, mc1, sm1⟩ := hg
  cases ok with
  | false =>
    refine ⟨false, r, c, s1, l1, fun q => (by cases q), fun q => (by cases q), ?_, ?_⟩
    · intro g D z I L K hs hz hD hR hL hK
      obtain ⟨d, rfl⟩ : ∃ d, D = d + 1 := ⟨D - 1, by omega⟩
      exact w5_readSum hs hz (mc1 g d z I L _ hs hz (by omega) hR hL (fun J hJ => bN_f (hK J hJ)))
    · intro H out m ho ht hm
      exact sm1 H out m ho (by omega) hm
  | true =>
    have st1 := st1 rfl
    obtain ⟨ok2, r2, c2, s2, l2, st2, ht2, mc2, sm2⟩ := hl r st1.1 s1 st1.2
    refine ⟨ok2, r2, c ++ c2, s2.trans s1, by rw [List.length_append]; omega, fun q => ⟨Nat.lt_of_le_of_lt s2.length_le st1.1, st2 q⟩, fun q h hM => ?_, ?_, ?_⟩
    · exact hL_app (ht1 rfl h (by omega)) (ht2 q (h + 1) (by omega) (by omega))
    · intro g D z I L K hs hz hD hR hL hK
      obtain ⟨d, rfl⟩ : ∃ d, D = d + 1 := ⟨D - 1, by omega⟩
      exact w5_readSum hs hz (mc1 g d z I L _ hs hz (by omega) hR hL (fun J hJ => bN_t (mc2 g (d + 1) z J (L + c.length) 0 K hs hz hD hJ.2.2.2 (by omega) (by omega) (fun J2 hJ2 => hK J2 (hJ.seq hJ2)))))
    · intro H out m ho ht hm
      rw [sm1 H out m ho (by omega) hm]
      show sy r false true H (out ++ c) = _
      rw [sm2 H _ ho ht, List.append_assoc]
theorem g1_of {ts : List Tk} (hg : G2 T n o ts) (hl : ∀ r, r.length < ts.length → r <:+ ts → h4 r → L8 T n o r) : G1 T n o ts := by
  obtain ⟨ok, r, c, s1, l1, st1, ht1, mc1, sm1⟩ := hg
  cases ok with
  | false =>
    refine ⟨false, r, c, s1, l1, fun q => (by cases q), fun q => (by cases q), ?_, ?_⟩
    · intro g D z I L K hs hz hD hR hL hK
      obtain ⟨d, rfl⟩ : ∃ d, D = d + 1 := ⟨D - 1, by omega⟩
      exact w5_readBoth hs hz (mc1 g d z I L _ hs hz (by omega) hR hL (fun J hJ => bN_f (hK J hJ)))
    · intro H out ho ht
      exact sm1 H out ho (by omega)
  | true =>
    have st1 := st1 rfl
    obtain ⟨ok2, r2, c2, s2, l2, st2, ht2, mc2, sm2⟩ := hl r st1.1 s1 st1.2
    refine ⟨ok2, r2, c ++ c2, s2.trans s1, by rw [List.length_append]; omega, fun q => ⟨Nat.lt_of_le_of_lt s2.length_le st1.1, st2 q⟩, fun q h hM => ?_, ?_, ?_⟩
    · exact hL_app (ht1 rfl h (by omega)) (ht2 q (h + 1) (by omega) (by omega))
    · intro g D z I L K hs hz hD hR hL hK
      obtain ⟨d, rfl⟩ : ∃ d, D = d + 1 := ⟨D - 1, by omega⟩
      exact w5_readBoth hs hz (mc1 g d z I L _ hs hz (by omega) hR hL (fun J hJ => bN_t (mc2 g (d + 1) z J (L + c.length) 0 K hs hz hD hJ.2.2.2 (by omega) (by omega) (fun J2 hJ2 => hK J2 (hJ.seq hJ2)))))
    · intro H out ho ht
      rw [sm1 H out ho (by omega)]
      show fnS r H (out ++ c) = _
      rw [sm2 H _ ho ht, List.append_assoc]
theorem g0_of {ts : List Tk} (hg : G1 T n o ts) (hl : ∀ r, r.length < ts.length → r <:+ ts → h1 r → L7 T n o r) : G0 T n o ts := by
  obtain ⟨ok, r, c, s1, l1, st1, ht1, mc1, sm1⟩ := hg
  cases ok with
  | false =>
    refine ⟨false, r, c, s1, l1, fun q => (by cases q), fun q => (by cases q), ?_, ?_⟩
    · intro g D z I L K hs hz hD hR hL hK
      obtain ⟨d, rfl⟩ : ∃ d, D = d + 1 := ⟨D - 1, by omega⟩
      exact w5_readEither hs hz (mc1 g d z I L _ hs hz (by omega) hR hL (fun J hJ => bN_f (hK J hJ)))
    · intro H out ho ht
      exact sm1 H out ho (by omega)
  | true =>
    have st1 := st1 rfl
    obtain ⟨ok2, r2, c2, s2, l2, st2, ht2, mc2, sm2⟩ := hl r st1.1 s1 st1.2
    refine ⟨ok2, r2, c ++ c2, s2.trans s1, by rw [List.length_append]; omega, fun q => ⟨Nat.lt_of_le_of_lt s2.length_le st1.1, st2 q⟩, fun q h hM => ?_, ?_, ?_⟩
    · exact hL_app (ht1 rfl h (by omega)) (ht2 q (h + 1) (by omega) (by omega))
    · intro g D z I L K hs hz hD hR hL hK
      obtain ⟨d, rfl⟩ : ∃ d, D = d + 1 := ⟨D - 1, by omega⟩
      exact w5_readEither hs hz (mc1 g d z I L _ hs hz (by omega) hR hL (fun J hJ => bN_t (mc2 g (d + 1) z J (L + c.length) 0 K hs hz hD hJ.2.2.2 (by omega) (by omega) (fun J2 hJ2 => hK J2 (hJ.seq hJ2)))))
    · intro H out ho ht
      rw [sm1 H out ho (by omega)]
      show fnS r H (out ++ c) = _
      rw [sm2 H _ ho ht, List.append_assoc]
end GRM
