/-! a whole text, on tokens; the class reads it -/
theorem nuN_lt {T : Nat → Nat} {s : Nat} : ∀ k, (∀ i, i < k → T (s + i) ≤ 57) → nuN T s k < 10 ^ k
  | 0, _ => by show 0 < 1; omega
  | k + 1, h => by
    have := nuN_lt k (fun i hi => h i (by omega))
    have := h k (by omega)
    show 10 * nuN T s k + T (s + k) - 48 < 10 ^ (k + 1)
    rw [Nat.pow_succ]; omega
theorem lxN_num {T : Nat → Nat} {n s : Nat} (q : (lxN T n s).1 = 20) : (lxN T n s).2.1 < 100000 := by
  unfold lxN at q ⊢
  split
  next c => rw [if_pos c] at q; cases q
  next c =>
    rw [if_neg c] at q
    split
    next c2 =>
      rw [if_pos c2] at q
      have := wkC_b (T := T) (s := s) (e := runP ltB T n (n - s) s) 12
      have q : wkC T s (runP ltB T n (n - s) s) 12 = 20 := q
      omega
    next c2 =>
      rw [if_neg c2] at q
      split
      next c3 =>
        rw [if_pos c3] at q
        have q : (if runP dgB T n (n - s) s - s ≤ 4 then 20 else 22) = 20 := q
        split at q
        next l4 =>
          have a := nuN_lt (T := T) (s := s) (runP dgB T n (n - s) s - s) (fun i hi => (dgB_i.mp (runP_all dgB T n (n - s) s (s + i) (by omega) (by omega))).2)
          have b := Nat.pow_le_pow_right (n := 10) (by omega) l4
          show nuN T s _ < 100000
          omega
        next => cases q
      next c3 => rw [if_neg c3] at q; exact absurd q (sgC_b (T s)).2.2.1
theorem lxs_ok {T : Nat → Nat} {n : Nat} : ∀ (f e : Nat), e ≤ n → TkO (lxs T n f e)
  | 0, e, _ => fun t ht => by cases ht
  | f + 1, e, h => by
    have b := lxE_b (T := T) h
    unfold lxs
    split
    next => exact fun t ht => by cases ht
    next =>
      intro t ht
      rcases List.mem_cons.mp ht with q | q
      · rw [q]; exact ⟨b.1, fun c => lxN_num c⟩
      · exact lxs_ok f _ b.2.2.2.2.1 t q
theorem tks_ok {T : Nat → Nat} {n e : Nat} (h : e ≤ n) : TkO (tks T n e) := lxs_ok _ _ h
def tx : Nat → Nat → List Tk → List Nat → List Nat → Option (List Nat × List Nat) × List Tk
  | 0, _, ts, out, es => if hdK ts = 21 then (some (out, es), ts) else (none, ts)
  | k + 1, p, ts, out, es => if hdK ts = p then (match sy ts.tail true true [] out with
      | (some o2, r) => tx k (p + 1) r o2 (es ++ [o2.length])
      | (none, r) => (none, r)) else (none, ts)
/-- what comes of reading one expression, up to its semicolon -/
theorem sy_E {T : Nat → Nat} {n : Nat} (hT : TpO T n) {ts : List Tk} (tk : TkO ts) : ∃ (ok : Bool) (r : List Tk) (c : List Nat), r <:+ ts ∧ c.length + r.length ≤ ts.length ∧ (ok = true → r.length < ts.length ∧ hL c 0 1) ∧ MCo T n m5_readEither 20 0 ts ok r c ∧ ∀ out, sy ts true true [] out = if ok = true ∧ hdK r = 14 then (some (out ++ c), r.tail) else (none, r) := by
  obtain ⟨ok, r, c, s1, l1, st1, ht1, mc1, sm1⟩ := G_E hT tk
  refine ⟨ok, r, c, s1, l1, fun q => ⟨(st1 q).1, ht1 q 0 (by omega)⟩, mc1, fun out => ?_⟩
  rw [sm1 [] out rfl (by show 0 < 1; omega)]
  cases ok with
  | false => rfl
  | true =>
    obtain ⟨⟨n1, n2⟩, n3⟩ := (st1 rfl).2
    have n1 : ¬ (15 ≤ hdK r ∧ hdK r ≤ 17) := n1
    show fnS r [] (out ++ c) = _
    unfold fnS
    by_cases q2 : hdK r = 18 ∨ hdK r = 19
    · rw [if_pos q2, if_neg (fun w => by omega)]
    · rw [if_neg q2]
      by_cases q3 : hdK r = 14
      · rw [if_pos ⟨rfl, q3⟩]
        cases r with
        | nil => exact absurd q3 (by decide)
        | cons u r' =>
          have q3 : u.1 = 14 := q3
          rw [sy_n, if_pos q3]; rfl
      · rw [if_neg (fun w => q3 w.2)]
        by_cases q4 : hdK r = 13
        · cases r with
          | nil => exact absurd q4 (by decide)
          | cons u r' =>
            have q3 : ¬ u.1 = 14 := q3
            have q4 : u.1 = 13 := q4
            rw [sy_n, if_neg q3, if_pos q4]; rfl
        · refine sy_bad q3 q4 ?_
          unfold sgN
          rw [if_neg n3, if_neg n2, if_neg (by omega), if_neg (by omega), if_neg (by omega), if_neg (by omega), if_neg (by omega)]
theorem any_N (x : Int32) : ∃ n, x = iN n := ⟨x.toBitVec.toNat, by
  apply Int32.toBitVec_inj.mp
  unfold iN
  simp⟩
def EnO (J : Is) (es : List Nat) : Prop := ∀ i x, es[i]? = some x → J 25 i = iN x
section RTX
variable {g : Gt} {d : Nat} {z : Zs} {I J : Is} {T : Nat → Nat} {n : Nat}
theorem rt_l {K : Int32 → Is → Prop} (hs : GS g) (hz : ShC z) (hT : TpO T n) : ∀ (k p : Nat) (ts : List Tk) (out es : List Nat) (J : Is), p + k = 3 → es.length = p → TkO ts → out.length + ts.length ≤ 160 → Of [22, 24, 25] I J → CdL J 0 out → RS T n J ts 0 out.length → EnO J es →
    ((tx k p ts out es).1 = none → ∀ J, Of [22, 24, 25] I J → J 22 4 = iN (hdS n (tx k p ts out es).2) → K (iN 0) J) →
    (∀ o e, (tx k p ts out es).1 = some (o, e) → ∀ J, Of [22, 24, 25] I J → CdL J 0 o → J 22 9 = iN o.length → EnO J e → J 22 4 = iN (hdS n (tx k p ts out es).2) → K (iN 1) J) →
    WPc g m5_readText (d + 60) 0 0 21 [(0, .ref 22), (1, .int (iN p))] [] z J (Qi z K)
  | 0, p, ts, out, es, J, hp, he, tk, hl, hO, hc, hR, hE, hN, hY => by
    have tkk := tk.k
    obtain rfl : p = 3 := by omega
    refine w5_readText_21 hs hz ⟨fun _ => ?_, fun q => absurd ((iN_le (by omega) (by omega)).mpr (Nat.le_refl _)) q⟩
    rw [hR.2.2.1, iN_inj (by omega) (by omega)]
    have e : tx 0 3 ts out es = if hdK ts = 21 then (some (out, es), ts) else (none, ts) := rfl
    rw [e] at hN hY
    refine ⟨fun q => ?_, fun q => ?_⟩
    · rw [if_pos q] at hY; exact hY out es rfl J hO hc hR.1.2.2.1 hE hR.2.2.2.1
    · rw [if_neg q] at hN; exact hN rfl J hO hR.2.2.2.1
  | k + 1, p, ts, out, es, J, hp, he, tk, hl, hO, hc, hR, hE, hN, hY => by
    have tkk := tk.k
    have e : tx (k + 1) p ts out es = if hdK ts = p then (match sy ts.tail true true [] out with
      | (some o2, r) => tx k (p + 1) r o2 (es ++ [o2.length])
      | (none, r) => (none, r)) else (none, ts) := rfl
    refine w5_readText_21 hs hz ⟨fun q => absurd ((iN_le (by omega) (by omega)).mp q) (by omega), fun _ => ?_⟩
    rw [iN_add, Nat.zero_add]
    refine c_readToken (k := p) hs hz hT hR (by omega) tkk (fun q J1 hJ1 hR1 => gF (by decide) ?_) (fun q => gT rfl ?_)
    · cases ts with
      | nil => have q : 21 = p := q; omega
      | cons t ts' =>
        rw [List.length_cons] at hl
        rw [if_pos q] at e
        obtain ⟨ok, r, c, s1, l1, st1, mc1, sm1⟩ := sy_E hT tk.tl
        rw [show (t :: ts').tail = ts' from rfl, sm1 out] at e
        have tr := (tk.tl).sf s1
        refine mc1 g _ z J1 out.length _ hs hz (by omega) hR1 (by show out.length + ts'.length ≤ 160; omega) (fun J2 hJ2 => ?_)
        have hO2 : Of [22, 24, 25] I J2 := (hO.tr (hJ1.mo (by simp))).tr (hJ2.1.mo (by simp))
        cases ok with
        | false =>
          rw [if_neg (fun w => by cases w.1)] at e
          have e : tx (k + 1) p (t :: ts') out es = (none, r) := e
          rw [e] at hN
          exact bN_f (hN rfl J2 hO2 hJ2.2.2.2.2.2.2.1)
        | true =>
          refine bN_t (c_readToken (k := 14) hs hz hT hJ2.2.2.2 (by omega) tr.k (fun q2 J3 hJ3 hR3 => gF (by decide) ⟨inB_n (by omega) (by omega), ?_⟩) (fun q2 => gT rfl ?_))
          · rw [if_pos ⟨rfl, q2⟩] at e
            have e : tx (k + 1) p (t :: ts') out es = tx k (p + 1) r.tail (out ++ c) (es ++ [(out ++ c).length]) := e
            rw [e] at hN hY
            have lr := (st1 rfl).1
            have lt : r.tail.length ≤ r.length := by rw [List.length_tail]; omega
            have el : (out ++ c).length = out.length + c.length := List.length_append
            rw [iN_toN (by omega), hR3.1.2.2.1, iN_add]
            have hcd : CdL J2 0 (out ++ c) := by
              intro i x qx
              rw [List.getElem?_append] at qx
              rw [Nat.zero_add]
              split at qx
              next a =>
                rw [hJ2.2.1 i a, hJ1 24 (by simp)]
                have := hc i x qx
                rw [Nat.zero_add] at this; exact this
              next a =>
                have := hJ2.2.2.1 (i - out.length) x qx
                rw [show out.length + (i - out.length) = i by omega] at this
                exact this
            refine rt_l hs hz hT k (p + 1) r.tail (out ++ c) (es ++ [(out ++ c).length]) _ (by omega) (by rw [List.length_append, he]; rfl) (tr.sf (List.tail_suffix r)) (by omega) ((hO2.tr (hJ3.mo (by simp))).upt (by simp) _ _) ?_ ?_ ?_ hN hY
            · intro i x qx
              rw [up2_ro _ (by omega), hJ3 24 (by simp)]
              exact hcd i x qx
            · rw [el]
              exact hR3.of22 (up2_ro _ (by omega) _ _) (up2_ro _ (by omega) _ _)
            · intro i x qx
              rw [List.getElem?_append] at qx
              split at qx
              next a =>
                rw [up2_i _ _ (by omega), hJ3 25 (by simp), hJ2.1 25 (by simp), hJ1 25 (by simp)]
                exact hE i x qx
              next a =>
                have ei : i - es.length = 0 := by
                  rcases Nat.eq_zero_or_pos (i - es.length) with z | z
                  · exact z
                  · rw [List.getElem?_eq_none (by simp; omega)] at qx; cases qx
                rw [ei] at qx
                cases qx
                rw [show i = p by omega, up2_s, el]
          · rw [if_neg (fun w => q2 w.2)] at e
            have e : tx (k + 1) p (t :: ts') out es = (none, r) := e
            rw [e] at hN
            exact hN rfl J2 hO2 hJ2.2.2.2.2.2.2.1
    · rw [if_neg q] at e
      rw [e] at hN
      exact hN rfl J hO hR.2.2.2.1
theorem c_readText {K : Int32 → Is → Prop} (hs : GS g) (hz : ShC z) (hT : TpO T n) (hn : I 22 3 = iN n) (ht : ∀ i, I 23 i = iN (T i))
    (hN : (tx 3 0 (tks T n 0) [] []).1 = none → ∀ J, Of [22, 24, 25] I J → J 22 4 = iN (hdS n (tx 3 0 (tks T n 0) [] []).2) → K (iN 0) J)
    (hY : ∀ o e, (tx 3 0 (tks T n 0) [] []).1 = some (o, e) → ∀ J, Of [22, 24, 25] I J → CdL J 0 o → J 22 9 = iN o.length → EnO J e → J 22 4 = iN (hdS n (tx 3 0 (tks T n 0) [] []).2) → K (iN 1) J) : Wi g m5_readText (d + 60) [.ref 22] z I K := by
  obtain ⟨s, e4⟩ := any_N (I 22 4)
  have n6 := hT.1
  refine w5_readText hs hz (c_advance0 (e := 0) (s := s) (o := 0) (L := 0) hs hz hT (by omega) ?_ ?_ ?_ ?_ ?_ ?_ (fun J hJ hR => ?_))
  · rw [up2_i _ _ (by omega), up2_i _ _ (by omega), up2_i _ _ (by omega)]; exact hn
  · rw [up2_i _ _ (by omega), up2_s]
  · rw [up2_s]
  · intro i; rw [up2_ro _ (by omega), up2_ro _ (by omega), up2_ro _ (by omega)]; exact ht i
  · rw [up2_i _ _ (by omega), up2_i _ _ (by omega), up2_s]
  · rw [up2_i _ _ (by omega), up2_i _ _ (by omega), up2_i _ _ (by omega)]; exact e4
  · have lt := tks_len (T := T) (n := n) n 0 (by omega) (by omega)
    exact rt_l (I := I) hs hz hT 3 0 (tks T n 0) [] [] J rfl rfl (tks_ok (by omega)) (by show 0 + _ ≤ 160; omega) (((((Of.rf _ I).upt (by simp) _ _).upt (by simp) _ _).upt (by simp) _ _).tr (hJ.mo (by simp))) (fun i x q => by cases q) hR (fun i x q => by cases q) hN hY
end RTX
