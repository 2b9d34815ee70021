/-! pair: text -/
theorem CI.eqv {z : Zs} {I : Is} {S S2 : AS} (c : CI z I S) (e : Eqv S S2) : CI z I S2 := by
  obtain ⟨a, b, d, f⟩ := e
  have a0 := a 0 (by omega) (by omega)
  have a1 := a 1 (by omega) (by omega)
  have a2 := a 2 (by omega) (by omega)
  have a3 := a 3 (by omega) (by omega)
  have a4 := a 4 (by omega) (by omega)
  have a5 := a 5 (by omega) (by omega)
  have a8 := a 8 (by omega) (by omega)
  have a9 := a 9 (by omega) (by omega)
  obtain ⟨h1, h2, h3, h4, h5, h6, h7⟩ := c
  refine ⟨?_, ?_, fun p hp => (h3 p hp).fn (fun s _ => ?_), ⟨fun p hp => (h4.1 p hp).fn (fun s _ => ?_), ?_⟩, fun i => ?_, ⟨fun t ht => ?_, fun t ht ht6 => ?_⟩, fun s hs => ?_⟩
  · show I 8 10 = iN (S2.1 0 0) ∧ I 8 11 = iN (S2.1 0 1) ∧ I 8 12 = iN (S2.1 0 3) ∧ I 8 13 = iN (S2.1 0 2) ∧ I 8 14 = iN (S2.1 0 4) ∧ I 22 3 = iN (S2.1 0 5)
    rw [a0]; exact h1
  · show SrO z I (S2.1 0 0) (S2.1 1) (S2.1 2) (S2.1 3)
    rw [a0, a1, a2, a3]; exact h2
  · show S.1 4 (6 * p + s) = S2.1 4 (6 * p + s)
    rw [a4]
  · show S.1 8 (6 * p + s) = S2.1 8 (6 * p + s)
    rw [a8]
  · show I 26 1 = iN (S2.1 0 7) ∧ I 26 2 = iN (S2.1 0 8) ∧ I 26 3 = iN (S2.1 0 9) ∧ I 26 4 = iN (S2.1 0 10) ∧ I 26 5 = iN (S2.1 0 6)
    rw [a0]; exact h4.2
  · rw [a5]; exact h5 i
  · have ht : t < S2.1 0 3 := ht
    rw [a0] at ht
    obtain ⟨t6, q, eq, r⟩ := h6.1 t ht
    refine ⟨t6, q, eq, r.1, r.2.1, fun p hp => ?_, ?_, fun k hk => ?_⟩
    · show I (q + 2) p = iN (S2.1 7 (4 * t + (p + 1)))
      rw [d t (p + 1) ht (by omega)]; exact r.2.2.1 p hp
    · show zL z (q + 1) = S2.1 7 (4 * t + 3)
      rw [d t 3 ht (by omega)]; exact r.2.2.2.1
    · have hk : k < S2.1 7 (4 * t + 3) := hk
      rw [d t 3 ht (by omega)] at hk
      show I (q + 1) k = cTr (S2.1 6 (200 * t + k))
      rw [b t k ht hk]; exact r.2.2.2.2 k hk
  · have ht : S2.1 0 3 ≤ t := ht
    rw [a0] at ht
    exact h6.2 t ht ht6
  · rw [f, a9]; exact h7 s hs
theorem hrun_L {f : Nat → Nat} : ∀ (c : List Nat) (b h h' : Nat), (∀ i x, c[i]? = some x → f (b + i) = x) → hL c h h' → hrun f c.length b h h'
  | [], _, _, _, _, p => p
  | x :: c, b, h, h', hf, p => by
    obtain ⟨h1, p1, p2⟩ := p
    have e0 := hf 0 x rfl
    rw [Nat.add_zero] at e0
    exact ⟨h1, by rw [e0]; exact p1, hrun_L c (b + 1) h1 h' (fun i y q => by rw [show b + 1 + i = b + (i + 1) by omega]; exact hf (i + 1) y q) p2⟩
theorem tx_step {T : Nat → Nat} {n : Nat} (hT : TpO T n) {k p : Nat} {ts : List Tk} {out es o es2 : List Nat} (tk : TkO ts) (h : (tx (k + 1) p ts out es).1 = some (o, es2)) : ∃ (r : List Tk) (c : List Nat), TkO r ∧ hL c 0 1 ∧ (tx k (p + 1) r (out ++ c) (es ++ [(out ++ c).length])).1 = some (o, es2) ∧ c.length + r.length ≤ ts.length := by
  have e : tx (k + 1) p ts out es = if hdK ts = p then (match sy ts.tail true true [] out with
      | (some o2, r) => tx k (p + 1) r o2 (es ++ [o2.length])
      | (none, r) => (none, r)) else (none, ts) := rfl
  rw [e] at h
  by_cases q : hdK ts = p
  · rw [if_pos q] at h
    obtain ⟨ok, r, c, s1, l1, st1, mc1, sm1⟩ := sy_E hT (tk.sf (List.tail_suffix ts))
    rw [sm1 out] at h
    by_cases q2 : ok = true ∧ hdK r = 14
    · rw [if_pos q2] at h
      have tr := (tk.sf (List.tail_suffix ts)).sf s1
      have lt : r.tail.length ≤ r.length := by rw [List.length_tail]; omega
      have lt2 : ts.tail.length ≤ ts.length := by rw [List.length_tail]; omega
      exact ⟨r.tail, c, tr.sf (List.tail_suffix r), (st1 q2.1).2, h, by omega⟩
    · rw [if_neg q2] at h; cases h
  · rw [if_neg q] at h; cases h
/-- a text that was read: its three expressions -/
theorem tx_3 {T : Nat → Nat} {n : Nat} (hT : TpO T n) {o es : List Nat} (h : (tx 3 0 (tks T n 0) [] []).1 = some (o, es)) : ∃ c0 c1 c2 : List Nat, o = c0 ++ (c1 ++ c2) ∧ es = [c0.length, c0.length + c1.length, c0.length + (c1.length + c2.length)] ∧ hL c0 0 1 ∧ hL c1 0 1 ∧ hL c2 0 1 ∧ o.length ≤ 160 := by
  have n6 := hT.1
  have lt := tks_len (T := T) (n := n) n 0 (by omega) (by omega)
  obtain ⟨r0, c0, t0, h0, e0, l0⟩ := tx_step hT (tks_ok (by omega)) h
  obtain ⟨r1, c1, t1, h1, e1, l1⟩ := tx_step hT t0 e0
  obtain ⟨r2, c2, t2, h2, e2, l2⟩ := tx_step hT t1 e1
  have e3 : ∀ (ts : List Tk) (out es' : List Nat), (tx 0 3 ts out es').1 = some (o, es) → o = out ∧ es = es' := fun ts out es' q => by
    have q : (if hdK ts = 21 then (some (out, es'), ts) else ((none : Option (List Nat × List Nat)), ts)).1 = some (o, es) := q
    split at q
    · cases q; exact ⟨rfl, rfl⟩
    · cases q
  obtain ⟨eo, ee⟩ := e3 _ _ _ e2
  refine ⟨c0, c1, c2, ?_, ?_, h0, h1, h2, ?_⟩
  · rw [eo]; simp
  · rw [ee]; simp
  · rw [eo]; simp; omega
def tN32 (x : Int32) : Nat := x.toBitVec.toNat
theorem tN32_e (x : Int32) : x = iN (tN32 x) := by
  apply Int32.toBitVec_inj.mp
  unfold iN tN32
  simp
section PX
variable {g : Gt} {d : Nat} {z z' : Zs} {I J : Is} {S : AS}
theorem c_copyOf {r L k : Nat} {K : Option Nat → Zs → Is → Prop} (hs : GS g) (ht : zT z r = 100) (hl : zL z r = L) (hr : r ≠ zN z) (hL : L ≤ 160) (hk : k ≤ L) (hK : ∀ J, (∀ q, q ≠ zN z → J q = I q) → (∀ i, i < k → J (zN z) i = I r i) → K (some (zN z)) (zNew z 100 k) J) : WPr g mJ7_copyOf_59c91 (d + 2) 1 160 [.ref r, .int (iN k)] z I K := by
  refine vJ7_copyOf_59c91 hs ⟨alB_t (t := 0) ht, fun q => ?_, fun q => ?_⟩
  · have q : iN k = iN (zL z r) := q
    rw [hl, iN_inj (by omega) (by omega)] at q
    rw [hl]
    refine ⟨by rw [ht]; rfl, Nat.ble_eq.mpr hL, by rw [zT_s]; rfl, ?_⟩
    rw [← q]
    refine hK _ (fun p hp => ?_) (fun i _ => ?_)
    · funext j; show (if p = zN z then I r j else I p j) = _; rw [if_neg hp]
    · show (if zN z = zN z then I r i else I (zN z) i) = _; rw [if_pos rfl]
  · have ek : (iN k).toNatClampNeg = k := iN_toN (by omega)
    rw [ek, zL_o hr, zL_s, zT_o hr, zT_s, hl, ht]
    have em : mnI (Int32.ofNat L) (iN k) = iN k := by
      show mnI (iN L) (iN k) = _
      rw [mnI_N (by omega) (by omega)]; congr 1; omega
    rw [em, ek]
    refine ⟨by unfold inB; rw [iN_toInt (by omega)]; simp; omega, Nat.ble_eq.mpr (by omega), ?_, rfl, inC_n (by omega) (by omega), inC_n (by omega) (by omega), ?_⟩
    · have : iarB (zNew z 100 k) r = true := iarB_t (by rw [zT_o hr]; exact ht)
      rw [this]; rfl
    · refine hK _ (fun p hp => ?_) (fun i hi => ?_)
      · rw [cpI_ro _ hp, nI0_o _ hp]
      · rw [cpI_row _ _ _ _ hi, nI0_o _ hr]
theorem c_textRead {L : Nat} {K : Option Nat → Zs → Is → Prop} (hs : GS g) (hz : ShC z) (hl : I 22 9 = iN L) (h160 : L ≤ 160) (hK : ∀ z' J, ExZ z z' → zN z' = zN z + 4 → zP z' 20 = zP z 20 → zP z' 9 = zP z 9 → zT z' (zN z) = 10 → TxO z' (zN z) → zL z' (zN z + 1) = L → (∀ q, q < zN z → J q = I q) → (∀ i, i < L → J (zN z + 1) i = I 24 i) → (∀ i, i < 3 → J (zN z + 2) i = I 25 i) → K (some (zN z)) z' J) : WPr g m5_textRead (d + 5) 4 356 [.ref 22] z I K := by
  have z124 := hz.2.2.2
  have t22 : ∀ {z' : Zs}, ExZ z z' → tagB [5] (zT z' 22) = true := fun {z'} e => by rw [(e.2.1 22 (by omega)).1, hz.t 22 (by decide) rfl]; rfl
  have p22 : ∀ {z' : Zs} (i q : Nat), ExZ z z' → spt 22 i = some q → zP z' 22 i = some q := fun {z'} i q e h => by rw [e.2.2 22 (by omega) (by omega) (by omega)]; exact hz.p 22 i (by decide) h
  have e1 : ExZ z (zNew z 10 0) := exZ_new
  refine v5_textRead hs ⟨t22 e1, oe_s (p22 1 24 e1 rfl) ⟨t22 e1, ?_⟩⟩
  rw [nI0_o _ (show 22 ≠ zN z by omega), hl]
  have N1 : zN (zNew z 10 0) = zN z + 1 := rfl
  refine c_copyOf (r := 24) (L := 160) (k := L) hs (by rw [zT_o (by omega)]; exact hz.t 24 (by decide) rfl) (by rw [zL_o (by omega)]; exact hz.l 24 (by decide) rfl) (by rw [N1]; omega) (by omega) h160 (fun J1 h1 r1 => ?_)
  rw [N1] at h1 r1
  have e2 : ExZ z (zNew (zNew z 10 0) 100 L) := ⟨by show zN z ≤ zN z + 1 + 1; omega, fun k hk => ⟨by rw [zT_o (by rw [N1]; omega), zT_o (by omega)], by rw [zL_o (by rw [N1]; omega), zL_o (by omega)]⟩, fun k hk _ _ => funext (fun i => by rw [zP_o (by rw [N1]; omega), zP_o (by omega)])⟩
  have N2 : zN (zNew (zNew z 10 0) 100 L) = zN z + 2 := rfl
  refine ⟨t22 e2, oe_s (p22 2 25 e2 rfl) ?_⟩
  refine c_copyOf (r := 25) (L := 3) (k := 3) hs (by rw [(e2.2.1 25 (by omega)).1]; exact hz.t 25 (by decide) rfl) (by rw [(e2.2.1 25 (by omega)).2]; exact hz.l 25 (by decide) rfl) (by rw [N2]; omega) (by omega) (by omega) (fun J2 h2 r2 => ?_)
  rw [N2] at h2 r2
  have N3 : zN (zNew (zNew (zNew z 10 0) 100 L) 100 3) = zN z + 3 := rfl
  have T : ∀ q, zT (zNew (zNew (zNew (zNew z 10 0) 100 L) 100 3) 100 32) q = if q = zN z + 3 then 100 else if q = zN z + 2 then 100 else if q = zN z + 1 then 100 else if q = zN z then 10 else zT z q := fun q => rfl
  have Ln : ∀ q, zL (zNew (zNew (zNew (zNew z 10 0) 100 L) 100 3) 100 32) q = if q = zN z + 3 then 32 else if q = zN z + 2 then 3 else if q = zN z + 1 then L else if q = zN z then 0 else zL z q := fun q => rfl
  have P : ∀ q i, q < zN z → zP (zNew (zNew (zNew (zNew z 10 0) 100 L) 100 3) 100 32) q i = zP z q i := fun q i hq => by
    rw [zP_o (by rw [N3]; omega), zP_o (by rw [N2]; omega), zP_o (by rw [N1]; omega), zP_o (by omega)]
  have tN : zT (zNew (zNew (zNew (zNew z 10 0) 100 L) 100 3) 100 32) (zN z) = 10 := by rw [T, if_neg (by omega), if_neg (by omega), if_neg (by omega), if_pos rfl]
  refine v10_init hs ⟨by rw [tN]; rfl, by rw [zPut_T, tN]; rfl, by rw [zPut_T, zPut_T, tN]; rfl, ?_⟩
  rw [N3]
  refine hK _ _ ⟨by show zN z ≤ zN z + 1 + 1 + 1 + 1; omega, fun k hk => ⟨?_, ?_⟩, fun k hk _ _ => ?_⟩ rfl ?_ ?_ tN ?_ ?_ (fun q hq => ?_) (fun i hi => ?_) (fun i hi => ?_)
  · rw [zPut_T, zPut_T, zPut_T, T, if_neg (by omega), if_neg (by omega), if_neg (by omega), if_neg (by omega)]
  · rw [zPut_L, zPut_L, zPut_L, Ln, if_neg (by omega), if_neg (by omega), if_neg (by omega), if_neg (by omega)]
  · rw [zPut_o (by omega), zPut_o (by omega), zPut_o (by omega)]; exact funext (fun i => P k i hk)
  · rw [zPut_o (by omega), zPut_o (by omega), zPut_o (by omega)]; exact funext (fun i => P 20 i (by omega))
  · rw [zPut_o (by omega), zPut_o (by omega), zPut_o (by omega)]; exact funext (fun i => P 9 i (by omega))
  · refine ⟨⟨tN, ?_, ?_, ?_⟩, ?_, ⟨?_, ?_⟩, ?_, ?_⟩
    · rw [zPut_i (by omega), zPut_s]; rfl
    · rw [zPut_s]; rfl
    · rw [zPut_i (by omega), zPut_i (by omega), zPut_s]
    · rw [zPut_T, zPut_T, zPut_T, T, if_neg (by omega), if_neg (by omega), if_pos rfl]
    · rw [zPut_T, zPut_T, zPut_T, T, if_neg (by omega), if_pos rfl]
    · rw [zPut_L, zPut_L, zPut_L, Ln, if_neg (by omega), if_pos rfl]
    · rw [zPut_T, zPut_T, zPut_T, T, if_pos rfl]
    · rw [zPut_L, zPut_L, zPut_L, Ln, if_pos rfl]
  · rw [zPut_L, zPut_L, zPut_L, Ln, if_neg (by omega), if_neg (by omega), if_pos rfl]
  · rw [nI0_o _ (by omega), h2 q (by omega), h1 q (by omega), nI0_o _ (by omega)]
  · rw [nI0_o _ (by omega), h2 _ (by omega), r1 i hi, nI0_o _ (by omega)]
  · rw [nI0_o _ (by omega), r2 i hi, h1 25 (by omega), nI0_o _ (by omega)]
-- the state behind
def txU (S : AS) (o es : List Nat) : AS := (fun i => if i = 0 then up1 (up1 (S.1 0) 3 (sNt S + 1)) 5 0 else if i = 6 then (fun j => if 200 * sNt S ≤ j then o.getD (j - 200 * sNt S) 0 else S.1 6 j) else if i = 7 then (fun j => if 4 * sNt S ≤ j then (0 :: es).getD (j - 4 * sNt S) 0 else S.1 7 j) else S.1 i, S.2)
/-- so do the reference's rows read -/
def gbU (S1 : AS) (J : Is) (nt : Nat) : AS := (fun i => if i = 6 then (fun j => if j < 200 * nt then S1.1 6 j else tN32 (J 107 j)) else if i = 7 then (fun j => if j < 4 * nt then S1.1 7 j else tN32 (J 108 j)) else S1.1 i, S1.2)
theorem TxW.cg {S S2 : AS} {t : Nat} (h : TxW S t) (h6 : ∀ k, k < 200 → S2.1 6 (200 * t + k) = S.1 6 (200 * t + k)) (h7 : ∀ p, p ≤ 3 → S2.1 7 (4 * t + p) = S.1 7 (4 * t + p)) : TxW S2 t := by
  obtain ⟨a, b, c⟩ := h
  have e : ∀ p, p ≤ 3 → sSt S2 t p = sSt S t p := h7
  unfold TxW
  rw [e 0 (by omega), e 1 (by omega), e 2 (by omega), e 3 (by omega)]
  refine ⟨a, b, fun p hp => ?_⟩
  rw [e (p + 1) (by omega), e p (by omega)]
  have hr := c p hp
  have hb : sSt S t (p + 1) ≤ 160 ∧ sSt S t p ≤ sSt S t (p + 1) := by
    obtain rfl | rfl | rfl : p = 0 ∨ p = 1 ∨ p = 2 := by omega
    · exact ⟨Nat.le_trans b.2.1 (Nat.le_trans b.2.2.1 b.2.2.2), b.1⟩
    · exact ⟨Nat.le_trans b.2.2.1 b.2.2.2, b.2.1⟩
    · exact ⟨b.2.2.2, b.2.2.1⟩
  have go : ∀ (n i h h' : Nat), i + n ≤ 160 → hrun (sCd S t) n i h h' → hrun (sCd S2 t) n i h h' := by
    intro n
    induction n with
    | zero => exact fun i h h' _ q => q
    | succ n ih =>
      intro i h h' hi q
      obtain ⟨h1, q1, q2⟩ := q
      exact ⟨h1, by rw [show sCd S2 t i = sCd S t i from h6 i (by omega)]; exact q1, ih (i + 1) h1 h' (by omega) q2⟩
  exact go _ _ _ _ (by omega) hr
end PX
