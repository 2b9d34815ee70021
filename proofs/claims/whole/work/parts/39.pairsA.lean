/-! pairs: count, force, asks, told, purse, set, of -/
def scU (S : AS) (i v : Nat) : AS := (up1 S.1 0 (up1 (S.1 0) i v), S.2)
theorem iR_N {a b : Nat} (ha : a < 2147483648) (hb : b < 2147483648) : iR (iN a) (iN b) = iN (a % b) := by
  unfold iR
  have h : a / b * b ≤ a := Nat.div_mul_le_self a b
  rw [iN_div ha hb, iN_mul, iN_sub h]
  congr 1
  have := Nat.div_add_mod a b
  rw [Nat.mul_comm] at this
  omega
section PA
variable {g : Gt} {z : Zs} {I J : Is} {S : AS}
theorem CI.scal (c : CI z I S) (hz : Sh z) {i v : Nat} (h : ∀ k, ¬ Scr z k → k ≠ 8 → J k = I k) (hi : i = 1 ∨ i = 2 ∨ i = 4) (hr : J 8 10 = iN (sNs S) ∧ J 8 11 = iN (sNp (scU S i v)) ∧ J 8 12 = iN (sNt S) ∧ J 8 13 = iN (sYr (scU S i v)) ∧ J 8 14 = iN (sLw (scU S i v))) : CI z J (scU S i v) := by
  have fx : ∀ k, k < 97 → k ∉ [13, 14, 15, 17, 18, 19, 48, 51, 52, 54, 55, 56, 59, 60, 62, 63, 64, 67, 68, 70, 71, 72, 75, 76, 78, 79, 80, 83, 84, 86, 87, 88] → k ≠ 8 → J k = I k := fun k a b e => h k (c.ns_fix a b) e
  have e0 : ∀ j, j ≠ i → (scU S i v).1 0 j = S.1 0 j := fun j hj => by unfold scU; show up1 (S.1 0) i v j = _; exact up1_o _ hj v
  obtain ⟨h1, h2, h3, h4, h5, h6, h7⟩ := id c
  refine ⟨⟨?_, hr.2.1, ?_, hr.2.2.2.1, hr.2.2.2.2, ?_⟩, ?_, fun p hp => (h3 p hp).cg (fx _ (by omega) (by simp; omega) (by omega)), ⟨fun p hp => (h4.1 p hp).cg (fx _ (by omega) (by simp; omega) (by omega)), ?_⟩, ?_, ⟨fun t ht => ?_, fun t ht h6' => ?_⟩, fun s hs => ?_⟩
  · rw [hr.1]; show _ = iN ((scU S i v).1 0 0); rw [e0 0 (by omega)]
  · rw [hr.2.2.1]; show _ = iN ((scU S i v).1 0 3); rw [e0 3 (by omega)]
  · rw [fx 22 (by omega) (by decide) (by decide), h1.2.2.2.2.2]; show _ = iN ((scU S i v).1 0 5); rw [e0 5 (by omega)]
  · show SrO z J ((scU S i v).1 0 0) _ _ _
    rw [e0 0 (by omega)]
    exact h2.cg (fun q hq => h q (c.ns_sort hz hq) (fun e => by rw [e, hz.t 8 rfl] at hq; omega))
  · rw [fx 26 (by omega) (by decide) (by decide), h4.2.1, h4.2.2.1, h4.2.2.2.1, h4.2.2.2.2.1, h4.2.2.2.2.2]
    show iN _ = iN ((scU S i v).1 0 7) ∧ iN _ = iN ((scU S i v).1 0 8) ∧ iN _ = iN ((scU S i v).1 0 9) ∧ iN _ = iN ((scU S i v).1 0 10) ∧ iN _ = iN ((scU S i v).1 0 6)
    rw [e0 7 (by omega), e0 8 (by omega), e0 9 (by omega), e0 10 (by omega), e0 6 (by omega)]
    exact ⟨rfl, rfl, rfl, rfl, rfl⟩
  · rw [fx 23 (by omega) (by decide) (by decide)]; exact h5
  · have ht' : t < sNt S := by have : t < (scU S i v).1 0 3 := ht; rw [e0 3 (by omega)] at this; exact this
    obtain ⟨t6, a, e, r⟩ := h6.1 t ht'
    have ra := r.2.1
    refine ⟨t6, a, e, r.1, r.2.1, fun p hp => ?_, r.2.2.2.1, fun k hk => ?_⟩
    · rw [h _ (c.ns_tx hz t6 e).2 (by omega)]; exact r.2.2.1 p hp
    · rw [h _ (c.ns_tx hz t6 e).1 (by omega)]; exact r.2.2.2.2 k hk
  · have ht' : sNt S ≤ t := by have : (scU S i v).1 0 3 ≤ t := ht; rw [e0 3 (by omega)] at this; exact this
    exact h6.2 t ht' h6'
  · rw [fx (89 + 2 * s) (by omega) (by simp; omega) (by omega), fx (89 + 2 * s + 1) (by omega) (by simp; omega) (by omega)]; exact h7 s hs
theorem MI.scal (m : MI I S) {i v : Nat} (hi : i < 6) (h : ∀ k, 102 ≤ k → k ≤ 114 → J k = I k) (hr : J 101 0 = iN (sNs (scU S i v)) ∧ J 101 4 = iN (sNp (scU S i v)) ∧ J 101 6 = iN (sYr (scU S i v)) ∧ J 101 8 = iN (sTn (scU S i v)) ∧ J 101 11 = iN (sNt (scU S i v)) ∧ J 101 12 = iN (sLw (scU S i v))) (hr2 : ∀ j, 13 ≤ j → j ≤ 17 → J 101 j = I 101 j) : MI J (scU S i v) := by
  have e0 : ∀ j, j ≠ i → (scU S i v).1 0 j = S.1 0 j := fun j hj => by unfold scU; show up1 (S.1 0) i v j = _; exact up1_o _ hj v
  obtain ⟨m1, m2, m3, m4, m5, m6, m7, m8, m9, m10, m11, m12, m13, m14⟩ := m
  refine ⟨hr, ?_, ?_, ?_, ?_, ?_, ?_, ?_, ?_, ?_, ?_, ?_, ?_, ?_⟩
  · rw [hr2 13 (by omega) (by omega), hr2 14 (by omega) (by omega), hr2 15 (by omega) (by omega), hr2 16 (by omega) (by omega), hr2 17 (by omega) (by omega), m2.1, m2.2.1, m2.2.2.1, m2.2.2.2.1, m2.2.2.2.2]
    show iN _ = iN ((scU S i v).1 0 6) ∧ iN _ = iN ((scU S i v).1 0 7) ∧ iN _ = iN ((scU S i v).1 0 8) ∧ iN _ = iN ((scU S i v).1 0 9) ∧ iN _ = iN ((scU S i v).1 0 10)
    rw [e0 7 (by omega), e0 8 (by omega), e0 9 (by omega), e0 10 (by omega), e0 6 (by omega)]
    exact ⟨rfl, rfl, rfl, rfl, rfl⟩
  · rw [h 102 (by omega) (by omega)]; exact m3
  · rw [h 103 (by omega) (by omega)]; exact m4
  · rw [h 104 (by omega) (by omega)]; exact m5
  · rw [h 105 (by omega) (by omega)]; exact m6
  · rw [h 106 (by omega) (by omega)]; exact m7
  · rw [h 107 (by omega) (by omega)]; exact m8
  · rw [h 108 (by omega) (by omega)]; exact m9
  · rw [h 109 (by omega) (by omega)]; exact m10
  · rw [h 110 (by omega) (by omega)]; exact m11
  · rw [h 111 (by omega) (by omega)]; exact m12
  · rw [h 112 (by omega) (by omega)]; exact m13
  · rw [h 114 (by omega) (by omega)]; exact m14
theorem P_count (hs : GS g) (o : OKS S) (v : Int32) : Pair g S m11_count m12_count [.int v] := by
  by_cases h0 : v = iN 0
  · exact ⟨_, S, o, fun d z I K hz c hK => v11_count hs hz (gT h0 (by rw [c.ns]; exact hK.i c)), fun d z I K hz m hK => v12_count hs hz (gT h0 (by rw [m.ns]; exact hK.i m))⟩
  by_cases h1 : v = iN 1
  · exact ⟨_, S, o, fun d z I K hz c hK => v11_count hs hz (gF h0 (gT h1 (by rw [c.np]; exact hK.i c))), fun d z I K hz m hK => v12_count hs hz (gF h0 (gT h1 (by rw [m.np]; exact hK.i m)))⟩
  by_cases h2 : v = iN 2
  · exact ⟨_, S, o, fun d z I K hz c hK => v11_count hs hz (gF h0 (gF h1 (gT h2 (by rw [c.yr]; exact hK.i c)))), fun d z I K hz m hK => v12_count hs hz (gF h0 (gF h1 (gT h2 (by rw [m.yr]; exact hK.i m))))⟩
  by_cases h3 : v = iN 3
  · exact ⟨_, S, o, fun d z I K hz c hK => v11_count hs hz (gF h0 (gF h1 (gF h2 (gT h3 (by rw [c.nt]; exact hK.i c))))), fun d z I K hz m hK => v12_count hs hz (gF h0 (gF h1 (gF h2 (gT h3 (by rw [m.nt]; exact hK.i m)))))⟩
  by_cases h4 : v = iN 4
  · exact ⟨_, S, o, fun d z I K hz c hK => v11_count hs hz (gF h0 (gF h1 (gF h2 (gF h3 (gT h4 (by rw [c.lw]; exact hK.i c)))))), fun d z I K hz m hK => v12_count hs hz (gF h0 (gF h1 (gF h2 (gF h3 (gT h4 (by rw [m.lw]; exact hK.i m))))))⟩
  by_cases h5 : v = iN 5
  · exact ⟨_, S, o, fun d z I K hz c hK => v11_count hs hz (gF h0 (gF h1 (gF h2 (gF h3 (gF h4 (gT h5 (by rw [c.tn]; exact hK.i c))))))), fun d z I K hz m hK => v12_count hs hz (gF h0 (gF h1 (gF h2 (gF h3 (gF h4 (gT h5 (by rw [m.tn]; exact hK.i m)))))))⟩
  · exact ⟨_, S, o, fun d z I K hz c hK => v11_count hs hz (gF h0 (gF h1 (gF h2 (gF h3 (gF h4 (gF h5 (hK.i c))))))), fun d z I K hz m hK => v12_count hs hz (gF h0 (gF h1 (gF h2 (gF h3 (gF h4 (gF h5 (hK.i m)))))))⟩
theorem P_force (hs : GS g) (o : OKS S) (v : Int32) : Pair g S m11_force m12_force [.int v] := by
  have nt6 := o.1.2.2.2.1.2
  by_cases h0 : inR v (iN 0) (iN (sNt S) - iN 1)
  · obtain ⟨t, ht, rfl⟩ := (inR_dn (by omega)).mp h0
    refine ⟨iN (sLw S), scU S 4 t, ⟨⟨o.1.1, o.1.2.1, o.1.2.2.1, o.1.2.2.2.1, ht, o.1.2.2.2.2.2⟩, o.2⟩, fun d z I K hz c hK => ?_, fun d z I K hz m hK => ?_⟩
    · refine v11_force hs hz (gM c.nt h0 ?_)
      rw [c.lw]
      refine hK _ (c.scal hz (fun k _ h8 => up2_ro I h8 _ _) (by omega) ?_) (fun k a b => up2_ro I (by omega) _ _)
      have h := c.1
      simp only [up2, if_true]
      exact ⟨h.1, h.2.1, h.2.2.1, h.2.2.2.1, rfl⟩
    · refine v12_force hs hz (gM m.nt h0 ?_)
      rw [m.lw]
      refine hK _ (m.scal (by omega) (fun k a b => up2_ro I (by omega) _ _) ?_ (fun j a b => ?_)) (fun k a => up2_ro I (by omega) _ _)
      · have h := m.1
        simp only [up2, if_true]
        exact ⟨h.1, h.2.1, h.2.2.1, h.2.2.2.1, h.2.2.2.2.1, rfl⟩
      · rw [up2_ra, up1_o _ (by omega)]
  · exact ⟨iM 2, S, o, fun d z I K hz c hK => v11_force hs hz (gMn c.nt h0 (hK.i c)), fun d z I K hz m hK => v12_force hs hz (gMn m.nt h0 (hK.i m))⟩
theorem P_asks (hs : GS g) (o : OKS S) (v1 v2 v3 v4 : Int32) : Pair g S m11_asks m12_asks [.int v1, .int v2, .int v3, .int v4] := by
  by_cases h1 : inR v1 (iN 0) (iN 2)
  · by_cases h2 : inR v2 (iN 0) (iN 999)
    · by_cases h3 : inR v3 (iN 0) (iN 99)
      · by_cases h4 : inR v4 (iN 0) (iN 999)
        · obtain ⟨p, rfl, _, hp⟩ := (inR_nat (by omega) (by omega)).mp h1
          obtain ⟨b, rfl, _, hb⟩ := (inR_nat (by omega) (by omega)).mp h2
          obtain ⟨y, rfl, _, hy⟩ := (inR_nat (by omega) (by omega)).mp h3
          obtain ⟨w, rfl, _, hw⟩ := (inR_nat (by omega) (by omega)).mp h4
          refine ⟨iN (sayA S (sLw S) p (nm6 (b / 10) y (b % 10) (sYr S) (w / 100) (w % 100))), S, o, fun d z I K hz c hK => ?_, fun d z I K hz m hK => ?_⟩
          · refine v11_asks hs hz (gT h1 (gT h2 (gT h3 (gT h4 ?_))))
            rw [iN_div (by omega) (by omega), iN_div (by omega) (by omega), iR_N (by omega) (by omega), iR_N (by omega) (by omega)]
            refine c11_nameAll hs hz c (fun J hJ hn => ?_)
            have cJ := c.fr hz hJ
            rw [cJ.lw]
            exact c11_says hs hz cJ o o.1.2.2.2.2.1 (by omega) hn (fun J2 hJ2 => hK.f hz c (hJ.tr hJ2))
          · refine v12_asks hs (gT h1 (gT h2 (gT h3 (gT h4 (v12_asks_47 hs hz (gF (fun q => absurd ((iN_inj (by omega) (by omega)).mp q) (by omega)) ?_))))))
            rw [iN_div (by omega) (by omega), iN_div (by omega) (by omega), iR_N (by omega) (by omega), iR_N (by omega) (by omega)]
            exact c12_asksOf hs hz m o (by omega) (fun J hJ => hK.f m hJ)
        · exact ⟨iM 2, S, o, fun d z I K hz c hK => v11_asks hs hz (gT h1 (gT h2 (gT h3 (gF h4 (hK.i c))))), fun d z I K hz m hK => v12_asks hs (gT h1 (gT h2 (gT h3 (gF h4 (v12_asks_46 hs (v12_asks_47 hs hz (gT rfl (hK.i m))))))))⟩
      · exact ⟨iM 2, S, o, fun d z I K hz c hK => v11_asks hs hz (gT h1 (gT h2 (gF h3 (hK.i c)))), fun d z I K hz m hK => v12_asks hs (gT h1 (gT h2 (gF h3 (v12_asks_46 hs (v12_asks_47 hs hz (gT rfl (hK.i m)))))))⟩
    · exact ⟨iM 2, S, o, fun d z I K hz c hK => v11_asks hs hz (gT h1 (gF h2 (hK.i c))), fun d z I K hz m hK => v12_asks hs (gT h1 (gF h2 (v12_asks_46 hs (v12_asks_47 hs hz (gT rfl (hK.i m))))))⟩
  · exact ⟨iM 2, S, o, fun d z I K hz c hK => v11_asks hs hz (gF h1 (hK.i c)), fun d z I K hz m hK => v12_asks hs (gF h1 (v12_asks_46 hs (v12_asks_47 hs hz (gT rfl (hK.i m)))))⟩
theorem tag_so {q k : Nat} (e : zT z q = kcl k) : tagB [8, 0, 6, 9, 1, 3] (zT z q) = true := by
  rw [e]; unfold kcl; split <;> rfl
theorem P_told (hs : GS g) (o : OKS S) (v1 v2 : Int32) : Pair g S m11_told m12_told [.int v1, .int v2] := by
  have n6 := o.1.1
  by_cases h1 : inR v1 (iN 0) (iN (sNs S) - iN 1)
  · obtain ⟨s, hS, rfl⟩ := (inR_dn (by omega)).mp h1
    by_cases a0 : v2 = iN 0
    · refine ⟨iN (S.1 1 s), S, o, fun d z I K hz c hK => ?_, fun d z I K hz m hK => ?_⟩
      · obtain ⟨⟨q, e, so⟩, hk, -⟩ := c.so.2.1 s hS
        exact v11_told hs hz (gN c.ns n6 (by omega) hS rfl ⟨q, e, gT a0 (c_kind hs so hk (hK.i c))⟩)
      · refine v12_told hs hz (gM m.ns h1 (gT a0 ⟨inB_n (by omega) (by omega), ?_⟩))
        rw [iN_toN (by omega), m.2.2.1 s]; exact hK.i m
    by_cases a1 : v2 = iN 1
    · refine ⟨iN (S.1 2 s), S, o, fun d z I K hz c hK => ?_, fun d z I K hz m hK => ?_⟩
      · obtain ⟨⟨q, e, so⟩, hk, -⟩ := c.so.2.1 s hS
        exact v11_told hs hz (gN c.ns n6 (by omega) hS rfl ⟨q, e, gF a0 (gT a1 ⟨tag_so so.1, by rw [so.2.1]; exact hK.i c⟩)⟩)
      · refine v12_told hs hz (gM m.ns h1 (gF a0 (gT a1 ⟨inB_n (by omega) (by omega), ?_⟩)))
        rw [iN_toN (by omega), m.2.2.2.1 s]; exact hK.i m
    by_cases a2 : v2 = iN 2
    · refine ⟨iN (S.1 3 s), S, o, fun d z I K hz c hK => ?_, fun d z I K hz m hK => ?_⟩
      · obtain ⟨⟨q, e, so⟩, hk, -⟩ := c.so.2.1 s hS
        exact v11_told hs hz (gN c.ns n6 (by omega) hS rfl ⟨q, e, gF a0 (gF a1 (gT a2 ⟨tag_so so.1, by rw [so.2.2]; exact hK.i c⟩))⟩)
      · refine v12_told hs hz (gM m.ns h1 (gF a0 (gF a1 (gT a2 ⟨inB_n (by omega) (by omega), ?_⟩))))
        rw [iN_toN (by omega), m.2.2.2.2.1 s]; exact hK.i m
    · refine ⟨iM 7, S, o, fun d z I K hz c hK => ?_, fun d z I K hz m hK => v12_told hs hz (gM m.ns h1 (gF a0 (gF a1 (gF a2 (hK.i m)))))⟩
      obtain ⟨⟨q, e, so⟩, hk, -⟩ := c.so.2.1 s hS
      exact v11_told hs hz (gN c.ns n6 (by omega) hS rfl ⟨q, e, gF a0 (gF a1 (gF a2 (hK.i c)))⟩)
  · exact ⟨iM 5, S, o, fun d z I K hz c hK => v11_told hs hz (gNn c.ns n6 h1 (hK.i c)), fun d z I K hz m hK => v12_told hs hz (gMn m.ns h1 (hK.i m))⟩
/-- the row of one purse is another -/
def rowU (S : AS) (p : Nat) (h : Nat → Nat) : Nat → Nat := fun i => if i / 6 = p then h (i % 6) else S.1 4 i
theorem rowU_at {p q s : Nat} {h : Nat → Nat} (hs : s < 6) : rowU S p h (6 * q + s) = if q = p then h s else S.1 4 (6 * q + s) := by
  unfold rowU
  rw [show (6 * q + s) / 6 = q by omega, show (6 * q + s) % 6 = s by omega]
theorem rowU_le {p : Nat} {h : Nat → Nat} (o : OKS S) (hb : Bd 99 h) : ∀ i, rowU S p h i ≤ 99 := fun i => by
  unfold rowU; split
  · exact hb _ (Nat.mod_lt _ (by omega))
  · exact o.2.2.1.1 i
theorem OKS.uRow {p : Nat} {h : Nat → Nat} (o : OKS S) (hb : Bd 99 h) (h0 : ∀ s, s < 6 → sNs S ≤ s → h s = 0) : OKS (hasU S (rowU S p h)) := o.uHas (rowU_le o hb) (fun q s hq hs6 hn => by
  rw [rowU_at hs6]; split
  · exact h0 s hs6 hn
  · exact o.2.2.1.2 q s hq hs6 hn)
theorem CI.uRow {p : Nat} {h : Nat → Nat} (c : CI z I S) (hz : Sh z) (hp : p < 5) (e : ∀ k, ¬ Scr z k → k ≠ 49 + 8 * p + 1 → J k = I k) (hr : Rw J (49 + 8 * p + 1) h) : CI z J (hasU S (rowU S p h)) := by
  refine c.uHas hz (fun k hk hl => e k hk (fun q => hl (by simp; omega))) (fun q hq => ?_)
  by_cases w : q = p
  · subst w
    exact hr.fn (fun s hs6 => by rw [rowU_at hs6, if_pos rfl])
  · have := (c.pu hq).cg (J := J) (e := 49 + 8 * q + 1) (e _ (c.ns_fix (by omega) (by simp; omega)) (by omega))
    exact this.fn (fun s hs6 => by rw [rowU_at hs6, if_neg w])
theorem MI.uRow {p : Nat} {h : Nat → Nat} (m : MI I S) (e : ∀ k, 101 ≤ k → k ≤ 114 → k ≠ 105 → J k = I k) (h1 : ∀ s, s < 6 → J 105 (6 * p + s) = iN (h s)) (h2 : ∀ i, i / 6 ≠ p → J 105 i = I 105 i) : MI J (hasU S (rowU S p h)) := m.uHas e (fun i => by
  by_cases q : i / 6 = p
  · have e1 : (if i / 6 = p then h (i % 6) else S.1 4 i) = h (i % 6) := if_pos q
    show J 105 i = iN (if i / 6 = p then h (i % 6) else S.1 4 i)
    rw [e1, ← h1 _ (Nat.mod_lt _ (by omega))]; congr 1; omega
  · have e1 : (if i / 6 = p then h (i % 6) else S.1 4 i) = S.1 4 i := if_neg q
    show J 105 i = iN (if i / 6 = p then h (i % 6) else S.1 4 i)
    rw [e1, h2 i q, m.has])
theorem up1_rw {h : Nat → Nat} {s n b : Nat} (hb : Bd b h) (hn : n ≤ b) : Bd b (up1 h s n) := hb.dec hn
theorem scr_lr {p : Nat} (hp : p < 5) : Scr z (49 + 8 * p + 2) ∧ Scr z (49 + 8 * p + 3) := by
  obtain rfl | rfl | rfl | rfl | rfl : p = 0 ∨ p = 1 ∨ p = 2 ∨ p = 3 ∨ p = 4 := by omega
  all_goals exact ⟨scr_l (by decide), scr_l (by decide)⟩
theorem P_set (hs : GS g) (o : OKS S) (v1 v2 v3 : Int32) : Pair g S m11_set m12_set [.int v1, .int v2, .int v3] := by
  have n6 := o.1.1
  have p5 := o.1.2.1
  by_cases h1 : inR v1 (iN 0) (iN (sNp S) - iN 1)
  · obtain ⟨p, hp, rfl⟩ := (inR_dn (by omega)).mp h1
    by_cases h2 : inR v2 (iN 0) (iN (sNs S) - iN 1)
    · obtain ⟨s, hS, rfl⟩ := (inR_dn (by omega)).mp h2
      by_cases h3 : inR v3 (iN 0) (iN 99)
      · obtain ⟨n, rfl, _, hn⟩ := (inR_nat (by omega) (by omega)).mp h3
        have hb := o.b p
        refine ⟨iN (sHas S p s), hasU S (rowU S p (up1 (sHas S p) s n)), o.uRow (hb.dec hn) (fun i hi hi2 => by rw [up1_o (i := s) (j := i) _ (by omega)]; exact o.2.2.1.2 p i (by omega) hi hi2), fun d z I K hz c hK => ?_, fun d z I K hz m hK => ?_⟩
        · obtain ⟨⟨q, e, so⟩, hk, -⟩ := c.so.2.1 s hS
          refine v11_set hs hz (gN c.np p5 (by omega) hp rfl (gN c.ns n6 (by omega) hS rfl ⟨q, e, gT h3 ?_⟩))
          refine c_many hs (hz.purse (by omega)) (by omega) (c_pput hs (hz.purse (by omega)) (by omega) ?_)
          rw [c.pu (p := p) (by omega) s (by omega)]
          refine hK _ (c.uRow hz (by omega) (fun k _ hk => up2_ro I hk _ _) ((c.pu (p := p) (by omega)).up _)) (fun k a b => up2_ro I (by omega) _ _)
        · refine v12_set hs hz (gM m.np h1 (gM m.ns h2 (gT h3 ?_)))
          rw [iN_mul, iN_add, iN_toN (by omega), m.has]
          refine ⟨inB_n (by omega) (by omega), hK _ (m.uRow (fun k a b e => up2_ro I e _ _) (fun i hi => ?_) (fun i hi => ?_)) (fun k a => up2_ro I (by omega) _ _)⟩
          · rw [up2_ra]; unfold up1
            by_cases w : i = s
            · rw [if_pos (by omega), if_pos w]
            · rw [if_neg (by omega), if_neg w, m.has]
          · rw [up2_ra, up1_o _ (by omega)]
      · refine ⟨iM 7, S, o, fun d z I K hz c hK => ?_, fun d z I K hz m hK => v12_set hs hz (gM m.np h1 (gM m.ns h2 (gF h3 (hK.i m))))⟩
        obtain ⟨⟨q, e, so⟩, hk, -⟩ := c.so.2.1 s hS
        exact v11_set hs hz (gN c.np p5 (by omega) hp rfl (gN c.ns n6 (by omega) hS rfl ⟨q, e, gF h3 (hK.i c)⟩))
    · exact ⟨iM 5, S, o, fun d z I K hz c hK => v11_set hs hz (gN c.np p5 (by omega) hp rfl (gNn c.ns n6 h2 (hK.i c))), fun d z I K hz m hK => v12_set hs hz (gM m.np h1 (gMn m.ns h2 (hK.i m)))⟩
  · exact ⟨iM 5, S, o, fun d z I K hz c hK => v11_set hs hz (gNn c.np p5 h1 (hK.i c)), fun d z I K hz m hK => v12_set hs hz (gMn m.np h1 (hK.i m))⟩
theorem P_of (hs : GS g) (o : OKS S) (v1 v2 : Int32) : Pair g S m11_of m12_of [.int v1, .int v2] := by
  have n6 := o.1.1
  have p5 := o.1.2.1
  by_cases h1 : inR v1 (iN 0) (iN (sNp S) - iN 1)
  · obtain ⟨p, hp, rfl⟩ := (inR_dn (by omega)).mp h1
    by_cases h2 : inR v2 (iN 0) (iN (sNs S) - iN 1)
    · obtain ⟨s, hS, rfl⟩ := (inR_dn (by omega)).mp h2
      refine ⟨iN (sHas S p s), S, o, fun d z I K hz c hK => ?_, fun d z I K hz m hK => ?_⟩
      · obtain ⟨⟨q, e, so⟩, hk, -⟩ := c.so.2.1 s hS
        refine v11_of hs hz (gN c.np p5 (by omega) hp rfl (gN c.ns n6 (by omega) hS rfl ⟨q, e, ?_⟩))
        refine c_many hs (hz.purse (by omega)) (by omega) ?_
        rw [c.pu (p := p) (by omega) s (by omega)]
        exact hK.i c
      · refine v12_of hs hz (gM m.np h1 (gM m.ns h2 ?_))
        rw [iN_mul, iN_add, iN_toN (by omega), m.has]
        exact ⟨inB_n (by omega) (by omega), hK.i m⟩
    · exact ⟨iM 5, S, o, fun d z I K hz c hK => v11_of hs hz (gN c.np p5 (by omega) hp rfl (gNn c.ns n6 h2 (hK.i c))), fun d z I K hz m hK => v12_of hs hz (gM m.np h1 (gMn m.ns h2 (hK.i m)))⟩
  · exact ⟨iM 5, S, o, fun d z I K hz c hK => v11_of hs hz (gNn c.np p5 h1 (hK.i c)), fun d z I K hz m hK => v12_of hs hz (gMn m.np h1 (hK.i m))⟩
end PA
