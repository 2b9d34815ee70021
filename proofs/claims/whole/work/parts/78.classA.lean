/-! the class' constructor -/
section WZ
variable {g : Gt} {d : Nat} {z : Zs} {I : Is}
theorem WPc.room {y : Mth} {rc rs rc' rs' pc : Nat} {lv : List (Nat × Value)} {st : List Value} {Q : Option Value → Zs → Is → Prop} (h : WPc g y d rc rs pc lv st z I Q) (h1 : rc ≤ rc') (h2 : rs ≤ rs') : WPc g y d rc' rs' pc lv st z I Q :=
  fun p l e R s m args below meth c H locs cells slots ls C a1 a2 a3 a4 => h p l e R s m args below meth c H locs cells slots ls C a1 a2 (by omega) (by omega)
theorem WPc.sz {y : Mth} {rc rs pc : Nat} {lv : List (Nat × Value)} {st : List Value} {Q : Option Value → Zs → Is → Prop} (h : SpO g z I → ZtO z → WPc g y d rc rs pc lv st z I Q) : WPc g y d rc rs pc lv st z I Q :=
  fun p l e R s m args below meth c H locs cells slots ls C h1 h2 h3 h4 hX hW => h hW.2.2.2.2.2 (fun k hk => hW.2.1 k (Or.inr hk)) p l e R s m args below meth c H locs cells slots ls C h1 h2 h3 h4 hX hW
end WZ
def pqL : List (Nat × Nat × Nat) := [(8, 0, 9), (8, 1, 10), (8, 2, 11), (12, 0, 13), (12, 1, 14), (12, 2, 15), (8, 3, 12), (16, 0, 17), (16, 1, 18), (16, 2, 19), (8, 4, 16), (8, 5, 20), (8, 6, 21), (22, 0, 23), (22, 1, 24), (22, 2, 25), (8, 7, 22), (26, 0, 27), (28, 0, 29), (28, 1, 30), (28, 2, 31), (27, 0, 28), (32, 0, 33), (32, 1, 34), (32, 2, 35), (27, 1, 32), (36, 0, 37), (36, 1, 38), (36, 2, 39), (27, 2, 36), (40, 0, 41), (40, 1, 42), (40, 2, 43), (27, 3, 40), (44, 0, 45), (44, 1, 46), (44, 2, 47), (27, 4, 44), (8, 8, 26), (8, 9, 48), (49, 0, 50), (49, 1, 51), (49, 2, 52), (10, 0, 49), (53, 0, 54), (53, 1, 55), (53, 2, 56), (11, 0, 53), (57, 0, 58), (57, 1, 59), (57, 2, 60), (10, 1, 57), (61, 0, 62), (61, 1, 63), (61, 2, 64), (11, 1, 61), (65, 0, 66), (65, 1, 67), (65, 2, 68), (10, 2, 65), (69, 0, 70), (69, 1, 71), (69, 2, 72), (11, 2, 69), (73, 0, 74), (73, 1, 75), (73, 2, 76), (10, 3, 73), (77, 0, 78), (77, 1, 79), (77, 2, 80), (11, 3, 77), (81, 0, 82), (81, 1, 83), (81, 2, 84), (10, 4, 81), (85, 0, 86), (85, 1, 87), (85, 2, 88), (11, 4, 85), (89, 0, 90), (21, 0, 89), (91, 0, 92), (21, 1, 91), (93, 0, 94), (21, 2, 93), (95, 0, 96), (21, 3, 95)]
def PQ (p : Nat) : Nat × Nat × Nat := pqL.getD p (0, 0, 0)
/-- the references put so far -/
def plk : Nat → Nat → Nat → Option Nat
  | 0, _, _ => none
  | p + 1, k, i => bif Nat.beq k (PQ p).1 && Nat.beq i (PQ p).2.1 then some (PQ p).2.2 else plk p k i
def nqB : Nat → Nat → Bool
  | 0, _ => true
  | p + 1, m => !(Nat.beq m (PQ p).1) && nqB p m
theorem plk_n (m i : Nat) : ∀ p, nqB p m = true → plk p m i = none
  | 0, _ => rfl
  | p + 1, h => by
    unfold nqB at h
    rw [Bool.and_eq_true, Bool.not_eq_true'] at h
    unfold plk
    rw [h.1]
    exact plk_n m i p h.2
def nwB (n p c l : Nat) : Bool := (match stg (8 + n) with | some t => Nat.beq t c | none => true) && (match sln (8 + n) with | some t => Nat.beq t l | none => true) && nqB p (8 + n)
def trB (p a i q : Nat) : Bool := Nat.beq (PQ p).1 a && (Nat.beq (PQ p).2.1 i && Nat.beq (PQ p).2.2 q)
theorem trB_e {p a i q : Nat} (h : trB p a i q = true) : PQ p = (a, i, q) := by
  unfold trB at h
  rw [Bool.and_eq_true, Bool.and_eq_true] at h
  rw [← Nat.eq_of_beq_eq_true h.1, ← Nat.eq_of_beq_eq_true h.2.1, ← Nat.eq_of_beq_eq_true h.2.2]
/-- n cells are made, p references are put -/
def ZQ (n p : Nat) (z : Zs) : Prop := zN z = 8 + n ∧ (∀ k t, k < 8 + n → stg k = some t → zT z k = t) ∧ (∀ k l, k < 8 + n → sln k = some l → zL z k = l) ∧ ∀ k i, 8 ≤ k → zP z k i = plk p k i
def shB (k : Nat) : Bool := Nat.beq k 89 || (Nat.beq k 91 || (Nat.beq k 93 || Nat.beq k 95))
def cC (k : Nat) : Nat → Int32 := bif shB k then (fun i => if i = 1 then iM 1 else 0) else fun _ => 0
def IQ (n : Nat) (I : Is) : Prop := ∀ k, 8 ≤ k → k < 8 + n → I k = cC k
section QQ
variable {g : Gt}
theorem ZQ.nw {n p c l : Nat} {z : Zs} (hz : ZQ n p z) (h : nwB n p c l = true) : ZQ (n + 1) p (zNew z c l) := by
  obtain ⟨h1, h2, h3, h4⟩ := hz
  unfold nwB at h
  rw [Bool.and_eq_true, Bool.and_eq_true] at h
  obtain ⟨⟨a, b⟩, e⟩ := h
  refine ⟨by have := zN_n z c l; omega, fun k t hk q => ?_, fun k t hk q => ?_, fun k i hk => ?_⟩
  · by_cases w : k = zN z
    · rw [w, zT_s]; rw [w, h1] at q; rw [q] at a; exact (Nat.eq_of_beq_eq_true a).symm
    · rw [zT_o w]; exact h2 k t (by omega) q
  · by_cases w : k = zN z
    · rw [w, zL_s]; rw [w, h1] at q; rw [q] at b; exact (Nat.eq_of_beq_eq_true b).symm
    · rw [zL_o w]; exact h3 k t (by omega) q
  · by_cases w : k = zN z
    · rw [w, h1, plk_n _ _ _ e]
      show (if 8 + n = zN z then none else _) = none
      rw [if_pos h1.symm]
    · rw [zP_o w]; exact h4 k i hk
theorem ZQ.put {n p a i q : Nat} {z : Zs} (hz : ZQ n p z) (h : PQ p = (a, i, q)) : ZQ n (p + 1) (zPut z a i (some q)) := by
  obtain ⟨h1, h2, h3, h4⟩ := hz
  refine ⟨h1, h2, h3, fun k j hk => ?_⟩
  show _ = bif Nat.beq k (PQ p).1 && Nat.beq j (PQ p).2.1 then some (PQ p).2.2 else plk p k j
  rw [h]
  show _ = bif Nat.beq k a && Nat.beq j i then some q else plk p k j
  by_cases w : k = a
  · by_cases w2 : j = i
    · rw [w, w2, zPut_s, Nat.beq_refl, Nat.beq_refl]; rfl
    · have : Nat.beq j i = false := Bool.eq_false_iff.mpr (fun c => w2 (Nat.eq_of_beq_eq_true c))
      rw [w, zPut_i w2, this, Bool.and_false, ← w]; exact h4 k j hk
  · have : Nat.beq k a = false := Bool.eq_false_iff.mpr (fun c => w (Nat.eq_of_beq_eq_true c))
    rw [zPut_o w, this, Bool.false_and]; exact h4 k j hk
theorem ZQ.t {n p : Nat} {z : Zs} (hz : ZQ n p z) (k : Nat) {t : Nat} (hk : k < 8 + n) (e : stg k = some t) : zT z k = t := hz.2.1 k t hk e
theorem ZQ.l {n p : Nat} {z : Zs} (hz : ZQ n p z) (k : Nat) {t : Nat} (hk : k < 8 + n) (e : sln k = some t) : zL z k = t := hz.2.2.1 k t hk e
theorem ZQ.p {n p : Nat} {z : Zs} (hz : ZQ n p z) (k i : Nat) (hk : 8 ≤ k) {q : Option Nat} (e : plk p k i = q) : zP z k i = q := by rw [hz.2.2.2 k i hk]; exact e
theorem IQ.nw {n m : Nat} {I : Is} (h : IQ n I) (hm : m = 8 + n) (f : shB (8 + n) = false) : IQ (n + 1) (nI0 I m) := by
  intro k h8 hk
  by_cases w : k = m
  · funext i
    show (if k = m then 0 else I k i) = _
    rw [if_pos w]
    unfold cC
    rw [w, hm, f]
    rfl
  · rw [nI0_o _ w]; exact h k h8 (by omega)
def m4B (n p c l1 l2 l3 : Nat) : Bool := (match stg (8 + n) with | some t => Nat.beq t c | none => false) && (nwB n p c 0 && (nwB (n + 1) p 100 l1 && (trB p (8 + n) 0 (8 + (n + 1)) && (nwB (n + 2) (p + 1) 100 l2 && (trB (p + 1) (8 + n) 1 (8 + (n + 2)) && (nwB (n + 3) (p + 2) 100 l3 && (trB (p + 2) (8 + n) 2 (8 + (n + 3)) && (!shB (8 + n) && (!shB (8 + (n + 1)) && (!shB (8 + (n + 2)) && !shB (8 + (n + 3))))))))))))
theorem stg_m {k c : Nat} (h : (match stg k with | some t => Nat.beq t c | none => false) = true) : stg k = some c := by
  cases q : stg k with
  | none => rw [q] at h; cases h
  | some t => rw [q] at h; rw [Nat.eq_of_beq_eq_true h]
theorem c_m4 {n p d : Nat} {z : Zs} {I : Is} {K : Zs → Is → Prop} (hs : GS g) (hz : ZQ n p z) (hI : IQ n I) (h : m4B n p 4 6 6 6 = true) (hK : ∀ z' I', ZQ (n + 4) (p + 3) z' → IQ (n + 4) I' → K z' I') : WPv g m4_init (d + 1) 3 18 [.ref (zN z)] (zNew z 4 0) (nI0 I (zN z)) K := by
  unfold m4B at h
  simp only [Bool.and_eq_true, Bool.not_eq_true'] at h
  obtain ⟨h0, h1, h2, h3, h4, h5, h6, h7, f0, f1, f2, f3⟩ := h
  have e := hz.1
  have h0 := stg_m h0
  have w1 := hz.nw h1
  have w2 := w1.nw h2
  have w3 := w2.put (a := zN z) (i := 0) (q := zN (zNew z 4 0)) (by rw [w1.1, e]; exact trB_e h3)
  have w4 := w3.nw h4
  have w5 := w4.put (a := zN z) (i := 1) (q := zN (zPut (zNew (zNew z 4 0) 100 6) (zN z) 0 (some (zN (zNew z 4 0))))) (by rw [w3.1, e]; exact trB_e h5)
  have w6 := w5.nw h6
  have w7 := w6.put (a := zN z) (i := 2) (q := zN (zPut (zNew (zPut (zNew (zNew z 4 0) 100 6) (zN z) 0 (some (zN (zNew z 4 0)))) 100 6) (zN z) 1 (some (zN (zPut (zNew (zNew z 4 0) 100 6) (zN z) 0 (some (zN (zNew z 4 0)))))))) (by rw [w5.1, e]; exact trB_e h7)
  exact v4_init hs ⟨by rw [w2.t (zN z) (by omega) (by rw [e]; exact h0)]; rfl, by rw [w4.t (zN z) (by omega) (by rw [e]; exact h0)]; rfl, by rw [w6.t (zN z) (by omega) (by rw [e]; exact h0)]; rfl, hK _ _ w7 ((((hI.nw e f0).nw w1.1 f1).nw w3.1 f2).nw w5.1 f3)⟩
theorem c_m5 {n p d : Nat} {z : Zs} {I : Is} {K : Zs → Is → Prop} (hs : GS g) (hz : ZQ n p z) (hI : IQ n I) (h : m4B n p 5 160 160 3 = true) (hK : ∀ z' I', ZQ (n + 4) (p + 3) z' → IQ (n + 4) I' → K z' I') : WPv g m5_init (d + 1) 3 323 [.ref (zN z)] (zNew z 5 0) (nI0 I (zN z)) K := by
  unfold m4B at h
  simp only [Bool.and_eq_true, Bool.not_eq_true'] at h
  obtain ⟨h0, h1, h2, h3, h4, h5, h6, h7, f0, f1, f2, f3⟩ := h
  have e := hz.1
  have h0 := stg_m h0
  have w1 := hz.nw h1
  have w2 := w1.nw h2
  have w3 := w2.put (a := zN z) (i := 0) (q := zN (zNew z 5 0)) (by rw [w1.1, e]; exact trB_e h3)
  have w4 := w3.nw h4
  have w5 := w4.put (a := zN z) (i := 1) (q := zN (zPut (zNew (zNew z 5 0) 100 160) (zN z) 0 (some (zN (zNew z 5 0))))) (by rw [w3.1, e]; exact trB_e h5)
  have w6 := w5.nw h6
  have w7 := w6.put (a := zN z) (i := 2) (q := zN (zPut (zNew (zPut (zNew (zNew z 5 0) 100 160) (zN z) 0 (some (zN (zNew z 5 0)))) 100 160) (zN z) 1 (some (zN (zPut (zNew (zNew z 5 0) 100 160) (zN z) 0 (some (zN (zNew z 5 0)))))))) (by rw [w5.1, e]; exact trB_e h7)
  exact v5_init hs ⟨by rw [w2.t (zN z) (by omega) (by rw [e]; exact h0)]; rfl, by rw [w4.t (zN z) (by omega) (by rw [e]; exact h0)]; rfl, by rw [w6.t (zN z) (by omega) (by rw [e]; exact h0)]; rfl, hK _ _ w7 ((((hI.nw e f0).nw w1.1 f1).nw w3.1 f2).nw w5.1 f3)⟩
def m7B (n p : Nat) : Bool := (match stg (8 + n) with | some t => Nat.beq t 7 | none => false) && (nwB n p 7 0 && (nwB (n + 1) p 100 40 && (trB p (8 + n) 0 (8 + (n + 1)) && (shB (8 + n) && !shB (8 + (n + 1))))))
theorem c_m7 {n p d : Nat} {z : Zs} {I : Is} {K : Zs → Is → Prop} (hs : GS g) (hz : ZQ n p z) (hI : IQ n I) (h : m7B n p = true) (hK : ∀ z' I', ZQ (n + 2) (p + 1) z' → IQ (n + 2) I' → K z' I') : WPv g m7_init (d + 1) 1 40 [.ref (zN z)] (zNew z 7 0) (nI0 I (zN z)) K := by
  unfold m7B at h
  simp only [Bool.and_eq_true, Bool.not_eq_true'] at h
  obtain ⟨h0, h1, h2, h3, f0, f1⟩ := h
  have e := hz.1
  have h0 := stg_m h0
  have w1 := hz.nw h1
  have w2 := w1.nw h2
  have w3 := w2.put (a := zN z) (i := 0) (q := zN (zNew z 7 0)) (by rw [w1.1, e]; exact trB_e h3)
  have e1 := w1.1
  refine v7_init hs ⟨by rw [w2.t (zN z) (by omega) (by rw [e]; exact h0)]; rfl, by rw [zPut_T, w2.t (zN z) (by omega) (by rw [e]; exact h0)]; rfl, hK _ _ w3 (fun k h8 hk => ?_)⟩
  by_cases a : k = zN z
  · funext i
    rw [a, up2_ra, nI0_o _ (by omega)]
    unfold cC
    rw [e, f0]
    show up1 (nI0 I (8 + n) (8 + n)) 1 (iM 1) i = if i = 1 then iM 1 else 0
    unfold up1
    split
    · rfl
    · show (if 8 + n = 8 + n then 0 else _) = _
      rw [if_pos rfl]
  · rw [up2_ro _ a]
    by_cases b : k = zN (zNew z 7 0)
    · funext i
      show (if k = zN (zNew z 7 0) then 0 else _) = _
      rw [if_pos b]
      unfold cC
      rw [b, e1, f1]
      rfl
    · rw [nI0_o _ b, nI0_o _ a]; exact hI k h8 (by omega)
theorem k2_5 {d : Nat} {z : Zs} {I : Is} {K : Zs → Is → Prop} (hs : GS g) (hK : K z I) : WPc g m2_init (d + 60) 0 0 14 [(0, .ref 26), (1, .int (iN 5))] [] z I (Zv K) := by
  have h : ((iN 5) ≤ (iN 5) → K z I) ∧ (¬ (iN 5) ≤ (iN 5) → False) := ⟨fun _ => hK, fun q => absurd ((iN_le (by omega) (by omega)).mpr (by omega)) q⟩
  exact wm2_init hs 3 (iteB_i (fun c => have h := h.1 c; show WPc g m2_init (d + 60) 0 0 38 [(0, .ref 26), (1, .int (iN 5))] [] z I (Zv K) from wm2_init hs 1 (ckB_i rfl ⟨rfl, h⟩)) (fun c => show WPc g m2_init (d + 60) 0 0 19 [(0, .ref 26), (1, .int (iN 5))] [] z I (Zv K) from (h.2 c).elim))
theorem k11_0 {d : Nat} {z : Zs} {I : Is} {K : Zs → Is → Prop} (hs : GS g) (hz : ZQ 1 0 z) (hI : IQ 1 I) (hK : ∀ z I, ZQ 2 1 z → IQ 2 I → WPc g m11_init (d + 61) 91 1255 13 [(0, .ref 8)] [] z I (Zv K)) : WPv g m11_init (d + 61) 92 1261 [.ref 8] z I K := by
  have w := hz.nw (c := 101) (l := 6) (by decide)
  exact v11_init hs ⟨by rw [w.t 8 (by decide) rfl]; rfl, hK _ _ (w.put (by rw [hz.1]; rfl)) (hI.nw hz.1 (by decide))⟩
theorem k11_13 {d : Nat} {z : Zs} {I : Is} {K : Zs → Is → Prop} (hs : GS g) (hz : ZQ 2 1 z) (hI : IQ 2 I) (hK : ∀ z I, ZQ 3 2 z → IQ 3 I → WPc g m11_init (d + 61) 90 1250 21 [(0, .ref 8)] [] z I (Zv K)) : WPc g m11_init (d + 61) 91 1255 13 [(0, .ref 8)] [] z I (Zv K) := by
  have w := hz.nw (c := 102) (l := 5) (by decide)
  exact v11_init_13 hs ⟨by rw [w.t 8 (by decide) rfl]; rfl, hK _ _ (w.put (by rw [hz.1]; rfl)) (hI.nw hz.1 (by decide))⟩
theorem k11_21 {d : Nat} {z : Zs} {I : Is} {K : Zs → Is → Prop} (hs : GS g) (hz : ZQ 3 2 z) (hI : IQ 3 I) (hK : ∀ z I, ZQ 4 3 z → IQ 4 I → WPc g m11_init (d + 61) 89 1245 29 [(0, .ref 8)] [] z I (Zv K)) : WPc g m11_init (d + 61) 90 1250 21 [(0, .ref 8)] [] z I (Zv K) := by
  have w := hz.nw (c := 102) (l := 5) (by decide)
  exact v11_init_21 hs ⟨by rw [w.t 8 (by decide) rfl]; rfl, hK _ _ (w.put (by rw [hz.1]; rfl)) (hI.nw hz.1 (by decide))⟩
theorem k11_29 {d : Nat} {z : Zs} {I : Is} {K : Zs → Is → Prop} (hs : GS g) (hz : ZQ 4 3 z) (hI : IQ 4 I) (hK : ∀ z I, ZQ 8 7 z → IQ 8 I → WPc g m11_init (d + 61) 85 1224 40 [(0, .ref 8)] [] z I (Zv K)) : WPc g m11_init (d + 61) 89 1245 29 [(0, .ref 8)] [] z I (Zv K) := by
  refine v11_init_29 hs (c_m4 hs hz hI (by decide) (fun z1 J w wI => ⟨by rw [w.t 8 (by decide) rfl]; rfl, hK _ _ (w.put (by rw [hz.1]; rfl)) wI⟩))
theorem k11_40 {d : Nat} {z : Zs} {I : Is} {K : Zs → Is → Prop} (hs : GS g) (hz : ZQ 8 7 z) (hI : IQ 8 I) (hK : ∀ z I, ZQ 12 11 z → IQ 12 I → WPc g m11_init (d + 61) 81 1203 51 [(0, .ref 8)] [] z I (Zv K)) : WPc g m11_init (d + 61) 85 1224 40 [(0, .ref 8)] [] z I (Zv K) := by
  refine v11_init_40 hs (c_m4 hs hz hI (by decide) (fun z1 J w wI => ⟨by rw [w.t 8 (by decide) rfl]; rfl, hK _ _ (w.put (by rw [hz.1]; rfl)) wI⟩))
theorem k11_51 {d : Nat} {z : Zs} {I : Is} {K : Zs → Is → Prop} (hs : GS g) (hz : ZQ 12 11 z) (hI : IQ 12 I) (hK : ∀ z I, ZQ 13 12 z → IQ 13 I → WPc g m11_init (d + 61) 80 1197 60 [(0, .ref 8)] [] z I (Zv K)) : WPc g m11_init (d + 61) 81 1203 51 [(0, .ref 8)] [] z I (Zv K) := by
  have w := hz.nw (c := 103) (l := 6) (by decide)
  exact v11_init_51 hs ⟨by rw [w.t 8 (by decide) rfl]; rfl, hK _ _ (w.put (by rw [hz.1]; rfl)) (hI.nw hz.1 (by decide))⟩
theorem k11_60 {d : Nat} {z : Zs} {I : Is} {K : Zs → Is → Prop} (hs : GS g) (hz : ZQ 13 12 z) (hI : IQ 13 I) (hK : ∀ z I, ZQ 14 13 z → IQ 14 I → WPc g m11_init (d + 61) 79 1193 68 [(0, .ref 8)] [] z I (Zv K)) : WPc g m11_init (d + 61) 80 1197 60 [(0, .ref 8)] [] z I (Zv K) := by
  have w := hz.nw (c := 104) (l := 4) (by decide)
  exact v11_init_60 hs ⟨by rw [w.t 8 (by decide) rfl]; rfl, hK _ _ (w.put (by rw [hz.1]; rfl)) (hI.nw hz.1 (by decide))⟩
theorem k11_68 {d : Nat} {z : Zs} {I : Is} {K : Zs → Is → Prop} (hs : GS g) (hz : ZQ 14 13 z) (hI : IQ 14 I) (hK : ∀ z I, ZQ 18 17 z → IQ 18 I → WPc g m11_init (d + 61) 75 860 79 [(0, .ref 8)] [] z I (Zv K)) : WPc g m11_init (d + 61) 79 1193 68 [(0, .ref 8)] [] z I (Zv K) := by
  refine v11_init_68 hs (c_m5 hs hz hI (by decide) (fun z1 J w wI => ⟨by rw [w.t 8 (by decide) rfl]; rfl, hK _ _ (w.put (by rw [hz.1]; rfl)) wI⟩))
theorem k2_0 {d : Nat} {z : Zs} {I : Is} {K : Zs → Is → Prop} (hs : GS g) (hz : ZQ 20 18 z) (hI : IQ 20 I) (hK : ∀ z I, ZQ 24 22 z → IQ 24 I → WPc g m2_init (d + 60) 16 84 14 [(0, .ref 26), (1, .int (iN 1))] [] z I (Zv K)) : WPc g m2_init (d + 60) 20 105 14 [(0, .ref 26), (1, .int (iN 0))] [] z I (Zv K) := by
  have e := hz.1
  refine v2_init_14 (rc := 16) (rs := 84) hs ⟨fun q => absurd ((iN_le (by omega) (by omega)).mp q) (by omega), fun _ => ⟨by rw [hz.t 26 (by decide) rfl]; rfl, oe_s (hz.p 26 0 (by decide) (q := some 27) (by decide)) (c_m4 hs hz hI (by decide) (fun z1 J w wI => ⟨by rw [w.t 27 (by decide) rfl]; rfl, by rw [w.t 27 (by decide) rfl, e, w.t 28 (by decide) rfl]; rfl, by rw [w.l 27 (by decide) rfl]; decide, ?_⟩))⟩⟩
  refine v2_init_32 hs ?_
  rw [iN_toN (by omega), iN_add]
  exact hK _ _ (w.put (by rw [e]; rfl)) wI
theorem k2_1 {d : Nat} {z : Zs} {I : Is} {K : Zs → Is → Prop} (hs : GS g) (hz : ZQ 24 22 z) (hI : IQ 24 I) (hK : ∀ z I, ZQ 28 26 z → IQ 28 I → WPc g m2_init (d + 60) 12 63 14 [(0, .ref 26), (1, .int (iN 2))] [] z I (Zv K)) : WPc g m2_init (d + 60) 16 84 14 [(0, .ref 26), (1, .int (iN 1))] [] z I (Zv K) := by
  have e := hz.1
  refine v2_init_14 (rc := 12) (rs := 63) hs ⟨fun q => absurd ((iN_le (by omega) (by omega)).mp q) (by omega), fun _ => ⟨by rw [hz.t 26 (by decide) rfl]; rfl, oe_s (hz.p 26 0 (by decide) (q := some 27) (by decide)) (c_m4 hs hz hI (by decide) (fun z1 J w wI => ⟨by rw [w.t 27 (by decide) rfl]; rfl, by rw [w.t 27 (by decide) rfl, e, w.t 32 (by decide) rfl]; rfl, by rw [w.l 27 (by decide) rfl]; decide, ?_⟩))⟩⟩
  refine v2_init_32 hs ?_
  rw [iN_toN (by omega), iN_add]
  exact hK _ _ (w.put (by rw [e]; rfl)) wI
theorem k2_2 {d : Nat} {z : Zs} {I : Is} {K : Zs → Is → Prop} (hs : GS g) (hz : ZQ 28 26 z) (hI : IQ 28 I) (hK : ∀ z I, ZQ 32 30 z → IQ 32 I → WPc g m2_init (d + 60) 8 42 14 [(0, .ref 26), (1, .int (iN 3))] [] z I (Zv K)) : WPc g m2_init (d + 60) 12 63 14 [(0, .ref 26), (1, .int (iN 2))] [] z I (Zv K) := by
  have e := hz.1
  refine v2_init_14 (rc := 8) (rs := 42) hs ⟨fun q => absurd ((iN_le (by omega) (by omega)).mp q) (by omega), fun _ => ⟨by rw [hz.t 26 (by decide) rfl]; rfl, oe_s (hz.p 26 0 (by decide) (q := some 27) (by decide)) (c_m4 hs hz hI (by decide) (fun z1 J w wI => ⟨by rw [w.t 27 (by decide) rfl]; rfl, by rw [w.t 27 (by decide) rfl, e, w.t 36 (by decide) rfl]; rfl, by rw [w.l 27 (by decide) rfl]; decide, ?_⟩))⟩⟩
  refine v2_init_32 hs ?_
  rw [iN_toN (by omega), iN_add]
  exact hK _ _ (w.put (by rw [e]; rfl)) wI
theorem k2_3 {d : Nat} {z : Zs} {I : Is} {K : Zs → Is → Prop} (hs : GS g) (hz : ZQ 32 30 z) (hI : IQ 32 I) (hK : ∀ z I, ZQ 36 34 z → IQ 36 I → WPc g m2_init (d + 60) 4 21 14 [(0, .ref 26), (1, .int (iN 4))] [] z I (Zv K)) : WPc g m2_init (d + 60) 8 42 14 [(0, .ref 26), (1, .int (iN 3))] [] z I (Zv K) := by
  have e := hz.1
  refine v2_init_14 (rc := 4) (rs := 21) hs ⟨fun q => absurd ((iN_le (by omega) (by omega)).mp q) (by omega), fun _ => ⟨by rw [hz.t 26 (by decide) rfl]; rfl, oe_s (hz.p 26 0 (by decide) (q := some 27) (by decide)) (c_m4 hs hz hI (by decide) (fun z1 J w wI => ⟨by rw [w.t 27 (by decide) rfl]; rfl, by rw [w.t 27 (by decide) rfl, e, w.t 40 (by decide) rfl]; rfl, by rw [w.l 27 (by decide) rfl]; decide, ?_⟩))⟩⟩
  refine v2_init_32 hs ?_
  rw [iN_toN (by omega), iN_add]
  exact hK _ _ (w.put (by rw [e]; rfl)) wI
theorem k2_4 {d : Nat} {z : Zs} {I : Is} {K : Zs → Is → Prop} (hs : GS g) (hz : ZQ 36 34 z) (hI : IQ 36 I) (hK : ∀ z I, ZQ 40 38 z → IQ 40 I → WPc g m2_init (d + 60) 0 0 14 [(0, .ref 26), (1, .int (iN 5))] [] z I (Zv K)) : WPc g m2_init (d + 60) 4 21 14 [(0, .ref 26), (1, .int (iN 4))] [] z I (Zv K) := by
  have e := hz.1
  refine v2_init_14 (rc := 0) (rs := 0) hs ⟨fun q => absurd ((iN_le (by omega) (by omega)).mp q) (by omega), fun _ => ⟨by rw [hz.t 26 (by decide) rfl]; rfl, oe_s (hz.p 26 0 (by decide) (q := some 27) (by decide)) (c_m4 hs hz hI (by decide) (fun z1 J w wI => ⟨by rw [w.t 27 (by decide) rfl]; rfl, by rw [w.t 27 (by decide) rfl, e, w.t 44 (by decide) rfl]; rfl, by rw [w.l 27 (by decide) rfl]; decide, ?_⟩))⟩⟩
  refine v2_init_32 hs ?_
  rw [iN_toN (by omega), iN_add]
  exact hK _ _ (w.put (by rw [e]; rfl)) wI
theorem k11_79 {d : Nat} {z : Zs} {I : Is} {K : Zs → Is → Prop} (hs : GS g) (hz : ZQ 18 17 z) (hI : IQ 18 I) (hK : ∀ z I, ZQ 40 39 z → IQ 40 I → WPc g m11_init (d + 61) 53 744 90 [(0, .ref 8)] [] z I (Zv K)) : WPc g m11_init (d + 61) 75 860 79 [(0, .ref 8)] [] z I (Zv K) := by
  refine v11_init_79 hs ?_
  have e : zN z = 26 := hz.1
  have w := hz.nw (c := 2) (l := 0) (by decide)
  have wI := hI.nw hz.1 (by decide)
  have w2 := w.nw (c := 102) (l := 5) (by decide)
  rw [e] at wI ⊢
  refine v2_init hs ⟨by rw [w2.t 26 (by decide) rfl]; rfl, v2_init_12 hs ?_⟩
  refine k2_0 hs (w2.put (by rw [w.1]; rfl)) (wI.nw w.1 (by decide)) (fun z I hz hI => ?_)
  refine k2_1 hs hz hI (fun z I hz hI => ?_)
  refine k2_2 hs hz hI (fun z I hz hI => ?_)
  refine k2_3 hs hz hI (fun z I hz hI => ?_)
  refine k2_4 hs hz hI (fun z I hz hI => ?_)
  exact k2_5 hs ⟨by rw [hz.t 8 (by decide) rfl]; rfl, hK _ _ (hz.put rfl) hI⟩
theorem k11_90 {d : Nat} {z : Zs} {I : Is} {K : Zs → Is → Prop} (hs : GS g) (hz : ZQ 40 39 z) (hI : IQ 40 I) (hK : ∀ z I, ZQ 41 40 z → IQ 41 I → WPc g m11_init (d + 61) 52 738 98 [(0, .ref 8)] [] z I (Zv K)) : WPc g m11_init (d + 61) 53 744 90 [(0, .ref 8)] [] z I (Zv K) := by
  have w := hz.nw (c := 100) (l := 6) (by decide)
  exact v11_init_90 hs ⟨by rw [w.t 8 (by decide) rfl]; rfl, hK _ _ (w.put (by rw [hz.1]; rfl)) (hI.nw hz.1 (by decide))⟩
theorem k11_98 {d : Nat} {z : Zs} {I : Is} {K : Zs → Is → Prop} (hs : GS g) (hK : WPc g m11_init (d + 61) 52 738 100 [(0, .ref 8), (1, .int (iN 0))] [] z I (Zv K)) : WPc g m11_init (d + 61) 52 738 98 [(0, .ref 8)] [] z I (Zv K) := v11_init_98 hs hK
theorem k11_100_0 {d : Nat} {z : Zs} {I : Is} {K : Zs → Is → Prop} (hs : GS g) (hz : ZQ 41 40 z) (hI : IQ 41 I) (hK : ∀ z I, ZQ 49 48 z → IQ 49 I → WPc g m11_init (d + 61) 44 696 100 [(0, .ref 8), (1, .int (iN 1))] [] z I (Zv K)) : WPc g m11_init (d + 61) 52 738 100 [(0, .ref 8), (1, .int (iN 0))] [] z I (Zv K) := by
  have e := hz.1
  refine v11_init_100 (rc := 44) (rs := 696) hs ⟨fun q => absurd ((iN_le (by omega) (by omega)).mp q) (by omega), fun _ => ⟨by rw [hz.t 8 (by decide) rfl]; rfl, oe_s (hz.p 8 1 (by decide) (q := some 10) (by decide)) (c_m4 hs hz hI (by decide) (fun z1 J w wI => ⟨by rw [w.t 10 (by decide) rfl]; rfl, by rw [w.t 10 (by decide) rfl, e, w.t 49 (by decide) rfl]; rfl, by rw [w.l 10 (by decide) rfl]; decide, ?_⟩))⟩⟩
  rw [iN_toN (by omega)]
  replace w := w.put (a := 10) (i := 0) (q := zN z) (by rw [e]; rfl)
  generalize zPut z1 10 0 (some (zN z)) = z2 at w ⊢
  have e2 := w.1
  refine v11_init_118 (rc := 44) (rs := 696) hs ⟨by rw [w.t 8 (by decide) rfl]; rfl, oe_s (w.p 8 2 (by decide) (q := some 11) (by decide)) (c_m4 hs w wI (by decide) (fun z3 J w wI => ⟨by rw [w.t 11 (by decide) rfl]; rfl, by rw [w.t 11 (by decide) rfl, e2, w.t 53 (by decide) rfl]; rfl, by rw [w.l 11 (by decide) rfl]; decide, v11_init_131 hs ?_⟩))⟩
  rw [iN_toN (by omega), iN_add]
  exact hK _ _ (w.put (by rw [e2]; rfl)) wI
theorem k11_100_1 {d : Nat} {z : Zs} {I : Is} {K : Zs → Is → Prop} (hs : GS g) (hz : ZQ 49 48 z) (hI : IQ 49 I) (hK : ∀ z I, ZQ 57 56 z → IQ 57 I → WPc g m11_init (d + 61) 36 654 100 [(0, .ref 8), (1, .int (iN 2))] [] z I (Zv K)) : WPc g m11_init (d + 61) 44 696 100 [(0, .ref 8), (1, .int (iN 1))] [] z I (Zv K) := by
  have e := hz.1
  refine v11_init_100 (rc := 36) (rs := 654) hs ⟨fun q => absurd ((iN_le (by omega) (by omega)).mp q) (by omega), fun _ => ⟨by rw [hz.t 8 (by decide) rfl]; rfl, oe_s (hz.p 8 1 (by decide) (q := some 10) (by decide)) (c_m4 hs hz hI (by decide) (fun z1 J w wI => ⟨by rw [w.t 10 (by decide) rfl]; rfl, by rw [w.t 10 (by decide) rfl, e, w.t 57 (by decide) rfl]; rfl, by rw [w.l 10 (by decide) rfl]; decide, ?_⟩))⟩⟩
  rw [iN_toN (by omega)]
  replace w := w.put (a := 10) (i := 1) (q := zN z) (by rw [e]; rfl)
  generalize zPut z1 10 1 (some (zN z)) = z2 at w ⊢
  have e2 := w.1
  refine v11_init_118 (rc := 36) (rs := 654) hs ⟨by rw [w.t 8 (by decide) rfl]; rfl, oe_s (w.p 8 2 (by decide) (q := some 11) (by decide)) (c_m4 hs w wI (by decide) (fun z3 J w wI => ⟨by rw [w.t 11 (by decide) rfl]; rfl, by rw [w.t 11 (by decide) rfl, e2, w.t 61 (by decide) rfl]; rfl, by rw [w.l 11 (by decide) rfl]; decide, v11_init_131 hs ?_⟩))⟩
  rw [iN_toN (by omega), iN_add]
  exact hK _ _ (w.put (by rw [e2]; rfl)) wI
theorem k11_100_2 {d : Nat} {z : Zs} {I : Is} {K : Zs → Is → Prop} (hs : GS g) (hz : ZQ 57 56 z) (hI : IQ 57 I) (hK : ∀ z I, ZQ 65 64 z → IQ 65 I → WPc g m11_init (d + 61) 28 612 100 [(0, .ref 8), (1, .int (iN 3))] [] z I (Zv K)) : WPc g m11_init (d + 61) 36 654 100 [(0, .ref 8), (1, .int (iN 2))] [] z I (Zv K) := by
  have e := hz.1
  refine v11_init_100 (rc := 28) (rs := 612) hs ⟨fun q => absurd ((iN_le (by omega) (by omega)).mp q) (by omega), fun _ => ⟨by rw [hz.t 8 (by decide) rfl]; rfl, oe_s (hz.p 8 1 (by decide) (q := some 10) (by decide)) (c_m4 hs hz hI (by decide) (fun z1 J w wI => ⟨by rw [w.t 10 (by decide) rfl]; rfl, by rw [w.t 10 (by decide) rfl, e, w.t 65 (by decide) rfl]; rfl, by rw [w.l 10 (by decide) rfl]; decide, ?_⟩))⟩⟩
  rw [iN_toN (by omega)]
  replace w := w.put (a := 10) (i := 2) (q := zN z) (by rw [e]; rfl)
  generalize zPut z1 10 2 (some (zN z)) = z2 at w ⊢
  have e2 := w.1
  refine v11_init_118 (rc := 28) (rs := 612) hs ⟨by rw [w.t 8 (by decide) rfl]; rfl, oe_s (w.p 8 2 (by decide) (q := some 11) (by decide)) (c_m4 hs w wI (by decide) (fun z3 J w wI => ⟨by rw [w.t 11 (by decide) rfl]; rfl, by rw [w.t 11 (by decide) rfl, e2, w.t 69 (by decide) rfl]; rfl, by rw [w.l 11 (by decide) rfl]; decide, v11_init_131 hs ?_⟩))⟩
  rw [iN_toN (by omega), iN_add]
  exact hK _ _ (w.put (by rw [e2]; rfl)) wI
theorem k11_100_3 {d : Nat} {z : Zs} {I : Is} {K : Zs → Is → Prop} (hs : GS g) (hz : ZQ 65 64 z) (hI : IQ 65 I) (hK : ∀ z I, ZQ 73 72 z → IQ 73 I → WPc g m11_init (d + 61) 20 570 100 [(0, .ref 8), (1, .int (iN 4))] [] z I (Zv K)) : WPc g m11_init (d + 61) 28 612 100 [(0, .ref 8), (1, .int (iN 3))] [] z I (Zv K) := by
  have e := hz.1
  refine v11_init_100 (rc := 20) (rs := 570) hs ⟨fun q => absurd ((iN_le (by omega) (by omega)).mp q) (by omega), fun _ => ⟨by rw [hz.t 8 (by decide) rfl]; rfl, oe_s (hz.p 8 1 (by decide) (q := some 10) (by decide)) (c_m4 hs hz hI (by decide) (fun z1 J w wI => ⟨by rw [w.t 10 (by decide) rfl]; rfl, by rw [w.t 10 (by decide) rfl, e, w.t 73 (by decide) rfl]; rfl, by rw [w.l 10 (by decide) rfl]; decide, ?_⟩))⟩⟩
  rw [iN_toN (by omega)]
  replace w := w.put (a := 10) (i := 3) (q := zN z) (by rw [e]; rfl)
  generalize zPut z1 10 3 (some (zN z)) = z2 at w ⊢
  have e2 := w.1
  refine v11_init_118 (rc := 20) (rs := 570) hs ⟨by rw [w.t 8 (by decide) rfl]; rfl, oe_s (w.p 8 2 (by decide) (q := some 11) (by decide)) (c_m4 hs w wI (by decide) (fun z3 J w wI => ⟨by rw [w.t 11 (by decide) rfl]; rfl, by rw [w.t 11 (by decide) rfl, e2, w.t 77 (by decide) rfl]; rfl, by rw [w.l 11 (by decide) rfl]; decide, v11_init_131 hs ?_⟩))⟩
  rw [iN_toN (by omega), iN_add]
  exact hK _ _ (w.put (by rw [e2]; rfl)) wI
theorem k11_100_4 {d : Nat} {z : Zs} {I : Is} {K : Zs → Is → Prop} (hs : GS g) (hz : ZQ 73 72 z) (hI : IQ 73 I) (hK : ∀ z I, ZQ 81 80 z → IQ 81 I → WPc g m11_init (d + 61) 12 528 100 [(0, .ref 8), (1, .int (iN 5))] [] z I (Zv K)) : WPc g m11_init (d + 61) 20 570 100 [(0, .ref 8), (1, .int (iN 4))] [] z I (Zv K) := by
  have e := hz.1
  refine v11_init_100 (rc := 12) (rs := 528) hs ⟨fun q => absurd ((iN_le (by omega) (by omega)).mp q) (by omega), fun _ => ⟨by rw [hz.t 8 (by decide) rfl]; rfl, oe_s (hz.p 8 1 (by decide) (q := some 10) (by decide)) (c_m4 hs hz hI (by decide) (fun z1 J w wI => ⟨by rw [w.t 10 (by decide) rfl]; rfl, by rw [w.t 10 (by decide) rfl, e, w.t 81 (by decide) rfl]; rfl, by rw [w.l 10 (by decide) rfl]; decide, ?_⟩))⟩⟩
  rw [iN_toN (by omega)]
  replace w := w.put (a := 10) (i := 4) (q := zN z) (by rw [e]; rfl)
  generalize zPut z1 10 4 (some (zN z)) = z2 at w ⊢
  have e2 := w.1
  refine v11_init_118 (rc := 12) (rs := 528) hs ⟨by rw [w.t 8 (by decide) rfl]; rfl, oe_s (w.p 8 2 (by decide) (q := some 11) (by decide)) (c_m4 hs w wI (by decide) (fun z3 J w wI => ⟨by rw [w.t 11 (by decide) rfl]; rfl, by rw [w.t 11 (by decide) rfl, e2, w.t 85 (by decide) rfl]; rfl, by rw [w.l 11 (by decide) rfl]; decide, v11_init_131 hs ?_⟩))⟩
  rw [iN_toN (by omega), iN_add]
  exact hK _ _ (w.put (by rw [e2]; rfl)) wI
theorem k11_100_5 {d : Nat} {z : Zs} {I : Is} {K : Zs → Is → Prop} (hs : GS g) (hK : WPc g m11_init (d + 61) 12 528 139 [(0, .ref 8), (1, .int (iN 0))] [] z I (Zv K)) : WPc g m11_init (d + 61) 12 528 100 [(0, .ref 8), (1, .int (iN 5))] [] z I (Zv K) := v11_init_100 (rc := 4) (rs := 486) hs ⟨fun _ => hK, fun q => absurd ((iN_le (by omega) (by omega)).mpr (by omega)) q⟩
theorem k11_139_0 {d : Nat} {z : Zs} {I : Is} {K : Zs → Is → Prop} (hs : GS g) (hz : ZQ 81 80 z) (hI : IQ 81 I) (hK : ∀ z I, ZQ 83 82 z → IQ 83 I → WPc g m11_init (d + 61) 10 485 139 [(0, .ref 8), (1, .int (iN 1))] [] z I (Zv K)) : WPc g m11_init (d + 61) 12 528 139 [(0, .ref 8), (1, .int (iN 0))] [] z I (Zv K) := by
  have e := hz.1
  refine v11_init_139 (rc := 10) (rs := 485) hs ⟨fun q => absurd ((iN_le (by omega) (by omega)).mp q) (by omega), fun _ => ⟨by rw [hz.t 8 (by decide) rfl]; rfl, oe_s (hz.p 8 6 (by decide) (q := some 21) (by decide)) (c_m7 hs hz hI (by decide) (fun z1 J w wI => ⟨by rw [w.t 21 (by decide) rfl]; rfl, by rw [w.t 21 (by decide) rfl, e, w.t 89 (by decide) rfl]; rfl, by rw [w.l 21 (by decide) rfl]; decide, v11_init_157 hs ?_⟩))⟩⟩
  rw [iN_toN (by omega), iN_add]
  exact hK _ _ (w.put (by rw [e]; rfl)) wI
theorem k11_139_1 {d : Nat} {z : Zs} {I : Is} {K : Zs → Is → Prop} (hs : GS g) (hz : ZQ 83 82 z) (hI : IQ 83 I) (hK : ∀ z I, ZQ 85 84 z → IQ 85 I → WPc g m11_init (d + 61) 8 442 139 [(0, .ref 8), (1, .int (iN 2))] [] z I (Zv K)) : WPc g m11_init (d + 61) 10 485 139 [(0, .ref 8), (1, .int (iN 1))] [] z I (Zv K) := by
  have e := hz.1
  refine v11_init_139 (rc := 8) (rs := 442) hs ⟨fun q => absurd ((iN_le (by omega) (by omega)).mp q) (by omega), fun _ => ⟨by rw [hz.t 8 (by decide) rfl]; rfl, oe_s (hz.p 8 6 (by decide) (q := some 21) (by decide)) (c_m7 hs hz hI (by decide) (fun z1 J w wI => ⟨by rw [w.t 21 (by decide) rfl]; rfl, by rw [w.t 21 (by decide) rfl, e, w.t 91 (by decide) rfl]; rfl, by rw [w.l 21 (by decide) rfl]; decide, v11_init_157 hs ?_⟩))⟩⟩
  rw [iN_toN (by omega), iN_add]
  exact hK _ _ (w.put (by rw [e]; rfl)) wI
theorem k11_139_2 {d : Nat} {z : Zs} {I : Is} {K : Zs → Is → Prop} (hs : GS g) (hz : ZQ 85 84 z) (hI : IQ 85 I) (hK : ∀ z I, ZQ 87 86 z → IQ 87 I → WPc g m11_init (d + 61) 6 399 139 [(0, .ref 8), (1, .int (iN 3))] [] z I (Zv K)) : WPc g m11_init (d + 61) 8 442 139 [(0, .ref 8), (1, .int (iN 2))] [] z I (Zv K) := by
  have e := hz.1
  refine v11_init_139 (rc := 6) (rs := 399) hs ⟨fun q => absurd ((iN_le (by omega) (by omega)).mp q) (by omega), fun _ => ⟨by rw [hz.t 8 (by decide) rfl]; rfl, oe_s (hz.p 8 6 (by decide) (q := some 21) (by decide)) (c_m7 hs hz hI (by decide) (fun z1 J w wI => ⟨by rw [w.t 21 (by decide) rfl]; rfl, by rw [w.t 21 (by decide) rfl, e, w.t 93 (by decide) rfl]; rfl, by rw [w.l 21 (by decide) rfl]; decide, v11_init_157 hs ?_⟩))⟩⟩
  rw [iN_toN (by omega), iN_add]
  exact hK _ _ (w.put (by rw [e]; rfl)) wI
theorem k11_139_3 {d : Nat} {z : Zs} {I : Is} {K : Zs → Is → Prop} (hs : GS g) (hz : ZQ 87 86 z) (hI : IQ 87 I) (hK : ∀ z I, ZQ 89 88 z → IQ 89 I → WPc g m11_init (d + 61) 4 356 139 [(0, .ref 8), (1, .int (iN 4))] [] z I (Zv K)) : WPc g m11_init (d + 61) 6 399 139 [(0, .ref 8), (1, .int (iN 3))] [] z I (Zv K) := by
  have e := hz.1
  refine v11_init_139 (rc := 4) (rs := 356) hs ⟨fun q => absurd ((iN_le (by omega) (by omega)).mp q) (by omega), fun _ => ⟨by rw [hz.t 8 (by decide) rfl]; rfl, oe_s (hz.p 8 6 (by decide) (q := some 21) (by decide)) (c_m7 hs hz hI (by decide) (fun z1 J w wI => ⟨by rw [w.t 21 (by decide) rfl]; rfl, by rw [w.t 21 (by decide) rfl, e, w.t 95 (by decide) rfl]; rfl, by rw [w.l 21 (by decide) rfl]; decide, v11_init_157 hs ?_⟩))⟩⟩
  rw [iN_toN (by omega), iN_add]
  exact hK _ _ (w.put (by rw [e]; rfl)) wI
theorem k11_139_4 {d : Nat} {z : Zs} {I : Is} {K : Zs → Is → Prop} (hs : GS g) (hK : WPc g m11_init (d + 61) 4 356 165 [(0, .ref 8), (1, .int (iN 0))] [] z I (Zv K)) : WPc g m11_init (d + 61) 4 356 139 [(0, .ref 8), (1, .int (iN 4))] [] z I (Zv K) := v11_init_139 (rc := 2) (rs := 313) hs ⟨fun _ => hK, fun q => absurd ((iN_le (by omega) (by omega)).mpr (by omega)) q⟩
end QQ
