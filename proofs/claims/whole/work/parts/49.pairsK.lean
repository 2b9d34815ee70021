/-! pairs: copy, coinsBy -/
def cpU (S : AS) (A B n : Nat) : AS := (S.1, S.2.1, fun j => if B ≤ j ∧ j < B + n then S.2.2 (A + (j - B)) else S.2.2 j)
theorem inC_n {a n L : Nat} (h : a + n ≤ L) (hL : L ≤ 100000) : inC (iN a) (iN n) L = true := by
  unfold inC
  rw [iN_toInt (by omega), iN_toInt (by omega)]
  simp
  omega
theorem le_sub {a b c : Nat} (ha : a < 2147483648) (hb : b ≤ 1000) (hc : c ≤ 1000) : iN a ≤ iN b - iN c ↔ a + c ≤ b := by
  by_cases h : c ≤ b
  · rw [iN_sub h, iN_le ha (by omega)]; omega
  · have e : iN b - iN c = iM (c - b) := by
      have e1 : iM (c - b) = -iN (c - b) := Int32.ofInt_neg _
      rw [e1, show iN b - iN c = -(iN c - iN b) from (Int32.neg_sub).symm, iN_sub (by omega)]
    rw [e]
    exact ⟨fun q => absurd q (iM_nle ha (by omega) (by omega)), fun q => by omega⟩
section PK
variable {g : Gt} {d : Nat} {z : Zs} {I J : Is} {S : AS}
theorem CI.uCp {s t a b n : Nat} (c : CI z I S) (hz : Sh z) (h4 : s < 4) (h5 : t < 4) (ha : a + n ≤ 40) (hb : b + n ≤ 40) : CI z (cpI I (89 + 2 * s + 1) (89 + 2 * t + 1) a b n) (cpU S (40 * s + a) (40 * t + b) n) := by
  have ts := hz.sheet h5
  have h : ∀ k, k ≠ 89 + 2 * t + 1 → cpI I (89 + 2 * s + 1) (89 + 2 * t + 1) a b n k = I k := fun k hk => cpI_ro I hk _ _ _
  obtain ⟨a1, a2, a3, a4, a5, a6, a7⟩ := id c
  refine ⟨?_, a2.cg (fun q hq => h q (fun e => ?_)), fun p hp => (a3 p hp).cg (h _ (by omega)), ⟨fun p hp => (a4.1 p hp).cg (h _ (by omega)), ?_⟩, ?_, ⟨fun t ht => ?_, a6.2⟩, fun u hu => ?_⟩
  · rw [h 8 (by omega), h 22 (by omega)]; exact a1
  · have := ts.t1; rw [← e] at this; omega
  · rw [h 26 (by omega)]; exact a4.2
  · rw [h 23 (by omega)]; exact a5
  · obtain ⟨t6, a, e, r⟩ := a6.1 t ht
    have ra := r.2.1
    refine ⟨t6, a, e, r.1, r.2.1, fun p hp => ?_, r.2.2.2.1, fun k hk => ?_⟩
    · rw [h _ (by omega)]; exact r.2.2.1 p hp
    · rw [h _ (by omega)]; exact r.2.2.2.2 k hk
  · rw [h (89 + 2 * u) (by omega)]
    refine ⟨(a7 u hu).1, (a7 u hu).2.1, fun j hj => ?_⟩
    show _ = if 40 * t + b ≤ 40 * u + j ∧ 40 * u + j < 40 * t + b + n then S.2.2 (40 * s + a + (40 * u + j - (40 * t + b))) else S.2.2 (40 * u + j)
    by_cases w : u = t
    · subst w
      have e1 : cpI I (89 + 2 * s + 1) (89 + 2 * u + 1) a b n (89 + 2 * u + 1) j = if b ≤ j ∧ j < b + n then I (89 + 2 * s + 1) (a + (j - b)) else I (89 + 2 * u + 1) j := by
        unfold cpI va_cpy; rw [if_pos rfl]
      rw [e1]
      by_cases w2 : b ≤ j ∧ j < b + n
      · rw [if_pos w2, if_pos (by omega), (a7 s h4).2.2 _ (by omega)]
        exact congrArg S.2.2 (by omega)
      · rw [if_neg w2, if_neg (by omega)]; exact (a7 u hu).2.2 j hj
    · rw [h _ (by omega), if_neg (by omega)]; exact (a7 u hu).2.2 j hj
theorem copy_l {A B n : Nat} {K : Int32 → Is → Prop} (hs : GS g) (hz : Sh z) (m : MI I S) (hA : A + n ≤ 160) (hB : B + n ≤ 160) (hn : n ≤ 40) (hK : ∀ J, Of [112] I J → (∀ j, J 112 j = if B ≤ j ∧ j < B + n then S.2.2 (A + (j - B)) else S.2.2 j) → K (iN n) J) : ∀ (r k : Nat) (J : Is), k + r = n → Of [112] I J → (∀ j, J 112 j = if (B ≤ A ∧ B ≤ j ∧ j < B + k) ∨ (A < B ∧ B + (n - k) ≤ j ∧ j < B + n) then S.2.2 (A + (j - B)) else S.2.2 j) → WPc g m12_copy (d + 2) 0 0 147 [(0, .ref 101), (5, .int (iN n)), (6, .int (iN A)), (7, .int (iN B)), (8, .int (iN k))] [] z J (Qi z K)
  | 0, k, J, e, hJ, h1 => by
    obtain rfl : k = n := by omega
    refine v12_copy_147 hs ⟨fun _ => hK J hJ (fun j => ?_), fun q => absurd ((iN_le (by omega) (by omega)).mpr (Nat.le_refl _)) q⟩
    rw [h1 j]
    by_cases w : B ≤ j ∧ j < B + k
    · rw [if_pos w, if_pos (by omega)]
    · rw [if_neg w, if_neg (by omega)]
  | r + 1, k, J, e, hJ, h1 => by
    refine v12_copy_147 hs ⟨fun q => absurd ((iN_le (by omega) (by omega)).mp q) (by omega), fun _ => ?_⟩
    rw [iN_le (by omega) (by omega)]
    have go : ∀ x, (B ≤ A ∧ x = k) ∨ (A < B ∧ x = n - 1 - k) → WPc g m12_copy (d + 2) 0 0 173 [(0, .ref 101), (5, .int (iN n)), (6, .int (iN A)), (7, .int (iN B)), (8, .int (iN k))] [.int (iN x)] z J (Qi z K) := fun x hx => by
      refine v12_copy_173 hs hz ?_
      rw [iN_add, iN_add, iN_add, iN_toN (by omega), iN_toN (by omega)]
      have ev : J 112 (A + x) = S.2.2 (A + x) := by rw [h1, if_neg (by omega)]
      rw [ev]
      refine ⟨inB_n (by omega) (by omega), inB_n (by omega) (by omega), copy_l hs hz m hA hB hn hK r (k + 1) _ (by omega) (hJ.upt (by simp) _ _) (fun j => ?_)⟩
      rw [up2_ra]; unfold up1
      by_cases w : j = B + x
      · rw [if_pos w, if_pos (by omega)]; exact congrArg S.2.2 (by omega)
      · rw [if_neg w, h1 j]
        by_cases w2 : (B ≤ A ∧ B ≤ j ∧ j < B + k) ∨ (A < B ∧ B + (n - k) ≤ j ∧ j < B + n)
        · rw [if_pos w2, if_pos (by omega)]
        · rw [if_neg w2, if_neg (by omega)]
    refine ⟨fun q => go k (Or.inl ⟨q, rfl⟩), fun q => ?_⟩
    rw [iN_sub (by omega), iN_sub (by omega)]
    exact go (n - 1 - k) (Or.inr ⟨by omega, rfl⟩)
theorem MI.uCp {A B n : Nat} (m : MI I S) (e : Of [112] I J) (h : ∀ j, J 112 j = if B ≤ j ∧ j < B + n then S.2.2 (A + (j - B)) else S.2.2 j) : MI J (cpU S A B n) := by
  have r : ∀ k, k ≠ 112 → J k = I k := fun k hk => e k (by simp; exact hk)
  obtain ⟨m1, m2, m3, m4, m5, m6, m7, m8, m9, m10, m11, m12, m13, m14⟩ := m
  refine ⟨?_, ?_, ?_, ?_, ?_, ?_, ?_, ?_, ?_, ?_, ?_, ?_, h, ?_⟩
  · rw [r 101 (by omega)]; exact m1
  · rw [r 101 (by omega)]; exact m2
  · rw [r 102 (by omega)]; exact m3
  · rw [r 103 (by omega)]; exact m4
  · rw [r 104 (by omega)]; exact m5
  · rw [r 105 (by omega)]; exact m6
  · rw [r 106 (by omega)]; exact m7
  · rw [r 107 (by omega)]; exact m8
  · rw [r 108 (by omega)]; exact m9
  · rw [r 109 (by omega)]; exact m10
  · rw [r 110 (by omega)]; exact m11
  · rw [r 111 (by omega)]; exact m12
  · rw [r 114 (by omega)]; exact m14
theorem P_copy (hs : GS g) (o : OKS S) (v1 v2 v3 v4 v5 : Int32) : Pair g S m11_copy m12_copy [.int v1, .int v2, .int v3, .int v4, .int v5] := by
  have N1 : ¬ iN 1 = iN 0 := fun q => absurd ((iN_inj (by omega) (by omega)).mp q) (by omega)
  by_cases h1 : inR v1 (iN 0) (iN 3)
  · by_cases h3 : inR v3 (iN 0) (iN 3)
    · obtain ⟨s, rfl, _, hs3⟩ := (inR_nat (by omega) (by omega)).mp h1
      obtain ⟨t, rfl, _, ht3⟩ := (inR_nat (by omega) (by omega)).mp h3
      have z1 := o.2.2.2.2.2.2 s (by omega)
      have z2 := o.2.2.2.2.2.2 t (by omega)
      by_cases f1 : S.2.1 s = iM 1
      · refine ⟨iM 11, S, o, fun d z I K hz c hK => v11_copy hs hz (g4 (by omega) rfl (g4 (by omega) rfl (c_isMissing hs hz c (by omega) (fun _ => gF N1 (hK.i c)) (fun w => absurd f1 w)))), fun d z I K hz m hK => v12_copy hs hz (gT h1 (gT h3 ⟨inB_n (by omega) (by omega), ?_⟩))⟩
        rw [iN_toN (by omega), m.sf]
        exact gT f1 (hK.i m)
      · by_cases f2 : S.2.1 t = iM 1
        · refine ⟨iM 11, S, o, fun d z I K hz c hK => v11_copy hs hz (g4 (by omega) rfl (g4 (by omega) rfl (c_isMissing hs hz c (by omega) (fun w => absurd w f1) (fun _ => gT rfl (c_isMissing hs hz c (by omega) (fun _ => gF N1 (hK.i c)) (fun w => absurd f2 w)))))), fun d z I K hz m hK => v12_copy hs hz (gT h1 (gT h3 ⟨inB_n (by omega) (by omega), ?_⟩))⟩
          rw [iN_toN (by omega), iN_toN (by omega), m.sf, m.sf]
          exact gF f1 ⟨inB_n (by omega) (by omega), gT f2 (hK.i m)⟩
        · by_cases ff : S.2.1 s = S.2.1 t
          · -- the places
            have C : ∀ (d : Nat) (z : Zs) (I : Is) (K : Int32 → Is → Prop), Sh z → CI z I S → Wi g m7_holds (d + 19) [.ref (89 + 2 * s), .int v2, .int v5] z I (fun x9 J8 => (x9 = iN 0 → K (iM 12) J8) ∧ (¬ x9 = iN 0 → Wi g m7_holds (d + 19) [.ref (89 + 2 * t), .int v4, .int v5] z J8 (fun x11 J10 => (x11 = iN 0 → K (iM 12) J10) ∧ (¬ x11 = iN 0 → inC v2 v5 40 = true ∧ inC v4 v5 40 = true ∧ (K v5 (cpI J10 (89 + 2 * s + 1) (89 + 2 * t + 1) v2.toNatClampNeg v4.toNatClampNeg v5.toNatClampNeg)))))) → Wi g m11_copy (d + 20) [.ref 8, .int (iN s), .int v2, .int (iN t), .int v4, .int v5] z I K := fun d z I K hz c hh =>
              v11_copy hs hz (g4 (by omega) rfl (g4 (by omega) rfl (c_isMissing hs hz c (by omega) (fun w => absurd w f1) (fun _ => gT rfl (c_isMissing hs hz c (by omega) (fun w => absurd w f2) (fun _ => gT rfl (gT (by rw [(c.sh (s := s) (by omega)).1, (c.sh (s := t) (by omega)).1]; exact ff) hh)))))))
            have M : ∀ (d : Nat) (z : Zs) (I : Is) (K : Int32 → Is → Prop), Sh z → MI I S → ((v5 < iN 0 → K (iM 12) I) ∧ (¬ v5 < iN 0 → (v2 < iN 0 → K (iM 12) I) ∧ (¬ v2 < iN 0 → (v4 < iN 0 → K (iM 12) I) ∧ (¬ v4 < iN 0 → (iN (S.1 9 s) < v2 → K (iM 12) I) ∧ (¬ iN (S.1 9 s) < v2 → (iN (S.1 9 t) < v4 → K (iM 12) I) ∧ (¬ iN (S.1 9 t) < v4 → ((iN (S.1 9 s) - v2) < v5 → K (iM 12) I) ∧ (¬ (iN (S.1 9 s) - v2) < v5 → (v5 ≤ (iN (S.1 9 t) - v4) → WPc g m12_copy (d + 20) 0 0 147 [(0, .ref 101), (5, .int v5), (6, .int ((iN 40 * iN s) + v2)), (7, .int ((iN 40 * iN t) + v4)), (8, .int (iN 0))] [] z I (Qi z K)) ∧ (¬ v5 ≤ (iN (S.1 9 t) - v4) → K (iM 12) I)))))))) → Wi g m12_copy (d + 20) [.ref 101, .int (iN s), .int v2, .int (iN t), .int v4, .int v5] z I K := fun d z I K hz m hh => by
              refine v12_copy hs hz (gT h1 (gT h3 ⟨inB_n (by omega) (by omega), ?_⟩))
              rw [iN_toN (by omega), iN_toN (by omega), m.sf, m.sf, m.sz, m.sz]
              exact gF f1 ⟨inB_n (by omega) (by omega), gF f2 (gT ff hh)⟩
            by_cases H : ∃ a b n, v2 = iN a ∧ v4 = iN b ∧ v5 = iN n ∧ a + n ≤ S.1 9 s ∧ b + n ≤ S.1 9 t
            · obtain ⟨a, b, n, rfl, rfl, rfl, ha, hb⟩ := H
              refine ⟨iN n, cpU S (40 * s + a) (40 * t + b) n, o, fun d z I K hz c hK => C d z I K hz c (c_holds hs hz c o (by omega) (fun _ _ _ _ _ => gF N1 (c_holds hs hz c o (by omega) (fun _ _ _ _ _ => gF N1 ⟨inC_n (by omega) (by omega), inC_n (by omega) (by omega), ?_⟩) (fun w => (w b n rfl rfl hb).elim))) (fun w => (w a n rfl rfl ha).elim)), fun d z I K hz m hK => M d z I K hz m ?_⟩
              · rw [iN_toN (by omega), iN_toN (by omega), iN_toN (by omega)]
                exact hK _ (c.uCp hz (by omega) (by omega) (by omega) (by omega)) (fun k a b => cpI_ro I (by omega) _ _ _)
              · refine gF (fun q => absurd ((iN_lt (by omega) (by omega)).mp q) (by omega)) (gF (fun q => absurd ((iN_lt (by omega) (by omega)).mp q) (by omega)) (gF (fun q => absurd ((iN_lt (by omega) (by omega)).mp q) (by omega)) (gF (fun q => absurd ((iN_lt (by omega) (by omega)).mp q) (by omega)) (gF (fun q => absurd ((iN_lt (by omega) (by omega)).mp q) (by omega)) ?_))))
                rw [iN_sub (by omega), iN_sub (by omega), iN_mul, iN_mul, iN_add, iN_add]
                refine gF (fun q => absurd ((iN_lt (by omega) (by omega)).mp q) (by omega)) (gT ((iN_le (by omega) (by omega)).mpr (by omega)) ?_)
                exact copy_l hs hz m (by omega) (by omega) (by omega) (fun J hJ h => hK J (m.uCp hJ h) (KeepC.of hJ)) n 0 I (by omega) (Of.rf _ I) (fun j => by rw [if_neg (by omega), m.sc])
            · refine ⟨iM 12, S, o, fun d z I K hz c hK => C d z I K hz c (c_holds hs hz c o (by omega) (fun a n ea en hin => gF N1 (c_holds hs hz c o (by omega) (fun b n' eb en' hin' => absurd ⟨a, b, n', ea, eb, en', by
                have : n = n' := (iN_inj (by omega) (by omega)).mp (by rw [← en, en'])
                omega, hin'⟩ H) (fun _ => gT rfl (hK.i c)))) (fun _ => gT rfl (hK.i c))), fun d z I K hz m hK => M d z I K hz m ?_⟩
              refine ⟨fun _ => hK.i m, fun q1 => ⟨fun _ => hK.i m, fun q2 => ⟨fun _ => hK.i m, fun q3 => ?_⟩⟩⟩
              · obtain ⟨n, rfl, hn⟩ := lt0_of q1
                obtain ⟨a, rfl, ha⟩ := lt0_of q2
                obtain ⟨b, rfl, hb⟩ := lt0_of q3
                rw [iN_lt (by omega) (by omega), iN_lt (by omega) (by omega)]
                refine ⟨fun _ => hK.i m, fun q4 => ⟨fun _ => hK.i m, fun q5 => ?_⟩⟩
                rw [iN_sub (by omega), iN_sub (by omega), iN_lt (by omega) (by omega), iN_le (by omega) (by omega)]
                exact ⟨fun _ => hK.i m, fun q6 => ⟨fun q7 => absurd ⟨a, b, n, rfl, rfl, rfl, by omega, by omega⟩ H, fun _ => hK.i m⟩⟩
          · refine ⟨iM 13, S, o, fun d z I K hz c hK => v11_copy hs hz (g4 (by omega) rfl (g4 (by omega) rfl (c_isMissing hs hz c (by omega) (fun w => absurd w f1) (fun _ => gT rfl (c_isMissing hs hz c (by omega) (fun w => absurd w f2) (fun _ => gT rfl (gF (by rw [(c.sh (s := s) (by omega)).1, (c.sh (s := t) (by omega)).1]; exact ff) (hK.i c)))))))), fun d z I K hz m hK => v12_copy hs hz (gT h1 (gT h3 ⟨inB_n (by omega) (by omega), ?_⟩))⟩
            rw [iN_toN (by omega), iN_toN (by omega), m.sf, m.sf]
            exact gF f1 ⟨inB_n (by omega) (by omega), gF f2 (gF ff (hK.i m))⟩
    · obtain ⟨s, rfl, _, hs3⟩ := (inR_nat (by omega) (by omega)).mp h1
      exact ⟨iM 2, S, o, fun d z I K hz c hK => v11_copy hs hz (g4 (by omega) rfl (g4n h3 (hK.i c))), fun d z I K hz m hK => v12_copy hs hz (gT h1 (gF h3 (hK.i m)))⟩
  · refine ⟨iM 2, S, o, fun d z I K hz c hK => v11_copy hs hz (g4n h1 ?_), fun d z I K hz m hK => v12_copy hs hz (gF h1 (hK.i m))⟩
    exact ⟨fun _ => hK.i c, fun _ _ _ _ => hK.i c⟩
/-- deeper -/
def Pair40 (g : Gt) (S : AS) (mc mm : Mth) (args : List Value) : Prop := ∃ (ans : Int32) (S' : AS), OKS S' ∧
  (∀ (d : Nat) (z : Zs) (I : Is) (K : Int32 → Is → Prop), Sh z → CI z I S → KC z I S' (K ans) → Wi g mc (d + 40) (.ref 8 :: args) z I K) ∧
  (∀ (d : Nat) (z : Zs) (I : Is) (K : Int32 → Is → Prop), Sh z → MI I S → KM I S' (K ans) → Wi g mm (d + 40) (.ref 101 :: args) z I K)
theorem Pair.d40 {mc mm : Mth} {args : List Value} (h : Pair g S mc mm args) : Pair40 g S mc mm args := by
  obtain ⟨a, S', o, c, m⟩ := h
  exact ⟨a, S', o, fun d z I K => c (d + 20) z I K, fun d z I K => m (d + 20) z I K⟩
theorem cby_l (hs : GS g) {s f n : Nat} (h4 : s < 4) (hn : n ≤ 10) : ∀ (r k done : Nat) (S : AS), k + r = n → OKS S → f + 3 * k < 2147483648 → done ≤ k → ∃ (ans : Int32) (S' : AS), OKS S' ∧
    (∀ (d : Nat) (z : Zs) (I : Is) (K : Int32 → Is → Prop), Sh z → CI z I S → KC z I S' (K ans) → WPc g m11_coinsBy (d + 40) 0 0 67 [(0, .ref 8), (4, .int (iN n)), (5, .ref (89 + 2 * s)), (6, .int (iN done)), (7, .int (iN (f + 3 * k))), (8, .int (iN k))] [] z I (Qi z K)) ∧
    (∀ (d : Nat) (z : Zs) (I : Is) (K : Int32 → Is → Prop), Sh z → MI I S → KM I S' (K ans) → WPc g m12_coinsBy (d + 40) 0 0 64 [(0, .ref 101), (1, .int (iN s)), (3, .int (iN f)), (4, .int (iN n)), (5, .int (iN done)), (6, .int (iN k))] [] z I (Qi z K))
  | 0, k, done, S, e, o, hf, hd => ⟨iN done, S, o, fun d z I K hz c hK => v11_coinsBy_67 hs hz ⟨fun _ => hK.i c, fun q => absurd ((iN_le (by omega) (by omega)).mpr (by omega)) q⟩, fun d z I K hz m hK => v12_coinsBy_64 hs hz ⟨fun _ => hK.i m, fun q => absurd ((iN_le (by omega) (by omega)).mpr (by omega)) q⟩⟩
  | r + 1, k, done, S, e, o, hf, hd => by
    have N1 : ¬ iN 1 = iN 0 := fun q => absurd ((iN_inj (by omega) (by omega)).mp q) (by omega)
    have hsz := o.2.2.2.2.2.2 s h4
    by_cases hh : f + 3 * k + 3 ≤ S.1 9 s
    · obtain ⟨a1, S1, o1, c1, m1⟩ := P_set (g := g) hs o (S.2.2 (40 * s + (f + 3 * k))) (S.2.2 (40 * s + (f + 3 * k + 1))) (S.2.2 (40 * s + (f + 3 * k + 2)))
      obtain ⟨ans, S2, o2, c2, m2⟩ := cby_l (f := f) hs h4 hn r (k + 1) (if a1 < iN 0 then done else done + 1) S1 (by omega) o1 (by omega) (by split <;> omega)
      refine ⟨ans, S2, o2, fun d z I K hz c hK => ?_, fun d z I K hz m hK => ?_⟩
      · refine v11_coinsBy_67 hs hz ⟨fun q => absurd ((iN_le (by omega) (by omega)).mp q) (by omega), fun _ => ⟨by rw [(hz.sheet h4).t]; rfl, c_holds hs hz c o h4 (fun _ _ _ _ _ => gF N1 ⟨by rw [(hz.sheet h4).t]; rfl, c_get hs hz c o h4 (by omega) ⟨by rw [(hz.sheet h4).t]; rfl, ?_⟩⟩) (fun w => (w (f + 3 * k) 3 rfl rfl hh).elim)⟩⟩
        rw [iN_add, iN_add]
        refine c_get hs hz c o h4 (by omega) ⟨by rw [(hz.sheet h4).t]; rfl, c_get hs hz c o h4 (by omega) (c1 (d + 19) z I _ hz c (fun J cJ kJ => ?_))⟩
        rw [iN_add, iN_add, iN_add, show f + 3 * k + 3 = f + 3 * (k + 1) by omega]
        refine ⟨fun q => ?_, fun q => ?_⟩
        · have := c2 d z J K hz cJ (fun J2 cJ2 kJ2 => hK J2 cJ2 (kJ.tr kJ2))
          rw [if_pos q] at this; exact this
        · have := c2 d z J K hz cJ (fun J2 cJ2 kJ2 => hK J2 cJ2 (kJ.tr kJ2))
          rw [if_neg q] at this; exact this
      · refine v12_coinsBy_64 hs hz ⟨fun q => absurd ((iN_le (by omega) (by omega)).mp q) (by omega), fun _ => gF (fun q => absurd ((iN_lt (by omega) (by omega)).mp q) (by omega)) ?_⟩
        rw [iN_mul, iN_add, iN_mul, iN_add, iN_add, iN_add, iN_toN (by omega), iN_toN (by omega), iN_toN (by omega), iN_toN (by omega), m.sz, m.sc, m.sc, m.sc]
        refine gF (fun q => absurd ((iN_lt (by omega) (by omega)).mp q) (by omega)) ⟨inB_n (by omega) (by omega), gT ((le_sub (by omega) (by omega) (by omega)).mpr hh) ⟨inB_n (by omega) (by omega), inB_n (by omega) (by omega), inB_n (by omega) (by omega), ?_⟩⟩
        rw [show 40 * s + (f + 3 * k) + 1 = 40 * s + (f + 3 * k + 1) by omega, show 40 * s + (f + 3 * k) + 2 = 40 * s + (f + 3 * k + 2) by omega]
        refine m1 (d + 19) z I _ hz m (fun J mJ kJ => ?_)
        rw [iN_add, iN_add, iN_add]
        refine ⟨fun q => ?_, fun q => ?_⟩
        · have := m2 d z J K hz mJ (fun J2 cJ2 kJ2 => hK J2 cJ2 (kJ.tr kJ2))
          rw [if_pos q] at this; exact this
        · have := m2 d z J K hz mJ (fun J2 cJ2 kJ2 => hK J2 cJ2 (kJ.tr kJ2))
          rw [if_neg q] at this; exact this
    · refine ⟨iM 12, S, o, fun d z I K hz c hK => ?_, fun d z I K hz m hK => ?_⟩
      · refine v11_coinsBy_67 hs hz ⟨fun q => absurd ((iN_le (by omega) (by omega)).mp q) (by omega), fun _ => ⟨by rw [(hz.sheet h4).t]; rfl, c_holds hs hz c o h4 (fun i n' ei en hin => ?_) (fun _ => gT rfl (hK.i c))⟩⟩
        have a1 := (iN_inj (by omega) (by omega)).mp ei
        have a2 := (iN_inj (a := 3) (by omega) (by omega)).mp en
        omega
      · refine v12_coinsBy_64 hs hz ⟨fun q => absurd ((iN_le (by omega) (by omega)).mp q) (by omega), fun _ => ⟨fun _ => hK.i m, fun _ => ?_⟩⟩
        rw [iN_mul, iN_add]
        refine ⟨fun _ => hK.i m, fun _ => ⟨inB_n (by omega) (by omega), ?_⟩⟩
        rw [iN_toN (by omega), m.sz]
        exact gF (fun q => hh ((le_sub (by omega) (by omega) (by omega)).mp q)) (hK.i m)
theorem P_coinsBy (hs : GS g) (o : OKS S) (v1 v2 v3 v4 : Int32) : Pair40 g S m11_coinsBy m12_coinsBy [.int v1, .int v2, .int v3, .int v4] := by
  have N1 : ¬ iN 1 = iN 0 := fun q => absurd ((iN_inj (by omega) (by omega)).mp q) (by omega)
  by_cases h1 : inR v1 (iN 0) (iN 3)
  · obtain ⟨s, rfl, _, hs3⟩ := (inR_nat (by omega) (by omega)).mp h1
    by_cases h2 : inR v2 (iN 0) (iN 2)
    · by_cases h4 : inR v4 (iN 0) (iN 10)
      · obtain ⟨n, rfl, _, hn⟩ := (inR_nat (by omega) (by omega)).mp h4
        by_cases f1 : S.2.1 s = iM 1
        · refine ⟨iM 11, S, o, fun d z I K hz c hK => v11_coinsBy hs hz (g4 (by omega) rfl (gT h2 (gT h4 (c_isMissing hs hz c (by omega) (fun _ => gF N1 (hK.i c)) (fun w => absurd f1 w))))), fun d z I K hz m hK => v12_coinsBy hs hz (gT h1 (gT h2 (gT h4 ⟨inB_n (by omega) (by omega), ?_⟩)))⟩
          rw [iN_toN (by omega), m.sf]
          exact gT f1 (hK.i m)
        · by_cases f2 : S.2.1 s = v2
          · have C : ∀ (d : Nat) (z : Zs) (I : Is) (K : Int32 → Is → Prop), Sh z → CI z I S → WPc g m11_coinsBy (d + 40) 0 0 67 [(0, .ref 8), (4, .int (iN n)), (5, .ref (89 + 2 * s)), (6, .int (iN 0)), (7, .int v3), (8, .int (iN 0))] [] z I (Qi z K) → Wi g m11_coinsBy (d + 40) [.ref 8, .int (iN s), .int v2, .int v3, .int (iN n)] z I K := fun d z I K hz c hh =>
              v11_coinsBy hs hz (g4 (by omega) rfl (gT h2 (gT h4 (c_isMissing hs hz c (by omega) (fun w => absurd w f1) (fun _ => gT rfl (gT (by rw [(c.sh (s := s) (by omega)).1]; exact f2) hh))))))
            have M : ∀ (d : Nat) (z : Zs) (I : Is) (K : Int32 → Is → Prop), Sh z → MI I S → WPc g m12_coinsBy (d + 40) 0 0 64 [(0, .ref 101), (1, .int (iN s)), (3, .int v3), (4, .int (iN n)), (5, .int (iN 0)), (6, .int (iN 0))] [] z I (Qi z K) → Wi g m12_coinsBy (d + 40) [.ref 101, .int (iN s), .int v2, .int v3, .int (iN n)] z I K := fun d z I K hz m hh => by
              refine v12_coinsBy hs hz (gT h1 (gT h2 (gT h4 ⟨inB_n (by omega) (by omega), ?_⟩)))
              rw [iN_toN (by omega), m.sf]
              exact gF f1 (gT f2 hh)
            by_cases h3 : v3 < iN 0
            · by_cases hn0 : n = 0
              · subst hn0
                exact ⟨iN 0, S, o, fun d z I K hz c hK => C d z I K hz c (v11_coinsBy_67 hs hz ⟨fun _ => hK.i c, fun q => absurd ((iN_le (by omega) (by omega)).mpr (by omega)) q⟩), fun d z I K hz m hK => M d z I K hz m (v12_coinsBy_64 hs hz ⟨fun _ => hK.i m, fun q => absurd ((iN_le (by omega) (by omega)).mpr (by omega)) q⟩)⟩
              · refine ⟨iM 12, S, o, fun d z I K hz c hK => C d z I K hz c (v11_coinsBy_67 hs hz ⟨fun q => absurd ((iN_le (by omega) (by omega)).mp q) (by omega), fun _ => ⟨by rw [(hz.sheet (p := s) (by omega)).t]; rfl, c_holds hs hz c o (by omega) (fun i n' ei en hin => ?_) (fun _ => gT rfl (hK.i c))⟩⟩), fun d z I K hz m hK => M d z I K hz m (v12_coinsBy_64 hs hz ⟨fun q => absurd ((iN_le (by omega) (by omega)).mp q) (by omega), fun _ => gT h3 (hK.i m)⟩)⟩
                have hsz := o.2.2.2.2.2.2 s (by omega)
                rw [ei] at h3
                exact absurd ((iN_lt (by omega) (by omega)).mp h3) (by omega)
            · obtain ⟨f, rfl, hf⟩ := lt0_of h3
              obtain ⟨ans, S', o', c', m'⟩ := cby_l (g := g) (s := s) (f := f) (n := n) hs (by omega) hn n 0 0 S (by omega) o (by omega) (by omega)
              exact ⟨ans, S', o', fun d z I K hz c hK => C d z I K hz c (c' d z I K hz c hK), fun d z I K hz m hK => M d z I K hz m (m' d z I K hz m hK)⟩
          · refine ⟨iM 13, S, o, fun d z I K hz c hK => v11_coinsBy hs hz (g4 (by omega) rfl (gT h2 (gT h4 (c_isMissing hs hz c (by omega) (fun w => absurd w f1) (fun _ => gT rfl (gF (by rw [(c.sh (s := s) (by omega)).1]; exact f2) (hK.i c))))))), fun d z I K hz m hK => v12_coinsBy hs hz (gT h1 (gT h2 (gT h4 ⟨inB_n (by omega) (by omega), ?_⟩)))⟩
            rw [iN_toN (by omega), m.sf]
            exact gF f1 (gF f2 (hK.i m))
      · exact ⟨iM 2, S, o, fun d z I K hz c hK => v11_coinsBy hs hz (g4 (by omega) rfl (gT h2 (gF h4 (hK.i c)))), fun d z I K hz m hK => v12_coinsBy hs hz (gT h1 (gT h2 (gF h4 (hK.i m))))⟩
    · exact ⟨iM 2, S, o, fun d z I K hz c hK => v11_coinsBy hs hz (g4 (by omega) rfl (gF h2 (hK.i c))), fun d z I K hz m hK => v12_coinsBy hs hz (gT h1 (gF h2 (hK.i m)))⟩
  · exact ⟨iM 2, S, o, fun d z I K hz c hK => v11_coinsBy hs hz (g4n h1 (hK.i c)), fun d z I K hz m hK => v12_coinsBy hs hz (gF h1 (hK.i m))⟩
end PK
