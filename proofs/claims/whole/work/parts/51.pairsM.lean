/-! pair: feed -/
section PM
variable {g : Gt} {d : Nat} {z : Zs} {I J : Is} {S : AS}
theorem OKS.uTp {b : Nat} (o : OKS S) (hb : b ≤ 255) (ht : sTn S < 160) : OKS (tpU S b) := ⟨⟨o.1.1, o.1.2.1, o.1.2.2.1, o.1.2.2.2.1, o.1.2.2.2.2.1, by show sTn S + 1 ≤ 160; omega⟩, o.2.1, o.2.2.1, fun i => by
  show up1 (S.1 5) (sTn S) b i ≤ 255
  unfold up1; split
  · exact hb
  · exact o.2.2.2.1 i, o.2.2.2.2⟩
theorem c5_put {b : Nat} {K : Is → Prop} (hs : GS g) (hz : Sh z) (c : CI z I S) (ht : sTn S < 160) (hK : ∀ J, CI z J (tpU S b) → KeepM I J → K J) : Wv g m5_put d [.ref 22, .int (iN b)] z I K := by
  refine v5_put hs hz ⟨fun q => ?_, fun _ => ?_⟩
  · rw [c.tn] at q; exact absurd ((iN_le (by omega) (by omega)).mp q) (by omega)
  · rw [c.tn, iN_toN (by omega), iN_add]
    refine ⟨inB_n (by omega) (by omega), hK _ ?_ (fun k a b => by rw [up2_ro _ (by omega), up2_ro _ (by omega)])⟩
    have fx : ∀ k, k ≠ 22 → k ≠ 23 → up2 (up2 I 23 (sTn S) (iN b)) 22 3 (iN (sTn S + 1)) k = I k := fun k a e => by rw [up2_ro _ a, up2_ro _ e]
    obtain ⟨a1, a2, a3, a4, a5, a6, a7⟩ := id c
    refine ⟨⟨?_, ?_, ?_, ?_, ?_, ?_⟩, a2.cg2 (fun q k hq => fx q (fun e => ?_) (fun e => ?_)), fun p hp => (a3 p hp).cg (fx _ (by omega) (by omega)), ⟨fun p hp => (a4.1 p hp).cg (fx _ (by omega) (by omega)), ?_⟩, fun i => ?_, ⟨fun t ht => ?_, a6.2⟩, fun s hs => ?_⟩
    · rw [fx 8 (by omega) (by omega)]; exact a1.1
    · rw [fx 8 (by omega) (by omega)]; exact a1.2.1
    · rw [fx 8 (by omega) (by omega)]; exact a1.2.2.1
    · rw [fx 8 (by omega) (by omega)]; exact a1.2.2.2.1
    · rw [fx 8 (by omega) (by omega)]; exact a1.2.2.2.2.1
    · rw [up2_ra, up1_s]; rfl
    · have h5 : kcl k ≠ 5 := by unfold kcl; split <;> omega
      rw [← hq, e, hz.t 22 rfl] at h5; exact h5 rfl
    · have hk := kcl_lt k
      rw [← hq, e, hz.t 23 rfl] at hk; omega
    · rw [fx 26 (by omega) (by omega)]; exact a4.2
    · show _ = iN (up1 (S.1 5) (sTn S) b i)
      rw [up2_ro _ (by omega), up2_ra]; unfold up1; split
      · rfl
      · exact a5 i
    · obtain ⟨t6, a, e, r⟩ := a6.1 t ht
      have ra := r.2.1
      refine ⟨t6, a, e, r.1, r.2.1, fun p hp => ?_, r.2.2.2.1, fun k hk => ?_⟩
      · rw [fx _ (by omega) (by omega)]; exact r.2.2.1 p hp
      · rw [fx _ (by omega) (by omega)]; exact r.2.2.2.2 k hk
    · rw [fx (89 + 2 * s) (by omega) (by omega), fx (89 + 2 * s + 1) (by omega) (by omega)]; exact a7 s hs
theorem MI.uTp {b : Nat} (m : MI I S) : MI (up2 (up2 I 106 (sTn S) (iN b)) 101 8 (iN (sTn S + 1))) (tpU S b) := by
  have fx : ∀ k, k ≠ 101 → k ≠ 106 → up2 (up2 I 106 (sTn S) (iN b)) 101 8 (iN (sTn S + 1)) k = I k := fun k a e => by rw [up2_ro _ a, up2_ro _ e]
  have f1 : ∀ j, j ≠ 8 → up2 (up2 I 106 (sTn S) (iN b)) 101 8 (iN (sTn S + 1)) 101 j = I 101 j := fun j hj => by rw [up2_ra, up1_o _ hj, up2_ro _ (by omega)]
  obtain ⟨m1, m2, m3, m4, m5, m6, m7, m8, m9, m10, m11, m12, m13, m14⟩ := m
  refine ⟨⟨?_, ?_, ?_, ?_, ?_, ?_⟩, ?_, ?_, ?_, ?_, ?_, fun i => ?_, ?_, ?_, ?_, ?_, ?_, ?_, ?_⟩
  · rw [f1 0 (by omega)]; exact m1.1
  · rw [f1 4 (by omega)]; exact m1.2.1
  · rw [f1 6 (by omega)]; exact m1.2.2.1
  · rw [up2_ra, up1_s]; rfl
  · rw [f1 11 (by omega)]; exact m1.2.2.2.2.1
  · rw [f1 12 (by omega)]; exact m1.2.2.2.2.2
  · rw [f1 13 (by omega), f1 14 (by omega), f1 15 (by omega), f1 16 (by omega), f1 17 (by omega)]; exact m2
  · rw [fx 102 (by omega) (by omega)]; exact m3
  · rw [fx 103 (by omega) (by omega)]; exact m4
  · rw [fx 104 (by omega) (by omega)]; exact m5
  · rw [fx 105 (by omega) (by omega)]; exact m6
  · show _ = iN (up1 (S.1 5) (sTn S) b i)
    rw [up2_ro _ (by omega), up2_ra]; unfold up1; split
    · rfl
    · exact m7 i
  · rw [fx 107 (by omega) (by omega)]; exact m8
  · rw [fx 108 (by omega) (by omega)]; exact m9
  · rw [fx 109 (by omega) (by omega)]; exact m10
  · rw [fx 110 (by omega) (by omega)]; exact m11
  · rw [fx 111 (by omega) (by omega)]; exact m12
  · rw [fx 112 (by omega) (by omega)]; exact m13
  · rw [fx 114 (by omega) (by omega)]; exact m14
/-- byte after byte -/
def fdS (S : AS) (f : Nat → Nat) : Nat → AS
  | 0 => S
  | n + 1 => tpU (fdS S f n) (f n)
theorem fdS_tn (S : AS) (f : Nat → Nat) : ∀ n, sTn (fdS S f n) = sTn S + n
  | 0 => rfl
  | n + 1 => by show sTn (fdS S f n) + 1 = _; rw [fdS_tn S f n]; omega
theorem fdS_ok (o : OKS S) {f : Nat → Nat} (hf : ∀ i, f i ≤ 255) : ∀ n, sTn S + n ≤ 160 → OKS (fdS S f n)
  | 0, _ => o
  | n + 1, h => (fdS_ok o hf n (by omega)).uTp (hf n) (by rw [fdS_tn]; omega)
def f5 (a b c e f : Nat) : Nat → Nat := fun i => if i = 0 then a else if i = 1 then b else if i = 2 then c else if i = 3 then e else f
theorem feed_m {n a b c e f : Nat} {K : Int32 → Is → Prop} (hs : GS g) (hz : Sh z) (hn : n ≤ 5) (h160 : sTn S + n ≤ 160) : ∀ (r k : Nat) (J : Is), k + r = n → MI J (fdS S (f5 a b c e f) k) → (∀ J2, MI J2 (fdS S (f5 a b c e f) n) → Of [101, 106] J J2 → K (iN (sTn S + n)) J2) → WPc g m12_feed (d + 3) 0 0 68 [(0, .ref 101), (1, .int (iN n)), (2, .int (iN a)), (3, .int (iN b)), (4, .int (iN c)), (5, .int (iN e)), (6, .int (iN f)), (7, .int (iN k))] [] z J (Qi z K)
  | 0, k, J, e1, m, hK => by
    obtain rfl : k = n := by omega
    refine v12_feed_68 hs hz ⟨fun _ => ?_, fun q => absurd ((iN_le (by omega) (by omega)).mpr (Nat.le_refl _)) q⟩
    rw [m.tn, fdS_tn]; exact hK J m (Of.rf _ J)
  | r + 1, k, J, e1, m, hK => by
    have tk := fdS_tn S (f5 a b c e f) k
    have nx : ∀ v, f5 a b c e f k = v → WPc g m12_feed (d + 3) 0 0 68 [(0, .ref 101), (1, .int (iN n)), (2, .int (iN a)), (3, .int (iN b)), (4, .int (iN c)), (5, .int (iN e)), (6, .int (iN f)), (7, .int (iN (k + 1)))] [] z (up2 (up2 J 106 (sTn (fdS S (f5 a b c e f) k)) (iN v)) 101 8 (iN (sTn (fdS S (f5 a b c e f) k) + 1))) (Qi z K) := fun v ev => by
      have m2 : MI _ (fdS S (f5 a b c e f) (k + 1)) := m.uTp (b := f5 a b c e f k)
      rw [ev] at m2
      exact feed_m hs hz hn h160 r (k + 1) _ (by omega) m2 (fun J2 hc hk => hK J2 hc ((((Of.rf _ J).upt (by simp) _ _).upt (by simp) _ _).tr hk))
    refine v12_feed_68 hs hz ⟨fun q => absurd ((iN_le (by omega) (by omega)).mp q) (by omega), fun _ => ?_⟩
    rw [m.tn, iN_toN (by omega), iN_add, iN_add, iN_inj (by omega) (by omega), iN_inj (by omega) (by omega), iN_inj (by omega) (by omega), iN_inj (by omega) (by omega)]
    have ib : inB (iN (sTn (fdS S (f5 a b c e f) k))) 160 = true := inB_n (by omega) (by omega)
    refine ⟨fun q => ⟨ib, nx a (by unfold f5; rw [if_pos q])⟩, fun q => ⟨fun q2 => ⟨ib, nx b (by unfold f5; rw [if_neg q, if_pos q2])⟩, fun q2 => ⟨fun q3 => ⟨ib, nx c (by unfold f5; rw [if_neg q, if_neg q2, if_pos q3])⟩, fun q3 => ⟨fun q4 => ⟨ib, nx e (by unfold f5; rw [if_neg q, if_neg q2, if_neg q3, if_pos q4])⟩, fun q4 => ⟨ib, nx f (by unfold f5; rw [if_neg q, if_neg q2, if_neg q3, if_neg q4])⟩⟩⟩⟩⟩
theorem feed_c {n a b c e f : Nat} {K : Int32 → Is → Prop} (hs : GS g) (hz : Sh z) (hn1 : 1 ≤ n) (hn : n ≤ 5) (h160 : sTn S + n ≤ 160) (m : CI z I S) (hK : ∀ J2, CI z J2 (fdS S (f5 a b c e f) n) → KeepM I J2 → K (iN (sTn S + n)) J2) : Wv g m5_put (d + 1) [.ref 22, .int (iN a)] z I (fun J3 => (iN n ≤ iN 1 → WPc g m11_feed (d + 2) 0 0 85 [(0, .ref 8), (1, .int (iN n)), (4, .int (iN c)), (5, .int (iN e)), (6, .int (iN f))] [] z J3 (Qi z K)) ∧ (¬ iN n ≤ iN 1 → Wv g m5_put (d + 1) [.ref 22, .int (iN b)] z J3 (fun J4 => WPc g m11_feed (d + 2) 0 0 85 [(0, .ref 8), (1, .int (iN n)), (4, .int (iN c)), (5, .int (iN e)), (6, .int (iN f))] [] z J4 (Qi z K)))) := by
  have tk := fdS_tn S (f5 a b c e f)
  have L : ∀ i, i < 100 → (iN n ≤ iN i ↔ n ≤ i) := fun i hi => iN_le (by omega) (by omega)
  have fin : ∀ J, CI z J (fdS S (f5 a b c e f) n) → KeepM I J → K (J 22 3) J := fun J cJ kJ => by rw [cJ.tn, tk]; exact hK J cJ kJ
  have s1 : fdS S (f5 a b c e f) 1 = tpU S a := rfl
  refine c5_put hs hz m (by omega) (fun J1 c1 k1 => ?_)
  rw [← s1] at c1
  rw [L 1 (by omega)]
  -- the last cuts, from below
  have A4 : ∀ J, CI z J (fdS S (f5 a b c e f) (min n 4)) → KeepM I J → WPc g m11_feed (d + 2) 0 0 113 [(0, .ref 8), (1, .int (iN n)), (6, .int (iN f))] [] z J (Qi z K) := fun J cJ kJ => by
    refine v11_feed_113 hs hz ?_
    rw [L 4 (by omega)]
    refine ⟨fun q => fin J (by rw [Nat.min_eq_left q] at cJ; exact cJ) kJ, fun q => ?_⟩
    rw [show min n 4 = 4 by omega] at cJ
    refine c5_put hs hz cJ (by rw [tk]; omega) (fun J2 c2 k2 => fin J2 (by rw [show n = 4 + 1 by omega]; exact c2) (kJ.tr k2))
  have A3 : ∀ J, CI z J (fdS S (f5 a b c e f) (min n 3)) → KeepM I J → WPc g m11_feed (d + 2) 0 0 99 [(0, .ref 8), (1, .int (iN n)), (5, .int (iN e)), (6, .int (iN f))] [] z J (Qi z K) := fun J cJ kJ => by
    refine v11_feed_99 hs hz ?_
    rw [L 3 (by omega)]
    refine ⟨fun q => A4 J (by rw [show min n 4 = min n 3 by omega]; exact cJ) kJ, fun q => ?_⟩
    rw [show min n 3 = 3 by omega] at cJ
    refine c5_put hs hz cJ (by rw [tk]; omega) (fun J2 c2 k2 => A4 J2 (by rw [show min n 4 = 3 + 1 by omega]; exact c2) (kJ.tr k2))
  have A2 : ∀ J, CI z J (fdS S (f5 a b c e f) (min n 2)) → KeepM I J → WPc g m11_feed (d + 2) 0 0 85 [(0, .ref 8), (1, .int (iN n)), (4, .int (iN c)), (5, .int (iN e)), (6, .int (iN f))] [] z J (Qi z K) := fun J cJ kJ => by
    refine v11_feed_85 hs hz ?_
    rw [L 2 (by omega)]
    refine ⟨fun q => A3 J (by rw [show min n 3 = min n 2 by omega]; exact cJ) kJ, fun q => ?_⟩
    rw [show min n 2 = 2 by omega] at cJ
    refine c5_put hs hz cJ (by rw [tk]; omega) (fun J2 c2 k2 => A3 J2 (by rw [show min n 3 = 2 + 1 by omega]; exact c2) (kJ.tr k2))
  refine ⟨fun q => A2 J1 (by rw [show min n 2 = 1 by omega]; exact c1) k1, fun q => ?_⟩
  exact c5_put hs hz c1 (by rw [tk]; omega) (fun J2 c2 k2 => A2 J2 (by rw [show min n 2 = 1 + 1 by omega]; exact c2) (k1.tr k2))
theorem P_feed (hs : GS g) (o : OKS S) (v1 v2 v3 v4 v5 v6 : Int32) : Pair g S m11_feed m12_feed [.int v1, .int v2, .int v3, .int v4, .int v5, .int v6] := by
  have t160 := o.1.2.2.2.2.2
  by_cases h1 : inR v1 (iN 1) (iN 5)
  · by_cases h2 : inR v2 (iN 0) (iN 255)
    · by_cases h3 : inR v3 (iN 0) (iN 255)
      · by_cases h4 : inR v4 (iN 0) (iN 255)
        · by_cases h5 : inR v5 (iN 0) (iN 255)
          · by_cases h6 : inR v6 (iN 0) (iN 255)
            · obtain ⟨n, rfl, hn1, hn⟩ := (inR_nat (by omega) (by omega)).mp h1
              obtain ⟨a, rfl, _, ha⟩ := (inR_nat (by omega) (by omega)).mp h2
              obtain ⟨b, rfl, _, hb⟩ := (inR_nat (by omega) (by omega)).mp h3
              obtain ⟨c', rfl, _, hc⟩ := (inR_nat (by omega) (by omega)).mp h4
              obtain ⟨e, rfl, _, he⟩ := (inR_nat (by omega) (by omega)).mp h5
              obtain ⟨f, rfl, _, hf⟩ := (inR_nat (by omega) (by omega)).mp h6
              have hr : ∀ {d : Nat} {z : Zs} {I : Is} {K : Int32 → Is → Prop}, Sh z → CI z I S → (sTn S + n ≤ 160 → K (iN 1) I) → (¬ sTn S + n ≤ 160 → K (iN 0) I) → Wi g m5_hasRoom d [.ref 22, .int (iN n)] z I K := fun {d z I K} hz c k1 k0 => by
                refine v5_hasRoom hs hz ?_
                rw [c.tn, iN_add, iN_lt (by omega) (by omega)]
                exact ⟨fun q => k0 (by omega), fun q => k1 (by omega)⟩
              by_cases h7 : sTn S + n ≤ 160
              · refine ⟨iN (sTn S + n), fdS S (f5 a b c' e f) n, fdS_ok o (fun i => by unfold f5; repeat (first | split | omega)) n h7, fun d z I K hz c hK => ?_, fun d z I K hz m hK => ?_⟩
                · exact v11_feed hs hz (gT h1 (gT h2 (gT h3 (gT h4 (gT h5 (gT h6 (hr hz c (fun _ => gF (fun q => absurd ((iN_inj (by omega) (by omega)).mp q) (by omega)) (feed_c hs hz hn1 hn h7 c (fun J2 c2 k2 => hK J2 c2 k2))) (fun q => absurd h7 q))))))))
                · refine v12_feed hs hz (gT h1 (gT h2 (gT h3 (gT h4 (gT h5 (gT h6 ?_))))))
                  rw [m.tn, iN_add]
                  exact gT ((iN_le (by omega) (by omega)).mpr h7) (feed_m hs hz hn h7 n 0 I (by omega) m (fun J2 c2 k2 => hK J2 c2 (KeepC.of k2)))
              · refine ⟨iM 4, S, o, fun d z I K hz c hK => v11_feed hs hz (gT h1 (gT h2 (gT h3 (gT h4 (gT h5 (gT h6 (hr hz c (fun q => absurd q h7) (fun _ => gT rfl (hK.i c))))))))), fun d z I K hz m hK => ?_⟩
                refine v12_feed hs hz (gT h1 (gT h2 (gT h3 (gT h4 (gT h5 (gT h6 ?_))))))
                rw [m.tn, iN_add]
                exact gF (fun q => h7 ((iN_le (by omega) (by omega)).mp q)) (hK.i m)
            · exact ⟨iM 2, S, o, fun d z I K hz c hK => v11_feed hs hz (gT h1 (gT h2 (gT h3 (gT h4 (gT h5 (gF h6 (hK.i c))))))), fun d z I K hz m hK => v12_feed hs hz (gT h1 (gT h2 (gT h3 (gT h4 (gT h5 (gF h6 (hK.i m)))))))⟩
          · exact ⟨iM 2, S, o, fun d z I K hz c hK => v11_feed hs hz (gT h1 (gT h2 (gT h3 (gT h4 (gF h5 (hK.i c)))))), fun d z I K hz m hK => v12_feed hs hz (gT h1 (gT h2 (gT h3 (gT h4 (gF h5 (hK.i m))))))⟩
        · exact ⟨iM 2, S, o, fun d z I K hz c hK => v11_feed hs hz (gT h1 (gT h2 (gT h3 (gF h4 (hK.i c))))), fun d z I K hz m hK => v12_feed hs hz (gT h1 (gT h2 (gT h3 (gF h4 (hK.i m)))))⟩
      · exact ⟨iM 2, S, o, fun d z I K hz c hK => v11_feed hs hz (gT h1 (gT h2 (gF h3 (hK.i c)))), fun d z I K hz m hK => v12_feed hs hz (gT h1 (gT h2 (gF h3 (hK.i m))))⟩
    · exact ⟨iM 2, S, o, fun d z I K hz c hK => v11_feed hs hz (gT h1 (gF h2 (hK.i c))), fun d z I K hz m hK => v12_feed hs hz (gT h1 (gF h2 (hK.i m)))⟩
  · exact ⟨iM 2, S, o, fun d z I K hz c hK => v11_feed hs hz (gF h1 (hK.i c)), fun d z I K hz m hK => v12_feed hs hz (gF h1 (hK.i m))⟩
end PM
