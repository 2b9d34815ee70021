/-! the reference reads one token -/
def rtN (k : Nat) : Int32 := if k < 3 then iN 3 else if k = 3 then iN 4 else if k = 4 then iN 5 else if k = 5 then iN 6 else if k ≤ 11 then iN 2 else if k = 12 then iN 40 else if k = 13 then iN 41 else if k = 14 then iN 59 else if k = 15 then iN 43 else if k = 16 then iN 45 else if k = 17 then iN 42 else if k = 18 then iN 60 else if k = 19 then iN 61 else if k = 20 then iN 1 else if k = 21 then iN 0 else iM 1
theorem rt_f : ∀ k, k < 23 → (rtN k = iN 1 ↔ k = 20) ∧ (rtN k = iN 2 ↔ 6 ≤ k ∧ k ≤ 11) ∧ (rtN k = iN 6 ↔ k = 5) ∧ (rtN k = iN 45 ↔ k = 16) ∧ (rtN k = iN 40 ↔ k = 12) ∧ (rtN k = iN 59 ↔ k = 14) ∧ (rtN k = iN 41 ↔ k = 13) ∧ (rtN k = iN 3 ↔ k < 3) ∧ (rtN k = iN 0 ↔ k = 21) ∧ (rtN k = iN 4 ↔ k = 3) ∧ (rtN k = iN 5 ↔ k = 4) ∧ (rtN k = iN 60 ↔ k = 18) ∧ (rtN k = iN 61 ↔ k = 19) ∧ (rtN k = iN 43 ↔ k = 15) ∧ (rtN k = iN 42 ↔ k = 17) := by decide +kernel
def LMt (I J : Is) (e : Nat) : Prop := Of [101] I J ∧ (∀ i, (i < 23 ∨ 26 < i) → J 101 i = I 101 i) ∧ J 101 23 = iN e
def NxO (T : Nat → Nat) (n : Nat) (I : Is) : Prop := I 101 8 = iN n ∧ (∀ i, I 106 i = iN (T i)) ∧ ∀ i, i < 96 → I 114 i = iN (wrdN.getD i 0)
def VlO (J : Is) (k v : Nat) : Prop := (k = 20 → J 101 26 = iN v) ∧ (6 ≤ k ∧ k ≤ 11 → J 101 26 = iN (k - 6)) ∧ (k < 3 → J 101 26 = iN k)
section MLX
variable {g : Gt} {d : Nat} {z : Zs} {I J : Is} {T : Nat → Nat} {n e s : Nat}
theorem LMt.me (h : LMt I J e) (e' : Nat) : LMt I (up2 J 101 23 (iN e')) e' := ⟨h.1.upt (by simp) _ _, fun i hi => by rw [up2_i _ _ (by omega)]; exact h.2.1 i hi, up2_s _ _ _ _⟩
theorem LMt.mo (h : LMt I J e) {i : Nat} (hi : i = 24 ∨ i = 25 ∨ i = 26) (v : Int32) : LMt I (up2 J 101 i v) e := ⟨h.1.upt (by simp) _ _, fun j hj => by rw [up2_i _ _ (by omega)]; exact h.2.1 j hj, by rw [up2_i _ _ (by omega)]; exact h.2.2⟩
theorem NxO.of {L : List Nat} (h : NxO T n I) (e : Of L I J) (h8 : J 101 8 = I 101 8) (hL : 106 ∉ L ∧ 114 ∉ L) : NxO T n J := by
  unfold NxO; rw [h8, e 106 hL.1, e 114 hL.2]; exact h
theorem NxO.lm (h : NxO T n I) (m : LMt I J e) : NxO T n J := h.of m.1 (m.2.1 8 (by omega)) (by simp)
-- words
theorem wf_2 {k : Nat} {K : Int32 → Is → Prop} (hs : GS g) (hz : Sh z) (hT : TpO T n) (hN : NxO T n J) (he : e ≤ n) (hse : s ≤ e) (hk : k < 12) (hy : mdB T s e k = true → K (iN k) J) (hn : ¬ mdB T s e k = true → WPc g m12_wordFrom d 0 0 2 [(0, .ref 101), (1, .int (iN s)), (2, .int (iN e)), (3, .int (iN (k + 1)))] [] z J (Qi z K)) : ∀ (r c : Nat), c + r = 8 → WPc g m12_wordFrom d 0 0 26 [(0, .ref 101), (1, .int (iN s)), (2, .int (iN e)), (3, .int (iN k)), (4, .int (bN (Nat.ble (e - s) 8 && alF (fun i => Nat.beq (wrdN.getD (8 * k + i) 0) (chW T s e i)) c))), (5, .int (iN c))] [] z J (Qi z K)
  | 0, c, hc => by
    obtain rfl : c = 8 := by omega
    refine v12_wordFrom_26 hs hz ⟨fun _ => ?_, fun q => absurd ((iN_le (by omega) (by omega)).mpr (Nat.le_refl _)) q⟩
    rw [iN_add]
    change (bN (mdB T s e k) = iN 0 → _) ∧ (¬ bN (mdB T s e k) = iN 0 → _)
    cases hb : mdB T s e k with
    | false => exact bN_f (hn (by rw [hb]; decide))
    | true => exact bN_t (hy hb)
  | r + 1, c, hc => by
    have n6 := hT.1
    have ih := wf_2 hs hz hT hN he hse hk hy hn r (c + 1) (by omega)
    refine v12_wordFrom_26 hs hz ⟨fun q => absurd ((iN_le (by omega) (by omega)).mp q) (by omega), fun _ => ?_⟩
    have ea : alF (fun i => Nat.beq (wrdN.getD (8 * k + i) 0) (chW T s e i)) (c + 1) = (alF (fun i => Nat.beq (wrdN.getD (8 * k + i) 0) (chW T s e i)) c && Nat.beq (wrdN.getD (8 * k + c) 0) (chW T s e c)) := rfl
    rw [ea] at ih
    cases hb : (Nat.ble (e - s) 8 && alF (fun i => Nat.beq (wrdN.getD (8 * k + i) 0) (chW T s e i)) c) with
    | false =>
      have nm : ¬ mdB T s e k = true := fun q => by
        have q := (Bool.and_eq_true _ _).mp (show (Nat.ble (e - s) 8 && alF (fun i => Nat.beq (wrdN.getD (8 * k + i) 0) (chW T s e i)) 8) = true from q)
        rw [q.1, Bool.true_and] at hb
        rw [alF_i.mpr (fun i hi => alF_i.mp q.2 i (by omega))] at hb
        cases hb
      rw [iN_add]
      exact bN_f (bN_f (hn nm))
    | true =>
      have hq := (Bool.and_eq_true _ _).mp hb
      rw [hq.1, hq.2, Bool.true_and, Bool.true_and] at ih
      have wb : wrdN.getD (8 * k + c) 0 < 256 := by
        have : ∀ i, i < 96 → wrdN.getD i 0 < 256 := by decide +kernel
        exact this _ (by omega)
      have go : ∀ x, x < 256 → x = chW T s e c → (iN (wrdN.getD (8 * k + c) 0) = iN x → WPc g m12_wordFrom d 0 0 26 [(0, .ref 101), (1, .int (iN s)), (2, .int (iN e)), (3, .int (iN k)), (4, .int (iN 1)), (5, .int (iN c + iN 1))] [] z J (Qi z K)) ∧ (¬ iN (wrdN.getD (8 * k + c) 0) = iN x → WPc g m12_wordFrom d 0 0 26 [(0, .ref 101), (1, .int (iN s)), (2, .int (iN e)), (3, .int (iN k)), (4, .int (iN 0)), (5, .int (iN c + iN 1))] [] z J (Qi z K)) := fun x hx ex => by
        rw [iN_inj (by omega) (by omega), iN_add, ex]
        refine ⟨fun q => ?_, fun q => ?_⟩
        · rw [q, Nat.beq_refl] at ih; exact ih
        · rw [show Nat.beq (wrdN.getD (8 * k + c) 0) (chW T s e c) = false from (by
            cases hbq : Nat.beq (wrdN.getD (8 * k + c) 0) (chW T s e c) with
            | false => rfl
            | true => exact absurd (Nat.eq_of_beq_eq_true hbq) q)] at ih
          exact ih
      refine bN_t ?_
      rw [iN_mul, iN_add, iN_add, iN_toN (by omega), iN_toN (by omega), hN.2.2 _ (by omega), hN.2.1, iN_le (by omega) (by omega)]
      refine ⟨inB_n (by omega) (by omega), fun q => ?_, fun q => ⟨inB_n (by omega) (by omega), ?_⟩⟩
      · exact go 32 (by omega) (by unfold chW; rw [if_neg (by omega)])
      · have := hT.2 (s + c)
        exact go (T (s + c)) (by omega) (by unfold chW; rw [if_pos (by omega)])
theorem wf_1 {K : Int32 → Is → Prop} (hs : GS g) (hz : Sh z) (hT : TpO T n) (hN : NxO T n J) (he : e ≤ n) (hse : s ≤ e) : ∀ (r k : Nat), k + r = 12 → K (iN (wkM T s e r k)) J → WPc g m12_wordFrom d 0 0 2 [(0, .ref 101), (1, .int (iN s)), (2, .int (iN e)), (3, .int (iN k))] [] z J (Qi z K)
  | 0, k, hk, hK => by
    obtain rfl : k = 12 := by omega
    exact v12_wordFrom_2 hs ⟨fun _ => hK, fun q => absurd ((iN_le (by omega) (by omega)).mpr (Nat.le_refl _)) q⟩
  | r + 1, k, hk, hK => by
    have n6 := hT.1
    have e0 : wkM T s e (r + 1) k = if mdB T s e k = true then k else wkM T s e r (k + 1) := rfl
    rw [e0] at hK
    have st := wf_2 (d := d) (K := K) hs hz hT hN he hse (show k < 12 by omega) (fun q => by rw [if_pos q] at hK; exact hK) (fun q => wf_1 hs hz hT hN he hse r (k + 1) (by omega) (by rw [if_neg q] at hK; exact hK)) 8 0 rfl
    rw [show alF (fun i => Nat.beq (wrdN.getD (8 * k + i) 0) (chW T s e i)) 0 = true from rfl, Bool.and_true] at st
    refine v12_wordFrom_2 hs ⟨fun q => absurd ((iN_le (by omega) (by omega)).mp q) (by omega), fun _ => ?_⟩
    rw [iN_sub (by omega), iN_lt (by omega) (by omega)]
    refine ⟨fun q => ?_, fun q => ?_⟩
    · rw [show Nat.ble (e - s) 8 = false from (by
        cases hb : Nat.ble (e - s) 8 with
        | false => rfl
        | true => have := Nat.ble_eq.mp hb; omega)] at st
      exact st
    · rw [Nat.ble_eq.mpr (by omega)] at st
      exact st
-- letters
theorem nw_l {e' : Nat} {K : Is → Prop} (hs : GS g) (hz : Sh z) (hT : TpO T n) (hN : NxO T n I) (he : e' ≤ n) (hse : s ≤ e') (hl : ∀ i, s ≤ i → i < e' → T i ≠ 32) (hK : ∀ J, LMt I J e' → J 101 24 = iN s → J 101 25 = rtN (wkC T s e' 12) → VlO J (wkC T s e' 12) 0 → K J) : ∀ (f e : Nat) (J : Is), e + f = n → runP ltB T n f e = e' → LMt I J e → J 101 24 = iN s → WPc g m12_next (d + 1) 0 0 103 [(0, .ref 101)] [] z J (Qv z K) := by
  have n6 := hT.1
  have fin : ∀ (J : Is), LMt I J e' → J 101 24 = iN s → WPc g m12_next (d + 1) 0 0 146 [(0, .ref 101)] [] z J (Qv z K) := fun J h h24 => by
    refine v12_next_146 hs hz ?_
    rw [h24, h.2.2]
    refine v12_wordFrom hs (wf_1 hs hz hT (hN.lm h) he hse 12 0 rfl ?_)
    have put : ∀ (x v : Int32) (k : Nat), x = rtN k → (k = 20 → v = iN 0) → (6 ≤ k ∧ k ≤ 11 → v = iN (k - 6)) → (k < 3 → v = iN k) → wkC T s e' 12 = k → K (up2 (up2 J 101 25 x) 101 26 v) := fun x v k h1 h2 h3 h4 h5 => by
      rw [h5] at hK
      refine hK _ ((h.mo (by omega) _).mo (by omega) _) (by rw [up2_i _ _ (by omega), up2_i _ _ (by omega)]; exact h24) (by rw [up2_i _ _ (by omega), up2_s]; exact h1) ⟨fun q => by rw [up2_s]; exact h2 q, fun q => by rw [up2_s]; exact h3 q, fun q => by rw [up2_s]; exact h4 q⟩
    rcases wkM_eq hl 12 0 rfl (fun j hj => absurd hj (by omega)) with ⟨a, b⟩ | ⟨a, b⟩
    · generalize hk : wkM T s e' 12 0 = k at a b
      rw [iN_le (by omega) (by omega), iN_le (by omega) (by omega), iN_inj (by omega) (by omega)]
      refine ⟨fun q => ⟨fun q2 => ⟨fun q3 => by omega, fun _ => ?_⟩, fun q2 => ?_⟩, fun q => ?_⟩
      · refine v12_next_195 hs hz (gT ((iN_le (by omega) (by omega)).mpr q) ?_)
        rw [iN_add, iN_sub (by omega), iN_sub (by omega)]
        have e1 : pmK k = k - 6 := by unfold pmK; rw [if_neg (by omega), if_neg (by omega)]
        rw [e1] at b
        refine put _ _ (k - 6) ?_ (fun w => by omega) (fun w => by omega) (fun w => by omega) b
        have key : k = 9 ∨ k = 10 ∨ k = 11 := by omega
        rcases key with rfl | rfl | rfl <;> rfl
      · refine v12_next_195 hs hz (gT ((iN_le (by omega) (by omega)).mpr q) ?_)
        rw [iN_sub (by omega)]
        have e1 : pmK k = k + 3 := by unfold pmK; rw [if_neg (by omega), if_pos (by omega)]
        rw [e1] at b
        refine put _ _ (k + 3) ?_ (fun w => by omega) (fun w => by rw [show k + 3 - 6 = k - 3 by omega]) (fun w => by omega) b
        have key : k = 3 ∨ k = 4 ∨ k = 5 ∨ k = 6 ∨ k = 7 ∨ k = 8 := by omega
        rcases key with rfl | rfl | rfl | rfl | rfl | rfl <;> rfl
      · refine v12_next_195 hs hz (gF (fun w => q ((iN_le (by omega) (by omega)).mp w)) ?_)
        have e1 : pmK k = k := by unfold pmK; rw [if_pos (by omega)]
        rw [e1] at b
        refine put _ _ k ?_ (fun w => by omega) (fun w => by omega) (fun w => rfl) b
        have key : k = 0 ∨ k = 1 ∨ k = 2 := by omega
        rcases key with rfl | rfl | rfl <;> rfl
    · rw [a]
      refine gT (by decide) (gT (by decide) (gT rfl (v12_next_195 hs hz (gT (by decide) ?_))))
      exact put _ _ 22 rfl (fun w => by omega) (fun w => by omega) (fun w => by omega) b
  intro f
  induction f with
  | zero =>
    intro e J hn hr h h24
    have hr : e = e' := hr
    rw [hr] at h
    refine v12_next_103 hs hz ?_
    rw [h.2.1 8 (by omega), hN.1, h.2.2]
    exact ⟨fun _ => fin J h h24, fun q => absurd ((iN_le (by omega) (by omega)).mpr (by omega)) q⟩
  | succ f ih =>
    intro e J hn hr h h24
    have c6 := hT.2 e
    refine v12_next_103 hs hz ?_
    rw [h.2.1 8 (by omega), hN.1, h.2.2, iN_toN (by omega), h.1 106 (by simp), hN.2.1]
    refine ⟨fun q => absurd ((iN_le (by omega) (by omega)).mp q) (by omega), fun _ => ⟨inB_n (by omega) (by omega), fun q => ?_, fun q => ?_⟩⟩
    · have q := (inR_p c6 (by omega) (by omega)).mp q
      rw [runP_yes (by omega) (ltB_i.mpr q)] at hr
      rw [iN_add]
      exact ih (e + 1) _ (by omega) hr (h.me (e + 1)) (by rw [up2_i _ _ (by omega)]; exact h24)
    · have q : ¬ (97 ≤ T e ∧ T e ≤ 122) := fun a => q ((inR_p c6 (by omega) (by omega)).mpr a)
      rw [runP_no (fun a => q (ltB_i.mp a.2))] at hr
      rw [hr] at h
      exact fin J h h24
-- digits
theorem nd_l {e' : Nat} {K : Is → Prop} (hs : GS g) (hz : Sh z) (hT : TpO T n) (hN : NxO T n I) (he : e' ≤ n) (hK : ∀ J, LMt I J e' → J 101 24 = iN s → J 101 25 = rtN (if e' - s ≤ 4 then 20 else 22) → (e' - s ≤ 4 → J 101 26 = iN (nuN T s (e' - s))) → K J) : ∀ (f k : Nat) (J : Is), s + k + f = n → runP dgB T n f (s + k) = e' → LMt I J (s + k) → J 101 24 = iN s → (k ≤ 4 → J 101 26 = iN (nuN T s k)) → WPc g m12_next (d + 1) 0 0 230 [(0, .ref 101), (2, .int (iN k))] [] z J (Qv z K) := by
  have n6 := hT.1
  have fin : ∀ (k : Nat) (J : Is), s + k = e' → LMt I J (s + k) → J 101 24 = iN s → (k ≤ 4 → J 101 26 = iN (nuN T s k)) → (iN k ≤ iN 4 → K (up2 J 101 25 (iN 1))) ∧ (¬ iN k ≤ iN 4 → K (up2 J 101 25 (iM 1))) := fun k J hk h h24 h26 => by
    obtain rfl : k = e' - s := by omega
    rw [hk] at h
    rw [iN_le (by omega) (by omega)]
    refine ⟨fun q => hK _ (h.mo (by omega) _) (by rw [up2_i _ _ (by omega)]; exact h24) (by rw [up2_s, if_pos q]; rfl) (fun q => by rw [up2_i _ _ (by omega)]; exact h26 q), fun q => hK _ (h.mo (by omega) _) (by rw [up2_i _ _ (by omega)]; exact h24) (by rw [up2_s, if_neg q]; rfl) (fun w => absurd w q)⟩
  intro f
  induction f with
  | zero =>
    intro k J hn hr h h24 h26
    refine v12_next_230 hs hz ?_
    rw [h.2.1 8 (by omega), hN.1, h.2.2]
    exact ⟨fun _ => fin k J hr h h24 h26, fun q => absurd ((iN_le (by omega) (by omega)).mpr (by omega)) q⟩
  | succ f ih =>
    intro k J hn hr h h24 h26
    have c6 := hT.2 (s + k)
    refine v12_next_230 hs hz ?_
    rw [h.2.1 8 (by omega), hN.1, h.2.2, iN_toN (by omega), h.1 106 (by simp), hN.2.1]
    refine ⟨fun q => absurd ((iN_le (by omega) (by omega)).mp q) (by omega), fun _ => ⟨inB_n (by omega) (by omega), fun q => ?_, fun q => ?_⟩⟩
    · have q := (inR_p c6 (by omega) (by omega)).mp q
      rw [runP_yes (by omega) (dgB_i.mpr q)] at hr
      rw [iN_le (by omega) (by omega), iN_add, iN_add]
      refine ⟨fun w => ih (k + 1) _ (by omega) hr ((h.mo (by omega) _).me (s + k + 1)) (by rw [up2_i _ _ (by omega), up2_i _ _ (by omega)]; exact h24) (fun w2 => by omega), fun w => ?_⟩
      rw [h26 (by omega), iN_mul, iN_add, iN_sub (by omega)]
      exact ih (k + 1) _ (by omega) hr ((h.mo (by omega) _).me (s + k + 1)) (by rw [up2_i _ _ (by omega), up2_i _ _ (by omega)]; exact h24) (fun _ => by rw [up2_i _ _ (by omega), up2_s]; rfl)
    · have q : ¬ (48 ≤ T (s + k) ∧ T (s + k) ≤ 57) := fun a => q ((inR_p c6 (by omega) (by omega)).mpr a)
      rw [runP_no (fun a => q (dgB_i.mp a.2))] at hr
      exact fin k J hr h h24 h26
theorem n5_l {s : Nat} {K : Is → Prop} (hs : GS g) (hz : Sh z) (hT : TpO T n) (hN : NxO T n I) (hsn : s ≤ n) (h : LMt I J s) (hK : ∀ J, LMt I J (lxN T n s).2.2.2 → J 101 24 = iN (lxN T n s).2.2.1 → J 101 25 = rtN (lxN T n s).1 → VlO J (lxN T n s).1 (lxN T n s).2.1 → K J) : WPc g m12_next (d + 1) 0 0 52 [(0, .ref 101)] [] z J (Qv z K) := by
  have n6 := hT.1
  have c6 := hT.2 s
  refine v12_next_52 hs hz ?_
  unfold lxN at hK
  rw [h.2.1 8 (by omega), hN.1, h.2.2]
  have hZ : LMt I (up2 (up2 (up2 J 101 24 (iN s)) 101 25 (iN 0)) 101 26 (iN 0)) s := ((h.mo (by omega) _).mo (by omega) _).mo (by omega) _
  have z24 : up2 (up2 (up2 J 101 24 (iN s)) 101 25 (iN 0)) 101 26 (iN 0) 101 24 = iN s := by rw [up2_i _ _ (by omega), up2_i _ _ (by omega), up2_s]
  have z26 : up2 (up2 (up2 J 101 24 (iN s)) 101 25 (iN 0)) 101 26 (iN 0) 101 26 = iN 0 := up2_s _ _ _ _
  rw [iN_inj (by omega) (by omega), iN_toN (by omega), h.1 106 (by simp), hN.2.1]
  refine ⟨fun q => ?_, fun q => ⟨inB_n (by omega) (by omega), fun q2 => ?_, fun q2 => ⟨fun q3 => ?_, fun q3 => ?_⟩⟩⟩
  · rw [if_pos (by omega)] at hK
    exact hK _ hZ z24 (by rw [up2_i _ _ (by omega), up2_s]; rfl) ⟨fun w => absurd (show (21 : Nat) = 20 from w) (by decide), fun w => absurd (show 6 ≤ (21 : Nat) ∧ (21 : Nat) ≤ 11 from w) (by decide), fun w => absurd (show (21 : Nat) < 3 from w) (by decide)⟩
  · have q2 := ltB_i.mpr ((inR_p c6 (by omega) (by omega)).mp q2)
    rw [if_neg (by omega), if_pos q2] at hK
    have b1 := runP_le ltB T n (n - s) s hsn
    have b2 := runP_ge ltB T n (n - s) s
    exact nw_l (s := s) hs hz hT hN b1 b2 (fun i a b w => by have := ltB_i.mp (runP_all ltB T n (n - s) s i a b); omega) hK (n - s) s _ (by omega) rfl hZ z24
  · have q2 : ¬ ltB (T s) = true := fun a => q2 ((inR_p c6 (by omega) (by omega)).mpr (ltB_i.mp a))
    have q3 := dgB_i.mpr ((inR_p c6 (by omega) (by omega)).mp q3)
    rw [if_neg (by omega), if_neg q2, if_pos q3] at hK
    have b1 := runP_le dgB T n (n - s) s hsn
    refine nd_l (s := s) hs hz hT hN b1 (fun J a b c e => hK J a b c ?_) (n - s) 0 _ (by omega) rfl hZ z24 (fun _ => z26)
    by_cases w : runP dgB T n (n - s) s - s ≤ 4
    · refine ⟨fun _ => e w, fun v => ?_, fun v => ?_⟩
      · have v : 6 ≤ (if runP dgB T n (n - s) s - s ≤ 4 then 20 else 22) ∧ (if runP dgB T n (n - s) s - s ≤ 4 then 20 else 22) ≤ 11 := v
        rw [if_pos w] at v; omega
      · have v : (if runP dgB T n (n - s) s - s ≤ 4 then 20 else 22) < 3 := v
        rw [if_pos w] at v; omega
    · refine ⟨fun v => ?_, fun v => ?_, fun v => ?_⟩
      · have v : (if runP dgB T n (n - s) s - s ≤ 4 then 20 else 22) = 20 := v
        rw [if_neg w] at v; omega
      · have v : 6 ≤ (if runP dgB T n (n - s) s - s ≤ 4 then 20 else 22) ∧ (if runP dgB T n (n - s) s - s ≤ 4 then 20 else 22) ≤ 11 := v
        rw [if_neg w] at v; omega
      · have v : (if runP dgB T n (n - s) s - s ≤ 4 then 20 else 22) < 3 := v
        rw [if_neg w] at v; omega
  · have q2 : ¬ ltB (T s) = true := fun a => q2 ((inR_p c6 (by omega) (by omega)).mpr (ltB_i.mp a))
    have q3 : ¬ dgB (T s) = true := fun a => q3 ((inR_p c6 (by omega) (by omega)).mpr (dgB_i.mp a))
    rw [if_neg (by omega), if_neg q2, if_neg q3] at hK
    have s6 := sgC_v (T s)
    have vl : ∀ (J : Is), VlO J (sgC (T s)) 0 := fun J => ⟨fun w => by omega, fun w => by omega, fun w => by omega⟩
    have go : ∀ c, T s = c → rtN (sgC c) = iN c → WPc g m12_next (d + 1) 0 0 374 [(0, .ref 101), (1, .int (iN (T s)))] [] z (up2 (up2 (up2 J 101 24 (iN s)) 101 25 (iN 0)) 101 26 (iN 0)) (Qv z K) := fun c hc er => by
      refine v12_next_374 hs (v12_next_379 hs hz (gF (by decide) ?_))
      rw [hZ.2.2, iN_add]
      exact hK _ ((hZ.mo (by omega) _).me (s + 1)) (by rw [up2_i _ _ (by omega), up2_i _ _ (by omega)]; exact z24) (by rw [up2_i _ _ (by omega), up2_s, hc]; exact er.symm) (vl _)
    rw [iN_inj (by omega) (by omega), iN_inj (by omega) (by omega), iN_inj (by omega) (by omega), iN_inj (by omega) (by omega), iN_inj (by omega) (by omega), iN_inj (by omega) (by omega), iN_inj (by omega) (by omega), iN_inj (by omega) (by omega)]
    refine ⟨fun c => go 40 c rfl, fun c0 => ⟨fun c => go 41 c rfl, fun c1 => ⟨fun c => go 59 c rfl, fun c2 => ⟨fun c => go 43 c rfl, fun c3 => ⟨fun c => go 45 c rfl, fun c4 => ⟨fun c => go 42 c rfl, fun c5 => ⟨fun c => go 60 c rfl, fun c6' => ⟨fun c => go 61 c rfl, fun c7 => ?_⟩⟩⟩⟩⟩⟩⟩⟩
    have e22 : sgC (T s) = 22 := by unfold sgC; rw [if_neg c0, if_neg c1, if_neg c2, if_neg c3, if_neg c4, if_neg c5, if_neg c6', if_neg c7]
    refine v12_next_379 hs hz (gT rfl ?_)
    rw [hZ.2.2, iN_add]
    exact hK _ ((hZ.mo (by omega) _).me (s + 1)) (by rw [up2_i _ _ (by omega), up2_i _ _ (by omega)]; exact z24) (by rw [up2_i _ _ (by omega), up2_s]; show _ = rtN (sgC (T s)); rw [e22]; rfl) (vl _)
theorem n0_l {s : Nat} {K : Is → Prop} (hs : GS g) (hz : Sh z) (hT : TpO T n) (hN : NxO T n I) (hsn : s ≤ n) (hK : ∀ J, LMt I J (lxN T n s).2.2.2 → J 101 24 = iN (lxN T n s).2.2.1 → J 101 25 = rtN (lxN T n s).1 → VlO J (lxN T n s).1 (lxN T n s).2.1 → K J) : ∀ (f e : Nat) (J : Is), e + f = n → runP blB T n f e = s → LMt I J e → WPc g m12_next (d + 1) 0 0 0 [(0, .ref 101)] [] z J (Qv z K)
  | 0, e, J, hn, hr, h => by
    have n6 := hT.1
    have hr : e = s := hr
    rw [hr] at h
    refine v12_next_0 hs hz ?_
    rw [h.2.1 8 (by omega), hN.1, h.2.2]
    exact ⟨fun _ => n5_l hs hz hT hN hsn h hK, fun q => absurd ((iN_le (by omega) (by omega)).mpr (by omega)) q⟩
  | f + 1, e, J, hn, hr, h => by
    have n6 := hT.1
    have c6 := hT.2 e
    refine v12_next_0 hs hz ?_
    rw [h.2.1 8 (by omega), hN.1, h.2.2, iN_toN (by omega), h.1 106 (by simp), hN.2.1, iN_inj (by omega) (by omega), iN_inj (by omega) (by omega)]
    have yes : blB (T e) = true → WPc g m12_next (d + 1) 0 0 0 [(0, .ref 101)] [] z (up2 J 101 23 (iN e + iN 1)) (Qv z K) := fun q => by
      rw [runP_yes (by omega) q] at hr
      rw [iN_add]
      exact n0_l hs hz hT hN hsn hK f (e + 1) _ (by omega) hr (h.me (e + 1))
    refine ⟨fun q => absurd ((iN_le (by omega) (by omega)).mp q) (by omega), fun _ => ⟨inB_n (by omega) (by omega), fun q => yes (blB_i.mpr (Or.inl q)), fun q => ⟨fun q2 => yes (blB_i.mpr (Or.inr q2)), fun q2 => ?_⟩⟩⟩
    rw [runP_no (fun a => by rcases blB_i.mp a.2 with w | w; exact q w; exact q2 w)] at hr
    rw [hr] at h
    exact n5_l hs hz hT hN hsn h hK
/-- the reference goes on by one token -/
theorem c_nextT {ts : List Tk} {K : Is → Prop} (hs : GS g) (hz : Sh z) (hT : TpO T n) (hN : NxO T n I) (he : e ≤ n) (h23 : I 101 23 = iN e) (ht : ts = tks T n e) (hK : ∀ J e', LMt I J e' → e' ≤ n → J 101 24 = iN (hdS n ts) → J 101 25 = rtN (hdK ts) → VlO J (hdK ts) (hdN ts) → ts.tail = tks T n e' → K J) : Wv g m12_next (d + 1) [.ref 101] z I K := by
  have b := lxE_b (T := T) he
  have b1 := runP_le blB T n (n - e) e he
  obtain ⟨q1, q2, q3, q4⟩ := hd_tks (T := T) he
  refine Wv_in (by decide +kernel) (Nat.le_of_ble_eq_true rfl) (n0_l (I := I) hs hz hT hN b1 (fun J h a c v => hK J _ h b.2.2.2.2.1 ?_ ?_ ?_ ?_) (n - e) e I (by omega) rfl ⟨Of.rf _ I, fun _ _ => rfl, h23⟩)
  · rw [ht, q2]; exact a
  · rw [ht, q1]; exact c
  · rw [ht, q1]
    refine ⟨fun w => ?_, v.2⟩
    rw [q3 (by rw [q1]; exact w)]; exact v.1 w
  · rw [ht]; exact q4
end MLX
