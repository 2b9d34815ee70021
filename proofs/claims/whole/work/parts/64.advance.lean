/-! the class reads one token -/
theorem up2_i (J : Is) (a : Nat) {i j : Nat} (h : j ≠ i) (v : Int32) : up2 J a i v a j = J a j := by rw [up2_ra, up1_o _ h]
theorem up2_s (J : Is) (a i : Nat) (v : Int32) : up2 J a i v a i = v := by rw [up2_ra, up1_s]
def LSt (T : Nat → Nat) (n : Nat) (I J : Is) (e s : Nat) : Prop := Of [22] I J ∧ (J 22 3 = iN n ∧ J 22 8 = I 22 8 ∧ J 22 9 = I 22 9) ∧ (∀ i, J 23 i = iN (T i)) ∧ J 22 5 = iN e ∧ J 22 4 = iN s
def TpO (T : Nat → Nat) (n : Nat) : Prop := n ≤ 160 ∧ ∀ i, T i ≤ 255
section ADV
variable {g : Gt} {d : Nat} {z : Zs} {I J : Is} {T : Nat → Nat} {n e s : Nat}
theorem LSt.me (h : LSt T n I J e s) (e' : Nat) : LSt T n I (up2 J 22 5 (iN e')) e' s := by
  obtain ⟨h1, ⟨h2, h3, h4⟩, h5, h6, h7⟩ := h
  exact ⟨h1.upt (by simp) _ _, ⟨by rw [up2_i _ _ (by omega)]; exact h2, by rw [up2_i _ _ (by omega)]; exact h3, by rw [up2_i _ _ (by omega)]; exact h4⟩, fun i => by rw [up2_ro _ (by omega)]; exact h5 i, up2_s _ _ _ _, by rw [up2_i _ _ (by omega)]; exact h7⟩
theorem LSt.ms (h : LSt T n I J e s) (s' : Nat) : LSt T n I (up2 J 22 4 (iN s')) e s' := by
  obtain ⟨h1, ⟨h2, h3, h4⟩, h5, h6, h7⟩ := h
  exact ⟨h1.upt (by simp) _ _, ⟨by rw [up2_i _ _ (by omega)]; exact h2, by rw [up2_i _ _ (by omega)]; exact h3, by rw [up2_i _ _ (by omega)]; exact h4⟩, fun i => by rw [up2_ro _ (by omega)]; exact h5 i, by rw [up2_i _ _ (by omega)]; exact h6, up2_s _ _ _ _⟩
theorem LSt.mo (h : LSt T n I J e s) {i : Nat} (hi : i = 6 ∨ i = 7) (v : Int32) : LSt T n I (up2 J 22 i v) e s := by
  obtain ⟨h1, ⟨h2, h3, h4⟩, h5, h6, h7⟩ := h
  exact ⟨h1.upt (by simp) _ _, ⟨by rw [up2_i _ _ (by omega)]; exact h2, by rw [up2_i _ _ (by omega)]; exact h3, by rw [up2_i _ _ (by omega)]; exact h4⟩, fun i => by rw [up2_ro _ (by omega)]; exact h5 i, by rw [up2_i _ _ (by omega)]; exact h6, by rw [up2_i _ _ (by omega)]; exact h7⟩
theorem inR_p {c a b : Nat} (hc : c ≤ 255) (ha : a ≤ 255) (hb : b ≤ 255) : inR (iN c) (iN a) (iN b) ↔ a ≤ c ∧ c ≤ b := inR_iN (by omega) (by omega) (by omega)
-- numbers
theorem rn_l {s e' : Nat} {K : Is → Prop} (hs : GS g) (hz : ShC z) (hT : TpO T n) (he : e' ≤ n) (hK : ∀ J, LSt T n I J e' s → J 22 6 = iN (if e' - s ≤ 4 then 20 else 22) → J 22 7 = iN (nuN T s (e' - s)) → K J) : ∀ (f k : Nat) (J : Is), s + k + f = n → runP dgB T n f (s + k) = e' → LSt T n I J (s + k) s → J 22 7 = iN (nuN T s k) → WPc g m5_readNumber (d + 2) 0 0 5 [(0, .ref 22)] [] z J (Qv z K) := by
  have n6 := hT.1
  have fin : ∀ (k : Nat) (J : Is), s + k = e' → LSt T n I J (s + k) s → J 22 7 = iN (nuN T s k) → WPc g m5_readNumber (d + 2) 0 0 68 [(0, .ref 22)] [] z J (Qv z K) := fun k J hk h h7 => by
    obtain rfl : k = e' - s := by omega
    rw [hk] at h
    refine w5_readNumber_68 hs hz ?_
    rw [h.2.2.2.1, h.2.2.2.2, iN_sub (by omega), iN_le (by omega) (by omega)]
    refine ⟨fun q => hK _ (h.mo (by omega) _) (by rw [up2_s, if_pos q]) (by rw [up2_i _ _ (by omega)]; exact h7), fun q => hK _ (h.mo (by omega) _) (by rw [up2_s, if_neg q]) (by rw [up2_i _ _ (by omega)]; exact h7)⟩
  intro f
  induction f with
  | zero =>
    intro k J hn hr h h7
    refine w5_readNumber_5 hs hz ?_
    rw [h.2.1.1, h.2.2.2.1]
    exact ⟨fun _ => fin k J hr h h7, fun q => absurd ((iN_le (by omega) (by omega)).mpr (by omega)) q⟩
  | succ f ih =>
    intro k J hn hr h h7
    have c6 := hT.2 (s + k)
    refine w5_readNumber_5 hs hz ?_
    rw [h.2.1.1, h.2.2.2.1, iN_toN (by omega), h.2.2.1, h7]
    refine ⟨fun q => absurd ((iN_le (by omega) (by omega)).mp q) (by omega), fun _ => ⟨inB_n (by omega) (by omega), fun q => ?_, fun q => ?_⟩⟩
    · have q := (inR_p c6 (by omega) (by omega)).mp q
      rw [runP_yes (by omega) (dgB_i.mpr q)] at hr
      rw [iN_mul, iN_add, iN_sub (by omega), iN_add]
      exact ih (k + 1) _ (by omega) hr ((h.mo (by omega) _).me (s + k + 1)) (by rw [up2_i _ _ (by omega), up2_s]; rfl)
    · have q : ¬ (48 ≤ T (s + k) ∧ T (s + k) ≤ 57) := fun a => q ((inR_p c6 (by omega) (by omega)).mpr a)
      rw [runP_no (fun a => q (dgB_i.mp a.2))] at hr
      exact fin k J hr h h7
-- words
theorem iw_l {w : Nat} {K : Int32 → Is → Prop} (hs : GS g) (hz : ShC z) (hT : TpO T n) (he : e ≤ n) (hse : s ≤ e) (hw : w < 12) (h : LSt T n I J e s) (h6 : e - s ≤ 6) (hK : K (bN (wdB T s e w)) J) : ∀ (r i : Nat), i + r = 6 → (∀ j, j < i → chW T s e j = wrC.getD (6 * w + j) 0) → WPc g m5_isWord (d + 4) 0 0 18 [(0, .ref 22), (1, .int (iN w)), (2, .int (iN i))] [] z J (Qi z K)
  | 0, i, ei, hm => by
    obtain rfl : i = 6 := by omega
    rw [wdB_i.mpr ⟨h6, hm⟩] at hK
    exact w5_isWord_18 hs hz ⟨fun _ => hK, fun q => absurd ((iN_le (by omega) (by omega)).mpr (Nat.le_refl _)) q⟩
  | r + 1, i, ei, hm => by
    have n6 := hT.1
    have cw := wr_c (6 * w + i) (by omega)
    have mid : WPc g m5_isWord (d + 4) 0 0 53 [(0, .ref 22), (1, .int (iN w)), (2, .int (iN i))] [.int (iN (chW T s e i))] z J (Qi z K) := by
      have cc : chW T s e i ≤ 255 := by
        unfold chW; split
        next => exact hT.2 _
        next => omega
      refine WPc.sp (fun hsp => w5_isWord_53 hs ?_)
      rw [iN_mul, iN_add, Nat.mul_comm]
      refine c_charAt3 hs hsp (by omega) ?_
      rw [iN_inj (by omega) (by omega), iN_add]
      refine ⟨fun q => iw_l hs hz hT he hse hw h h6 hK r (i + 1) (by omega) (fun j hj => ?_), fun q => ?_⟩
      · rcases Nat.lt_or_ge j i with a | a
        · exact hm j a
        · rw [show j = i by omega]; exact q
      · rw [show wdB T s e w = false by
          cases hb : wdB T s e w with
          | false => rfl
          | true => exact absurd ((wdB_i.mp hb).2 i (by omega)) q] at hK
        exact hK
    refine w5_isWord_18 hs hz ⟨fun q => absurd ((iN_le (by omega) (by omega)).mp q) (by omega), fun _ => ?_⟩
    rw [h.2.2.2.1, h.2.2.2.2, iN_add, iN_toN (by omega), h.2.2.1, iN_le (by omega) (by omega)]
    unfold chW at mid
    refine ⟨fun q => ?_, fun q => ⟨inB_n (by omega) (by omega), ?_⟩⟩
    · rw [if_neg (by omega)] at mid; exact mid
    · rw [if_pos (by omega)] at mid; exact mid
theorem c_isWord {w : Nat} {K : Int32 → Is → Prop} (hs : GS g) (hz : ShC z) (hT : TpO T n) (he : e ≤ n) (hse : s ≤ e) (hw : w < 12) (h : LSt T n I J e s) (hK : K (bN (wdB T s e w)) J) : Wi g m5_isWord (d + 4) [.ref 22, .int (iN w)] z J K := by
  have n6 := hT.1
  refine w5_isWord hs hz ?_
  rw [h.2.2.2.1, h.2.2.2.2, iN_sub (by omega), iN_le (by omega) (by omega)]
  refine ⟨fun q => iw_l hs hz hT he hse hw h q hK 6 0 rfl (fun j hj => absurd hj (by omega)), fun q => ?_⟩
  rw [show wdB T s e w = false by
    cases hb : wdB T s e w with
    | false => rfl
    | true => exact absurd (wdB_i.mp hb).1 q] at hK
  exact hK
theorem rw_2 {K : Is → Prop} (hs : GS g) (hz : ShC z) (hT : TpO T n) (he : e ≤ n) (hse : s ≤ e) (hK : ∀ J, LSt T n I J e s → J 22 6 = iN (wkC T s e 12) → K J) : ∀ (r w : Nat) (J : Is), w + r = 12 → LSt T n I J e s → J 22 6 = iN (wkC T s e w) → WPc g m5_readWord (d + 5) 0 0 47 [(0, .ref 22), (1, .int (iN w))] [] z J (Qv z K)
  | 0, w, J, ew, h, h6 => by
    obtain rfl : w = 12 := by omega
    exact w5_readWord_47 hs hz ⟨fun _ => hK J h h6, fun q => absurd ((iN_le (by omega) (by omega)).mpr (Nat.le_refl _)) q⟩
  | r + 1, w, J, ew, h, h6 => by
    refine w5_readWord_47 hs hz ⟨fun q => absurd ((iN_le (by omega) (by omega)).mp q) (by omega), fun _ => c_isWord hs hz hT he hse (by omega) h ?_⟩
    rw [iN_add]
    have eu : wkC T s e (w + 1) = if wdB T s e w = true then w else wkC T s e w := rfl
    cases hb : wdB T s e w with
    | false =>
      rw [hb, if_neg (by decide)] at eu
      exact bN_f (rw_2 hs hz hT he hse hK r (w + 1) J (by omega) h (by rw [eu]; exact h6))
    | true =>
      rw [hb, if_pos rfl] at eu
      exact bN_t (rw_2 hs hz hT he hse hK r (w + 1) _ (by omega) (h.mo (by omega) _) (by rw [eu, up2_s]))
theorem rw_1 {e' : Nat} {K : Is → Prop} (hs : GS g) (hz : ShC z) (hT : TpO T n) (he : e' ≤ n) (hse : s ≤ e') (hK : ∀ J, LSt T n I J e' s → J 22 6 = iN (wkC T s e' 12) → K J) : ∀ (f e : Nat) (J : Is), e + f = n → runP ltB T n f e = e' → LSt T n I J e s → WPc g m5_readWord (d + 5) 0 0 0 [(0, .ref 22)] [] z J (Qv z K)
  | 0, e, J, hn, hr, h => by
    have n6 := hT.1
    have hr : e = e' := hr
    rw [hr] at h
    refine w5_readWord_0 hs hz ?_
    rw [h.2.1.1, h.2.2.2.1]
    exact ⟨fun _ => rw_2 hs hz hT he hse hK 12 0 _ rfl (h.mo (by omega) _) (up2_s _ _ _ _), fun q => absurd ((iN_le (by omega) (by omega)).mpr (by omega)) q⟩
  | f + 1, e, J, hn, hr, h => by
    have n6 := hT.1
    have c6 := hT.2 e
    refine w5_readWord_0 hs hz ?_
    rw [h.2.1.1, h.2.2.2.1, iN_toN (by omega), h.2.2.1]
    refine ⟨fun q => absurd ((iN_le (by omega) (by omega)).mp q) (by omega), fun _ => ⟨inB_n (by omega) (by omega), fun q => ?_, fun q => ?_⟩⟩
    · have q := (inR_p c6 (by omega) (by omega)).mp q
      rw [runP_yes (by omega) (ltB_i.mpr q)] at hr
      rw [iN_add]
      exact rw_1 hs hz hT he hse hK f (e + 1) _ (by omega) hr (h.me (e + 1))
    · have q : ¬ (97 ≤ T e ∧ T e ≤ 122) := fun a => q ((inR_p c6 (by omega) (by omega)).mpr a)
      rw [runP_no (fun a => q (ltB_i.mp a.2))] at hr
      rw [hr] at h
      exact rw_2 hs hz hT he hse hK 12 0 _ rfl (h.mo (by omega) _) (up2_s _ _ _ _)
theorem WPc.wv {y : Mth} {args : List Value} {K : Is → Prop} (h : Wv g y d args z I K) : Wv g y d args z I K := h
-- a token
theorem ad_2 {s : Nat} {K : Is → Prop} (hs : GS g) (hz : ShC z) (hT : TpO T n) (hsn : s ≤ n) (h : LSt T n I J s e) (hK : ∀ J, LSt T n I J (lxN T n s).2.2.2 (lxN T n s).2.2.1 → J 22 6 = iN (lxN T n s).1 → ((lxN T n s).1 = 20 → J 22 7 = iN (lxN T n s).2.1) → K J) : WPc g m5_advance (d + 6) 0 0 39 [(0, .ref 22)] [] z J (Qv z K) := by
  have n6 := hT.1
  have c6 := hT.2 s
  refine WPc.sp (fun hsp => w5_advance_39 hs hz ?_)
  have hsp4 : SpO g z (up2 J 22 4 (J 22 5)) := hsp.cg (fun k hk => up2_ro J (by omega) _ _)
  unfold lxN at hK
  rw [h.2.1.1, h.2.2.2.1] at *
  rw [iN_toN (by omega), h.2.2.1, iN_lt (by omega) (by omega)]
  have h4 := h.ms s
  refine ⟨fun q => ⟨inB_n (by omega) (by omega), fun q2 => ?_, fun q2 => ⟨fun q3 => ?_, fun q3 => ?_⟩⟩, fun q => ?_⟩
  · have q2 := ltB_i.mpr ((inR_p c6 (by omega) (by omega)).mp q2)
    rw [if_neg (by omega), if_pos q2] at hK
    have b1 := runP_le ltB T n (n - s) s hsn
    have b2 := runP_ge ltB T n (n - s) s
    have go := rw_1 (d := d) (K := K) hs hz hT b1 b2 (fun J a b => hK J a b (fun c => by
      have := wkC_b (T := T) (s := s) (e := runP ltB T n (n - s) s) 12
      have c : wkC T s (runP ltB T n (n - s) s) 12 = 20 := c
      omega)) (n - s) s _ (by omega) rfl h4
    exact Wv_in (by decide +kernel) (Nat.le_of_ble_eq_true rfl) go
  · have q2 : ¬ ltB (T s) = true := fun a => q2 ((inR_p c6 (by omega) (by omega)).mpr (ltB_i.mp a))
    have q3 := dgB_i.mpr ((inR_p c6 (by omega) (by omega)).mp q3)
    rw [if_neg (by omega), if_neg q2, if_pos q3] at hK
    have b1 := runP_le dgB T n (n - s) s hsn
    exact w5_readNumber hs hz (rn_l (s := s) hs hz hT b1 (fun J a b c => hK J a b (fun _ => c)) (n - s) 0 _ (by omega) rfl (h4.mo (by omega) _) (up2_s _ _ _ _))
  · have q2 : ¬ ltB (T s) = true := fun a => q2 ((inR_p c6 (by omega) (by omega)).mpr (ltB_i.mp a))
    have q3 : ¬ dgB (T s) = true := fun a => q3 ((inR_p c6 (by omega) (by omega)).mpr (dgB_i.mp a))
    rw [if_neg (by omega), if_neg q2, if_neg q3] at hK
    have s6 := sgC_b (T s)
    rw [ch_x _ (by omega)]
    refine c_indexOf hs hsp4 (by omega) (fun j hj ej => ?_) (fun ej => ?_)
    · rw [iN_add, h4.2.2.2.1, iN_add]
      refine ⟨fun _ => ?_, fun a => absurd ((iN_le (a := 0) (by omega) (by omega)).mpr (Nat.zero_le _)) a⟩
      exact hK _ ((h4.mo (by omega) _).me (s + 1)) (by rw [up2_i _ _ (by omega), up2_s, ej]) (fun a => absurd a s6.2.2.1)
    · rw [h4.2.2.2.1, iN_add]
      refine ⟨fun a => absurd a (by decide), fun _ => ?_⟩
      exact hK _ ((h4.mo (by omega) _).me (s + 1)) (by rw [up2_i _ _ (by omega), up2_s, ej]) (fun a => absurd a s6.2.2.1)
  · rw [if_pos (by omega)] at hK
    exact hK _ (h4.mo (by omega) _) (up2_s _ _ _ _) (fun a => absurd (show (21 : Nat) = 20 from a) (by decide))
theorem ad_1 {s : Nat} {K : Is → Prop} (hs : GS g) (hz : ShC z) (hT : TpO T n) (hsn : s ≤ n) (hK : ∀ J, LSt T n I J (lxN T n s).2.2.2 (lxN T n s).2.2.1 → J 22 6 = iN (lxN T n s).1 → ((lxN T n s).1 = 20 → J 22 7 = iN (lxN T n s).2.1) → K J) : ∀ (f e e0 : Nat) (J : Is), e + f = n → runP blB T n f e = s → LSt T n I J e e0 → WPc g m5_advance (d + 6) 0 0 0 [(0, .ref 22)] [] z J (Qv z K)
  | 0, e, e0, J, hn, hr, h => by
    have n6 := hT.1
    have hr : e = s := hr
    rw [hr] at h
    refine w5_advance_0 hs hz ?_
    rw [h.2.1.1, h.2.2.2.1]
    exact ⟨fun _ => ad_2 hs hz hT hsn h hK, fun q => absurd ((iN_le (by omega) (by omega)).mpr (by omega)) q⟩
  | f + 1, e, e0, J, hn, hr, h => by
    have n6 := hT.1
    have c6 := hT.2 e
    refine w5_advance_0 hs hz ?_
    rw [h.2.1.1, h.2.2.2.1, iN_toN (by omega), h.2.2.1, iN_inj (by omega) (by omega), iN_inj (by omega) (by omega)]
    refine ⟨fun q => absurd ((iN_le (by omega) (by omega)).mp q) (by omega), fun _ => ⟨inB_n (by omega) (by omega), fun q => ?_, fun q => ?_⟩⟩
    · rw [runP_yes (by omega) (blB_i.mpr q)] at hr
      rw [iN_add]
      exact ad_1 hs hz hT hsn hK f (e + 1) e0 _ (by omega) hr (h.me (e + 1))
    · rw [runP_no (fun a => q (blB_i.mp a.2))] at hr
      rw [hr] at h
      exact ad_2 hs hz hT hsn h hK
/-- the reader goes on by one token -/
theorem c_advance0 {o L : Nat} {K : Is → Prop} (hs : GS g) (hz : ShC z) (hT : TpO T n) (he : e ≤ n) (h3 : I 22 3 = iN n) (h8 : I 22 8 = iN o) (h9 : I 22 9 = iN L) (ht : ∀ i, I 23 i = iN (T i)) (h5 : I 22 5 = iN e) (h4 : I 22 4 = iN s) (hK : ∀ J, Of [22] I J → RS T n J (tks T n e) o L → K J) : Wv g m5_advance (d + 6) [.ref 22] z I K := by
  have b := lxE_b (T := T) he
  have b1 := runP_le blB T n (n - e) e he
  refine Wv_in (by decide +kernel) (Nat.le_of_ble_eq_true rfl) (ad_1 (I := I) hs hz hT b1 (fun J h a c => hK J h.1 ?_) (n - e) e s I (by omega) rfl ⟨Of.rf _ I, ⟨h3, rfl, rfl⟩, ht, h5, h4⟩)
  obtain ⟨q1, q2, q3, q4⟩ := hd_tks (T := T) he
  refine ⟨⟨h.2.1.1, by rw [h.2.1.2.1]; exact h8, by rw [h.2.1.2.2]; exact h9, hT.1⟩, h.2.2.1, by rw [q1]; exact a, by rw [q2]; exact h.2.2.2.2, fun w => ?_, _, b.2.2.2.2.1, h.2.2.2.1, q4⟩
  rw [q3 w]; rw [q1] at w; exact c w
theorem c_advance {o L : Nat} {ts : List Tk} {K : Is → Prop} (hs : GS g) (hz : ShC z) (hT : TpO T n) (h : RS T n I ts o L) (hK : ∀ J, Of [22] I J → RS T n J ts.tail o L → K J) : Wv g m5_advance (d + 6) [.ref 22] z I K := by
  obtain ⟨⟨h1, h2, h3, h4⟩, h5, h6, h7, h8, e, h9, h10, h11⟩ := h
  refine c_advance0 hs hz hT h9 h1 h2 h3 h5 h10 h7 (fun J a b => hK J a ?_)
  rw [h11]; exact b
theorem c_readToken {o L k : Nat} {ts : List Tk} {K : Int32 → Is → Prop} (hs : GS g) (hz : ShC z) (hT : TpO T n) (h : RS T n I ts o L) (hk : k ≤ 22) (hb : hdK ts ≤ 22) (hy : hdK ts = k → ∀ J, Of [22] I J → RS T n J ts.tail o L → K (iN 1) J) (hn : ¬ hdK ts = k → K (iN 0) I) : Wi g m5_readToken (d + 7) [.ref 22, .int (iN k)] z I K := by
  refine w5_readToken hs hz ?_
  rw [h.2.2.1, iN_inj (by omega) (by omega)]
  exact ⟨fun q => c_advance hs hz hT h (fun J a b => hy q J a b), hn⟩
end ADV
