/-! contracts: the reference's laying -/
def MdO (I : Is) (ns : Nat) (kd tl mo : Nat → Nat) : Prop := ns ≤ 6 ∧ I 101 0 = iN ns ∧ ∀ s, s < 6 → (I 102 s = iN (kd s) ∧ I 103 s = iN (tl s) ∧ I 104 s = iN (mo s)) ∧ kd s ≤ 5 ∧ tl s ≤ 99 ∧ mo s ≤ 9
theorem MdO.cg {I J : Is} {ns : Nat} {kd tl mo : Nat → Nat} (h : MdO I ns kd tl mo) (e0 : J 101 0 = I 101 0) (e : ∀ k, 102 ≤ k → k ≤ 104 → J k = I k) : MdO J ns kd tl mo :=
  ⟨h.1, e0.trans h.2.1, fun s hs => by rw [e 102 (by omega) (by omega), e 103 (by omega) (by omega), e 104 (by omega) (by omega)]; exact h.2.2 s hs⟩
theorem MdO.of {L : List Nat} {I J : Is} {ns : Nat} {kd tl mo : Nat → Nat} (h : MdO I ns kd tl mo) (e : Of L I J) (hL : ∀ k, 101 ≤ k → k ≤ 104 → k ∉ L := by intro k h1 h2 q; simp at q; omega) : MdO J ns kd tl mo :=
  h.cg (by rw [e 101 (hL 101 (by omega) (by omega))]) (fun k h1 h2 => e k (hL k (by omega) h2))
section MLAY
variable {g : Gt} {d : Nat} {z : Zs} {I : Is} {ns s n : Nat} {kd tl mo h : Nat → Nat}
theorem c_mtog {K : Int32 → Is → Prop} (hs : GS g) (hz : Sh z) (hm : MdO I ns kd tl mo) (h6 : s < 6) (hn : n ≤ 1000) (hK : K (iN (togN (kd s) (mo s) n)) I) : Wi g m12_together d [.ref 101, .int (iN s), .int (iN n)] z I K := by
  obtain ⟨⟨e1, e2, e3⟩, b1, b2, b3⟩ := hm.2.2 s h6
  unfold togN at hK
  refine v12_together hs hz ⟨inB_n h6 (by omega), ?_⟩
  rw [iN_toN (by omega), e1, e3, iN_inj (by omega) (by omega), iN_inj (by omega) (by omega), iN_inj (by omega) (by omega), iN_le (by omega) (by omega), iN_le (by omega) (by omega)]
  refine ⟨fun c => ?_, fun c => ⟨fun c2 => ⟨fun c3 => ?_, fun c3 => ?_⟩, fun c2 => ⟨fun c3 => ⟨fun c4 => ?_, fun c4 => ?_⟩, fun c3 => ?_⟩⟩⟩
  · rw [if_pos c] at hK; exact hK
  · rw [if_neg c, if_pos c2, if_neg (by omega)] at hK; exact hK
  · rw [if_neg c, if_pos c2, if_pos (by omega)] at hK; exact hK
  · rw [if_neg c, if_neg c2, if_neg (by omega)] at hK; exact hK
  · rw [if_neg c, if_neg c2, if_pos (by omega)] at hK; exact hK
  · rw [if_neg c, if_neg c2, if_neg (by omega)] at hK; exact hK
theorem nbest_zero {l r : Nat → Nat} {n : Nat} : ∀ (m : Nat), (∀ s, n ≤ s → s < n + m → r s = 0) → nbest l r (n + m) = nbest l r n
  | 0, _ => rfl
  | m + 1, h => by
    have ih := nbest_zero (l := l) m (fun s h1 h2 => h s h1 (by omega))
    have h0 := h (n + m) (by omega) (by omega)
    show (match nbest l r (n + m) with
      | none => if 0 < r (n + m) ∧ 0 < l (n + m) then some (n + m) else none
      | some b => if 0 < r (n + m) ∧ l b < l (n + m) then some (n + m) else some b) = nbest l r n
    rw [ih]
    cases hq : nbest l r n with
    | none => simp [h0]
    | some b => simp [h0]
theorem obI_some {o : Option Nat} {b : Nat} (h : o = some b) : obI o = iN b := by rw [h]; rfl
theorem next_l {l y : Nat → Nat} {K : Int32 → Is → Prop} (hs : GS g) (hz : Sh z) (hm : MdO I ns kd tl mo) (hl : Rw I 118 l) (hh : Rw I 119 h) (hy : Rw I 120 y) (bl : Bd 1000 l) (bh : Bd 1000 h) (by_ : Bd 1000 y) (hK : K (obI (nbest l (fun s => tgN ns kd mo s (h s) - y s) 6)) I) : ∀ (n s : Nat), s + n = ns → WPc g m12_nextLaid (d + 1) 0 0 4 [(0, .ref 101), (1, .int (obI (nbest l (fun s => tgN ns kd mo s (h s) - y s) s))), (2, .int (iN s))] [] z I (Qi z K)
  | 0, s, e => by
    obtain rfl : s = ns := by omega
    have h6 := hm.1
    refine v12_nextLaid_4 hs hz ⟨fun _ => ?_, fun c => ?_⟩
    · have := nbest_zero (l := l) (r := fun i => tgN s kd mo i (h i) - y i) (n := s) (6 - s) (fun i h1 h2 => by show tgN s kd mo i (h i) - y i = 0; unfold tgN; rw [if_neg (by omega)]; omega)
      rw [show s + (6 - s) = 6 by omega] at this
      rw [this] at hK
      exact hK
    · rw [hm.2.1, iN_le (by omega) (by omega)] at c; omega
  | n + 1, s, e => by
    have h6 := hm.1
    have ih := next_l hs hz hm hl hh hy bl bh by_ hK n (s + 1) (by omega)
    have h1 := bl s (by omega)
    have h2 := bh s (by omega)
    have h3 := by_ s (by omega)
    have et : tgN ns kd mo s (h s) = togN (kd s) (mo s) (h s) := by unfold tgN; rw [if_pos (by omega)]
    have t3 := togN_le (kd s) (mo s) (h s)
    unfold nbest at ih
    simp only [et] at ih
    refine v12_nextLaid_4 hs hz ⟨fun c => ?_, fun c => ⟨inB_n (by omega) (by omega), ?_⟩⟩
    · rw [hm.2.1, iN_le (by omega) (by omega)] at c; omega
    · rw [iN_toN (by omega), hl s (by omega), hh s (by omega), hy s (by omega), iN_le (by omega) (by omega)]
      have skip : (nbest l (fun s => tgN ns kd mo s (h s) - y s) (s + 1) = nbest l (fun s => tgN ns kd mo s (h s) - y s) s) → WPc g m12_nextLaid (d + 1) 0 0 4 [(0, .ref 101), (1, .int (obI (nbest l (fun s => tgN ns kd mo s (h s) - y s) s))), (2, .int (iN s + iN 1))] [] z I (Qi z K) := fun q => by
        rw [iN_add, ← q]
        exact next_l hs hz hm hl hh hy bl bh by_ hK n (s + 1) (by omega)
      have keep : ¬ (0 < tgN ns kd mo s (h s) - y s ∧ 0 < l s) → nbest l (fun s => tgN ns kd mo s (h s) - y s) (s + 1) = nbest l (fun s => tgN ns kd mo s (h s) - y s) s := fun q => by
        show (match nbest l (fun s => tgN ns kd mo s (h s) - y s) s with
          | none => if 0 < tgN ns kd mo s (h s) - y s ∧ 0 < l s then some s else none
          | some b => if 0 < tgN ns kd mo s (h s) - y s ∧ l b < l s then some s else some b) = _
        cases hq : nbest l (fun s => tgN ns kd mo s (h s) - y s) s with
        | none => simp only; rw [if_neg q]
        | some b => simp only; rw [if_neg (fun w => q ⟨w.1, by omega⟩)]
      refine ⟨fun c => ?_, fun c => ?_⟩
      · exact v12_nextLaid_45 hs (v12_nextLaid_46 hs hz ⟨fun _ => skip (keep (fun q => by omega)), fun c => absurd rfl c⟩)
      · refine c_mtog hs hz hm (by omega) (by omega) ?_
        rw [iN_le (by omega) (by omega)]
        refine ⟨fun c2 => ?_, fun c2 => ?_⟩
        · exact v12_nextLaid_45 hs (v12_nextLaid_46 hs hz ⟨fun _ => skip (keep (fun q => by rw [et] at q; omega)), fun c => absurd rfl c⟩)
        · refine v12_nextLaid_46 hs hz ⟨fun c => absurd ((iN_inj (by omega) (by omega)).mp c) (by omega), fun _ => ⟨fun c3 => ?_, fun c3 => ?_⟩⟩
          · cases hq : nbest l (fun s => tgN ns kd mo s (h s) - y s) s with
            | none =>
              rw [hq] at ih
              simp only at ih
              rw [if_pos ⟨by omega, by omega⟩] at ih
              rw [iN_add]; exact ih
            | some b =>
              rw [hq] at c3
              exact absurd c3 (by have := nbest_some hq; exact iM_ne (by omega) (by omega) (by omega))
          · cases hq : nbest l (fun s => tgN ns kd mo s (h s) - y s) s with
            | none => rw [hq] at c3; exact absurd rfl c3
            | some b =>
              have hb := nbest_some hq
              have hlb := bl b (by omega)
              rw [hq] at ih
              simp only at ih
              show inB (iN s) 6 = true ∧ (inB (iN b) 6 = true ∧ _)
              refine ⟨inB_n (by omega) (by omega), inB_n (by omega) (by omega), ?_⟩
              show ((I 118 (iN s).toNatClampNeg) ≤ (I 118 (iN b).toNatClampNeg) → _) ∧ (¬ (I 118 (iN s).toNatClampNeg) ≤ (I 118 (iN b).toNatClampNeg) → _)
              rw [iN_toN (by omega), iN_toN (by omega), hl s (by omega), hl b (by omega), iN_le (by omega) (by omega), iN_add]
              refine ⟨fun c4 => ?_, fun c4 => ?_⟩
              · rw [if_neg (by omega)] at ih; exact ih
              · rw [if_pos ⟨by omega, by omega⟩] at ih; exact ih
theorem c_next {l y : Nat → Nat} {K : Int32 → Is → Prop} (hs : GS g) (hz : Sh z) (hm : MdO I ns kd tl mo) (hl : Rw I 118 l) (hh : Rw I 119 h) (hy : Rw I 120 y) (bl : Bd 1000 l) (bh : Bd 1000 h) (by_ : Bd 1000 y) (hK : K (obI (nbest l (fun s => tgN ns kd mo s (h s) - y s) 6)) I) : Wi g m12_nextLaid (d + 1) [.ref 101] z I K := v12_nextLaid hs (next_l hs hz hm hl hh hy bl bh by_ hK ns 0 (by omega))
def LysK (I : Is) (h : Nat → Nat) (K : Int32 → Is → Prop) (o : Option (Nat → Nat)) : Prop := match o with
  | none => ∀ J, Of [118, 119, 120] I J → Rw J 118 h → K (iN 0) J
  | some l' => ∀ J, Of [118, 119, 120] I J → Rw J 118 l' → Rw J 120 (fun s => h s - l' s) → K (iN 1) J
theorem lays_back {K : Int32 → Is → Prop} (hs : GS g) (hz : Sh z) (hK : ∀ J, Of [118, 119, 120] I J → Rw J 118 h → K (iN 0) J) : ∀ (n s : Nat) (J : Is), s + n = 6 → Of [118, 119, 120] I J → Rw J 119 h → (∀ i, i < s → J 118 i = iN (h i)) → WPc g m12_lays (d + 2) 0 0 53 [(0, .ref 101), (4, .int (iN s))] [] z J (Qi z K)
  | 0, s, J, e, hJ, h1, h2 => by
    obtain rfl : s = 6 := by omega
    exact v12_lays_53 hs hz ⟨fun _ => hK J hJ h2, fun c => absurd ((iN_le (by omega) (by omega)).mpr (Nat.le_refl _)) c⟩
  | n + 1, s, J, e, hJ, h1, h2 => by
    refine v12_lays_53 hs hz ⟨fun c => ?_, fun c => ⟨inB_n (by omega) (by omega), ?_⟩⟩
    · rw [iN_le (by omega) (by omega)] at c; omega
    · rw [iN_toN (by omega), h1 s (by omega), iN_add]
      refine lays_back hs hz hK n (s + 1) _ (by omega) (hJ.upt (by simp) _ _) (h1.cg (up2_ro _ (by omega) _ _)) (fun i hi => ?_)
      rw [up2_ra]; unfold up1; split
      next q => rw [q]
      next => exact h2 i (by omega)
theorem lays_m {k : Nat} {K : Int32 → Is → Prop} (hs : GS g) (hz : Sh z) (hm : MdO I ns kd tl mo) (bh : Bd 1000 h) (hk : k ≤ 1000) : ∀ (n i : Nat) (l : Nat → Nat) (J : Is), i + n = k → Of [118, 119, 120] I J → Rw J 118 l → Rw J 119 h → Rw J 120 (fun s => h s - l s) → (∀ s, l s ≤ h s) → LysK I h K (layN n l (fun s => tgN ns kd mo s (h s) - (h s - l s))) → WPc g m12_lays (d + 2) 0 0 35 [(0, .ref 101), (1, .int (iN k)), (2, .int (iN i))] [] z J (Qi z K)
  | 0, i, l, J, e, hJ, hl, hh, hy, hle, hK => by
    obtain rfl : i = k := by omega
    exact v12_lays_35 hs hz ⟨fun _ => hK J hJ hl hy, fun c => absurd ((iN_le (by omega) (by omega)).mpr (Nat.le_refl _)) c⟩
  | n + 1, i, l, J, e, hJ, hl, hh, hy, hle, hK => by
    have bl : Bd 1000 l := fun s h6 => Nat.le_trans (hle s) (bh s h6)
    refine v12_lays_35 hs hz ⟨fun c => ?_, fun c => ?_⟩
    · rw [iN_le (by omega) (by omega)] at c; omega
    · refine c_next hs hz (hm.of hJ) hl hh hy bl bh (fun s h6 => by have := bh s h6; show h s - l s ≤ _; omega) ?_
      unfold layN at hK
      cases hq : nbest l (fun s => tgN ns kd mo s (h s) - (h s - l s)) 6 with
      | none =>
        rw [hq] at hK
        exact ⟨fun _ => lays_back hs hz hK 6 0 J rfl hJ hh (fun i hi => absurd hi (by omega)), fun c => absurd rfl c⟩
      | some s =>
        rw [hq] at hK
        have hn := nbest_some hq
        have hls := bl s hn.1
        have hhs := bh s hn.1
        have hle_s := hle s
        refine ⟨fun c => absurd c (iM_ne (by show s < _; omega) (by omega) (by omega)), fun _ => ⟨inB_n hn.1 (by omega), ?_⟩⟩
        show WPc g m12_lays (d + 2) 0 0 35 [(0, .ref 101), (1, .int (iN k)), (2, .int ((iN i) + iN 1))] [] z (up2 (up2 J 118 (iN s).toNatClampNeg ((J 118 (iN s).toNatClampNeg) - (iN 1))) 120 (iN s).toNatClampNeg ((J 120 (iN s).toNatClampNeg) + (iN 1))) (Qi z K)
        rw [iN_toN (by omega), hl s hn.1, hy s hn.1, iN_sub (by omega), iN_add, iN_add]
        have e1 : up1 (fun s => tgN ns kd mo s (h s) - (h s - l s)) s (tgN ns kd mo s (h s) - (h s - l s) - 1) = fun i => tgN ns kd mo i (h i) - (h i - up1 l s (l s - 1) i) := by
          funext i
          unfold up1
          by_cases q : i = s
          · rw [if_pos q, if_pos q, q]; omega
          · rw [if_neg q, if_neg q]
        have hK2 : LysK I h K (layN n (up1 l s (l s - 1)) (fun i => tgN ns kd mo i (h i) - (h i - up1 l s (l s - 1) i))) := by rw [← e1]; exact hK
        refine lays_m hs hz hm bh hk n (i + 1) (up1 l s (l s - 1)) _ (by omega) ((hJ.upt (by simp) _ _).upt (by simp) _ _) ((hl.up _).cg (up2_ro _ (by omega) _ _)) (hh.cg (by rw [up2_ro _ (by omega), up2_ro _ (by omega)])) ?_ (fun j => ?_) hK2
        · refine Rw.fn (Rw.up (hy.cg (up2_ro _ (by omega) _ _)) _) (fun j hj => ?_)
          unfold up1
          by_cases q : j = s
          · rw [if_pos q, if_pos q, q]; show h s - l s + 1 = h s - (l s - 1); omega
          · rw [if_neg q, if_neg q]
        · unfold up1; split
          next q => rw [q]; omega
          next => exact hle j
theorem lays_1 {v : Int32} {K : Int32 → Is → Prop} (hs : GS g) (hz : Sh z) (hr : Rw I 118 h) (hK : ∀ J, Of [118, 119, 120] I J → Rw J 118 h → Rw J 119 h → Rw J 120 (fun _ => 0) → WPc g m12_lays (d + 2) 0 0 35 [(0, .ref 101), (1, .int v), (2, .int (iN 0))] [] z J (Qi z K)) : ∀ (n s : Nat) (J : Is), s + n = 6 → Of [118, 119, 120] I J → J 118 = I 118 → (∀ i, i < s → J 119 i = iN (h i)) → (∀ i, i < s → J 120 i = iN 0) → WPc g m12_lays (d + 2) 0 0 2 [(0, .ref 101), (1, .int v), (2, .int (iN s))] [] z J (Qi z K)
  | 0, s, J, e, hJ, h0, h1, h2 => by
    obtain rfl : s = 6 := by omega
    exact v12_lays_2 hs hz ⟨fun _ => hK J hJ (hr.cg h0) h1 h2, fun c => absurd ((iN_le (by omega) (by omega)).mpr (Nat.le_refl _)) c⟩
  | n + 1, s, J, e, hJ, h0, h1, h2 => by
    refine v12_lays_2 hs hz ⟨fun c => ?_, fun c => ⟨inB_n (by omega) (by omega), ?_⟩⟩
    · rw [iN_le (by omega) (by omega)] at c; omega
    · rw [iN_toN (by omega), h0, hr s (by omega), iN_add]
      refine lays_1 hs hz hr hK n (s + 1) _ (by omega) ((hJ.upt (by simp) _ _).upt (by simp) _ _) (by rw [up2_ro _ (by omega), up2_ro _ (by omega), h0]) (fun i hi => ?_) (fun i hi => ?_)
      · rw [up2_ro _ (by omega), up2_ra]; unfold up1; split
        next q => rw [q]
        next => exact h1 i (by omega)
      · rw [up2_ra, up2_ro _ (by omega)]; unfold up1; split
        next q => rfl
        next => exact h2 i (by omega)
theorem c_lays {k : Nat} {K : Int32 → Is → Prop} (hs : GS g) (hz : Sh z) (hm : MdO I ns kd tl mo) (hr : Rw I 118 h) (bh : Bd 1000 h) (hk : k ≤ 1000) (hK : LysK I h K (layN k h (fun s => tgN ns kd mo s (h s)))) : Wi g m12_lays (d + 2) [.ref 101, .int (iN k)] z I K := by
  refine v12_lays hs (lays_1 hs hz hr (fun J hJ h1 h2 h3 => ?_) 6 0 I rfl (Of.rf _ _) rfl (fun i hi => absurd hi (by omega)) (fun i hi => absurd hi (by omega)))
  refine lays_m hs hz hm bh hk k 0 h J (by omega) hJ h1 h2 (h3.fn (fun s _ => by show 0 = h s - h s; omega)) (fun s => Nat.le_refl _) ?_
  have e : (fun s => tgN ns kd mo s (h s) - (h s - h s)) = fun s => tgN ns kd mo s (h s) := by funext s; rw [Nat.sub_self, Nat.sub_zero]
  rw [e]; exact hK
theorem often_m {k : Nat} {K : Int32 → Is → Prop} (hs : GS g) (hz : Sh z) (hm : MdO I ns kd tl mo) (hk0 : 0 < k) (hk : k ≤ 1000) : ∀ (F : Nat) (h : Nat → Nat) (n : Nat) (J : Is), sum6 h ≤ F → F ≤ 594 → n ≤ 1000 → Bd 99 h → Of [118, 119, 120] I J → Rw J 118 h → (∀ J', Of [118, 119, 120] I J' → Rw J' 118 (oft (tgN ns kd mo) k h).2 → K (iN (n + (oft (tgN ns kd mo) k h).1)) J') → n + F ≤ 594 → WPc g m12_oftenNow (d + 3) 0 0 2 [(0, .ref 101), (1, .int (iN k)), (2, .int (iN n))] [] z J (Qi z K) := by
  intro F
  induction F with
  | zero =>
    intro h n J h1 h2 h3 bh hJ hr hK hF
    have st := oft_step (tg := tgN ns kd mo) hk0 (h := h) (by omega)
    refine v12_oftenNow_2 hs hz (c_lays hs hz (hm.of hJ) hr (fun s q => by have := bh s q; omega) hk ?_)
    cases hq : layN k h (fun s => tgN ns kd mo s (h s)) with
    | none =>
      rw [hq] at st
      refine fun J' hJ' hr' => ⟨fun _ => ?_, fun c => absurd rfl c⟩
      rw [st] at hK
      exact hK J' (hJ.tr hJ') hr'
    | some l => have := layN_sum hq; omega
  | succ F ih =>
    intro h n J h1 h2 h3 bh hJ hr hK hF
    have st := oft_step (tg := tgN ns kd mo) hk0 (h := h) (by omega)
    refine v12_oftenNow_2 hs hz (c_lays hs hz (hm.of hJ) hr (fun s q => by have := bh s q; omega) hk ?_)
    cases hq : layN k h (fun s => tgN ns kd mo s (h s)) with
    | none =>
      rw [hq] at st
      refine fun J' hJ' hr' => ⟨fun _ => ?_, fun c => absurd rfl c⟩
      rw [st] at hK
      exact hK J' (hJ.tr hJ') hr'
    | some l =>
      have hsm := layN_sum hq
      rw [hq] at st
      refine fun J' hJ' hr' _ => ⟨fun c => absurd ((iN_inj (by omega) (by omega)).mp c) (by omega), fun _ => ?_⟩
      rw [iN_add]
      refine ih l (n + 1) J' (by omega) (by omega) (by omega) (fun s q => Nat.le_trans (layN_le hq s) (bh s q)) (hJ.tr hJ') hr' (fun J2 a b => ?_) (by omega)
      rw [st] at hK
      have := hK J2 a b
      rw [show n + 1 + (oft (tgN ns kd mo) k l).1 = n + ((oft (tgN ns kd mo) k l).1 + 1) by omega]
      exact this
theorem c_oftNow {k : Nat} {K : Int32 → Is → Prop} (hs : GS g) (hz : Sh z) (hm : MdO I ns kd tl mo) (hk0 : 0 < k) (hk : k ≤ 1000) (bh : Bd 99 h) (hr : Rw I 118 h) (hK : ∀ J, Of [118, 119, 120] I J → Rw J 118 (oft (tgN ns kd mo) k h).2 → K (iN (oft (tgN ns kd mo) k h).1) J) : Wi g m12_oftenNow (d + 3) [.ref 101, .int (iN k)] z I K :=
  v12_oftenNow hs (often_m hs hz hm hk0 hk 594 h 0 I (by have := sum6_le bh; omega) (by omega) (by omega) bh (Of.rf _ _) hr (fun J a b => by rw [Nat.zero_add]; exact hK J a b) (by omega))
end MLAY
