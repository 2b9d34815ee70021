/-! contracts: worth, laying -/
/-- the sorts as the class has them: ns of them, kinds, told, more -/
def SrO (z : Zs) (I : Is) (ns : Nat) (kd tl mo : Nat → Nat) : Prop := ns ≤ 6 ∧ (∀ s, s < ns → (∃ q, zP z 9 s = some q ∧ SoO z I q (kd s) (tl s) (mo s)) ∧ kd s ≤ 5 ∧ tl s ≤ 99 ∧ mo s ≤ 9) ∧ ∀ s, ns ≤ s → s < 6 → zP z 9 s = none
theorem SrO.cg {z : Zs} {I J : Is} {ns : Nat} {kd tl mo : Nat → Nat} (h : SrO z I ns kd tl mo) (e : ∀ q, zT z q < 10 → J q = I q) : SrO z J ns kd tl mo :=
  ⟨h.1, fun s hs => ⟨(h.2.1 s hs).1.imp fun q hq => ⟨hq.1, hq.2.cg (e q (by rw [hq.2.1]; exact kcl_lt _))⟩, (h.2.1 s hs).2⟩, h.2.2⟩
def tgN (ns : Nat) (kd mo : Nat → Nat) (s n : Nat) : Nat := if s < ns then togN (kd s) (mo s) n else 0
theorem togN_le (k mo n : Nat) : togN k mo n ≤ 3 := by unfold togN; repeat (first | split | omega)
theorem tgN_le (ns : Nat) (kd mo : Nat → Nat) (s n : Nat) : tgN ns kd mo s n ≤ 3 := by
  unfold tgN; split
  · exact togN_le _ _ _
  · omega
def wtN (ns : Nat) (kd tl mo h : Nat → Nat) (s : Nat) : Nat := if s < ns then h s * wthN (kd s) (tl s) (mo s) (h s) else 0
section LAY
variable {g : Gt} {d a : Nat} {z : Zs} {I : Is} {ns : Nat} {kd tl mo h : Nat → Nat}
theorem worth_l {K : Int32 → Is → Prop} (hs : GS g) (hz : Sh z) (hp : PuO z a) (hso : SrO z I ns kd tl mo) (hr : Rw I (a + 1) h) (hb : Bd 99 h) (hK : K (iN (sumN (wtN ns kd tl mo h) 6)) I) : ∀ (n s : Nat), s + n = 6 → WPc g m4_worth (d + 3) 0 0 4 [(0, .ref a), (1, .ref 9), (2, .int (iN (sumN (wtN ns kd tl mo h) s))), (3, .int (iN s))] [] z I (Qi z K)
  | 0, s, e => by
    obtain rfl : s = 6 := by omega
    exact v4_worth_4 hs hz hp ⟨fun _ => hK, fun c => absurd ((iN_le (by omega) (by omega)).mpr (Nat.le_refl _)) c⟩
  | n + 1, s, e => by
    have ih := worth_l hs hz hp hso hr hb hK n (s + 1) (by omega)
    refine v4_worth_4 hs hz hp ⟨fun c => ?_, fun c => ⟨fun c => ?_, fun c => ⟨inB_n (by omega) (by omega), ?_⟩⟩⟩
    · rw [iN_le (by omega) (by omega)] at c; omega
    · rw [hz.l 9 rfl] at c
      exact absurd ((iN_le (a := 6) (b := s) (by omega) (by omega)).mp c) (by omega)
    · rw [iN_toN (by omega)]
      by_cases hn : s < ns
      · obtain ⟨⟨q, hq, so⟩, hk, ht, hm⟩ := hso.2.1 s hn
        rw [hq]
        show dsp _ (zT z q) _
        rw [hr s (by omega)]
        refine c_wth (d := d) hs so hk (by have := hb s (by omega); omega) ?_
        rw [iN_mul, iN_add, iN_add]
        have e2 : sumN (wtN ns kd tl mo h) (s + 1) = sumN (wtN ns kd tl mo h) s + h s * wthN (kd s) (tl s) (mo s) (h s) := by
          show _ + wtN ns kd tl mo h s = _
          unfold wtN; rw [if_pos hn]
        rw [e2] at ih
        exact ih
      · rw [hso.2.2 s (by omega) (by omega), iN_add]
        have e2 : sumN (wtN ns kd tl mo h) (s + 1) = sumN (wtN ns kd tl mo h) s := by
          show _ + wtN ns kd tl mo h s = _
          unfold wtN; rw [if_neg hn]; rfl
        rw [e2] at ih
        exact ih
theorem c_worth {K : Int32 → Is → Prop} (hs : GS g) (hz : Sh z) (hp : PuO z a) (hso : SrO z I ns kd tl mo) (hr : Rw I (a + 1) h) (hb : Bd 99 h) (hK : K (iN (sumN (wtN ns kd tl mo h) 6)) I) : Wi g m4_worth (d + 3) [.ref a, .ref 9] z I K := v4_worth hs (worth_l hs hz hp hso hr hb hK 6 0 rfl)
def obI (o : Option Nat) : Int32 := match o with
  | none => iM 1
  | some b => iN b
def olN (l : Nat → Nat) (o : Option Nat) : Nat := match o with
  | none => 0
  | some b => l b
theorem most_l {l r : Nat → Nat} {K : Int32 → Is → Prop} (hs : GS g) (hp : PuO z a) (hl : Rw I (a + 2) l) (hr : Rw I (a + 3) r) (hbl : Bd 1000 l) (hbr : Bd 1000 r) (hK : K (obI (nbest l r 6)) I) : ∀ (n s : Nat), s + n = 6 → WPc g m4_mostPlentiful d 0 0 6 [(0, .ref a), (1, .int (obI (nbest l r s))), (2, .int (iN (olN l (nbest l r s)))), (3, .int (iN s))] [] z I (Qi z K)
  | 0, s, e => by
    obtain rfl : s = 6 := by omega
    exact v4_mostPlentiful_6 hs hp ⟨fun _ => hK, fun c => absurd ((iN_le (by omega) (by omega)).mpr (Nat.le_refl _)) c⟩
  | n + 1, s, e => by
    have ih := most_l hs hp hl hr hbl hbr hK n (s + 1) (by omega)
    have h1 := hbl s (by omega)
    have h2 := hbr s (by omega)
    have h3 : olN l (nbest l r s) ≤ 1000 := by
      cases hq : nbest l r s with
      | none => exact Nat.zero_le _
      | some b => exact hbl b (by have := nbest_some hq; omega)
    unfold nbest at ih
    refine v4_mostPlentiful_6 hs hp ⟨fun c => ?_, fun c => ⟨inB_n (by omega) (by omega), ?_⟩⟩
    · rw [iN_le (by omega) (by omega)] at c; omega
    · rw [iN_toN (by omega), hr s (by omega), hl s (by omega), iN_le (by omega) (by omega), iN_le (by omega) (by omega), iN_add]
      cases hq : nbest l r s with
      | none =>
        rw [hq] at ih h3
        refine ⟨fun c => ?_, fun c => ⟨fun c2 => ?_, fun c2 => ?_⟩⟩
        · simp only at ih; rw [if_neg (by omega)] at ih; exact ih
        · simp only [olN] at c2; simp only at ih; rw [if_neg (by omega)] at ih; exact ih
        · simp only [olN] at c2; simp only at ih; rw [if_pos (by omega)] at ih; exact ih
      | some b =>
        rw [hq] at ih h3
        refine ⟨fun c => ?_, fun c => ⟨fun c2 => ?_, fun c2 => ?_⟩⟩
        · simp only at ih; rw [if_neg (by omega)] at ih; exact ih
        · simp only [olN] at c2; simp only at ih; rw [if_neg (by omega)] at ih; exact ih
        · simp only [olN] at c2; simp only at ih; rw [if_pos (by omega)] at ih; exact ih
theorem c_most {l r : Nat → Nat} {K : Int32 → Is → Prop} (hs : GS g) (hp : PuO z a) (hl : Rw I (a + 2) l) (hr : Rw I (a + 3) r) (hbl : Bd 1000 l) (hbr : Bd 1000 r) (hK : K (obI (nbest l r 6)) I) : Wi g m4_mostPlentiful d [.ref a] z I K := v4_mostPlentiful hs (most_l hs hp hl hr hbl hbr hK 6 0 rfl)
/-- what a laying answers: nothing, or what is left -/
def LayK (a : Nat) (I : Is) (h : Nat → Nat) (K : Int32 → Is → Prop) (o : Option (Nat → Nat)) : Prop := match o with
  | none => ∀ J, Of [a + 2, a + 3] I J → K (iN 0) J
  | some l' => ∀ J, Of [a + 1, a + 2, a + 3] I J → Rw J (a + 1) l' → K (iN (bset (fun s => decide (l' s < h s)) 6)) J
theorem Bd.dec {b s n : Nat} {l : Nat → Nat} (hb : Bd b l) (hn : n ≤ b) : Bd b (up1 l s n) := fun i hi => by
  unfold up1; split
  · exact hn
  · exact hb i hi
theorem lay_l2 {k : Nat} {K : Int32 → Is → Prop} (hs : GS g) (hp : PuO z a) (hk : k ≤ 1000) : ∀ (n i : Nat) (l r : Nat → Nat) (J : Is), i + n = k → Of [a + 2, a + 3] I J → Rw J (a + 2) l → Rw J (a + 3) r → Bd 1000 l → Bd 1000 r → (∀ s, s < 6 → l s ≤ h s) → LayK a I h K (layN n l r) → WPc g m4_lay (d + 3) 0 0 68 [(0, .ref a), (2, .int (iN k)), (3, .int (iN (bset (fun s => decide (l s < h s)) 6))), (4, .int (iN i))] [] z J (Qi z K)
  | 0, i, l, r, J, e, hJ, hl, hr, hbl, hbr, hle, hK => by
    obtain rfl : i = k := by omega
    refine v4_lay_68 hs hp ⟨fun _ => ?_, fun c => absurd ((iN_le (by omega) (by omega)).mpr (Nat.le_refl _)) c⟩
    exact hK _ ((hJ.mo (fun k hk => List.mem_cons_of_mem _ hk)).tr (Of.cp List.mem_cons_self 0 0 6)) hl.cp
  | n + 1, i, l, r, J, e, hJ, hl, hr, hbl, hbr, hle, hK => by
    refine v4_lay_68 hs hp ⟨fun c => ?_, fun c => ?_⟩
    · rw [iN_le (by omega) (by omega)] at c; omega
    · refine c_most hs hp hl hr hbl hbr ?_
      unfold layN at hK
      cases hq : nbest l r 6 with
      | none =>
        rw [hq] at hK
        exact ⟨fun c => absurd c (by show ¬ iN 0 ≤ iM 1; exact iM_nle (by omega) (by omega) (by omega)), fun _ => hK J hJ⟩
      | some s =>
        rw [hq] at hK
        have hn := nbest_some hq
        have hls := hbl s hn.1
        have hrs := hbr s hn.1
        refine ⟨fun _ => ⟨inB_n hn.1 (by omega), ?_⟩, fun c => absurd ((iN_le (by omega) (by show s < _; omega)).mpr (Nat.zero_le s)) c⟩
        show WPc g m4_lay (d + 3) 0 0 68 [(0, .ref a), (2, .int (iN k)), (3, .int ((iN (bset (fun s => decide (l s < h s)) 6)) ||| ((iN 1) <<< ((iN s) &&& iN 31)))), (4, .int ((iN i) + iN 1))] [] z (up2 (up2 J (a + 2) (iN s).toNatClampNeg ((J (a + 2) (iN s).toNatClampNeg) - (iN 1))) (a + 3) (iN s).toNatClampNeg (((up2 J (a + 2) (iN s).toNatClampNeg ((J (a + 2) (iN s).toNatClampNeg) - (iN 1))) (a + 3) (iN s).toNatClampNeg) - (iN 1))) (Qi z K)
        rw [iN_toN (by omega), hl s hn.1, iN_sub (by omega), up2_ro _ (by omega), hr s hn.1, iN_sub (by omega), iN_add, or_in _ (bset_lt _ 6) s hn.1, bset_or _ hn.1]
        have e1 : bset (up1 (fun s => decide (l s < h s)) s true) 6 = bset (fun i => decide (up1 l s (l s - 1) i < h i)) 6 := bset_cg (fun i hi => by
          unfold up1
          by_cases q : i = s
          · rw [if_pos q, if_pos q, q]; have := hle s hn.1; exact (decide_eq_true (by omega)).symm
          · rw [if_neg q, if_neg q])
        rw [e1]
        refine lay_l2 hs hp hk n (i + 1) (up1 l s (l s - 1)) (up1 r s (r s - 1)) _ (by omega) ((hJ.upt List.mem_cons_self _ _).upt (List.mem_cons_of_mem _ List.mem_cons_self) _ _) ?_ ?_ (hbl.dec (by omega)) (hbr.dec (by omega)) (fun i hi => by
          unfold up1; split
          next q => rw [q]; have := hle s hn.1; omega
          next => exact hle i hi) hK
        · exact (hl.up _).cg (up2_ro _ (by omega) _ _)
        · exact Rw.up (hr.cg (up2_ro _ (by omega) _ _)) _
/-- what may lie, and what is there -/
theorem lay_l1 {v : Int32} {K : Int32 → Is → Prop} (hs : GS g) (hz : Sh z) (hp : PuO z a) (hso : SrO z I ns kd tl mo) (hr : Rw I (a + 1) h) (hb : Bd 1000 h) (hK : ∀ J, Of [a + 2, a + 3] I J → Rw J (a + 2) h → Rw J (a + 3) (fun s => tgN ns kd mo s (h s)) → WPc g m4_lay (d + 3) 0 0 68 [(0, .ref a), (2, .int v), (3, .int (iN 0)), (4, .int (iN 0))] [] z J (Qi z K)) : ∀ (n s : Nat) (J : Is), s + n = 6 → Of [a + 2, a + 3] I J → (∀ i, i < s → J (a + 2) i = iN (h i)) → (∀ i, i < s → J (a + 3) i = iN (tgN ns kd mo i (h i))) → WPc g m4_lay (d + 3) 0 0 2 [(0, .ref a), (1, .ref 9), (2, .int v), (3, .int (iN s))] [] z J (Qi z K)
  | 0, s, J, e, hJ, h2, h3 => by
    obtain rfl : s = 6 := by omega
    exact v4_lay_2 hs hz hp ⟨fun _ => hK J hJ h2 h3, fun c => absurd ((iN_le (by omega) (by omega)).mpr (Nat.le_refl _)) c⟩
  | n + 1, s, J, e, hJ, h2, h3 => by
    have ih := lay_l1 (v := v) hs hz hp hso hr hb hK n (s + 1)
    have e1 : J (a + 1) s = iN (h s) := by rw [hJ (a + 1) (by simp)]; exact hr s (by omega)
    have hbs := hb s (by omega)
    refine v4_lay_2 hs hz hp ⟨fun c => ?_, fun c => ⟨fun c => ?_, fun c => ⟨inB_n (by omega) (by omega), ?_⟩⟩⟩
    · rw [iN_le (by omega) (by omega)] at c; omega
    · rw [hz.l 9 rfl] at c
      exact absurd ((iN_le (a := 6) (b := s) (by omega) (by omega)).mp c) (by omega)
    · rw [iN_toN (by omega), e1, up2_ro _ (by omega), e1, iN_add]
      have hO : Of [a + 2, a + 3] I (up2 J (a + 2) s (iN (h s))) := hJ.upt List.mem_cons_self _ _
      have fin : ∀ t, t = tgN ns kd mo s (h s) → WPc g m4_lay (d + 3) 0 0 2 [(0, .ref a), (1, .ref 9), (2, .int v), (3, .int (iN (s + 1)))] [] z (up2 (up2 J (a + 2) s (iN (h s))) (a + 3) s (iN t)) (Qi z K) := fun t et => by
        refine ih _ (by omega) (hO.upt (List.mem_cons_of_mem _ List.mem_cons_self) _ _) (fun i hi => ?_) (fun i hi => ?_)
        · rw [up2_ro _ (by omega), up2_ra]; unfold up1; split
          next q => rw [q]
          next => exact h2 i (by omega)
        · rw [up2_ra, up2_ro _ (by omega)]; unfold up1; split
          next q => rw [q, et]
          next => exact h3 i (by omega)
      by_cases hn : s < ns
      · obtain ⟨⟨q, hq, so⟩, hk, ht, hm⟩ := hso.2.1 s hn
        rw [hq]
        show dsp _ (zT z q) _
        refine c_tog (d := d) hs ((so.cg (hO q ?_))) hk hm (by omega) (fin _ (by unfold tgN; rw [if_pos hn]))
        simp only [List.mem_cons, List.not_mem_nil, or_false, not_or]
        exact ⟨so.ne hp.t2, so.ne hp.t3⟩
      · rw [hso.2.2 s (by omega) (by omega)]
        exact fin 0 (by unfold tgN; rw [if_neg hn])
theorem c_lay {k : Nat} {K : Int32 → Is → Prop} (hs : GS g) (hz : Sh z) (hp : PuO z a) (hso : SrO z I ns kd tl mo) (hr : Rw I (a + 1) h) (hb : Bd 1000 h) (hk : k ≤ 1000) (hK : LayK a I h K (layN k h (fun s => tgN ns kd mo s (h s)))) : Wi g m4_lay (d + 3) [.ref a, .ref 9, .int (iN k)] z I K := by
  refine v4_lay hs (lay_l1 hs hz hp hso hr hb (fun J hJ h1 h2 => ?_) 6 0 I rfl (Of.rf _ _) (fun i hi => absurd hi (by omega)) (fun i hi => absurd hi (by omega)))
  have := lay_l2 (d := d) (k := k) (K := K) (I := I) (h := h) hs hp hk k 0 h _ J (by omega) hJ h1 h2 hb (fun s hs => by have := tgN_le ns kd mo s (h s); show tgN _ _ _ _ _ ≤ 1000; omega) (fun s _ => Nat.le_refl _) hK
  have e0 : bset (fun s => decide (h s < h s)) 6 = 0 := by simp [bset]
  rw [e0] at this
  exact this
end LAY
