/-! what a text says: the order of reckoning, on both sides -/
def twI (c : Nat) (a b : Int32) : Int32 := if c = 11 then (if a = iN 0 ∧ b = iN 0 then iN 0 else iN 1) else if c = 12 then (if a = iN 0 ∨ b = iN 0 then iN 0 else iN 1) else if c = 14 then (if b ≤ a then iN 0 else iN 1) else if c = 15 then (if a = b then iN 1 else iN 0) else if c = 16 then a + b else if c = 17 then a - b else a * b
def est (nm : Nat → Nat) (c h : Nat) (st : Nat → Int32) : Nat × (Nat → Int32) :=
  if 100000 ≤ c then (h + 1, up1 st h (iN (c - 100000)))
  else if c < 11 then (h + 1, up1 st h (iN (nm c)))
  else if c = 13 then (h, up1 st (h - 1) (if st (h - 1) = iN 0 then iN 1 else iN 0))
  else if c = 19 then (h, up1 st (h - 1) (-(st (h - 1))))
  else (h - 1, up1 st (h - 2) (twI c (st (h - 2)) (st (h - 1))))
def hok (c h h' : Nat) : Prop := (((100000 ≤ c ∧ c < 200000) ∨ c < 6) ∧ h < 32 ∧ h' = h + 1) ∨ ((c = 13 ∨ c = 19) ∧ 1 ≤ h ∧ h ≤ 32 ∧ h' = h) ∨ ((c = 11 ∨ c = 12 ∨ (14 ≤ c ∧ c ≤ 18)) ∧ 2 ≤ h ∧ h ≤ 32 ∧ h' = h - 1)
def hrun (f : Nat → Nat) : Nat → Nat → Nat → Nat → Prop
  | 0, _, h, h' => h = h'
  | n + 1, i, h, h' => ∃ h1, hok (f i) h h1 ∧ hrun f n (i + 1) h1 h'
def erun (nm f : Nat → Nat) : Nat → Nat → Nat → (Nat → Int32) → Nat × (Nat → Int32)
  | 0, _, h, st => (h, st)
  | n + 1, i, h, st => erun nm f n (i + 1) (est nm (f i) h st).1 (est nm (f i) h st).2
theorem est_num {nm : Nat → Nat} {c h : Nat} {st : Nat → Int32} (hc : 100000 ≤ c) : est nm c h st = (h + 1, up1 st h (iN (c - 100000))) := by unfold est; rw [if_pos hc]
theorem est_nam {nm : Nat → Nat} {c h : Nat} {st : Nat → Int32} (hc : c < 6) : est nm c h st = (h + 1, up1 st h (iN (nm c))) := by unfold est; rw [if_neg (by omega), if_pos (by omega)]
theorem est_not {nm : Nat → Nat} {h : Nat} {st : Nat → Int32} : est nm 13 h st = (h, up1 st (h - 1) (if st (h - 1) = iN 0 then iN 1 else iN 0)) := rfl
theorem est_neg {nm : Nat → Nat} {h : Nat} {st : Nat → Int32} : est nm 19 h st = (h, up1 st (h - 1) (-(st (h - 1)))) := rfl
theorem est_two {nm : Nat → Nat} {c h : Nat} {st : Nat → Int32} (hc : c = 11 ∨ c = 12 ∨ (14 ≤ c ∧ c ≤ 18)) : est nm c h st = (h - 1, up1 st (h - 2) (twI c (st (h - 2)) (st (h - 1)))) := by unfold est; rw [if_neg (by omega), if_neg (by omega), if_neg (by omega), if_neg (by omega)]
theorem up1_cg {st st2 : Nat → Int32} {j k : Nat} {v : Int32} (e : ∀ i, i < k → i ≠ j → st i = st2 i) : ∀ i, i < k → up1 st j v i = up1 st2 j v i := fun i hi => by
  unfold up1; split
  · rfl
  next q => exact e i hi q
theorem est_cg {nm : Nat → Nat} {c h h1 : Nat} {st st2 : Nat → Int32} (hc : hok c h h1) (e : ∀ i, i < h → st i = st2 i) : (est nm c h st).1 = h1 ∧ (est nm c h st2).1 = h1 ∧ ∀ i, i < h1 → (est nm c h st).2 i = (est nm c h st2).2 i := by
  rcases hc with ⟨hc, h2, rfl⟩ | ⟨hc, h2, h3, rfl⟩ | ⟨hc, h2, h3, rfl⟩
  · rcases hc with hc | hc
    · rw [est_num hc.1, est_num hc.1]
      exact ⟨rfl, rfl, up1_cg (fun i hi q => e i (by omega))⟩
    · rw [est_nam hc, est_nam hc]
      exact ⟨rfl, rfl, up1_cg (fun i hi q => e i (by omega))⟩
  · have e1 := e (h1 - 1) (by omega)
    rcases hc with rfl | rfl
    · rw [est_not, est_not, e1]
      exact ⟨rfl, rfl, up1_cg (fun i hi q => e i (by omega))⟩
    · rw [est_neg, est_neg, e1]
      exact ⟨rfl, rfl, up1_cg (fun i hi q => e i (by omega))⟩
  · rw [est_two hc, est_two hc, e (h - 1) (by omega), e (h - 2) (by omega)]
    exact ⟨rfl, rfl, up1_cg (fun i hi q => e i (by omega))⟩
theorem erun_cg {nm f : Nat → Nat} : ∀ {n i h h' : Nat} {st st2 : Nat → Int32}, hrun f n i h h' → (∀ i, i < h → st i = st2 i) → ∀ i', i' < h' → (erun nm f n i h st).2 i' = (erun nm f n i h st2).2 i'
  | 0, i, h, h', st, st2, hr, e => fun i' hi => e i' (by have : h = h' := hr; omega)
  | n + 1, i, h, h', st, st2, hr, e => by
    obtain ⟨h1, hc, hr⟩ := hr
    obtain ⟨a, b, q⟩ := est_cg (nm := nm) hc e
    show ∀ i', i' < h' → (erun nm f n (i + 1) (est nm (f i) h st).1 (est nm (f i) h st).2).2 i' = (erun nm f n (i + 1) (est nm (f i) h st2).1 (est nm (f i) h st2).2).2 i'
    rw [a, b]
    exact erun_cg hr q
/-- what codes say, from b up to e -/
def sayI (f : Nat → Nat) (b e : Nat) (nm : Nat → Nat) : Int32 := (erun nm f (e - b) b 0 (fun _ => iN 0)).2 0
theorem iN_dec {n : Nat} (h : 1 ≤ n) : iN n + iM 1 = iN (n - 1) := by
  have e : iM 1 = -iN 1 := by decide
  rw [e, ← Int32.sub_eq_add_neg, iN_sub h]
-- the class' codes
def cTr (c : Nat) : Int32 := if 100000 ≤ c then iN (c - 100000) else if c < 11 then iM (c + 7) else if c = 11 then iM 4 else if c = 12 then iM 5 else if c = 13 then iM 6 else if c = 14 then iM 19 else if c = 15 then iM 20 else if c = 16 then iM 16 else if c = 17 then iM 17 else if c = 18 then iM 18 else iM 24
section TEXT
variable {g : Gt} {d a : Nat} {z : Zs} {I : Is} {h h1 c : Nat} {st : Nat → Int32} {nm : Nat → Nat}
def StO (I : Is) (a h : Nat) (st : Nat → Int32) : Prop := I a 3 = iN h ∧ ∀ i, i < 32 → I (a + 3) i = st i
theorem c_push {K : Is → Prop} {v : Int32} (hs : GS g) (ht : TxO z a) (hst : StO I a h st) (h32 : h < 32) (hK : ∀ J, Of [a, a + 3] I J → StO J a (h + 1) (up1 st h v) → K J) : Wv g m10_push d [.ref a, .int v] z I K := by
  obtain ⟨e1, e2⟩ := hst
  refine v10_push hs ht ⟨fun q => ?_, fun _ => ?_⟩
  · rw [e1, iN_le (by omega) (by omega)] at q; omega
  · rw [e1, iN_toN (by omega), up2_ro _ (by omega), e1, iN_add]
    refine ⟨inB_n h32 (by omega), hK _ ((Of.up (by simp) _ _).upt (by simp) _ _) ⟨by rw [up2_ra, up1_s], fun i hi => ?_⟩⟩
    rw [up2_ro _ (by omega), up2_ra]; unfold up1; split
    · rfl
    · exact e2 i hi
theorem c_pop {K : Int32 → Is → Prop} (hs : GS g) (ht : TxO z a) (hst : StO I a h st) (h0 : 1 ≤ h) (h32 : h ≤ 32) (hK : ∀ J, Of [a, a + 3] I J → StO J a (h - 1) st → K (st (h - 1)) J) : Wi g m10_pop d [.ref a] z I K := by
  obtain ⟨e1, e2⟩ := hst
  refine v10_pop hs ht ⟨fun _ => ?_, fun q => absurd ((iN_le (by omega) (by omega)).mpr h0) (by rw [e1] at q; exact q)⟩
  rw [e1, iN_sub h0, up2_ra, up1_s, iN_toN (by omega), up2_ro _ (by omega), e2 _ (by omega)]
  exact ⟨inB_n (by omega) (by omega), hK _ (Of.up (by simp) _ _) ⟨by rw [up2_ra, up1_s], fun i hi => by rw [up2_ro _ (by omega)]; exact e2 i hi⟩⟩
/-- a sign's number in the class -/
def cTk (c : Nat) : Nat := if c = 11 then 3 else if c = 12 then 4 else if c = 14 then 18 else if c = 15 then 19 else if c = 16 then 15 else if c = 17 then 16 else 17
theorem c_reckon {K : Int32 → Is → Prop} {v w : Int32} (hs : GS g) (hc : c = 11 ∨ c = 12 ∨ (14 ≤ c ∧ c ≤ 18)) (hK : K (twI c v w) I) : Wi g m10_reckon d [.int (iN (cTk c)), .int v, .int w] z I K := by
  have N : ∀ n m : Nat, n ≠ m → n < 100 → m < 100 → iN n = iN m → False := fun n m h1 h2 h3 q => h1 ((iN_inj (by omega) (by omega)).mp q)
  refine v10_reckon hs ?_
  unfold twI at hK
  rcases hc with rfl | rfl | ⟨h1, h2⟩
  · refine ⟨fun _ => ⟨fun c1 => ⟨fun c2 => ?_, fun c2 => ?_⟩, fun c1 => ?_⟩, fun q => absurd rfl q⟩
    · rw [if_pos rfl, if_pos ⟨c1, c2⟩] at hK; exact hK
    · rw [if_pos rfl, if_neg (fun q => c2 q.2)] at hK; exact hK
    · rw [if_pos rfl, if_neg (fun q => c1 q.1)] at hK; exact hK
  · refine ⟨fun q => (N 4 3 (by omega) (by omega) (by omega) q).elim, fun _ => ⟨fun _ => ⟨fun c1 => ?_, fun c1 => ⟨fun c2 => ?_, fun c2 => ?_⟩⟩, fun q => absurd rfl q⟩⟩
    · rw [if_neg (by omega), if_pos rfl, if_pos (Or.inl c1)] at hK; exact hK
    · rw [if_neg (by omega), if_pos rfl, if_pos (Or.inr c2)] at hK; exact hK
    · rw [if_neg (by omega), if_pos rfl, if_neg (fun q => q.elim c1 c2)] at hK; exact hK
  · have F : ∀ n m : Nat, ∀ {X Y : Prop}, n ≠ m → n < 100 → m < 100 → Y → (iN n = iN m → X) ∧ (¬ iN n = iN m → Y) := fun n m X Y h1 h2 h3 y => ⟨fun q => (N n m h1 h2 h3 q).elim, fun _ => y⟩
    have T : ∀ n : Nat, ∀ {X Y : Prop}, X → (iN n = iN n → X) ∧ (¬ iN n = iN n → Y) := fun n X Y x => ⟨fun _ => x, fun q => absurd rfl q⟩
    obtain rfl | rfl | rfl | rfl | rfl : c = 14 ∨ c = 15 ∨ c = 16 ∨ c = 17 ∨ c = 18 := by omega
    · simp only [show (14 = 11) = False by simp, show (14 = 12) = False by simp, if_false, if_true] at hK
      refine F 18 _ (by omega) (by omega) (by omega) (F 18 _ (by omega) (by omega) (by omega) (F 18 _ (by omega) (by omega) (by omega) (F 18 _ (by omega) (by omega) (by omega) (F 18 _ (by omega) (by omega) (by omega) (F 18 _ (by omega) (by omega) (by omega) (F 18 _ (by omega) (by omega) (by omega) (F 18 _ (by omega) (by omega) (by omega) (F 18 _ (by omega) (by omega) (by omega) (F 18 _ (by omega) (by omega) (by omega) (F 18 _ (by omega) (by omega) (by omega) (F 18 _ (by omega) (by omega) (by omega) (F 18 _ (by omega) (by omega) (by omega) (F 18 _ (by omega) (by omega) (by omega) (F 18 _ (by omega) (by omega) (by omega) (T 18 ⟨fun q => ?_, fun q => ?_⟩)))))))))))))))
      · rw [if_pos q] at hK; exact hK
      · rw [if_neg q] at hK; exact hK
    · simp only [show (15 = 11) = False by simp, show (15 = 12) = False by simp, show (15 = 14) = False by simp, if_false, if_true] at hK
      refine F 19 _ (by omega) (by omega) (by omega) (F 19 _ (by omega) (by omega) (by omega) (F 19 _ (by omega) (by omega) (by omega) (F 19 _ (by omega) (by omega) (by omega) (F 19 _ (by omega) (by omega) (by omega) (F 19 _ (by omega) (by omega) (by omega) (F 19 _ (by omega) (by omega) (by omega) (F 19 _ (by omega) (by omega) (by omega) (F 19 _ (by omega) (by omega) (by omega) (F 19 _ (by omega) (by omega) (by omega) (F 19 _ (by omega) (by omega) (by omega) (F 19 _ (by omega) (by omega) (by omega) (F 19 _ (by omega) (by omega) (by omega) (F 19 _ (by omega) (by omega) (by omega) (F 19 _ (by omega) (by omega) (by omega) (F 19 _ (by omega) (by omega) (by omega) (T 19 ⟨fun q => ?_, fun q => ?_⟩))))))))))))))))
      · rw [if_pos q] at hK; exact hK
      · rw [if_neg q] at hK; exact hK
    · exact F 15 _ (by omega) (by omega) (by omega) (F 15 _ (by omega) (by omega) (by omega) (F 15 _ (by omega) (by omega) (by omega) (F 15 _ (by omega) (by omega) (by omega) (F 15 _ (by omega) (by omega) (by omega) (F 15 _ (by omega) (by omega) (by omega) (F 15 _ (by omega) (by omega) (by omega) (F 15 _ (by omega) (by omega) (by omega) (F 15 _ (by omega) (by omega) (by omega) (F 15 _ (by omega) (by omega) (by omega) (F 15 _ (by omega) (by omega) (by omega) (F 15 _ (by omega) (by omega) (by omega) (T 15 hK))))))))))))
    · exact F 16 _ (by omega) (by omega) (by omega) (F 16 _ (by omega) (by omega) (by omega) (F 16 _ (by omega) (by omega) (by omega) (F 16 _ (by omega) (by omega) (by omega) (F 16 _ (by omega) (by omega) (by omega) (F 16 _ (by omega) (by omega) (by omega) (F 16 _ (by omega) (by omega) (by omega) (F 16 _ (by omega) (by omega) (by omega) (F 16 _ (by omega) (by omega) (by omega) (F 16 _ (by omega) (by omega) (by omega) (F 16 _ (by omega) (by omega) (by omega) (F 16 _ (by omega) (by omega) (by omega) (F 16 _ (by omega) (by omega) (by omega) (T 16 hK)))))))))))))
    · exact F 17 _ (by omega) (by omega) (by omega) (F 17 _ (by omega) (by omega) (by omega) (F 17 _ (by omega) (by omega) (by omega) (F 17 _ (by omega) (by omega) (by omega) (F 17 _ (by omega) (by omega) (by omega) (F 17 _ (by omega) (by omega) (by omega) (F 17 _ (by omega) (by omega) (by omega) (F 17 _ (by omega) (by omega) (by omega) (F 17 _ (by omega) (by omega) (by omega) (F 17 _ (by omega) (by omega) (by omega) (F 17 _ (by omega) (by omega) (by omega) (F 17 _ (by omega) (by omega) (by omega) (F 17 _ (by omega) (by omega) (by omega) (F 17 _ (by omega) (by omega) (by omega) (T 17 hK))))))))))))))
theorem tx_rows (hz : Sh z) (ht : TxO z a) : 48 ∉ [a, a + 3] ∧ a + 1 ∉ [a, a + 3] ∧ a + 2 ∉ [a, a + 3] := by
  refine ⟨fun q => ?_, fun q => ?_, fun q => ?_⟩
  · simp only [List.mem_cons, List.not_mem_nil, or_false] at q
    rcases q with q | q
    · have := ht.t; rw [← q, hz.t 48 rfl] at this; omega
    · have := ht.l3; rw [← q, hz.l 48 rfl] at this; omega
  · simp at q
  · simp at q
theorem iM1_sub {n : Nat} (h : 1 ≤ n) : iM 1 - iM n = iN (n - 1) := by
  have e : ∀ n, iM n = -iN n := fun n => Int32.ofInt_neg n
  rw [e, e, Int32.sub_neg, Int32.add_comm, ← Int32.sub_eq_add_neg, iN_sub h]
theorem c_step {K : Is → Prop} (hs : GS g) (hz : Sh z) (ht : TxO z a) (hst : StO I a h st) (hn : Rw I 48 nm) (hc : hok c h h1) (hK : ∀ J, Of [a, a + 3] I J → StO J a h1 (est nm c h st).2 → K J) : Wv g m10_step (d + 1) [.ref a, .int (cTr c), .ref 48] z I K := by
  have NB : ∀ n lo hi : Nat, n < 100 → lo < 100 → hi < 100 → (n < lo ∨ hi < n) → ¬ inR (iN n) (iN lo) (iN hi) := fun n lo hi h1 h2 h3 h4 q => by rw [inR_iN (by omega) (by omega) (by omega)] at q; omega
  have NE : ∀ n m : Nat, n ≠ m → n < 100 → m < 100 → ¬ iN n = iN m := fun n m h1 h2 h3 q => h1 ((iN_inj (by omega) (by omega)).mp q)
  rcases hc with ⟨hc, h2, rfl⟩ | ⟨hc, h2, h3, rfl⟩ | ⟨hc, h2, h3, rfl⟩
  · rcases hc with hc | hc
    · rw [est_num hc.1] at hK
      have e : cTr c = iN (c - 100000) := by unfold cTr; rw [if_pos hc.1]
      rw [e]
      exact v10_step hs ht ⟨fun q => absurd ((iN_lt (by omega) (by omega)).mp q) (by omega), fun _ => c_push hs ht hst h2 hK⟩
    · rw [est_nam hc] at hK
      have e : cTr c = iM (c + 7) := by unfold cTr; rw [if_neg (by omega), if_pos (by omega)]
      rw [e]
      refine v10_step hs ht ⟨fun _ => ?_, fun q => absurd (iM_lt (by omega) (by omega) (by omega)) q⟩
      rw [iM1_sub (by omega)]
      refine v10_step_16 hs ht ⟨fun _ => ⟨alB_t (t := 0) (hz.t 48 rfl), ?_⟩, fun q => absurd ((inR_iN (by omega) (by omega) (by omega)).mpr ⟨by omega, by omega⟩) q⟩
      rw [hz.l 48 rfl, iN_sub (by omega), show c + 7 - 1 - 6 = c by omega, iN_toN (by omega), hn c (by omega)]
      exact ⟨fun q => absurd ((iN_le (a := 6) (by omega) (by omega)).mp q) (by omega), fun _ => ⟨iarB_t (hz.t 48 rfl), inB_n (by omega) (by omega), c_push hs ht hst h2 hK⟩⟩
  · rcases hc with rfl | rfl
    · rw [est_not] at hK
      show Wv g m10_step (d + 1) [.ref a, .int (iM 6), .ref 48] z I K
      refine v10_step hs ht ⟨fun _ => ?_, fun q => absurd (iM_lt (by omega) (by omega) (by omega)) q⟩
      rw [iM1_sub (by omega)]
      refine v10_step_16 hs ht ⟨fun q => absurd q (NB _ _ _ (by omega) (by omega) (by omega) (by omega)), fun _ => ⟨fun _ => c_pop hs ht hst h2 h3 (fun J hJ hst' => ⟨fun q => ?_, fun q => ?_⟩), fun q => absurd rfl q⟩⟩
      · rw [if_pos q] at hK
        exact c_push hs ht hst' (by omega) (fun J' hJ' hs' => hK J' (hJ.tr hJ') (by rw [show h1 - 1 + 1 = h1 by omega] at hs'; exact hs'))
      · rw [if_neg q] at hK
        exact c_push hs ht hst' (by omega) (fun J' hJ' hs' => hK J' (hJ.tr hJ') (by rw [show h1 - 1 + 1 = h1 by omega] at hs'; exact hs'))
    · rw [est_neg] at hK
      show Wv g m10_step (d + 1) [.ref a, .int (iM 24), .ref 48] z I K
      refine v10_step hs ht ⟨fun _ => ?_, fun q => absurd (iM_lt (by omega) (by omega) (by omega)) q⟩
      rw [iM1_sub (by omega)]
      refine v10_step_16 hs ht ⟨fun q => absurd q (NB _ _ _ (by omega) (by omega) (by omega) (by omega)), fun _ => ⟨fun q => absurd q (NE _ _ (by omega) (by omega) (by omega)), fun _ => ⟨fun _ => c_pop hs ht hst h2 h3 (fun J hJ hst' => ?_), fun q => absurd rfl q⟩⟩⟩
      exact c_push hs ht hst' (by omega) (fun J' hJ' hs' => hK J' (hJ.tr hJ') (by rw [show h1 - 1 + 1 = h1 by omega] at hs'; exact hs'))
  · rw [est_two hc] at hK
    have e : cTr c = iM (cTk c + 1) ∧ cTk c < 20 ∧ (cTk c < 5 ∨ 11 < cTk c) ∧ cTk c ≠ 5 := by
      obtain rfl | rfl | rfl | rfl | rfl | rfl | rfl : c = 11 ∨ c = 12 ∨ c = 14 ∨ c = 15 ∨ c = 16 ∨ c = 17 ∨ c = 18 := by omega
      all_goals exact ⟨by decide, by decide, by decide, by decide⟩
    rw [e.1]
    refine v10_step hs ht ⟨fun _ => ?_, fun q => absurd (iM_lt (by omega) (by omega) (by omega)) q⟩
    rw [iM1_sub (by omega), show cTk c + 1 - 1 = cTk c by omega]
    refine v10_step_16 hs ht ⟨fun q => absurd q (NB _ _ _ (by omega) (by omega) (by omega) (by omega)), fun _ => ⟨fun q => absurd q (NE _ _ (by omega) (by omega) (by omega)), fun _ => ⟨fun q => absurd q (NE _ _ (by omega) (by omega) (by omega)), fun _ => ?_⟩⟩⟩
    refine c_pop hs ht hst (by omega) h3 (fun J hJ hst' => c_pop hs ht hst' (by omega) (by omega) (fun J2 hJ2 hst2 => c_reckon hs hc ?_))
    refine c_push hs ht hst2 (by omega) (fun J' hJ' hs' => hK J' ((hJ.tr hJ2).tr hJ') ?_)
    rw [show h - 1 - 1 + 1 = h - 1 by omega, show h - 1 - 1 = h - 2 by omega] at hs'
    exact hs'
end TEXT
