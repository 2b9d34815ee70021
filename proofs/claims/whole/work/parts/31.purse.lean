/-! contracts: sorts, purses -/
def Rw (I : Is) (c : Nat) (h : Nat → Nat) : Prop := ∀ s, s < 6 → I c s = iN (h s)
def Bd (b : Nat) (h : Nat → Nat) : Prop := ∀ s, s < 6 → h s ≤ b
theorem Rw.cg {I J : Is} {c e : Nat} {h : Nat → Nat} (a : Rw I c h) (q : J e = I c) : Rw J e h := fun s hs => by rw [q]; exact a s hs
theorem Rw.up {I : Is} {c s : Nat} {h : Nat → Nat} (a : Rw I c h) (n : Nat) : Rw (up2 I c s (iN n)) c (up1 h s n) := fun i hi => by
  rw [up2_ra]; unfold up1; split
  · rfl
  · exact a i hi
theorem Rw.fn {I : Is} {c : Nat} {h h2 : Nat → Nat} (a : Rw I c h) (q : ∀ s, s < 6 → h s = h2 s) : Rw I c h2 := fun s hs => by rw [a s hs, q s hs]
theorem up2_self {I : Is} {a i : Nat} {v : Int32} (h : I a i = v) : up2 I a i v = I := by
  funext b j; unfold up2
  split
  next e =>
    split
    next e2 => rw [e, e2, h]
    next => rfl
  next => rfl
theorem cpI_row (I : Is) (a b n : Nat) {j : Nat} (h : j < n) : cpI I a b 0 0 n b j = I a j := by
  unfold cpI va_cpy
  rw [if_pos rfl]
  simp [h]
theorem Rw.cp {I : Is} {a b : Nat} {h : Nat → Nat} (q : Rw I a h) : Rw (cpI I a b 0 0 6) b h := fun s hs => by rw [cpI_row I a b 6 hs]; exact q s hs
def kcl (k : Nat) : Nat := match k with
  | 0 => 8
  | 1 => 0
  | 2 => 6
  | 3 => 9
  | 4 => 1
  | _ => 3
theorem kcl_lt (k : Nat) : kcl k < 10 := by unfold kcl; split <;> omega
/-- a sort at cell q -/
def SoO (z : Zs) (I : Is) (q k tl mo : Nat) : Prop := zT z q = kcl k ∧ I q 0 = iN tl ∧ I q 1 = iN mo
theorem SoO.cg {z : Zs} {I J : Is} {q k tl mo : Nat} (h : SoO z I q k tl mo) (e : J q = I q) : SoO z J q k tl mo := ⟨h.1, by rw [e]; exact h.2.1, by rw [e]; exact h.2.2⟩
theorem SoO.ne {z : Zs} {I : Is} {q k tl mo c : Nat} (h : SoO z I q k tl mo) (e : zT z c = 100) : q ≠ c := fun x => by
  have := kcl_lt k; rw [← h.1, x, e] at this; omega
section SORTS
variable {g : Gt} {d : Nat} {z : Zs} {I : Is} {q k tl mo n : Nat} {K : Int32 → Is → Prop}
theorem c_kind (hs : GS g) (h : SoO z I q k tl mo) (hk : k ≤ 5) (hK : K (iN k) I) : dsp [(8, m8_kind), (0, m0_kind), (6, m6_kind), (9, m9_kind), (1, m1_kind), (3, m3_kind)] (zT z q) (fun mm => Wi g mm d [.ref q] z I K) := by
  rw [h.1]
  match k, hk with
  | 0, _ => show Wi g m8_kind d _ z I K; exact v8_kind hs hK
  | 1, _ => show Wi g m0_kind d _ z I K; exact v0_kind hs hK
  | 2, _ => show Wi g m6_kind d _ z I K; exact v6_kind hs hK
  | 3, _ => show Wi g m9_kind d _ z I K; exact v9_kind hs hK
  | 4, _ => show Wi g m1_kind d _ z I K; exact v1_kind hs hK
  | 5, _ => show Wi g m3_kind d _ z I K; exact v3_kind hs hK
theorem c0_tog (hs : GS g) (ht : tagB [0, 9] (zT z q) = true) {v : Int32} (hK : K (iN 2) I) : Wi g m0_together (d + 1) [.ref q, .int v] z I K := v0_together hs ⟨ht, v8_together hs (by rw [iN_add]; exact hK)⟩
theorem c_tog (hs : GS g) (h : SoO z I q k tl mo) (hk : k ≤ 5) (hmo : mo ≤ 9) (hn : n ≤ 1000) (hK : K (iN (togN k mo n)) I) : dsp [(8, m8_together), (0, m0_together), (6, m8_together), (9, m9_together), (1, m8_together), (3, m3_together)] (zT z q) (fun mm => Wi g mm (d + 2) [.ref q, .int (iN n)] z I K) := by
  have ht := h.1
  have h2 := h.2.2
  unfold togN at hK
  rw [h.1]
  match k, hk with
  | 0, _ => show Wi g m8_together _ _ z I K; exact v8_together hs hK
  | 1, _ => show Wi g m0_together _ _ z I K; exact c0_tog hs (by rw [ht]; rfl) hK
  | 2, _ => show Wi g m8_together _ _ z I K; exact v8_together hs hK
  | 3, _ =>
    show Wi g m9_together _ _ z I K
    refine v9_together hs ⟨by rw [ht]; rfl, fun c => ⟨by rw [ht]; rfl, c0_tog hs (by rw [ht]; rfl) ?_⟩, fun c => ⟨by rw [ht]; rfl, c0_tog hs (by rw [ht]; rfl) ?_⟩⟩
    · rw [h2, iN_le (by omega) (by omega)] at c
      simp only [show (3 = 1) = False by simp, if_false, if_true] at hK
      rw [if_neg (by omega)] at hK
      exact hK
    · rw [h2, iN_le (by omega) (by omega)] at c
      simp only [show (3 = 1) = False by simp, if_false, if_true] at hK
      rw [if_pos (by omega)] at hK
      rw [iN_add]; exact hK
  | 4, _ => show Wi g m8_together _ _ z I K; exact v8_together hs hK
  | 5, _ =>
    show Wi g m3_together _ _ z I K
    refine v3_together hs ⟨fun c => ⟨by rw [ht]; rfl, v8_together hs ?_⟩, fun c => ?_⟩
    · rw [iN_le (by omega) (by omega)] at c
      simp only [show (5 = 1) = False by simp, show (5 = 3) = False by simp, if_false] at hK
      rw [if_neg (by omega)] at hK
      exact hK
    · rw [iN_le (by omega) (by omega)] at c
      simp only [show (5 = 1) = False by simp, show (5 = 3) = False by simp, if_false] at hK
      rw [if_pos (⟨trivial, by omega⟩ : True ∧ 5 < n)] at hK
      exact hK
theorem mxI_N {a b : Nat} (ha : a < 2147483648) (hb : b < 2147483648) : mxI (iN a) (iN b) = iN (max a b) := by
  unfold mxI
  by_cases c : b ≤ a
  · rw [if_pos ((iN_le hb ha).mpr c), Nat.max_eq_left c]
  · rw [if_neg (fun q => c ((iN_le hb ha).mp q)), Nat.max_eq_right (by omega)]
theorem mnI_N {a b : Nat} (ha : a < 2147483648) (hb : b < 2147483648) : mnI (iN a) (iN b) = iN (min a b) := by
  unfold mnI
  by_cases c : a ≤ b
  · rw [if_pos ((iN_le ha hb).mpr c), Nat.min_eq_left c]
  · rw [if_neg (fun q => c ((iN_le ha hb).mp q)), Nat.min_eq_right (by omega)]
theorem c_left (hs : GS g) (h : SoO z I q k tl mo) (hk : k ≤ 5) (hmo : mo ≤ 9) (hn : n ≤ 1000) (hK : K (iN (lftN k mo n)) I) : dsp [(8, m8_leftOf), (0, m8_leftOf), (6, m8_leftOf), (9, m8_leftOf), (1, m1_leftOf), (3, m3_leftOf)] (zT z q) (fun mm => Wi g mm (d + 1) [.ref q, .int (iN n)] z I K) := by
  have ht := h.1
  have h2 := h.2.2
  unfold lftN at hK
  rw [h.1]
  match k, hk with
  | 0, _ => show Wi g m8_leftOf _ _ z I K; exact v8_leftOf hs hK
  | 1, _ => show Wi g m8_leftOf _ _ z I K; exact v8_leftOf hs hK
  | 2, _ => show Wi g m8_leftOf _ _ z I K; exact v8_leftOf hs hK
  | 3, _ => show Wi g m8_leftOf _ _ z I K; exact v8_leftOf hs hK
  | 4, _ =>
    show Wi g m1_leftOf _ _ z I K
    refine v1_leftOf hs ⟨by rw [ht]; rfl, v8_leftOf hs ?_⟩
    simp only [if_true] at hK
    cases n with
    | zero => exact hK
    | succ n => rw [iN_sub (by omega), mxI_N (by omega) (by omega), Nat.max_eq_right (Nat.zero_le _)]; exact hK
  | 5, _ =>
    show Wi g m3_leftOf _ _ z I K
    refine v3_leftOf hs ⟨by rw [ht]; rfl, v8_leftOf hs ⟨by rw [ht]; rfl, ?_⟩⟩
    simp only [show (5 = 4) = False by simp, if_false, if_true] at hK
    have hb : n * (9 - mo) ≤ 1000 * 9 := Nat.mul_le_mul hn (by omega)
    rw [h2, iN_sub (by omega), iN_mul, iN_div (by omega) (by omega)]
    exact hK
theorem c6_wth (hs : GS g) (ht : tagB [6, 1] (zT z q) = true) (ht2 : tagB [8, 0, 6, 9, 1, 3] (zT z q) = true) (h : I q 0 = iN tl) (hn : n ≤ 1000) (hK : K (iN (if n < 2 then 3 * tl else tl)) I) : Wi g m6_worthOf (d + 1) [.ref q, .int (iN n)] z I K := by
  refine v6_worthOf hs ⟨fun c => ⟨ht, v8_worthOf hs ⟨ht2, ?_⟩⟩, fun c => ⟨ht, v8_worthOf hs ⟨ht2, ?_⟩⟩⟩
  · rw [iN_le (by omega) (by omega)] at c
    rw [if_neg (by omega)] at hK
    rw [h]; exact hK
  · rw [iN_le (by omega) (by omega)] at c
    rw [if_pos (by omega)] at hK
    rw [h, iN_mul]; exact hK
theorem c_wth (hs : GS g) (h : SoO z I q k tl mo) (hk : k ≤ 5) (hn : n ≤ 1000) (hK : K (iN (wthN k tl mo n)) I) : dsp [(8, m8_worthOf), (0, m8_worthOf), (6, m6_worthOf), (9, m8_worthOf), (1, m1_worthOf), (3, m8_worthOf)] (zT z q) (fun mm => Wi g mm (d + 2) [.ref q, .int (iN n)] z I K) := by
  have ht := h.1
  have h1 := h.2.1
  have h2 := h.2.2
  unfold wthN at hK
  rw [h.1]
  match k, hk with
  | 0, _ => show Wi g m8_worthOf _ _ z I K; exact v8_worthOf hs ⟨by rw [ht]; rfl, by rw [h1]; exact hK⟩
  | 1, _ => show Wi g m8_worthOf _ _ z I K; exact v8_worthOf hs ⟨by rw [ht]; rfl, by rw [h1]; exact hK⟩
  | 2, _ => show Wi g m6_worthOf _ _ z I K; exact c6_wth hs (by rw [ht]; rfl) (by rw [ht]; rfl) h1 hn (by simpa using hK)
  | 3, _ => show Wi g m8_worthOf _ _ z I K; exact v8_worthOf hs ⟨by rw [ht]; rfl, by rw [h1]; exact hK⟩
  | 4, _ =>
    show Wi g m1_worthOf _ _ z I K
    refine v1_worthOf hs ⟨by rw [ht]; rfl, c6_wth hs (by rw [ht]; rfl) (by rw [ht]; rfl) h1 hn ⟨by rw [ht]; rfl, ?_⟩⟩
    rw [h2, iN_add]
    simpa using hK
  | 5, _ => show Wi g m8_worthOf _ _ z I K; exact v8_worthOf hs ⟨by rw [ht]; rfl, by rw [h1]; exact hK⟩
end SORTS
section PURSE
variable {g : Gt} {d a : Nat} {z : Zs} {I : Is} {s n x : Nat} {h : Nat → Nat}
theorem c_many {K : Int32 → Is → Prop} (hs : GS g) (hp : PuO z a) (h6 : s < 6) (hK : K (I (a + 1) s) I) : Wi g m4_many (d + 1) [.ref a, .int (iN s)] z I K := by
  refine v4_many hs hp ⟨fun _ => ⟨inB_n h6 (by omega), ?_⟩, fun c => absurd ((inR_iN (by omega) (by omega) (by omega)).mpr ⟨by omega, by omega⟩) c⟩
  rw [iN_toN (by omega)]; exact hK
theorem c_pput {K : Is → Prop} {v : Int32} (hs : GS g) (hp : PuO z a) (h6 : s < 6) (hK : K (up2 I (a + 1) s v)) : Wv g m4_put (d + 1) [.ref a, .int (iN s), .int v] z I K := by
  refine v4_put hs hp ⟨fun _ => ⟨inB_n h6 (by omega), ?_⟩, fun c => absurd ((inR_iN (by omega) (by omega) (by omega)).mpr ⟨by omega, by omega⟩) c⟩
  rw [iN_toN (by omega)]; exact hK
theorem c_grow {K : Int32 → Is → Prop} (hs : GS g) (hp : PuO z a) (h6 : s < 6) (hx : I (a + 1) s = iN x) (hx9 : x ≤ 99) (hn : n ≤ 1000) (hK : K (iN (min n (99 - x))) (up2 I (a + 1) s (iN (x + min n (99 - x))))) : Wi g m4_grow (d + 1) [.ref a, .int (iN s), .int (iN n)] z I K := by
  refine v4_grow hs hp ⟨fun _ => ⟨inB_n h6 (by omega), ?_⟩, fun c => absurd ((inR_iN (by omega) (by omega) (by omega)).mpr ⟨by omega, by omega⟩) c⟩
  rw [iN_toN (by omega), hx, iN_sub hx9, mnI_N (by omega) (by omega), iN_add]; exact hK
theorem c_grow0 {K : Int32 → Is → Prop} {v : Int32} (hs : GS g) (hp : PuO z a) (hK : K (iN 0) I) : Wi g m4_grow (d + 1) [.ref a, .int (iM 1), .int v] z I K := by
  refine v4_grow hs hp ⟨fun c => absurd c.1 (iM_nle (by omega) (by omega) (by omega)), fun c => hK⟩
theorem c_lose {K : Is → Prop} (hs : GS g) (hp : PuO z a) (h6 : s < 6) (hx : I (a + 1) s = iN x) (hx9 : x ≤ 99) (hK : K (up2 I (a + 1) s (iN (x - 1)))) : Wv g m4_lose (d + 1) [.ref a, .int (iN s)] z I K := by
  refine v4_lose hs hp ⟨fun _ => ⟨inB_n h6 (by omega), ?_⟩, fun c => absurd ((inR_iN (by omega) (by omega) (by omega)).mpr ⟨by omega, by omega⟩) c⟩
  rw [iN_toN (by omega), hx, iN_le (by omega) (by omega)]
  refine ⟨fun c => ?_, fun c => ?_⟩
  · obtain rfl : x = 0 := by omega
    rw [up2_self hx] at hK
    exact hK
  · rw [iN_sub (by omega)]; exact hK
theorem c_become {r1 : Nat} {K : Is → Prop} (hs : GS g) (hp : PuO z a) (hr : PuO z r1) (hh : Rw I (r1 + 1) h) (hK : ∀ J, Of [a + 1] I J → Rw J (a + 1) h → K J) : Wv g m4_become (d + 1) [.ref a, .ref r1] z I K :=
  v4_become hs hp hr (hK _ (Of.cp List.mem_cons_self 0 0 6) hh.cp)
/-- Arrays.fill(row, 0) -/
theorem fill_l {r L : Nat} {K : Is → Prop} (hs : GS g) (ht : zT z r = 100) (hl : zL z r = L) (hL : L ≤ 1000) (hK : ∀ J, Of [r] I J → (∀ i, i < L → J r i = iN 0) → (∀ i, L ≤ i → J r i = I r i) → K J) : ∀ (n s : Nat) (J : Is), s + n = L → Of [r] I J → (∀ i, i < s → J r i = iN 0) → (∀ i, s ≤ i → J r i = I r i) → WPc g mJ7_fill_53178 d 0 0 5 [(0, .ref r), (1, .int (iN 0)), (2, .int (iN s)), (3, .int (iN L))] [] z J (Qv z K)
  | 0, s, J, e, h1, h2, h3 => by
    obtain rfl : s = L := by omega
    exact vJ7_fill_53178_5 hs ⟨fun _ => hK J h1 h2 h3, fun c => absurd ((iN_le (by omega) (by omega)).mpr (Nat.le_refl _)) c⟩
  | n + 1, s, J, e, h1, h2, h3 => by
    refine vJ7_fill_53178_5 hs ⟨fun c => ?_, fun c => ⟨by rw [ht]; rfl, by rw [hl]; exact inB_n (by omega) (by omega), ?_⟩⟩
    · rw [iN_le (by omega) (by omega)] at c; omega
    · rw [iN_toN (by omega), iN_add]
      refine fill_l hs ht hl hL hK n (s + 1) _ (by omega) (h1.upt List.mem_cons_self _ _) (fun i hi => ?_) (fun i hi => ?_)
      · rw [up2_ra]; unfold up1; split
        · rfl
        · exact h2 i (by omega)
      · rw [up2_ra, up1_o _ (by omega)]; exact h3 i (by omega)
theorem c_fill {r L : Nat} {K : Is → Prop} (hs : GS g) (ht : zT z r = 100) (hl : zL z r = L) (hL : L ≤ 1000) (hK : ∀ J, Of [r] I J → (∀ i, i < L → J r i = iN 0) → (∀ i, L ≤ i → J r i = I r i) → K J) : Wv g mJ7_fill_53178 d [.ref r, .int (iN 0)] z I K := by
  refine vJ7_fill_53178 hs ⟨alB_t (t := 0) ht, ?_⟩
  rw [hl]
  exact fill_l hs ht hl hL hK L 0 I (by omega) (Of.rf _ _) (fun i hi => by omega) (fun i hi => rfl)
theorem c_clear {K : Is → Prop} (hs : GS g) (hp : PuO z a) (hK : ∀ J, Of [a + 1] I J → Rw J (a + 1) (fun _ => 0) → K J) : Wv g m4_clear (d + 1) [.ref a] z I K :=
  v4_clear hs hp (c_fill hs hp.t1 hp.l1 (by omega) (fun J h1 h2 _ => hK J h1 h2))
def sumN (h : Nat → Nat) : Nat → Nat
  | 0 => 0
  | n + 1 => sumN h n + h n
theorem sumN_le {b : Nat} : ∀ {n : Nat}, (∀ s, s < n → h s ≤ b) → sumN h n ≤ n * b
  | 0, _ => by simp [sumN]
  | n + 1, e => by
    have := sumN_le (n := n) (fun s q => e s (by omega))
    have := e n (by omega)
    unfold sumN; rw [Nat.succ_mul]; omega
theorem sumN_cg {f : Nat → Nat} : ∀ {n : Nat}, (∀ s, s < n → h s = f s) → sumN h n = sumN f n
  | 0, _ => rfl
  | n + 1, e => by unfold sumN; rw [sumN_cg (fun s q => e s (by omega)), e n (by omega)]
theorem coins_l {K : Int32 → Is → Prop} (hs : GS g) (hp : PuO z a) (hr : Rw I (a + 1) h) (hK : K (iN (sumN h 6)) I) : ∀ (n s : Nat), s + n = 6 → WPc g m4_coins d 0 0 4 [(0, .ref a), (1, .int (iN (sumN h s))), (2, .int (iN s))] [] z I (Qi z K)
  | 0, s, e => by
    obtain rfl : s = 6 := by omega
    exact v4_coins_4 hs hp ⟨fun _ => hK, fun c => absurd ((iN_le (by omega) (by omega)).mpr (Nat.le_refl _)) c⟩
  | n + 1, s, e => by
    refine v4_coins_4 hs hp ⟨fun c => ?_, fun c => ⟨inB_n (by omega) (by omega), ?_⟩⟩
    · rw [iN_le (by omega) (by omega)] at c; omega
    · rw [iN_toN (by omega), hr s (by omega), iN_add, iN_add]
      exact coins_l hs hp hr hK n (s + 1) (by omega)
theorem c_coins {K : Int32 → Is → Prop} (hs : GS g) (hp : PuO z a) (hr : Rw I (a + 1) h) (hK : K (iN (sumN h 6)) I) : Wi g m4_coins d [.ref a] z I K := v4_coins hs (coins_l hs hp hr hK 6 0 rfl)
theorem sbits_l {K : Int32 → Is → Prop} (hs : GS g) (hp : PuO z a) (hr : Rw I (a + 1) h) (hb : Bd 1000 h) (hK : K (iN (bset (fun s => decide (0 < h s)) 6)) I) : ∀ (n s : Nat), s + n = 6 → WPc g m4_sortBits d 0 0 4 [(0, .ref a), (1, .int (iN (bset (fun s => decide (0 < h s)) s))), (2, .int (iN s))] [] z I (Qi z K)
  | 0, s, e => by
    obtain rfl : s = 6 := by omega
    exact v4_sortBits_4 hs hp ⟨fun _ => hK, fun c => absurd ((iN_le (by omega) (by omega)).mpr (Nat.le_refl _)) c⟩
  | n + 1, s, e => by
    have hbs := hb s (by omega)
    have ih := sbits_l hs hp hr hb hK n (s + 1) (by omega)
    unfold bset at ih
    refine v4_sortBits_4 hs hp ⟨fun c => ?_, fun c => ⟨inB_n (by omega) (by omega), ?_⟩⟩
    · rw [iN_le (by omega) (by omega)] at c; omega
    · rw [iN_toN (by omega), hr s (by omega), iN_le (by omega) (by omega), iN_add]
      refine ⟨fun c => ?_, fun c => ?_⟩
      · rw [decide_eq_false (by omega), if_neg (by simp), Nat.add_zero] at ih
        exact ih
      · rw [decide_eq_true (by omega), if_pos rfl] at ih
        rw [or_up s (by omega) _ (bset_lt _ s)]
        exact ih
theorem c_sbits {K : Int32 → Is → Prop} (hs : GS g) (hp : PuO z a) (hr : Rw I (a + 1) h) (hb : Bd 1000 h) (hK : K (iN (bset (fun s => decide (0 < h s)) 6)) I) : Wi g m4_sortBits d [.ref a] z I K := v4_sortBits hs (sbits_l hs hp hr hb hK 6 0 rfl)
end PURSE
