/-! blocks: what is left to show of each stretch of code -/
theorem nz_i {b : Int32} {X : Prop} (h : ¬ b = 0) (x : X) : ckB (!decide (b = 0)) X := ckB_i (by simp [h]) x
theorem iteB_m {b : Bool} {X X' Y Y' : Prop} (h : iteB b X Y) (f : X → X') (g : Y → Y') : iteB b X' Y' := by cases b with
  | true => exact f h
  | false => exact g h
theorem ckB_m {b : Bool} {X X' : Prop} (h : ckB b X) (f : X → X') : ckB b X' := ckB_i (ckB_of h).1 (f (ckB_of h).2)
theorem oe_s {o : Option Nat} {q : Nat} {A : Prop} {B : Nat → Prop} (h : o = some q) (b : B q) : oe o A B := by rw [h]; exact b
theorem iarB_t {z : Zs} {a : Nat} (h : zT z a = 100) : iarB z a = true := by unfold iarB; rw [h]; rfl
theorem alB_t {z : Zs} {a t : Nat} (h : zT z a = 100 + t) (h2 : t ≤ 4 := by omega) : (iarB z a || (rngB (zT z a) || (Nat.ble 4 a && Nat.ble a 6))) = true := by
  cases t with
  | zero => rw [iarB_t h]; rfl
  | succ t =>
    have : rngB (zT z a) = true := by
      unfold rngB
      rw [h, Bool.and_eq_true]
      exact ⟨Nat.ble_eq.mpr (by omega), Nat.ble_eq.mpr (by omega)⟩
    rw [this]; simp
theorem WPv_m {g : Gt} {y : Mth} {d rc rs : Nat} {args : List Value} {z : Zs} {I : Is} {K K' : Zs → Is → Prop} (h : WPv g y d rc rs args z I K) (f : ∀ z I, K z I → K' z I) : WPv g y d rc rs args z I K' := h.mono (fun _ _ _ q => ⟨q.1, f _ _ q.2⟩)
theorem WPi_m {g : Gt} {y : Mth} {d rc rs : Nat} {args : List Value} {z : Zs} {I : Is} {K K' : Int32 → Zs → Is → Prop} (h : WPi g y d rc rs args z I K) (f : ∀ x z I, K x z I → K' x z I) : WPi g y d rc rs args z I K' := h.mono (fun _ _ _ q => q.elim fun x q => ⟨x, q.1, f _ _ _ q.2⟩)
theorem WPl_m {g : Gt} {y : Mth} {d rc rs : Nat} {args : List Value} {z : Zs} {I : Is} {K K' : Int64 → Zs → Is → Prop} (h : WPl g y d rc rs args z I K) (f : ∀ x z I, K x z I → K' x z I) : WPl g y d rc rs args z I K' := h.mono (fun _ _ _ q => q.elim fun x q => ⟨x, q.1, f _ _ _ q.2⟩)
theorem WPr_m {g : Gt} {y : Mth} {d rc rs : Nat} {args : List Value} {z : Zs} {I : Is} {K K' : Option Nat → Zs → Is → Prop} (h : WPr g y d rc rs args z I K) (f : ∀ x z I, K x z I → K' x z I) : WPr g y d rc rs args z I K' := h.mono (fun _ _ _ q => q.elim fun x q => ⟨x, q.1, f _ _ _ q.2⟩)
theorem dsp_m {l : List (Nat × Mth)} {t : Nat} {K K' : Mth → Prop} (h : dsp l t K) (f : ∀ m, (t, m) ∈ l → K m → K' m) : dsp l t K' := by
  induction l with
  | nil => exact h
  | cons q r ih =>
    obtain ⟨c, m⟩ := q
    cases r with
    | nil =>
      obtain ⟨h1, h2⟩ := ckB_of h
      have e : t = c := Nat.eq_of_beq_eq_true h1
      exact ckB_i h1 (f m (by rw [e]; exact List.mem_cons_self) h2)
    | cons b r =>
      have h' : iteB (Nat.beq t c) (K m) (dsp (b :: r) t K) := h
      show iteB (Nat.beq t c) (K' m) (dsp (b :: r) t K')
      cases hb : Nat.beq t c with
      | true =>
        rw [hb] at h'
        have e : t = c := Nat.eq_of_beq_eq_true hb
        exact f m (by rw [e]; exact List.mem_cons_self) h'
      | false =>
        rw [hb] at h'
        exact ih h' (fun m2 hm => f m2 (List.mem_cons_of_mem _ hm))
theorem dsp2_i {a b : Nat} {m : Mth} {t : Nat} {K : Mth → Prop} (h : tagB [a, b] t = true) (k : K m) : dsp [(a, m), (b, m)] t K := by
  have hm := tagB_mem h
  have hc : t = a ∨ t = b := by simpa using hm
  show iteB (Nat.beq t a) (K m) (ckB (Nat.beq t b) (K m))
  cases hb : Nat.beq t a with
  | true => exact k
  | false =>
    rcases hc with e | e
    · rw [e] at hb; simp at hb
    · rw [e]; exact ckB_i (by simp) k
/-- a purse at cell a, its three rows behind it -/
def PuO (z : Zs) (a : Nat) : Prop := (zT z a = 4 ∧ zP z a 0 = some (a + 1) ∧ zP z a 1 = some (a + 2) ∧ zP z a 2 = some (a + 3)) ∧ (zT z (a + 1) = 100 ∧ zL z (a + 1) = 6) ∧ (zT z (a + 2) = 100 ∧ zL z (a + 2) = 6) ∧ zT z (a + 3) = 100 ∧ zL z (a + 3) = 6
theorem PuO.t {z : Zs} {a : Nat} (h : PuO z a) : zT z a = 4 := h.1.1
theorem PuO.p0 {z : Zs} {a : Nat} (h : PuO z a) : zP z a 0 = some (a + 1) := h.1.2.1
theorem PuO.p1 {z : Zs} {a : Nat} (h : PuO z a) : zP z a 1 = some (a + 2) := h.1.2.2.1
theorem PuO.p2 {z : Zs} {a : Nat} (h : PuO z a) : zP z a 2 = some (a + 3) := h.1.2.2.2
theorem PuO.t1 {z : Zs} {a : Nat} (h : PuO z a) : zT z (a + 1) = 100 := h.2.1.1
theorem PuO.l1 {z : Zs} {a : Nat} (h : PuO z a) : zL z (a + 1) = 6 := h.2.1.2
theorem PuO.t2 {z : Zs} {a : Nat} (h : PuO z a) : zT z (a + 2) = 100 := h.2.2.1.1
theorem PuO.l2 {z : Zs} {a : Nat} (h : PuO z a) : zL z (a + 2) = 6 := h.2.2.1.2
theorem PuO.t3 {z : Zs} {a : Nat} (h : PuO z a) : zT z (a + 3) = 100 := h.2.2.2.1
theorem PuO.l3 {z : Zs} {a : Nat} (h : PuO z a) : zL z (a + 3) = 6 := h.2.2.2.2
/-- a sheet at cell a -/
def ShO (z : Zs) (a : Nat) : Prop := zT z a = 7 ∧ zP z a 0 = some (a + 1) ∧ zT z (a + 1) = 100 ∧ zL z (a + 1) = 40
theorem ShO.t {z : Zs} {a : Nat} (h : ShO z a) : zT z a = 7 := h.1
theorem ShO.p0 {z : Zs} {a : Nat} (h : ShO z a) : zP z a 0 = some (a + 1) := h.2.1
theorem ShO.t1 {z : Zs} {a : Nat} (h : ShO z a) : zT z (a + 1) = 100 := h.2.2.1
theorem ShO.l1 {z : Zs} {a : Nat} (h : ShO z a) : zL z (a + 1) = 40 := h.2.2.2
/-- the reader at cell a: tape, code, ends -/
def RdO (z : Zs) (a : Nat) : Prop := (zT z a = 5 ∧ zP z a 0 = some (a + 1) ∧ zP z a 1 = some (a + 2) ∧ zP z a 2 = some (a + 3)) ∧ (zT z (a + 1) = 100 ∧ zL z (a + 1) = 160) ∧ (zT z (a + 2) = 100 ∧ zL z (a + 2) = 160) ∧ zT z (a + 3) = 100 ∧ zL z (a + 3) = 3
theorem RdO.t {z : Zs} {a : Nat} (h : RdO z a) : zT z a = 5 := h.1.1
theorem RdO.p0 {z : Zs} {a : Nat} (h : RdO z a) : zP z a 0 = some (a + 1) := h.1.2.1
theorem RdO.p1 {z : Zs} {a : Nat} (h : RdO z a) : zP z a 1 = some (a + 2) := h.1.2.2.1
theorem RdO.p2 {z : Zs} {a : Nat} (h : RdO z a) : zP z a 2 = some (a + 3) := h.1.2.2.2
theorem RdO.t1 {z : Zs} {a : Nat} (h : RdO z a) : zT z (a + 1) = 100 := h.2.1.1
theorem RdO.l1 {z : Zs} {a : Nat} (h : RdO z a) : zL z (a + 1) = 160 := h.2.1.2
theorem RdO.t2 {z : Zs} {a : Nat} (h : RdO z a) : zT z (a + 2) = 100 := h.2.2.1.1
theorem RdO.l2 {z : Zs} {a : Nat} (h : RdO z a) : zL z (a + 2) = 160 := h.2.2.1.2
theorem RdO.t3 {z : Zs} {a : Nat} (h : RdO z a) : zT z (a + 3) = 100 := h.2.2.2.1
theorem RdO.l3 {z : Zs} {a : Nat} (h : RdO z a) : zL z (a + 3) = 3 := h.2.2.2.2
def cu8_kind : List (Nat × List Nat) := []
set_option maxRecDepth 20000 in
theorem b8_kind_0 {g : Gt} (hs : GS g) {d rc rs : Nat} {a : Nat} {z : Zs} {I : Is} {Q : Option Value → Zs → Is → Prop}  (h : Q (some (.int 0)) z I) : WPc g m8_kind d rc rs 0 [(0, .ref a)] [] z I Q := wm8_kind hs (cuts := cu8_kind) 400 (ckB_i rfl h)
def cu0_kind : List (Nat × List Nat) := []
set_option maxRecDepth 20000 in
theorem b0_kind_0 {g : Gt} (hs : GS g) {d rc rs : Nat} {a : Nat} {z : Zs} {I : Is} {Q : Option Value → Zs → Is → Prop}  (h : Q (some (.int 1)) z I) : WPc g m0_kind d rc rs 0 [(0, .ref a)] [] z I Q := wm0_kind hs (cuts := cu0_kind) 400 (ckB_i rfl h)
def cu6_kind : List (Nat × List Nat) := []
set_option maxRecDepth 20000 in
theorem b6_kind_0 {g : Gt} (hs : GS g) {d rc rs : Nat} {a : Nat} {z : Zs} {I : Is} {Q : Option Value → Zs → Is → Prop}  (h : Q (some (.int 2)) z I) : WPc g m6_kind d rc rs 0 [(0, .ref a)] [] z I Q := wm6_kind hs (cuts := cu6_kind) 400 (ckB_i rfl h)
def cu9_kind : List (Nat × List Nat) := []
set_option maxRecDepth 20000 in
theorem b9_kind_0 {g : Gt} (hs : GS g) {d rc rs : Nat} {a : Nat} {z : Zs} {I : Is} {Q : Option Value → Zs → Is → Prop}  (h : Q (some (.int 3)) z I) : WPc g m9_kind d rc rs 0 [(0, .ref a)] [] z I Q := wm9_kind hs (cuts := cu9_kind) 400 (ckB_i rfl h)
def cu1_kind : List (Nat × List Nat) := []
set_option maxRecDepth 20000 in
theorem b1_kind_0 {g : Gt} (hs : GS g) {d rc rs : Nat} {a : Nat} {z : Zs} {I : Is} {Q : Option Value → Zs → Is → Prop}  (h : Q (some (.int 4)) z I) : WPc g m1_kind d rc rs 0 [(0, .ref a)] [] z I Q := wm1_kind hs (cuts := cu1_kind) 400 (ckB_i rfl h)
def cu3_kind : List (Nat × List Nat) := []
set_option maxRecDepth 20000 in
theorem b3_kind_0 {g : Gt} (hs : GS g) {d rc rs : Nat} {a : Nat} {z : Zs} {I : Is} {Q : Option Value → Zs → Is → Prop}  (h : Q (some (.int 5)) z I) : WPc g m3_kind d rc rs 0 [(0, .ref a)] [] z I Q := wm3_kind hs (cuts := cu3_kind) 400 (ckB_i rfl h)
def cu8_together : List (Nat × List Nat) := []
set_option maxRecDepth 20000 in
theorem b8_together_0 {g : Gt} (hs : GS g) {d rc rs : Nat} {a : Nat} {v1 : Int32} {z : Zs} {I : Is} {Q : Option Value → Zs → Is → Prop}  (h : Q (some (.int 1)) z I) : WPc g m8_together d rc rs 0 [(0, .ref a), (1, .int v1)] [] z I Q := wm8_together hs (cuts := cu8_together) 400 (ckB_i rfl h)
def cu0_together : List (Nat × List Nat) := [(5, [])]
set_option maxRecDepth 20000 in
theorem b0_together_0 {g : Gt} (hs : GS g) {d rc rs : Nat} {a : Nat} {v1 : Int32} {z : Zs} {I : Is} {Q : Option Value → Zs → Is → Prop}  (h : tagB [0, 9] (zT z a) = true ∧ (WPi g m8_together d 0 0 [.ref a, .int v1] z I (fun x1 z I => WPc g m0_together (d + 1) rc rs 5 [] [.int x1] z I Q))) : WPc g m0_together (d + 1) rc rs 0 [(0, .ref a), (1, .int v1)] [] z I Q := wm0_together hs (cuts := cu0_together) 400 (ckB_i rfl (dsp2_i h.1 (have h := h.2; WPi_m h (fun _ _ _ h => h))))
set_option maxRecDepth 20000 in
theorem b0_together_5 {g : Gt} (hs : GS g) {d rc rs : Nat} {ss0 : Int32} {z : Zs} {I : Is} {Q : Option Value → Zs → Is → Prop}  (h : Q (some (.int (ss0 + 1))) z I) : WPc g m0_together (d + 1) rc rs 5 [] [.int ss0] z I Q := wm0_together hs (cuts := cu0_together) 400 (ckB_i rfl h)
def cu9_together : List (Nat × List Nat) := [(13, []), (23, [])]
set_option maxRecDepth 20000 in
theorem b9_together_0 {g : Gt} (hs : GS g) {d rc rs : Nat} {a : Nat} {v1 : Int32} {z : Zs} {I : Is} {Q : Option Value → Zs → Is → Prop}  (h : tagB [9] (zT z a) = true ∧ ((v1 ≤ (I a 1) → Nat.beq (zT z a) 9 = true ∧ (WPi g m0_together d 0 0 [.ref a, .int v1] z I (fun x1 z I => WPc g m9_together (d + 1) rc rs 23 [] [.int x1] z I Q))) ∧ (¬ v1 ≤ (I a 1) → Nat.beq (zT z a) 9 = true ∧ (WPi g m0_together d 0 0 [.ref a, .int v1] z I (fun x2 z I => WPc g m9_together (d + 1) rc rs 13 [] [.int x2] z I Q))))) : WPc g m9_together (d + 1) rc rs 0 [(0, .ref a), (1, .int v1)] [] z I Q := wm9_together hs (cuts := cu9_together) 400 (ckB_i h.1 (have h := h.2; iteB_i (fun c => have h := h.1 c; ckB_i rfl (ckB_i h.1 (have h := h.2; WPi_m h (fun _ _ _ h => h)))) (fun c => have h := h.2 c; ckB_i rfl (ckB_i h.1 (have h := h.2; WPi_m h (fun _ _ _ h => h))))))
set_option maxRecDepth 20000 in
theorem b9_together_13 {g : Gt} (hs : GS g) {d rc rs : Nat} {ss0 : Int32} {z : Zs} {I : Is} {Q : Option Value → Zs → Is → Prop}  (h : WPc g m9_together (d + 1) rc rs 23 [] [.int (ss0 + 1)] z I Q) : WPc g m9_together (d + 1) rc rs 13 [] [.int ss0] z I Q := wm9_together hs (cuts := cu9_together) 400 (h)
set_option maxRecDepth 20000 in
theorem b9_together_23 {g : Gt} (hs : GS g) {d rc rs : Nat} {ss0 : Int32} {z : Zs} {I : Is} {Q : Option Value → Zs → Is → Prop}  (h : Q (some (.int ss0)) z I) : WPc g m9_together (d + 1) rc rs 23 [] [.int ss0] z I Q := wm9_together hs (cuts := cu9_together) 400 (ckB_i rfl h)
def cu3_together : List (Nat × List Nat) := [(14, [])]
set_option maxRecDepth 20000 in
theorem b3_together_0 {g : Gt} (hs : GS g) {d rc rs : Nat} {a : Nat} {v1 : Int32} {z : Zs} {I : Is} {Q : Option Value → Zs → Is → Prop}  (h : (v1 ≤ 5 → Nat.beq (zT z a) 3 = true ∧ (WPi g m8_together d 0 0 [.ref a, .int v1] z I (fun x1 z I => WPc g m3_together (d + 1) rc rs 14 [] [.int x1] z I Q))) ∧ (¬ v1 ≤ 5 → WPc g m3_together (d + 1) rc rs 14 [] [.int 0] z I Q)) : WPc g m3_together (d + 1) rc rs 0 [(0, .ref a), (1, .int v1)] [] z I Q := wm3_together hs (cuts := cu3_together) 400 (iteB_i (fun c => have h := h.1 c; ckB_i rfl (ckB_i h.1 (have h := h.2; WPi_m h (fun _ _ _ h => h)))) (fun c => have h := h.2 c; h))
set_option maxRecDepth 20000 in
theorem b3_together_14 {g : Gt} (hs : GS g) {d rc rs : Nat} {ss0 : Int32} {z : Zs} {I : Is} {Q : Option Value → Zs → Is → Prop}  (h : Q (some (.int ss0)) z I) : WPc g m3_together (d + 1) rc rs 14 [] [.int ss0] z I Q := wm3_together hs (cuts := cu3_together) 400 (ckB_i rfl h)
def cu8_leftOf : List (Nat × List Nat) := []
set_option maxRecDepth 20000 in
theorem b8_leftOf_0 {g : Gt} (hs : GS g) {d rc rs : Nat} {a : Nat} {v1 : Int32} {z : Zs} {I : Is} {Q : Option Value → Zs → Is → Prop}  (h : Q (some (.int v1)) z I) : WPc g m8_leftOf d rc rs 0 [(0, .ref a), (1, .int v1)] [] z I Q := wm8_leftOf hs (cuts := cu8_leftOf) 400 (ckB_i rfl h)
def cu1_leftOf : List (Nat × List Nat) := [(6, []), (11, [])]
set_option maxRecDepth 20000 in
theorem b1_leftOf_0 {g : Gt} (hs : GS g) {d rc rs : Nat} {a : Nat} {v1 : Int32} {z : Zs} {I : Is} {Q : Option Value → Zs → Is → Prop}  (h : Nat.beq (zT z a) 1 = true ∧ (WPi g m8_leftOf d 0 0 [.ref a, .int v1] z I (fun x1 z I => WPc g m1_leftOf (d + 1) rc rs 6 [] [.int x1, .int 0] z I Q))) : WPc g m1_leftOf (d + 1) rc rs 0 [(0, .ref a), (1, .int v1)] [] z I Q := wm1_leftOf hs (cuts := cu1_leftOf) 400 (ckB_i rfl (ckB_i h.1 (have h := h.2; WPi_m h (fun _ _ _ h => h))))
set_option maxRecDepth 20000 in
theorem b1_leftOf_6 {g : Gt} (hs : GS g) {d rc rs : Nat} {ss0 : Int32} {z : Zs} {I : Is} {Q : Option Value → Zs → Is → Prop}  (h : WPi g mJ9_max_7cf53 d 0 0 [.int 0, .int (ss0 - 1)] z I (fun x1 z I => WPc g m1_leftOf (d + 1) rc rs 11 [] [.int x1] z I Q)) : WPc g m1_leftOf (d + 1) rc rs 6 [] [.int ss0, .int 0] z I Q := wm1_leftOf hs (cuts := cu1_leftOf) 400 (ckB_i rfl (WPi_m h (fun _ _ _ h => h)))
set_option maxRecDepth 20000 in
theorem b1_leftOf_11 {g : Gt} (hs : GS g) {d rc rs : Nat} {ss0 : Int32} {z : Zs} {I : Is} {Q : Option Value → Zs → Is → Prop}  (h : Q (some (.int ss0)) z I) : WPc g m1_leftOf (d + 1) rc rs 11 [] [.int ss0] z I Q := wm1_leftOf hs (cuts := cu1_leftOf) 400 (ckB_i rfl h)
def cu3_leftOf : List (Nat × List Nat) := [(5, [0])]
set_option maxRecDepth 20000 in
theorem b3_leftOf_0 {g : Gt} (hs : GS g) {d rc rs : Nat} {a : Nat} {v1 : Int32} {z : Zs} {I : Is} {Q : Option Value → Zs → Is → Prop}  (h : Nat.beq (zT z a) 3 = true ∧ (WPi g m8_leftOf d 0 0 [.ref a, .int v1] z I (fun x1 z I => WPc g m3_leftOf (d + 1) rc rs 5 [(0, .ref a)] [.int x1] z I Q))) : WPc g m3_leftOf (d + 1) rc rs 0 [(0, .ref a), (1, .int v1)] [] z I Q := wm3_leftOf hs (cuts := cu3_leftOf) 400 (ckB_i rfl (ckB_i h.1 (have h := h.2; WPi_m h (fun _ _ _ h => h))))
set_option maxRecDepth 20000 in
theorem b3_leftOf_5 {g : Gt} (hs : GS g) {d rc rs : Nat} {a : Nat} {ss0 : Int32} {z : Zs} {I : Is} {Q : Option Value → Zs → Is → Prop}  (h : tagB [3] (zT z a) = true ∧ (Q (some (.int ((ss0 * (9 - (I a 1))) / 9))) z I)) : WPc g m3_leftOf (d + 1) rc rs 5 [(0, .ref a)] [.int ss0] z I Q := wm3_leftOf hs (cuts := cu3_leftOf) 400 (ckB_i h.1 (have h := h.2; ckB_i rfl h))
def cu8_worthOf : List (Nat × List Nat) := []
set_option maxRecDepth 20000 in
theorem b8_worthOf_0 {g : Gt} (hs : GS g) {d rc rs : Nat} {a : Nat} {v1 : Int32} {z : Zs} {I : Is} {Q : Option Value → Zs → Is → Prop}  (h : tagB [8, 0, 6, 9, 1, 3] (zT z a) = true ∧ (Q (some (.int (I a 0))) z I)) : WPc g m8_worthOf d rc rs 0 [(0, .ref a), (1, .int v1)] [] z I Q := wm8_worthOf hs (cuts := cu8_worthOf) 400 (ckB_i h.1 (have h := h.2; ckB_i rfl h))
def cu6_worthOf : List (Nat × List Nat) := [(11, []), (20, [])]
set_option maxRecDepth 20000 in
theorem b6_worthOf_0 {g : Gt} (hs : GS g) {d rc rs : Nat} {a : Nat} {v1 : Int32} {z : Zs} {I : Is} {Q : Option Value → Zs → Is → Prop}  (h : (2 ≤ v1 → tagB [6, 1] (zT z a) = true ∧ (WPi g m8_worthOf d 0 0 [.ref a, .int v1] z I (fun x1 z I => WPc g m6_worthOf (d + 1) rc rs 20 [] [.int x1] z I Q))) ∧ (¬ 2 ≤ v1 → tagB [6, 1] (zT z a) = true ∧ (WPi g m8_worthOf d 0 0 [.ref a, .int v1] z I (fun x2 z I => WPc g m6_worthOf (d + 1) rc rs 11 [] [.int x2, .int 3] z I Q)))) : WPc g m6_worthOf (d + 1) rc rs 0 [(0, .ref a), (1, .int v1)] [] z I Q := wm6_worthOf hs (cuts := cu6_worthOf) 400 (iteB_i (fun c => have h := h.1 c; ckB_i rfl (dsp2_i h.1 (have h := h.2; WPi_m h (fun _ _ _ h => h)))) (fun c => have h := h.2 c; ckB_i rfl (dsp2_i h.1 (have h := h.2; WPi_m h (fun _ _ _ h => h)))))
set_option maxRecDepth 20000 in
theorem b6_worthOf_11 {g : Gt} (hs : GS g) {d rc rs : Nat} {ss0 : Int32} {z : Zs} {I : Is} {Q : Option Value → Zs → Is → Prop}  (h : WPc g m6_worthOf (d + 1) rc rs 20 [] [.int (3 * ss0)] z I Q) : WPc g m6_worthOf (d + 1) rc rs 11 [] [.int ss0, .int 3] z I Q := wm6_worthOf hs (cuts := cu6_worthOf) 400 (h)
set_option maxRecDepth 20000 in
theorem b6_worthOf_20 {g : Gt} (hs : GS g) {d rc rs : Nat} {ss0 : Int32} {z : Zs} {I : Is} {Q : Option Value → Zs → Is → Prop}  (h : Q (some (.int ss0)) z I) : WPc g m6_worthOf (d + 1) rc rs 20 [] [.int ss0] z I Q := wm6_worthOf hs (cuts := cu6_worthOf) 400 (ckB_i rfl h)
def cu1_worthOf : List (Nat × List Nat) := [(5, [0])]
set_option maxRecDepth 20000 in
theorem b1_worthOf_0 {g : Gt} (hs : GS g) {d rc rs : Nat} {a : Nat} {v1 : Int32} {z : Zs} {I : Is} {Q : Option Value → Zs → Is → Prop}  (h : Nat.beq (zT z a) 1 = true ∧ (WPi g m6_worthOf d 0 0 [.ref a, .int v1] z I (fun x1 z I => WPc g m1_worthOf (d + 1) rc rs 5 [(0, .ref a)] [.int x1] z I Q))) : WPc g m1_worthOf (d + 1) rc rs 0 [(0, .ref a), (1, .int v1)] [] z I Q := wm1_worthOf hs (cuts := cu1_worthOf) 400 (ckB_i rfl (ckB_i h.1 (have h := h.2; WPi_m h (fun _ _ _ h => h))))
set_option maxRecDepth 20000 in
theorem b1_worthOf_5 {g : Gt} (hs : GS g) {d rc rs : Nat} {a : Nat} {ss0 : Int32} {z : Zs} {I : Is} {Q : Option Value → Zs → Is → Prop}  (h : tagB [1] (zT z a) = true ∧ (Q (some (.int (ss0 + (I a 1)))) z I)) : WPc g m1_worthOf (d + 1) rc rs 5 [(0, .ref a)] [.int ss0] z I Q := wm1_worthOf hs (cuts := cu1_worthOf) 400 (ckB_i h.1 (have h := h.2; ckB_i rfl h))
def cu8_init : List (Nat × List Nat) := []
set_option maxRecDepth 20000 in
theorem b8_init_0 {g : Gt} (hs : GS g) {d rc rs : Nat} {a : Nat} {v1 v2 : Int32} {z : Zs} {I : Is} {Q : Option Value → Zs → Is → Prop}  (h : tagB [8, 0, 6, 9, 1, 3] (zT z a) = true ∧ (tagB [8, 0, 6, 9, 1, 3] (zT z a) = true ∧ (Q none z (up2 (up2 I a 0 v1) a 1 v2)))) : WPc g m8_init (d + 1) rc rs 0 [(0, .ref a), (1, .int v1), (2, .int v2)] [] z I Q := wm8_init hs (cuts := cu8_init) 400 (ckB_i rfl (ckB_i (by rw [h.1]; rfl) (have h := h.2; ckB_i (by rw [h.1]; rfl) (have h := h.2; ckB_i rfl h))))
def cu0_init : List (Nat × List Nat) := [(6, [])]
set_option maxRecDepth 20000 in
theorem b0_init_0 {g : Gt} (hs : GS g) {d rc rs : Nat} {a : Nat} {v1 v2 : Int32} {z : Zs} {I : Is} {Q : Option Value → Zs → Is → Prop}  (h : WPv g m8_init d 0 0 [.ref a, .int v1, .int v2] z I (fun z I => WPc g m0_init (d + 1) rc rs 6 [] [] z I Q)) : WPc g m0_init (d + 1) rc rs 0 [(0, .ref a), (1, .int v1), (2, .int v2)] [] z I Q := wm0_init hs (cuts := cu0_init) 400 (ckB_i rfl (WPv_m h (fun _ _ h => h)))
set_option maxRecDepth 20000 in
theorem b0_init_6 {g : Gt} (hs : GS g) {d rc rs : Nat} {z : Zs} {I : Is} {Q : Option Value → Zs → Is → Prop}  (h : Q none z I) : WPc g m0_init (d + 1) rc rs 6 [] [] z I Q := wm0_init hs (cuts := cu0_init) 400 (ckB_i rfl h)
def cu6_init : List (Nat × List Nat) := [(6, [])]
set_option maxRecDepth 20000 in
theorem b6_init_0 {g : Gt} (hs : GS g) {d rc rs : Nat} {a : Nat} {v1 v2 : Int32} {z : Zs} {I : Is} {Q : Option Value → Zs → Is → Prop}  (h : WPv g m8_init d 0 0 [.ref a, .int v1, .int v2] z I (fun z I => WPc g m6_init (d + 1) rc rs 6 [] [] z I Q)) : WPc g m6_init (d + 1) rc rs 0 [(0, .ref a), (1, .int v1), (2, .int v2)] [] z I Q := wm6_init hs (cuts := cu6_init) 400 (ckB_i rfl (WPv_m h (fun _ _ h => h)))
set_option maxRecDepth 20000 in
theorem b6_init_6 {g : Gt} (hs : GS g) {d rc rs : Nat} {z : Zs} {I : Is} {Q : Option Value → Zs → Is → Prop}  (h : Q none z I) : WPc g m6_init (d + 1) rc rs 6 [] [] z I Q := wm6_init hs (cuts := cu6_init) 400 (ckB_i rfl h)
def cu9_init : List (Nat × List Nat) := [(6, [])]
set_option maxRecDepth 20000 in
theorem b9_init_0 {g : Gt} (hs : GS g) {d rc rs : Nat} {a : Nat} {v1 v2 : Int32} {z : Zs} {I : Is} {Q : Option Value → Zs → Is → Prop}  (h : WPv g m0_init d 0 0 [.ref a, .int v1, .int v2] z I (fun z I => WPc g m9_init (d + 1) rc rs 6 [] [] z I Q)) : WPc g m9_init (d + 1) rc rs 0 [(0, .ref a), (1, .int v1), (2, .int v2)] [] z I Q := wm9_init hs (cuts := cu9_init) 400 (ckB_i rfl (WPv_m h (fun _ _ h => h)))
set_option maxRecDepth 20000 in
theorem b9_init_6 {g : Gt} (hs : GS g) {d rc rs : Nat} {z : Zs} {I : Is} {Q : Option Value → Zs → Is → Prop}  (h : Q none z I) : WPc g m9_init (d + 1) rc rs 6 [] [] z I Q := wm9_init hs (cuts := cu9_init) 400 (ckB_i rfl h)
def cu1_init : List (Nat × List Nat) := [(6, [])]
set_option maxRecDepth 20000 in
theorem b1_init_0 {g : Gt} (hs : GS g) {d rc rs : Nat} {a : Nat} {v1 v2 : Int32} {z : Zs} {I : Is} {Q : Option Value → Zs → Is → Prop}  (h : WPv g m6_init d 0 0 [.ref a, .int v1, .int v2] z I (fun z I => WPc g m1_init (d + 1) rc rs 6 [] [] z I Q)) : WPc g m1_init (d + 1) rc rs 0 [(0, .ref a), (1, .int v1), (2, .int v2)] [] z I Q := wm1_init hs (cuts := cu1_init) 400 (ckB_i rfl (WPv_m h (fun _ _ h => h)))
set_option maxRecDepth 20000 in
theorem b1_init_6 {g : Gt} (hs : GS g) {d rc rs : Nat} {z : Zs} {I : Is} {Q : Option Value → Zs → Is → Prop}  (h : Q none z I) : WPc g m1_init (d + 1) rc rs 6 [] [] z I Q := wm1_init hs (cuts := cu1_init) 400 (ckB_i rfl h)
def cu3_init : List (Nat × List Nat) := [(6, [])]
set_option maxRecDepth 20000 in
theorem b3_init_0 {g : Gt} (hs : GS g) {d rc rs : Nat} {a : Nat} {v1 v2 : Int32} {z : Zs} {I : Is} {Q : Option Value → Zs → Is → Prop}  (h : WPv g m8_init d 0 0 [.ref a, .int v1, .int v2] z I (fun z I => WPc g m3_init (d + 1) rc rs 6 [] [] z I Q)) : WPc g m3_init (d + 1) rc rs 0 [(0, .ref a), (1, .int v1), (2, .int v2)] [] z I Q := wm3_init hs (cuts := cu3_init) 400 (ckB_i rfl (WPv_m h (fun _ _ h => h)))
set_option maxRecDepth 20000 in
theorem b3_init_6 {g : Gt} (hs : GS g) {d rc rs : Nat} {z : Zs} {I : Is} {Q : Option Value → Zs → Is → Prop}  (h : Q none z I) : WPc g m3_init (d + 1) rc rs 6 [] [] z I Q := wm3_init hs (cuts := cu3_init) 400 (ckB_i rfl h)
