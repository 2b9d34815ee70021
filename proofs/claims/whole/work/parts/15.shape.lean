/-! the shape of the two objects that the law makes: cells 8 .. 123 -/
theorem nz_i {b : Int32} {X : Prop} (h : ¬ b = 0) (x : X) : ckB (!decide (b = 0)) X := ckB_i (by simp [h]) x
theorem iteB_m {b : Bool} {X X' Y Y' : Prop} (h : iteB b X Y) (f : X → X') (g : Y → Y') : iteB b X' Y' := by cases b with
  | true => exact f h
  | false => exact g h
theorem ckB_m {b : Bool} {X X' : Prop} (h : ckB b X) (f : X → X') : ckB b X' := ckB_i (ckB_of h).1 (f (ckB_of h).2)
theorem pf_i {a b : Bool} {X : Prop} (h : a = true) (h2 : b = true) (x : X) : ckB (a && b) X := ckB_i (by rw [h, h2]; rfl) x
theorem oe_s {o : Option Nat} {q : Nat} {A : Prop} {B : Nat → Prop} (h : o = some q) (b : B q) : oe o A B := by rw [h]; exact b
theorem iarB_t {z : Zs} {a : Nat} (h : zT z a = 100) : iarB z a = true := by unfold iarB; rw [h]; rfl
theorem alB_t {z : Zs} {a t : Nat} (h : zT z a = 100 + t) (h2 : t ≤ 4 := by omega) : (iarB z a || (rngB (zT z a) || (Nat.ble 4 a && Nat.ble a 6))) = true := by
  cases t with
  | zero => rw [iarB_t h]; rfl
  | succ t =>
    have : rngB (zT z a) = true := by
      unfold rngB
      rw [h, Bool.and_eq_true]
      exact ⟨Nat.ble_eq.mpr (by omega), Nat.ble_eq.mpr (by omega)⟩
    rw [this]; simp
theorem WPv_m {g : Gt} {y : Mth} {d rc rs : Nat} {args : List Value} {z : Zs} {I : Is} {K K' : Zs → Is → Prop} (h : WPv g y d rc rs args z I K) (f : ∀ z I, K z I → K' z I) : WPv g y d rc rs args z I K' := h.mono (fun _ _ _ q => ⟨q.1, f _ _ q.2⟩)
theorem WPi_m {g : Gt} {y : Mth} {d rc rs : Nat} {args : List Value} {z : Zs} {I : Is} {K K' : Int32 → Zs → Is → Prop} (h : WPi g y d rc rs args z I K) (f : ∀ x z I, K x z I → K' x z I) : WPi g y d rc rs args z I K' := h.mono (fun _ _ _ q => q.elim fun x q => ⟨x, q.1, f _ _ _ q.2⟩)
theorem WPl_m {g : Gt} {y : Mth} {d rc rs : Nat} {args : List Value} {z : Zs} {I : Is} {K K' : Int64 → Zs → Is → Prop} (h : WPl g y d rc rs args z I K) (f : ∀ x z I, K x z I → K' x z I) : WPl g y d rc rs args z I K' := h.mono (fun _ _ _ q => q.elim fun x q => ⟨x, q.1, f _ _ _ q.2⟩)
theorem WPr_m {g : Gt} {y : Mth} {d rc rs : Nat} {args : List Value} {z : Zs} {I : Is} {K K' : Option Nat → Zs → Is → Prop} (h : WPr g y d rc rs args z I K) (f : ∀ x z I, K x z I → K' x z I) : WPr g y d rc rs args z I K' := h.mono (fun _ _ _ q => q.elim fun x q => ⟨x, q.1, f _ _ _ q.2⟩)
theorem dsp_m {l : List (Nat × Mth)} {t : Nat} {K K' : Mth → Prop} (h : dsp l t K) (f : ∀ m, (t, m) ∈ l → K m → K' m) : dsp l t K' := by
  induction l with
  | nil => exact h
  | cons q r ih =>
    obtain ⟨c, m⟩ := q
    cases r with
    | nil =>
      obtain ⟨h1, h2⟩ := ckB_of h
      have e : t = c := Nat.eq_of_beq_eq_true h1
      exact ckB_i h1 (f m (by rw [e]; exact List.mem_cons_self) h2)
    | cons b r =>
      have h' : iteB (Nat.beq t c) (K m) (dsp (b :: r) t K) := h
      show iteB (Nat.beq t c) (K' m) (dsp (b :: r) t K')
      cases hb : Nat.beq t c with
      | true =>
        rw [hb] at h'
        have e : t = c := Nat.eq_of_beq_eq_true hb
        exact f m (by rw [e]; exact List.mem_cons_self) h'
      | false =>
        rw [hb] at h'
        exact ih h' (fun m2 hm => f m2 (List.mem_cons_of_mem _ hm))
theorem dspi_m {g : Gt} {l : List (Nat × Mth)} {t d mc ms : Nat} {args : List Value} {z : Zs} {I : Is} {K : Int32 → Zs → Is → Prop} {go : List Value → Zs → Is → Prop} (hl : ∀ q ∈ l, rk q.2.2.2.2 = 1) (h : dsp l t (fun m => WPi g m d mc ms args z I K)) (f : ∀ x z I, K x z I → go [.int x] z I) : dsp l t (fun m => callK g m d mc ms args z I go) :=
  dsp_m h (fun m hm q => by
    have hr := hl _ hm
    unfold callK
    rw [show rk m.2.2.2 = 1 from hr]
    exact WPi_m q f)
theorem dsp2_i {a b t : Nat} {X : Prop} (h : tagB [a, b] t = true) (k : X) : iteB (Nat.beq t a) X (ckB (Nat.beq t b) X) := by
  have hm := tagB_mem h
  have hc : t = a ∨ t = b := by simpa using hm
  cases hb : Nat.beq t a with
  | true => exact k
  | false =>
    rcases hc with e | e
    · rw [e] at hb; simp at hb
    · rw [e]; exact ckB_i (by simp) k
/-- a purse at cell a, its three rows behind it -/
def PuO (z : Zs) (a : Nat) : Prop := (zT z a = 4 ∧ zP z a 0 = some (a + 1) ∧ zP z a 1 = some (a + 2) ∧ zP z a 2 = some (a + 3)) ∧ (zT z (a + 1) = 100 ∧ zL z (a + 1) = 6) ∧ (zT z (a + 2) = 100 ∧ zL z (a + 2) = 6) ∧ zT z (a + 3) = 100 ∧ zL z (a + 3) = 6
theorem PuO.t {z : Zs} {a : Nat} (h : PuO z a) : zT z a = 4 := h.1.1
theorem PuO.p0 {z : Zs} {a : Nat} (h : PuO z a) : zP z a 0 = some (a + 1) := h.1.2.1
theorem PuO.p1 {z : Zs} {a : Nat} (h : PuO z a) : zP z a 1 = some (a + 2) := h.1.2.2.1
theorem PuO.p2 {z : Zs} {a : Nat} (h : PuO z a) : zP z a 2 = some (a + 3) := h.1.2.2.2
theorem PuO.t1 {z : Zs} {a : Nat} (h : PuO z a) : zT z (a + 1) = 100 := h.2.1.1
theorem PuO.l1 {z : Zs} {a : Nat} (h : PuO z a) : zL z (a + 1) = 6 := h.2.1.2
theorem PuO.t2 {z : Zs} {a : Nat} (h : PuO z a) : zT z (a + 2) = 100 := h.2.2.1.1
theorem PuO.l2 {z : Zs} {a : Nat} (h : PuO z a) : zL z (a + 2) = 6 := h.2.2.1.2
theorem PuO.t3 {z : Zs} {a : Nat} (h : PuO z a) : zT z (a + 3) = 100 := h.2.2.2.1
theorem PuO.l3 {z : Zs} {a : Nat} (h : PuO z a) : zL z (a + 3) = 6 := h.2.2.2.2
/-- a sheet at cell a -/
def ShO (z : Zs) (a : Nat) : Prop := zT z a = 7 ∧ zP z a 0 = some (a + 1) ∧ zT z (a + 1) = 100 ∧ zL z (a + 1) = 40
theorem ShO.t {z : Zs} {a : Nat} (h : ShO z a) : zT z a = 7 := h.1
theorem ShO.p0 {z : Zs} {a : Nat} (h : ShO z a) : zP z a 0 = some (a + 1) := h.2.1
theorem ShO.t1 {z : Zs} {a : Nat} (h : ShO z a) : zT z (a + 1) = 100 := h.2.2.1
theorem ShO.l1 {z : Zs} {a : Nat} (h : ShO z a) : zL z (a + 1) = 40 := h.2.2.2
/-- the reader at cell a: tape, code, ends -/
def RdO (z : Zs) (a : Nat) : Prop := (zT z a = 5 ∧ zP z a 0 = some (a + 1) ∧ zP z a 1 = some (a + 2) ∧ zP z a 2 = some (a + 3)) ∧ (zT z (a + 1) = 100 ∧ zL z (a + 1) = 160) ∧ (zT z (a + 2) = 100 ∧ zL z (a + 2) = 160) ∧ zT z (a + 3) = 100 ∧ zL z (a + 3) = 3
theorem RdO.t {z : Zs} {a : Nat} (h : RdO z a) : zT z a = 5 := h.1.1
theorem RdO.p0 {z : Zs} {a : Nat} (h : RdO z a) : zP z a 0 = some (a + 1) := h.1.2.1
theorem RdO.p1 {z : Zs} {a : Nat} (h : RdO z a) : zP z a 1 = some (a + 2) := h.1.2.2.1
theorem RdO.p2 {z : Zs} {a : Nat} (h : RdO z a) : zP z a 2 = some (a + 3) := h.1.2.2.2
theorem RdO.t1 {z : Zs} {a : Nat} (h : RdO z a) : zT z (a + 1) = 100 := h.2.1.1
theorem RdO.l1 {z : Zs} {a : Nat} (h : RdO z a) : zL z (a + 1) = 160 := h.2.1.2
theorem RdO.t2 {z : Zs} {a : Nat} (h : RdO z a) : zT z (a + 2) = 100 := h.2.2.1.1
theorem RdO.l2 {z : Zs} {a : Nat} (h : RdO z a) : zL z (a + 2) = 160 := h.2.2.1.2
theorem RdO.t3 {z : Zs} {a : Nat} (h : RdO z a) : zT z (a + 3) = 100 := h.2.2.2.1
theorem RdO.l3 {z : Zs} {a : Nat} (h : RdO z a) : zL z (a + 3) = 3 := h.2.2.2.2
def stgL : List (Option Nat) := [none, none, none, none, none, none, none, none, some 11, some 101, some 102, some 102, some 4, some 100, some 100, some 100, some 4, some 100, some 100, some 100, some 103, some 104, some 5, some 100, some 100, some 100, some 2, some 102, some 4, some 100, some 100, some 100, some 4, some 100, some 100, some 100, some 4, some 100, some 100, some 100, some 4, some 100, some 100, some 100, some 4, some 100, some 100, some 100, some 100, some 4, some 100, some 100, some 100, some 4, some 100, some 100, some 100, some 4, some 100, some 100, some 100, some 4, some 100, some 100, some 100, some 4, some 100, some 100, some 100, some 4, some 100, some 100, some 100, some 4, some 100, some 100, some 100, some 4, some 100, some 100, some 100, some 4, some 100, some 100, some 100, some 4, some 100, some 100, some 100, some 7, some 100, some 7, some 100, some 7, some 100, some 7, some 100, none, none, none, none, some 12, some 100, some 100, some 100, some 100, some 100, some 100, some 100, some 100, some 100, some 100, some 100, some 100, some 100, some 100, some 100, some 100, some 100, some 100, some 100, some 100, some 100, some 100]
def slnL : List (Option Nat) := [none, none, none, none, none, none, none, none, none, some 6, some 5, some 5, none, some 6, some 6, some 6, none, some 6, some 6, some 6, some 6, some 4, none, some 160, some 160, some 3, none, some 5, none, some 6, some 6, some 6, none, some 6, some 6, some 6, none, some 6, some 6, some 6, none, some 6, some 6, some 6, none, some 6, some 6, some 6, some 6, none, some 6, some 6, some 6, none, some 6, some 6, some 6, none, some 6, some 6, some 6, none, some 6, some 6, some 6, none, some 6, some 6, some 6, none, some 6, some 6, some 6, none, some 6, some 6, some 6, none, some 6, some 6, some 6, none, some 6, some 6, some 6, none, some 6, some 6, some 6, none, some 40, none, some 40, none, some 40, none, some 40, none, none, none, none, none, some 6, some 6, some 6, some 30, some 160, some 1200, some 24, some 30, some 4, some 4, some 160, some 34, some 96, some 200, some 200, some 6, some 6, some 6, some 6, some 4, some 6, some 30]
def sptL : List (List (Option Nat)) := [[], [], [], [], [], [], [], [], [some 9, some 10, some 11, some 12, some 16, some 20, some 21, some 22, some 26, some 48], [], [some 49, some 57, some 65, some 73, some 81], [some 53, some 61, some 69, some 77, some 85], [some 13, some 14, some 15], [], [], [], [some 17, some 18, some 19], [], [], [], [], [some 89, some 91, some 93, some 95], [some 23, some 24, some 25], [], [], [], [some 27], [some 28, some 32, some 36, some 40, some 44], [some 29, some 30, some 31], [], [], [], [some 33, some 34, some 35], [], [], [], [some 37, some 38, some 39], [], [], [], [some 41, some 42, some 43], [], [], [], [some 45, some 46, some 47], [], [], [], [], [some 50, some 51, some 52], [], [], [], [some 54, some 55, some 56], [], [], [], [some 58, some 59, some 60], [], [], [], [some 62, some 63, some 64], [], [], [], [some 66, some 67, some 68], [], [], [], [some 70, some 71, some 72], [], [], [], [some 74, some 75, some 76], [], [], [], [some 78, some 79, some 80], [], [], [], [some 82, some 83, some 84], [], [], [], [some 86, some 87, some 88], [], [], [], [some 90], [], [some 92], [], [some 94], [], [some 96], [], [], [], [], [], [none, some 102, some 103, some 104, none, some 105, none, some 106, none, some 107, some 108, none, none, none, none, none, none, none, some 109, some 110, some 111, some 112, some 113, none, none, none, none, some 114, some 115, none, none, none, some 116, some 117, some 118, some 119, some 120, some 121, some 122, some 123], [], [], [], [], [], [], [], [], [], [], [], [], [], [], [], [], [], [], [], [], [], []]
def stg (k : Nat) : Option Nat := stgL.getD k none
def sln (k : Nat) : Option Nat := slnL.getD k none
def spt (k i : Nat) : Option Nat := (sptL.getD k []).getD i none
/-- the shape: tags, lengths and the references that never change -/
def Sh (z : Zs) : Prop := (∀ k t, stg k = some t → zT z k = t) ∧ (∀ k l, sln k = some l → zL z k = l) ∧ (∀ k i q, spt k i = some q → zP z k i = some q) ∧ 124 ≤ zN z
theorem Sh.t {z : Zs} (h : Sh z) (k : Nat) {t : Nat} (e : stg k = some t) : zT z k = t := h.1 k t e
theorem Sh.l {z : Zs} (h : Sh z) (k : Nat) {t : Nat} (e : sln k = some t) : zL z k = t := h.2.1 k t e
theorem Sh.p {z : Zs} (h : Sh z) (k i : Nat) {q : Nat} (e : spt k i = some q) : zP z k i = some q := h.2.2.1 k i q e
/-- a text at cell a: code, ends, stack behind it -/
def TxO (z : Zs) (a : Nat) : Prop := (zT z a = 10 ∧ zP z a 0 = some (a + 1) ∧ zP z a 1 = some (a + 2) ∧ zP z a 2 = some (a + 3)) ∧ zT z (a + 1) = 100 ∧ (zT z (a + 2) = 100 ∧ zL z (a + 2) = 3) ∧ zT z (a + 3) = 100 ∧ zL z (a + 3) = 32
theorem TxO.t {z : Zs} {a : Nat} (h : TxO z a) : zT z a = 10 := h.1.1
theorem TxO.p0 {z : Zs} {a : Nat} (h : TxO z a) : zP z a 0 = some (a + 1) := h.1.2.1
theorem TxO.p1 {z : Zs} {a : Nat} (h : TxO z a) : zP z a 1 = some (a + 2) := h.1.2.2.1
theorem TxO.p2 {z : Zs} {a : Nat} (h : TxO z a) : zP z a 2 = some (a + 3) := h.1.2.2.2
theorem TxO.t1 {z : Zs} {a : Nat} (h : TxO z a) : zT z (a + 1) = 100 := h.2.1
theorem TxO.t2 {z : Zs} {a : Nat} (h : TxO z a) : zT z (a + 2) = 100 := h.2.2.1.1
theorem TxO.l2 {z : Zs} {a : Nat} (h : TxO z a) : zL z (a + 2) = 3 := h.2.2.1.2
theorem TxO.t3 {z : Zs} {a : Nat} (h : TxO z a) : zT z (a + 3) = 100 := h.2.2.2.1
theorem TxO.l3 {z : Zs} {a : Nat} (h : TxO z a) : zL z (a + 3) = 32 := h.2.2.2.2
theorem Sh.thought {z : Zs} (h : Sh z) : PuO z 12 := ⟨⟨h.t 12 rfl, h.p 12 0 rfl, h.p 12 1 rfl, h.p 12 2 rfl⟩, ⟨h.t 13 rfl, h.l 13 rfl⟩, ⟨h.t 14 rfl, h.l 14 rfl⟩, h.t 15 rfl, h.l 15 rfl⟩
theorem Sh.trial {z : Zs} (h : Sh z) : PuO z 16 := ⟨⟨h.t 16 rfl, h.p 16 0 rfl, h.p 16 1 rfl, h.p 16 2 rfl⟩, ⟨h.t 17 rfl, h.l 17 rfl⟩, ⟨h.t 18 rfl, h.l 18 rfl⟩, h.t 19 rfl, h.l 19 rfl⟩
theorem Sh.purse {z : Zs} (h : Sh z) {p : Nat} (hp : p < 5) : PuO z (49 + 8 * p) := by
  match p, hp with
  | 0, _ => exact ⟨⟨h.t 49 rfl, h.p 49 0 rfl, h.p 49 1 rfl, h.p 49 2 rfl⟩, ⟨h.t 50 rfl, h.l 50 rfl⟩, ⟨h.t 51 rfl, h.l 51 rfl⟩, h.t 52 rfl, h.l 52 rfl⟩
  | 1, _ => exact ⟨⟨h.t 57 rfl, h.p 57 0 rfl, h.p 57 1 rfl, h.p 57 2 rfl⟩, ⟨h.t 58 rfl, h.l 58 rfl⟩, ⟨h.t 59 rfl, h.l 59 rfl⟩, h.t 60 rfl, h.l 60 rfl⟩
  | 2, _ => exact ⟨⟨h.t 65 rfl, h.p 65 0 rfl, h.p 65 1 rfl, h.p 65 2 rfl⟩, ⟨h.t 66 rfl, h.l 66 rfl⟩, ⟨h.t 67 rfl, h.l 67 rfl⟩, h.t 68 rfl, h.l 68 rfl⟩
  | 3, _ => exact ⟨⟨h.t 73 rfl, h.p 73 0 rfl, h.p 73 1 rfl, h.p 73 2 rfl⟩, ⟨h.t 74 rfl, h.l 74 rfl⟩, ⟨h.t 75 rfl, h.l 75 rfl⟩, h.t 76 rfl, h.l 76 rfl⟩
  | 4, _ => exact ⟨⟨h.t 81 rfl, h.p 81 0 rfl, h.p 81 1 rfl, h.p 81 2 rfl⟩, ⟨h.t 82 rfl, h.l 82 rfl⟩, ⟨h.t 83 rfl, h.l 83 rfl⟩, h.t 84 rfl, h.l 84 rfl⟩
theorem Sh.tpurse {z : Zs} (h : Sh z) {p : Nat} (hp : p < 5) : PuO z (53 + 8 * p) := by
  match p, hp with
  | 0, _ => exact ⟨⟨h.t 53 rfl, h.p 53 0 rfl, h.p 53 1 rfl, h.p 53 2 rfl⟩, ⟨h.t 54 rfl, h.l 54 rfl⟩, ⟨h.t 55 rfl, h.l 55 rfl⟩, h.t 56 rfl, h.l 56 rfl⟩
  | 1, _ => exact ⟨⟨h.t 61 rfl, h.p 61 0 rfl, h.p 61 1 rfl, h.p 61 2 rfl⟩, ⟨h.t 62 rfl, h.l 62 rfl⟩, ⟨h.t 63 rfl, h.l 63 rfl⟩, h.t 64 rfl, h.l 64 rfl⟩
  | 2, _ => exact ⟨⟨h.t 69 rfl, h.p 69 0 rfl, h.p 69 1 rfl, h.p 69 2 rfl⟩, ⟨h.t 70 rfl, h.l 70 rfl⟩, ⟨h.t 71 rfl, h.l 71 rfl⟩, h.t 72 rfl, h.l 72 rfl⟩
  | 3, _ => exact ⟨⟨h.t 77 rfl, h.p 77 0 rfl, h.p 77 1 rfl, h.p 77 2 rfl⟩, ⟨h.t 78 rfl, h.l 78 rfl⟩, ⟨h.t 79 rfl, h.l 79 rfl⟩, h.t 80 rfl, h.l 80 rfl⟩
  | 4, _ => exact ⟨⟨h.t 85 rfl, h.p 85 0 rfl, h.p 85 1 rfl, h.p 85 2 rfl⟩, ⟨h.t 86 rfl, h.l 86 rfl⟩, ⟨h.t 87 rfl, h.l 87 rfl⟩, h.t 88 rfl, h.l 88 rfl⟩
theorem Sh.kpurse {z : Zs} (h : Sh z) {p : Nat} (hp : p < 5) : PuO z (28 + 4 * p) := by
  match p, hp with
  | 0, _ => exact ⟨⟨h.t 28 rfl, h.p 28 0 rfl, h.p 28 1 rfl, h.p 28 2 rfl⟩, ⟨h.t 29 rfl, h.l 29 rfl⟩, ⟨h.t 30 rfl, h.l 30 rfl⟩, h.t 31 rfl, h.l 31 rfl⟩
  | 1, _ => exact ⟨⟨h.t 32 rfl, h.p 32 0 rfl, h.p 32 1 rfl, h.p 32 2 rfl⟩, ⟨h.t 33 rfl, h.l 33 rfl⟩, ⟨h.t 34 rfl, h.l 34 rfl⟩, h.t 35 rfl, h.l 35 rfl⟩
  | 2, _ => exact ⟨⟨h.t 36 rfl, h.p 36 0 rfl, h.p 36 1 rfl, h.p 36 2 rfl⟩, ⟨h.t 37 rfl, h.l 37 rfl⟩, ⟨h.t 38 rfl, h.l 38 rfl⟩, h.t 39 rfl, h.l 39 rfl⟩
  | 3, _ => exact ⟨⟨h.t 40 rfl, h.p 40 0 rfl, h.p 40 1 rfl, h.p 40 2 rfl⟩, ⟨h.t 41 rfl, h.l 41 rfl⟩, ⟨h.t 42 rfl, h.l 42 rfl⟩, h.t 43 rfl, h.l 43 rfl⟩
  | 4, _ => exact ⟨⟨h.t 44 rfl, h.p 44 0 rfl, h.p 44 1 rfl, h.p 44 2 rfl⟩, ⟨h.t 45 rfl, h.l 45 rfl⟩, ⟨h.t 46 rfl, h.l 46 rfl⟩, h.t 47 rfl, h.l 47 rfl⟩
theorem Sh.sheet {z : Zs} (h : Sh z) {p : Nat} (hp : p < 4) : ShO z (89 + 2 * p) := by
  match p, hp with
  | 0, _ => exact ⟨h.t 89 rfl, h.p 89 0 rfl, h.t 90 rfl, h.l 90 rfl⟩
  | 1, _ => exact ⟨h.t 91 rfl, h.p 91 0 rfl, h.t 92 rfl, h.l 92 rfl⟩
  | 2, _ => exact ⟨h.t 93 rfl, h.p 93 0 rfl, h.t 94 rfl, h.l 94 rfl⟩
  | 3, _ => exact ⟨h.t 95 rfl, h.p 95 0 rfl, h.t 96 rfl, h.l 96 rfl⟩
theorem Sh.purses {z : Zs} (h : Sh z) {p : Nat} (hp : p < 5) : zP z 10 p = some (49 + 8 * p) := by
  match p, hp with
  | 0, _ => exact h.p 10 0 rfl
  | 1, _ => exact h.p 10 1 rfl
  | 2, _ => exact h.p 10 2 rfl
  | 3, _ => exact h.p 10 3 rfl
  | 4, _ => exact h.p 10 4 rfl
theorem Sh.thoughts {z : Zs} (h : Sh z) {p : Nat} (hp : p < 5) : zP z 11 p = some (53 + 8 * p) := by
  match p, hp with
  | 0, _ => exact h.p 11 0 rfl
  | 1, _ => exact h.p 11 1 rfl
  | 2, _ => exact h.p 11 2 rfl
  | 3, _ => exact h.p 11 3 rfl
  | 4, _ => exact h.p 11 4 rfl
theorem Sh.kpurses {z : Zs} (h : Sh z) {p : Nat} (hp : p < 5) : zP z 27 p = some (28 + 4 * p) := by
  match p, hp with
  | 0, _ => exact h.p 27 0 rfl
  | 1, _ => exact h.p 27 1 rfl
  | 2, _ => exact h.p 27 2 rfl
  | 3, _ => exact h.p 27 3 rfl
  | 4, _ => exact h.p 27 4 rfl
theorem Sh.sheets {z : Zs} (h : Sh z) {p : Nat} (hp : p < 4) : zP z 21 p = some (89 + 2 * p) := by
  match p, hp with
  | 0, _ => exact h.p 21 0 rfl
  | 1, _ => exact h.p 21 1 rfl
  | 2, _ => exact h.p 21 2 rfl
  | 3, _ => exact h.p 21 3 rfl
