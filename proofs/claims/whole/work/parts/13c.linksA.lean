theorem fc {α : Type} {P : α → Prop} {a : α} {l : List α} (h : P a) (hl : ∀ e ∈ l, P e) : ∀ e ∈ a :: l, P e := fun e he => (List.mem_cons.mp he).elim (fun q => q ▸ h) (hl e)
theorem fcn {α : Type} {P : α → Prop} : ∀ e ∈ ([] : List α), P e := fun _ h => absurd h List.not_mem_nil
theorem FEok.mk {own : String} {i j c fin : Nat} {tags : List Nat} (h : ∀ q ∈ c :: tags, FldOK own i q j ∧ isR q j = isR c j ∧ tyC q j = tyC c j ∧ (fin = 0 → ∃ C T, ClsF q C T ∧ (T j).2.2.2 = false) ∧ (fin = 1 → ∃ C T, ClsF q C T ∧ (T j).2.2.2 = true ∧ (T j).1 = own)) : FEok own i j (c :: tags) fin := ⟨fun e => absurd e (List.cons_ne_nil _ _), h⟩
theorem CEok.k0 {own : String} {i n : Nat} {l : List (Nat × Mth)} (h : ∀ q ∈ l, CalS own i q.2 n) : CEok own i 0 l n := ⟨fun _ => h, fun e => absurd e (by decide), fun e => absurd e (by decide), fun e => absurd e (by decide), fun e => absurd e (by decide), fun e => absurd e (by decide), fun e => absurd e (by decide), fun e => absurd e (by decide), fun e => absurd e (by decide), fun e => absurd e (by decide)⟩
theorem CEok.k1 {own : String} {i n : Nat} {l : List (Nat × Mth)} (h : ∀ q ∈ l, (∃ host, NstOK own i q.2 n host) ∧ Cond.static q.2.1 ∈ gw_tbl) : CEok own i 1 l n := ⟨fun e => absurd e (by decide), fun _ => h, fun e => absurd e (by decide), fun e => absurd e (by decide), fun e => absurd e (by decide), fun e => absurd e (by decide), fun e => absurd e (by decide), fun e => absurd e (by decide), fun e => absurd e (by decide), fun e => absurd e (by decide)⟩
theorem CEok.k2 {own : String} {i n : Nat} {l : List (Nat × Mth)} (h : ∀ q ∈ l, CalI own i q.2 n) : CEok own i 2 l n := ⟨fun e => absurd e (by decide), fun e => absurd e (by decide), fun _ => h, fun e => absurd e (by decide), fun e => absurd e (by decide), fun e => absurd e (by decide), fun e => absurd e (by decide), fun e => absurd e (by decide), fun e => absurd e (by decide), fun e => absurd e (by decide)⟩
theorem CEok.k3 {own : String} {i n : Nat} {l : List (Nat × Mth)} (h : ∀ q ∈ l, (∃ host, NstOK own i q.2 n host) ∧ Cond.instanceMethod q.2.1 ∈ gw_tbl ∧ q.2.1.name = "<init>" ∧ q.2.2.2.2 = none) : CEok own i 3 l n := ⟨fun e => absurd e (by decide), fun e => absurd e (by decide), fun e => absurd e (by decide), fun _ => h, fun e => absurd e (by decide), fun e => absurd e (by decide), fun e => absurd e (by decide), fun e => absurd e (by decide), fun e => absurd e (by decide), fun e => absurd e (by decide)⟩
theorem CEok.k4 {own : String} {i n : Nat} {l : List (Nat × Mth)} (h : ∀ q ∈ l, CalP own i q.2 n q.1 ∨ ∃ x, CalQ own i x q.2 n q.1) : CEok own i 4 l n := ⟨fun e => absurd e (by decide), fun e => absurd e (by decide), fun e => absurd e (by decide), fun e => absurd e (by decide), fun _ => h, fun e => absurd e (by decide), fun e => absurd e (by decide), fun e => absurd e (by decide), fun e => absurd e (by decide), fun e => absurd e (by decide)⟩
theorem CEok.k5 {own : String} {i n : Nat} {l : List (Nat × Mth)} (h : ∀ q ∈ l, CalV own i q.2 n q.1 ∨ ∃ x, CalU own i x q.2 n q.1) : CEok own i 5 l n := ⟨fun e => absurd e (by decide), fun e => absurd e (by decide), fun e => absurd e (by decide), fun e => absurd e (by decide), fun e => absurd e (by decide), fun _ => h, fun e => absurd e (by decide), fun e => absurd e (by decide), fun e => absurd e (by decide), fun e => absurd e (by decide)⟩
theorem CEok.k6 {own : String} {i n : Nat} {l : List (Nat × Mth)} (h : ObjOK own i) : CEok own i 6 l n := ⟨fun e => absurd e (by decide), fun e => absurd e (by decide), fun e => absurd e (by decide), fun e => absurd e (by decide), fun e => absurd e (by decide), fun e => absurd e (by decide), fun _ => h, fun e => absurd e (by decide), fun e => absurd e (by decide), fun e => absurd e (by decide)⟩
theorem CEok.k7 {own : String} {i n : Nat} {l : List (Nat × Mth)} (h : CpyOK own i) : CEok own i 7 l n := ⟨fun e => absurd e (by decide), fun e => absurd e (by decide), fun e => absurd e (by decide), fun e => absurd e (by decide), fun e => absurd e (by decide), fun e => absurd e (by decide), fun e => absurd e (by decide), fun _ => h, fun e => absurd e (by decide), fun e => absurd e (by decide)⟩
theorem CEok.k8 {own : String} {i n : Nat} {l : List (Nat × Mth)} (h : CloOK own i) : CEok own i 8 l n := ⟨fun e => absurd e (by decide), fun e => absurd e (by decide), fun e => absurd e (by decide), fun e => absurd e (by decide), fun e => absurd e (by decide), fun e => absurd e (by decide), fun e => absurd e (by decide), fun e => absurd e (by decide), fun _ => h, fun e => absurd e (by decide)⟩
theorem CEok.k9 {own : String} {i n : Nat} {l : List (Nat × Mth)} (h : ∀ q ∈ l, CalW own i q.2 n) : CEok own i 9 l n := ⟨fun e => absurd e (by decide), fun e => absurd e (by decide), fun e => absurd e (by decide), fun e => absurd e (by decide), fun e => absurd e (by decide), fun e => absurd e (by decide), fun e => absurd e (by decide), fun e => absurd e (by decide), fun e => absurd e (by decide), fun _ => h⟩
/-! the links of UnlikeCoins$Common, by the tables -/
theorem ce0_0 : CEok RX0 1 2 [(0, m8_init)] 2 := (CEok.k2 (fc ⟨mo_m8_init, wd_486, wd_487, rfl, rfl⟩ fcn))
theorem ce0_1 : CEok RX0 7 4 [(0, m8_together), (9, m8_together)] 1 := (CEok.k4 (fc (Or.inl ⟨mo_m8_together, wd_665, wd_659, wd_661, wd_504, by decide +kernel, _, _, cf0⟩) (fc (Or.inl ⟨mo_m8_together, wd_665, wd_659, wd_661, wd_504, by decide +kernel, _, _, cf9⟩) fcn)))
def kf0 : List FE := []
def kc0 : List CE := [(1, 2, [(0, m8_init)], 2, 0, 0), (7, 4, [(0, m8_together), (9, m8_together)], 1, 0, 0)]
def kn0 : List (Nat × Nat) := []
def kl0 : List (Nat × Value) := []
def kt0 : KT := (kf0, kc0, kn0, kl0)
set_option maxRecDepth 50000 in
theorem kf0_ok : ∀ e ∈ kf0, FEok RX0 e.1 e.2.1 e.2.2.1 e.2.2.2 := fcn
set_option maxRecDepth 50000 in
theorem kc0_ok : ∀ e ∈ kc0, CEok RX0 e.1 e.2.1 e.2.2.1 e.2.2.2.1 := (fc (P := fun e : CE => CEok RX0 e.1 e.2.1 e.2.2.1 e.2.2.2.1) ce0_0 (fc (P := fun e : CE => CEok RX0 e.1 e.2.1 e.2.2.1 e.2.2.2.1) ce0_1 fcn))
theorem kn0_ok : ∀ e ∈ kn0, NEok RX0 e.1 e.2 := fcn
theorem kt0_ok {g : Gt} (hs : GS g) : KTok g RX0 kt0 := ⟨kf0_ok, kc0_ok, kn0_ok, fcn⟩
/-! the links of UnlikeCoins$Gilt, by the tables -/
theorem fe1_0 : FEok RX1 20 1 [1] 2 := (FEok.mk (fc ⟨⟨RX1, TX1, "UnlikeCoins$Gilt", cf1, by decide, wd_495, Or.inr (wd_496)⟩, rfl, rfl, fun e => absurd e (by decide), fun e => absurd e (by decide)⟩ fcn))
theorem ce1_0 : CEok RX1 1 2 [(0, m6_init)] 2 := (CEok.k2 (fc ⟨mo_m6_init, wd_528, wd_508, rfl, rfl⟩ fcn))
theorem ce1_1 : CEok RX1 17 4 [(1, m6_worthOf)] 1 := (CEok.k4 (fc (Or.inl ⟨mo_m6_worthOf, wd_630, wd_631, wd_1380, wd_531, by decide +kernel, _, _, cf1⟩) fcn))
theorem ce1_2 : CEok RX1 7 4 [(1, m8_leftOf)] 1 := (CEok.k4 (fc (Or.inr ⟨⟨"UnlikeCoins$Scarce", "leftOf", "(I)I"⟩, mo_m8_leftOf, wd_779, wd_772, wd_780, wd_531, wd_513, ⟨by decide +kernel, rfl, rfl⟩, _, _, cf1⟩) fcn))
theorem ce1_3 : CEok RX1 11 0 [(0, mJ9_max_7cf53)] 2 := (CEok.k0 (fc ⟨mo_mJ9_max_7cf53, wd_782, wd_241⟩ fcn))
def kf1 : List FE := [(20, 1, [1], 2)]
def kc1 : List CE := [(1, 2, [(0, m6_init)], 2, 0, 0), (17, 4, [(1, m6_worthOf)], 1, 0, 0), (7, 4, [(1, m8_leftOf)], 1, 0, 0), (11, 0, [(0, mJ9_max_7cf53)], 2, 0, 0)]
def kn1 : List (Nat × Nat) := []
def kl1 : List (Nat × Value) := []
def kt1 : KT := (kf1, kc1, kn1, kl1)
set_option maxRecDepth 50000 in
theorem kf1_ok : ∀ e ∈ kf1, FEok RX1 e.1 e.2.1 e.2.2.1 e.2.2.2 := (fc (P := fun e : FE => FEok RX1 e.1 e.2.1 e.2.2.1 e.2.2.2) fe1_0 fcn)
set_option maxRecDepth 50000 in
theorem kc1_ok : ∀ e ∈ kc1, CEok RX1 e.1 e.2.1 e.2.2.1 e.2.2.2.1 := (fc (P := fun e : CE => CEok RX1 e.1 e.2.1 e.2.2.1 e.2.2.2.1) ce1_0 (fc (P := fun e : CE => CEok RX1 e.1 e.2.1 e.2.2.1 e.2.2.2.1) ce1_1 (fc (P := fun e : CE => CEok RX1 e.1 e.2.1 e.2.2.1 e.2.2.2.1) ce1_2 (fc (P := fun e : CE => CEok RX1 e.1 e.2.1 e.2.2.1 e.2.2.2.1) ce1_3 fcn))))
theorem kn1_ok : ∀ e ∈ kn1, NEok RX1 e.1 e.2 := fcn
theorem kt1_ok {g : Gt} (hs : GS g) : KTok g RX1 kt1 := ⟨kf1_ok, kc1_ok, kn1_ok, fcn⟩
/-! the links of UnlikeCoins$Image, by the tables -/
theorem fe2_0 : FEok RX2 11 0 [2] 1 := (FEok.mk (fc ⟨⟨RX2, TX2, "UnlikeCoins$Image", cf2, by decide, wd_99, Or.inl rfl⟩, rfl, rfl, fun e => absurd e (by decide), fun _ => ⟨_, _, cf2, rfl, rfl⟩⟩ fcn))
theorem ce2_0 : CEok RX2 3 6 [] 0 := (CEok.k6 ⟨wd_96, wd_28, wd_29⟩)
theorem ce2_1 : CEok RX2 17 3 [(0, m4_init)] 0 := (CEok.k3 (fc ⟨⟨"UnlikeCoins", mo_m4_init, by decide +kernel⟩, wd_36, rfl, rfl⟩ fcn))
theorem ne2_0 : NEok RX2 9 4 := ⟨fun e => absurd e (by decide), fun _ => ⟨_, _, cf4, wd_97⟩⟩
def kf2 : List FE := [(11, 0, [2], 1)]
def kc2 : List CE := [(3, 6, [], 0, 0, 0), (17, 3, [(0, m4_init)], 0, 3, 18)]
def kn2 : List (Nat × Nat) := [(9, 4)]
def kl2 : List (Nat × Value) := []
def kt2 : KT := (kf2, kc2, kn2, kl2)
set_option maxRecDepth 50000 in
theorem kf2_ok : ∀ e ∈ kf2, FEok RX2 e.1 e.2.1 e.2.2.1 e.2.2.2 := (fc (P := fun e : FE => FEok RX2 e.1 e.2.1 e.2.2.1 e.2.2.2) fe2_0 fcn)
set_option maxRecDepth 50000 in
theorem kc2_ok : ∀ e ∈ kc2, CEok RX2 e.1 e.2.1 e.2.2.1 e.2.2.2.1 := (fc (P := fun e : CE => CEok RX2 e.1 e.2.1 e.2.2.1 e.2.2.2.1) ce2_0 (fc (P := fun e : CE => CEok RX2 e.1 e.2.1 e.2.2.1 e.2.2.2.1) ce2_1 fcn))
theorem kn2_ok : ∀ e ∈ kn2, NEok RX2 e.1 e.2 := (fc (P := fun e : Nat × Nat => NEok RX2 e.1 e.2) ne2_0 fcn)
theorem kt2_ok {g : Gt} (hs : GS g) : KTok g RX2 kt2 := ⟨kf2_ok, kc2_ok, kn2_ok, fcn⟩
/-! the links of UnlikeCoins$Melting, by the tables -/
theorem fe3_0 : FEok RX3 14 1 [3] 2 := (FEok.mk (fc ⟨⟨RX3, TX3, "UnlikeCoins$Melting", cf3, by decide, wd_497, Or.inr (wd_498)⟩, rfl, rfl, fun e => absurd e (by decide), fun e => absurd e (by decide)⟩ fcn))
theorem ce3_0 : CEok RX3 1 2 [(0, m8_init)] 2 := (CEok.k2 (fc ⟨mo_m8_init, wd_537, wd_487, rfl, rfl⟩ fcn))
theorem ce3_1 : CEok RX3 7 4 [(3, m8_together)] 1 := (CEok.k4 (fc (Or.inl ⟨mo_m8_together, wd_670, wd_659, wd_661, wd_540, by decide +kernel, _, _, cf3⟩) fcn))
theorem ce3_2 : CEok RX3 11 4 [(3, m8_leftOf)] 1 := (CEok.k4 (fc (Or.inl ⟨mo_m8_leftOf, wd_786, wd_772, wd_774, wd_540, by decide +kernel, _, _, cf3⟩) fcn))
def kf3 : List FE := [(14, 1, [3], 2)]
def kc3 : List CE := [(1, 2, [(0, m8_init)], 2, 0, 0), (7, 4, [(3, m8_together)], 1, 0, 0), (11, 4, [(3, m8_leftOf)], 1, 0, 0)]
def kn3 : List (Nat × Nat) := []
def kl3 : List (Nat × Value) := []
def kt3 : KT := (kf3, kc3, kn3, kl3)
set_option maxRecDepth 50000 in
theorem kf3_ok : ∀ e ∈ kf3, FEok RX3 e.1 e.2.1 e.2.2.1 e.2.2.2 := (fc (P := fun e : FE => FEok RX3 e.1 e.2.1 e.2.2.1 e.2.2.2) fe3_0 fcn)
set_option maxRecDepth 50000 in
theorem kc3_ok : ∀ e ∈ kc3, CEok RX3 e.1 e.2.1 e.2.2.1 e.2.2.2.1 := (fc (P := fun e : CE => CEok RX3 e.1 e.2.1 e.2.2.1 e.2.2.2.1) ce3_0 (fc (P := fun e : CE => CEok RX3 e.1 e.2.1 e.2.2.1 e.2.2.2.1) ce3_1 (fc (P := fun e : CE => CEok RX3 e.1 e.2.1 e.2.2.1 e.2.2.2.1) ce3_2 fcn)))
theorem kn3_ok : ∀ e ∈ kn3, NEok RX3 e.1 e.2 := fcn
theorem kt3_ok {g : Gt} (hs : GS g) : KTok g RX3 kt3 := ⟨kf3_ok, kc3_ok, kn3_ok, fcn⟩
/-! the links of UnlikeCoins$Purse, by the tables -/
theorem fe4_0 : FEok RX4 9 0 [4] 1 := (FEok.mk (fc ⟨⟨RX4, TX4, "UnlikeCoins$Purse", cf4, by decide, wd_39, Or.inl rfl⟩, rfl, rfl, fun e => absurd e (by decide), fun _ => ⟨_, _, cf4, rfl, rfl⟩⟩ fcn))
theorem fe4_1 : FEok RX4 15 1 [4] 1 := (FEok.mk (fc ⟨⟨RX4, TX4, "UnlikeCoins$Purse", cf4, by decide, wd_40, Or.inl rfl⟩, rfl, rfl, fun e => absurd e (by decide), fun _ => ⟨_, _, cf4, rfl, rfl⟩⟩ fcn))
theorem fe4_2 : FEok RX4 18 2 [4] 1 := (FEok.mk (fc ⟨⟨RX4, TX4, "UnlikeCoins$Purse", cf4, by decide, wd_41, Or.inl rfl⟩, rfl, rfl, fun e => absurd e (by decide), fun _ => ⟨_, _, cf4, rfl, rfl⟩⟩ fcn))
theorem ce4_0 : CEok RX4 3 6 [] 0 := (CEok.k6 ⟨wd_38, wd_28, wd_29⟩)
theorem ce4_1 : CEok RX4 37 0 [(0, mJ7_fill_53178)] 2 := (CEok.k0 (fc ⟨mo_mJ7_fill_53178, wd_582, wd_583⟩ fcn))
theorem ce4_2 : CEok RX4 21 1 [(0, m11_within)] 3 := (CEok.k1 (fc ⟨⟨"UnlikeCoins", mo_m11_within, by decide +kernel⟩, wd_205⟩ fcn))
theorem ce4_3 : CEok RX4 43 5 [(8, m8_worthOf), (0, m8_worthOf), (6, m6_worthOf), (9, m8_worthOf), (1, m1_worthOf), (3, m8_worthOf)] 1 := (CEok.k5 (fc (Or.inl ⟨mo_m8_worthOf, wd_622, wd_623, _, _, cf8, rfl, wd_624⟩) (fc (Or.inr ⟨yX8_worthOf, mo_m8_worthOf, wd_622, wd_623, _, _, "UnlikeCoins$Sort", m8_worthOf.2.1, m8_worthOf.2.2.1, m8_worthOf.2.2.2, cf0, wd_625, wd_623, wd_637, wd_626, ⟨by decide +kernel, by decide +kernel⟩, by decide +kernel⟩) (fc (Or.inr ⟨yX8_worthOf, mo_m6_worthOf, wd_622, wd_631, _, _, "UnlikeCoins$Sort", m8_worthOf.2.1, m8_worthOf.2.2.1, m8_worthOf.2.2.2, cf6, wd_625, wd_623, wd_637, wd_635, ⟨by decide +kernel, by decide +kernel⟩, by decide +kernel⟩) (fc (Or.inr ⟨yX8_worthOf, mo_m8_worthOf, wd_622, wd_623, _, _, "UnlikeCoins$Sort", m8_worthOf.2.1, m8_worthOf.2.2.1, m8_worthOf.2.2.2, cf9, wd_625, wd_623, wd_637, wd_636, ⟨by decide +kernel, by decide +kernel⟩, by decide +kernel⟩) (fc (Or.inr ⟨yX8_worthOf, mo_m1_worthOf, wd_622, wd_628, _, _, "UnlikeCoins$Sort", m8_worthOf.2.1, m8_worthOf.2.2.1, m8_worthOf.2.2.2, cf1, wd_625, wd_623, wd_637, wd_627, ⟨by decide +kernel, by decide +kernel⟩, by decide +kernel⟩) (fc (Or.inr ⟨yX8_worthOf, mo_m8_worthOf, wd_622, wd_623, _, _, "UnlikeCoins$Sort", m8_worthOf.2.1, m8_worthOf.2.2.1, m8_worthOf.2.2.2, cf3, wd_625, wd_623, wd_637, wd_634, ⟨by decide +kernel, by decide +kernel⟩, by decide +kernel⟩) fcn)))))))
theorem ce4_4 : CEok RX4 31 7 [] 5 := (CEok.k7 ⟨wd_653, wd_339, wd_338, wd_14⟩)
theorem ce4_5 : CEok RX4 49 5 [(8, m8_together), (0, m0_together), (6, m8_together), (9, m9_together), (1, m8_together), (3, m3_together)] 1 := (CEok.k5 (fc (Or.inl ⟨mo_m8_together, wd_658, wd_659, _, _, cf8, rfl, wd_660⟩) (fc (Or.inr ⟨yX8_together, mo_m0_together, wd_658, wd_663, _, _, "UnlikeCoins$Sort", m8_together.2.1, m8_together.2.2.1, m8_together.2.2.2, cf0, wd_661, wd_659, wd_676, wd_662, ⟨by decide +kernel, by decide +kernel⟩, by decide +kernel⟩) (fc (Or.inr ⟨yX8_together, mo_m8_together, wd_658, wd_659, _, _, "UnlikeCoins$Sort", m8_together.2.1, m8_together.2.2.1, m8_together.2.2.2, cf6, wd_661, wd_659, wd_676, wd_671, ⟨by decide +kernel, by decide +kernel⟩, by decide +kernel⟩) (fc (Or.inr ⟨yX8_together, mo_m9_together, wd_658, wd_673, _, _, "UnlikeCoins$Sort", m8_together.2.1, m8_together.2.2.1, m8_together.2.2.2, cf9, wd_661, wd_659, wd_676, wd_672, ⟨by decide +kernel, by decide +kernel⟩, by decide +kernel⟩) (fc (Or.inr ⟨yX8_together, mo_m8_together, wd_658, wd_659, _, _, "UnlikeCoins$Sort", m8_together.2.1, m8_together.2.2.1, m8_together.2.2.2, cf1, wd_661, wd_659, wd_676, wd_666, ⟨by decide +kernel, by decide +kernel⟩, by decide +kernel⟩) (fc (Or.inr ⟨yX8_together, mo_m3_together, wd_658, wd_668, _, _, "UnlikeCoins$Sort", m8_together.2.1, m8_together.2.2.1, m8_together.2.2.2, cf3, wd_661, wd_659, wd_676, wd_667, ⟨by decide +kernel, by decide +kernel⟩, by decide +kernel⟩) fcn)))))))
theorem ce4_6 : CEok RX4 52 5 [(4, m4_mostPlentiful)] 0 := (CEok.k5 (fc (Or.inl ⟨mo_m4_mostPlentiful, wd_677, wd_679, _, _, cf4, rfl, gw_sel (q := (yX4_mostPlentiful, 3)) (i := 21) (by decide +kernel) (by decide +kernel)⟩) fcn))
theorem ce4_7 : CEok RX4 25 0 [(0, mJ9_min_7cf53)] 2 := (CEok.k0 (fc ⟨mo_mJ9_min_7cf53, wd_705, wd_244⟩ fcn))
def kf4 : List FE := [(9, 0, [4], 1), (15, 1, [4], 1), (18, 2, [4], 1)]
def kc4 : List CE := [(3, 6, [], 0, 0, 0), (37, 0, [(0, mJ7_fill_53178)], 2, 0, 0), (21, 1, [(0, m11_within)], 3, 0, 0), (43, 5, [(8, m8_worthOf), (0, m8_worthOf), (6, m6_worthOf), (9, m8_worthOf), (1, m1_worthOf), (3, m8_worthOf)], 1, 0, 0), (31, 7, [], 5, 0, 0), (49, 5, [(8, m8_together), (0, m0_together), (6, m8_together), (9, m9_together), (1, m8_together), (3, m3_together)], 1, 0, 0), (52, 5, [(4, m4_mostPlentiful)], 0, 0, 0), (25, 0, [(0, mJ9_min_7cf53)], 2, 0, 0)]
def kn4 : List (Nat × Nat) := []
def kl4 : List (Nat × Value) := []
def kt4 : KT := (kf4, kc4, kn4, kl4)
set_option maxRecDepth 50000 in
theorem kf4_ok : ∀ e ∈ kf4, FEok RX4 e.1 e.2.1 e.2.2.1 e.2.2.2 := (fc (P := fun e : FE => FEok RX4 e.1 e.2.1 e.2.2.1 e.2.2.2) fe4_0 (fc (P := fun e : FE => FEok RX4 e.1 e.2.1 e.2.2.1 e.2.2.2) fe4_1 (fc (P := fun e : FE => FEok RX4 e.1 e.2.1 e.2.2.1 e.2.2.2) fe4_2 fcn)))
set_option maxRecDepth 50000 in
theorem kc4_ok : ∀ e ∈ kc4, CEok RX4 e.1 e.2.1 e.2.2.1 e.2.2.2.1 := (fc (P := fun e : CE => CEok RX4 e.1 e.2.1 e.2.2.1 e.2.2.2.1) ce4_0 (fc (P := fun e : CE => CEok RX4 e.1 e.2.1 e.2.2.1 e.2.2.2.1) ce4_1 (fc (P := fun e : CE => CEok RX4 e.1 e.2.1 e.2.2.1 e.2.2.2.1) ce4_2 (fc (P := fun e : CE => CEok RX4 e.1 e.2.1 e.2.2.1 e.2.2.2.1) ce4_3 (fc (P := fun e : CE => CEok RX4 e.1 e.2.1 e.2.2.1 e.2.2.2.1) ce4_4 (fc (P := fun e : CE => CEok RX4 e.1 e.2.1 e.2.2.1 e.2.2.2.1) ce4_5 (fc (P := fun e : CE => CEok RX4 e.1 e.2.1 e.2.2.1 e.2.2.2.1) ce4_6 (fc (P := fun e : CE => CEok RX4 e.1 e.2.1 e.2.2.1 e.2.2.2.1) ce4_7 fcn))))))))
theorem kn4_ok : ∀ e ∈ kn4, NEok RX4 e.1 e.2 := fcn
theorem kt4_ok {g : Gt} (hs : GS g) : KTok g RX4 kt4 := ⟨kf4_ok, kc4_ok, kn4_ok, fcn⟩
/-! the links of UnlikeCoins$Reader, by the tables -/
theorem fe5_0 : FEok RX5 9 0 [5] 1 := (FEok.mk (fc ⟨⟨RX5, TX5, "UnlikeCoins$Reader", cf5, by decide, wd_60, Or.inl rfl⟩, rfl, rfl, fun e => absurd e (by decide), fun _ => ⟨_, _, cf5, rfl, rfl⟩⟩ fcn))
theorem fe5_1 : FEok RX5 15 1 [5] 1 := (FEok.mk (fc ⟨⟨RX5, TX5, "UnlikeCoins$Reader", cf5, by decide, wd_61, Or.inl rfl⟩, rfl, rfl, fun e => absurd e (by decide), fun _ => ⟨_, _, cf5, rfl, rfl⟩⟩ fcn))
theorem fe5_2 : FEok RX5 18 2 [5] 1 := (FEok.mk (fc ⟨⟨RX5, TX5, "UnlikeCoins$Reader", cf5, by decide, wd_62, Or.inl rfl⟩, rfl, rfl, fun e => absurd e (by decide), fun _ => ⟨_, _, cf5, rfl, rfl⟩⟩ fcn))
theorem fe5_3 : FEok RX5 21 3 [5] 0 := (FEok.mk (fc ⟨⟨RX5, TX5, "UnlikeCoins$Reader", cf5, by decide, wd_63, Or.inl rfl⟩, rfl, rfl, fun _ => ⟨_, _, cf5, rfl⟩, fun e => absurd e (by decide)⟩ fcn))
theorem fe5_4 : FEok RX5 25 4 [5] 0 := (FEok.mk (fc ⟨⟨RX5, TX5, "UnlikeCoins$Reader", cf5, by decide, wd_64, Or.inl rfl⟩, rfl, rfl, fun _ => ⟨_, _, cf5, rfl⟩, fun e => absurd e (by decide)⟩ fcn))
theorem fe5_5 : FEok RX5 42 5 [5] 0 := (FEok.mk (fc ⟨⟨RX5, TX5, "UnlikeCoins$Reader", cf5, by decide, wd_65, Or.inl rfl⟩, rfl, rfl, fun _ => ⟨_, _, cf5, rfl⟩, fun e => absurd e (by decide)⟩ fcn))
theorem fe5_6 : FEok RX5 59 6 [5] 0 := (FEok.mk (fc ⟨⟨RX5, TX5, "UnlikeCoins$Reader", cf5, by decide, wd_66, Or.inl rfl⟩, rfl, rfl, fun _ => ⟨_, _, cf5, rfl⟩, fun e => absurd e (by decide)⟩ fcn))
theorem fe5_7 : FEok RX5 88 7 [5] 0 := (FEok.mk (fc ⟨⟨RX5, TX5, "UnlikeCoins$Reader", cf5, by decide, wd_67, Or.inl rfl⟩, rfl, rfl, fun _ => ⟨_, _, cf5, rfl⟩, fun e => absurd e (by decide)⟩ fcn))
theorem fe5_8 : FEok RX5 45 8 [5] 0 := (FEok.mk (fc ⟨⟨RX5, TX5, "UnlikeCoins$Reader", cf5, by decide, wd_68, Or.inl rfl⟩, rfl, rfl, fun _ => ⟨_, _, cf5, rfl⟩, fun e => absurd e (by decide)⟩ fcn))
theorem fe5_9 : FEok RX5 30 9 [5] 0 := (FEok.mk (fc ⟨⟨RX5, TX5, "UnlikeCoins$Reader", cf5, by decide, wd_69, Or.inl rfl⟩, rfl, rfl, fun _ => ⟨_, _, cf5, rfl⟩, fun e => absurd e (by decide)⟩ fcn))
theorem ce5_0 : CEok RX5 3 6 [] 0 := (CEok.k6 ⟨wd_59, wd_28, wd_29⟩)
theorem ce5_1 : CEok RX5 48 5 [(5, m5_advance)] 0 := (CEok.k5 (fc (Or.inl ⟨mo_m5_advance, wd_194, wd_196, _, _, cf5, rfl, gw_sel (q := (yX5_advance, 10)) (i := 0) (by decide +kernel) (by decide +kernel)⟩) fcn))
theorem ce5_2 : CEok RX5 91 0 [(0, m5_isBlank)] 1 := (CEok.k0 (fc ⟨mo_m5_isBlank, wd_198, wd_199⟩ fcn))
theorem ce5_3 : CEok RX5 94 0 [(0, m5_isLetter)] 1 := (CEok.k0 (fc ⟨mo_m5_isLetter, wd_201, wd_202⟩ fcn))
theorem ce5_4 : CEok RX5 84 1 [(0, m11_within)] 3 := (CEok.k1 (fc ⟨⟨"UnlikeCoins", mo_m11_within, by decide +kernel⟩, wd_205⟩ fcn))
theorem ce5_5 : CEok RX5 97 5 [(5, m5_readWord)] 0 := (CEok.k5 (fc (Or.inl ⟨mo_m5_readWord, wd_207, wd_209, _, _, cf5, rfl, gw_sel (q := (yX5_readWord, 10)) (i := 1) (by decide +kernel) (by decide +kernel)⟩) fcn))
theorem ce5_6 : CEok RX5 114 5 [(5, m5_isWord)] 1 := (CEok.k5 (fc (Or.inl ⟨mo_m5_isWord, wd_211, wd_213, _, _, cf5, rfl, gw_sel (q := (yX5_isWord, 10)) (i := 2) (by decide +kernel) (by decide +kernel)⟩) fcn))
theorem ce5_7 : CEok RX5 119 9 [(0, mJ0_charAt_5068e)] 1 := (CEok.k9 (fc ⟨mo_mJ0_charAt_5068e, wd_216, wd_149, wd_150⟩ fcn))
theorem ce5_8 : CEok RX5 100 0 [(0, m5_isDigit)] 1 := (CEok.k0 (fc ⟨mo_m5_isDigit, wd_217, wd_218⟩ fcn))
theorem ce5_9 : CEok RX5 103 5 [(5, m5_readNumber)] 0 := (CEok.k5 (fc (Or.inl ⟨mo_m5_readNumber, wd_220, wd_222, _, _, cf5, rfl, gw_sel (q := (yX5_readNumber, 10)) (i := 3) (by decide +kernel) (by decide +kernel)⟩) fcn))
theorem ce5_10 : CEok RX5 108 9 [(0, mJ0_indexOf_0f7a4)] 1 := (CEok.k9 (fc ⟨mo_mJ0_indexOf_0f7a4, wd_225, wd_226, wd_227⟩ fcn))
theorem ce5_11 : CEok RX5 51 5 [(5, m5_readToken)] 1 := (CEok.k5 (fc (Or.inl ⟨mo_m5_readToken, wd_284, wd_286, _, _, cf5, rfl, gw_sel (q := (yX5_readToken, 10)) (i := 4) (by decide +kernel) (by decide +kernel)⟩) fcn))
theorem ce5_12 : CEok RX5 55 5 [(5, m5_readEither)] 0 := (CEok.k5 (fc (Or.inl ⟨mo_m5_readEither, wd_288, wd_290, _, _, cf5, rfl, gw_sel (q := (yX5_readEither, 10)) (i := 5) (by decide +kernel) (by decide +kernel)⟩) fcn))
theorem ce5_13 : CEok RX5 62 5 [(5, m5_readBoth)] 0 := (CEok.k5 (fc (Or.inl ⟨mo_m5_readBoth, wd_292, wd_294, _, _, cf5, rfl, gw_sel (q := (yX5_readBoth, 10)) (i := 6) (by decide +kernel) (by decide +kernel)⟩) fcn))
theorem ce5_14 : CEok RX5 69 5 [(5, m5_readDenied)] 0 := (CEok.k5 (fc (Or.inl ⟨mo_m5_readDenied, wd_296, wd_298, _, _, cf5, rfl, gw_sel (q := (yX5_readDenied, 10)) (i := 7) (by decide +kernel) (by decide +kernel)⟩) fcn))
theorem ce5_15 : CEok RX5 72 5 [(5, m5_readCompared)] 0 := (CEok.k5 (fc (Or.inl ⟨mo_m5_readCompared, wd_300, wd_302, _, _, cf5, rfl, gw_sel (q := (yX5_readCompared, 10)) (i := 8) (by decide +kernel) (by decide +kernel)⟩) fcn))
theorem ce5_16 : CEok RX5 75 5 [(5, m5_readSum)] 0 := (CEok.k5 (fc (Or.inl ⟨mo_m5_readSum, wd_304, wd_306, _, _, cf5, rfl, gw_sel (q := (yX5_readSum, 10)) (i := 9) (by decide +kernel) (by decide +kernel)⟩) fcn))
theorem ce5_17 : CEok RX5 78 5 [(5, m5_readTerm)] 0 := (CEok.k5 (fc (Or.inl ⟨mo_m5_readTerm, wd_308, wd_310, _, _, cf5, rfl, gw_sel (q := (yX5_readTerm, 10)) (i := 10) (by decide +kernel) (by decide +kernel)⟩) fcn))
theorem ce5_18 : CEok RX5 81 5 [(5, m5_readOne)] 0 := (CEok.k5 (fc (Or.inl ⟨mo_m5_readOne, wd_312, wd_314, _, _, cf5, rfl, gw_sel (q := (yX5_readOne, 10)) (i := 11) (by decide +kernel) (by decide +kernel)⟩) fcn))
theorem ce5_19 : CEok RX5 65 5 [(5, m5_emit)] 1 := (CEok.k5 (fc (Or.inl ⟨mo_m5_emit, wd_316, wd_318, _, _, cf5, rfl, gw_sel (q := (yX5_emit, 10)) (i := 12) (by decide +kernel) (by decide +kernel)⟩) fcn))
theorem ce5_20 : CEok RX5 33 0 [(0, mJ7_copyOf_59c91)] 2 := (CEok.k0 (fc ⟨mo_mJ7_copyOf_59c91, wd_326, wd_327⟩ fcn))
theorem ce5_21 : CEok RX5 39 2 [(0, m10_init)] 2 := (CEok.k2 (fc ⟨mo_m10_init, wd_340, wd_341, rfl, rfl⟩ fcn))
theorem ne5_0 : NEok RX5 28 10 := ⟨fun e => absurd e (by decide), fun _ => ⟨_, _, cf10, wd_324⟩⟩
def kf5 : List FE := [(9, 0, [5], 1), (15, 1, [5], 1), (18, 2, [5], 1), (21, 3, [5], 0), (25, 4, [5], 0), (42, 5, [5], 0), (59, 6, [5], 0), (88, 7, [5], 0), (45, 8, [5], 0), (30, 9, [5], 0)]
def kc5 : List CE := [(3, 6, [], 0, 0, 0), (48, 5, [(5, m5_advance)], 0, 0, 0), (91, 0, [(0, m5_isBlank)], 1, 0, 0), (94, 0, [(0, m5_isLetter)], 1, 0, 0), (84, 1, [(0, m11_within)], 3, 0, 0), (97, 5, [(5, m5_readWord)], 0, 0, 0), (114, 5, [(5, m5_isWord)], 1, 0, 0), (119, 9, [(0, mJ0_charAt_5068e)], 1, 0, 0), (100, 0, [(0, m5_isDigit)], 1, 0, 0), (103, 5, [(5, m5_readNumber)], 0, 0, 0), (108, 9, [(0, mJ0_indexOf_0f7a4)], 1, 0, 0), (51, 5, [(5, m5_readToken)], 1, 0, 0), (55, 5, [(5, m5_readEither)], 0, 0, 0), (62, 5, [(5, m5_readBoth)], 0, 0, 0), (69, 5, [(5, m5_readDenied)], 0, 0, 0), (72, 5, [(5, m5_readCompared)], 0, 0, 0), (75, 5, [(5, m5_readSum)], 0, 0, 0), (78, 5, [(5, m5_readTerm)], 0, 0, 0), (81, 5, [(5, m5_readOne)], 0, 0, 0), (65, 5, [(5, m5_emit)], 1, 0, 0), (33, 0, [(0, mJ7_copyOf_59c91)], 2, 1, 160), (39, 2, [(0, m10_init)], 2, 1, 32)]
def kn5 : List (Nat × Nat) := [(28, 10)]
def kl5 : List (Nat × Value) := [(117, .ref 3), (106, .ref 2)]
def kt5 : KT := (kf5, kc5, kn5, kl5)
set_option maxRecDepth 50000 in
theorem kf5_ok : ∀ e ∈ kf5, FEok RX5 e.1 e.2.1 e.2.2.1 e.2.2.2 := (fc (P := fun e : FE => FEok RX5 e.1 e.2.1 e.2.2.1 e.2.2.2) fe5_0 (fc (P := fun e : FE => FEok RX5 e.1 e.2.1 e.2.2.1 e.2.2.2) fe5_1 (fc (P := fun e : FE => FEok RX5 e.1 e.2.1 e.2.2.1 e.2.2.2) fe5_2 (fc (P := fun e : FE => FEok RX5 e.1 e.2.1 e.2.2.1 e.2.2.2) fe5_3 (fc (P := fun e : FE => FEok RX5 e.1 e.2.1 e.2.2.1 e.2.2.2) fe5_4 (fc (P := fun e : FE => FEok RX5 e.1 e.2.1 e.2.2.1 e.2.2.2) fe5_5 (fc (P := fun e : FE => FEok RX5 e.1 e.2.1 e.2.2.1 e.2.2.2) fe5_6 (fc (P := fun e : FE => FEok RX5 e.1 e.2.1 e.2.2.1 e.2.2.2) fe5_7 (fc (P := fun e : FE => FEok RX5 e.1 e.2.1 e.2.2.1 e.2.2.2) fe5_8 (fc (P := fun e : FE => FEok RX5 e.1 e.2.1 e.2.2.1 e.2.2.2) fe5_9 fcn))))))))))
set_option maxRecDepth 50000 in
theorem kc5_ok : ∀ e ∈ kc5, CEok RX5 e.1 e.2.1 e.2.2.1 e.2.2.2.1 := (fc (P := fun e : CE => CEok RX5 e.1 e.2.1 e.2.2.1 e.2.2.2.1) ce5_0 (fc (P := fun e : CE => CEok RX5 e.1 e.2.1 e.2.2.1 e.2.2.2.1) ce5_1 (fc (P := fun e : CE => CEok RX5 e.1 e.2.1 e.2.2.1 e.2.2.2.1) ce5_2 (fc (P := fun e : CE => CEok RX5 e.1 e.2.1 e.2.2.1 e.2.2.2.1) ce5_3 (fc (P := fun e : CE => CEok RX5 e.1 e.2.1 e.2.2.1 e.2.2.2.1) ce5_4 (fc (P := fun e : CE => CEok RX5 e.1 e.2.1 e.2.2.1 e.2.2.2.1) ce5_5 (fc (P := fun e : CE => CEok RX5 e.1 e.2.1 e.2.2.1 e.2.2.2.1) ce5_6 (fc (P := fun e : CE => CEok RX5 e.1 e.2.1 e.2.2.1 e.2.2.2.1) ce5_7 (fc (P := fun e : CE => CEok RX5 e.1 e.2.1 e.2.2.1 e.2.2.2.1) ce5_8 (fc (P := fun e : CE => CEok RX5 e.1 e.2.1 e.2.2.1 e.2.2.2.1) ce5_9 (fc (P := fun e : CE => CEok RX5 e.1 e.2.1 e.2.2.1 e.2.2.2.1) ce5_10 (fc (P := fun e : CE => CEok RX5 e.1 e.2.1 e.2.2.1 e.2.2.2.1) ce5_11 (fc (P := fun e : CE => CEok RX5 e.1 e.2.1 e.2.2.1 e.2.2.2.1) ce5_12 (fc (P := fun e : CE => CEok RX5 e.1 e.2.1 e.2.2.1 e.2.2.2.1) ce5_13 (fc (P := fun e : CE => CEok RX5 e.1 e.2.1 e.2.2.1 e.2.2.2.1) ce5_14 (fc (P := fun e : CE => CEok RX5 e.1 e.2.1 e.2.2.1 e.2.2.2.1) ce5_15 (fc (P := fun e : CE => CEok RX5 e.1 e.2.1 e.2.2.1 e.2.2.2.1) ce5_16 (fc (P := fun e : CE => CEok RX5 e.1 e.2.1 e.2.2.1 e.2.2.2.1) ce5_17 (fc (P := fun e : CE => CEok RX5 e.1 e.2.1 e.2.2.1 e.2.2.2.1) ce5_18 (fc (P := fun e : CE => CEok RX5 e.1 e.2.1 e.2.2.1 e.2.2.2.1) ce5_19 (fc (P := fun e : CE => CEok RX5 e.1 e.2.1 e.2.2.1 e.2.2.2.1) ce5_20 (fc (P := fun e : CE => CEok RX5 e.1 e.2.1 e.2.2.1 e.2.2.2.1) ce5_21 fcn))))))))))))))))))))))
theorem kn5_ok : ∀ e ∈ kn5, NEok RX5 e.1 e.2 := (fc (P := fun e : Nat × Nat => NEok RX5 e.1 e.2) ne5_0 fcn)
theorem kt5_ok {g : Gt} (hs : GS g) : KTok g RX5 kt5 := ⟨kf5_ok, kc5_ok, kn5_ok, (fc (P := fun e : Nat × Value => LEok g RX5 e.1 e.2) ⟨sx2, fun s H hX => (hs.2.2.1 s H hX).2.2.1.2.2⟩ (fc (P := fun e : Nat × Value => LEok g RX5 e.1 e.2) ⟨sx1, fun s H hX => (hs.2.2.1 s H hX).2.2.1.2.1⟩ fcn))⟩
/-! the links of UnlikeCoins$Scarce, by the tables -/
theorem ce6_0 : CEok RX6 1 2 [(0, m8_init)] 2 := (CEok.k2 (fc ⟨mo_m8_init, wd_510, wd_487, rfl, rfl⟩ fcn))
theorem ce6_1 : CEok RX6 7 4 [(6, m8_worthOf), (1, m8_worthOf)] 1 := (CEok.k4 (fc (Or.inl ⟨mo_m8_worthOf, wd_633, wd_623, wd_625, wd_513, by decide +kernel, _, _, cf6⟩) (fc (Or.inl ⟨mo_m8_worthOf, wd_633, wd_623, wd_625, wd_513, by decide +kernel, _, _, cf1⟩) fcn)))
def kf6 : List FE := []
def kc6 : List CE := [(1, 2, [(0, m8_init)], 2, 0, 0), (7, 4, [(6, m8_worthOf), (1, m8_worthOf)], 1, 0, 0)]
def kn6 : List (Nat × Nat) := []
def kl6 : List (Nat × Value) := []
def kt6 : KT := (kf6, kc6, kn6, kl6)
set_option maxRecDepth 50000 in
theorem kf6_ok : ∀ e ∈ kf6, FEok RX6 e.1 e.2.1 e.2.2.1 e.2.2.2 := fcn
set_option maxRecDepth 50000 in
theorem kc6_ok : ∀ e ∈ kc6, CEok RX6 e.1 e.2.1 e.2.2.1 e.2.2.2.1 := (fc (P := fun e : CE => CEok RX6 e.1 e.2.1 e.2.2.1 e.2.2.2.1) ce6_0 (fc (P := fun e : CE => CEok RX6 e.1 e.2.1 e.2.2.1 e.2.2.2.1) ce6_1 fcn))
theorem kn6_ok : ∀ e ∈ kn6, NEok RX6 e.1 e.2 := fcn
theorem kt6_ok {g : Gt} (hs : GS g) : KTok g RX6 kt6 := ⟨kf6_ok, kc6_ok, kn6_ok, fcn⟩
/-! the links of UnlikeCoins$Sheet, by the tables -/
theorem fe7_0 : FEok RX7 9 0 [7] 1 := (FEok.mk (fc ⟨⟨RX7, TX7, "UnlikeCoins$Sheet", cf7, by decide, wd_124, Or.inl rfl⟩, rfl, rfl, fun e => absurd e (by decide), fun _ => ⟨_, _, cf7, rfl, rfl⟩⟩ fcn))
theorem fe7_1 : FEok RX7 15 1 [7] 0 := (FEok.mk (fc ⟨⟨RX7, TX7, "UnlikeCoins$Sheet", cf7, by decide, wd_126, Or.inl rfl⟩, rfl, rfl, fun _ => ⟨_, _, cf7, rfl⟩, fun e => absurd e (by decide)⟩ fcn))
theorem fe7_2 : FEok RX7 23 2 [7] 0 := (FEok.mk (fc ⟨⟨RX7, TX7, "UnlikeCoins$Sheet", cf7, by decide, wd_128, Or.inl rfl⟩, rfl, rfl, fun _ => ⟨_, _, cf7, rfl⟩, fun e => absurd e (by decide)⟩ fcn))
theorem ce7_0 : CEok RX7 3 6 [] 0 := (CEok.k6 ⟨wd_123, wd_28, wd_29⟩)
theorem ce7_1 : CEok RX7 19 5 [(7, m7_isMissing)] 0 := (CEok.k5 (fc (Or.inl ⟨mo_m7_isMissing, wd_802, wd_803, _, _, cf7, rfl, wd_804⟩) fcn))
theorem ce7_2 : CEok RX7 32 5 [(7, m7_holds)] 2 := (CEok.k5 (fc (Or.inl ⟨mo_m7_holds, wd_815, wd_816, _, _, cf7, rfl, wd_817⟩) fcn))
theorem ce7_3 : CEok RX7 26 0 [(0, mJ7_fill_53178)] 2 := (CEok.k0 (fc ⟨mo_mJ7_fill_53178, wd_839, wd_583⟩ fcn))
def kf7 : List FE := [(9, 0, [7], 1), (15, 1, [7], 0), (23, 2, [7], 0)]
def kc7 : List CE := [(3, 6, [], 0, 0, 0), (19, 5, [(7, m7_isMissing)], 0, 0, 0), (32, 5, [(7, m7_holds)], 2, 0, 0), (26, 0, [(0, mJ7_fill_53178)], 2, 0, 0)]
def kn7 : List (Nat × Nat) := []
def kl7 : List (Nat × Value) := []
def kt7 : KT := (kf7, kc7, kn7, kl7)
set_option maxRecDepth 50000 in
theorem kf7_ok : ∀ e ∈ kf7, FEok RX7 e.1 e.2.1 e.2.2.1 e.2.2.2 := (fc (P := fun e : FE => FEok RX7 e.1 e.2.1 e.2.2.1 e.2.2.2) fe7_0 (fc (P := fun e : FE => FEok RX7 e.1 e.2.1 e.2.2.1 e.2.2.2) fe7_1 (fc (P := fun e : FE => FEok RX7 e.1 e.2.1 e.2.2.1 e.2.2.2) fe7_2 fcn)))
set_option maxRecDepth 50000 in
theorem kc7_ok : ∀ e ∈ kc7, CEok RX7 e.1 e.2.1 e.2.2.1 e.2.2.2.1 := (fc (P := fun e : CE => CEok RX7 e.1 e.2.1 e.2.2.1 e.2.2.2.1) ce7_0 (fc (P := fun e : CE => CEok RX7 e.1 e.2.1 e.2.2.1 e.2.2.2.1) ce7_1 (fc (P := fun e : CE => CEok RX7 e.1 e.2.1 e.2.2.1 e.2.2.2.1) ce7_2 (fc (P := fun e : CE => CEok RX7 e.1 e.2.1 e.2.2.1 e.2.2.2.1) ce7_3 fcn))))
theorem kn7_ok : ∀ e ∈ kn7, NEok RX7 e.1 e.2 := fcn
theorem kt7_ok {g : Gt} (hs : GS g) : KTok g RX7 kt7 := ⟨kf7_ok, kc7_ok, kn7_ok, fcn⟩
/-! the links of UnlikeCoins$Sort, by the tables -/
theorem fe8_0 : FEok RX8 7 0 [8, 0, 6, 9, 1, 3] 1 := (FEok.mk (fc ⟨⟨RX8, TX8, "UnlikeCoins$Sort", cf8, by decide, wd_490, Or.inl rfl⟩, rfl, rfl, fun e => absurd e (by decide), fun _ => ⟨_, _, cf8, rfl, rfl⟩⟩ (fc ⟨⟨RX0, TX0, "UnlikeCoins$Sort", cf0, by decide, wd_490, Or.inl rfl⟩, rfl, rfl, fun e => absurd e (by decide), fun _ => ⟨_, _, cf0, rfl, rfl⟩⟩ (fc ⟨⟨RX6, TX6, "UnlikeCoins$Sort", cf6, by decide, wd_490, Or.inl rfl⟩, rfl, rfl, fun e => absurd e (by decide), fun _ => ⟨_, _, cf6, rfl, rfl⟩⟩ (fc ⟨⟨RX9, TX9, "UnlikeCoins$Sort", cf9, by decide, wd_490, Or.inl rfl⟩, rfl, rfl, fun e => absurd e (by decide), fun _ => ⟨_, _, cf9, rfl, rfl⟩⟩ (fc ⟨⟨RX1, TX1, "UnlikeCoins$Sort", cf1, by decide, wd_490, Or.inl rfl⟩, rfl, rfl, fun e => absurd e (by decide), fun _ => ⟨_, _, cf1, rfl, rfl⟩⟩ (fc ⟨⟨RX3, TX3, "UnlikeCoins$Sort", cf3, by decide, wd_490, Or.inl rfl⟩, rfl, rfl, fun e => absurd e (by decide), fun _ => ⟨_, _, cf3, rfl, rfl⟩⟩ fcn)))))))
theorem fe8_1 : FEok RX8 13 1 [8, 0, 6, 9, 1, 3] 1 := (FEok.mk (fc ⟨⟨RX8, TX8, "UnlikeCoins$Sort", cf8, by decide, wd_492, Or.inl rfl⟩, rfl, rfl, fun e => absurd e (by decide), fun _ => ⟨_, _, cf8, rfl, rfl⟩⟩ (fc ⟨⟨RX0, TX0, "UnlikeCoins$Sort", cf0, by decide, wd_492, Or.inl rfl⟩, rfl, rfl, fun e => absurd e (by decide), fun _ => ⟨_, _, cf0, rfl, rfl⟩⟩ (fc ⟨⟨RX6, TX6, "UnlikeCoins$Sort", cf6, by decide, wd_492, Or.inl rfl⟩, rfl, rfl, fun e => absurd e (by decide), fun _ => ⟨_, _, cf6, rfl, rfl⟩⟩ (fc ⟨⟨RX9, TX9, "UnlikeCoins$Sort", cf9, by decide, wd_492, Or.inl rfl⟩, rfl, rfl, fun e => absurd e (by decide), fun _ => ⟨_, _, cf9, rfl, rfl⟩⟩ (fc ⟨⟨RX1, TX1, "UnlikeCoins$Sort", cf1, by decide, wd_492, Or.inl rfl⟩, rfl, rfl, fun e => absurd e (by decide), fun _ => ⟨_, _, cf1, rfl, rfl⟩⟩ (fc ⟨⟨RX3, TX3, "UnlikeCoins$Sort", cf3, by decide, wd_492, Or.inl rfl⟩, rfl, rfl, fun e => absurd e (by decide), fun _ => ⟨_, _, cf3, rfl, rfl⟩⟩ fcn)))))))
theorem ce8_0 : CEok RX8 1 6 [] 0 := (CEok.k6 ⟨wd_489, wd_28, wd_29⟩)
def kf8 : List FE := [(7, 0, [8, 0, 6, 9, 1, 3], 1), (13, 1, [8, 0, 6, 9, 1, 3], 1)]
def kc8 : List CE := [(1, 6, [], 0, 0, 0)]
def kn8 : List (Nat × Nat) := []
def kl8 : List (Nat × Value) := []
def kt8 : KT := (kf8, kc8, kn8, kl8)
set_option maxRecDepth 50000 in
theorem kf8_ok : ∀ e ∈ kf8, FEok RX8 e.1 e.2.1 e.2.2.1 e.2.2.2 := (fc (P := fun e : FE => FEok RX8 e.1 e.2.1 e.2.2.1 e.2.2.2) fe8_0 (fc (P := fun e : FE => FEok RX8 e.1 e.2.1 e.2.2.1 e.2.2.2) fe8_1 fcn))
set_option maxRecDepth 50000 in
theorem kc8_ok : ∀ e ∈ kc8, CEok RX8 e.1 e.2.1 e.2.2.1 e.2.2.2.1 := (fc (P := fun e : CE => CEok RX8 e.1 e.2.1 e.2.2.1 e.2.2.2.1) ce8_0 fcn)
theorem kn8_ok : ∀ e ∈ kn8, NEok RX8 e.1 e.2 := fcn
theorem kt8_ok {g : Gt} (hs : GS g) : KTok g RX8 kt8 := ⟨kf8_ok, kc8_ok, kn8_ok, fcn⟩
/-! the links of UnlikeCoins$Stamped, by the tables -/
theorem fe9_0 : FEok RX9 7 1 [9] 2 := (FEok.mk (fc ⟨⟨RX9, TX9, "UnlikeCoins$Stamped", cf9, by decide, wd_493, Or.inr (wd_494)⟩, rfl, rfl, fun e => absurd e (by decide), fun e => absurd e (by decide)⟩ fcn))
theorem ce9_0 : CEok RX9 1 2 [(0, m0_init)] 2 := (CEok.k2 (fc ⟨mo_m0_init, wd_519, wd_484, rfl, rfl⟩ fcn))
theorem ce9_1 : CEok RX9 13 4 [(9, m0_together)] 1 := (CEok.k4 (fc (Or.inl ⟨mo_m0_together, wd_675, wd_663, wd_1381, wd_522, by decide +kernel, _, _, cf9⟩) fcn))
def kf9 : List FE := [(7, 1, [9], 2)]
def kc9 : List CE := [(1, 2, [(0, m0_init)], 2, 0, 0), (13, 4, [(9, m0_together)], 1, 0, 0)]
def kn9 : List (Nat × Nat) := []
def kl9 : List (Nat × Value) := []
def kt9 : KT := (kf9, kc9, kn9, kl9)
set_option maxRecDepth 50000 in
theorem kf9_ok : ∀ e ∈ kf9, FEok RX9 e.1 e.2.1 e.2.2.1 e.2.2.2 := (fc (P := fun e : FE => FEok RX9 e.1 e.2.1 e.2.2.1 e.2.2.2) fe9_0 fcn)
set_option maxRecDepth 50000 in
theorem kc9_ok : ∀ e ∈ kc9, CEok RX9 e.1 e.2.1 e.2.2.1 e.2.2.2.1 := (fc (P := fun e : CE => CEok RX9 e.1 e.2.1 e.2.2.1 e.2.2.2.1) ce9_0 (fc (P := fun e : CE => CEok RX9 e.1 e.2.1 e.2.2.1 e.2.2.2.1) ce9_1 fcn))
theorem kn9_ok : ∀ e ∈ kn9, NEok RX9 e.1 e.2 := fcn
theorem kt9_ok {g : Gt} (hs : GS g) : KTok g RX9 kt9 := ⟨kf9_ok, kc9_ok, kn9_ok, fcn⟩
/-! the links of UnlikeCoins$Text, by the tables -/
theorem fe10_0 : FEok RX10 15 0 [10] 1 := (FEok.mk (fc ⟨⟨RX10, TX10, "UnlikeCoins$Text", cf10, by decide, wd_344, Or.inl rfl⟩, rfl, rfl, fun e => absurd e (by decide), fun _ => ⟨_, _, cf10, rfl, rfl⟩⟩ fcn))
theorem fe10_1 : FEok RX10 18 1 [10] 1 := (FEok.mk (fc ⟨⟨RX10, TX10, "UnlikeCoins$Text", cf10, by decide, wd_345, Or.inl rfl⟩, rfl, rfl, fun e => absurd e (by decide), fun _ => ⟨_, _, cf10, rfl, rfl⟩⟩ fcn))
theorem fe10_2 : FEok RX10 11 2 [10] 1 := (FEok.mk (fc ⟨⟨RX10, TX10, "UnlikeCoins$Text", cf10, by decide, wd_346, Or.inl rfl⟩, rfl, rfl, fun e => absurd e (by decide), fun _ => ⟨_, _, cf10, rfl, rfl⟩⟩ fcn))
theorem fe10_3 : FEok RX10 25 3 [10] 0 := (FEok.mk (fc ⟨⟨RX10, TX10, "UnlikeCoins$Text", cf10, by decide, wd_347, Or.inl rfl⟩, rfl, rfl, fun _ => ⟨_, _, cf10, rfl⟩, fun e => absurd e (by decide)⟩ fcn))
theorem ce10_0 : CEok RX10 3 6 [] 0 := (CEok.k6 ⟨wd_343, wd_28, wd_29⟩)
theorem ce10_1 : CEok RX10 21 1 [(0, m11_within)] 3 := (CEok.k1 (fc ⟨⟨"UnlikeCoins", mo_m11_within, by decide +kernel⟩, wd_205⟩ fcn))
theorem ce10_2 : CEok RX10 29 0 [(0, mJ9_max_7cf53)] 2 := (CEok.k0 (fc ⟨mo_mJ9_max_7cf53, wd_457, wd_241⟩ fcn))
theorem ce10_3 : CEok RX10 35 5 [(10, m10_step)] 2 := (CEok.k5 (fc (Or.inl ⟨mo_m10_step, wd_458, wd_460, _, _, cf10, rfl, gw_sel (q := (yX10_step, 4)) (i := 15) (by decide +kernel) (by decide +kernel)⟩) fcn))
theorem ce10_4 : CEok RX10 46 5 [(10, m10_push)] 1 := (CEok.k5 (fc (Or.inl ⟨mo_m10_push, wd_462, wd_464, _, _, cf10, rfl, gw_sel (q := (yX10_push, 4)) (i := 16) (by decide +kernel) (by decide +kernel)⟩) fcn))
theorem ce10_5 : CEok RX10 39 5 [(10, m10_pop)] 0 := (CEok.k5 (fc (Or.inl ⟨mo_m10_pop, wd_466, wd_468, _, _, cf10, rfl, gw_sel (q := (yX10_pop, 4)) (i := 17) (by decide +kernel) (by decide +kernel)⟩) fcn))
theorem ce10_6 : CEok RX10 50 0 [(0, m10_reckon)] 3 := (CEok.k0 (fc ⟨mo_m10_reckon, wd_470, wd_471⟩ fcn))
theorem ce10_7 : CEok RX10 43 0 [(0, mJ9_min_7cf53)] 2 := (CEok.k0 (fc ⟨mo_mJ9_min_7cf53, wd_473, wd_244⟩ fcn))
def kf10 : List FE := [(15, 0, [10], 1), (18, 1, [10], 1), (11, 2, [10], 1), (25, 3, [10], 0)]
def kc10 : List CE := [(3, 6, [], 0, 0, 0), (21, 1, [(0, m11_within)], 3, 0, 0), (29, 0, [(0, mJ9_max_7cf53)], 2, 0, 0), (35, 5, [(10, m10_step)], 2, 0, 0), (46, 5, [(10, m10_push)], 1, 0, 0), (39, 5, [(10, m10_pop)], 0, 0, 0), (50, 0, [(0, m10_reckon)], 3, 0, 0), (43, 0, [(0, mJ9_min_7cf53)], 2, 0, 0)]
def kn10 : List (Nat × Nat) := []
def kl10 : List (Nat × Value) := []
def kt10 : KT := (kf10, kc10, kn10, kl10)
set_option maxRecDepth 50000 in
theorem kf10_ok : ∀ e ∈ kf10, FEok RX10 e.1 e.2.1 e.2.2.1 e.2.2.2 := (fc (P := fun e : FE => FEok RX10 e.1 e.2.1 e.2.2.1 e.2.2.2) fe10_0 (fc (P := fun e : FE => FEok RX10 e.1 e.2.1 e.2.2.1 e.2.2.2) fe10_1 (fc (P := fun e : FE => FEok RX10 e.1 e.2.1 e.2.2.1 e.2.2.2) fe10_2 (fc (P := fun e : FE => FEok RX10 e.1 e.2.1 e.2.2.1 e.2.2.2) fe10_3 fcn))))
set_option maxRecDepth 50000 in
theorem kc10_ok : ∀ e ∈ kc10, CEok RX10 e.1 e.2.1 e.2.2.1 e.2.2.2.1 := (fc (P := fun e : CE => CEok RX10 e.1 e.2.1 e.2.2.1 e.2.2.2.1) ce10_0 (fc (P := fun e : CE => CEok RX10 e.1 e.2.1 e.2.2.1 e.2.2.2.1) ce10_1 (fc (P := fun e : CE => CEok RX10 e.1 e.2.1 e.2.2.1 e.2.2.2.1) ce10_2 (fc (P := fun e : CE => CEok RX10 e.1 e.2.1 e.2.2.1 e.2.2.2.1) ce10_3 (fc (P := fun e : CE => CEok RX10 e.1 e.2.1 e.2.2.1 e.2.2.2.1) ce10_4 (fc (P := fun e : CE => CEok RX10 e.1 e.2.1 e.2.2.1 e.2.2.2.1) ce10_5 (fc (P := fun e : CE => CEok RX10 e.1 e.2.1 e.2.2.1 e.2.2.2.1) ce10_6 (fc (P := fun e : CE => CEok RX10 e.1 e.2.1 e.2.2.1 e.2.2.2.1) ce10_7 fcn))))))))
theorem kn10_ok : ∀ e ∈ kn10, NEok RX10 e.1 e.2 := fcn
theorem kt10_ok {g : Gt} (hs : GS g) : KTok g RX10 kt10 := ⟨kf10_ok, kc10_ok, kn10_ok, fcn⟩
/-! the links of UnlikeCoinsLaw, by the tables -/
theorem ceL_0 : CEok RL 9 2 [(0, m11_init)] 0 := (CEok.k2 (fc ⟨mo_m11_init, wd_24, wd_25, rfl, rfl⟩ fcn))
theorem ceL_1 : CEok RL 13 5 [(11, m11_count)] 1 := (CEok.k5 (fc (Or.inl ⟨mo_m11_count, wd_408, wd_409, _, _, cf11, rfl, wd_410⟩) fcn))
theorem ceL_2 : CEok RL 18 5 [(11, m11_feed)] 6 := (CEok.k5 (fc (Or.inl ⟨mo_m11_feed, wd_416, wd_417, _, _, cf11, rfl, wd_418⟩) fcn))
theorem ceL_3 : CEok RL 23 5 [(11, m11_text)] 0 := (CEok.k5 (fc (Or.inl ⟨mo_m11_text, wd_428, wd_429, _, _, cf11, rfl, wd_430⟩) fcn))
theorem ceL_4 : CEok RL 28 5 [(11, m11_force)] 1 := (CEok.k5 (fc (Or.inl ⟨mo_m11_force, wd_436, wd_437, _, _, cf11, rfl, wd_438⟩) fcn))
theorem ceL_5 : CEok RL 32 5 [(11, m11_asks)] 4 := (CEok.k5 (fc (Or.inl ⟨mo_m11_asks, wd_440, wd_441, _, _, cf11, rfl, wd_442⟩) fcn))
theorem ceL_6 : CEok RL 37 5 [(11, m11_sort)] 3 := (CEok.k5 (fc (Or.inl ⟨mo_m11_sort, wd_474, wd_475, _, _, cf11, rfl, wd_476⟩) fcn))
theorem ceL_7 : CEok RL 42 5 [(11, m11_told)] 2 := (CEok.k5 (fc (Or.inl ⟨mo_m11_told, wd_546, wd_547, _, _, cf11, rfl, wd_548⟩) fcn))
theorem ceL_8 : CEok RL 47 5 [(11, m11_purse)] 0 := (CEok.k5 (fc (Or.inl ⟨mo_m11_purse, wd_574, wd_575, _, _, cf11, rfl, wd_576⟩) fcn))
theorem ceL_9 : CEok RL 51 5 [(11, m11_set)] 3 := (CEok.k5 (fc (Or.inl ⟨mo_m11_set, wd_585, wd_586, _, _, cf11, rfl, wd_587⟩) fcn))
theorem ceL_10 : CEok RL 55 5 [(11, m11_of)] 2 := (CEok.k5 (fc (Or.inl ⟨mo_m11_of, wd_602, wd_603, _, _, cf11, rfl, wd_604⟩) fcn))
theorem ceL_11 : CEok RL 59 5 [(11, m11_all)] 2 := (CEok.k5 (fc (Or.inl ⟨mo_m11_all, wd_606, wd_607, _, _, cf11, rfl, wd_608⟩) fcn))
theorem ceL_12 : CEok RL 63 5 [(11, m11_often)] 3 := (CEok.k5 (fc (Or.inl ⟨mo_m11_often, wd_638, wd_639, _, _, cf11, rfl, wd_640⟩) fcn))
theorem ceL_13 : CEok RL 67 5 [(11, m11_buy)] 2 := (CEok.k5 (fc (Or.inl ⟨mo_m11_buy, wd_685, wd_686, _, _, cf11, rfl, wd_687⟩) fcn))
theorem ceL_14 : CEok RL 71 5 [(11, m11_two)] 4 := (CEok.k5 (fc (Or.inl ⟨mo_m11_two, wd_689, wd_690, _, _, cf11, rfl, wd_691⟩) fcn))
theorem ceL_15 : CEok RL 75 5 [(11, m11_price)] 1 := (CEok.k5 (fc (Or.inl ⟨mo_m11_price, wd_693, wd_694, _, _, cf11, rfl, wd_695⟩) fcn))
theorem ceL_16 : CEok RL 79 5 [(11, m11_idle)] 2 := (CEok.k5 (fc (Or.inl ⟨mo_m11_idle, wd_706, wd_707, _, _, cf11, rfl, wd_708⟩) fcn))
theorem ceL_17 : CEok RL 83 5 [(11, m11_dearest)] 2 := (CEok.k5 (fc (Or.inl ⟨mo_m11_dearest, wd_710, wd_711, _, _, cf11, rfl, wd_712⟩) fcn))
theorem ceL_18 : CEok RL 87 5 [(11, m11_swap)] 3 := (CEok.k5 (fc (Or.inl ⟨mo_m11_swap, wd_714, wd_715, _, _, cf11, rfl, wd_716⟩) fcn))
theorem ceL_19 : CEok RL 91 5 [(11, m11_best)] 4 := (CEok.k5 (fc (Or.inl ⟨mo_m11_best, wd_729, wd_730, _, _, cf11, rfl, wd_731⟩) fcn))
theorem ceL_20 : CEok RL 95 5 [(11, m11_lacks)] 2 := (CEok.k5 (fc (Or.inl ⟨mo_m11_lacks, wd_737, wd_738, _, _, cf11, rfl, wd_739⟩) fcn))
theorem ceL_21 : CEok RL 99 5 [(11, m11_thief)] 3 := (CEok.k5 (fc (Or.inl ⟨mo_m11_thief, wd_741, wd_742, _, _, cf11, rfl, wd_743⟩) fcn))
theorem ceL_22 : CEok RL 103 5 [(11, m11_rob)] 1 := (CEok.k5 (fc (Or.inl ⟨mo_m11_rob, wd_745, wd_746, _, _, cf11, rfl, wd_747⟩) fcn))
theorem ceL_23 : CEok RL 107 5 [(11, m11_wage)] 4 := (CEok.k5 (fc (Or.inl ⟨mo_m11_wage, wd_749, wd_750, _, _, cf11, rfl, wd_751⟩) fcn))
theorem ceL_24 : CEok RL 111 5 [(11, m11_strike)] 2 := (CEok.k5 (fc (Or.inl ⟨mo_m11_strike, wd_758, wd_759, _, _, cf11, rfl, wd_760⟩) fcn))
theorem ceL_25 : CEok RL 115 5 [(11, m11_pass)] 0 := (CEok.k5 (fc (Or.inl ⟨mo_m11_pass, wd_762, wd_763, _, _, cf11, rfl, wd_764⟩) fcn))
theorem ceL_26 : CEok RL 119 5 [(11, m11_judge)] 2 := (CEok.k5 (fc (Or.inl ⟨mo_m11_judge, wd_790, wd_791, _, _, cf11, rfl, wd_792⟩) fcn))
theorem ceL_27 : CEok RL 123 5 [(11, m11_whose)] 1 := (CEok.k5 (fc (Or.inl ⟨mo_m11_whose, wd_819, wd_820, _, _, cf11, rfl, wd_821⟩) fcn))
theorem ceL_28 : CEok RL 127 5 [(11, m11_was)] 2 := (CEok.k5 (fc (Or.inl ⟨mo_m11_was, wd_823, wd_824, _, _, cf11, rfl, wd_825⟩) fcn))
theorem ceL_29 : CEok RL 131 5 [(11, m11_film)] 3 := (CEok.k5 (fc (Or.inl ⟨mo_m11_film, wd_831, wd_832, _, _, cf11, rfl, wd_833⟩) fcn))
theorem ceL_30 : CEok RL 135 5 [(11, m11_laws)] 3 := (CEok.k5 (fc (Or.inl ⟨mo_m11_laws, wd_844, wd_845, _, _, cf11, rfl, wd_846⟩) fcn))
theorem ceL_31 : CEok RL 139 5 [(11, m11_drawn)] 2 := (CEok.k5 (fc (Or.inl ⟨mo_m11_drawn, wd_849, wd_850, _, _, cf11, rfl, wd_851⟩) fcn))
theorem ceL_32 : CEok RL 143 5 [(11, m11_mean)] 4 := (CEok.k5 (fc (Or.inl ⟨mo_m11_mean, wd_863, wd_864, _, _, cf11, rfl, wd_865⟩) fcn))
theorem ceL_33 : CEok RL 148 5 [(11, m11_image)] 0 := (CEok.k5 (fc (Or.inl ⟨mo_m11_image, wd_871, wd_872, _, _, cf11, rfl, wd_873⟩) fcn))
theorem ceL_34 : CEok RL 152 5 [(11, m11_back)] 0 := (CEok.k5 (fc (Or.inl ⟨mo_m11_back, wd_875, wd_876, _, _, cf11, rfl, wd_877⟩) fcn))
theorem ceL_35 : CEok RL 156 5 [(11, m11_sheet)] 3 := (CEok.k5 (fc (Or.inl ⟨mo_m11_sheet, wd_879, wd_880, _, _, cf11, rfl, wd_881⟩) fcn))
theorem ceL_36 : CEok RL 160 5 [(11, m11_cell)] 3 := (CEok.k5 (fc (Or.inl ⟨mo_m11_cell, wd_883, wd_884, _, _, cf11, rfl, wd_885⟩) fcn))
theorem ceL_37 : CEok RL 164 5 [(11, m11_copy)] 5 := (CEok.k5 (fc (Or.inl ⟨mo_m11_copy, wd_888, wd_889, _, _, cf11, rfl, wd_890⟩) fcn))
theorem ceL_38 : CEok RL 169 5 [(11, m11_coinsBy)] 4 := (CEok.k5 (fc (Or.inl ⟨mo_m11_coinsBy, wd_893, wd_894, _, _, cf11, rfl, wd_895⟩) fcn))
theorem ceL_39 : CEok RL 173 5 [(11, m11_taken)] 2 := (CEok.k5 (fc (Or.inl ⟨mo_m11_taken, wd_898, wd_899, _, _, cf11, rfl, wd_900⟩) fcn))
theorem ceL_40 : CEok RL 12 2 [(0, m12_init)] 0 := (CEok.k2 (fc ⟨mo_m12_init, wd_907, wd_908, rfl, rfl⟩ fcn))
theorem ceL_41 : CEok RL 17 5 [(12, m12_count)] 1 := (CEok.k5 (fc (Or.inl ⟨mo_m12_count, wd_1079, wd_1080, _, _, cf12, rfl, wd_1081⟩) fcn))
theorem ceL_42 : CEok RL 22 5 [(12, m12_feed)] 6 := (CEok.k5 (fc (Or.inl ⟨mo_m12_feed, wd_1083, wd_1084, _, _, cf12, rfl, wd_1085⟩) fcn))
theorem ceL_43 : CEok RL 27 5 [(12, m12_text)] 0 := (CEok.k5 (fc (Or.inl ⟨mo_m12_text, wd_1090, wd_912, _, _, cf12, rfl, wd_913⟩) fcn))
theorem ceL_44 : CEok RL 31 5 [(12, m12_force)] 1 := (CEok.k5 (fc (Or.inl ⟨mo_m12_force, wd_1091, wd_1092, _, _, cf12, rfl, wd_1093⟩) fcn))
theorem ceL_45 : CEok RL 36 5 [(12, m12_asks)] 4 := (CEok.k5 (fc (Or.inl ⟨mo_m12_asks, wd_1095, wd_1096, _, _, cf12, rfl, wd_1097⟩) fcn))
theorem ceL_46 : CEok RL 41 5 [(12, m12_sort)] 3 := (CEok.k5 (fc (Or.inl ⟨mo_m12_sort, wd_1113, wd_1114, _, _, cf12, rfl, wd_1115⟩) fcn))
theorem ceL_47 : CEok RL 46 5 [(12, m12_told)] 2 := (CEok.k5 (fc (Or.inl ⟨mo_m12_told, wd_1117, wd_1118, _, _, cf12, rfl, wd_1119⟩) fcn))
theorem ceL_48 : CEok RL 50 5 [(12, m12_purse)] 0 := (CEok.k5 (fc (Or.inl ⟨mo_m12_purse, wd_1125, wd_1126, _, _, cf12, rfl, wd_1127⟩) fcn))
theorem ceL_49 : CEok RL 54 5 [(12, m12_set)] 3 := (CEok.k5 (fc (Or.inl ⟨mo_m12_set, wd_1129, wd_1130, _, _, cf12, rfl, wd_1131⟩) fcn))
theorem ceL_50 : CEok RL 58 5 [(12, m12_of)] 2 := (CEok.k5 (fc (Or.inl ⟨mo_m12_of, wd_1137, wd_1138, _, _, cf12, rfl, wd_1139⟩) fcn))
theorem ceL_51 : CEok RL 62 5 [(12, m12_all)] 2 := (CEok.k5 (fc (Or.inl ⟨mo_m12_all, wd_1141, wd_1142, _, _, cf12, rfl, wd_1143⟩) fcn))
theorem ceL_52 : CEok RL 66 5 [(12, m12_often)] 3 := (CEok.k5 (fc (Or.inl ⟨mo_m12_often, wd_1149, wd_1150, _, _, cf12, rfl, wd_1151⟩) fcn))
theorem ceL_53 : CEok RL 70 5 [(12, m12_buy)] 2 := (CEok.k5 (fc (Or.inl ⟨mo_m12_buy, wd_1188, wd_1189, _, _, cf12, rfl, wd_1190⟩) fcn))
theorem ceL_54 : CEok RL 74 5 [(12, m12_two_)] 4 := (CEok.k5 (fc (Or.inl ⟨mo_m12_two_, wd_1196, wd_1197, _, _, cf12, rfl, wd_1198⟩) fcn))
theorem ceL_55 : CEok RL 78 5 [(12, m12_price)] 1 := (CEok.k5 (fc (Or.inl ⟨mo_m12_price, wd_1204, wd_1205, _, _, cf12, rfl, wd_1206⟩) fcn))
theorem ceL_56 : CEok RL 82 5 [(12, m12_idle)] 2 := (CEok.k5 (fc (Or.inl ⟨mo_m12_idle, wd_1212, wd_1213, _, _, cf12, rfl, wd_1214⟩) fcn))
theorem ceL_57 : CEok RL 86 5 [(12, m12_dearest)] 2 := (CEok.k5 (fc (Or.inl ⟨mo_m12_dearest, wd_1216, wd_1217, _, _, cf12, rfl, wd_1218⟩) fcn))
theorem ceL_58 : CEok RL 90 5 [(12, m12_swap)] 3 := (CEok.k5 (fc (Or.inl ⟨mo_m12_swap, wd_1220, wd_1221, _, _, cf12, rfl, wd_1222⟩) fcn))
theorem ceL_59 : CEok RL 94 5 [(12, m12_best)] 4 := (CEok.k5 (fc (Or.inl ⟨mo_m12_best, wd_1240, wd_1241, _, _, cf12, rfl, wd_1242⟩) fcn))
theorem ceL_60 : CEok RL 98 5 [(12, m12_lacks)] 2 := (CEok.k5 (fc (Or.inl ⟨mo_m12_lacks, wd_1244, wd_1245, _, _, cf12, rfl, wd_1246⟩) fcn))
theorem ceL_61 : CEok RL 102 5 [(12, m12_thief)] 3 := (CEok.k5 (fc (Or.inl ⟨mo_m12_thief, wd_1252, wd_1253, _, _, cf12, rfl, wd_1254⟩) fcn))
theorem ceL_62 : CEok RL 106 5 [(12, m12_rob)] 1 := (CEok.k5 (fc (Or.inl ⟨mo_m12_rob, wd_1256, wd_1257, _, _, cf12, rfl, wd_1258⟩) fcn))
theorem ceL_63 : CEok RL 110 5 [(12, m12_wage)] 4 := (CEok.k5 (fc (Or.inl ⟨mo_m12_wage, wd_1260, wd_1261, _, _, cf12, rfl, wd_1262⟩) fcn))
theorem ceL_64 : CEok RL 114 5 [(12, m12_strike)] 2 := (CEok.k5 (fc (Or.inl ⟨mo_m12_strike, wd_1276, wd_1277, _, _, cf12, rfl, wd_1278⟩) fcn))
theorem ceL_65 : CEok RL 118 5 [(12, m12_pass)] 0 := (CEok.k5 (fc (Or.inl ⟨mo_m12_pass, wd_1280, wd_1281, _, _, cf12, rfl, wd_1282⟩) fcn))
theorem ceL_66 : CEok RL 122 5 [(12, m12_judge)] 2 := (CEok.k5 (fc (Or.inl ⟨mo_m12_judge, wd_1288, wd_1289, _, _, cf12, rfl, wd_1290⟩) fcn))
theorem ceL_67 : CEok RL 126 5 [(12, m12_whose)] 1 := (CEok.k5 (fc (Or.inl ⟨mo_m12_whose, wd_1304, wd_1305, _, _, cf12, rfl, wd_1306⟩) fcn))
theorem ceL_68 : CEok RL 130 5 [(12, m12_was)] 2 := (CEok.k5 (fc (Or.inl ⟨mo_m12_was, wd_1308, wd_1309, _, _, cf12, rfl, wd_1310⟩) fcn))
theorem ceL_69 : CEok RL 134 5 [(12, m12_film)] 3 := (CEok.k5 (fc (Or.inl ⟨mo_m12_film, wd_1312, wd_1313, _, _, cf12, rfl, wd_1314⟩) fcn))
theorem ceL_70 : CEok RL 138 5 [(12, m12_laws)] 3 := (CEok.k5 (fc (Or.inl ⟨mo_m12_laws, wd_1316, wd_1317, _, _, cf12, rfl, wd_1318⟩) fcn))
theorem ceL_71 : CEok RL 142 5 [(12, m12_drawn)] 2 := (CEok.k5 (fc (Or.inl ⟨mo_m12_drawn, wd_1321, wd_1322, _, _, cf12, rfl, wd_1323⟩) fcn))
theorem ceL_72 : CEok RL 147 5 [(12, m12_mean)] 4 := (CEok.k5 (fc (Or.inl ⟨mo_m12_mean, wd_1336, wd_1337, _, _, cf12, rfl, wd_1338⟩) fcn))
theorem ceL_73 : CEok RL 151 5 [(12, m12_image)] 0 := (CEok.k5 (fc (Or.inl ⟨mo_m12_image, wd_1344, wd_1345, _, _, cf12, rfl, wd_1346⟩) fcn))
theorem ceL_74 : CEok RL 155 5 [(12, m12_back)] 0 := (CEok.k5 (fc (Or.inl ⟨mo_m12_back, wd_1348, wd_1349, _, _, cf12, rfl, wd_1350⟩) fcn))
theorem ceL_75 : CEok RL 159 5 [(12, m12_sheet)] 3 := (CEok.k5 (fc (Or.inl ⟨mo_m12_sheet, wd_1352, wd_1353, _, _, cf12, rfl, wd_1354⟩) fcn))
theorem ceL_76 : CEok RL 163 5 [(12, m12_cell)] 3 := (CEok.k5 (fc (Or.inl ⟨mo_m12_cell, wd_1356, wd_1357, _, _, cf12, rfl, wd_1358⟩) fcn))
theorem ceL_77 : CEok RL 168 5 [(12, m12_copy)] 5 := (CEok.k5 (fc (Or.inl ⟨mo_m12_copy, wd_1360, wd_1361, _, _, cf12, rfl, wd_1362⟩) fcn))
theorem ceL_78 : CEok RL 172 5 [(12, m12_coinsBy)] 4 := (CEok.k5 (fc (Or.inl ⟨mo_m12_coinsBy, wd_1364, wd_1365, _, _, cf12, rfl, wd_1366⟩) fcn))
theorem ceL_79 : CEok RL 176 5 [(12, m12_taken)] 2 := (CEok.k5 (fc (Or.inl ⟨mo_m12_taken, wd_1369, wd_1370, _, _, cf12, rfl, wd_1371⟩) fcn))
theorem neL_0 : NEok RL 7 11 := ⟨fun e => absurd e (by decide), fun _ => ⟨_, _, cf11, wd_22⟩⟩
theorem neL_1 : NEok RL 10 12 := ⟨fun e => absurd e (by decide), fun _ => ⟨_, _, cf12, wd_905⟩⟩
def kfL : List FE := []
def kcL : List CE := [(9, 2, [(0, m11_init)], 0, 92, 1261), (13, 5, [(11, m11_count)], 1, 0, 0), (18, 5, [(11, m11_feed)], 6, 0, 0), (23, 5, [(11, m11_text)], 0, 4, 356), (28, 5, [(11, m11_force)], 1, 0, 0), (32, 5, [(11, m11_asks)], 4, 0, 0), (37, 5, [(11, m11_sort)], 3, 1, 2), (42, 5, [(11, m11_told)], 2, 0, 0), (47, 5, [(11, m11_purse)], 0, 0, 0), (51, 5, [(11, m11_set)], 3, 0, 0), (55, 5, [(11, m11_of)], 2, 0, 0), (59, 5, [(11, m11_all)], 2, 0, 0), (63, 5, [(11, m11_often)], 3, 0, 0), (67, 5, [(11, m11_buy)], 2, 0, 0), (71, 5, [(11, m11_two)], 4, 0, 0), (75, 5, [(11, m11_price)], 1, 0, 0), (79, 5, [(11, m11_idle)], 2, 0, 0), (83, 5, [(11, m11_dearest)], 2, 0, 0), (87, 5, [(11, m11_swap)], 3, 0, 0), (91, 5, [(11, m11_best)], 4, 0, 0), (95, 5, [(11, m11_lacks)], 2, 0, 0), (99, 5, [(11, m11_thief)], 3, 0, 0), (103, 5, [(11, m11_rob)], 1, 0, 0), (107, 5, [(11, m11_wage)], 4, 0, 0), (111, 5, [(11, m11_strike)], 2, 0, 0), (115, 5, [(11, m11_pass)], 0, 0, 0), (119, 5, [(11, m11_judge)], 2, 0, 0), (123, 5, [(11, m11_whose)], 1, 0, 0), (127, 5, [(11, m11_was)], 2, 0, 0), (131, 5, [(11, m11_film)], 3, 0, 0), (135, 5, [(11, m11_laws)], 3, 0, 0), (139, 5, [(11, m11_drawn)], 2, 0, 0), (143, 5, [(11, m11_mean)], 4, 0, 0), (148, 5, [(11, m11_image)], 0, 0, 0), (152, 5, [(11, m11_back)], 0, 0, 0), (156, 5, [(11, m11_sheet)], 3, 0, 0), (160, 5, [(11, m11_cell)], 3, 0, 0), (164, 5, [(11, m11_copy)], 5, 0, 0), (169, 5, [(11, m11_coinsBy)], 4, 0, 0), (173, 5, [(11, m11_taken)], 2, 0, 0), (12, 2, [(0, m12_init)], 0, 22, 2224), (17, 5, [(12, m12_count)], 1, 0, 0), (22, 5, [(12, m12_feed)], 6, 0, 0), (27, 5, [(12, m12_text)], 0, 0, 0), (31, 5, [(12, m12_force)], 1, 0, 0), (36, 5, [(12, m12_asks)], 4, 0, 0), (41, 5, [(12, m12_sort)], 3, 0, 0), (46, 5, [(12, m12_told)], 2, 0, 0), (50, 5, [(12, m12_purse)], 0, 0, 0), (54, 5, [(12, m12_set)], 3, 0, 0), (58, 5, [(12, m12_of)], 2, 0, 0), (62, 5, [(12, m12_all)], 2, 0, 0), (66, 5, [(12, m12_often)], 3, 0, 0), (70, 5, [(12, m12_buy)], 2, 0, 0), (74, 5, [(12, m12_two_)], 4, 0, 0), (78, 5, [(12, m12_price)], 1, 0, 0), (82, 5, [(12, m12_idle)], 2, 0, 0), (86, 5, [(12, m12_dearest)], 2, 0, 0), (90, 5, [(12, m12_swap)], 3, 0, 0), (94, 5, [(12, m12_best)], 4, 0, 0), (98, 5, [(12, m12_lacks)], 2, 0, 0), (102, 5, [(12, m12_thief)], 3, 0, 0), (106, 5, [(12, m12_rob)], 1, 0, 0), (110, 5, [(12, m12_wage)], 4, 0, 0), (114, 5, [(12, m12_strike)], 2, 0, 0), (118, 5, [(12, m12_pass)], 0, 0, 0), (122, 5, [(12, m12_judge)], 2, 0, 0), (126, 5, [(12, m12_whose)], 1, 0, 0), (130, 5, [(12, m12_was)], 2, 0, 0), (134, 5, [(12, m12_film)], 3, 0, 0), (138, 5, [(12, m12_laws)], 3, 0, 0), (142, 5, [(12, m12_drawn)], 2, 0, 0), (147, 5, [(12, m12_mean)], 4, 0, 0), (151, 5, [(12, m12_image)], 0, 0, 0), (155, 5, [(12, m12_back)], 0, 0, 0), (159, 5, [(12, m12_sheet)], 3, 0, 0), (163, 5, [(12, m12_cell)], 3, 0, 0), (168, 5, [(12, m12_copy)], 5, 0, 0), (172, 5, [(12, m12_coinsBy)], 4, 0, 0), (176, 5, [(12, m12_taken)], 2, 0, 0)]
def knL : List (Nat × Nat) := [(7, 11), (10, 12)]
def klL : List (Nat × Value) := []
def ktL : KT := (kfL, kcL, knL, klL)
set_option maxRecDepth 50000 in
theorem kfL_ok : ∀ e ∈ kfL, FEok RL e.1 e.2.1 e.2.2.1 e.2.2.2 := fcn
set_option maxRecDepth 50000 in
theorem kcL_ok : ∀ e ∈ kcL, CEok RL e.1 e.2.1 e.2.2.1 e.2.2.2.1 := (fc (P := fun e : CE => CEok RL e.1 e.2.1 e.2.2.1 e.2.2.2.1) ceL_0 (fc (P := fun e : CE => CEok RL e.1 e.2.1 e.2.2.1 e.2.2.2.1) ceL_1 (fc (P := fun e : CE => CEok RL e.1 e.2.1 e.2.2.1 e.2.2.2.1) ceL_2 (fc (P := fun e : CE => CEok RL e.1 e.2.1 e.2.2.1 e.2.2.2.1) ceL_3 (fc (P := fun e : CE => CEok RL e.1 e.2.1 e.2.2.1 e.2.2.2.1) ceL_4 (fc (P := fun e : CE => CEok RL e.1 e.2.1 e.2.2.1 e.2.2.2.1) ceL_5 (fc (P := fun e : CE => CEok RL e.1 e.2.1 e.2.2.1 e.2.2.2.1) ceL_6 (fc (P := fun e : CE => CEok RL e.1 e.2.1 e.2.2.1 e.2.2.2.1) ceL_7 (fc (P := fun e : CE => CEok RL e.1 e.2.1 e.2.2.1 e.2.2.2.1) ceL_8 (fc (P := fun e : CE => CEok RL e.1 e.2.1 e.2.2.1 e.2.2.2.1) ceL_9 (fc (P := fun e : CE => CEok RL e.1 e.2.1 e.2.2.1 e.2.2.2.1) ceL_10 (fc (P := fun e : CE => CEok RL e.1 e.2.1 e.2.2.1 e.2.2.2.1) ceL_11 (fc (P := fun e : CE => CEok RL e.1 e.2.1 e.2.2.1 e.2.2.2.1) ceL_12 (fc (P := fun e : CE => CEok RL e.1 e.2.1 e.2.2.1 e.2.2.2.1) ceL_13 (fc (P := fun e : CE => CEok RL e.1 e.2.1 e.2.2.1 e.2.2.2.1) ceL_14 (fc (P := fun e : CE => CEok RL e.1 e.2.1 e.2.2.1 e.2.2.2.1) ceL_15 (fc (P := fun e : CE => CEok RL e.1 e.2.1 e.2.2.1 e.2.2.2.1) ceL_16 (fc (P := fun e : CE => CEok RL e.1 e.2.1 e.2.2.1 e.2.2.2.1) ceL_17 (fc (P := fun e : CE => CEok RL e.1 e.2.1 e.2.2.1 e.2.2.2.1) ceL_18 (fc (P := fun e : CE => CEok RL e.1 e.2.1 e.2.2.1 e.2.2.2.1) ceL_19 (fc (P := fun e : CE => CEok RL e.1 e.2.1 e.2.2.1 e.2.2.2.1) ceL_20 (fc (P := fun e : CE => CEok RL e.1 e.2.1 e.2.2.1 e.2.2.2.1) ceL_21 (fc (P := fun e : CE => CEok RL e.1 e.2.1 e.2.2.1 e.2.2.2.1) ceL_22 (fc (P := fun e : CE => CEok RL e.1 e.2.1 e.2.2.1 e.2.2.2.1) ceL_23 (fc (P := fun e : CE => CEok RL e.1 e.2.1 e.2.2.1 e.2.2.2.1) ceL_24 (fc (P := fun e : CE => CEok RL e.1 e.2.1 e.2.2.1 e.2.2.2.1) ceL_25 (fc (P := fun e : CE => CEok RL e.1 e.2.1 e.2.2.1 e.2.2.2.1) ceL_26 (fc (P := fun e : CE => CEok RL e.1 e.2.1 e.2.2.1 e.2.2.2.1) ceL_27 (fc (P := fun e : CE => CEok RL e.1 e.2.1 e.2.2.1 e.2.2.2.1) ceL_28 (fc (P := fun e : CE => CEok RL e.1 e.2.1 e.2.2.1 e.2.2.2.1) ceL_29 (fc (P := fun e : CE => CEok RL e.1 e.2.1 e.2.2.1 e.2.2.2.1) ceL_30 (fc (P := fun e : CE => CEok RL e.1 e.2.1 e.2.2.1 e.2.2.2.1) ceL_31 (fc (P := fun e : CE => CEok RL e.1 e.2.1 e.2.2.1 e.2.2.2.1) ceL_32 (fc (P := fun e : CE => CEok RL e.1 e.2.1 e.2.2.1 e.2.2.2.1) ceL_33 (fc (P := fun e : CE => CEok RL e.1 e.2.1 e.2.2.1 e.2.2.2.1) ceL_34 (fc (P := fun e : CE => CEok RL e.1 e.2.1 e.2.2.1 e.2.2.2.1) ceL_35 (fc (P := fun e : CE => CEok RL e.1 e.2.1 e.2.2.1 e.2.2.2.1) ceL_36 (fc (P := fun e : CE => CEok RL e.1 e.2.1 e.2.2.1 e.2.2.2.1) ceL_37 (fc (P := fun e : CE => CEok RL e.1 e.2.1 e.2.2.1 e.2.2.2.1) ceL_38 (fc (P := fun e : CE => CEok RL e.1 e.2.1 e.2.2.1 e.2.2.2.1) ceL_39 (fc (P := fun e : CE => CEok RL e.1 e.2.1 e.2.2.1 e.2.2.2.1) ceL_40 (fc (P := fun e : CE => CEok RL e.1 e.2.1 e.2.2.1 e.2.2.2.1) ceL_41 (fc (P := fun e : CE => CEok RL e.1 e.2.1 e.2.2.1 e.2.2.2.1) ceL_42 (fc (P := fun e : CE => CEok RL e.1 e.2.1 e.2.2.1 e.2.2.2.1) ceL_43 (fc (P := fun e : CE => CEok RL e.1 e.2.1 e.2.2.1 e.2.2.2.1) ceL_44 (fc (P := fun e : CE => CEok RL e.1 e.2.1 e.2.2.1 e.2.2.2.1) ceL_45 (fc (P := fun e : CE => CEok RL e.1 e.2.1 e.2.2.1 e.2.2.2.1) ceL_46 (fc (P := fun e : CE => CEok RL e.1 e.2.1 e.2.2.1 e.2.2.2.1) ceL_47 (fc (P := fun e : CE => CEok RL e.1 e.2.1 e.2.2.1 e.2.2.2.1) ceL_48 (fc (P := fun e : CE => CEok RL e.1 e.2.1 e.2.2.1 e.2.2.2.1) ceL_49 (fc (P := fun e : CE => CEok RL e.1 e.2.1 e.2.2.1 e.2.2.2.1) ceL_50 (fc (P := fun e : CE => CEok RL e.1 e.2.1 e.2.2.1 e.2.2.2.1) ceL_51 (fc (P := fun e : CE => CEok RL e.1 e.2.1 e.2.2.1 e.2.2.2.1) ceL_52 (fc (P := fun e : CE => CEok RL e.1 e.2.1 e.2.2.1 e.2.2.2.1) ceL_53 (fc (P := fun e : CE => CEok RL e.1 e.2.1 e.2.2.1 e.2.2.2.1) ceL_54 (fc (P := fun e : CE => CEok RL e.1 e.2.1 e.2.2.1 e.2.2.2.1) ceL_55 (fc (P := fun e : CE => CEok RL e.1 e.2.1 e.2.2.1 e.2.2.2.1) ceL_56 (fc (P := fun e : CE => CEok RL e.1 e.2.1 e.2.2.1 e.2.2.2.1) ceL_57 (fc (P := fun e : CE => CEok RL e.1 e.2.1 e.2.2.1 e.2.2.2.1) ceL_58 (fc (P := fun e : CE => CEok RL e.1 e.2.1 e.2.2.1 e.2.2.2.1) ceL_59 (fc (P := fun e : CE => CEok RL e.1 e.2.1 e.2.2.1 e.2.2.2.1) ceL_60 (fc (P := fun e : CE => CEok RL e.1 e.2.1 e.2.2.1 e.2.2.2.1) ceL_61 (fc (P := fun e : CE => CEok RL e.1 e.2.1 e.2.2.1 e.2.2.2.1) ceL_62 (fc (P := fun e : CE => CEok RL e.1 e.2.1 e.2.2.1 e.2.2.2.1) ceL_63 (fc (P := fun e : CE => CEok RL e.1 e.2.1 e.2.2.1 e.2.2.2.1) ceL_64 (fc (P := fun e : CE => CEok RL e.1 e.2.1 e.2.2.1 e.2.2.2.1) ceL_65 (fc (P := fun e : CE => CEok RL e.1 e.2.1 e.2.2.1 e.2.2.2.1) ceL_66 (fc (P := fun e : CE => CEok RL e.1 e.2.1 e.2.2.1 e.2.2.2.1) ceL_67 (fc (P := fun e : CE => CEok RL e.1 e.2.1 e.2.2.1 e.2.2.2.1) ceL_68 (fc (P := fun e : CE => CEok RL e.1 e.2.1 e.2.2.1 e.2.2.2.1) ceL_69 (fc (P := fun e : CE => CEok RL e.1 e.2.1 e.2.2.1 e.2.2.2.1) ceL_70 (fc (P := fun e : CE => CEok RL e.1 e.2.1 e.2.2.1 e.2.2.2.1) ceL_71 (fc (P := fun e : CE => CEok RL e.1 e.2.1 e.2.2.1 e.2.2.2.1) ceL_72 (fc (P := fun e : CE => CEok RL e.1 e.2.1 e.2.2.1 e.2.2.2.1) ceL_73 (fc (P := fun e : CE => CEok RL e.1 e.2.1 e.2.2.1 e.2.2.2.1) ceL_74 (fc (P := fun e : CE => CEok RL e.1 e.2.1 e.2.2.1 e.2.2.2.1) ceL_75 (fc (P := fun e : CE => CEok RL e.1 e.2.1 e.2.2.1 e.2.2.2.1) ceL_76 (fc (P := fun e : CE => CEok RL e.1 e.2.1 e.2.2.1 e.2.2.2.1) ceL_77 (fc (P := fun e : CE => CEok RL e.1 e.2.1 e.2.2.1 e.2.2.2.1) ceL_78 (fc (P := fun e : CE => CEok RL e.1 e.2.1 e.2.2.1 e.2.2.2.1) ceL_79 fcn))))))))))))))))))))))))))))))))))))))))))))))))))))))))))))))))))))))))))))))))
theorem knL_ok : ∀ e ∈ knL, NEok RL e.1 e.2 := (fc (P := fun e : Nat × Nat => NEok RL e.1 e.2) neL_0 (fc (P := fun e : Nat × Nat => NEok RL e.1 e.2) neL_1 fcn))
theorem ktL_ok {g : Gt} (hs : GS g) : KTok g RL ktL := ⟨kfL_ok, kcL_ok, knL_ok, fcn⟩
/-! the links of java/lang/String, by the tables -/
theorem feJ0_0 : FEok RJ0 38 2 [] 0 := ⟨fun _ => ⟨fun e => absurd e (by decide), fun e => absurd e (by decide), fun _ => wd_146, fun e => absurd e (by decide)⟩, fun _ h => absurd h List.not_mem_nil⟩
theorem feJ0_1 : FEok RJ0 1053 3 [] 0 := ⟨fun _ => ⟨fun e => absurd e (by decide), fun e => absurd e (by decide), fun e => absurd e (by decide), fun _ => wd_162⟩, fun _ h => absurd h List.not_mem_nil⟩
theorem feJ0_2 : FEok RJ0 9 0 [] 0 := ⟨fun _ => ⟨fun _ => wd_1389, fun e => absurd e (by decide), fun e => absurd e (by decide), fun e => absurd e (by decide)⟩, fun _ h => absurd h List.not_mem_nil⟩
theorem feJ0_3 : FEok RJ0 15 1 [] 0 := ⟨fun _ => ⟨fun e => absurd e (by decide), fun _ => wd_1390, fun e => absurd e (by decide), fun e => absurd e (by decide)⟩, fun _ h => absurd h List.not_mem_nil⟩
theorem ceJ0_0 : CEok RJ0 335 9 [(0, mJ0_coder_7d493)] 0 := (CEok.k9 (fc ⟨mo_mJ0_coder_7d493, wd_142, wd_143, wd_144⟩ fcn))
theorem ceJ0_1 : CEok RJ0 492 9 [(0, mJ0_isLatin1_aae02)] 0 := (CEok.k9 (fc ⟨mo_mJ0_isLatin1_aae02, wd_152, wd_153, wd_154⟩ fcn))
theorem ceJ0_2 : CEok RJ0 495 0 [(0, mJ1_charAt_3b067)] 2 := (CEok.k0 (fc ⟨mo_mJ1_charAt_3b067, wd_156, wd_157⟩ fcn))
theorem ceJ0_3 : CEok RJ0 1059 0 [(0, mJ3_checkIndex_8e157)] 3 := (CEok.k0 (fc ⟨mo_mJ3_checkIndex_8e157, wd_164, wd_165⟩ fcn))
theorem ceJ0_4 : CEok RJ0 633 9 [(0, mJ0_indexOf_7cf53)] 2 := (CEok.k9 (fc ⟨mo_mJ0_indexOf_7cf53, wd_229, wd_230, wd_231⟩ fcn))
theorem ceJ0_5 : CEok RJ0 505 9 [(0, mJ0_length_8abf5)] 0 := (CEok.k9 (fc ⟨mo_mJ0_length_8abf5, wd_233, wd_139, wd_140⟩ fcn))
theorem ceJ0_6 : CEok RJ0 637 0 [(0, mJ1_indexOf_4cfef)] 4 := (CEok.k0 (fc ⟨mo_mJ1_indexOf_4cfef, wd_234, wd_235⟩ fcn))
theorem ceJ0_7 : CEok RJ0 1062 0 [(0, mJ3_checkFromToIndex_8c36e)] 4 := (CEok.k0 (fc ⟨mo_mJ3_checkFromToIndex_8c36e, wd_264, wd_265⟩ fcn))
def kfJ0 : List FE := [(38, 2, [], 0), (1053, 3, [], 0), (9, 0, [], 0), (15, 1, [], 0)]
def kcJ0 : List CE := [(335, 9, [(0, mJ0_coder_7d493)], 0, 0, 0), (492, 9, [(0, mJ0_isLatin1_aae02)], 0, 0, 0), (495, 0, [(0, mJ1_charAt_3b067)], 2, 0, 0), (1059, 0, [(0, mJ3_checkIndex_8e157)], 3, 0, 0), (633, 9, [(0, mJ0_indexOf_7cf53)], 2, 0, 0), (505, 9, [(0, mJ0_length_8abf5)], 0, 0, 0), (637, 0, [(0, mJ1_indexOf_4cfef)], 4, 0, 0), (1062, 0, [(0, mJ3_checkFromToIndex_8c36e)], 4, 0, 0)]
def knJ0 : List (Nat × Nat) := []
def klJ0 : List (Nat × Value) := []
def ktJ0 : KT := (kfJ0, kcJ0, knJ0, klJ0)
set_option maxRecDepth 50000 in
theorem kfJ0_ok : ∀ e ∈ kfJ0, FEok RJ0 e.1 e.2.1 e.2.2.1 e.2.2.2 := (fc (P := fun e : FE => FEok RJ0 e.1 e.2.1 e.2.2.1 e.2.2.2) feJ0_0 (fc (P := fun e : FE => FEok RJ0 e.1 e.2.1 e.2.2.1 e.2.2.2) feJ0_1 (fc (P := fun e : FE => FEok RJ0 e.1 e.2.1 e.2.2.1 e.2.2.2) feJ0_2 (fc (P := fun e : FE => FEok RJ0 e.1 e.2.1 e.2.2.1 e.2.2.2) feJ0_3 fcn))))
set_option maxRecDepth 50000 in
theorem kcJ0_ok : ∀ e ∈ kcJ0, CEok RJ0 e.1 e.2.1 e.2.2.1 e.2.2.2.1 := (fc (P := fun e : CE => CEok RJ0 e.1 e.2.1 e.2.2.1 e.2.2.2.1) ceJ0_0 (fc (P := fun e : CE => CEok RJ0 e.1 e.2.1 e.2.2.1 e.2.2.2.1) ceJ0_1 (fc (P := fun e : CE => CEok RJ0 e.1 e.2.1 e.2.2.1 e.2.2.2.1) ceJ0_2 (fc (P := fun e : CE => CEok RJ0 e.1 e.2.1 e.2.2.1 e.2.2.2.1) ceJ0_3 (fc (P := fun e : CE => CEok RJ0 e.1 e.2.1 e.2.2.1 e.2.2.2.1) ceJ0_4 (fc (P := fun e : CE => CEok RJ0 e.1 e.2.1 e.2.2.1 e.2.2.2.1) ceJ0_5 (fc (P := fun e : CE => CEok RJ0 e.1 e.2.1 e.2.2.1 e.2.2.2.1) ceJ0_6 (fc (P := fun e : CE => CEok RJ0 e.1 e.2.1 e.2.2.1 e.2.2.2.1) ceJ0_7 fcn))))))))
theorem knJ0_ok : ∀ e ∈ knJ0, NEok RJ0 e.1 e.2 := fcn
theorem ktJ0_ok {g : Gt} (hs : GS g) : KTok g RJ0 ktJ0 := ⟨kfJ0_ok, kcJ0_ok, knJ0_ok, fcn⟩
/-! the links of java/lang/StringLatin1, by the tables -/
theorem ceJ1_0 : CEok RJ1 9 0 [(0, mJ0_checkIndex_df160)] 2 := (CEok.k0 (fc ⟨mo_mJ0_checkIndex_df160, wd_159, wd_160⟩ fcn))
theorem ceJ1_1 : CEok RJ1 88 0 [(0, mJ1_canEncode_9a6ad)] 1 := (CEok.k0 (fc ⟨mo_mJ1_canEncode_9a6ad, wd_237, wd_238⟩ fcn))
theorem ceJ1_2 : CEok RJ1 92 0 [(0, mJ9_max_7cf53)] 2 := (CEok.k0 (fc ⟨mo_mJ9_max_7cf53, wd_240, wd_241⟩ fcn))
theorem ceJ1_3 : CEok RJ1 38 0 [(0, mJ9_min_7cf53)] 2 := (CEok.k0 (fc ⟨mo_mJ9_min_7cf53, wd_243, wd_244⟩ fcn))
theorem ceJ1_4 : CEok RJ1 95 0 [(0, mJ1_indexOfChar_4cfef)] 4 := (CEok.k0 (fc ⟨mo_mJ1_indexOfChar_4cfef, wd_246, wd_247⟩ fcn))
def kfJ1 : List FE := []
def kcJ1 : List CE := [(9, 0, [(0, mJ0_checkIndex_df160)], 2, 0, 0), (88, 0, [(0, mJ1_canEncode_9a6ad)], 1, 0, 0), (92, 0, [(0, mJ9_max_7cf53)], 2, 0, 0), (38, 0, [(0, mJ9_min_7cf53)], 2, 0, 0), (95, 0, [(0, mJ1_indexOfChar_4cfef)], 4, 0, 0)]
def knJ1 : List (Nat × Nat) := []
def klJ1 : List (Nat × Value) := []
def ktJ1 : KT := (kfJ1, kcJ1, knJ1, klJ1)
set_option maxRecDepth 50000 in
theorem kfJ1_ok : ∀ e ∈ kfJ1, FEok RJ1 e.1 e.2.1 e.2.2.1 e.2.2.2 := fcn
set_option maxRecDepth 50000 in
theorem kcJ1_ok : ∀ e ∈ kcJ1, CEok RJ1 e.1 e.2.1 e.2.2.1 e.2.2.2.1 := (fc (P := fun e : CE => CEok RJ1 e.1 e.2.1 e.2.2.1 e.2.2.2.1) ceJ1_0 (fc (P := fun e : CE => CEok RJ1 e.1 e.2.1 e.2.2.1 e.2.2.2.1) ceJ1_1 (fc (P := fun e : CE => CEok RJ1 e.1 e.2.1 e.2.2.1 e.2.2.2.1) ceJ1_2 (fc (P := fun e : CE => CEok RJ1 e.1 e.2.1 e.2.2.1 e.2.2.2.1) ceJ1_3 (fc (P := fun e : CE => CEok RJ1 e.1 e.2.1 e.2.2.1 e.2.2.2.1) ceJ1_4 fcn)))))
theorem knJ1_ok : ∀ e ∈ knJ1, NEok RJ1 e.1 e.2 := fcn
theorem ktJ1_ok {g : Gt} (hs : GS g) : KTok g RJ1 ktJ1 := ⟨kfJ1_ok, kcJ1_ok, knJ1_ok, fcn⟩
/-! the links of jdk/internal/util/Preconditions, by the tables -/
def kfJ3 : List FE := []
def kcJ3 : List CE := []
def knJ3 : List (Nat × Nat) := []
def klJ3 : List (Nat × Value) := []
def ktJ3 : KT := (kfJ3, kcJ3, knJ3, klJ3)
set_option maxRecDepth 50000 in
theorem kfJ3_ok : ∀ e ∈ kfJ3, FEok RJ3 e.1 e.2.1 e.2.2.1 e.2.2.2 := fcn
set_option maxRecDepth 50000 in
theorem kcJ3_ok : ∀ e ∈ kcJ3, CEok RJ3 e.1 e.2.1 e.2.2.1 e.2.2.2.1 := fcn
theorem knJ3_ok : ∀ e ∈ knJ3, NEok RJ3 e.1 e.2 := fcn
theorem ktJ3_ok {g : Gt} (hs : GS g) : KTok g RJ3 ktJ3 := ⟨kfJ3_ok, kcJ3_ok, knJ3_ok, fcn⟩
/-! the links of java/util/Arrays, by the tables -/
theorem ceJ7_0 : CEok RJ7 316 8 [] 0 := (CEok.k8 ⟨wd_329, wd_330, wd_331, wd_332, wd_333⟩)
theorem ceJ7_1 : CEok RJ7 304 0 [(0, mJ9_min_7cf53)] 2 := (CEok.k0 (fc ⟨mo_mJ9_min_7cf53, wd_336, wd_244⟩ fcn))
theorem ceJ7_2 : CEok RJ7 150 7 [] 5 := (CEok.k7 ⟨wd_337, wd_339, wd_338, wd_14⟩)
theorem neJ7_0 : NEok RJ7 317 200 := ⟨fun _ => wd_335, fun e => absurd rfl e⟩
def kfJ7 : List FE := []
def kcJ7 : List CE := [(316, 8, [], 0, 0, 0), (304, 0, [(0, mJ9_min_7cf53)], 2, 0, 0), (150, 7, [], 5, 0, 0)]
def knJ7 : List (Nat × Nat) := [(317, 200)]
def klJ7 : List (Nat × Value) := []
def ktJ7 : KT := (kfJ7, kcJ7, knJ7, klJ7)
set_option maxRecDepth 50000 in
theorem kfJ7_ok : ∀ e ∈ kfJ7, FEok RJ7 e.1 e.2.1 e.2.2.1 e.2.2.2 := fcn
set_option maxRecDepth 50000 in
theorem kcJ7_ok : ∀ e ∈ kcJ7, CEok RJ7 e.1 e.2.1 e.2.2.1 e.2.2.2.1 := (fc (P := fun e : CE => CEok RJ7 e.1 e.2.1 e.2.2.1 e.2.2.2.1) ceJ7_0 (fc (P := fun e : CE => CEok RJ7 e.1 e.2.1 e.2.2.1 e.2.2.2.1) ceJ7_1 (fc (P := fun e : CE => CEok RJ7 e.1 e.2.1 e.2.2.1 e.2.2.2.1) ceJ7_2 fcn)))
theorem knJ7_ok : ∀ e ∈ knJ7, NEok RJ7 e.1 e.2 := (fc (P := fun e : Nat × Nat => NEok RJ7 e.1 e.2) neJ7_0 fcn)
theorem ktJ7_ok {g : Gt} (hs : GS g) : KTok g RJ7 ktJ7 := ⟨kfJ7_ok, kcJ7_ok, knJ7_ok, fcn⟩
