/-! what holds outside our cells: the script, the three String constants, two statics, casts that fail; and its instructions, at WPc -/
def sx0 : String := "worth price * 2 ; fee 1 ; wage 1 ;"
def sx1 : String := "();+-*<="
def sx2 : String := "worth fee   wage  or    and   not   told  many  more  year  numberprice "
def slen : List Nat := [34, 8, 72]
def sbyt : List (List Int32) := [[119, 111, 114, 116, 104, 32, 112, 114, 105, 99, 101, 32, 42, 32, 50, 32, 59, 32, 102, 101, 101, 32, 49, 32, 59, 32, 119, 97, 103, 101, 32, 49, 32, 59], [40, 41, 59, 43, 45, 42, 60, 61], [119, 111, 114, 116, 104, 32, 102, 101, 101, 32, 32, 32, 119, 97, 103, 101, 32, 32, 111, 114, 32, 32, 32, 32, 97, 110, 100, 32, 32, 32, 110, 111, 116, 32, 32, 32, 116, 111, 108, 100, 32, 32, 109, 97, 110, 121, 32, 32, 109, 111, 114, 101, 32, 32, 121, 101, 97, 114, 32, 32, 110, 117, 109, 98, 101, 114, 112, 114, 105, 99, 101, 32]]
def NcL : List (String × String) := [("UnlikeCoins$Sort", "UnlikeCoins$Common"), ("UnlikeCoins$Sort", "UnlikeCoins$Scarce"), ("UnlikeCoins$Sort", "UnlikeCoins$Stamped"), ("UnlikeCoins$Sort", "UnlikeCoins$Gilt"), ("UnlikeCoins$Sort", "UnlikeCoins$Melting"), ("UnlikeCoins$Common", "UnlikeCoins$Scarce"), ("UnlikeCoins$Common", "UnlikeCoins$Stamped"), ("UnlikeCoins$Common", "UnlikeCoins$Gilt"), ("UnlikeCoins$Common", "UnlikeCoins$Melting"), ("UnlikeCoins$Scarce", "UnlikeCoins$Common"), ("UnlikeCoins$Scarce", "UnlikeCoins$Stamped"), ("UnlikeCoins$Scarce", "UnlikeCoins$Gilt"), ("UnlikeCoins$Scarce", "UnlikeCoins$Melting"), ("UnlikeCoins$Stamped", "UnlikeCoins$Scarce"), ("UnlikeCoins$Stamped", "UnlikeCoins$Gilt"), ("UnlikeCoins$Stamped", "UnlikeCoins$Melting"), ("UnlikeCoins$Gilt", "UnlikeCoins$Common"), ("UnlikeCoins$Gilt", "UnlikeCoins$Stamped"), ("UnlikeCoins$Gilt", "UnlikeCoins$Melting"), ("UnlikeCoins$Melting", "UnlikeCoins$Common"), ("UnlikeCoins$Melting", "UnlikeCoins$Scarce"), ("UnlikeCoins$Melting", "UnlikeCoins$Stamped"), ("UnlikeCoins$Melting", "UnlikeCoins$Gilt")]
def GS (g : Gt) : Prop := (ad g 0 < g0 g ∧ GC g) ∧ (∀ i, i < 3 → gL g (i + 4) = slen.getD i 0 ∧ ∀ j, j < slen.getD i 0 → gxs g (i + 4) j = (sbyt.getD i []).getD j 0) ∧ (∀ (s : State) (H : Heap), gX g s H → va_X (ad g 0) (gL g 0) (gxs g 0) s H ∧ vk_S 3 slen sbyt (fun i => ad g (i + 1)) (fun i => ad g (i + 4)) (Fa g) s H ∧ (vk_R RX11 63 sx0 (ad g 1) s ∧ vk_R RX5 106 sx1 (ad g 2) s ∧ vk_R RX5 117 sx2 (ad g 3) s) ∧ va_Z "java/lang/String" "COMPACT_STRINGS" "Z" (.int 1) (Fa g) s H ∧ ∀ q ∈ NcL, va_Nc q.1 q.2 s) ∧ ((∀ (s : State) (H : Heap), gX g s H → va_Z "jdk/internal/util/Preconditions" "SIOOBE_FORMATTER" "Ljava/util/function/BiFunction;" .null (Fa g) s H) ∨ (∀ (s : State) (H : Heap), gX g s H → va_Z "jdk/internal/util/Preconditions" "SIOOBE_FORMATTER" "Ljava/util/function/BiFunction;" (.ref (ad g 7)) (Fa g) s H))
theorem gXs {g : Gt} {s : State} {H : Heap} {locs : List Loc} (hG : GX g) (hX : gX g s H) (hS : va_S (Fa g) s.heap H locs) (hg : g0 g ≤ s.heap.size) : gX g s s.heap := hG.2 s H s.heap (Nat.le_trans hg hS.1) (fun q hq => (hS.2.1 q (Nat.lt_of_lt_of_le hq hg) (Nat.not_le.mpr hq)).symm) hX
section RULES7
variable {g : Gt} {y : Mth} {d rc rs pc : Nat} {lv : List (Nat × Value)} {st : List Value} {z : Zs} {I : Is} {Q : Option Value → Zs → Is → Prop}
theorem not_Fa {g : Gt} {b : Nat} (h : b < g0 g) : ¬ Fa g b := Nat.not_le.mpr h
theorem r_sald {i : Int32} (hs : GS g) (hd : decode y.2.1 pc = .ok (.iaload, 1)) (hi : inB i (zL z 0) = true) (k : WPc g y d rc rs (pc + 1) lv (.int (I 0 i.toNatClampNeg) :: st) z I Q) : WPc g y d rc rs pc lv (.int i :: .ref 0 :: st) z I Q := by
  intro p l e R s m args below meth c H locs cells slots ls C h1 h2 h3 h4 hX hW hS hg hl
  have hG := C.2.2.2.2.2.2.2.2.2
  obtain ⟨-, e1, e2⟩ := hW.2.2.2.2.2 0 (by omega)
  have hk := k p l e R s m args below meth c H locs cells slots ls C h1 h2 h3 h4 hX hW hS hg hl
  rw [e2] at hk
  rw [e1] at hi
  exact va_sld C.1 C.2.1 ((hs.2.2.1 s s.heap (gXs hG hX hS hg)).1) (Nat.lt_of_lt_of_le hs.1.1 hg) (not_Fa hs.1.1) hS (inB_vp hi) hd hk
theorem r_salen (hs : GS g) (hd : decode y.2.1 pc = .ok (.arraylength, 1)) (k : WPc g y d rc rs (pc + 1) lv (.int (Int32.ofNat (zL z 0)) :: st) z I Q) : WPc g y d rc rs pc lv (.ref 0 :: st) z I Q := by
  intro p l e R s m args below meth c H locs cells slots ls C h1 h2 h3 h4 hX hW hS hg hl
  have hG := C.2.2.2.2.2.2.2.2.2
  obtain ⟨-, e1, e2⟩ := hW.2.2.2.2.2 0 (by omega)
  have hk := k p l e R s m args below meth c H locs cells slots ls C h1 h2 h3 h4 hX hW hS hg hl
  rw [e1] at hk
  exact va_slen C.1 C.2.1 ((hs.2.2.1 s s.heap (gXs hG hX hS hg)).1) (Nat.lt_of_lt_of_le hs.1.1 hg) (not_Fa hs.1.1) hS hd hk
theorem r_bald {a : Nat} {i : Int32} (hs : GS g) (ha : a < 3) (hd : decode y.2.1 pc = .ok (.baload, 1)) (hi : inB i (zL z (a + 4)) = true) (k : WPc g y d rc rs (pc + 1) lv (.int (I (a + 4) i.toNatClampNeg) :: st) z I Q) : WPc g y d rc rs pc lv (.int i :: .ref (a + 4) :: st) z I Q := by
  intro p l e R s m args below meth c H locs cells slots ls C h1 h2 h3 h4 hX hW hS hg hl
  have hG := C.2.2.2.2.2.2.2.2.2
  obtain ⟨-, e1, e2⟩ := hW.2.2.2.2.2 (a + 4) (by omega)
  obtain ⟨f1, f2⟩ := hs.2.1 a ha
  have hk := k p l e R s m args below meth c H locs cells slots ls C h1 h2 h3 h4 hX hW hS hg hl
  rw [e1, f1] at hi
  have hin := inB_vp hi
  have hlt : i.toNatClampNeg < slen.getD a 0 := Nat.not_le.mp fun q => hin (Or.inr q)
  rw [e2, f2 _ hlt] at hk
  exact va_tb C.1 C.2.1 (((hs.2.2.1 s s.heap (gXs hG hX hS hg)).2.1).1 a ha).2.2.2 hS hin rfl hd hk
theorem r_balen {a : Nat} (hs : GS g) (ha : a < 3) (hd : decode y.2.1 pc = .ok (.arraylength, 1)) (k : WPc g y d rc rs (pc + 1) lv (.int (Int32.ofNat (zL z (a + 4))) :: st) z I Q) : WPc g y d rc rs pc lv (.ref (a + 4) :: st) z I Q := by
  intro p l e R s m args below meth c H locs cells slots ls C h1 h2 h3 h4 hX hW hS hg hl
  have hG := C.2.2.2.2.2.2.2.2.2
  obtain ⟨-, e1, e2⟩ := hW.2.2.2.2.2 (a + 4) (by omega)
  obtain ⟨f1, f2⟩ := hs.2.1 a ha
  have hk := k p l e R s m args below meth c H locs cells slots ls C h1 h2 h3 h4 hX hW hS hg hl
  rw [e1, f1] at hk
  exact va_tlen C.1 C.2.1 (((hs.2.2.1 s s.heap (gXs hG hX hS hg)).2.1).1 a ha).2.2.2 hS rfl hd hk
theorem r_sval {a idx : Nat} (hs : GS g) (ha : a < 3) (hd : decode y.2.1 pc = .ok (.getfield idx, 3)) (hl0 : Cond.fieldLink y.1.cls idx "java/lang/String" "value" "[B" ∈ gw_tbl) (k : WPc g y d rc rs (pc + 3) lv (.ref (a + 4) :: st) z I Q) : WPc g y d rc rs pc lv (.ref (a + 1) :: st) z I Q := by
  intro p l e R s m args below meth c H locs cells slots ls C h1 h2 h3 h4 hX hW hS hg hl
  have hG := C.2.2.2.2.2.2.2.2.2
  exact vk_getf C.1 C.2.1 (((hs.2.2.1 s s.heap (gXs hG hX hS hg)).2.1).1 a ha).2.2.1 hS C.2.2.2.2.1 (C.2.2.2.2.2.1 _ hl0) (fun _ h => h) hd (k p l e R s m args below meth c H locs cells slots ls C h1 h2 h3 h4 hX hW hS hg hl)
theorem r_scod {a idx : Nat} (hs : GS g) (ha : a < 3) (hd : decode y.2.1 pc = .ok (.getfield idx, 3)) (hl0 : Cond.fieldLink y.1.cls idx "java/lang/String" "coder" "B" ∈ gw_tbl) (k : WPc g y d rc rs (pc + 3) lv (.int 0 :: st) z I Q) : WPc g y d rc rs pc lv (.ref (a + 1) :: st) z I Q := by
  intro p l e R s m args below meth c H locs cells slots ls C h1 h2 h3 h4 hX hW hS hg hl
  have hG := C.2.2.2.2.2.2.2.2.2
  exact vk_getf C.1 C.2.1 (((hs.2.2.1 s s.heap (gXs hG hX hS hg)).2.1).1 a ha).2.1 hS C.2.2.2.2.1 (C.2.2.2.2.2.1 _ hl0) (fun _ h => h) hd (k p l e R s m args below meth c H locs cells slots ls C h1 h2 h3 h4 hX hW hS hg hl)
theorem r_gcs {idx : Nat} (hs : GS g) (hd : decode y.2.1 pc = .ok (.getstatic idx, 3)) (hl0 : Cond.fieldLink y.1.cls idx "java/lang/String" "COMPACT_STRINGS" "Z" ∈ gw_tbl) (k : WPc g y d rc rs (pc + 3) lv (.int 1 :: st) z I Q) : WPc g y d rc rs pc lv st z I Q := by
  intro p l e R s m args below meth c H locs cells slots ls C h1 h2 h3 h4 hX hW hS hg hl
  have hG := C.2.2.2.2.2.2.2.2.2
  exact va_gets C.1 C.2.1 (hs.2.2.1 s s.heap (gXs hG hX hS hg)).2.2.2.1 hS C.2.2.2.2.1 (C.2.2.2.2.2.1 _ hl0) (fun _ h => h) hd (k p l e R s m args below meth c H locs cells slots ls C h1 h2 h3 h4 hX hW hS hg hl)
theorem r_gfm {idx : Nat} (hs : GS g) (hd : decode y.2.1 pc = .ok (.getstatic idx, 3)) (hl0 : Cond.fieldLink y.1.cls idx "jdk/internal/util/Preconditions" "SIOOBE_FORMATTER" "Ljava/util/function/BiFunction;" ∈ gw_tbl) (k : WPc g y d rc rs (pc + 3) lv (.null :: st) z I Q) (k2 : WPc g y d rc rs (pc + 3) lv (.ref 7 :: st) z I Q) : WPc g y d rc rs pc lv st z I Q := by
  intro p l e R s m args below meth c H locs cells slots ls C h1 h2 h3 h4 hX hW hS hg hl
  have hG := C.2.2.2.2.2.2.2.2.2
  rcases hs.2.2.2 with h | h
  · exact va_gets C.1 C.2.1 (h s s.heap (gXs hG hX hS hg)) hS C.2.2.2.2.1 (C.2.2.2.2.2.1 _ hl0) (fun _ h => h) hd (k p l e R s m args below meth c H locs cells slots ls C h1 h2 h3 h4 hX hW hS hg hl)
  · exact va_gets C.1 C.2.1 (h s s.heap (gXs hG hX hS hg)) hS C.2.2.2.2.1 (C.2.2.2.2.2.1 _ hl0) (fun _ h => h) hd (k2 p l e R s m args below meth c H locs cells slots ls C h1 h2 h3 h4 hX hW hS hg hl)
theorem r_ldcS {idx a : Nat} {tx : String} (hs : ∀ (s : State) (H : Heap), gX g s H → vk_R y.1.cls idx tx (ad g a) s) (hd : decode y.2.1 pc = .ok (.ldc idx, 2)) (k : WPc g y d rc rs (pc + 2) lv (.ref a :: st) z I Q) : WPc g y d rc rs pc lv st z I Q := by
  intro p l e R s m args below meth c H locs cells slots ls C h1 h2 h3 h4 hX hW hS hg hl
  exact va_ldcS C.1 C.2.1 C.2.2.2.2.1 (hs s H hX) hd (k p l e R s m args below meth c H locs cells slots ls C h1 h2 h3 h4 hX hW hS hg hl)
def CalW (own : String) (idx : Nat) (y' : Mth) (n : Nat) : Prop := MthOK y' n ∧ Cond.methodLink own idx y'.1 ∈ gw_tbl ∧ Cond.instanceMethod y'.1 ∈ gw_tbl ∧ Cond.selects "java/lang/String" y'.1 y'.1 ∈ gw_tbl
/-- a virtual call on a String constant -/
theorem r_callW {idx n mc ms rc' rs' a : Nat} {y' : Mth} (hs : GS g) (ha : a < 3) (As : List Value) (hd : decode y.2.1 pc = .ok (.invokevirtual idx, 3)) (hc : CalW y.1.cls idx y' n) (hn : As.length = n) (hcat : (st.map (fun v => v.category)).sum ≤ 8) (hmc : mc + rc' ≤ rc) (hms : ms + rs' ≤ rs) (hM : WPm g y' d mc ms (.ref (a + 1) :: As) z I (fun v z' I' => WPc g y (d + 1) rc' rs' (pc + 3) lv (v.toList ++ st) z' I' Q)) : WPc g y (d + 1) rc rs pc lv (As.reverse ++ .ref (a + 1) :: st) z I Q := by
  intro p l e R s m args below meth c H locs cells slots ls C h1 h2 h3 h4 hX hW hS hg hl
  obtain ⟨hm, hlink, hinst, hsel⟩ := hc
  have hts := C.2.2.2.2.2.1
  have hG := C.2.2.2.2.2.2.2.2.2
  have hrec := vk_recv (hs.2.2.1 s s.heap (gXs hG hX hS hg)).2.1 ha hS
  exact runK (va_runV (C := "java/lang/String") (As := As.map (lf g)) (b := ad g (a + 1)) (n := n) (cfix C) (hM l) ⟨callB hm C h1 h2 hlink, hts _ hinst, hts _ hsel⟩ ⟨pm_blind, hrec, pm_at (As := .ref (a + 1) :: As) C hX hW⟩ rfl (by rw [List.length_map]; exact hn) hl.1 (stk As (.ref (a + 1) :: st)) (room_map hcat) hd ⟨by omega, by omega⟩) C h1 h2 h3 h4 hmc hms hX hS hg hl (fun v z' I' q => q)
end RULES7
