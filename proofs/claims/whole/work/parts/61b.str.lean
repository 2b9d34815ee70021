/-! the String methods over the three String constants -/
def SpO (g : Gt) (z : Zs) (I : Is) : Prop := ∀ k, k < 8 → zT z k = sT k ∧ zL z k = gL g k ∧ I k = gxs g k
theorem WPc.sp {g : Gt} {y : Mth} {d rc rs pc : Nat} {lv : List (Nat × Value)} {st : List Value} {z : Zs} {I : Is} {Q : Option Value → Zs → Is → Prop} (h : SpO g z I → WPc g y d rc rs pc lv st z I Q) : WPc g y d rc rs pc lv st z I Q :=
  fun p l e R s m args below meth c H locs cells slots ls C h1 h2 h3 h4 hX hW => h hW.2.2.2.2.2 p l e R s m args below meth c H locs cells slots ls C h1 h2 h3 h4 hX hW
def fxC : List Nat := [119, 111, 114, 116, 104, 32, 112, 114, 105, 99, 101, 32, 42, 32, 50, 32, 59, 32, 102, 101, 101, 32, 49, 32, 59, 32, 119, 97, 103, 101, 32, 49, 32, 59]
section STR
variable {g : Gt} {d : Nat} {z : Zs} {I : Is}
theorem SpO.len (h : SpO g z I) (hs : GS g) {i : Nat} (hi : i < 3) : zL z (i + 4) = slen.getD i 0 := by rw [(h (i + 4) (by omega)).2.1]; exact (hs.2.1 i hi).1
theorem SpO.byt (h : SpO g z I) (hs : GS g) {i j : Nat} (hi : i < 3) (hj : j < slen.getD i 0) : I (i + 4) j = (sbyt.getD i []).getD j 0 := by rw [(h (i + 4) (by omega)).2.2]; exact (hs.2.1 i hi).2 j hj
theorem SpO.cg {J : Is} (h : SpO g z I) (e : ∀ k, k < 8 → J k = I k) : SpO g z J := fun k hk => by rw [e k hk]; exact h k hk
theorem al4 {b : Nat} (h : 4 ≤ b) (h2 : b ≤ 6) (t : Nat) : (iarB z b || (rngB t || (Nat.ble 4 b && Nat.ble b 6))) = true := by
  rw [Nat.ble_eq.mpr h, Nat.ble_eq.mpr h2]; simp
theorem wr_b : ∀ i, i < 72 → (sbyt.getD 2 []).getD i 0 = iN (wrC.getD i 0) := by decide +kernel
theorem wr_c : ∀ i, i < 72 → wrC.getD i 0 < 256 := by decide +kernel
theorem ch_b : ∀ c, c < 256 → ((iN c &&& iN 255).toUInt32 % 65536).toInt32 = iN c := by decide +kernel
theorem ch_n : ∀ c, c < 256 → narB .char (iN c) = true := by decide +kernel
theorem ch_x : ∀ c, c < 256 → ((iN c).toUInt32 % 65536).toInt32 = iN c := by decide +kernel
theorem c_jci {i n : Nat} {K : Is → Prop} (hs : GS g) (hi : i < n) (hn : n ≤ 1000) (hK : K I) : Wv g mJ0_checkIndex_df160 (d + 1) [.int (iN i), .int (iN n)] z I K := by
  have a : ¬ iN i < iN 0 := fun q => absurd ((iN_lt (by omega) (by omega)).mp q) (by omega)
  have b : iN i < iN n := (iN_lt (by omega) (by omega)).mpr hi
  exact vJ0_checkIndex_df160 hs ⟨vnJ3_checkIndex_8e157 hs ⟨fun q => absurd q a, fun _ => ⟨fun _ => hK, fun q => absurd b q⟩⟩, vJ3_checkIndex_8e157 hs ⟨fun q => absurd q a, fun _ => ⟨fun _ => hK, fun q => absurd b q⟩⟩⟩
theorem c_charAt3 {i : Nat} {K : Int32 → Is → Prop} (hs : GS g) (h : SpO g z I) (hi : i < 72) (hK : K (iN (wrC.getD i 0)) I) : Wi g mJ0_charAt_5068e (d + 3) [.ref 3, .int (iN i)] z I K := by
  have hl : zL z 6 = 72 := h.len hs (i := 2) (by omega)
  have hb : I 6 i = iN (wrC.getD i 0) := by rw [← wr_b i hi]; exact h.byt hs (i := 2) (by omega) hi
  have hc := wr_c i hi
  refine v3J0_charAt_5068e hs (v3J0_isLatin1_aae02 hs ⟨fun q => absurd q (by decide), fun _ => v6J1_charAt_3b067 hs ⟨al4 (by omega) (by omega) _, ?_⟩⟩)
  rw [hl]
  refine c_jci hs hi (by omega) ⟨inB_n hi (by omega), ?_⟩
  rw [iN_toN (by omega), hb, ch_b _ hc]
  exact ⟨ch_n _ hc, ch_n _ hc, hK⟩
theorem fx_b : ∀ i, i < 34 → (sbyt.getD 0 []).getD i 0 = iN (fxC.getD i 0) := by decide +kernel
theorem fx_c : ∀ i, i < 34 → fxC.getD i 0 < 256 := by decide +kernel
theorem c_charAt1 {i : Nat} {K : Int32 → Is → Prop} (hs : GS g) (h : SpO g z I) (hi : i < 34) (hK : K (iN (fxC.getD i 0)) I) : Wi g mJ0_charAt_5068e (d + 3) [.ref 1, .int (iN i)] z I K := by
  have hl : zL z 4 = 34 := h.len hs (i := 0) (by omega)
  have hb : I 4 i = iN (fxC.getD i 0) := by rw [← fx_b i hi]; exact h.byt hs (i := 0) (by omega) hi
  have hc := fx_c i hi
  refine v1J0_charAt_5068e hs (v1J0_isLatin1_aae02 hs ⟨fun q => absurd q (by decide), fun _ => v4J1_charAt_3b067 hs ⟨al4 (by omega) (by omega) _, ?_⟩⟩)
  rw [hl]
  refine c_jci hs hi (by omega) ⟨inB_n hi (by omega), ?_⟩
  rw [iN_toN (by omega), hb, ch_b _ hc]
  exact ⟨ch_n _ hc, ch_n _ hc, hK⟩
theorem c_length1 {K : Int32 → Is → Prop} (hs : GS g) (h : SpO g z I) (hK : K (iN 34) I) : Wi g mJ0_length_8abf5 (d + 1) [.ref 1] z I K := by
  have hl : zL z 4 = 34 := h.len hs (i := 0) (by omega)
  refine v1J0_length_8abf5 hs ⟨al4 (by omega) (by omega) _, v1J0_coder_7d493 hs ⟨rfl, ?_⟩⟩
  rw [hl]; exact hK
theorem c_length2 {K : Int32 → Is → Prop} (hs : GS g) (h : SpO g z I) (hK : K (iN 8) I) : Wi g mJ0_length_8abf5 (d + 1) [.ref 2] z I K := by
  have hl : zL z 5 = 8 := h.len hs (i := 1) (by omega)
  refine v2J0_length_8abf5 hs ⟨al4 (by omega) (by omega) _, v2J0_coder_7d493 hs ⟨rfl, ?_⟩⟩
  rw [hl]; exact hK
theorem sg_j : ∀ c, c < 256 → ∀ j, j < 8 → ((sbyt.getD 1 []).getD j 0 = (iN c).toInt8.toInt32 ↔ sgC c = 12 + j) := by decide +kernel
theorem sgC_v (c : Nat) : (12 ≤ sgC c ∧ sgC c ≤ 19) ∨ sgC c = 22 := by unfold sgC; repeat (first | split | omega)
theorem ioc_l {c : Nat} {K : Int32 → Is → Prop} (hs : GS g) (h : SpO g z I) (hc : c < 256) (h1 : ∀ j, j < 8 → sgC c = 12 + j → K (iN j) I) (h2 : sgC c = 22 → K (iM 1) I) : ∀ (n j : Nat), j + n = 8 → (∀ i, i < j → sgC c ≠ 12 + i) → WPc g mJ1_indexOfChar_4cfef d 0 0 7 [(0, .ref 5), (3, .int (iN 8)), (4, .int (iN c).toInt8.toInt32), (5, .int (iN j))] [] z I (Qi z K)
  | 0, j, e, hn => by
    refine v5J1_indexOfChar_4cfef_7 hs ⟨fun _ => h2 ?_, fun q => absurd ((iN_le (by omega) (by omega)).mpr (by omega)) q⟩
    rcases sgC_v c with q | q
    · exact absurd (show sgC c = 12 + (sgC c - 12) by omega) (hn (sgC c - 12) (by omega))
    · exact q
  | n + 1, j, e, hn => by
    have hl : zL z 5 = 8 := h.len hs (i := 1) (by omega)
    have hb : I 5 j = (sbyt.getD 1 []).getD j 0 := h.byt hs (i := 1) (by omega) (show j < 8 by omega)
    refine v5J1_indexOfChar_4cfef_7 hs ⟨fun q => absurd ((iN_le (by omega) (by omega)).mp q) (by omega), fun _ => ⟨by rw [hl]; exact inB_n (by omega) (by omega), ?_⟩⟩
    rw [iN_toN (by omega), hb, sg_j c hc j (by omega), iN_add]
    exact ⟨fun q => h1 j (by omega) q, fun q => ioc_l hs h hc h1 h2 n (j + 1) (by omega) (fun i hi => by
      rcases Nat.lt_or_ge i j with a | a
      · exact hn i a
      · rw [show i = j by omega]; exact q)⟩
theorem c_indexOf {c : Nat} {K : Int32 → Is → Prop} (hs : GS g) (h : SpO g z I) (hc : c < 256) (h1 : ∀ j, j < 8 → sgC c = 12 + j → K (iN j) I) (h2 : sgC c = 22 → K (iM 1) I) : Wi g mJ0_indexOf_0f7a4 (d + 3) [.ref 2, .int (iN c)] z I K := by
  have hl : zL z 5 = 8 := h.len hs (i := 1) (by omega)
  refine v2J0_indexOf_0f7a4 hs (v2J0_indexOf_7cf53 hs (v2J0_isLatin1_aae02 hs ⟨fun q => absurd q (by decide), fun _ => c_length2 hs h (v5J1_indexOf_4cfef hs (vJ1_canEncode_9a6ad hs ⟨fun q => absurd ((iN_lt (by omega) (by omega)).mp q) (by omega), fun _ => ⟨fun q => absurd ((iN_lt (by omega) (by omega)).mp q) (by omega), fun _ => ⟨fun q => absurd q (by decide), fun _ => ⟨al4 (by omega) (by omega) _, ?_⟩⟩⟩⟩))⟩))
  rw [hl, show mxI (iN 0) (iN 0) = iN 0 from rfl, show mnI (iN 8) (Int32.ofNat 8) = iN 8 from rfl]
  exact ⟨fun _ => v5J1_indexOfChar_4cfef hs (ioc_l hs h hc h1 h2 8 0 rfl (fun i hi => absurd hi (by omega))), fun q => absurd (by decide) q⟩
end STR
