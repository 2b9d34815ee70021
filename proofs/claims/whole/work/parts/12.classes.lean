/-! the classes, by the tables -/
set_option maxRecDepth 20000 in
theorem cx0 : ∀ k, k < 2 → u_lay RX0 TX0 k ∈ gw_tbl := (lt_s (lt_s lt_0 (gw_mem (i := 500) (by decide +kernel) (by decide +kernel))) (gw_mem (i := 502) (by decide +kernel) (by decide +kernel)))
theorem cw0 : ∀ w ∈ u_ws RX0 TX0 2, w ∈ gw_tbl := fun w hw => by
  obtain ⟨k, hk, rfl⟩ := List.mem_map.mp hw
  exact cx0 k (List.mem_range.mp hk)
theorem cf0 : ClsF 0 RX0 TX0 := ⟨rfl, cw0, tyX0_ok, nmX0, by decide⟩
set_option maxRecDepth 20000 in
theorem cx1 : ∀ k, k < 2 → u_lay RX1 TX1 k ∈ gw_tbl := (lt_s (lt_s lt_0 (gw_mem (i := 529) (by decide +kernel) (by decide +kernel))) (gw_mem (i := 530) (by decide +kernel) (by decide +kernel)))
theorem cw1 : ∀ w ∈ u_ws RX1 TX1 2, w ∈ gw_tbl := fun w hw => by
  obtain ⟨k, hk, rfl⟩ := List.mem_map.mp hw
  exact cx1 k (List.mem_range.mp hk)
theorem cf1 : ClsF 1 RX1 TX1 := ⟨rfl, cw1, tyX1_ok, nmX1, by decide⟩
set_option maxRecDepth 20000 in
theorem cx2 : ∀ k, k < 6 → u_lay RX2 TX2 k ∈ gw_tbl := (lt_s (lt_s (lt_s (lt_s (lt_s (lt_s lt_0 (gw_mem (i := 106) (by decide +kernel) (by decide +kernel))) (gw_mem (i := 108) (by decide +kernel) (by decide +kernel))) (gw_mem (i := 110) (by decide +kernel) (by decide +kernel))) (gw_mem (i := 112) (by decide +kernel) (by decide +kernel))) (gw_mem (i := 114) (by decide +kernel) (by decide +kernel))) (gw_mem (i := 116) (by decide +kernel) (by decide +kernel)))
theorem cw2 : ∀ w ∈ u_ws RX2 TX2 6, w ∈ gw_tbl := fun w hw => by
  obtain ⟨k, hk, rfl⟩ := List.mem_map.mp hw
  exact cx2 k (List.mem_range.mp hk)
theorem cf2 : ClsF 2 RX2 TX2 := ⟨rfl, cw2, tyX2_ok, nmX2, by decide⟩
set_option maxRecDepth 20000 in
theorem cx3 : ∀ k, k < 2 → u_lay RX3 TX3 k ∈ gw_tbl := (lt_s (lt_s lt_0 (gw_mem (i := 538) (by decide +kernel) (by decide +kernel))) (gw_mem (i := 539) (by decide +kernel) (by decide +kernel)))
theorem cw3 : ∀ w ∈ u_ws RX3 TX3 2, w ∈ gw_tbl := fun w hw => by
  obtain ⟨k, hk, rfl⟩ := List.mem_map.mp hw
  exact cx3 k (List.mem_range.mp hk)
theorem cf3 : ClsF 3 RX3 TX3 := ⟨rfl, cw3, tyX3_ok, nmX3, by decide⟩
set_option maxRecDepth 20000 in
theorem cx4 : ∀ k, k < 3 → u_lay RX4 TX4 k ∈ gw_tbl := (lt_s (lt_s (lt_s lt_0 (gw_mem (i := 42) (by decide +kernel) (by decide +kernel))) (gw_mem (i := 44) (by decide +kernel) (by decide +kernel))) (gw_mem (i := 46) (by decide +kernel) (by decide +kernel)))
theorem cw4 : ∀ w ∈ u_ws RX4 TX4 3, w ∈ gw_tbl := fun w hw => by
  obtain ⟨k, hk, rfl⟩ := List.mem_map.mp hw
  exact cx4 k (List.mem_range.mp hk)
theorem cf4 : ClsF 4 RX4 TX4 := ⟨rfl, cw4, tyX4_ok, nmX4, by decide⟩
set_option maxRecDepth 20000 in
theorem cx5 : ∀ k, k < 10 → u_lay RX5 TX5 k ∈ gw_tbl := (lt_s (lt_s (lt_s (lt_s (lt_s (lt_s (lt_s (lt_s (lt_s (lt_s lt_0 (gw_mem (i := 70) (by decide +kernel) (by decide +kernel))) (gw_mem (i := 72) (by decide +kernel) (by decide +kernel))) (gw_mem (i := 74) (by decide +kernel) (by decide +kernel))) (gw_mem (i := 76) (by decide +kernel) (by decide +kernel))) (gw_mem (i := 78) (by decide +kernel) (by decide +kernel))) (gw_mem (i := 80) (by decide +kernel) (by decide +kernel))) (gw_mem (i := 82) (by decide +kernel) (by decide +kernel))) (gw_mem (i := 84) (by decide +kernel) (by decide +kernel))) (gw_mem (i := 86) (by decide +kernel) (by decide +kernel))) (gw_mem (i := 88) (by decide +kernel) (by decide +kernel)))
theorem cw5 : ∀ w ∈ u_ws RX5 TX5 10, w ∈ gw_tbl := fun w hw => by
  obtain ⟨k, hk, rfl⟩ := List.mem_map.mp hw
  exact cx5 k (List.mem_range.mp hk)
theorem cf5 : ClsF 5 RX5 TX5 := ⟨rfl, cw5, tyX5_ok, nmX5, by decide⟩
set_option maxRecDepth 20000 in
theorem cx6 : ∀ k, k < 2 → u_lay RX6 TX6 k ∈ gw_tbl := (lt_s (lt_s lt_0 (gw_mem (i := 511) (by decide +kernel) (by decide +kernel))) (gw_mem (i := 512) (by decide +kernel) (by decide +kernel)))
theorem cw6 : ∀ w ∈ u_ws RX6 TX6 2, w ∈ gw_tbl := fun w hw => by
  obtain ⟨k, hk, rfl⟩ := List.mem_map.mp hw
  exact cx6 k (List.mem_range.mp hk)
theorem cf6 : ClsF 6 RX6 TX6 := ⟨rfl, cw6, tyX6_ok, nmX6, by decide⟩
set_option maxRecDepth 20000 in
theorem cx7 : ∀ k, k < 3 → u_lay RX7 TX7 k ∈ gw_tbl := (lt_s (lt_s (lt_s lt_0 (gw_mem (i := 130) (by decide +kernel) (by decide +kernel))) (gw_mem (i := 132) (by decide +kernel) (by decide +kernel))) (gw_mem (i := 134) (by decide +kernel) (by decide +kernel)))
theorem cw7 : ∀ w ∈ u_ws RX7 TX7 3, w ∈ gw_tbl := fun w hw => by
  obtain ⟨k, hk, rfl⟩ := List.mem_map.mp hw
  exact cx7 k (List.mem_range.mp hk)
theorem cf7 : ClsF 7 RX7 TX7 := ⟨rfl, cw7, tyX7_ok, nmX7, by decide⟩
set_option maxRecDepth 20000 in
theorem cx8 : ∀ k, k < 2 → u_lay RX8 TX8 k ∈ gw_tbl := (lt_s (lt_s lt_0 (gw_mem (i := 543) (by decide +kernel) (by decide +kernel))) (gw_mem (i := 544) (by decide +kernel) (by decide +kernel)))
theorem cw8 : ∀ w ∈ u_ws RX8 TX8 2, w ∈ gw_tbl := fun w hw => by
  obtain ⟨k, hk, rfl⟩ := List.mem_map.mp hw
  exact cx8 k (List.mem_range.mp hk)
theorem cf8 : ClsF 8 RX8 TX8 := ⟨rfl, cw8, tyX8_ok, nmX8, by decide⟩
set_option maxRecDepth 20000 in
theorem cx9 : ∀ k, k < 2 → u_lay RX9 TX9 k ∈ gw_tbl := (lt_s (lt_s lt_0 (gw_mem (i := 520) (by decide +kernel) (by decide +kernel))) (gw_mem (i := 521) (by decide +kernel) (by decide +kernel)))
theorem cw9 : ∀ w ∈ u_ws RX9 TX9 2, w ∈ gw_tbl := fun w hw => by
  obtain ⟨k, hk, rfl⟩ := List.mem_map.mp hw
  exact cx9 k (List.mem_range.mp hk)
theorem cf9 : ClsF 9 RX9 TX9 := ⟨rfl, cw9, tyX9_ok, nmX9, by decide⟩
set_option maxRecDepth 20000 in
theorem cx10 : ∀ k, k < 4 → u_lay RX10 TX10 k ∈ gw_tbl := (lt_s (lt_s (lt_s (lt_s lt_0 (gw_mem (i := 348) (by decide +kernel) (by decide +kernel))) (gw_mem (i := 350) (by decide +kernel) (by decide +kernel))) (gw_mem (i := 352) (by decide +kernel) (by decide +kernel))) (gw_mem (i := 354) (by decide +kernel) (by decide +kernel)))
theorem cw10 : ∀ w ∈ u_ws RX10 TX10 4, w ∈ gw_tbl := fun w hw => by
  obtain ⟨k, hk, rfl⟩ := List.mem_map.mp hw
  exact cx10 k (List.mem_range.mp hk)
theorem cf10 : ClsF 10 RX10 TX10 := ⟨rfl, cw10, tyX10_ok, nmX10, by decide⟩
set_option maxRecDepth 20000 in
theorem cx11 : ∀ k, k < 15 → u_lay RX11 TX11 k ∈ gw_tbl := (lt_s (lt_s (lt_s (lt_s (lt_s (lt_s (lt_s (lt_s (lt_s (lt_s (lt_s (lt_s (lt_s (lt_s (lt_s lt_0 (gw_mem (i := 377) (by decide +kernel) (by decide +kernel))) (gw_mem (i := 379) (by decide +kernel) (by decide +kernel))) (gw_mem (i := 381) (by decide +kernel) (by decide +kernel))) (gw_mem (i := 383) (by decide +kernel) (by decide +kernel))) (gw_mem (i := 385) (by decide +kernel) (by decide +kernel))) (gw_mem (i := 387) (by decide +kernel) (by decide +kernel))) (gw_mem (i := 389) (by decide +kernel) (by decide +kernel))) (gw_mem (i := 391) (by decide +kernel) (by decide +kernel))) (gw_mem (i := 393) (by decide +kernel) (by decide +kernel))) (gw_mem (i := 395) (by decide +kernel) (by decide +kernel))) (gw_mem (i := 397) (by decide +kernel) (by decide +kernel))) (gw_mem (i := 399) (by decide +kernel) (by decide +kernel))) (gw_mem (i := 401) (by decide +kernel) (by decide +kernel))) (gw_mem (i := 403) (by decide +kernel) (by decide +kernel))) (gw_mem (i := 405) (by decide +kernel) (by decide +kernel)))
theorem cw11 : ∀ w ∈ u_ws RX11 TX11 15, w ∈ gw_tbl := fun w hw => by
  obtain ⟨k, hk, rfl⟩ := List.mem_map.mp hw
  exact cx11 k (List.mem_range.mp hk)
theorem cf11 : ClsF 11 RX11 TX11 := ⟨rfl, cw11, tyX11_ok, nmX11, by decide⟩
set_option maxRecDepth 20000 in
theorem cx12 : ∀ k, k < 40 → u_lay RX12 TX12 k ∈ gw_tbl := (lt_s (lt_s (lt_s (lt_s (lt_s (lt_s (lt_s (lt_s (lt_s (lt_s (lt_s (lt_s (lt_s (lt_s (lt_s (lt_s (lt_s (lt_s (lt_s (lt_s (lt_s (lt_s (lt_s (lt_s (lt_s (lt_s (lt_s (lt_s (lt_s (lt_s (lt_s (lt_s (lt_s (lt_s (lt_s (lt_s (lt_s (lt_s (lt_s (lt_s lt_0 (gw_mem (i := 998) (by decide +kernel) (by decide +kernel))) (gw_mem (i := 1000) (by decide +kernel) (by decide +kernel))) (gw_mem (i := 1002) (by decide +kernel) (by decide +kernel))) (gw_mem (i := 1004) (by decide +kernel) (by decide +kernel))) (gw_mem (i := 1006) (by decide +kernel) (by decide +kernel))) (gw_mem (i := 1008) (by decide +kernel) (by decide +kernel))) (gw_mem (i := 1010) (by decide +kernel) (by decide +kernel))) (gw_mem (i := 1012) (by decide +kernel) (by decide +kernel))) (gw_mem (i := 1014) (by decide +kernel) (by decide +kernel))) (gw_mem (i := 1016) (by decide +kernel) (by decide +kernel))) (gw_mem (i := 1018) (by decide +kernel) (by decide +kernel))) (gw_mem (i := 1020) (by decide +kernel) (by decide +kernel))) (gw_mem (i := 1022) (by decide +kernel) (by decide +kernel))) (gw_mem (i := 1024) (by decide +kernel) (by decide +kernel))) (gw_mem (i := 1026) (by decide +kernel) (by decide +kernel))) (gw_mem (i := 1028) (by decide +kernel) (by decide +kernel))) (gw_mem (i := 1030) (by decide +kernel) (by decide +kernel))) (gw_mem (i := 1032) (by decide +kernel) (by decide +kernel))) (gw_mem (i := 1034) (by decide +kernel) (by decide +kernel))) (gw_mem (i := 1036) (by decide +kernel) (by decide +kernel))) (gw_mem (i := 1038) (by decide +kernel) (by decide +kernel))) (gw_mem (i := 1040) (by decide +kernel) (by decide +kernel))) (gw_mem (i := 1042) (by decide +kernel) (by decide +kernel))) (gw_mem (i := 1044) (by decide +kernel) (by decide +kernel))) (gw_mem (i := 1046) (by decide +kernel) (by decide +kernel))) (gw_mem (i := 1048) (by decide +kernel) (by decide +kernel))) (gw_mem (i := 1050) (by decide +kernel) (by decide +kernel))) (gw_mem (i := 1052) (by decide +kernel) (by decide +kernel))) (gw_mem (i := 1054) (by decide +kernel) (by decide +kernel))) (gw_mem (i := 1056) (by decide +kernel) (by decide +kernel))) (gw_mem (i := 1058) (by decide +kernel) (by decide +kernel))) (gw_mem (i := 1060) (by decide +kernel) (by decide +kernel))) (gw_mem (i := 1062) (by decide +kernel) (by decide +kernel))) (gw_mem (i := 1064) (by decide +kernel) (by decide +kernel))) (gw_mem (i := 1066) (by decide +kernel) (by decide +kernel))) (gw_mem (i := 1068) (by decide +kernel) (by decide +kernel))) (gw_mem (i := 1070) (by decide +kernel) (by decide +kernel))) (gw_mem (i := 1072) (by decide +kernel) (by decide +kernel))) (gw_mem (i := 1074) (by decide +kernel) (by decide +kernel))) (gw_mem (i := 1076) (by decide +kernel) (by decide +kernel)))
theorem cw12 : ∀ w ∈ u_ws RX12 TX12 40, w ∈ gw_tbl := fun w hw => by
  obtain ⟨k, hk, rfl⟩ := List.mem_map.mp hw
  exact cx12 k (List.mem_range.mp hk)
theorem cf12 : ClsF 12 RX12 TX12 := ⟨rfl, cw12, tyX12_ok, nmX12, by decide⟩
theorem clsF_cases {c : Nat} {C : String} {T : u_T} (h : ClsF c C T) {P : Nat → String → u_T → Prop} (h0 : P 0 RX0 TX0) (h1 : P 1 RX1 TX1) (h2 : P 2 RX2 TX2) (h3 : P 3 RX3 TX3) (h4 : P 4 RX4 TX4) (h5 : P 5 RX5 TX5) (h6 : P 6 RX6 TX6) (h7 : P 7 RX7 TX7) (h8 : P 8 RX8 TX8) (h9 : P 9 RX9 TX9) (h10 : P 10 RX10 TX10) (h11 : P 11 RX11 TX11) (h12 : P 12 RX12 TX12) : P c C T := by
  have hc := h.2.2.2.2
  have hc2 : c = 0 ∨ c = 1 ∨ c = 2 ∨ c = 3 ∨ c = 4 ∨ c = 5 ∨ c = 6 ∨ c = 7 ∨ c = 8 ∨ c = 9 ∨ c = 10 ∨ c = 11 ∨ c = 12 := by omega
  rcases hc2 with rfl | rfl | rfl | rfl | rfl | rfl | rfl | rfl | rfl | rfl | rfl | rfl | rfl
  · obtain ⟨e1, e2⟩ := h.uniq cf0; rw [e1, e2]; exact h0
  · obtain ⟨e1, e2⟩ := h.uniq cf1; rw [e1, e2]; exact h1
  · obtain ⟨e1, e2⟩ := h.uniq cf2; rw [e1, e2]; exact h2
  · obtain ⟨e1, e2⟩ := h.uniq cf3; rw [e1, e2]; exact h3
  · obtain ⟨e1, e2⟩ := h.uniq cf4; rw [e1, e2]; exact h4
  · obtain ⟨e1, e2⟩ := h.uniq cf5; rw [e1, e2]; exact h5
  · obtain ⟨e1, e2⟩ := h.uniq cf6; rw [e1, e2]; exact h6
  · obtain ⟨e1, e2⟩ := h.uniq cf7; rw [e1, e2]; exact h7
  · obtain ⟨e1, e2⟩ := h.uniq cf8; rw [e1, e2]; exact h8
  · obtain ⟨e1, e2⟩ := h.uniq cf9; rw [e1, e2]; exact h9
  · obtain ⟨e1, e2⟩ := h.uniq cf10; rw [e1, e2]; exact h10
  · obtain ⟨e1, e2⟩ := h.uniq cf11; rw [e1, e2]; exact h11
  · obtain ⟨e1, e2⟩ := h.uniq cf12; rw [e1, e2]; exact h12
theorem allok1 : ∀ c C T, ClsF c C T → Cond.instantiable C (clN c) ∈ gw_tbl ∧ Cond.initialized C ∈ gw_tbl ∧ DefOK c := fun c C T h => clsF_cases h (P := fun c C _ => Cond.instantiable C (clN c) ∈ gw_tbl ∧ Cond.initialized C ∈ gw_tbl ∧ DefOK c) ⟨gw_mem (i := 482) (by decide +kernel) (by decide +kernel), gw_mem (i := 17) (by decide +kernel) (by decide +kernel), by unfold DefOK; decide +kernel⟩ ⟨gw_mem (i := 524) (by decide +kernel) (by decide +kernel), gw_mem (i := 20) (by decide +kernel) (by decide +kernel), by unfold DefOK; decide +kernel⟩ ⟨gw_mem (i := 92) (by decide +kernel) (by decide +kernel), gw_mem (i := 4) (by decide +kernel) (by decide +kernel), by unfold DefOK; decide +kernel⟩ ⟨gw_mem (i := 533) (by decide +kernel) (by decide +kernel), gw_mem (i := 21) (by decide +kernel) (by decide +kernel), by unfold DefOK; decide +kernel⟩ ⟨gw_mem (i := 34) (by decide +kernel) (by decide +kernel), gw_mem (i := 2) (by decide +kernel) (by decide +kernel), by unfold DefOK; decide +kernel⟩ ⟨gw_mem (i := 55) (by decide +kernel) (by decide +kernel), gw_mem (i := 3) (by decide +kernel) (by decide +kernel), by unfold DefOK; decide +kernel⟩ ⟨gw_mem (i := 506) (by decide +kernel) (by decide +kernel), gw_mem (i := 18) (by decide +kernel) (by decide +kernel), by unfold DefOK; decide +kernel⟩ ⟨gw_mem (i := 119) (by decide +kernel) (by decide +kernel), gw_mem (i := 5) (by decide +kernel) (by decide +kernel), by unfold DefOK; decide +kernel⟩ ⟨gw_mem (i := 541) (by decide +kernel) (by decide +kernel), gw_mem (i := 16) (by decide +kernel) (by decide +kernel), by unfold DefOK; decide +kernel⟩ ⟨gw_mem (i := 515) (by decide +kernel) (by decide +kernel), gw_mem (i := 19) (by decide +kernel) (by decide +kernel), by unfold DefOK; decide +kernel⟩ ⟨gw_mem (i := 325) (by decide +kernel) (by decide +kernel), gw_mem (i := 12) (by decide +kernel) (by decide +kernel), by unfold DefOK; decide +kernel⟩ ⟨gw_mem (i := 23) (by decide +kernel) (by decide +kernel), gw_mem (i := 1) (by decide +kernel) (by decide +kernel), by unfold DefOK; decide +kernel⟩ ⟨gw_mem (i := 906) (by decide +kernel) (by decide +kernel), gw_mem (i := 15) (by decide +kernel) (by decide +kernel), by unfold DefOK; decide +kernel⟩
theorem allok3 : ∀ c t, stoB c t = true → StoOK c t ∧ ∃ ce C T, ClsF ce C T ∧ C = tyR t := by
  intro c t h
  unfold stoB at h
  rw [Bool.or_eq_true, Bool.or_eq_true, Bool.or_eq_true, Bool.and_eq_true, Bool.and_eq_true, Bool.and_eq_true, Bool.and_eq_true] at h
  rcases h with ⟨h1, h2⟩ | ⟨h1, h2⟩ | ⟨h1, h2⟩ | ⟨h1, h2⟩
  · have e := Nat.eq_of_beq_eq_true h1; subst e
    have hm := tagB_mem h2
    refine ⟨?_, 8, RX8, TX8, cf8, rfl⟩
    have hc : c = 8 ∨ c = 0 ∨ c = 6 ∨ c = 9 ∨ c = 1 ∨ c = 3 := by simpa using hm
    rcases hc with rfl | rfl | rfl | rfl | rfl | rfl
    · exact ⟨RX8, TX8, cf8, Or.inl rfl⟩
    · exact ⟨RX0, TX0, cf0, Or.inr (by decide +kernel)⟩
    · exact ⟨RX6, TX6, cf6, Or.inr (by decide +kernel)⟩
    · exact ⟨RX9, TX9, cf9, Or.inr (by decide +kernel)⟩
    · exact ⟨RX1, TX1, cf1, Or.inr (by decide +kernel)⟩
    · exact ⟨RX3, TX3, cf3, Or.inr (by decide +kernel)⟩
  · have e := Nat.eq_of_beq_eq_true h1; have e2 := Nat.eq_of_beq_eq_true h2; subst e; subst e2; exact ⟨⟨RX4, TX4, cf4, Or.inl rfl⟩, 4, RX4, TX4, cf4, rfl⟩
  · have e := Nat.eq_of_beq_eq_true h1; have e2 := Nat.eq_of_beq_eq_true h2; subst e; subst e2; exact ⟨⟨RX10, TX10, cf10, Or.inl rfl⟩, 10, RX10, TX10, cf10, rfl⟩
  · have e := Nat.eq_of_beq_eq_true h1; have e2 := Nat.eq_of_beq_eq_true h2; subst e; subst e2; exact ⟨⟨RX7, TX7, cf7, Or.inl rfl⟩, 7, RX7, TX7, cf7, rfl⟩
theorem allok5 : ∀ c C T, ClsF c C T → tyR (anwT c) = C ∨ ¬ (c = 8 ∨ c = 4 ∨ c = 10 ∨ c = 7) := fun c C T h => clsF_cases h (P := fun c C _ => tyR (anwT c) = C ∨ ¬ (c = 8 ∨ c = 4 ∨ c = 10 ∨ c = 7)) (Or.inr (by decide)) (Or.inr (by decide)) (Or.inr (by decide)) (Or.inr (by decide)) (Or.inl rfl) (Or.inr (by decide)) (Or.inr (by decide)) (Or.inl rfl) (Or.inl rfl) (Or.inr (by decide)) (Or.inl rfl) (Or.inr (by decide)) (Or.inr (by decide))
theorem ak6_0 : ∀ t, (tagB (insY 0) t = true → ∃ C T, ClsF t C T ∧ (C = RX0 ∨ (C, RX0) ∈ CaL)) ∧ (tagB (insY 0) t = false → tagB [8, 0, 6, 9, 1, 3] t = true → ∃ C T, ClsF t C T ∧ ((C, RX0) ∈ NcL ∨ ¬ (0 = 0 ∨ 0 = 6 ∨ 0 = 9 ∨ 0 = 1 ∨ 0 = 3))) := (fun t => ⟨fun h => by
    have hm := tagB_mem h
    have hc : t = 0 ∨ t = 9 := by simpa [insY] using hm
    rcases hc with rfl | rfl
    · exact ⟨RX0, TX0, cf0, Or.inl rfl⟩
    · exact ⟨RX9, TX9, cf9, Or.inr (by decide +kernel)⟩
    , fun h1 h2 => by
    have hm := tagB_mem h2
    have hc : t = 8 ∨ t = 0 ∨ t = 6 ∨ t = 9 ∨ t = 1 ∨ t = 3 := by simpa using hm
    rcases hc with rfl | rfl | rfl | rfl | rfl | rfl
    · exact ⟨RX8, TX8, cf8, Or.inl (by decide +kernel)⟩
    · exact absurd h1 (by decide)
    · exact ⟨RX6, TX6, cf6, Or.inl (by decide +kernel)⟩
    · exact absurd h1 (by decide)
    · exact ⟨RX1, TX1, cf1, Or.inl (by decide +kernel)⟩
    · exact ⟨RX3, TX3, cf3, Or.inl (by decide +kernel)⟩
    ⟩)
theorem ak6_6 : ∀ t, (tagB (insY 6) t = true → ∃ C T, ClsF t C T ∧ (C = RX6 ∨ (C, RX6) ∈ CaL)) ∧ (tagB (insY 6) t = false → tagB [8, 0, 6, 9, 1, 3] t = true → ∃ C T, ClsF t C T ∧ ((C, RX6) ∈ NcL ∨ ¬ (6 = 0 ∨ 6 = 6 ∨ 6 = 9 ∨ 6 = 1 ∨ 6 = 3))) := (fun t => ⟨fun h => by
    have hm := tagB_mem h
    have hc : t = 6 ∨ t = 1 := by simpa [insY] using hm
    rcases hc with rfl | rfl
    · exact ⟨RX6, TX6, cf6, Or.inl rfl⟩
    · exact ⟨RX1, TX1, cf1, Or.inr (by decide +kernel)⟩
    , fun h1 h2 => by
    have hm := tagB_mem h2
    have hc : t = 8 ∨ t = 0 ∨ t = 6 ∨ t = 9 ∨ t = 1 ∨ t = 3 := by simpa using hm
    rcases hc with rfl | rfl | rfl | rfl | rfl | rfl
    · exact ⟨RX8, TX8, cf8, Or.inl (by decide +kernel)⟩
    · exact ⟨RX0, TX0, cf0, Or.inl (by decide +kernel)⟩
    · exact absurd h1 (by decide)
    · exact ⟨RX9, TX9, cf9, Or.inl (by decide +kernel)⟩
    · exact absurd h1 (by decide)
    · exact ⟨RX3, TX3, cf3, Or.inl (by decide +kernel)⟩
    ⟩)
theorem ak6_9 : ∀ t, (tagB (insY 9) t = true → ∃ C T, ClsF t C T ∧ (C = RX9 ∨ (C, RX9) ∈ CaL)) ∧ (tagB (insY 9) t = false → tagB [8, 0, 6, 9, 1, 3] t = true → ∃ C T, ClsF t C T ∧ ((C, RX9) ∈ NcL ∨ ¬ (9 = 0 ∨ 9 = 6 ∨ 9 = 9 ∨ 9 = 1 ∨ 9 = 3))) := (fun t => ⟨fun h => by
    have hm := tagB_mem h
    have hc : t = 9 := by simpa [insY] using hm
    subst hc
    · exact ⟨RX9, TX9, cf9, Or.inl rfl⟩
    , fun h1 h2 => by
    have hm := tagB_mem h2
    have hc : t = 8 ∨ t = 0 ∨ t = 6 ∨ t = 9 ∨ t = 1 ∨ t = 3 := by simpa using hm
    rcases hc with rfl | rfl | rfl | rfl | rfl | rfl
    · exact ⟨RX8, TX8, cf8, Or.inl (by decide +kernel)⟩
    · exact ⟨RX0, TX0, cf0, Or.inl (by decide +kernel)⟩
    · exact ⟨RX6, TX6, cf6, Or.inl (by decide +kernel)⟩
    · exact absurd h1 (by decide)
    · exact ⟨RX1, TX1, cf1, Or.inl (by decide +kernel)⟩
    · exact ⟨RX3, TX3, cf3, Or.inl (by decide +kernel)⟩
    ⟩)
theorem ak6_1 : ∀ t, (tagB (insY 1) t = true → ∃ C T, ClsF t C T ∧ (C = RX1 ∨ (C, RX1) ∈ CaL)) ∧ (tagB (insY 1) t = false → tagB [8, 0, 6, 9, 1, 3] t = true → ∃ C T, ClsF t C T ∧ ((C, RX1) ∈ NcL ∨ ¬ (1 = 0 ∨ 1 = 6 ∨ 1 = 9 ∨ 1 = 1 ∨ 1 = 3))) := (fun t => ⟨fun h => by
    have hm := tagB_mem h
    have hc : t = 1 := by simpa [insY] using hm
    subst hc
    · exact ⟨RX1, TX1, cf1, Or.inl rfl⟩
    , fun h1 h2 => by
    have hm := tagB_mem h2
    have hc : t = 8 ∨ t = 0 ∨ t = 6 ∨ t = 9 ∨ t = 1 ∨ t = 3 := by simpa using hm
    rcases hc with rfl | rfl | rfl | rfl | rfl | rfl
    · exact ⟨RX8, TX8, cf8, Or.inl (by decide +kernel)⟩
    · exact ⟨RX0, TX0, cf0, Or.inl (by decide +kernel)⟩
    · exact ⟨RX6, TX6, cf6, Or.inl (by decide +kernel)⟩
    · exact ⟨RX9, TX9, cf9, Or.inl (by decide +kernel)⟩
    · exact absurd h1 (by decide)
    · exact ⟨RX3, TX3, cf3, Or.inl (by decide +kernel)⟩
    ⟩)
theorem ak6_3 : ∀ t, (tagB (insY 3) t = true → ∃ C T, ClsF t C T ∧ (C = RX3 ∨ (C, RX3) ∈ CaL)) ∧ (tagB (insY 3) t = false → tagB [8, 0, 6, 9, 1, 3] t = true → ∃ C T, ClsF t C T ∧ ((C, RX3) ∈ NcL ∨ ¬ (3 = 0 ∨ 3 = 6 ∨ 3 = 9 ∨ 3 = 1 ∨ 3 = 3))) := (fun t => ⟨fun h => by
    have hm := tagB_mem h
    have hc : t = 3 := by simpa [insY] using hm
    subst hc
    · exact ⟨RX3, TX3, cf3, Or.inl rfl⟩
    , fun h1 h2 => by
    have hm := tagB_mem h2
    have hc : t = 8 ∨ t = 0 ∨ t = 6 ∨ t = 9 ∨ t = 1 ∨ t = 3 := by simpa using hm
    rcases hc with rfl | rfl | rfl | rfl | rfl | rfl
    · exact ⟨RX8, TX8, cf8, Or.inl (by decide +kernel)⟩
    · exact ⟨RX0, TX0, cf0, Or.inl (by decide +kernel)⟩
    · exact ⟨RX6, TX6, cf6, Or.inl (by decide +kernel)⟩
    · exact ⟨RX9, TX9, cf9, Or.inl (by decide +kernel)⟩
    · exact ⟨RX1, TX1, cf1, Or.inl (by decide +kernel)⟩
    · exact absurd h1 (by decide)
    ⟩)
/-- what the tables say of the classes at large (the walker asks the last part of the five alone that an instanceof names) -/
theorem allok : AllOK := ⟨allok1, allok3, gw_mem (i := 49) (by decide +kernel) (by decide +kernel), allok5, fun c nm T h hc => by
  rcases hc with rfl | rfl | rfl | rfl | rfl
  · obtain ⟨e1, -⟩ := h.uniq cf0; rw [e1]; exact ak6_0
  · obtain ⟨e1, -⟩ := h.uniq cf6; rw [e1]; exact ak6_6
  · obtain ⟨e1, -⟩ := h.uniq cf9; rw [e1]; exact ak6_9
  · obtain ⟨e1, -⟩ := h.uniq cf1; rw [e1]; exact ak6_1
  · obtain ⟨e1, -⟩ := h.uniq cf3; rw [e1]; exact ak6_3⟩
