/-! the law: every turn -/
section LW
variable {g : Gt} {d : Nat} {z : Zs} {I : Is} {S : AS}
theorem Pair.go {mc mm : Mth} {args : List Value} (P : Pair g S mc mm args) (hz : Sh z) (c : CI z I S) (m : MI I S) {F : Int32 → Is → Prop} (hF : ∀ (x : Int32) (J : Is), (∀ (G : Int32 → Is → Prop), (∀ J1 S', OKS S' → CI z J1 S' → MI J1 S' → G x J1) → Wi g mm (d + 80) (.ref 101 :: args) z J G) → F x J) : Wi g mc (d + 80) (.ref 8 :: args) z I F := by
  obtain ⟨ans, S', o, h1, h2⟩ := P
  exact h1 (d + 60) z I F hz c (fun J cJ km => hF ans J (fun G hG => h2 (d + 60) z J G hz (m.km km) (fun J1 m1 kc => hG J1 S' o (cJ.kc hz kc) m1)))
theorem Pair40.go {mc mm : Mth} {args : List Value} (P : Pair40 g S mc mm args) (hz : Sh z) (c : CI z I S) (m : MI I S) {F : Int32 → Is → Prop} (hF : ∀ (x : Int32) (J : Is), (∀ (G : Int32 → Is → Prop), (∀ J1 S', OKS S' → CI z J1 S' → MI J1 S' → G x J1) → Wi g mm (d + 80) (.ref 101 :: args) z J G) → F x J) : Wi g mc (d + 80) (.ref 8 :: args) z I F := by
  obtain ⟨ans, S', o, h1, h2⟩ := P
  exact h1 (d + 40) z I F hz c (fun J cJ km => hF ans J (fun G hG => h2 (d + 40) z J G hz (m.km km) (fun J1 m1 kc => hG J1 S' o (cJ.kc hz kc) m1)))
theorem PairL.go {mc mm : Mth} {args : List Value} (P : PairL g S mc mm args) (hz : Sh z) (c : CI z I S) (m : MI I S) {F : Int64 → Is → Prop} (hF : ∀ (x : Int64) (J : Is), (∀ (G : Int64 → Is → Prop), (∀ J1 S', OKS S' → CI z J1 S' → MI J1 S' → G x J1) → Wl g mm (d + 80) (.ref 101 :: args) z J G) → F x J) : Wl g mc (d + 80) (.ref 8 :: args) z I F := by
  obtain ⟨ans, S', o, h1, h2⟩ := P
  exact h1 (d + 40) z I F hz c (fun J cJ km => hF ans J (fun G hG => h2 (d + 40) z J G hz (m.km km) (fun J1 m1 kc => hG J1 S' o (cJ.kc hz kc) m1)))
theorem PairG.go {mc mm : Mth} {args : List Value} {cc cs : Nat} (P : PairG g S mc mm args cc cs) (hz : Sh z) (zt : ZtO z) (c : CI z I S) (m : MI I S) {F : Int32 → Zs → Is → Prop} (hF : ∀ (x : Int32) (z' : Zs) (J : Is), Sh z' → (∀ (G : Int32 → Is → Prop), (∀ J1 S', OKS S' → CI z' J1 S' → MI J1 S' → G x J1) → Wi g mm (d + 80) (.ref 101 :: args) z' J G) → F x z' J) : WPi g mc (d + 80) cc cs (.ref 8 :: args) z I F := by
  obtain ⟨ans, S1, h1, h2⟩ := P
  exact h1 d z I F hz zt c (fun z' J hz' cJ km => hF ans z' J hz' (fun G hG => h2 d z' J G hz' (m.km km) (fun J1 S2 o2 e m1 kc => hG J1 S2 o2 ((cJ.kc hz' kc).eqv e) m1)))
theorem iar0 (z : Zs) : iarB z 0 = true := by unfold iarB; simp
theorem al0 (z : Zs) (t : Nat) : (iarB z 0 || (rngB t || (Nat.ble 4 0 && Nat.ble 0 6))) = true := by rw [iar0]; rfl
theorem lcmp0 (x : Int64) : lg_cmp x x = iN 0 := by
  unfold lg_cmp
  simp
  rfl
/-- the next turn may begin, in whatever state -/
def Lp (g : Gt) (d rc rs i : Nat) (K : Int32 → Zs → Is → Prop) : Prop := ∀ (z : Zs) (I : Is) (S : AS), Sh z → OKS S → CI z I S → MI I S → WPc g mL (d + 80 + 1) rc rs 18 [(0, .ref 0), (1, .ref 8), (2, .ref 101), (3, .int (iN i + iN 7))] [] z I (Zi K)
theorem ibk {i Ln : Nat} {z : Zs} (hl : zL z 0 = Ln) (hi : i + 7 ≤ Ln) (h35 : Ln ≤ 3584) (k : Nat) (hk : k ≤ 6) : inB (iN i + iN k) (zL z 0) = true := by
  rw [hl, iN_add]; exact inB_n (by omega) (by omega)
theorem lc_0 {rc rs i Ln : Nat} {K : Int32 → Zs → Is → Prop} (hs : GS g) (hz : Sh z) (zt : ZtO z) (sp : SpO g z I) (o : OKS S) (c : CI z I S) (m : MI I S) (hl : gL g 0 = Ln) (hi : i + 7 ≤ Ln) (h35 : Ln ≤ 3584) (lp : Lp g d rc rs i K) : Wi g m11_count (d + 80) [.ref 8, .int (I 0 ((iN i + iN 1).toNatClampNeg))] z I (fun x J => WPc g mL (d + 80 + 1) (rc + 4) (rs + 356) 213 [(0, .ref 0), (1, .ref 8), (2, .ref 101), (3, .int (iN i))] [.int x] z J (Zi K)) := by
  refine (P_count hs o (I 0 ((iN i + iN 1).toNatClampNeg))).go hz c m (fun x J hx => WPc.sz (fun sJ _ => ?_))
  have sl2 : zL z 0 = Ln := by rw [(sJ 0 (by omega)).2.1]; exact hl
  have e0 : I 0 = J 0 := by rw [(sp 0 (by omega)).2.2, (sJ 0 (by omega)).2.2]
  rw [e0] at hx
  exact vL_213 hs ⟨iar0 _, ibk sl2 hi h35 1 (by omega), by rw [hz.t 101 rfl]; rfl, hx _ (fun J1 S' o' c' m' => ⟨fun _ => (lp z J1 S' hz o' c' m').room (by omega) (by omega), fun q => absurd rfl q⟩)⟩
theorem lc_1 {rc rs i Ln : Nat} {K : Int32 → Zs → Is → Prop} (hs : GS g) (hz : Sh z) (zt : ZtO z) (sp : SpO g z I) (o : OKS S) (c : CI z I S) (m : MI I S) (hl : gL g 0 = Ln) (hi : i + 7 ≤ Ln) (h35 : Ln ≤ 3584) (lp : Lp g d rc rs i K) : Wi g m11_feed (d + 80) [.ref 8, .int (I 0 ((iN i + iN 1).toNatClampNeg)), .int (I 0 ((iN i + iN 2).toNatClampNeg)), .int (I 0 ((iN i + iN 3).toNatClampNeg)), .int (I 0 ((iN i + iN 4).toNatClampNeg)), .int (I 0 ((iN i + iN 5).toNatClampNeg)), .int (I 0 ((iN i + iN 6).toNatClampNeg))] z I (fun x J => WPc g mL (d + 80 + 1) (rc + 4) (rs + 356) 262 [(0, .ref 0), (1, .ref 8), (2, .ref 101), (3, .int (iN i))] [.int x] z J (Zi K)) := by
  refine (P_feed hs o (I 0 ((iN i + iN 1).toNatClampNeg)) (I 0 ((iN i + iN 2).toNatClampNeg)) (I 0 ((iN i + iN 3).toNatClampNeg)) (I 0 ((iN i + iN 4).toNatClampNeg)) (I 0 ((iN i + iN 5).toNatClampNeg)) (I 0 ((iN i + iN 6).toNatClampNeg))).go hz c m (fun x J hx => WPc.sz (fun sJ _ => ?_))
  have sl2 : zL z 0 = Ln := by rw [(sJ 0 (by omega)).2.1]; exact hl
  have e0 : I 0 = J 0 := by rw [(sp 0 (by omega)).2.2, (sJ 0 (by omega)).2.2]
  rw [e0] at hx
  exact vL_262 hs ⟨iar0 _, ibk sl2 hi h35 1 (by omega), iar0 _, ibk sl2 hi h35 2 (by omega), iar0 _, ibk sl2 hi h35 3 (by omega), iar0 _, ibk sl2 hi h35 4 (by omega), iar0 _, ibk sl2 hi h35 5 (by omega), iar0 _, ibk sl2 hi h35 6 (by omega), by rw [hz.t 101 rfl]; rfl, hx _ (fun J1 S' o' c' m' => ⟨fun _ => (lp z J1 S' hz o' c' m').room (by omega) (by omega), fun q => absurd rfl q⟩)⟩
theorem lc_2 {rc rs i Ln : Nat} {K : Int32 → Zs → Is → Prop} (hs : GS g) (hz : Sh z) (zt : ZtO z) (sp : SpO g z I) (o : OKS S) (c : CI z I S) (m : MI I S) (hl : gL g 0 = Ln) (hi : i + 7 ≤ Ln) (h35 : Ln ≤ 3584) (lp : Lp g d rc rs i K) : WPi g m11_text (d + 80) 4 356 [.ref 8] z I (fun x z' J => WPc g mL (d + 80 + 1) rc rs 306 [(0, .ref 0), (1, .ref 8), (2, .ref 101), (3, .int (iN i))] [.int x] z' J (Zi K)) := by
  refine (P_text hs o).go hz zt c m (fun x z' J hz' hx => WPc.sz (fun sJ _ => ?_))
  have sl2 : zL z' 0 = Ln := by rw [(sJ 0 (by omega)).2.1]; exact hl
  have e0 : I 0 = J 0 := by rw [(sp 0 (by omega)).2.2, (sJ 0 (by omega)).2.2]
  exact vL_306 hs ⟨by rw [hz'.t 101 rfl]; rfl, hx _ (fun J1 S' o' c' m' => ⟨fun _ => (lp z' J1 S' hz' o' c' m').room (by omega) (by omega), fun q => absurd rfl q⟩)⟩
theorem lc_3 {rc rs i Ln : Nat} {K : Int32 → Zs → Is → Prop} (hs : GS g) (hz : Sh z) (zt : ZtO z) (sp : SpO g z I) (o : OKS S) (c : CI z I S) (m : MI I S) (hl : gL g 0 = Ln) (hi : i + 7 ≤ Ln) (h35 : Ln ≤ 3584) (lp : Lp g d rc rs i K) : Wi g m11_force (d + 80) [.ref 8, .int (I 0 ((iN i + iN 1).toNatClampNeg))] z I (fun x J => WPc g mL (d + 80 + 1) (rc + 4) (rs + 356) 324 [(0, .ref 0), (1, .ref 8), (2, .ref 101), (3, .int (iN i))] [.int x] z J (Zi K)) := by
  refine (P_force hs o (I 0 ((iN i + iN 1).toNatClampNeg))).go hz c m (fun x J hx => WPc.sz (fun sJ _ => ?_))
  have sl2 : zL z 0 = Ln := by rw [(sJ 0 (by omega)).2.1]; exact hl
  have e0 : I 0 = J 0 := by rw [(sp 0 (by omega)).2.2, (sJ 0 (by omega)).2.2]
  rw [e0] at hx
  exact vL_324 hs ⟨iar0 _, ibk sl2 hi h35 1 (by omega), by rw [hz.t 101 rfl]; rfl, hx _ (fun J1 S' o' c' m' => ⟨fun _ => (lp z J1 S' hz o' c' m').room (by omega) (by omega), fun q => absurd rfl q⟩)⟩
theorem lc_4 {rc rs i Ln : Nat} {K : Int32 → Zs → Is → Prop} (hs : GS g) (hz : Sh z) (zt : ZtO z) (sp : SpO g z I) (o : OKS S) (c : CI z I S) (m : MI I S) (hl : gL g 0 = Ln) (hi : i + 7 ≤ Ln) (h35 : Ln ≤ 3584) (lp : Lp g d rc rs i K) : Wi g m11_asks (d + 80) [.ref 8, .int (I 0 ((iN i + iN 1).toNatClampNeg)), .int (I 0 ((iN i + iN 2).toNatClampNeg)), .int (I 0 ((iN i + iN 3).toNatClampNeg)), .int (I 0 ((iN i + iN 4).toNatClampNeg))] z I (fun x J => WPc g mL (d + 80 + 1) (rc + 4) (rs + 356) 362 [(0, .ref 0), (1, .ref 8), (2, .ref 101), (3, .int (iN i))] [.int x] z J (Zi K)) := by
  refine (P_asks hs o (I 0 ((iN i + iN 1).toNatClampNeg)) (I 0 ((iN i + iN 2).toNatClampNeg)) (I 0 ((iN i + iN 3).toNatClampNeg)) (I 0 ((iN i + iN 4).toNatClampNeg))).go hz c m (fun x J hx => WPc.sz (fun sJ _ => ?_))
  have sl2 : zL z 0 = Ln := by rw [(sJ 0 (by omega)).2.1]; exact hl
  have e0 : I 0 = J 0 := by rw [(sp 0 (by omega)).2.2, (sJ 0 (by omega)).2.2]
  rw [e0] at hx
  exact vL_362 hs ⟨iar0 _, ibk sl2 hi h35 1 (by omega), iar0 _, ibk sl2 hi h35 2 (by omega), iar0 _, ibk sl2 hi h35 3 (by omega), iar0 _, ibk sl2 hi h35 4 (by omega), by rw [hz.t 101 rfl]; rfl, hx _ (fun J1 S' o' c' m' => ⟨fun _ => (lp z J1 S' hz o' c' m').room (by omega) (by omega), fun q => absurd rfl q⟩)⟩
theorem lc_5 {rc rs i Ln : Nat} {K : Int32 → Zs → Is → Prop} (hs : GS g) (hz : Sh z) (zt : ZtO z) (sp : SpO g z I) (o : OKS S) (c : CI z I S) (m : MI I S) (hl : gL g 0 = Ln) (hi : i + 7 ≤ Ln) (h35 : Ln ≤ 3584) (lp : Lp g d rc rs i K) : WPi g m11_sort (d + 80) 1 2 [.ref 8, .int (I 0 ((iN i + iN 1).toNatClampNeg)), .int (I 0 ((iN i + iN 2).toNatClampNeg)), .int (I 0 ((iN i + iN 3).toNatClampNeg))] z I (fun x z' J => WPc g mL (d + 80 + 1) (rc + 3) (rs + 354) 410 [(0, .ref 0), (1, .ref 8), (2, .ref 101), (3, .int (iN i))] [.int x] z' J (Zi K)) := by
  refine (P_sort hs o (I 0 ((iN i + iN 1).toNatClampNeg)) (I 0 ((iN i + iN 2).toNatClampNeg)) (I 0 ((iN i + iN 3).toNatClampNeg))).go hz zt c m (fun x z' J hz' hx => WPc.sz (fun sJ _ => ?_))
  have sl2 : zL z' 0 = Ln := by rw [(sJ 0 (by omega)).2.1]; exact hl
  have e0 : I 0 = J 0 := by rw [(sp 0 (by omega)).2.2, (sJ 0 (by omega)).2.2]
  rw [e0] at hx
  exact vL_410 hs ⟨iar0 _, ibk sl2 hi h35 1 (by omega), iar0 _, ibk sl2 hi h35 2 (by omega), iar0 _, ibk sl2 hi h35 3 (by omega), by rw [hz'.t 101 rfl]; rfl, hx _ (fun J1 S' o' c' m' => ⟨fun _ => (lp z' J1 S' hz' o' c' m').room (by omega) (by omega), fun q => absurd rfl q⟩)⟩
theorem lc_6 {rc rs i Ln : Nat} {K : Int32 → Zs → Is → Prop} (hs : GS g) (hz : Sh z) (zt : ZtO z) (sp : SpO g z I) (o : OKS S) (c : CI z I S) (m : MI I S) (hl : gL g 0 = Ln) (hi : i + 7 ≤ Ln) (h35 : Ln ≤ 3584) (lp : Lp g d rc rs i K) : Wi g m11_told (d + 80) [.ref 8, .int (I 0 ((iN i + iN 1).toNatClampNeg)), .int (I 0 ((iN i + iN 2).toNatClampNeg))] z I (fun x J => WPc g mL (d + 80 + 1) (rc + 4) (rs + 356) 448 [(0, .ref 0), (1, .ref 8), (2, .ref 101), (3, .int (iN i))] [.int x] z J (Zi K)) := by
  refine (P_told hs o (I 0 ((iN i + iN 1).toNatClampNeg)) (I 0 ((iN i + iN 2).toNatClampNeg))).go hz c m (fun x J hx => WPc.sz (fun sJ _ => ?_))
  have sl2 : zL z 0 = Ln := by rw [(sJ 0 (by omega)).2.1]; exact hl
  have e0 : I 0 = J 0 := by rw [(sp 0 (by omega)).2.2, (sJ 0 (by omega)).2.2]
  rw [e0] at hx
  exact vL_448 hs ⟨iar0 _, ibk sl2 hi h35 1 (by omega), iar0 _, ibk sl2 hi h35 2 (by omega), by rw [hz.t 101 rfl]; rfl, hx _ (fun J1 S' o' c' m' => ⟨fun _ => (lp z J1 S' hz o' c' m').room (by omega) (by omega), fun q => absurd rfl q⟩)⟩
theorem lc_7 {rc rs i Ln : Nat} {K : Int32 → Zs → Is → Prop} (hs : GS g) (hz : Sh z) (zt : ZtO z) (sp : SpO g z I) (o : OKS S) (c : CI z I S) (m : MI I S) (hl : gL g 0 = Ln) (hi : i + 7 ≤ Ln) (h35 : Ln ≤ 3584) (lp : Lp g d rc rs i K) : Wi g m11_purse (d + 80) [.ref 8] z I (fun x J => WPc g mL (d + 80 + 1) (rc + 4) (rs + 356) 471 [(0, .ref 0), (1, .ref 8), (2, .ref 101), (3, .int (iN i))] [.int x] z J (Zi K)) := by
  refine (P_purse hs o).go hz c m (fun x J hx => WPc.sz (fun sJ _ => ?_))
  have sl2 : zL z 0 = Ln := by rw [(sJ 0 (by omega)).2.1]; exact hl
  have e0 : I 0 = J 0 := by rw [(sp 0 (by omega)).2.2, (sJ 0 (by omega)).2.2]
  exact vL_471 hs ⟨by rw [hz.t 101 rfl]; rfl, hx _ (fun J1 S' o' c' m' => ⟨fun _ => (lp z J1 S' hz o' c' m').room (by omega) (by omega), fun q => absurd rfl q⟩)⟩
theorem lc_8 {rc rs i Ln : Nat} {K : Int32 → Zs → Is → Prop} (hs : GS g) (hz : Sh z) (zt : ZtO z) (sp : SpO g z I) (o : OKS S) (c : CI z I S) (m : MI I S) (hl : gL g 0 = Ln) (hi : i + 7 ≤ Ln) (h35 : Ln ≤ 3584) (lp : Lp g d rc rs i K) : Wi g m11_set (d + 80) [.ref 8, .int (I 0 ((iN i + iN 1).toNatClampNeg)), .int (I 0 ((iN i + iN 2).toNatClampNeg)), .int (I 0 ((iN i + iN 3).toNatClampNeg))] z I (fun x J => WPc g mL (d + 80 + 1) (rc + 4) (rs + 356) 499 [(0, .ref 0), (1, .ref 8), (2, .ref 101), (3, .int (iN i))] [.int x] z J (Zi K)) := by
  refine (P_set hs o (I 0 ((iN i + iN 1).toNatClampNeg)) (I 0 ((iN i + iN 2).toNatClampNeg)) (I 0 ((iN i + iN 3).toNatClampNeg))).go hz c m (fun x J hx => WPc.sz (fun sJ _ => ?_))
  have sl2 : zL z 0 = Ln := by rw [(sJ 0 (by omega)).2.1]; exact hl
  have e0 : I 0 = J 0 := by rw [(sp 0 (by omega)).2.2, (sJ 0 (by omega)).2.2]
  rw [e0] at hx
  exact vL_499 hs ⟨iar0 _, ibk sl2 hi h35 1 (by omega), iar0 _, ibk sl2 hi h35 2 (by omega), iar0 _, ibk sl2 hi h35 3 (by omega), by rw [hz.t 101 rfl]; rfl, hx _ (fun J1 S' o' c' m' => ⟨fun _ => (lp z J1 S' hz o' c' m').room (by omega) (by omega), fun q => absurd rfl q⟩)⟩
theorem lc_9 {rc rs i Ln : Nat} {K : Int32 → Zs → Is → Prop} (hs : GS g) (hz : Sh z) (zt : ZtO z) (sp : SpO g z I) (o : OKS S) (c : CI z I S) (m : MI I S) (hl : gL g 0 = Ln) (hi : i + 7 ≤ Ln) (h35 : Ln ≤ 3584) (lp : Lp g d rc rs i K) : Wi g m11_of (d + 80) [.ref 8, .int (I 0 ((iN i + iN 1).toNatClampNeg)), .int (I 0 ((iN i + iN 2).toNatClampNeg))] z I (fun x J => WPc g mL (d + 80 + 1) (rc + 4) (rs + 356) 537 [(0, .ref 0), (1, .ref 8), (2, .ref 101), (3, .int (iN i))] [.int x] z J (Zi K)) := by
  refine (P_of hs o (I 0 ((iN i + iN 1).toNatClampNeg)) (I 0 ((iN i + iN 2).toNatClampNeg))).go hz c m (fun x J hx => WPc.sz (fun sJ _ => ?_))
  have sl2 : zL z 0 = Ln := by rw [(sJ 0 (by omega)).2.1]; exact hl
  have e0 : I 0 = J 0 := by rw [(sp 0 (by omega)).2.2, (sJ 0 (by omega)).2.2]
  rw [e0] at hx
  exact vL_537 hs ⟨iar0 _, ibk sl2 hi h35 1 (by omega), iar0 _, ibk sl2 hi h35 2 (by omega), by rw [hz.t 101 rfl]; rfl, hx _ (fun J1 S' o' c' m' => ⟨fun _ => (lp z J1 S' hz o' c' m').room (by omega) (by omega), fun q => absurd rfl q⟩)⟩
theorem lc_10 {rc rs i Ln : Nat} {K : Int32 → Zs → Is → Prop} (hs : GS g) (hz : Sh z) (zt : ZtO z) (sp : SpO g z I) (o : OKS S) (c : CI z I S) (m : MI I S) (hl : gL g 0 = Ln) (hi : i + 7 ≤ Ln) (h35 : Ln ≤ 3584) (lp : Lp g d rc rs i K) : Wi g m11_all (d + 80) [.ref 8, .int (I 0 ((iN i + iN 1).toNatClampNeg)), .int (I 0 ((iN i + iN 2).toNatClampNeg))] z I (fun x J => WPc g mL (d + 80 + 1) (rc + 4) (rs + 356) 570 [(0, .ref 0), (1, .ref 8), (2, .ref 101), (3, .int (iN i))] [.int x] z J (Zi K)) := by
  refine (P_all hs o (I 0 ((iN i + iN 1).toNatClampNeg)) (I 0 ((iN i + iN 2).toNatClampNeg))).go hz c m (fun x J hx => WPc.sz (fun sJ _ => ?_))
  have sl2 : zL z 0 = Ln := by rw [(sJ 0 (by omega)).2.1]; exact hl
  have e0 : I 0 = J 0 := by rw [(sp 0 (by omega)).2.2, (sJ 0 (by omega)).2.2]
  rw [e0] at hx
  exact vL_570 hs ⟨iar0 _, ibk sl2 hi h35 1 (by omega), iar0 _, ibk sl2 hi h35 2 (by omega), by rw [hz.t 101 rfl]; rfl, hx _ (fun J1 S' o' c' m' => ⟨fun _ => (lp z J1 S' hz o' c' m').room (by omega) (by omega), fun q => absurd rfl q⟩)⟩
theorem lc_11 {rc rs i Ln : Nat} {K : Int32 → Zs → Is → Prop} (hs : GS g) (hz : Sh z) (zt : ZtO z) (sp : SpO g z I) (o : OKS S) (c : CI z I S) (m : MI I S) (hl : gL g 0 = Ln) (hi : i + 7 ≤ Ln) (h35 : Ln ≤ 3584) (lp : Lp g d rc rs i K) : Wi g m11_often (d + 80) [.ref 8, .int (I 0 ((iN i + iN 1).toNatClampNeg)), .int (I 0 ((iN i + iN 2).toNatClampNeg)), .int (I 0 ((iN i + iN 3).toNatClampNeg))] z I (fun x J => WPc g mL (d + 80 + 1) (rc + 4) (rs + 356) 608 [(0, .ref 0), (1, .ref 8), (2, .ref 101), (3, .int (iN i))] [.int x] z J (Zi K)) := by
  refine (P_often hs o (I 0 ((iN i + iN 1).toNatClampNeg)) (I 0 ((iN i + iN 2).toNatClampNeg)) (I 0 ((iN i + iN 3).toNatClampNeg))).go hz c m (fun x J hx => WPc.sz (fun sJ _ => ?_))
  have sl2 : zL z 0 = Ln := by rw [(sJ 0 (by omega)).2.1]; exact hl
  have e0 : I 0 = J 0 := by rw [(sp 0 (by omega)).2.2, (sJ 0 (by omega)).2.2]
  rw [e0] at hx
  exact vL_608 hs ⟨iar0 _, ibk sl2 hi h35 1 (by omega), iar0 _, ibk sl2 hi h35 2 (by omega), iar0 _, ibk sl2 hi h35 3 (by omega), by rw [hz.t 101 rfl]; rfl, hx _ (fun J1 S' o' c' m' => ⟨fun _ => (lp z J1 S' hz o' c' m').room (by omega) (by omega), fun q => absurd rfl q⟩)⟩
theorem lc_12 {rc rs i Ln : Nat} {K : Int32 → Zs → Is → Prop} (hs : GS g) (hz : Sh z) (zt : ZtO z) (sp : SpO g z I) (o : OKS S) (c : CI z I S) (m : MI I S) (hl : gL g 0 = Ln) (hi : i + 7 ≤ Ln) (h35 : Ln ≤ 3584) (lp : Lp g d rc rs i K) : Wi g m11_buy (d + 80) [.ref 8, .int (I 0 ((iN i + iN 1).toNatClampNeg)), .int (I 0 ((iN i + iN 2).toNatClampNeg))] z I (fun x J => WPc g mL (d + 80 + 1) (rc + 4) (rs + 356) 646 [(0, .ref 0), (1, .ref 8), (2, .ref 101), (3, .int (iN i))] [.int x] z J (Zi K)) := by
  refine (P_buy hs o (I 0 ((iN i + iN 1).toNatClampNeg)) (I 0 ((iN i + iN 2).toNatClampNeg))).go hz c m (fun x J hx => WPc.sz (fun sJ _ => ?_))
  have sl2 : zL z 0 = Ln := by rw [(sJ 0 (by omega)).2.1]; exact hl
  have e0 : I 0 = J 0 := by rw [(sp 0 (by omega)).2.2, (sJ 0 (by omega)).2.2]
  rw [e0] at hx
  exact vL_646 hs ⟨iar0 _, ibk sl2 hi h35 1 (by omega), iar0 _, ibk sl2 hi h35 2 (by omega), by rw [hz.t 101 rfl]; rfl, hx _ (fun J1 S' o' c' m' => ⟨fun _ => (lp z J1 S' hz o' c' m').room (by omega) (by omega), fun q => absurd rfl q⟩)⟩
theorem lc_13 {rc rs i Ln : Nat} {K : Int32 → Zs → Is → Prop} (hs : GS g) (hz : Sh z) (zt : ZtO z) (sp : SpO g z I) (o : OKS S) (c : CI z I S) (m : MI I S) (hl : gL g 0 = Ln) (hi : i + 7 ≤ Ln) (h35 : Ln ≤ 3584) (lp : Lp g d rc rs i K) : Wi g m11_two (d + 80) [.ref 8, .int (I 0 ((iN i + iN 1).toNatClampNeg)), .int (I 0 ((iN i + iN 2).toNatClampNeg)), .int (I 0 ((iN i + iN 3).toNatClampNeg)), .int (I 0 ((iN i + iN 4).toNatClampNeg))] z I (fun x J => WPc g mL (d + 80 + 1) (rc + 4) (rs + 356) 689 [(0, .ref 0), (1, .ref 8), (2, .ref 101), (3, .int (iN i))] [.int x] z J (Zi K)) := by
  refine (P_two hs o (I 0 ((iN i + iN 1).toNatClampNeg)) (I 0 ((iN i + iN 2).toNatClampNeg)) (I 0 ((iN i + iN 3).toNatClampNeg)) (I 0 ((iN i + iN 4).toNatClampNeg))).go hz c m (fun x J hx => WPc.sz (fun sJ _ => ?_))
  have sl2 : zL z 0 = Ln := by rw [(sJ 0 (by omega)).2.1]; exact hl
  have e0 : I 0 = J 0 := by rw [(sp 0 (by omega)).2.2, (sJ 0 (by omega)).2.2]
  rw [e0] at hx
  exact vL_689 hs ⟨iar0 _, ibk sl2 hi h35 1 (by omega), iar0 _, ibk sl2 hi h35 2 (by omega), iar0 _, ibk sl2 hi h35 3 (by omega), iar0 _, ibk sl2 hi h35 4 (by omega), by rw [hz.t 101 rfl]; rfl, hx _ (fun J1 S' o' c' m' => ⟨fun _ => (lp z J1 S' hz o' c' m').room (by omega) (by omega), fun q => absurd rfl q⟩)⟩
theorem lc_14 {rc rs i Ln : Nat} {K : Int32 → Zs → Is → Prop} (hs : GS g) (hz : Sh z) (zt : ZtO z) (sp : SpO g z I) (o : OKS S) (c : CI z I S) (m : MI I S) (hl : gL g 0 = Ln) (hi : i + 7 ≤ Ln) (h35 : Ln ≤ 3584) (lp : Lp g d rc rs i K) : Wi g m11_price (d + 80) [.ref 8, .int (I 0 ((iN i + iN 1).toNatClampNeg))] z I (fun x J => WPc g mL (d + 80 + 1) (rc + 4) (rs + 356) 727 [(0, .ref 0), (1, .ref 8), (2, .ref 101), (3, .int (iN i))] [.int x] z J (Zi K)) := by
  refine (P_price hs o (I 0 ((iN i + iN 1).toNatClampNeg))).go hz c m (fun x J hx => WPc.sz (fun sJ _ => ?_))
  have sl2 : zL z 0 = Ln := by rw [(sJ 0 (by omega)).2.1]; exact hl
  have e0 : I 0 = J 0 := by rw [(sp 0 (by omega)).2.2, (sJ 0 (by omega)).2.2]
  rw [e0] at hx
  exact vL_727 hs ⟨iar0 _, ibk sl2 hi h35 1 (by omega), by rw [hz.t 101 rfl]; rfl, hx _ (fun J1 S' o' c' m' => ⟨fun _ => (lp z J1 S' hz o' c' m').room (by omega) (by omega), fun q => absurd rfl q⟩)⟩
theorem lc_15 {rc rs i Ln : Nat} {K : Int32 → Zs → Is → Prop} (hs : GS g) (hz : Sh z) (zt : ZtO z) (sp : SpO g z I) (o : OKS S) (c : CI z I S) (m : MI I S) (hl : gL g 0 = Ln) (hi : i + 7 ≤ Ln) (h35 : Ln ≤ 3584) (lp : Lp g d rc rs i K) : Wi g m11_idle (d + 80) [.ref 8, .int (I 0 ((iN i + iN 1).toNatClampNeg)), .int (I 0 ((iN i + iN 2).toNatClampNeg))] z I (fun x J => WPc g mL (d + 80 + 1) (rc + 4) (rs + 356) 755 [(0, .ref 0), (1, .ref 8), (2, .ref 101), (3, .int (iN i))] [.int x] z J (Zi K)) := by
  refine (P_idle hs o (I 0 ((iN i + iN 1).toNatClampNeg)) (I 0 ((iN i + iN 2).toNatClampNeg))).go hz c m (fun x J hx => WPc.sz (fun sJ _ => ?_))
  have sl2 : zL z 0 = Ln := by rw [(sJ 0 (by omega)).2.1]; exact hl
  have e0 : I 0 = J 0 := by rw [(sp 0 (by omega)).2.2, (sJ 0 (by omega)).2.2]
  rw [e0] at hx
  exact vL_755 hs ⟨iar0 _, ibk sl2 hi h35 1 (by omega), iar0 _, ibk sl2 hi h35 2 (by omega), by rw [hz.t 101 rfl]; rfl, hx _ (fun J1 S' o' c' m' => ⟨fun _ => (lp z J1 S' hz o' c' m').room (by omega) (by omega), fun q => absurd rfl q⟩)⟩
theorem lc_16 {rc rs i Ln : Nat} {K : Int32 → Zs → Is → Prop} (hs : GS g) (hz : Sh z) (zt : ZtO z) (sp : SpO g z I) (o : OKS S) (c : CI z I S) (m : MI I S) (hl : gL g 0 = Ln) (hi : i + 7 ≤ Ln) (h35 : Ln ≤ 3584) (lp : Lp g d rc rs i K) : Wi g m11_dearest (d + 80) [.ref 8, .int (I 0 ((iN i + iN 1).toNatClampNeg)), .int (I 0 ((iN i + iN 2).toNatClampNeg))] z I (fun x J => WPc g mL (d + 80 + 1) (rc + 4) (rs + 356) 788 [(0, .ref 0), (1, .ref 8), (2, .ref 101), (3, .int (iN i))] [.int x] z J (Zi K)) := by
  refine (P_dearest hs o (I 0 ((iN i + iN 1).toNatClampNeg)) (I 0 ((iN i + iN 2).toNatClampNeg))).go hz c m (fun x J hx => WPc.sz (fun sJ _ => ?_))
  have sl2 : zL z 0 = Ln := by rw [(sJ 0 (by omega)).2.1]; exact hl
  have e0 : I 0 = J 0 := by rw [(sp 0 (by omega)).2.2, (sJ 0 (by omega)).2.2]
  rw [e0] at hx
  exact vL_788 hs ⟨iar0 _, ibk sl2 hi h35 1 (by omega), iar0 _, ibk sl2 hi h35 2 (by omega), by rw [hz.t 101 rfl]; rfl, hx _ (fun J1 S' o' c' m' => ⟨fun _ => (lp z J1 S' hz o' c' m').room (by omega) (by omega), fun q => absurd rfl q⟩)⟩
theorem lc_17 {rc rs i Ln : Nat} {K : Int32 → Zs → Is → Prop} (hs : GS g) (hz : Sh z) (zt : ZtO z) (sp : SpO g z I) (o : OKS S) (c : CI z I S) (m : MI I S) (hl : gL g 0 = Ln) (hi : i + 7 ≤ Ln) (h35 : Ln ≤ 3584) (lp : Lp g d rc rs i K) : Wi g m11_swap (d + 80) [.ref 8, .int (I 0 ((iN i + iN 1).toNatClampNeg)), .int (I 0 ((iN i + iN 2).toNatClampNeg)), .int (I 0 ((iN i + iN 3).toNatClampNeg))] z I (fun x J => WPc g mL (d + 80 + 1) (rc + 4) (rs + 356) 826 [(0, .ref 0), (1, .ref 8), (2, .ref 101), (3, .int (iN i))] [.int x] z J (Zi K)) := by
  refine (P_swap hs o (I 0 ((iN i + iN 1).toNatClampNeg)) (I 0 ((iN i + iN 2).toNatClampNeg)) (I 0 ((iN i + iN 3).toNatClampNeg))).go hz c m (fun x J hx => WPc.sz (fun sJ _ => ?_))
  have sl2 : zL z 0 = Ln := by rw [(sJ 0 (by omega)).2.1]; exact hl
  have e0 : I 0 = J 0 := by rw [(sp 0 (by omega)).2.2, (sJ 0 (by omega)).2.2]
  rw [e0] at hx
  exact vL_826 hs ⟨iar0 _, ibk sl2 hi h35 1 (by omega), iar0 _, ibk sl2 hi h35 2 (by omega), iar0 _, ibk sl2 hi h35 3 (by omega), by rw [hz.t 101 rfl]; rfl, hx _ (fun J1 S' o' c' m' => ⟨fun _ => (lp z J1 S' hz o' c' m').room (by omega) (by omega), fun q => absurd rfl q⟩)⟩
theorem lc_18 {rc rs i Ln : Nat} {K : Int32 → Zs → Is → Prop} (hs : GS g) (hz : Sh z) (zt : ZtO z) (sp : SpO g z I) (o : OKS S) (c : CI z I S) (m : MI I S) (hl : gL g 0 = Ln) (hi : i + 7 ≤ Ln) (h35 : Ln ≤ 3584) (lp : Lp g d rc rs i K) : Wi g m11_best (d + 80) [.ref 8, .int (I 0 ((iN i + iN 1).toNatClampNeg)), .int (I 0 ((iN i + iN 2).toNatClampNeg)), .int (I 0 ((iN i + iN 3).toNatClampNeg)), .int (I 0 ((iN i + iN 4).toNatClampNeg))] z I (fun x J => WPc g mL (d + 80 + 1) (rc + 4) (rs + 356) 874 [(0, .ref 0), (1, .ref 8), (2, .ref 101), (3, .int (iN i))] [.int x] z J (Zi K)) := by
  refine (P_best hs o (I 0 ((iN i + iN 1).toNatClampNeg)) (I 0 ((iN i + iN 2).toNatClampNeg)) (I 0 ((iN i + iN 3).toNatClampNeg)) (I 0 ((iN i + iN 4).toNatClampNeg))).go hz c m (fun x J hx => WPc.sz (fun sJ _ => ?_))
  have sl2 : zL z 0 = Ln := by rw [(sJ 0 (by omega)).2.1]; exact hl
  have e0 : I 0 = J 0 := by rw [(sp 0 (by omega)).2.2, (sJ 0 (by omega)).2.2]
  rw [e0] at hx
  exact vL_874 hs ⟨iar0 _, ibk sl2 hi h35 1 (by omega), iar0 _, ibk sl2 hi h35 2 (by omega), iar0 _, ibk sl2 hi h35 3 (by omega), iar0 _, ibk sl2 hi h35 4 (by omega), by rw [hz.t 101 rfl]; rfl, hx _ (fun J1 S' o' c' m' => ⟨fun _ => (lp z J1 S' hz o' c' m').room (by omega) (by omega), fun q => absurd rfl q⟩)⟩
theorem lc_19 {rc rs i Ln : Nat} {K : Int32 → Zs → Is → Prop} (hs : GS g) (hz : Sh z) (zt : ZtO z) (sp : SpO g z I) (o : OKS S) (c : CI z I S) (m : MI I S) (hl : gL g 0 = Ln) (hi : i + 7 ≤ Ln) (h35 : Ln ≤ 3584) (lp : Lp g d rc rs i K) : Wi g m11_lacks (d + 80) [.ref 8, .int (I 0 ((iN i + iN 1).toNatClampNeg)), .int (I 0 ((iN i + iN 2).toNatClampNeg))] z I (fun x J => WPc g mL (d + 80 + 1) (rc + 4) (rs + 356) 917 [(0, .ref 0), (1, .ref 8), (2, .ref 101), (3, .int (iN i))] [.int x] z J (Zi K)) := by
  refine (P_lacks hs o (I 0 ((iN i + iN 1).toNatClampNeg)) (I 0 ((iN i + iN 2).toNatClampNeg))).go hz c m (fun x J hx => WPc.sz (fun sJ _ => ?_))
  have sl2 : zL z 0 = Ln := by rw [(sJ 0 (by omega)).2.1]; exact hl
  have e0 : I 0 = J 0 := by rw [(sp 0 (by omega)).2.2, (sJ 0 (by omega)).2.2]
  rw [e0] at hx
  exact vL_917 hs ⟨iar0 _, ibk sl2 hi h35 1 (by omega), iar0 _, ibk sl2 hi h35 2 (by omega), by rw [hz.t 101 rfl]; rfl, hx _ (fun J1 S' o' c' m' => ⟨fun _ => (lp z J1 S' hz o' c' m').room (by omega) (by omega), fun q => absurd rfl q⟩)⟩
theorem lc_20 {rc rs i Ln : Nat} {K : Int32 → Zs → Is → Prop} (hs : GS g) (hz : Sh z) (zt : ZtO z) (sp : SpO g z I) (o : OKS S) (c : CI z I S) (m : MI I S) (hl : gL g 0 = Ln) (hi : i + 7 ≤ Ln) (h35 : Ln ≤ 3584) (lp : Lp g d rc rs i K) : Wi g m11_thief (d + 80) [.ref 8, .int (I 0 ((iN i + iN 1).toNatClampNeg)), .int (I 0 ((iN i + iN 2).toNatClampNeg)), .int (I 0 ((iN i + iN 3).toNatClampNeg))] z I (fun x J => WPc g mL (d + 80 + 1) (rc + 4) (rs + 356) 955 [(0, .ref 0), (1, .ref 8), (2, .ref 101), (3, .int (iN i))] [.int x] z J (Zi K)) := by
  refine (P_thief hs o (I 0 ((iN i + iN 1).toNatClampNeg)) (I 0 ((iN i + iN 2).toNatClampNeg)) (I 0 ((iN i + iN 3).toNatClampNeg))).go hz c m (fun x J hx => WPc.sz (fun sJ _ => ?_))
  have sl2 : zL z 0 = Ln := by rw [(sJ 0 (by omega)).2.1]; exact hl
  have e0 : I 0 = J 0 := by rw [(sp 0 (by omega)).2.2, (sJ 0 (by omega)).2.2]
  rw [e0] at hx
  exact vL_955 hs ⟨iar0 _, ibk sl2 hi h35 1 (by omega), iar0 _, ibk sl2 hi h35 2 (by omega), iar0 _, ibk sl2 hi h35 3 (by omega), by rw [hz.t 101 rfl]; rfl, hx _ (fun J1 S' o' c' m' => ⟨fun _ => (lp z J1 S' hz o' c' m').room (by omega) (by omega), fun q => absurd rfl q⟩)⟩
theorem lc_21 {rc rs i Ln : Nat} {K : Int32 → Zs → Is → Prop} (hs : GS g) (hz : Sh z) (zt : ZtO z) (sp : SpO g z I) (o : OKS S) (c : CI z I S) (m : MI I S) (hl : gL g 0 = Ln) (hi : i + 7 ≤ Ln) (h35 : Ln ≤ 3584) (lp : Lp g d rc rs i K) : Wi g m11_rob (d + 80) [.ref 8, .int (I 0 ((iN i + iN 1).toNatClampNeg))] z I (fun x J => WPc g mL (d + 80 + 1) (rc + 4) (rs + 356) 988 [(0, .ref 0), (1, .ref 8), (2, .ref 101), (3, .int (iN i))] [.int x] z J (Zi K)) := by
  refine (P_rob hs o (I 0 ((iN i + iN 1).toNatClampNeg))).go hz c m (fun x J hx => WPc.sz (fun sJ _ => ?_))
  have sl2 : zL z 0 = Ln := by rw [(sJ 0 (by omega)).2.1]; exact hl
  have e0 : I 0 = J 0 := by rw [(sp 0 (by omega)).2.2, (sJ 0 (by omega)).2.2]
  rw [e0] at hx
  exact vL_988 hs ⟨iar0 _, ibk sl2 hi h35 1 (by omega), by rw [hz.t 101 rfl]; rfl, hx _ (fun J1 S' o' c' m' => ⟨fun _ => (lp z J1 S' hz o' c' m').room (by omega) (by omega), fun q => absurd rfl q⟩)⟩
theorem lc_22 {rc rs i Ln : Nat} {K : Int32 → Zs → Is → Prop} (hs : GS g) (hz : Sh z) (zt : ZtO z) (sp : SpO g z I) (o : OKS S) (c : CI z I S) (m : MI I S) (hl : gL g 0 = Ln) (hi : i + 7 ≤ Ln) (h35 : Ln ≤ 3584) (lp : Lp g d rc rs i K) : Wi g m11_wage (d + 80) [.ref 8, .int (I 0 ((iN i + iN 1).toNatClampNeg)), .int (I 0 ((iN i + iN 2).toNatClampNeg)), .int (I 0 ((iN i + iN 3).toNatClampNeg)), .int (I 0 ((iN i + iN 4).toNatClampNeg))] z I (fun x J => WPc g mL (d + 80 + 1) (rc + 4) (rs + 356) 1026 [(0, .ref 0), (1, .ref 8), (2, .ref 101), (3, .int (iN i))] [.int x] z J (Zi K)) := by
  refine (P_wage hs o (I 0 ((iN i + iN 1).toNatClampNeg)) (I 0 ((iN i + iN 2).toNatClampNeg)) (I 0 ((iN i + iN 3).toNatClampNeg)) (I 0 ((iN i + iN 4).toNatClampNeg))).go hz c m (fun x J hx => WPc.sz (fun sJ _ => ?_))
  have sl2 : zL z 0 = Ln := by rw [(sJ 0 (by omega)).2.1]; exact hl
  have e0 : I 0 = J 0 := by rw [(sp 0 (by omega)).2.2, (sJ 0 (by omega)).2.2]
  rw [e0] at hx
  exact vL_1026 hs ⟨iar0 _, ibk sl2 hi h35 1 (by omega), iar0 _, ibk sl2 hi h35 2 (by omega), iar0 _, ibk sl2 hi h35 3 (by omega), iar0 _, ibk sl2 hi h35 4 (by omega), by rw [hz.t 101 rfl]; rfl, hx _ (fun J1 S' o' c' m' => ⟨fun _ => (lp z J1 S' hz o' c' m').room (by omega) (by omega), fun q => absurd rfl q⟩)⟩
theorem lc_23 {rc rs i Ln : Nat} {K : Int32 → Zs → Is → Prop} (hs : GS g) (hz : Sh z) (zt : ZtO z) (sp : SpO g z I) (o : OKS S) (c : CI z I S) (m : MI I S) (hl : gL g 0 = Ln) (hi : i + 7 ≤ Ln) (h35 : Ln ≤ 3584) (lp : Lp g d rc rs i K) : Wi g m11_strike (d + 80) [.ref 8, .int (I 0 ((iN i + iN 1).toNatClampNeg)), .int (I 0 ((iN i + iN 2).toNatClampNeg))] z I (fun x J => WPc g mL (d + 80 + 1) (rc + 4) (rs + 356) 1069 [(0, .ref 0), (1, .ref 8), (2, .ref 101), (3, .int (iN i))] [.int x] z J (Zi K)) := by
  refine (P_strike hs o (I 0 ((iN i + iN 1).toNatClampNeg)) (I 0 ((iN i + iN 2).toNatClampNeg))).go hz c m (fun x J hx => WPc.sz (fun sJ _ => ?_))
  have sl2 : zL z 0 = Ln := by rw [(sJ 0 (by omega)).2.1]; exact hl
  have e0 : I 0 = J 0 := by rw [(sp 0 (by omega)).2.2, (sJ 0 (by omega)).2.2]
  rw [e0] at hx
  exact vL_1069 hs ⟨iar0 _, ibk sl2 hi h35 1 (by omega), iar0 _, ibk sl2 hi h35 2 (by omega), by rw [hz.t 101 rfl]; rfl, hx _ (fun J1 S' o' c' m' => ⟨fun _ => (lp z J1 S' hz o' c' m').room (by omega) (by omega), fun q => absurd rfl q⟩)⟩
theorem lc_24 {rc rs i Ln : Nat} {K : Int32 → Zs → Is → Prop} (hs : GS g) (hz : Sh z) (zt : ZtO z) (sp : SpO g z I) (o : OKS S) (c : CI z I S) (m : MI I S) (hl : gL g 0 = Ln) (hi : i + 7 ≤ Ln) (h35 : Ln ≤ 3584) (lp : Lp g d rc rs i K) : Wi g m11_pass (d + 80) [.ref 8] z I (fun x J => WPc g mL (d + 80 + 1) (rc + 4) (rs + 356) 1092 [(0, .ref 0), (1, .ref 8), (2, .ref 101), (3, .int (iN i))] [.int x] z J (Zi K)) := by
  refine (P_pass hs o).go hz c m (fun x J hx => WPc.sz (fun sJ _ => ?_))
  have sl2 : zL z 0 = Ln := by rw [(sJ 0 (by omega)).2.1]; exact hl
  have e0 : I 0 = J 0 := by rw [(sp 0 (by omega)).2.2, (sJ 0 (by omega)).2.2]
  exact vL_1092 hs ⟨by rw [hz.t 101 rfl]; rfl, hx _ (fun J1 S' o' c' m' => ⟨fun _ => (lp z J1 S' hz o' c' m').room (by omega) (by omega), fun q => absurd rfl q⟩)⟩
theorem lc_25 {rc rs i Ln : Nat} {K : Int32 → Zs → Is → Prop} (hs : GS g) (hz : Sh z) (zt : ZtO z) (sp : SpO g z I) (o : OKS S) (c : CI z I S) (m : MI I S) (hl : gL g 0 = Ln) (hi : i + 7 ≤ Ln) (h35 : Ln ≤ 3584) (lp : Lp g d rc rs i K) : Wi g m11_judge (d + 80) [.ref 8, .int (I 0 ((iN i + iN 1).toNatClampNeg)), .int (I 0 ((iN i + iN 2).toNatClampNeg))] z I (fun x J => WPc g mL (d + 80 + 1) (rc + 4) (rs + 356) 1115 [(0, .ref 0), (1, .ref 8), (2, .ref 101), (3, .int (iN i))] [.int x] z J (Zi K)) := by
  refine (P_judge hs o (I 0 ((iN i + iN 1).toNatClampNeg)) (I 0 ((iN i + iN 2).toNatClampNeg))).go hz c m (fun x J hx => WPc.sz (fun sJ _ => ?_))
  have sl2 : zL z 0 = Ln := by rw [(sJ 0 (by omega)).2.1]; exact hl
  have e0 : I 0 = J 0 := by rw [(sp 0 (by omega)).2.2, (sJ 0 (by omega)).2.2]
  rw [e0] at hx
  exact vL_1115 hs ⟨iar0 _, ibk sl2 hi h35 1 (by omega), iar0 _, ibk sl2 hi h35 2 (by omega), by rw [hz.t 101 rfl]; rfl, hx _ (fun J1 S' o' c' m' => ⟨fun _ => (lp z J1 S' hz o' c' m').room (by omega) (by omega), fun q => absurd rfl q⟩)⟩
theorem lc_26 {rc rs i Ln : Nat} {K : Int32 → Zs → Is → Prop} (hs : GS g) (hz : Sh z) (zt : ZtO z) (sp : SpO g z I) (o : OKS S) (c : CI z I S) (m : MI I S) (hl : gL g 0 = Ln) (hi : i + 7 ≤ Ln) (h35 : Ln ≤ 3584) (lp : Lp g d rc rs i K) : Wi g m11_whose (d + 80) [.ref 8, .int (I 0 ((iN i + iN 1).toNatClampNeg))] z I (fun x J => WPc g mL (d + 80 + 1) (rc + 4) (rs + 356) 1143 [(0, .ref 0), (1, .ref 8), (2, .ref 101), (3, .int (iN i))] [.int x] z J (Zi K)) := by
  refine (P_whose hs o (I 0 ((iN i + iN 1).toNatClampNeg))).go hz c m (fun x J hx => WPc.sz (fun sJ _ => ?_))
  have sl2 : zL z 0 = Ln := by rw [(sJ 0 (by omega)).2.1]; exact hl
  have e0 : I 0 = J 0 := by rw [(sp 0 (by omega)).2.2, (sJ 0 (by omega)).2.2]
  rw [e0] at hx
  exact vL_1143 hs ⟨iar0 _, ibk sl2 hi h35 1 (by omega), by rw [hz.t 101 rfl]; rfl, hx _ (fun J1 S' o' c' m' => ⟨fun _ => (lp z J1 S' hz o' c' m').room (by omega) (by omega), fun q => absurd rfl q⟩)⟩
theorem lc_27 {rc rs i Ln : Nat} {K : Int32 → Zs → Is → Prop} (hs : GS g) (hz : Sh z) (zt : ZtO z) (sp : SpO g z I) (o : OKS S) (c : CI z I S) (m : MI I S) (hl : gL g 0 = Ln) (hi : i + 7 ≤ Ln) (h35 : Ln ≤ 3584) (lp : Lp g d rc rs i K) : Wi g m11_was (d + 80) [.ref 8, .int (I 0 ((iN i + iN 1).toNatClampNeg)), .int (I 0 ((iN i + iN 2).toNatClampNeg))] z I (fun x J => WPc g mL (d + 80 + 1) (rc + 4) (rs + 356) 1171 [(0, .ref 0), (1, .ref 8), (2, .ref 101), (3, .int (iN i))] [.int x] z J (Zi K)) := by
  refine (P_was hs o (I 0 ((iN i + iN 1).toNatClampNeg)) (I 0 ((iN i + iN 2).toNatClampNeg))).go hz c m (fun x J hx => WPc.sz (fun sJ _ => ?_))
  have sl2 : zL z 0 = Ln := by rw [(sJ 0 (by omega)).2.1]; exact hl
  have e0 : I 0 = J 0 := by rw [(sp 0 (by omega)).2.2, (sJ 0 (by omega)).2.2]
  rw [e0] at hx
  exact vL_1171 hs ⟨iar0 _, ibk sl2 hi h35 1 (by omega), iar0 _, ibk sl2 hi h35 2 (by omega), by rw [hz.t 101 rfl]; rfl, hx _ (fun J1 S' o' c' m' => ⟨fun _ => (lp z J1 S' hz o' c' m').room (by omega) (by omega), fun q => absurd rfl q⟩)⟩
theorem lc_28 {rc rs i Ln : Nat} {K : Int32 → Zs → Is → Prop} (hs : GS g) (hz : Sh z) (zt : ZtO z) (sp : SpO g z I) (o : OKS S) (c : CI z I S) (m : MI I S) (hl : gL g 0 = Ln) (hi : i + 7 ≤ Ln) (h35 : Ln ≤ 3584) (lp : Lp g d rc rs i K) : Wi g m11_film (d + 80) [.ref 8, .int (I 0 ((iN i + iN 1).toNatClampNeg)), .int (I 0 ((iN i + iN 2).toNatClampNeg)), .int (I 0 ((iN i + iN 3).toNatClampNeg))] z I (fun x J => WPc g mL (d + 80 + 1) (rc + 4) (rs + 356) 1209 [(0, .ref 0), (1, .ref 8), (2, .ref 101), (3, .int (iN i))] [.int x] z J (Zi K)) := by
  refine (P_film hs o (I 0 ((iN i + iN 1).toNatClampNeg)) (I 0 ((iN i + iN 2).toNatClampNeg)) (I 0 ((iN i + iN 3).toNatClampNeg))).go hz c m (fun x J hx => WPc.sz (fun sJ _ => ?_))
  have sl2 : zL z 0 = Ln := by rw [(sJ 0 (by omega)).2.1]; exact hl
  have e0 : I 0 = J 0 := by rw [(sp 0 (by omega)).2.2, (sJ 0 (by omega)).2.2]
  rw [e0] at hx
  exact vL_1209 hs ⟨iar0 _, ibk sl2 hi h35 1 (by omega), iar0 _, ibk sl2 hi h35 2 (by omega), iar0 _, ibk sl2 hi h35 3 (by omega), by rw [hz.t 101 rfl]; rfl, hx _ (fun J1 S' o' c' m' => ⟨fun _ => (lp z J1 S' hz o' c' m').room (by omega) (by omega), fun q => absurd rfl q⟩)⟩
theorem lc_29 {rc rs i Ln : Nat} {K : Int32 → Zs → Is → Prop} (hs : GS g) (hz : Sh z) (zt : ZtO z) (sp : SpO g z I) (o : OKS S) (c : CI z I S) (m : MI I S) (hl : gL g 0 = Ln) (hi : i + 7 ≤ Ln) (h35 : Ln ≤ 3584) (lp : Lp g d rc rs i K) : Wi g m11_laws (d + 80) [.ref 8, .int (I 0 ((iN i + iN 1).toNatClampNeg)), .int (I 0 ((iN i + iN 2).toNatClampNeg)), .int (I 0 ((iN i + iN 3).toNatClampNeg))] z I (fun x J => WPc g mL (d + 80 + 1) (rc + 4) (rs + 356) 1252 [(0, .ref 0), (1, .ref 8), (2, .ref 101), (3, .int (iN i))] [.int x] z J (Zi K)) := by
  refine (P_laws hs o (I 0 ((iN i + iN 1).toNatClampNeg)) (I 0 ((iN i + iN 2).toNatClampNeg)) (I 0 ((iN i + iN 3).toNatClampNeg))).go hz c m (fun x J hx => WPc.sz (fun sJ _ => ?_))
  have sl2 : zL z 0 = Ln := by rw [(sJ 0 (by omega)).2.1]; exact hl
  have e0 : I 0 = J 0 := by rw [(sp 0 (by omega)).2.2, (sJ 0 (by omega)).2.2]
  rw [e0] at hx
  exact vL_1252 hs ⟨iar0 _, ibk sl2 hi h35 1 (by omega), iar0 _, ibk sl2 hi h35 2 (by omega), iar0 _, ibk sl2 hi h35 3 (by omega), by rw [hz.t 101 rfl]; rfl, hx _ (fun J1 S' o' c' m' => ⟨fun _ => (lp z J1 S' hz o' c' m').room (by omega) (by omega), fun q => absurd rfl q⟩)⟩
theorem lc_30 {rc rs i Ln : Nat} {K : Int32 → Zs → Is → Prop} (hs : GS g) (hz : Sh z) (zt : ZtO z) (sp : SpO g z I) (o : OKS S) (c : CI z I S) (m : MI I S) (hl : gL g 0 = Ln) (hi : i + 7 ≤ Ln) (h35 : Ln ≤ 3584) (lp : Lp g d rc rs i K) : Wi g m11_drawn (d + 80) [.ref 8, .int (I 0 ((iN i + iN 1).toNatClampNeg)), .int (I 0 ((iN i + iN 2).toNatClampNeg))] z I (fun x J => WPc g mL (d + 80 + 1) (rc + 4) (rs + 356) 1290 [(0, .ref 0), (1, .ref 8), (2, .ref 101), (3, .int (iN i))] [.int x] z J (Zi K)) := by
  refine (P_drawn hs o (I 0 ((iN i + iN 1).toNatClampNeg)) (I 0 ((iN i + iN 2).toNatClampNeg))).go hz c m (fun x J hx => WPc.sz (fun sJ _ => ?_))
  have sl2 : zL z 0 = Ln := by rw [(sJ 0 (by omega)).2.1]; exact hl
  have e0 : I 0 = J 0 := by rw [(sp 0 (by omega)).2.2, (sJ 0 (by omega)).2.2]
  rw [e0] at hx
  exact vL_1290 hs ⟨iar0 _, ibk sl2 hi h35 1 (by omega), iar0 _, ibk sl2 hi h35 2 (by omega), by rw [hz.t 101 rfl]; rfl, hx _ (fun J1 S' o' c' m' => ⟨fun _ => (lp z J1 S' hz o' c' m').room (by omega) (by omega), fun q => absurd rfl q⟩)⟩
theorem lc_31 {rc rs i Ln : Nat} {K : Int32 → Zs → Is → Prop} (hs : GS g) (hz : Sh z) (zt : ZtO z) (sp : SpO g z I) (o : OKS S) (c : CI z I S) (m : MI I S) (hl : gL g 0 = Ln) (hi : i + 7 ≤ Ln) (h35 : Ln ≤ 3584) (lp : Lp g d rc rs i K) : Wl g m11_mean (d + 80) [.ref 8, .int (I 0 ((iN i + iN 1).toNatClampNeg)), .int (I 0 ((iN i + iN 2).toNatClampNeg)), .int (I 0 ((iN i + iN 3).toNatClampNeg)), .int (I 0 ((iN i + iN 4).toNatClampNeg))] z I (fun x J => WPc g mL (d + 80 + 1) (rc + 4) (rs + 356) 1333 [(0, .ref 0), (1, .ref 8), (2, .ref 101), (3, .int (iN i))] [.long x] z J (Zi K)) := by
  refine (P_mean hs o (I 0 ((iN i + iN 1).toNatClampNeg)) (I 0 ((iN i + iN 2).toNatClampNeg)) (I 0 ((iN i + iN 3).toNatClampNeg)) (I 0 ((iN i + iN 4).toNatClampNeg))).go hz c m (fun x J hx => WPc.sz (fun sJ _ => ?_))
  have sl2 : zL z 0 = Ln := by rw [(sJ 0 (by omega)).2.1]; exact hl
  have e0 : I 0 = J 0 := by rw [(sp 0 (by omega)).2.2, (sJ 0 (by omega)).2.2]
  rw [e0] at hx
  exact vL_1333 hs ⟨iar0 _, ibk sl2 hi h35 1 (by omega), iar0 _, ibk sl2 hi h35 2 (by omega), iar0 _, ibk sl2 hi h35 3 (by omega), iar0 _, ibk sl2 hi h35 4 (by omega), by rw [hz.t 101 rfl]; rfl, hx _ (fun J1 S' o' c' m' => by rw [lcmp0]; exact ⟨fun _ => (lp z J1 S' hz o' c' m').room (by omega) (by omega), fun q => absurd rfl q⟩)⟩
theorem lc_32 {rc rs i Ln : Nat} {K : Int32 → Zs → Is → Prop} (hs : GS g) (hz : Sh z) (zt : ZtO z) (sp : SpO g z I) (o : OKS S) (c : CI z I S) (m : MI I S) (hl : gL g 0 = Ln) (hi : i + 7 ≤ Ln) (h35 : Ln ≤ 3584) (lp : Lp g d rc rs i K) : Wi g m11_image (d + 80) [.ref 8] z I (fun x J => WPc g mL (d + 80 + 1) (rc + 4) (rs + 356) 1367 [(0, .ref 0), (1, .ref 8), (2, .ref 101), (3, .int (iN i))] [.int x] z J (Zi K)) := by
  refine (P_image hs o).go hz c m (fun x J hx => WPc.sz (fun sJ _ => ?_))
  have sl2 : zL z 0 = Ln := by rw [(sJ 0 (by omega)).2.1]; exact hl
  have e0 : I 0 = J 0 := by rw [(sp 0 (by omega)).2.2, (sJ 0 (by omega)).2.2]
  exact vL_1367 hs ⟨by rw [hz.t 101 rfl]; rfl, hx _ (fun J1 S' o' c' m' => ⟨fun _ => (lp z J1 S' hz o' c' m').room (by omega) (by omega), fun q => absurd rfl q⟩)⟩
theorem lc_33 {rc rs i Ln : Nat} {K : Int32 → Zs → Is → Prop} (hs : GS g) (hz : Sh z) (zt : ZtO z) (sp : SpO g z I) (o : OKS S) (c : CI z I S) (m : MI I S) (hl : gL g 0 = Ln) (hi : i + 7 ≤ Ln) (h35 : Ln ≤ 3584) (lp : Lp g d rc rs i K) : WPi g m11_back (d + 80) 0 0 [.ref 8] z I (fun x z' J => WPc g mL (d + 80 + 1) (rc + 4) (rs + 356) 1380 [(0, .ref 0), (1, .ref 8), (2, .ref 101), (3, .int (iN i))] [.int x] z' J (Zi K)) := by
  refine (P_back hs o).go hz zt c m (fun x z' J hz' hx => WPc.sz (fun sJ _ => ?_))
  have sl2 : zL z' 0 = Ln := by rw [(sJ 0 (by omega)).2.1]; exact hl
  have e0 : I 0 = J 0 := by rw [(sp 0 (by omega)).2.2, (sJ 0 (by omega)).2.2]
  exact vL_1380 hs ⟨by rw [hz'.t 101 rfl]; rfl, hx _ (fun J1 S' o' c' m' => ⟨fun _ => (lp z' J1 S' hz' o' c' m').room (by omega) (by omega), fun q => absurd rfl q⟩)⟩
theorem lc_34 {rc rs i Ln : Nat} {K : Int32 → Zs → Is → Prop} (hs : GS g) (hz : Sh z) (zt : ZtO z) (sp : SpO g z I) (o : OKS S) (c : CI z I S) (m : MI I S) (hl : gL g 0 = Ln) (hi : i + 7 ≤ Ln) (h35 : Ln ≤ 3584) (lp : Lp g d rc rs i K) : Wi g m11_sheet (d + 80) [.ref 8, .int (I 0 ((iN i + iN 1).toNatClampNeg)), .int (I 0 ((iN i + iN 2).toNatClampNeg)), .int (I 0 ((iN i + iN 3).toNatClampNeg))] z I (fun x J => WPc g mL (d + 80 + 1) (rc + 4) (rs + 356) 1408 [(0, .ref 0), (1, .ref 8), (2, .ref 101), (3, .int (iN i))] [.int x] z J (Zi K)) := by
  refine (P_sheet hs o (I 0 ((iN i + iN 1).toNatClampNeg)) (I 0 ((iN i + iN 2).toNatClampNeg)) (I 0 ((iN i + iN 3).toNatClampNeg))).go hz c m (fun x J hx => WPc.sz (fun sJ _ => ?_))
  have sl2 : zL z 0 = Ln := by rw [(sJ 0 (by omega)).2.1]; exact hl
  have e0 : I 0 = J 0 := by rw [(sp 0 (by omega)).2.2, (sJ 0 (by omega)).2.2]
  rw [e0] at hx
  exact vL_1408 hs ⟨iar0 _, ibk sl2 hi h35 1 (by omega), iar0 _, ibk sl2 hi h35 2 (by omega), iar0 _, ibk sl2 hi h35 3 (by omega), by rw [hz.t 101 rfl]; rfl, hx _ (fun J1 S' o' c' m' => ⟨fun _ => (lp z J1 S' hz o' c' m').room (by omega) (by omega), fun q => absurd rfl q⟩)⟩
theorem lc_35 {rc rs i Ln : Nat} {K : Int32 → Zs → Is → Prop} (hs : GS g) (hz : Sh z) (zt : ZtO z) (sp : SpO g z I) (o : OKS S) (c : CI z I S) (m : MI I S) (hl : gL g 0 = Ln) (hi : i + 7 ≤ Ln) (h35 : Ln ≤ 3584) (lp : Lp g d rc rs i K) : Wi g m11_cell (d + 80) [.ref 8, .int (I 0 ((iN i + iN 1).toNatClampNeg)), .int (I 0 ((iN i + iN 2).toNatClampNeg)), .int (I 0 ((iN i + iN 3).toNatClampNeg))] z I (fun x J => WPc g mL (d + 80 + 1) (rc + 4) (rs + 356) 1451 [(0, .ref 0), (1, .ref 8), (2, .ref 101), (3, .int (iN i))] [.int x] z J (Zi K)) := by
  refine (P_cell hs o (I 0 ((iN i + iN 1).toNatClampNeg)) (I 0 ((iN i + iN 2).toNatClampNeg)) (I 0 ((iN i + iN 3).toNatClampNeg))).go hz c m (fun x J hx => WPc.sz (fun sJ _ => ?_))
  have sl2 : zL z 0 = Ln := by rw [(sJ 0 (by omega)).2.1]; exact hl
  have e0 : I 0 = J 0 := by rw [(sp 0 (by omega)).2.2, (sJ 0 (by omega)).2.2]
  rw [e0] at hx
  exact vL_1451 hs ⟨iar0 _, ibk sl2 hi h35 1 (by omega), iar0 _, ibk sl2 hi h35 2 (by omega), iar0 _, ibk sl2 hi h35 3 (by omega), by rw [hz.t 101 rfl]; rfl, hx _ (fun J1 S' o' c' m' => ⟨fun _ => (lp z J1 S' hz o' c' m').room (by omega) (by omega), fun q => absurd rfl q⟩)⟩
theorem lc_36 {rc rs i Ln : Nat} {K : Int32 → Zs → Is → Prop} (hs : GS g) (hz : Sh z) (zt : ZtO z) (sp : SpO g z I) (o : OKS S) (c : CI z I S) (m : MI I S) (hl : gL g 0 = Ln) (hi : i + 7 ≤ Ln) (h35 : Ln ≤ 3584) (lp : Lp g d rc rs i K) : Wi g m11_copy (d + 80) [.ref 8, .int (I 0 ((iN i + iN 1).toNatClampNeg)), .int (I 0 ((iN i + iN 2).toNatClampNeg)), .int (I 0 ((iN i + iN 3).toNatClampNeg)), .int (I 0 ((iN i + iN 4).toNatClampNeg)), .int (I 0 ((iN i + iN 5).toNatClampNeg))] z I (fun x J => WPc g mL (d + 80 + 1) (rc + 4) (rs + 356) 1504 [(0, .ref 0), (1, .ref 8), (2, .ref 101), (3, .int (iN i))] [.int x] z J (Zi K)) := by
  refine (P_copy hs o (I 0 ((iN i + iN 1).toNatClampNeg)) (I 0 ((iN i + iN 2).toNatClampNeg)) (I 0 ((iN i + iN 3).toNatClampNeg)) (I 0 ((iN i + iN 4).toNatClampNeg)) (I 0 ((iN i + iN 5).toNatClampNeg))).go hz c m (fun x J hx => WPc.sz (fun sJ _ => ?_))
  have sl2 : zL z 0 = Ln := by rw [(sJ 0 (by omega)).2.1]; exact hl
  have e0 : I 0 = J 0 := by rw [(sp 0 (by omega)).2.2, (sJ 0 (by omega)).2.2]
  rw [e0] at hx
  exact vL_1504 hs ⟨iar0 _, ibk sl2 hi h35 1 (by omega), iar0 _, ibk sl2 hi h35 2 (by omega), iar0 _, ibk sl2 hi h35 3 (by omega), iar0 _, ibk sl2 hi h35 4 (by omega), iar0 _, ibk sl2 hi h35 5 (by omega), by rw [hz.t 101 rfl]; rfl, hx _ (fun J1 S' o' c' m' => ⟨fun _ => (lp z J1 S' hz o' c' m').room (by omega) (by omega), fun q => absurd rfl q⟩)⟩
theorem lc_37 {rc rs i Ln : Nat} {K : Int32 → Zs → Is → Prop} (hs : GS g) (hz : Sh z) (zt : ZtO z) (sp : SpO g z I) (o : OKS S) (c : CI z I S) (m : MI I S) (hl : gL g 0 = Ln) (hi : i + 7 ≤ Ln) (h35 : Ln ≤ 3584) (lp : Lp g d rc rs i K) : Wi g m11_coinsBy (d + 80) [.ref 8, .int (I 0 ((iN i + iN 1).toNatClampNeg)), .int (I 0 ((iN i + iN 2).toNatClampNeg)), .int (I 0 ((iN i + iN 3).toNatClampNeg)), .int (I 0 ((iN i + iN 4).toNatClampNeg))] z I (fun x J => WPc g mL (d + 80 + 1) (rc + 4) (rs + 356) 1562 [(0, .ref 0), (1, .ref 8), (2, .ref 101), (3, .int (iN i))] [.int x] z J (Zi K)) := by
  refine (P_coinsBy hs o (I 0 ((iN i + iN 1).toNatClampNeg)) (I 0 ((iN i + iN 2).toNatClampNeg)) (I 0 ((iN i + iN 3).toNatClampNeg)) (I 0 ((iN i + iN 4).toNatClampNeg))).go hz c m (fun x J hx => WPc.sz (fun sJ _ => ?_))
  have sl2 : zL z 0 = Ln := by rw [(sJ 0 (by omega)).2.1]; exact hl
  have e0 : I 0 = J 0 := by rw [(sp 0 (by omega)).2.2, (sJ 0 (by omega)).2.2]
  rw [e0] at hx
  exact vL_1562 hs ⟨iar0 _, ibk sl2 hi h35 1 (by omega), iar0 _, ibk sl2 hi h35 2 (by omega), iar0 _, ibk sl2 hi h35 3 (by omega), iar0 _, ibk sl2 hi h35 4 (by omega), by rw [hz.t 101 rfl]; rfl, hx _ (fun J1 S' o' c' m' => ⟨fun _ => (lp z J1 S' hz o' c' m').room (by omega) (by omega), fun q => absurd rfl q⟩)⟩
theorem lc_38 {rc rs i Ln : Nat} {K : Int32 → Zs → Is → Prop} (hs : GS g) (hz : Sh z) (zt : ZtO z) (sp : SpO g z I) (o : OKS S) (c : CI z I S) (m : MI I S) (hl : gL g 0 = Ln) (hi : i + 7 ≤ Ln) (h35 : Ln ≤ 3584) (lp : Lp g d rc rs i K) : Wi g m11_taken (d + 80) [.ref 8, .int (I 0 ((iN i + iN 1).toNatClampNeg)), .int (I 0 ((iN i + iN 2).toNatClampNeg))] z I (fun x J => WPc g mL (d + 80 + 1) (rc + 4) (rs + 356) 1605 [(0, .ref 0), (1, .ref 8), (2, .ref 101), (3, .int (iN i))] [.int x] z J (Zi K)) := by
  refine (P_taken hs o (I 0 ((iN i + iN 1).toNatClampNeg)) (I 0 ((iN i + iN 2).toNatClampNeg))).go hz c m (fun x J hx => WPc.sz (fun sJ _ => ?_))
  have sl2 : zL z 0 = Ln := by rw [(sJ 0 (by omega)).2.1]; exact hl
  have e0 : I 0 = J 0 := by rw [(sp 0 (by omega)).2.2, (sJ 0 (by omega)).2.2]
  rw [e0] at hx
  exact vL_1605 hs ⟨iar0 _, ibk sl2 hi h35 1 (by omega), iar0 _, ibk sl2 hi h35 2 (by omega), by rw [hz.t 101 rfl]; rfl, hx _ (fun J1 S' o' c' m' => ⟨fun _ => (lp z J1 S' hz o' c' m').room (by omega) (by omega), fun q => absurd rfl q⟩)⟩
theorem law_l {Ln : Nat} {K : Int32 → Zs → Is → Prop} (hs : GS g) (hl : gL g 0 = Ln) (h35 : Ln ≤ 3584) (hK : ∀ z I, K (iN 1) z I) : ∀ (n i : Nat) (z : Zs) (I : Is) (S : AS), Ln < i + 7 + 7 * n → i ≤ 4000 → Sh z → OKS S → CI z I S → MI I S → WPc g mL (d + 80 + 1) (4 * n + 4) (356 * n + 356) 18 [(0, .ref 0), (1, .ref 8), (2, .ref 101), (3, .int (iN i))] [] z I (Zi K) := by
  have ex : ∀ (i rc rs : Nat) (z : Zs) (I : Is) (X : Prop), Ln < i + 7 → i ≤ 4000 → zL z 0 = Ln → (((Int32.ofNat (zL z 0)) - (iN 7)) < iN i → K (iN 1) z I) ∧ (¬ ((Int32.ofNat (zL z 0)) - (iN 7)) < iN i → X) := fun i rc rs z I X h1 h2 h3 => by
    refine ⟨fun _ => hK z I, fun q => absurd ?_ q⟩
    rw [h3]
    show iN Ln - iN 7 < iN i
    rcases Nat.lt_or_ge Ln 7 with a | a
    · have : ∀ L, L < 7 → iN L - iN 7 = iM (7 - L) := by decide
      rw [this Ln a]
      exact iM_lt (by omega) (by omega) (by omega)
    · rw [iN_sub a]
      exact (iN_lt (by omega) (by omega)).mpr (by omega)
  intro n
  induction n with
  | zero =>
    intro i z I S hn hi4 hz o c m
    refine WPc.sz (fun sp zt => vL_18 hs ⟨al0 _ _, ex i 0 0 z I _ hn hi4 (by rw [(sp 0 (by omega)).2.1]; exact hl)⟩)
  | succ n ih =>
    intro i z I S hn hi4 hz o c m
    refine WPc.sz (fun sp zt => ?_)
    have sl : zL z 0 = Ln := by rw [(sp 0 (by omega)).2.1]; exact hl
    by_cases hi : i + 7 ≤ Ln
    · have lp : Lp g d (4 * n + 4) (356 * n + 356) i K := fun z I S hz o c m => by
        rw [iN_add]; exact ih (i + 7) z I S (by omega) (by omega) hz o c m
      have t8 : Nat.beq (zT z 8) 11 = true := by rw [hz.t 8 rfl]; rfl
      have nlt : ¬ ((Int32.ofNat (zL z 0)) - (iN 7)) < iN i := by
        rw [sl]
        show ¬ (iN Ln - iN 7) < iN i
        rw [iN_sub (by omega), iN_lt (by omega) (by omega)]; omega
      have ib0 : inB (iN i) (zL z 0) = true := by rw [sl]; exact inB_n (by omega) (by omega)
      show WPc g mL (d + 80 + 1) (4 * n + 4 + 4) (356 * n + 356 + 356) 18 [(0, .ref 0), (1, .ref 8), (2, .ref 101), (3, .int (iN i))] [] z I (Zi K)
      exact vL_18 hs ⟨al0 _ _, fun q => absurd q nlt, fun _ => ⟨iar0 _, ib0, ⟨fun _ => ⟨iar0 _, ibk sl hi h35 1 (by omega), t8, lc_0 hs hz zt sp o c m hl hi h35 lp⟩, fun _ => ⟨fun _ => ⟨iar0 _, ibk sl hi h35 1 (by omega), iar0 _, ibk sl hi h35 2 (by omega), iar0 _, ibk sl hi h35 3 (by omega), iar0 _, ibk sl hi h35 4 (by omega), iar0 _, ibk sl hi h35 5 (by omega), iar0 _, ibk sl hi h35 6 (by omega), t8, lc_1 hs hz zt sp o c m hl hi h35 lp⟩, fun _ => ⟨fun _ => ⟨t8, lc_2 hs hz zt sp o c m hl hi h35 lp⟩, fun _ => ⟨fun _ => ⟨iar0 _, ibk sl hi h35 1 (by omega), t8, lc_3 hs hz zt sp o c m hl hi h35 lp⟩, fun _ => ⟨fun _ => ⟨iar0 _, ibk sl hi h35 1 (by omega), iar0 _, ibk sl hi h35 2 (by omega), iar0 _, ibk sl hi h35 3 (by omega), iar0 _, ibk sl hi h35 4 (by omega), t8, lc_4 hs hz zt sp o c m hl hi h35 lp⟩, fun _ => ⟨fun _ => ⟨iar0 _, ibk sl hi h35 1 (by omega), iar0 _, ibk sl hi h35 2 (by omega), iar0 _, ibk sl hi h35 3 (by omega), t8, lc_5 hs hz zt sp o c m hl hi h35 lp⟩, fun _ => ⟨fun _ => ⟨iar0 _, ibk sl hi h35 1 (by omega), iar0 _, ibk sl hi h35 2 (by omega), t8, lc_6 hs hz zt sp o c m hl hi h35 lp⟩, fun _ => ⟨fun _ => ⟨t8, lc_7 hs hz zt sp o c m hl hi h35 lp⟩, fun _ => ⟨fun _ => ⟨iar0 _, ibk sl hi h35 1 (by omega), iar0 _, ibk sl hi h35 2 (by omega), iar0 _, ibk sl hi h35 3 (by omega), t8, lc_8 hs hz zt sp o c m hl hi h35 lp⟩, fun _ => ⟨fun _ => ⟨iar0 _, ibk sl hi h35 1 (by omega), iar0 _, ibk sl hi h35 2 (by omega), t8, lc_9 hs hz zt sp o c m hl hi h35 lp⟩, fun _ => ⟨fun _ => ⟨iar0 _, ibk sl hi h35 1 (by omega), iar0 _, ibk sl hi h35 2 (by omega), t8, lc_10 hs hz zt sp o c m hl hi h35 lp⟩, fun _ => ⟨fun _ => ⟨iar0 _, ibk sl hi h35 1 (by omega), iar0 _, ibk sl hi h35 2 (by omega), iar0 _, ibk sl hi h35 3 (by omega), t8, lc_11 hs hz zt sp o c m hl hi h35 lp⟩, fun _ => ⟨fun _ => ⟨iar0 _, ibk sl hi h35 1 (by omega), iar0 _, ibk sl hi h35 2 (by omega), t8, lc_12 hs hz zt sp o c m hl hi h35 lp⟩, fun _ => ⟨fun _ => ⟨iar0 _, ibk sl hi h35 1 (by omega), iar0 _, ibk sl hi h35 2 (by omega), iar0 _, ibk sl hi h35 3 (by omega), iar0 _, ibk sl hi h35 4 (by omega), t8, lc_13 hs hz zt sp o c m hl hi h35 lp⟩, fun _ => ⟨fun _ => ⟨iar0 _, ibk sl hi h35 1 (by omega), t8, lc_14 hs hz zt sp o c m hl hi h35 lp⟩, fun _ => ⟨fun _ => ⟨iar0 _, ibk sl hi h35 1 (by omega), iar0 _, ibk sl hi h35 2 (by omega), t8, lc_15 hs hz zt sp o c m hl hi h35 lp⟩, fun _ => ⟨fun _ => ⟨iar0 _, ibk sl hi h35 1 (by omega), iar0 _, ibk sl hi h35 2 (by omega), t8, lc_16 hs hz zt sp o c m hl hi h35 lp⟩, fun _ => ⟨fun _ => ⟨iar0 _, ibk sl hi h35 1 (by omega), iar0 _, ibk sl hi h35 2 (by omega), iar0 _, ibk sl hi h35 3 (by omega), t8, lc_17 hs hz zt sp o c m hl hi h35 lp⟩, fun _ => ⟨fun _ => ⟨iar0 _, ibk sl hi h35 1 (by omega), iar0 _, ibk sl hi h35 2 (by omega), iar0 _, ibk sl hi h35 3 (by omega), iar0 _, ibk sl hi h35 4 (by omega), t8, lc_18 hs hz zt sp o c m hl hi h35 lp⟩, fun _ => ⟨fun _ => ⟨iar0 _, ibk sl hi h35 1 (by omega), iar0 _, ibk sl hi h35 2 (by omega), t8, lc_19 hs hz zt sp o c m hl hi h35 lp⟩, fun _ => ⟨fun _ => ⟨iar0 _, ibk sl hi h35 1 (by omega), iar0 _, ibk sl hi h35 2 (by omega), iar0 _, ibk sl hi h35 3 (by omega), t8, lc_20 hs hz zt sp o c m hl hi h35 lp⟩, fun _ => ⟨fun _ => ⟨iar0 _, ibk sl hi h35 1 (by omega), t8, lc_21 hs hz zt sp o c m hl hi h35 lp⟩, fun _ => ⟨fun _ => ⟨iar0 _, ibk sl hi h35 1 (by omega), iar0 _, ibk sl hi h35 2 (by omega), iar0 _, ibk sl hi h35 3 (by omega), iar0 _, ibk sl hi h35 4 (by omega), t8, lc_22 hs hz zt sp o c m hl hi h35 lp⟩, fun _ => ⟨fun _ => ⟨iar0 _, ibk sl hi h35 1 (by omega), iar0 _, ibk sl hi h35 2 (by omega), t8, lc_23 hs hz zt sp o c m hl hi h35 lp⟩, fun _ => ⟨fun _ => ⟨t8, lc_24 hs hz zt sp o c m hl hi h35 lp⟩, fun _ => ⟨fun _ => ⟨iar0 _, ibk sl hi h35 1 (by omega), iar0 _, ibk sl hi h35 2 (by omega), t8, lc_25 hs hz zt sp o c m hl hi h35 lp⟩, fun _ => ⟨fun _ => ⟨iar0 _, ibk sl hi h35 1 (by omega), t8, lc_26 hs hz zt sp o c m hl hi h35 lp⟩, fun _ => ⟨fun _ => ⟨iar0 _, ibk sl hi h35 1 (by omega), iar0 _, ibk sl hi h35 2 (by omega), t8, lc_27 hs hz zt sp o c m hl hi h35 lp⟩, fun _ => ⟨fun _ => ⟨iar0 _, ibk sl hi h35 1 (by omega), iar0 _, ibk sl hi h35 2 (by omega), iar0 _, ibk sl hi h35 3 (by omega), t8, lc_28 hs hz zt sp o c m hl hi h35 lp⟩, fun _ => ⟨fun _ => ⟨iar0 _, ibk sl hi h35 1 (by omega), iar0 _, ibk sl hi h35 2 (by omega), iar0 _, ibk sl hi h35 3 (by omega), t8, lc_29 hs hz zt sp o c m hl hi h35 lp⟩, fun _ => ⟨fun _ => ⟨iar0 _, ibk sl hi h35 1 (by omega), iar0 _, ibk sl hi h35 2 (by omega), t8, lc_30 hs hz zt sp o c m hl hi h35 lp⟩, fun _ => ⟨fun _ => ⟨iar0 _, ibk sl hi h35 1 (by omega), iar0 _, ibk sl hi h35 2 (by omega), iar0 _, ibk sl hi h35 3 (by omega), iar0 _, ibk sl hi h35 4 (by omega), t8, lc_31 hs hz zt sp o c m hl hi h35 lp⟩, fun _ => ⟨fun _ => ⟨t8, lc_32 hs hz zt sp o c m hl hi h35 lp⟩, fun _ => ⟨fun _ => ⟨t8, lc_33 hs hz zt sp o c m hl hi h35 lp⟩, fun _ => ⟨fun _ => ⟨iar0 _, ibk sl hi h35 1 (by omega), iar0 _, ibk sl hi h35 2 (by omega), iar0 _, ibk sl hi h35 3 (by omega), t8, lc_34 hs hz zt sp o c m hl hi h35 lp⟩, fun _ => ⟨fun _ => ⟨iar0 _, ibk sl hi h35 1 (by omega), iar0 _, ibk sl hi h35 2 (by omega), iar0 _, ibk sl hi h35 3 (by omega), t8, lc_35 hs hz zt sp o c m hl hi h35 lp⟩, fun _ => ⟨fun _ => ⟨iar0 _, ibk sl hi h35 1 (by omega), iar0 _, ibk sl hi h35 2 (by omega), iar0 _, ibk sl hi h35 3 (by omega), iar0 _, ibk sl hi h35 4 (by omega), iar0 _, ibk sl hi h35 5 (by omega), t8, lc_36 hs hz zt sp o c m hl hi h35 lp⟩, fun _ => ⟨fun _ => ⟨iar0 _, ibk sl hi h35 1 (by omega), iar0 _, ibk sl hi h35 2 (by omega), iar0 _, ibk sl hi h35 3 (by omega), iar0 _, ibk sl hi h35 4 (by omega), t8, lc_37 hs hz zt sp o c m hl hi h35 lp⟩, fun _ => ⟨fun _ => ⟨iar0 _, ibk sl hi h35 1 (by omega), iar0 _, ibk sl hi h35 2 (by omega), t8, lc_38 hs hz zt sp o c m hl hi h35 lp⟩, fun _ => (lp z I S hz o c m).room (by omega) (by omega)⟩⟩⟩⟩⟩⟩⟩⟩⟩⟩⟩⟩⟩⟩⟩⟩⟩⟩⟩⟩⟩⟩⟩⟩⟩⟩⟩⟩⟩⟩⟩⟩⟩⟩⟩⟩⟩⟩⟩⟩⟩
    · show WPc g mL (d + 80 + 1) (4 * n + 4 + 4) (356 * n + 356 + 356) 18 [(0, .ref 0), (1, .ref 8), (2, .ref 101), (3, .int (iN i))] [] z I (Zi K)
      exact vL_18 hs ⟨al0 _ _, ex i 0 0 z I _ (by omega) hi4 sl⟩
end LW
