/-! the class' reader: what it stands at -/
def RS (T : Nat → Nat) (n : Nat) (J : Is) (ts : List Tk) (o L : Nat) : Prop :=
  (J 22 3 = iN n ∧ J 22 8 = iN o ∧ J 22 9 = iN L ∧ n ≤ 160) ∧ (∀ i, J 23 i = iN (T i)) ∧ J 22 6 = iN (hdK ts) ∧ J 22 4 = iN (hdS n ts) ∧ (hdK ts = 20 → J 22 7 = iN (hdN ts)) ∧ ∃ e, e ≤ n ∧ J 22 5 = iN e ∧ ts.tail = tks T n e
def CdL (J : Is) (L : Nat) (c : List Nat) : Prop := ∀ i x, c[i]? = some x → J 24 (L + i) = cTr x
def RP (T : Nat → Nat) (n : Nat) (I : Is) (L o : Nat) (r : List Tk) (c : List Nat) (J : Is) : Prop :=
  Of [22, 24] I J ∧ (∀ i, i < L → J 24 i = I 24 i) ∧ CdL J L c ∧ RS T n J r o (L + c.length)
section RDR
variable {T : Nat → Nat} {n o L : Nat} {I J H : Is} {ts r : List Tk} {c : List Nat}
theorem RS.of22 (h : RS T n I ts o L) (e : J 22 = I 22) (e2 : J 23 = I 23) : RS T n J ts o L := by
  unfold RS; rw [e, e2]; exact h
theorem RS.op (h : RS T n I ts o L) (o' : Nat) : RS T n (up2 I 22 8 (iN o')) ts o' L := by
  obtain ⟨⟨h1, h2, h3, h4⟩, h5, h6, h7, h8, e, h9, h10, h11⟩ := h
  unfold RS
  rw [up2_ra, up2_ro _ (by omega)]
  rw [up1_o _ (by omega), up1_s, up1_o _ (by omega), up1_o _ (by omega), up1_o _ (by omega), up1_o _ (by omega)]
  exact ⟨⟨h1, rfl, h3, h4⟩, h5, h6, h7, h8, e, h9, by rw [up1_o _ (by omega)]; exact h10, h11⟩
theorem RS.em (h : RS T n I ts o L) (v : Int32) : RS T n (up2 (up2 I 24 L v) 22 9 (iN (L + 1))) ts o (L + 1) := by
  obtain ⟨⟨h1, h2, h3, h4⟩, h5, h6, h7, h8, e, h9, h10, h11⟩ := h
  unfold RS
  rw [up2_ra, up2_ro _ (by omega), up2_ro _ (by omega), up2_ro _ (by omega)]
  rw [up1_o _ (by omega), up1_s, up1_o _ (by omega), up1_o _ (by omega), up1_o _ (by omega), up1_o _ (by omega)]
  exact ⟨⟨h1, h2, rfl, h4⟩, h5, h6, h7, h8, e, h9, by rw [up1_o _ (by omega)]; exact h10, h11⟩
theorem RP.rf (h : RS T n I ts o L) : RP T n I L o ts [] I := ⟨Of.rf _ I, fun _ _ => rfl, (fun i x q => by cases q), h⟩
theorem RP.adv (h : RP T n I L o r c J) (e : Of [22] J H) (hR : RS T n H ts o (L + c.length)) : RP T n I L o ts c H := by
  have e4 := e 24 (by simp)
  exact ⟨h.1.tr (e.mo (by simp)), fun i hi => by rw [e4]; exact h.2.1 i hi, fun i x q => by rw [e4]; exact h.2.2.1 i x q, hR⟩
theorem RP.seq {r' : List Tk} {c' : List Nat} (h : RP T n I L o r c J) (h2 : RP T n J (L + c.length) o r' c' H) : RP T n I L o r' (c ++ c') H := by
  refine ⟨h.1.tr h2.1, fun i hi => by rw [h2.2.1 i (by omega)]; exact h.2.1 i hi, fun i x q => ?_, by rw [List.length_append, ← Nat.add_assoc]; exact h2.2.2.2⟩
  rw [List.getElem?_append] at q
  split at q
  next a => rw [h2.2.1 _ (by omega)]; exact h.2.2.1 i x q
  next a =>
    have := h2.2.2.1 (i - c.length) x q
    rw [show L + c.length + (i - c.length) = L + i by omega] at this
    exact this
theorem RP.em {x : Nat} {v : Int32} (h : RP T n I L o r c J) (hv : v = cTr x) : RP T n I L o r (c ++ [x]) (up2 (up2 J 24 (L + c.length) v) 22 9 (iN (L + c.length + 1))) := by
  refine ⟨(h.1.upt (by simp) _ _).upt (by simp) _ _, fun i hi => ?_, fun i y q => ?_, ?_⟩
  · rw [up2_ro _ (by omega), up2_ra, up1_o _ (by omega)]; exact h.2.1 i hi
  · rw [up2_ro _ (by omega), up2_ra]
    rw [List.getElem?_append] at q
    split at q
    next a => rw [up1_o _ (by omega)]; exact h.2.2.1 i y q
    next a =>
      have ei : i - c.length = 0 := by
        rcases Nat.eq_zero_or_pos (i - c.length) with z | z
        · exact z
        · rw [List.getElem?_eq_none (by simp; omega)] at q; cases q
      rw [ei] at q
      cases q
      rw [show L + i = L + c.length by omega, up1_s, hv]
  · rw [List.length_append]; exact h.2.2.2.em v
theorem RP.op (h : RP T n I L o r c J) (o' : Nat) : RP T n I L o' r c (up2 J 22 8 (iN o')) := by
  refine ⟨h.1.upt (by simp) _ _, fun i hi => ?_, fun i x q => ?_, h.2.2.2.op o'⟩
  · rw [up2_ro _ (by omega)]; exact h.2.1 i hi
  · rw [up2_ro _ (by omega)]; exact h.2.2.1 i x q
theorem RP.st (h : RP T n J L o r c H) (e : Of [22, 24] I J) (e2 : ∀ i, i < L → J 24 i = I 24 i) : RP T n I L o r c H := ⟨e.tr h.1, fun i hi => by rw [h.2.1 i hi]; exact e2 i hi, h.2.2.1, h.2.2.2⟩
end RDR
def bN (b : Bool) : Int32 := match b with
  | true => iN 1
  | false => iN 0
section RDM
variable {g : Gt} {d : Nat} {z : Zs} {I : Is} {T : Nat → Nat} {n o L : Nat} {ts : List Tk}
theorem bN_f {X Y : Prop} (x : X) : (bN false = iN 0 → X) ∧ (¬ bN false = iN 0 → Y) := ⟨fun _ => x, fun q => absurd rfl q⟩
theorem bN_t {X Y : Prop} (y : Y) : (bN true = iN 0 → X) ∧ (¬ bN true = iN 0 → Y) := ⟨fun q => absurd q (by decide), fun _ => y⟩
theorem nb_b (b : Bool) : narB .boolean (bN b) = true := by cases b <;> rfl
theorem c_emit {v : Int32} {K : Is → Prop} (hs : GS g) (hz : ShC z) (h : I 22 9 = iN L) (hl : L < 160) (hK : K (up2 (up2 I 24 L v) 22 9 (iN (L + 1)))) : Wv g m5_emit d [.ref 22, .int v] z I K := by
  refine w5_emit hs hz ?_
  rw [h, iN_toN (by omega), iN_add]
  exact ⟨fun q => absurd ((iN_le (by omega) (by omega)).mp q) (by omega), fun _ => ⟨inB_n hl (by omega), hK⟩⟩
end RDM
