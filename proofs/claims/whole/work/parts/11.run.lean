/-! the walker over many instructions; it stops at the cuts -/
def pick (ks : List Nat) (lv : List (Nat × Value)) : List (Nat × Value) := match ks with
  | [] => []
  | k :: r => match lk lv k with
    | some v => (k, v) :: pick r lv
    | none => pick r lv
theorem pick_sub : ∀ {ks : List Nat} {lv : List (Nat × Value)}, ∀ q ∈ pick ks lv, q ∈ lv
  | [], _, q, h => by cases h
  | k :: r, lv, q, h => by
    unfold pick at h
    split at h
    next v hv =>
      rcases List.mem_cons.mp h with h1 | h1
      · rw [h1]; exact lk_mem hv
      · exact pick_sub q h1
    next => exact pick_sub q h
def wr (g : Gt) (kt : KT) (y : Mth) (ini : Bool) (T : TT) (cuts : List (Nat × List Nat)) (Q : Option Value → Zs → Is → Prop) (d : Nat) : Nat → Nat → Nat → Nat → List (Nat × Value) → List Value → Zs → Is → Prop
  | 0, rc, rs, pc, lv, st, z, I => WPc g y d rc rs pc lv st z I Q
  | K + 1, rc, rs, pc, lv, st, z, I => match fnd T pc with
    | some (ins, _) => wst g kt y ini Q (fun rc rs pc lv st z I => match fnd cuts pc with
      | some ks => WPc g y d rc rs pc (pick ks lv) st z I Q
      | none => wr g kt y ini T cuts Q d K rc rs pc lv st z I) ins d rc rs pc lv st z I
    | none => False
theorem wr_ok {g : Gt} {kt : KT} {y : Mth} {ini : Bool} {T : TT} {cuts : List (Nat × List Nat)} {Q : Option Value → Zs → Is → Prop} {d : Nat} (hA : AllOK) (hs : GS g) (hkt : KTok g y.1.cls kt) (hini : ini = true → y.1.name = "<init>") (hT : tabOK y T = true) : ∀ (K rc rs pc : Nat) (lv : List (Nat × Value)) (st : List Value) (z : Zs) (I : Is), wr g kt y ini T cuts Q d K rc rs pc lv st z I → WPc g y d rc rs pc lv st z I Q
  | 0, _, _, _, _, _, _, _, h => h
  | K + 1, rc, rs, pc, lv, st, z, I, h => by
    unfold wr at h
    split at h
    next ins len hf =>
      have hm := List.all_eq_true.mp hT _ (fnd_mem hf)
      rw [Bool.and_eq_true] at hm
      have hd : decode y.2.1 pc = .ok (ins, len) := of_decide_eq_true hm.1
      have hl : len = ilen ins len := Nat.eq_of_beq_eq_true hm.2
      refine wst_ok hA hs hkt hini (fun rc rs pc lv st z I hgo => ?_) hd hl h
      split at hgo
      next ks _ => exact r_sub pick_sub hgo
      next => exact wr_ok hA hs hkt hini hT K rc rs pc lv st z I hgo
    next => exact h.elim
theorem wcut {g : Gt} {y : Mth} {d rc rs pc : Nat} {lv lv2 : List (Nat × Value)} {st : List Value} {z : Zs} {I : Is} {Q : Option Value → Zs → Is → Prop} (ks : List Nat) (e : pick ks lv = lv2) (h : WPc g y d rc rs pc lv2 st z I Q) : WPc g y d rc rs pc lv st z I Q := r_sub (fun q hq => pick_sub q (by rw [e]; exact hq)) h
