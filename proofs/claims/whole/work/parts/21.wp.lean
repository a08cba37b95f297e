/-! WHAT A PIECE OF CODE COMES TO: goal first -/
abbrev IV : Type := Nat → Nat → Int32
def mm_N0 (iv : IV) : mm_M := (101, kdT, rvT, iv)
/-- from row i of method j, with locals L and stack st, over the ints iv: it ends, with Q -/
def wp (X : Nat × (Nat → Int32)) (B : Nat × Nat) (j i : Nat) (L : mm_Lo) (st : List Value) (iv : IV) (Q : Option Value → IV → Prop) : Prop :=
  ∃ (f : Nat) (r : Option Value) (iv' : IV), mm_x X f j i L st B (mm_N0 iv) = some (r, mm_N0 iv') ∧ Q r iv'
/-- a call of method j -/
def wc (X : Nat × (Nat → Int32)) (j : Nat) (as : List Value) (iv : IV) (Q : Option Value → IV → Prop) : Prop :=
  wp X (0, 0) j 0 (mm_ini as (mm_me j).2.2.1) [] iv Q
theorem mm_x_mono1 (X : Nat × (Nat → Int32)) : ∀ (f j i : Nat) (L : mm_Lo) (st : List Value) (B : Nat × Nat) (μ : mm_M) (q : Option Value × mm_M), mm_x X f j i L st B μ = some q → mm_x X (f + 1) j i L st B μ = some q := by
  intro f
  induction f with
  | zero => intro j i L st B μ q h; cases h
  | succ f ih =>
    intro j i L st B μ q h
    unfold mm_x at h ⊢
    cases hen : mm_en j i with
    | none => rw [hen] at h; cases h
    | some e0 =>
      obtain ⟨tag, pc, ins, len, x, y, z⟩ := e0
      rw [hen] at h
      simp only at h ⊢
      match tag, h with
      | 0, h =>
        simp only at h ⊢
        cases hp : mm_pure ins y L st with
        | none => rw [hp] at h; cases h
        | some w => rw [hp] at h; exact ih _ _ _ _ _ _ _ h
      | 1, h =>
        simp only at h ⊢
        cases hp : mm_br ins st with
        | none => rw [hp] at h; cases h
        | some w =>
          obtain ⟨b, st'⟩ := w
          rw [hp] at h
          cases b with
          | true => exact ih _ _ _ _ _ _ _ h
          | false => exact ih _ _ _ _ _ _ _ h
      | 2, h => exact ih _ _ _ _ _ _ _ h
      | 3, h =>
        simp only at h ⊢
        cases hp : mm_mem X j ins x y st B μ with
        | none => rw [hp] at h; cases h
        | some w => rw [hp] at h; exact ih _ _ _ _ _ _ _ h
      | 4, h =>
        simp only at h ⊢
        cases hp : mm_cl j x st B μ with
        | none => rw [hp] at h; cases h
        | some w =>
          obtain ⟨as, rest, B'⟩ := w
          rw [hp] at h
          simp only at h ⊢
          cases hc : mm_x X f x 0 (mm_ini as (mm_me x).2.2.1) [] (0, 0) μ with
          | none => rw [hc] at h; cases h
          | some w2 =>
            rw [hc] at h
            rw [ih _ _ _ _ _ _ _ hc]
            exact ih _ _ _ _ _ _ _ h
      | 5, h => exact h
      | n + 6, h =>
        simp only at h ⊢
        cases hp : mm_sw j pc ins st with
        | none => rw [hp] at h; cases h
        | some w => rw [hp] at h; exact ih _ _ _ _ _ _ _ h
theorem mm_x_mono {X : Nat × (Nat → Int32)} {f g j i : Nat} {L : mm_Lo} {st : List Value} {B : Nat × Nat} {μ : mm_M} {q : Option Value × mm_M} (h : mm_x X f j i L st B μ = some q) (hg : f ≤ g) : mm_x X g j i L st B μ = some q := by
  induction hg with
  | refl => exact h
  | step _ ih => exact mm_x_mono1 X _ _ _ _ _ _ _ _ ih
section WPR
variable {X : Nat × (Nat → Int32)} {B : Nat × Nat} {j i : Nat} {L : mm_Lo} {st : List Value} {iv : IV} {Q : Option Value → IV → Prop} {T : List mm_e}
/-- one step, if it is one -/
theorem wp_step {i' : Nat} {L' : mm_Lo} {st' : List Value} {iv' : IV} (h : ∀ f, mm_x X (f + 1) j i L st B (mm_N0 iv) = mm_x X f j i' L' st' B (mm_N0 iv')) (k : wp X B j i' L' st' iv' Q) : wp X B j i L st iv Q := by
  obtain ⟨f, r, iv2, h1, h2⟩ := k
  exact ⟨f + 1, r, iv2, by rw [h]; exact h1, h2⟩
/-- rows that ask nothing: k of them at once -/
def mm_sr (X : Nat × (Nat → Int32)) (T : List mm_e) (iv : IV) : Nat → Nat → mm_Lo → List Value → Option (Nat × mm_Lo × List Value)
  | 0, i, L, st => some (i, L, st)
  | k + 1, i, L, st => match T[i]? with
    | some (0, _, ins, _, _, y, _) => match mm_pure ins y L st with
      | some (L', st') => mm_sr X T iv k (i + 1) L' st'
      | none => none
    | some (2, _, _, _, x, _, _) => mm_sr X T iv k x L st
    | some (3, _, ins, _, x, y, _) => match mm_m1 X ins x y st (mm_N0 iv) with
      | some st' => mm_sr X T iv k (i + 1) L st'
      | none => none
    | _ => none
theorem wp_s (hT : mm_tb j = T) : ∀ (k : Nat) {i : Nat} {L : mm_Lo} {st : List Value} {i' : Nat} {L' : mm_Lo} {st' : List Value}, mm_sr X T iv k i L st = some (i', L', st') → wp X B j i' L' st' iv Q → wp X B j i L st iv Q := by
  intro k
  induction k with
  | zero => intro i L st i' L' st' h hk; cases h; exact hk
  | succ k ih =>
    intro i L st i' L' st' h hk
    unfold mm_sr at h
    split at h
    · rename_i pc ins len x y z he
      split at h
      · rename_i L1 st1 hp
        refine wp_step (fun f => ?_) (ih h hk)
        show (match mm_en j i with | none => none | some (tag, pc, ins, _, x, y, _) => _) = _
        unfold mm_en
        rw [hT, he]
        simp only [hp]
      · cases h
    · rename_i pc ins len x y z he
      refine wp_step (fun f => ?_) (ih h hk)
      show (match mm_en j i with | none => none | some (tag, pc, ins, _, x, y, _) => _) = _
      unfold mm_en
      rw [hT, he]
      rfl
    · rename_i pc ins len x y z he
      split at h
      · rename_i st1 hp
        refine wp_step (fun f => ?_) (ih h hk)
        show (match mm_en j i with | none => none | some (tag, pc, ins, _, x, y, _) => _) = _
        unfold mm_en
        rw [hT, he]
        simp only [mm_mem, hp]
      · cases h
    · cases h
theorem wp_br {ins : Instr} {pc len x y z : Nat} {b : Bool} {st' : List Value} (hT : mm_tb j = T) (he : T[i]? = some (1, pc, ins, len, x, y, z)) (h : mm_br ins st = some (b, st')) (kt : b = true → wp X B j x L st' iv Q) (kf : b = false → wp X B j (i + 1) L st' iv Q) : wp X B j i L st iv Q := by
  cases b with
  | true =>
    refine wp_step (fun f => ?_) (kt rfl)
    show (match mm_en j i with | none => none | some (tag, pc, ins, _, x, y, _) => _) = _
    unfold mm_en
    rw [hT, he]
    simp only [h]
  | false =>
    refine wp_step (fun f => ?_) (kf rfl)
    show (match mm_en j i with | none => none | some (tag, pc, ins, _, x, y, _) => _) = _
    unfold mm_en
    rw [hT, he]
    simp only [h]
theorem wp_if_eq {o : Int} {pc len x y z : Nat} {v : Int32} {st : List Value} (hT : mm_tb j = T) (he : T[i]? = some (1, pc, .ifCond .eq o, len, x, y, z)) (k : (v = 0 → wp X B j x L st iv Q) ∧ (¬ v = 0 → wp X B j (i + 1) L st iv Q)) : wp X B j i L (.int v :: st) iv Q :=
  wp_br hT he rfl (fun h => k.1 (of_decide_eq_true h)) (fun h => k.2 (of_decide_eq_false h))
theorem wp_if_ne {o : Int} {pc len x y z : Nat} {v : Int32} {st : List Value} (hT : mm_tb j = T) (he : T[i]? = some (1, pc, .ifCond .ne o, len, x, y, z)) (k : (v = 0 → wp X B j (i + 1) L st iv Q) ∧ (¬ v = 0 → wp X B j x L st iv Q)) : wp X B j i L (.int v :: st) iv Q :=
  wp_br hT he rfl (fun h => k.2 (of_decide_eq_false (by simpa [mm_cmp] using h))) (fun h => k.1 (of_decide_eq_true (by simpa [mm_cmp] using h)))
theorem wp_if_lt {o : Int} {pc len x y z : Nat} {v : Int32} {st : List Value} (hT : mm_tb j = T) (he : T[i]? = some (1, pc, .ifCond .lt o, len, x, y, z)) (k : (v < 0 → wp X B j x L st iv Q) ∧ (¬ v < 0 → wp X B j (i + 1) L st iv Q)) : wp X B j i L (.int v :: st) iv Q :=
  wp_br hT he rfl (fun h => k.1 (of_decide_eq_true h)) (fun h => k.2 (of_decide_eq_false h))
theorem wp_if_ge {o : Int} {pc len x y z : Nat} {v : Int32} {st : List Value} (hT : mm_tb j = T) (he : T[i]? = some (1, pc, .ifCond .ge o, len, x, y, z)) (k : (0 ≤ v → wp X B j x L st iv Q) ∧ (¬ 0 ≤ v → wp X B j (i + 1) L st iv Q)) : wp X B j i L (.int v :: st) iv Q :=
  wp_br hT he rfl (fun h => k.1 (of_decide_eq_true h)) (fun h => k.2 (of_decide_eq_false h))
theorem wp_if_gt {o : Int} {pc len x y z : Nat} {v : Int32} {st : List Value} (hT : mm_tb j = T) (he : T[i]? = some (1, pc, .ifCond .gt o, len, x, y, z)) (k : (0 < v → wp X B j x L st iv Q) ∧ (¬ 0 < v → wp X B j (i + 1) L st iv Q)) : wp X B j i L (.int v :: st) iv Q :=
  wp_br hT he rfl (fun h => k.1 (of_decide_eq_true h)) (fun h => k.2 (of_decide_eq_false h))
theorem wp_if_le {o : Int} {pc len x y z : Nat} {v : Int32} {st : List Value} (hT : mm_tb j = T) (he : T[i]? = some (1, pc, .ifCond .le o, len, x, y, z)) (k : (v ≤ 0 → wp X B j x L st iv Q) ∧ (¬ v ≤ 0 → wp X B j (i + 1) L st iv Q)) : wp X B j i L (.int v :: st) iv Q :=
  wp_br hT he rfl (fun h => k.1 (of_decide_eq_true h)) (fun h => k.2 (of_decide_eq_false h))
theorem wp_ic_eq {o : Int} {pc len x y z : Nat} {v w : Int32} {st : List Value} (hT : mm_tb j = T) (he : T[i]? = some (1, pc, .if_icmp .eq o, len, x, y, z)) (k : (v = w → wp X B j x L st iv Q) ∧ (¬ v = w → wp X B j (i + 1) L st iv Q)) : wp X B j i L (.int w :: .int v :: st) iv Q :=
  wp_br hT he rfl (fun h => k.1 (of_decide_eq_true h)) (fun h => k.2 (of_decide_eq_false h))
theorem wp_ic_ne {o : Int} {pc len x y z : Nat} {v w : Int32} {st : List Value} (hT : mm_tb j = T) (he : T[i]? = some (1, pc, .if_icmp .ne o, len, x, y, z)) (k : (v = w → wp X B j (i + 1) L st iv Q) ∧ (¬ v = w → wp X B j x L st iv Q)) : wp X B j i L (.int w :: .int v :: st) iv Q :=
  wp_br hT he rfl (fun h => k.2 (of_decide_eq_false (by simpa [mm_cmp] using h))) (fun h => k.1 (of_decide_eq_true (by simpa [mm_cmp] using h)))
theorem wp_ic_lt {o : Int} {pc len x y z : Nat} {v w : Int32} {st : List Value} (hT : mm_tb j = T) (he : T[i]? = some (1, pc, .if_icmp .lt o, len, x, y, z)) (k : (v < w → wp X B j x L st iv Q) ∧ (¬ v < w → wp X B j (i + 1) L st iv Q)) : wp X B j i L (.int w :: .int v :: st) iv Q :=
  wp_br hT he rfl (fun h => k.1 (of_decide_eq_true h)) (fun h => k.2 (of_decide_eq_false h))
theorem wp_ic_ge {o : Int} {pc len x y z : Nat} {v w : Int32} {st : List Value} (hT : mm_tb j = T) (he : T[i]? = some (1, pc, .if_icmp .ge o, len, x, y, z)) (k : (w ≤ v → wp X B j x L st iv Q) ∧ (¬ w ≤ v → wp X B j (i + 1) L st iv Q)) : wp X B j i L (.int w :: .int v :: st) iv Q :=
  wp_br hT he rfl (fun h => k.1 (of_decide_eq_true h)) (fun h => k.2 (of_decide_eq_false h))
theorem wp_ic_gt {o : Int} {pc len x y z : Nat} {v w : Int32} {st : List Value} (hT : mm_tb j = T) (he : T[i]? = some (1, pc, .if_icmp .gt o, len, x, y, z)) (k : (w < v → wp X B j x L st iv Q) ∧ (¬ w < v → wp X B j (i + 1) L st iv Q)) : wp X B j i L (.int w :: .int v :: st) iv Q :=
  wp_br hT he rfl (fun h => k.1 (of_decide_eq_true h)) (fun h => k.2 (of_decide_eq_false h))
theorem wp_ic_le {o : Int} {pc len x y z : Nat} {v w : Int32} {st : List Value} (hT : mm_tb j = T) (he : T[i]? = some (1, pc, .if_icmp .le o, len, x, y, z)) (k : (v ≤ w → wp X B j x L st iv Q) ∧ (¬ v ≤ w → wp X B j (i + 1) L st iv Q)) : wp X B j i L (.int w :: .int v :: st) iv Q :=
  wp_br hT he rfl (fun h => k.1 (of_decide_eq_true h)) (fun h => k.2 (of_decide_eq_false h))
/-- a row of memory read, or written -/
theorem wp_m1 {ins : Instr} {pc len x y z : Nat} {st' : List Value} (hT : mm_tb j = T) (he : T[i]? = some (3, pc, ins, len, x, y, z)) (h : mm_m1 X ins x y st (mm_N0 iv) = some st') (k : wp X B j (i + 1) L st' iv Q) : wp X B j i L st iv Q := by
  refine wp_step (fun f => ?_) k
  show (match mm_en j i with | none => none | some (tag, pc, ins, _, x, y, _) => _) = _
  unfold mm_en
  rw [hT, he]
  simp only [mm_mem, h]
theorem wp_m2 {ins : Instr} {pc len x y z : Nat} {st' : List Value} {iv' : IV} (hT : mm_tb j = T) (he : T[i]? = some (3, pc, ins, len, x, y, z)) (h1 : mm_m1 X ins x y st (mm_N0 iv) = none) (h : mm_m2 ins x y st (mm_N0 iv) = some (st', mm_N0 iv')) (k : wp X B j (i + 1) L st' iv' Q) : wp X B j i L st iv Q := by
  refine wp_step (fun f => ?_) k
  show (match mm_en j i with | none => none | some (tag, pc, ins, _, x, y, _) => _) = _
  unfold mm_en
  rw [hT, he]
  simp only [mm_mem, h1, h]
theorem kd_eq (iv : IV) (a : Nat) : mm_kd (mm_N0 iv) a = if 1 ≤ a ∧ a < 101 then kdT a else (0, 0) := by
  unfold mm_kd
  by_cases h : 1 ≤ a ∧ a < 101
  · rw [if_pos h, if_pos ⟨h.1, h.2, by omega⟩]
    rfl
  · rw [if_neg h, if_neg (fun q => h ⟨q.1, q.2.1⟩)]
theorem kd_of {iv : IV} {a : Nat} {q : Nat × Nat} (h : kdT a = q) (hq : 1 ≤ q.1) : mm_kd (mm_N0 iv) a = q := by
  rw [kd_eq, if_pos, h]
  refine ⟨?_, ?_⟩
  · rcases Nat.eq_zero_or_pos a with rfl | h0
    · rw [← h] at hq
      exact absurd hq (by decide)
    · exact h0
  · rcases Nat.lt_or_ge a 101 with h1 | h1
    · exact h1
    · have : kdT a = (0, 0) := by
        unfold kdT
        rw [List.getD_eq_getElem?_getD, List.getElem?_eq_none (by exact h1)]
        rfl
      rw [this] at h
      rw [← h] at hq
      exact absurd hq (by decide)
theorem kd_lt {a : Nat} {q : Nat × Nat} (h : kdT a = q) (hq : 1 ≤ q.1) : a < 1000000 := by
  rcases Nat.lt_or_ge a 101 with h1 | h1
  · omega
  · have : kdT a = (0, 0) := by
      unfold kdT
      rw [List.getD_eq_getElem?_getD, List.getElem?_eq_none (by exact h1)]
      rfl
    rw [this] at h
    rw [← h] at hq
    exact absurd hq (by decide)
theorem wp_iald {pc len x y z a n : Nat} {v : Int32} {st : List Value} (hT : mm_tb j = T) (he : T[i]? = some (3, pc, .iaload, len, x, y, z)) (hk : kdT a = (1, n)) (k : vp_in v n ∧ wp X B j (i + 1) L (.int (iv a v.toNatClampNeg) :: st) iv Q) : wp X B j i L (.int v :: .ref a :: st) iv Q := by
  refine wp_m1 hT he ?_ k.2
  show (if a < 1000000 then (if (mm_kd (mm_N0 iv) a).1 = 1 then (if v < 0 ∨ (mm_kd (mm_N0 iv) a).2 ≤ v.toNatClampNeg then none else _) else none) else _) = _
  rw [if_pos (kd_lt hk (Nat.le_refl 1)), kd_of hk (Nat.le_refl 1), if_pos rfl, if_neg k.1]
  rfl
theorem wp_tald {pc len x y z a b : Nat} {v : Int32} {st : List Value} (hT : mm_tb j = T) (he : T[i]? = some (3, pc, .iaload, len, x, y, z)) (hb : b = 1000000 + a) (ha : a < 5) (k : vp_in v (mm_S X a).1 ∧ wp X B j (i + 1) L (.int ((mm_S X a).2 v.toNatClampNeg) :: st) iv Q) : wp X B j i L (.int v :: .ref b :: st) iv Q := by
  refine wp_m1 hT he ?_ k.2
  have e1 : ¬ b < 1000000 := by omega
  have e2 : b < 1000005 := by omega
  have e3 : b - 1000000 = a := by omega
  unfold mm_m1
  simp only [e1, e2, e3, if_false, if_true]
  exact if_neg k.1
theorem wp_aald {pc len x y z a n t : Nat} {v : Int32} {st : List Value} (hT : mm_tb j = T) (he : T[i]? = some (3, pc, .aaload, len, x, y, z)) (hk : kdT a = (t, n)) (ht : 2 ≤ t ∧ t ≤ 4) (k : vp_in v n ∧ wp X B j (i + 1) L (.ref (rvT a v.toNatClampNeg) :: st) iv Q) : wp X B j i L (.int v :: .ref a :: st) iv Q := by
  refine wp_m1 hT he ?_ k.2
  show (if 2 ≤ (mm_kd (mm_N0 iv) a).1 ∧ (mm_kd (mm_N0 iv) a).1 ≤ 4 then (if v < 0 ∨ (mm_kd (mm_N0 iv) a).2 ≤ v.toNatClampNeg then none else _) else none) = _
  rw [kd_of hk (by show 1 ≤ t; omega), if_pos ht, if_neg k.1]
  rfl
theorem wp_alen {pc len x y z a n t : Nat} {st : List Value} (hT : mm_tb j = T) (he : T[i]? = some (3, pc, .arraylength, len, x, y, z)) (hk : kdT a = (t, n)) (ht : 1 ≤ t ∧ t ≤ 4) (k : wp X B j (i + 1) L (.int (nI n) :: st) iv Q) : wp X B j i L (.ref a :: st) iv Q := by
  refine wp_m1 hT he ?_ k
  show (if a < 1000000 then (if 1 ≤ (mm_kd (mm_N0 iv) a).1 ∧ (mm_kd (mm_N0 iv) a).1 ≤ 4 then _ else none) else _) = _
  rw [if_pos (kd_lt hk ht.1), kd_of hk ht.1, if_pos ht]
theorem wp_getr {pc len x y z a n q : Nat} {st : List Value} (hT : mm_tb j = T) (he : T[i]? = some (3, pc, .getfield q, len, x, y, z)) (hk : kdT a = (10 + x, n)) (hy : y < mm_N x ∧ mm_fk x y = 2) (k : wp X B j (i + 1) L (.ref (rvT a y) :: st) iv Q) : wp X B j i L (.ref a :: st) iv Q := by
  refine wp_m1 hT he ?_ k
  show (if (mm_kd (mm_N0 iv) a).1 = 10 + x ∧ y < mm_N x then _ else none) = _
  rw [kd_of hk (by show 1 ≤ 10 + x; omega), if_pos ⟨rfl, hy.1⟩, hy.2]
  rfl
theorem wp_geti {pc len x y z a n q : Nat} {st : List Value} (hT : mm_tb j = T) (he : T[i]? = some (3, pc, .getfield q, len, x, y, z)) (hk : kdT a = (10 + x, n)) (hy : y < mm_N x ∧ mm_fk x y ≠ 2) (k : wp X B j (i + 1) L (.int (iv a y) :: st) iv Q) : wp X B j i L (.ref a :: st) iv Q := by
  refine wp_m1 hT he ?_ k
  show (if (mm_kd (mm_N0 iv) a).1 = 10 + x ∧ y < mm_N x then (match mm_fk x y with | 2 => _ | _ => _) else none) = _
  rw [kd_of hk (by show 1 ≤ 10 + x; omega), if_pos ⟨rfl, hy.1⟩]
  split
  · rename_i h; exact absurd h hy.2
  · rfl
theorem wp_puti {pc len x y z a n q : Nat} {v : Int32} {st : List Value} (hT : mm_tb j = T) (he : T[i]? = some (3, pc, .putfield q, len, x, y, z)) (hk : kdT a = (10 + x, n)) (hy : y < mm_N x ∧ mm_fk x y = 0) (k : wp X B j (i + 1) L st (mm_up2 iv a y v) Q) : wp X B j i L (.int v :: .ref a :: st) iv Q := by
  refine wp_m2 hT he rfl ?_ k
  show (if (mm_kd (mm_N0 iv) a).1 = 10 + x ∧ y < mm_N x then _ else none) = _
  rw [kd_of hk (by show 1 ≤ 10 + x; omega), if_pos ⟨rfl, hy.1⟩, hy.2]
  rfl
theorem wp_putz {pc len x y z a n q : Nat} {v : Int32} {st : List Value} (hT : mm_tb j = T) (he : T[i]? = some (3, pc, .putfield q, len, x, y, z)) (hk : kdT a = (10 + x, n)) (hy : y < mm_N x ∧ mm_fk x y = 1) (k : (v = 0 ∨ v = 1) ∧ wp X B j (i + 1) L st (mm_up2 iv a y v) Q) : wp X B j i L (.int v :: .ref a :: st) iv Q := by
  refine wp_m2 hT he rfl ?_ k.2
  show (if (mm_kd (mm_N0 iv) a).1 = 10 + x ∧ y < mm_N x then _ else none) = _
  rw [kd_of hk (by show 1 ≤ 10 + x; omega), if_pos ⟨rfl, hy.1⟩, hy.2]
  show (if v = 0 ∨ v = 1 then _ else none) = _
  rw [if_pos k.1]
  rfl
theorem wp_iast {pc len x y z a n : Nat} {v w : Int32} {st : List Value} (hT : mm_tb j = T) (he : T[i]? = some (3, pc, .iastore, len, x, y, z)) (hk : kdT a = (1, n)) (k : vp_in v n ∧ wp X B j (i + 1) L st (mm_up2 iv a v.toNatClampNeg w) Q) : wp X B j i L (.int w :: .int v :: .ref a :: st) iv Q := by
  refine wp_m2 hT he rfl ?_ k.2
  show (if (mm_kd (mm_N0 iv) a).1 = 1 then (if v < 0 ∨ (mm_kd (mm_N0 iv) a).2 ≤ v.toNatClampNeg then none else _) else none) = _
  rw [kd_of hk (Nat.le_refl 1), if_pos rfl, if_neg k.1]
  rfl
theorem wp_copy {pc len x y z a a0 n n0 q : Nat} {c sp dp : Int32} {st : List Value} (hT : mm_tb j = T) (he : T[i]? = some (3, pc, .invokestatic q, len, x, y, z)) (hk : kdT a = (1, n)) (hk0 : kdT a0 = (1, n0)) (hc : (st.map fun v => v.category).sum ≤ 8) (k : (¬ sp < 0 ∧ ¬ dp < 0 ∧ ¬ c < 0 ∧ sp.toNatClampNeg + c.toNatClampNeg ≤ n0 ∧ dp.toNatClampNeg + c.toNatClampNeg ≤ n) ∧ wp X B j (i + 1) L st (mm_row iv a (va_cpy (iv a0) (iv a) sp.toNatClampNeg dp.toNatClampNeg c.toNatClampNeg)) Q) : wp X B j i L (.int c :: .int dp :: .ref a :: .int sp :: .ref a0 :: st) iv Q := by
  refine wp_m2 hT he rfl ?_ k.2
  obtain ⟨⟨k1, k2, k3, k4, k5⟩, -⟩ := k
  show (if (mm_kd (mm_N0 iv) a).1 = 1 ∧ (mm_kd (mm_N0 iv) a0).1 = 1 ∧ ¬ sp < 0 ∧ ¬ dp < 0 ∧ ¬ c < 0 ∧ sp.toNatClampNeg + c.toNatClampNeg ≤ (mm_kd (mm_N0 iv) a0).2 ∧ dp.toNatClampNeg + c.toNatClampNeg ≤ (mm_kd (mm_N0 iv) a).2 ∧ (st.map fun v => v.category).sum ≤ 8 then _ else none) = _
  rw [kd_of hk (Nat.le_refl 1), kd_of hk0 (Nat.le_refl 1), if_pos ⟨rfl, rfl, k1, k2, k3, k4, k5, hc⟩]
  rfl
theorem wp_char {pc len x y z q : Nat} {v : Int32} {st : List Value} (hT : mm_tb j = T) (he : T[i]? = some (3, pc, .invokevirtual q, len, x, y, z)) (hc : (st.map fun v => v.category).sum ≤ 8) (k : vp_in v 9 ∧ wp X B j (i + 1) L (.int (nI (mm_tx.getD v.toNatClampNeg 0)) :: st) iv Q) : wp X B j i L (.int v :: .ref 1000005 :: st) iv Q := by
  refine wp_m1 hT he ?_ k.2
  show (if 1000005 = 1000005 ∧ (st.map fun v => v.category).sum ≤ 8 then (if v < 0 ∨ 9 ≤ v.toNatClampNeg then none else _) else none) = _
  rw [if_pos ⟨rfl, hc⟩, if_neg k.1]
theorem wp_call {ins : Instr} {pc len x y z : Nat} {as rest : List Value} (hT : mm_tb j = T) (he : T[i]? = some (4, pc, ins, len, x, y, z)) (h : mm_cl j x st B (mm_N0 iv) = some (as, rest, B)) (k : wc X x as iv (fun r iv' => wp X B j (i + 1) L (r.toList ++ rest) iv' Q)) : wp X B j i L st iv Q := by
  obtain ⟨f, r, iv1, h1, f2, r2, iv2, h2, hQ⟩ := k
  refine ⟨max f f2 + 1, r2, iv2, ?_, hQ⟩
  show (match mm_en j i with | none => none | some (tag, pc, ins, _, x, y, _) => _) = _
  unfold mm_en
  rw [hT, he]
  simp only [h]
  rw [mm_x_mono h1 (Nat.le_max_left f f2)]
  exact mm_x_mono h2 (Nat.le_max_right f f2)
theorem wp_ret {ins : Instr} {pc len x y z : Nat} {r : Option Value} (hT : mm_tb j = T) (he : T[i]? = some (5, pc, ins, len, x, y, z)) (h : mm_rt j ins st (mm_N0 iv) = some (r, mm_N0 iv)) (k : Q r iv) : wp X B j i L st iv Q := by
  refine ⟨1, r, iv, ?_, k⟩
  show (match mm_en j i with | none => none | some (tag, pc, ins, _, x, y, _) => _) = _
  unfold mm_en
  rw [hT, he]
  exact h
theorem wp_rz {pc len x y z : Nat} {v : Int32} (hT : mm_tb j = T) (he : T[i]? = some (5, pc, .ireturn, len, x, y, z)) (hr : (mm_me j).2.2.2.1 = some .boolean) (k : (v = 0 ∨ v = 1) ∧ Q (some (.int v)) iv) : wp X B j i L [.int v] iv Q := by
  refine wp_ret hT he ?_ k.2
  show (if (mm_me j).2.2.2.1 = some .int ∨ ((mm_me j).2.2.2.1 = some .boolean ∧ (v = 0 ∨ v = 1)) then _ else none) = _
  rw [if_pos (Or.inr ⟨hr, k.1⟩)]
theorem wp_ri {pc len x y z : Nat} {v : Int32} (hT : mm_tb j = T) (he : T[i]? = some (5, pc, .ireturn, len, x, y, z)) (hr : (mm_me j).2.2.2.1 = some .int) (k : Q (some (.int v)) iv) : wp X B j i L [.int v] iv Q := by
  refine wp_ret hT he ?_ k
  show (if (mm_me j).2.2.2.1 = some .int ∨ ((mm_me j).2.2.2.1 = some .boolean ∧ (v = 0 ∨ v = 1)) then _ else none) = _
  rw [if_pos (Or.inl hr)]
theorem wp_rl {pc len x y z : Nat} {v : Int64} (hT : mm_tb j = T) (he : T[i]? = some (5, pc, .lreturn, len, x, y, z)) (hr : (mm_me j).2.2.2.1 = some .long) (k : Q (some (.long v)) iv) : wp X B j i L [.long v] iv Q := by
  refine wp_ret hT he ?_ k
  show (if (mm_me j).2.2.2.1 = some .long then _ else none) = _
  rw [if_pos hr]
theorem wp_rv {pc len x y z : Nat} (hT : mm_tb j = T) (he : T[i]? = some (5, pc, .return_, len, x, y, z)) (hr : (mm_me j).2.2.2.1 = none) (k : Q none iv) : wp X B j i L [] iv Q := by
  refine wp_ret hT he ?_ k
  show (if (mm_me j).2.2.2.1 = none then _ else none) = _
  rw [if_pos hr]
theorem wp_sw {ins : Instr} {pc len x y z i' : Nat} {st' : List Value} (hT : mm_tb j = T) (he : T[i]? = some (6, pc, ins, len, x, y, z)) (h : mm_sw j pc ins st = some (i', st')) (k : wp X B j i' L st' iv Q) : wp X B j i L st iv Q := by
  refine wp_step (fun f => ?_) k
  show (match mm_en j i with | none => none | some (tag, pc, ins, _, x, y, _) => _) = _
  unfold mm_en
  rw [hT, he]
  simp only [h]
theorem wp_conseq {Q' : Option Value → IV → Prop} (h : wp X B j i L st iv Q) (hQ : ∀ r iv', Q r iv' → Q' r iv') : wp X B j i L st iv Q' := by
  obtain ⟨f, r, iv', h1, h2⟩ := h
  exact ⟨f, r, iv', h1, hQ r iv' h2⟩
end WPR
