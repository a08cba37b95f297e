/-! THE CONSTRUCTORS (printed by wip/gen/mkctor.py) -/
def mm_X0 : Nat × (Nat → Int32) := (0, fun _ => 0)
def mm_cs : List Nat := [0, 2, 12, 25, 35, 45, 50, 55, 62, 64, 115, 121, 224]
def mm_nal : Instr → Bool
  | .arraylength => false
  | _ => true
def mm_cok (e : mm_e) : Bool := mm_nal e.2.2.1 && (e.1 != 4 || mm_cs.contains e.2.2.2.2.1)
def mm_cokj (j : Nat) : Bool := (mm_tb j).all mm_cok
theorem mm_cs_ok : mm_cs.all mm_cokj = true := by decide +kernel
theorem mm_cs_en {j i : Nat} {e : mm_e} (hj : j ∈ mm_cs) (h : mm_en j i = some e) : mm_cok e = true := by
  have h1 : mm_cokj j = true := List.all_eq_true.mp mm_cs_ok j hj
  exact List.all_eq_true.mp h1 e (List.mem_of_getElem? h)
theorem mm_cok_1 {e : mm_e} (h : mm_cok e = true) : mm_nal e.2.2.1 = true := by
  unfold mm_cok at h
  rw [Bool.and_eq_true] at h
  exact h.1
theorem mm_cok_2 {e : mm_e} (h : mm_cok e = true) (h4 : e.1 = 4) : e.2.2.2.2.1 ∈ mm_cs := by
  unfold mm_cok at h
  rw [Bool.and_eq_true, Bool.or_eq_true] at h
  rcases h.2 with h | h
  · rw [h4] at h
    cases h
  · exact List.contains_iff_mem.mp h
theorem mm_S_X (X : Nat × (Nat → Int32)) (i : Nat) (h : i < 4) : mm_S X i = mm_S mm_X0 i := by
  match i, h with
  | 0, _ => rfl
  | 1, _ => rfl
  | 2, _ => rfl
  | 3, _ => rfl
  | n + 4, h => exact absurd h (by omega)
theorem mm_m1_A (X : Nat × (Nat → Int32)) {ins : Instr} {x y : Nat} {st : List Value} {μ : mm_M} (hn : mm_nal ins = true) (hi : ins ≠ .iaload) : mm_m1 X ins x y st μ = mm_m1 mm_X0 ins x y st μ := by
  unfold mm_m1
  split <;> first | exact absurd rfl hi | (cases hn; done) | rfl
theorem mm_m1_B (X : Nat × (Nat → Int32)) {x y : Nat} {st st' : List Value} {μ : mm_M} (h : mm_m1 mm_X0 .iaload x y st μ = some st') : mm_m1 X .iaload x y st μ = some st' := by
  unfold mm_m1 at h ⊢
  simp only at h ⊢
  split at h
  · rename_i i a st1
    split at h
    · rename_i ha
      rw [if_pos ha]
      exact h
    · rename_i ha
      rw [if_neg ha]
      split at h
      · rename_i ha2
        rw [if_pos ha2]
        have hk : (a - 1000000 : Nat) ≤ 4 := Nat.sub_le_iff_le_add.mpr (Nat.le_of_lt_succ ha2)
        generalize (a - 1000000 : Nat) = k at h hk ⊢
        by_cases h4 : k < 4
        · rw [mm_S_X X _ h4]
          exact h
        · exfalso
          have e : k = 4 := Nat.le_antisymm hk (Nat.le_of_not_lt h4)
          subst e
          rw [if_pos (show i < 0 ∨ (mm_S mm_X0 4).1 ≤ i.toNatClampNeg from Or.inr (Nat.zero_le _))] at h
          cases h
      · cases h
  · cases h
theorem mm_mem_X (X : Nat × (Nat → Int32)) {j : Nat} {ins : Instr} {x y : Nat} {st : List Value} {B : Nat × Nat} {μ : mm_M} {q : List Value × (Nat × Nat) × mm_M} (hn : mm_nal ins = true) (h : mm_mem mm_X0 j ins x y st B μ = some q) : mm_mem X j ins x y st B μ = some q := by
  unfold mm_mem at h ⊢
  cases h1 : mm_m1 mm_X0 ins x y st μ with
  | some s1 =>
    rw [h1] at h
    have : mm_m1 X ins x y st μ = some s1 := by
      by_cases hi : ins = .iaload
      · subst hi
        exact mm_m1_B X h1
      · rw [mm_m1_A X hn hi]
        exact h1
    rw [this]
    exact h
  | none =>
    rw [h1] at h
    by_cases hi : ins = .iaload
    · subst hi
      cases h
    · rw [mm_m1_A X hn hi, h1]
      exact h
theorem mm_x_X (X : Nat × (Nat → Int32)) : ∀ (f j i : Nat) (L : mm_Lo) (st : List Value) (B : Nat × Nat) (μ : mm_M) (q : Option Value × mm_M), j ∈ mm_cs → mm_x mm_X0 f j i L st B μ = some q → mm_x X f j i L st B μ = some q := by
  intro f
  induction f with
  | zero => intro j i L st B μ q _ h; cases h
  | succ f ih =>
    intro j i L st B μ q hj h
    unfold mm_x at h ⊢
    cases hen : mm_en j i with
    | none => rw [hen] at h; cases h
    | some e0 =>
      obtain ⟨tag, pc, ins, len, x, y, z⟩ := e0
      rw [hen] at h
      have hok := mm_cs_en hj hen
      simp only at h ⊢
      match tag, h with
      | 0, h =>
        simp only at h ⊢
        cases hp : mm_pure ins y L st with
        | none => rw [hp] at h; cases h
        | some w => rw [hp] at h; exact ih _ _ _ _ _ _ _ hj h
      | 1, h =>
        simp only at h ⊢
        cases hp : mm_br ins st with
        | none => rw [hp] at h; cases h
        | some w =>
          obtain ⟨b, st'⟩ := w
          rw [hp] at h
          cases b with
          | true => exact ih _ _ _ _ _ _ _ hj h
          | false => exact ih _ _ _ _ _ _ _ hj h
      | 2, h => exact ih _ _ _ _ _ _ _ hj h
      | 3, h =>
        simp only at h ⊢
        cases hp : mm_mem mm_X0 j ins x y st B μ with
        | none => rw [hp] at h; cases h
        | some w =>
          rw [hp] at h
          rw [mm_mem_X X (mm_cok_1 hok) hp]
          exact ih _ _ _ _ _ _ _ hj h
      | 4, h =>
        simp only at h ⊢
        have hx : x ∈ mm_cs := mm_cok_2 hok rfl
        cases hp : mm_cl j x st B μ with
        | none => rw [hp] at h; cases h
        | some w =>
          obtain ⟨as, rest, B'⟩ := w
          rw [hp] at h
          simp only at h ⊢
          cases hc : mm_x mm_X0 f x 0 (mm_ini as (mm_me x).2.2.1) [] (0, 0) μ with
          | none => rw [hc] at h; cases h
          | some w2 =>
            rw [hc] at h
            rw [ih _ _ _ _ _ _ _ hx hc]
            exact ih _ _ _ _ _ _ _ hj h
      | 5, h =>
        simp only at h ⊢
        exact h
      | n + 6, h =>
        simp only at h ⊢
        cases hp : mm_sw j pc ins st with
        | none => rw [hp] at h; cases h
        | some w => rw [hp] at h; exact ih _ _ _ _ _ _ _ hj h
/-! two memories that no one can tell apart -/
def mm_sz (kd : Nat × Nat) : Nat := if kd.1 ≤ 4 then kd.2 else mm_N (kd.1 - 10)
def mm_eqv (μ ν : mm_M) : Bool := decide (μ.1 = ν.1) && (List.range μ.1).all fun a => decide (a = 0) || (decide (μ.2.1 a = ν.2.1 a) && (List.range (mm_sz (μ.2.1 a))).all fun j => decide (μ.2.2.1 a j = ν.2.2.1 a j) && decide (μ.2.2.2 a j = ν.2.2.2 a j))
theorem mm_arrV {cA : ClassId} {n : Nat} {f f' : Nat → Value} (h : ∀ i, i < n → f i = f' i) : arrV cA n f = arrV cA n f' := by
  unfold arrV
  congr 1
  first
    | (apply Array.ext <;> simp_all; done)
    | (congr 1; funext i; exact h i.1 i.2; done)
    | (refine congrArg _ ?_; apply List.map_congr_left; intro i hi; exact h i (List.mem_range.mp hi))
theorem mm_R_eqv {g : mm_G} {μ ν : mm_M} {H : Heap} (he : mm_eqv μ ν = true) (hR : mm_R g μ H) : mm_R g ν H := by
  unfold mm_eqv at he
  rw [Bool.and_eq_true] at he
  have hn := of_decide_eq_true he.1
  have he := List.all_eq_true.mp he.2
  obtain ⟨h1, h2, h3⟩ := hR
  refine ⟨by rw [← hn]; exact h1, by rw [← hn]; exact h2, fun k q hq => ?_⟩
  obtain ⟨hk, rfl⟩ := mm_ws_inv hq
  rw [← hn] at hk
  have hold := h3 k _ (by have := mm_ws_get (g := g) (μ := μ) (a := k + 1) (by omega) hk; rw [Nat.add_sub_cancel] at this; exact this)
  have hc := he (k + 1) (List.mem_range.mpr hk)
  rw [Bool.or_eq_true, Bool.and_eq_true] at hc
  rcases hc with hc | ⟨hc1, hc2⟩
  · exact absurd (of_decide_eq_true hc) (by omega)
  · have ek := of_decide_eq_true hc1
    have hall : ∀ j, j < mm_sz (μ.2.1 (k + 1)) → μ.2.2.1 (k + 1) j = ν.2.2.1 (k + 1) j ∧ μ.2.2.2 (k + 1) j = ν.2.2.2 (k + 1) j := by
      intro j hj
      have := List.all_eq_true.mp hc2 j (List.mem_range.mpr hj)
      rw [Bool.and_eq_true] at this
      exact ⟨of_decide_eq_true this.1, of_decide_eq_true this.2⟩
    unfold mm_Ec at hold ⊢
    rw [← ek]
    unfold mm_E at hold ⊢
    by_cases c1 : (μ.2.1 (k + 1)).1 = 1
    · rw [if_pos c1] at hold ⊢
      have hs : mm_sz (μ.2.1 (k + 1)) = (μ.2.1 (k + 1)).2 := by unfold mm_sz; rw [if_pos (by omega)]
      show H[g.2.2.1 + (k + 1)]? = some (vp_cell _ (_, .inl _))
      have hold' : H[g.2.2.1 + (k + 1)]? = some (vp_cell _ (_, .inl _)) := hold
      rw [hold', vp_cell_i, vp_cell_i]
      congr 1
      exact mm_arrV (fun i hi => by rw [(hall i (by rw [hs]; exact hi)).2])
    · rw [if_neg c1] at hold ⊢
      by_cases c4 : (μ.2.1 (k + 1)).1 ≤ 4
      · rw [if_pos c4] at hold ⊢
        have hs : mm_sz (μ.2.1 (k + 1)) = (μ.2.1 (k + 1)).2 := by unfold mm_sz; rw [if_pos c4]
        show H[g.2.2.1 + (k + 1)]? = some (vp_cell _ (_, .inr (.inr (.inr (.inr _)))))
        have hold' : H[g.2.2.1 + (k + 1)]? = some (vp_cell _ (_, .inr (.inr (.inr (.inr _))))) := hold
        rw [hold']
        congr 1
        unfold vp_cell
        exact mm_arrV (fun i hi => by show va_rf (mm_q g (μ.2.2.1 (k + 1) i)) = va_rf (mm_q g (ν.2.2.1 (k + 1) i)); rw [(hall i (by rw [hs]; exact hi)).1])
      · rw [if_neg c4] at hold ⊢
        have hs : mm_sz (μ.2.1 (k + 1)) = mm_N ((μ.2.1 (k + 1)).1 - 10) := by unfold mm_sz; rw [if_neg c4]
        have hfs : mm_fs g ((μ.2.1 (k + 1)).1 - 10) (ν.2.2.1 (k + 1)) (ν.2.2.2 (k + 1)) = mm_fs g ((μ.2.1 (k + 1)).1 - 10) (μ.2.2.1 (k + 1)) (μ.2.2.2 (k + 1)) := by
          unfold mm_fs
          apply List.map_congr_left
          intro j hj
          have := hall j (by rw [hs]; exact List.mem_range.mp hj)
          rw [this.1, this.2]
        rw [hfs]
        exact hold
