/-! METHODS THAT NEITHER READ NOR WRITE THE HEAP: the kernel runs them (printed by wip/gen/mkpure.py) -/
def mm_ps : List Nat := [8, 9, 10, 11, 21, 22, 24, 52, 54, 70, 113, 114, 115, 117, 118, 119, 120, 122, 123, 124, 125, 127, 131, 135, 136, 137, 138, 141, 142, 147, 152, 153, 154, 155, 156, 161, 172, 214, 220, 221, 222, 223, 224]
def mm_pi : Instr → Bool
  | .getstatic _ => true
  | .ldc _ => true
  | .iaload => true
  | .invokevirtual _ => true
  | _ => false
def mm_pok (e : mm_e) : Bool := (e.1 != 3 || mm_pi e.2.2.1) && (e.1 != 4 || (mm_ps.contains e.2.2.2.2.1 && mm_nu (mm_me e.2.2.2.2.1) 0 == 0))
def mm_pokj (j : Nat) : Bool := (mm_tb j).all mm_pok
theorem mm_ps_ok : mm_ps.all mm_pokj = true := by decide +kernel
theorem mm_ps_en {j i : Nat} {e : mm_e} (hj : j ∈ mm_ps) (h : mm_en j i = some e) : mm_pok e = true := by
  have h1 : mm_pokj j = true := List.all_eq_true.mp mm_ps_ok j hj
  exact List.all_eq_true.mp h1 e (List.mem_of_getElem? h)
theorem mm_pok_1 {e : mm_e} (h : mm_pok e = true) (h3 : e.1 = 3) : mm_pi e.2.2.1 = true := by
  unfold mm_pok at h
  rw [Bool.and_eq_true, Bool.or_eq_true] at h
  rcases h.1 with h | h
  · rw [h3] at h
    cases h
  · exact h
theorem mm_pok_2 {e : mm_e} (h : mm_pok e = true) (h4 : e.1 = 4) : e.2.2.2.2.1 ∈ mm_ps ∧ mm_nu (mm_me e.2.2.2.2.1) 0 = 0 := by
  unfold mm_pok at h
  rw [Bool.and_eq_true] at h
  have h := h.2
  rw [Bool.or_eq_true] at h
  rcases h with h | h
  · rw [h4] at h
    cases h
  · rw [Bool.and_eq_true] at h
    exact ⟨List.contains_iff_mem.mp h.1, eq_of_beq h.2⟩
theorem mm_kd_0 (a : Nat) : mm_kd mm_0 a = (0, 0) := by
  unfold mm_kd
  rw [if_neg]
  intro h
  have h1 : a < 1 := h.2.1
  exact absurd h.1 (Nat.not_le_of_lt h1)
theorem mm_m1_P (X : Nat × (Nat → Int32)) {ins : Instr} {x y : Nat} {st st' : List Value} (hp : mm_pi ins = true) (h : mm_m1 mm_X0 ins x y st mm_0 = some st') (μ : mm_M) : mm_m1 X ins x y st μ = some st' := by
  unfold mm_pi at hp
  split at hp
  · exact h
  · exact h
  · unfold mm_m1 at h ⊢
    simp only at h ⊢
    split at h
    · rename_i i a st1
      split at h
      · rw [mm_kd_0] at h
        rw [if_neg (show ¬ ((0, 0) : Nat × Nat).1 = 1 from (by decide))] at h
        cases h
      · rename_i ha
        rw [if_neg ha]
        split at h
        · rename_i ha2
          rw [if_pos ha2]
          have hk : (a - 1000000 : Nat) ≤ 4 := Nat.sub_le_iff_le_add.mpr (Nat.le_of_lt_succ ha2)
          generalize (a - 1000000 : Nat) = k at h hk ⊢
          by_cases h4 : k < 4
          · rw [mm_S_X X _ h4]
            exact h
          · exfalso
            have e : k = 4 := Nat.le_antisymm hk (Nat.le_of_not_lt h4)
            subst e
            rw [if_pos (show i < 0 ∨ (mm_S mm_X0 4).1 ≤ i.toNatClampNeg from Or.inr (Nat.zero_le _))] at h
            cases h
        · cases h
    · cases h
  · exact h
  · cases hp
theorem mm_mem_P (X : Nat × (Nat → Int32)) {j : Nat} {ins : Instr} {x y : Nat} {st st' : List Value} {B B' : Nat × Nat} {μ' : mm_M} (hp : mm_pi ins = true) (h : mm_mem mm_X0 j ins x y st B mm_0 = some (st', B', μ')) : B' = B ∧ μ' = mm_0 ∧ ∀ μ, mm_mem X j ins x y st B μ = some (st', B, μ) := by
  unfold mm_mem at h
  cases h1 : mm_m1 mm_X0 ins x y st mm_0 with
  | some s1 =>
    rw [h1] at h
    cases h
    refine ⟨rfl, rfl, fun μ => ?_⟩
    unfold mm_mem
    rw [mm_m1_P X hp h1 μ]
  | none =>
    rw [h1] at h
    exfalso
    unfold mm_pi at hp
    split at hp <;> first | (cases h; done) | (cases hp; done)
theorem mm_cl_P {j x : Nat} {st as rest : List Value} {B B' : Nat × Nat} {μ0 : mm_M} (hx : mm_nu (mm_me x) 0 = 0) (h : mm_cl j x st B μ0 = some (as, rest, B')) (μ : mm_M) : mm_cl j x st B μ = some (as, rest, B') := by
  unfold mm_cl at h ⊢
  simp only at h ⊢
  rw [hx] at h ⊢
  exact h
theorem mm_x_P (X : Nat × (Nat → Int32)) : ∀ (f j i : Nat) (L : mm_Lo) (st : List Value) (B : Nat × Nat) (r : Option Value) (μ' : mm_M), j ∈ mm_ps → mm_x mm_X0 f j i L st B mm_0 = some (r, μ') → μ' = mm_0 ∧ ∀ μ, mm_x X f j i L st B μ = some (r, μ) := by
  intro f
  induction f with
  | zero => intro j i L st B r μ' _ h; cases h
  | succ f ih =>
    intro j i L st B r μ' hj h
    unfold mm_x at h
    cases hen : mm_en j i with
    | none => rw [hen] at h; cases h
    | some e0 =>
      obtain ⟨tag, pc, ins, len, x, y, z⟩ := e0
      rw [hen] at h
      have hok := mm_ps_en hj hen
      have hun : ∀ μ, mm_x X (f + 1) j i L st B μ = _ := fun μ => by
        unfold mm_x
        rw [hen]
      simp only at h hun
      match tag, h, hun, hok with
      | 0, h, hun, hok =>
        simp only at h hun
        cases hp : mm_pure ins y L st with
        | none => rw [hp] at h; cases h
        | some w =>
          rw [hp] at h hun
          obtain ⟨q1, q2⟩ := ih _ _ _ _ _ _ _ hj h
          exact ⟨q1, fun μ => (hun μ).trans (q2 μ)⟩
      | 1, h, hun, hok =>
        simp only at h hun
        cases hp : mm_br ins st with
        | none => rw [hp] at h; cases h
        | some w =>
          obtain ⟨b, st'⟩ := w
          rw [hp] at h hun
          cases b with
          | true =>
            obtain ⟨q1, q2⟩ := ih _ _ _ _ _ _ _ hj h
            exact ⟨q1, fun μ => (hun μ).trans (q2 μ)⟩
          | false =>
            obtain ⟨q1, q2⟩ := ih _ _ _ _ _ _ _ hj h
            exact ⟨q1, fun μ => (hun μ).trans (q2 μ)⟩
      | 2, h, hun, hok =>
        simp only at h hun
        obtain ⟨q1, q2⟩ := ih _ _ _ _ _ _ _ hj h
        exact ⟨q1, fun μ => (hun μ).trans (q2 μ)⟩
      | 3, h, hun, hok =>
        simp only at h hun
        cases hp : mm_mem mm_X0 j ins x y st B mm_0 with
        | none => rw [hp] at h; cases h
        | some w =>
          obtain ⟨st', B', μ1⟩ := w
          rw [hp] at h
          obtain ⟨rfl, rfl, q3⟩ := mm_mem_P X (mm_pok_1 hok rfl) hp
          obtain ⟨q1, q2⟩ := ih _ _ _ _ _ _ _ hj h
          refine ⟨q1, fun μ => (hun μ).trans ?_⟩
          rw [q3 μ]
          exact q2 μ
      | 4, h, hun, hok =>
        simp only at h hun
        obtain ⟨hx, hk⟩ := mm_pok_2 hok rfl
        cases hp : mm_cl j x st B mm_0 with
        | none => rw [hp] at h; cases h
        | some w =>
          obtain ⟨as, rest, B'⟩ := w
          rw [hp] at h
          simp only at h
          cases hc : mm_x mm_X0 f x 0 (mm_ini as (mm_me x).2.2.1) [] (0, 0) mm_0 with
          | none => rw [hc] at h; cases h
          | some w2 =>
            obtain ⟨r1, μ1⟩ := w2
            rw [hc] at h
            obtain ⟨rfl, c2⟩ := ih _ _ _ _ _ _ _ hx hc
            obtain ⟨q1, q2⟩ := ih _ _ _ _ _ _ _ hj h
            refine ⟨q1, fun μ => (hun μ).trans ?_⟩
            rw [mm_cl_P hk hp μ]
            simp only
            rw [c2 μ]
            exact q2 μ
      | 5, h, hun, hok =>
        simp only at h hun
        have e := mm_rt_mu h
        subst e
        refine ⟨rfl, fun μ => (hun μ).trans ?_⟩
        unfold mm_rt at h ⊢
        split at h
        all_goals first
          | (cases h; done)
          | (split at h <;> first | (cases h; done) | (rename_i hc; split at h <;> first | (cases h; done) | (cases h; rename_i hd; rw [if_pos hd])))
      | n + 6, h, hun, hok =>
        simp only at h hun
        cases hp : mm_sw j pc ins st with
        | none => rw [hp] at h; cases h
        | some w =>
          rw [hp] at h hun
          obtain ⟨q1, q2⟩ := ih _ _ _ _ _ _ _ hj h
          exact ⟨q1, fun μ => (hun μ).trans (q2 μ)⟩
def mm_ei (j : Nat) (as : List Value) : Option Value := match mm_x mm_X0 1000 j 0 (mm_ini as (mm_me j).2.2.1) [] (0, 0) mm_0 with
  | some (r, _) => r
  | none => none
def mm_ek (j : Nat) (as : List Int32) : Option Int32 := match mm_ei j (as.map .int) with
  | some (.int v) => some v
  | _ => none
theorem pui {X : Nat × (Nat → Int32)} {j : Nat} {as : List Int32} {v : Int32} {iv : IV} {P : Int32 → IV → Prop} (hj : mm_ps.contains j = true) (h : mm_ek j as = some v) (hp : P v iv) : wc X j (as.map .int) iv (Ri P) := by
  unfold mm_ek at h
  split at h
  · rename_i w hw
    cases h
    unfold mm_ei at hw
    split at hw
    · rename_i r μ' hr
      subst hw
      obtain ⟨-, q⟩ := mm_x_P X _ _ _ _ _ _ _ _ (List.contains_iff_mem.mp hj) hr
      exact ⟨1000, _, iv, q (mm_N0 iv), _, rfl, hp⟩
    · cases hw
  · cases h
