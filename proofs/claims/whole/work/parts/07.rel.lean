/-! HOW THE SMALL MACHINE STANDS FOR THE MACHINE: addresses, locals, cells -/
abbrev mm_G : Type := va_G × (Nat → ClassId) × Nat × (Nat → Nat) × (Nat × (Nat → Int32))
def mm_A (g : mm_G) : Nat → Prop := fun q => g.2.2.1 < q
def mm_q (g : mm_G) (k : Nat) : Option Nat := if k = 0 then none else if k < 1000000 then some (g.2.2.1 + k) else some (g.2.2.2.1 (k - 1000000))
def mm_rl (g : mm_G) : Value → Value
  | .ref k => va_rf (mm_q g k)
  | v => v
theorem mm_rf_cat (r : Option Nat) : (va_rf r).category = 1 := by
  cases r <;> rfl
theorem mm_rl_cat (g : mm_G) (v : Value) : (mm_rl g v).category = v.category := by
  cases v <;> first | rfl | exact mm_rf_cat _
theorem mm_rl_sum (g : mm_G) (st : List Value) : ((st.map (mm_rl g)).map fun v => v.category).sum = (st.map fun v => v.category).sum := by
  rw [List.map_map]
  congr 1
  apply List.map_congr_left
  intro v _
  exact mm_rl_cat g v
theorem mm_rl_dyn (g : mm_G) {k : Nat} (h0 : 1 ≤ k) (h1 : k < 1000000) : mm_rl g (.ref k) = .ref (g.2.2.1 + k) := by
  have : ¬ k = 0 := by omega
  simp [mm_rl, h1, mm_q, this, va_rf]
theorem mm_rl_sta (g : mm_G) {k : Nat} (h1 : ¬ k < 1000000) : mm_rl g (.ref k) = .ref (g.2.2.2.1 (k - 1000000)) := by
  have : ¬ k = 0 := by omega
  simp [mm_rl, h1, mm_q, this, va_rf]
theorem mm_rl_ref (g : mm_G) (k : Nat) : (mm_rl g (.ref k) = .null) ∨ ∃ a, mm_rl g (.ref k) = .ref a := by
  show va_rf (mm_q g k) = .null ∨ ∃ a, va_rf (mm_q g k) = .ref a
  cases mm_q g k with
  | none => exact Or.inl rfl
  | some a => exact Or.inr ⟨a, rfl⟩
def mm_as (g : mm_G) (L : mm_Lo) : List (Nat × Value) := (List.range L.length).filterMap fun i => match L[i]? with
  | some (some v) => some (i, mm_rl g v)
  | _ => none
theorem mm_as_mem {g : mm_G} {L : mm_Lo} {i : Nat} {v : Value} (h : L[i]? = some (some v)) : (i, mm_rl g v) ∈ mm_as g L := by
  have hi : i < L.length := (List.getElem?_eq_some_iff.mp h).1
  exact List.mem_filterMap.mpr ⟨i, List.mem_range.mpr hi, by rw [h]⟩
theorem mm_mem_as {g : mm_G} {L : mm_Lo} {q : Nat × Value} (h : q ∈ mm_as g L) : ∃ v, L[q.1]? = some (some v) ∧ q.2 = mm_rl g v := by
  obtain ⟨i, -, hi⟩ := List.mem_filterMap.mp h
  cases hL : L[i]? with
  | none => rw [hL] at hi; cases hi
  | some o =>
    rw [hL] at hi
    cases o with
    | none => cases hi
    | some v =>
      cases hi
      exact ⟨v, hL, rfl⟩
/-- the locals -/
def mm_L (g : mm_G) (ls : Array Slot) (nL : Nat) (L : mm_Lo) : Prop := ls.size = nL ∧ lv_wf ls ∧ L.length = nL ∧ ∀ (i : Nat) (v : Value), L[i]? = some (some v) → ls[i]? = some (Slot.val (mm_rl g v))
theorem mm_L.has {g : mm_G} {ls : Array Slot} {nL : Nat} {L : mm_Lo} (h : mm_L g ls nL L) : lv_has ls nL (mm_as g L) := by
  refine ⟨h.1, h.2.1, fun q hq => ?_⟩
  obtain ⟨v, h1, h2⟩ := mm_mem_as hq
  rw [h2]
  exact h.2.2.2 _ _ h1
theorem mm_lg_of {o : Option (Option Value)} {v : Value} (h : o = some (some v)) (hc : v.category = 2) : mm_lg o = true := by
  subst h
  cases v <;> first | rfl | (simp [Value.category] at hc; done)
theorem mm_L.st1 {g : mm_G} {ls' : Array Slot} {nL k : Nat} {L : mm_Lo} {v : Value} (hn : L.length = nL) (hok : mm_ok1 L k = true) (h : lv_has ls' nL ((k, mm_rl g v) :: (mm_as g L).filter (fun q => !(q.1 == k) && !(q.1 + 1 == k && q.2.category == 2)))) : mm_L g ls' nL (L.set k (some v)) := by
  unfold mm_ok1 at hok
  rw [Bool.and_eq_true] at hok
  have hk : k < L.length := of_decide_eq_true hok.1
  refine ⟨h.1, h.2.1, by rw [List.length_set]; exact hn, fun i w hw => ?_⟩
  by_cases hi : i = k
  · subst hi
    rw [List.getElem?_set_self hk] at hw
    cases hw
    exact h.2.2 (i, mm_rl g v) List.mem_cons_self
  · rw [List.getElem?_set_ne (Ne.symm hi)] at hw
    refine h.2.2 (i, mm_rl g w) (List.mem_cons_of_mem _ (List.mem_filter.mpr ⟨mm_as_mem hw, ?_⟩))
    simp only [Bool.and_eq_true, Bool.not_eq_true', beq_eq_false_iff_ne, ne_eq, hi, not_false_eq_true, true_and]
    rw [Bool.and_eq_false_iff]
    by_cases hik : i + 1 = k
    · right
      subst hik
      have hlg := hok.2
      simp only [Bool.not_eq_true'] at hlg
      rw [mm_rl_cat]
      cases hcat : (w.category == 2) with
      | false => rfl
      | true =>
        rw [mm_lg_of hw (by simpa using hcat)] at hlg
        cases hlg
    · left
      simpa using hik
theorem mm_L.st2 {g : mm_G} {ls' : Array Slot} {nL k : Nat} {L : mm_Lo} {v : Value} (hn : L.length = nL) (hok : mm_ok1 L k = true) (hk1 : k + 1 < L.length) (h : lv_has ls' nL ((k, mm_rl g v) :: (mm_as g L).filter (fun q => !(q.1 == k) && (!(q.1 == k + 1) && !(q.1 + 1 == k && q.2.category == 2))))) : mm_L g ls' nL ((L.set k (some v)).set (k + 1) none) := by
  unfold mm_ok1 at hok
  rw [Bool.and_eq_true] at hok
  have hk : k < L.length := of_decide_eq_true hok.1
  refine ⟨h.1, h.2.1, by rw [List.length_set, List.length_set]; exact hn, fun i w hw => ?_⟩
  by_cases hi1 : i = k + 1
  · subst hi1
    rw [List.getElem?_set_self (by rw [List.length_set]; exact hk1)] at hw
    cases hw
  · rw [List.getElem?_set_ne (Ne.symm hi1)] at hw
    by_cases hi : i = k
    · subst hi
      rw [List.getElem?_set_self hk] at hw
      cases hw
      exact h.2.2 (i, mm_rl g v) List.mem_cons_self
    · rw [List.getElem?_set_ne (Ne.symm hi)] at hw
      refine h.2.2 (i, mm_rl g w) (List.mem_cons_of_mem _ (List.mem_filter.mpr ⟨mm_as_mem hw, ?_⟩))
      simp only [Bool.and_eq_true, Bool.not_eq_true', beq_eq_false_iff_ne, ne_eq, hi, hi1, not_false_eq_true, true_and]
      rw [Bool.and_eq_false_iff]
      by_cases hik : i + 1 = k
      · right
        subst hik
        have hlg := hok.2
        simp only [Bool.not_eq_true'] at hlg
        rw [mm_rl_cat]
        cases hcat : (w.category == 2) with
        | false => rfl
        | true =>
          rw [mm_lg_of hw (by simpa using hcat)] at hlg
          cases hlg
      · left
        simpa using hik
