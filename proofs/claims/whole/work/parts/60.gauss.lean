/-! ROWS OF EQUATIONS: what the steps of solving keep -/
def NS (M : Nat → Nat → G) (c n : Nat) (E : Nat → G) : Prop := ∀ j, j < c → gs (fun i => gm (M j i) (E i)) (n + 1) = 0
def UN (M : Nat → Nat → G) (c k : Nat) : Prop := ∀ i, i < k → ∀ j, j < c → M j i = if j = i then 1 else 0
/-- two rows change places -/
theorem ns_swap {M M' : Nat → Nat → G} {c n a k : Nat} {E : Nat → G} (ha : a < c) (hk : k < c) (h : ∀ j, j < c → ∀ i, i ≤ n → M' j i = if j = a then M k i else if j = k then M a i else M j i) : NS M' c n E ↔ NS M c n E := by
  have row : ∀ j, j < c → gs (fun i => gm (M' j i) (E i)) (n + 1) = gs (fun i => gm ((if j = a then M k else if j = k then M a else M j) i) (E i)) (n + 1) := fun j hj => gs_congr (fun i hi => by
    rw [h j hj i (by omega)]
    by_cases e1 : j = a
    · rw [if_pos e1, if_pos e1]
    · rw [if_neg e1, if_neg e1]
      by_cases e2 : j = k
      · rw [if_pos e2, if_pos e2]
      · rw [if_neg e2, if_neg e2])
  constructor
  · intro hM j hj
    by_cases e1 : j = a
    · have := hM k hk
      rw [row k hk] at this
      by_cases e2 : k = a
      · rw [if_pos e2] at this
        rw [e1, ← e2]
        exact this
      · rw [if_neg e2, if_pos rfl] at this
        rw [e1]
        exact this
    · by_cases e2 : j = k
      · have := hM a ha
        rw [row a ha, if_pos rfl] at this
        rw [e2]
        exact this
      · have := hM j hj
        rw [row j hj, if_neg e1, if_neg e2] at this
        exact this
  · intro hM j hj
    rw [row j hj]
    by_cases e1 : j = a
    · rw [if_pos e1]
      exact hM k hk
    · rw [if_neg e1]
      by_cases e2 : j = k
      · rw [if_pos e2]
        exact hM a ha
      · rw [if_neg e2]
        exact hM j hj
/-- a row is multiplied -/
theorem ns_scale {M M' : Nat → Nat → G} {c n k : Nat} {E : Nat → G} {t : G} (ht : t ≠ 0) (h : ∀ j, j < c → ∀ i, i ≤ n → M' j i = if j = k then gm (M k i) t else M j i) : NS M' c n E ↔ NS M c n E := by
  have row : ∀ j, j < c → gs (fun i => gm (M' j i) (E i)) (n + 1) = if j = k then gm t (gs (fun i => gm (M k i) (E i)) (n + 1)) else gs (fun i => gm (M j i) (E i)) (n + 1) := by
    intro j hj
    by_cases e : j = k
    · rw [if_pos e, ← gs_mul]
      refine gs_congr (fun i hi => ?_)
      rw [h j hj i (by omega), if_pos e, gm_comm (M k i) t, gm_assoc]
    · rw [if_neg e]
      refine gs_congr (fun i hi => ?_)
      rw [h j hj i (by omega), if_neg e]
  constructor
  · intro hM j hj
    have := hM j hj
    rw [row j hj] at this
    by_cases e : j = k
    · rw [if_pos e] at this
      rcases gm_eq0 _ _ this with z | z
      · exact absurd z ht
      · rw [e]; exact z
    · rw [if_neg e] at this
      exact this
  · intro hM j hj
    rw [row j hj]
    by_cases e : j = k
    · rw [if_pos e, hM k (by omega), gm_0]
    · rw [if_neg e]
      exact hM j hj
/-- a row's multiples are added to all others -/
theorem ns_add {M M' : Nat → Nat → G} {c n k : Nat} {E : Nat → G} {t : Nat → G} (hk : k < c) (h : ∀ j, j < c → ∀ i, i ≤ n → M' j i = if j = k then M k i else ga (M j i) (gm (t j) (M k i))) : NS M' c n E ↔ NS M c n E := by
  have row : ∀ j, j < c → gs (fun i => gm (M' j i) (E i)) (n + 1) = if j = k then gs (fun i => gm (M k i) (E i)) (n + 1) else ga (gs (fun i => gm (M j i) (E i)) (n + 1)) (gm (t j) (gs (fun i => gm (M k i) (E i)) (n + 1))) := by
    intro j hj
    by_cases e : j = k
    · rw [if_pos e]
      refine gs_congr (fun i hi => ?_)
      rw [h j hj i (by omega), if_pos e]
    · rw [if_neg e, ← gs_mul, ← gs_add]
      refine gs_congr (fun i hi => ?_)
      rw [h j hj i (by omega), if_neg e, ga_gm, gm_assoc]
  constructor
  · intro hM
    have hMk : gs (fun i => gm (M k i) (E i)) (n + 1) = 0 := by
      have := hM k hk
      rw [row k hk, if_pos rfl] at this
      exact this
    intro j hj
    have := hM j hj
    rw [row j hj] at this
    by_cases e : j = k
    · rw [e]; exact hMk
    · rw [if_neg e, hMk, gm_0, ga_0] at this
      exact this
  · intro hM j hj
    rw [row j hj]
    by_cases e : j = k
    · rw [if_pos e]; exact hM k hk
    · rw [if_neg e, hM j hj, hM k hk, gm_0, ga_0]
def frE (M : Nat → Nat → G) (k i : Nat) : G := if i < k then M i k else if i = k then 1 else 0
theorem frE_lt {M : Nat → Nat → G} {k i : Nat} (h : i < k) : frE M k i = M i k := if_pos h
theorem frE_at (M : Nat → Nat → G) (k : Nat) : frE M k k = 1 := by
  unfold frE
  rw [if_neg (by omega), if_pos rfl]
theorem frE_gt {M : Nat → Nat → G} {k i : Nat} (h : k < i) : frE M k i = 0 := by
  unfold frE
  rw [if_neg (by omega), if_neg (by omega)]
/-- no pivot: some vector, not 0, without the last -/
theorem ns_free {M : Nat → Nat → G} {c n k : Nat} (hk : k < n) (hU : UN M c k) (hz : ∀ j, k ≤ j → j < c → M j k = 0) : NS M c n (frE M k) := by
  intro j hj
  rw [gs_more (n := k + 1) (m := n + 1) (by omega) (fun i i1 i2 => by rw [frE_gt (by omega), gm_0])]
  rw [gs, frE_at, gm_1]
  by_cases e : j < k
  · rw [gs_one (k := j) e (fun i hi hne => by rw [hU i hi j hj, if_neg (Ne.symm hne), gm_0l])]
    rw [hU j e j hj, if_pos rfl, gm_1l, frE_lt e, ga_self]
  · rw [gs_zero (fun i hi => by rw [hU i hi j hj, if_neg (by omega), gm_0l]), hz j (by omega) hj, ga_0]
/-- at the end -/
theorem ns_end {M : Nat → Nat → G} {c n : Nat} {E : Nat → G} (hnc : n ≤ c) (hU : UN M c n) (hE : E n = 1) : NS M c n E ↔ ((∀ j, n ≤ j → j < c → M j n = 0) ∧ ∀ j, j < n → E j = M j n) := by
  have row : ∀ j, j < c → gs (fun i => gm (M j i) (E i)) (n + 1) = ga (if j < n then E j else 0) (M j n) := by
    intro j hj
    rw [gs, hE, gm_1]
    congr 1
    by_cases e : j < n
    · rw [if_pos e, gs_one (k := j) e (fun i hi hne => by rw [hU i hi j hj, if_neg (Ne.symm hne), gm_0l]), hU j e j hj, if_pos rfl, gm_1l]
    · rw [if_neg e, gs_zero (fun i hi => by rw [hU i hi j hj, if_neg (by omega), gm_0l])]
  constructor
  · intro hM
    refine ⟨fun j h1 h2 => ?_, fun j hj => ?_⟩
    · have := hM j h2
      rw [row j h2, if_neg (by omega), ga_0l] at this
      exact this
    · have := hM j (by omega)
      rw [row j (by omega), if_pos hj] at this
      exact ga_eq0 _ _ this
  · rintro ⟨h1, h2⟩ j hj
    rw [row j hj]
    by_cases e : j < n
    · rw [if_pos e, h2 j e, ga_self]
    · rw [if_neg e, h1 j (by omega) hj, ga_self]
/-! the equations of places -/
def pv2 (ps : Nat → Nat) (n : Nat) (E : Nat → G) (p : Nat) : G := gs (fun i => if ps i = p then E i else 0) n
theorem pv2_pw {ps : Nat → Nat} {n : Nat} (hp : ∀ i, i < n → ps i < 14) (E : Nat → G) (j : Nat) : pw (pv2 ps n E) j = gs (fun i => gm (E i) (gp (xp (ps i)) j)) n := by
  unfold pw pv2
  have e1 : gs (fun p => gm (gs (fun i => if ps i = p then E i else 0) n) (gp (xp p) j)) 14 = gs (fun p => gs (fun i => gm (if ps i = p then E i else 0) (gp (xp p) j)) n) 14 := gs_congr (fun p _ => by
    rw [gm_comm, ← gs_mul]
    exact gs_congr (fun i _ => gm_comm _ _))
  rw [e1, gs_swap]
  refine gs_congr (fun i hi => ?_)
  rw [gs_one (k := ps i) (hp i hi) (fun p _ hne => by rw [if_neg (Ne.symm hne), gm_0l]), if_pos rfl]
theorem pv2_at {ps : Nat → Nat} {n : Nat} (hinj : ∀ i j, i < n → j < n → ps i = ps j → i = j) (E : Nat → G) {i : Nat} (hi : i < n) : pv2 ps n E (ps i) = E i := by
  unfold pv2
  rw [gs_one (k := i) hi (fun j hj hne => if_neg (fun q => hne (hinj j i hj hi q))), if_pos rfl]
theorem pv2_no {ps : Nat → Nat} {n : Nat} (E : Nat → G) {p : Nat} (h : ∀ i, i < n → ps i ≠ p) : pv2 ps n E p = 0 := by
  unfold pv2
  exact gs_zero (fun i hi => if_neg (h i hi))
/-- so many places -/
theorem ct_places (ps : Nat → Nat) : ∀ n, ct (fun p => (List.range n).any (fun i => ps i == p)) 14 ≤ n := by
  intro n
  induction n with
  | zero =>
    have : ct (fun p => (List.range 0).any (fun i => ps i == p)) 14 ≤ ct (fun _ => false) 14 := ct_le (fun i _ h => by simp at h)
    exact Nat.le_trans this (by decide)
  | succ n ih =>
    have h1 : ct (fun p => (List.range (n + 1)).any (fun i => ps i == p)) 14 ≤ ct (fun p => (List.range n).any (fun i => ps i == p) || (ps n == p)) 14 := ct_le (fun i _ h => by
      rw [List.range_succ, List.any_append] at h
      simpa using h)
    have h2 := ct_or (fun p => (List.range n).any (fun i => ps i == p)) (fun p => ps n == p) 14
    have h3 : ∀ m, ct (fun p => ps n == p) m ≤ 1 := by
      intro m
      have h4 : ∀ m, m ≤ ps n → ct (fun p => ps n == p) m = 0 := by
        intro m
        induction m with
        | zero => intro _; rfl
        | succ m ihm =>
          intro hm
          rw [ct, ihm (by omega)]
          have : (ps n == m) = false := beq_false_of_ne (by omega)
          rw [this]
          rfl
      induction m with
      | zero => exact Nat.zero_le _
      | succ m ihm =>
        rw [ct]
        by_cases e : ps n = m
        · rw [h4 m (by omega)]
          split <;> omega
        · have : (ps n == m) = false := beq_false_of_ne e
          rw [this]
          simpa using ihm
    have := h3 14
    omega
theorem places_free {ps : Nat → Nat} {n c : Nat} (hnc : n ≤ c) (hp : ∀ i, i < n → ps i < 14) (hinj : ∀ i j, i < n → j < n → ps i = ps j → i = j) {E : Nat → G} (h : ∀ j, j < c → gs (fun i => gm (E i) (gp (xp (ps i)) j)) n = 0) : ∀ i, i < n → E i = 0 := by
  have hz := vand n (pv2 ps n E) 0 (by
    refine Nat.le_trans (ct_le (fun p hp' hn => ?_)) (ct_places ps n)
    refine Classical.byContradiction fun hno => ?_
    refine of_decide_eq_true hn (pv2_no E (fun i hi q => hno ?_))
    exact List.any_eq_true.mpr ⟨i, List.mem_range.mpr hi, by rw [q]; exact beq_self_eq_true p⟩) (fun j _ hj => by rw [pv2_pw hp]; exact h j (by omega))
  intro i hi
  rw [← pv2_at hinj E hi]
  exact hz (ps i) (hp i hi)
