/-! SOLUTIONS AND MENDING -/
theorem list_pw {l : List Nat} (hl : ∀ i, i < l.length → l.getD i 0 < 14) (hnd : l.Nodup) {E : Nat → G} (hs : ∀ p, p < 14 → p ∉ l → E p = 0) (j : Nat) : gs (fun i => gm (E (l.getD i 0)) (gp (xp (l.getD i 0)) j)) l.length = pw E j := by
  have h1 := pv2_pw (ps := fun i => l.getD i 0) (n := l.length) hl (fun i => E (l.getD i 0)) j
  rw [← h1]
  refine gs_congr (fun p hp => ?_)
  congr 1
  by_cases hm : p ∈ l
  · obtain ⟨i, hi, he⟩ := mem_getD hm
    have h2 := pv2_at (ps := fun i => l.getD i 0) (n := l.length) (fun a b ha hb h => nodup_getD l hnd a b ha hb h) (fun i => E (l.getD i 0)) hi
    rw [← he]
    exact h2
  · rw [hs p hp hm]
    exact pv2_no _ (fun i hi q => hm (by rw [← q]; exact getD_mem hi))
/-- where r and v differ, off the gone places -/
def df (g : Nat → Bool) (r v : Nat → G) (p : Nat) : Bool := !(g p) && decide (r p ≠ v p)
theorem fix_sol {c d : Nat} {v r : Nat → G} {g : Nat → Bool} (h : Fix c v g r d) : (gl (df g r v) 14).length = d ∧ ∃ e, So c (pw v) (gl g 14 ++ gl (df g r v) 14) e := by
  obtain ⟨a1, a2, a3⟩ := h
  refine ⟨by rw [gl_len]; exact a2, fun i => ga (v ((gl g 14 ++ gl (df g r v) 14).getD i 0)) (r ((gl g 14 ++ gl (df g r v) 14).getD i 0)), fun j hj => ?_⟩
  have hmem : ∀ p, p ∈ gl g 14 ++ gl (df g r v) 14 ↔ p < 14 ∧ (g p = true ∨ df g r v p = true) := fun p => by
    rw [List.mem_append, gl_mem, gl_mem]
    constructor
    · rintro (q | q)
      · exact ⟨q.1, Or.inl q.2⟩
      · exact ⟨q.1, Or.inr q.2⟩
    · rintro ⟨q1, q2 | q2⟩
      · exact Or.inl ⟨q1, q2⟩
      · exact Or.inr ⟨q1, q2⟩
  have hnd : (gl g 14 ++ gl (df g r v) 14).Nodup := by
    refine List.nodup_append.mpr ⟨gl_nodup _ _, gl_nodup _ _, ?_⟩
    intro a ha b hb hab
    rw [gl_mem] at ha hb
    subst hab
    have := hb.2
    unfold df at this
    rw [ha.2] at this
    cases this
  have := list_pw (l := gl g 14 ++ gl (df g r v) 14) (fun i hi => ((hmem _).mp (getD_mem hi)).1) hnd (E := fun p => ga (v p) (r p)) (fun p hp hno => by
    have h1 : ¬ (g p = true ∨ df g r v p = true) := fun q => hno ((hmem p).mpr ⟨hp, q⟩)
    have h2 : g p = false := by
      cases hg : g p with
      | false => rfl
      | true => exact absurd (Or.inl hg) h1
    have h3 : r p = v p := by
      refine Classical.byContradiction fun q => h1 (Or.inr ?_)
      unfold df
      rw [h2, decide_eq_true q]
      rfl
    show ga (v p) (r p) = 0
    rw [h3, ga_self]) j
  rw [this, pw_add, a1 j hj, ga_0]
theorem sol_fix {c : Nat} {v e : Nat → G} {g : Nat → Bool} {W : List Nat} (hnd : (gl g 14 ++ W).Nodup) (hW : ∀ q, q ∈ W → q < 14) (hc : ct g 14 + 2 * W.length ≤ c) (h : So c (pw v) (gl g 14 ++ W) e) : ∃ r d, Fix c v g r d ∧ d ≤ W.length ∧ (∀ i, i < (gl g 14 ++ W).length → r ((gl g 14 ++ W).getD i 0) = ga (v ((gl g 14 ++ W).getD i 0)) (e i)) ∧ ∀ p, p < 14 → p ∉ gl g 14 ++ W → r p = v p := by
  have hlt : ∀ i, i < (gl g 14 ++ W).length → (gl g 14 ++ W).getD i 0 < 14 := fun i hi => by
    rcases List.mem_append.mp (getD_mem hi) with q | q
    · exact ((gl_mem g 14 _).mp q).1
    · exact hW _ q
  let E : Nat → G := pv2 (fun i => (gl g 14 ++ W).getD i 0) (gl g 14 ++ W).length e
  have hE : ∀ j, j < c → pw E j = pw v j := fun j hj => by
    show pw (pv2 (fun i => (gl g 14 ++ W).getD i 0) (gl g 14 ++ W).length e) j = _
    rw [pv2_pw hlt]
    exact h j hj
  have hE0 : ∀ p, p ∉ gl g 14 ++ W → E p = 0 := fun p hp => pv2_no e (fun i hi q => hp (by rw [← q]; exact getD_mem hi))
  have hle : ct (fun p => !(g p) && decide (ga (v p) (E p) ≠ v p)) 14 ≤ W.length := by
    have h1 : ct (fun p => !(g p) && decide (ga (v p) (E p) ≠ v p)) 14 ≤ ct (fun p => (List.range W.length).any (fun i => W.getD i 0 == p)) 14 := by
      refine ct_le (fun p hp hq => ?_)
      rw [Bool.and_eq_true] at hq
      have hm : p ∈ gl g 14 ++ W := Classical.byContradiction fun q => of_decide_eq_true hq.2 (by rw [hE0 p q, ga_0])
      rcases List.mem_append.mp hm with q | q
      · have := ((gl_mem g 14 p).mp q).2
        rw [this] at hq
        exact absurd hq.1 (by decide)
      · obtain ⟨i, hi, he⟩ := mem_getD q
        exact List.any_eq_true.mpr ⟨i, List.mem_range.mpr hi, by rw [he]; exact beq_self_eq_true p⟩
    exact Nat.le_trans h1 (ct_places (fun i => W.getD i 0) W.length)
  refine ⟨fun p => ga (v p) (E p), ct (fun p => !(g p) && decide (ga (v p) (E p) ≠ v p)) 14, ⟨fun j hj => by rw [pw_add, hE j hj, ga_self], rfl, by omega⟩, hle, fun i hi => ?_, fun p _ hp => by show ga (v p) (E p) = v p; rw [hE0 p hp, ga_0]⟩
  show ga _ (E _) = _
  have h2 := pv2_at (ps := fun i => (gl g 14 ++ W).getD i 0) (n := (gl g 14 ++ W).length) (fun a b ha hb q => nodup_getD _ hnd a b ha hb q) e hi
  rw [show E ((gl g 14 ++ W).getD i 0) = e i from h2]
/-- the gone places are as they are: what is given there does not matter -/
theorem Fix_off {c d : Nat} {v v' r : Nat → G} {g : Nat → Bool} (h : Fix c v g r d) (hv : ∀ p, p < 14 → g p = false → v p = v' p) : Fix c v' g r d := by
  obtain ⟨a1, a2, a3⟩ := h
  refine ⟨a1, ?_, a3⟩
  rw [← a2]
  refine ct_congr (fun p hp => ?_)
  cases hg : g p with
  | true => rfl
  | false => rw [hv p hp hg]
