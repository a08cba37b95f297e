/-! A RUN OF THE SMALL MACHINE IS A RUN OF THE MACHINE -/
def mm_rm (j : Nat) : Room := { frames := mm_nu (mm_me j) 3, cells := mm_nu (mm_me j) 5, slots := mm_nu (mm_me j) 6, locals := mm_nu (mm_me j) 4 }
def mm_wd (j : Nat) : List Jvm.Cond := .code (mm_me j).1 (mm_me j).2.1 (mm_me j).2.2.1 (mm_me j).2.2.2.1 :: mm_gt
def mm_Pc (g : mm_G) (as : List Value) (μ : mm_M) : Array Value → State → Prop := va_Pc (as.map (mm_rl g)) (fun U => mm_R g μ U.heap ∧ mm_C g U U.heap)
def mm_Qc (g : mm_G) (r : Option Value) (μ' : mm_M) : Array Value → State → Outcome → State → Prop := fun _ st oc t => oc = .returned (r.map (mm_rl g)) ∧ mm_R g μ' t.heap ∧ va_F (mm_A g) st t
/-- a method's standing facts -/
def mm_At (g : mm_G) (j : Nat) (p : Program) (R : Room) (s : State) (m : MethodId) (args : Array Value) (meth : Method) (c : Code) : Prop :=
  p.tables.exec = Jvm.exec ∧ c.code = (mm_me j).2.1 ∧ c.maxLocals = (mm_me j).2.2.1 ∧ s.vm.findClass (mm_own j) = some m.cls ∧ (∀ w ∈ mm_gt, w.before args s = true) ∧ mm_C g s s.heap ∧ (mm_nu (mm_me j) 0 = 2 → meth.name = "<init>") ∧ mm_nu (mm_me j) 3 ≤ R.frames ∧ mm_nu (mm_me j) 4 ≤ R.locals ∧ mm_nu (mm_me j) 5 ≤ R.cells ∧ mm_nu (mm_me j) 6 ≤ R.slots
/-- its end -/
def mm_End (g : mm_G) (j : Nat) (p : Program) (l : Launch) (e : Env) (R : Room) (s : State) (m : MethodId) (args : Array Value) (below : List Frame) (meth : Method) (c : Code) (Q : State → Prop) (r : Option Value) (μ' : mm_M) : Prop :=
  ∀ (pc : Nat) (ins : Instr) (H' : Heap) (locs' : List Loc) (ls' : Array Slot) (B' : Nat × Nat) (st' : List Value), decode (mm_me j).2.1 pc = .ok (ins, 1) → mm_rt j ins st' μ' = some (r, μ') → mm_R g μ' H' → va_S (mm_A g) s.heap H' locs' → B'.1 ≤ mm_nu (mm_me j) 5 → B'.2 ≤ mm_nu (mm_me j) 6 → W p l e R s m args below meth c H' locs' B'.1 B'.2 Q (F0 m pc ls' (st'.map (mm_rl g)))
def mm_Runs (l : Launch) (g : mm_G) (f : Nat) : Prop :=
  ∀ (j i : Nat) (L : mm_Lo) (st : List Value) (B : Nat × Nat) (μ : mm_M) (r : Option Value) (μ' : mm_M), j < 226 → mm_x g.2.2.2.2 f j i L st B μ = some (r, μ') →
    ∀ (p : Program) (e : Env) (R : Room) (s : State) (m : MethodId) (args : Array Value) (below : List Frame) (meth : Method) (c : Code) (H : Heap) (locs : List Loc) (ls : Array Slot) (Q : State → Prop),
      mm_At g j p R s m args meth c → B.1 ≤ mm_nu (mm_me j) 5 → B.2 ≤ mm_nu (mm_me j) 6 → mm_R g μ H → va_S (mm_A g) s.heap H locs → mm_L g ls (mm_me j).2.2.1 L → mm_End g j p l e R s m args below meth c Q r μ' →
      W p l e R s m args below meth c H locs B.1 B.2 Q (F0 m (mm_pc j i) ls (st.map (mm_rl g)))
def mm_Mets (l : Launch) (g : mm_G) (f : Nat) : Prop :=
  ∀ (j : Nat) (as : List Value) (μ : mm_M) (r : Option Value) (μ' : mm_M), j < 225 → (mm_ent as).length ≤ (mm_me j).2.2.1 → mm_x g.2.2.2.2 f j 0 (mm_ini as (mm_me j).2.2.1) [] (0, 0) μ = some (r, μ') →
    Met l (mm_me j).1 (mm_wd j) (mm_rm j) (mm_Pc g as μ) (mm_Qc g r μ') (mm_nu (mm_me j) 5) (mm_nu (mm_me j) 6) (mm_A g)
theorem mm_rt_mu {j : Nat} {ins : Instr} {st : List Value} {μ μ' : mm_M} {r : Option Value} (h : mm_rt j ins st μ = some (r, μ')) : μ' = μ := by
  unfold mm_rt at h
  split at h
  all_goals first
    | (cases h; done)
    | (split at h
       · split at h
         · cases h
           rfl
         · cases h
       · cases h)
/-- the locals at the entry -/
theorem mm_sl_cons (v : Value) (vs : List Value) : (lg_sl (v :: vs)).length = (if v.category = 2 then 2 else 1) + (lg_sl vs).length := by
  unfold lg_sl
  rw [List.flatMap_cons, List.length_append]
  split <;> rfl
theorem mm_ent_cons (v : Value) (vs : List Value) : mm_ent (v :: vs) = (if v.category = 2 then [some v, none] else [some v]) ++ mm_ent vs := by
  cases v <;> rfl
theorem mm_sl_len (g : mm_G) : ∀ as : List Value, (lg_sl (as.map (mm_rl g))).length = (mm_ent as).length := by
  intro as
  induction as with
  | nil => rfl
  | cons v vs ih =>
    rw [List.map_cons, mm_sl_cons, mm_rl_cat, ih, mm_ent_cons, List.length_append]
    split <;> rfl
/-- what the entry's locals hold: place by place -/
theorem mm_ent_at (g : mm_G) : ∀ (as : List Value) (i0 i : Nat) (v : Value), (mm_ent as)[i]? = some (some v) → (i0 + i, mm_rl g v) ∈ lv_args i0 (as.map (mm_rl g)) := by
  intro as
  induction as with
  | nil => intro i0 i v h; simp [mm_ent] at h
  | cons w vs ih =>
    intro i0 i v h
    show (i0 + i, mm_rl g v) ∈ (i0, mm_rl g w) :: lv_args (if (mm_rl g w).category = 2 then i0 + 2 else i0 + 1) (vs.map (mm_rl g))
    rw [mm_rl_cat]
    rw [mm_ent_cons] at h
    by_cases hc : w.category = 2
    · rw [if_pos hc] at h ⊢
      match i, h with
      | 0, h => cases h; exact List.mem_cons_self
      | 1, h => cases h
      | n + 2, h =>
        have := ih (i0 + 2) n v (by simpa using h)
        rw [show i0 + 2 + n = i0 + (n + 2) by omega] at this
        exact List.mem_cons_of_mem _ this
    · rw [if_neg hc] at h ⊢
      match i, h with
      | 0, h => cases h; exact List.mem_cons_self
      | n + 1, h =>
        have := ih (i0 + 1) n v (by simpa using h)
        rw [show i0 + 1 + n = i0 + (n + 1) by omega] at this
        exact List.mem_cons_of_mem _ this
theorem mm_entry (g : mm_G) {as : List Value} {n : Nat} (hn : (mm_ent as).length ≤ n) : mm_L g ((lg_sl (as.map (mm_rl g)) ++ List.replicate (n - (lg_sl (as.map (mm_rl g))).length) Slot.unset).toArray) n (mm_ini as n) := by
  have hlen := mm_sl_len g as
  have h := lv_entry (as.map (mm_rl g)) (n := n) (by rw [hlen]; exact hn)
  refine ⟨h.1, h.2.1, ?_, fun i v hv => ?_⟩
  · unfold mm_ini
    rw [List.length_append, List.length_replicate]
    omega
  · unfold mm_ini at hv
    by_cases hi : i < (mm_ent as).length
    · rw [List.getElem?_append_left hi] at hv
      have := mm_ent_at g as 0 i v hv
      rw [Nat.zero_add] at this
      exact h.2.2 _ this
    · rw [List.getElem?_append_right (by omega), List.getElem?_replicate] at hv
      split at hv
      · cases hv
      · cases hv
