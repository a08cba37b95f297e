/-! LOCALS THAT NOBODY READS MAY BE FORGOTTEN -/
def mm_le : mm_Lo → mm_Lo → Prop
  | [], [] => True
  | a :: l, b :: l' => (a = b ∨ (a = none ∧ mm_lg (some b) = false)) ∧ mm_le l l'
  | _, _ => False
theorem mm_le_len : ∀ {L L' : mm_Lo}, mm_le L L' → L.length = L'.length
  | [], [], _ => rfl
  | _ :: _, _ :: _, h => by
    rw [List.length_cons, List.length_cons, mm_le_len h.2]
  | [], _ :: _, h => h.elim
  | _ :: _, [], h => h.elim
theorem mm_le_get : ∀ {L L' : mm_Lo} {k : Nat} {v : Value}, mm_le L L' → L[k]? = some (some v) → L'[k]? = some (some v)
  | [], _, k, v, _, hk => by simp at hk
  | a :: l, b :: l', 0, v, h, hk => by
    have ha : a = some v := by simpa using hk
    rcases h.1 with e | e
    · rw [← e, ha]; rfl
    · rw [e.1] at ha; cases ha
  | a :: l, b :: l', k + 1, v, h, hk => by
    have := mm_le_get (k := k) h.2 (by simpa using hk)
    simpa using this
  | _ :: _, [], k, v, h, hk => h.elim
theorem mm_le_lg : ∀ {L L' : mm_Lo} {k : Nat}, mm_le L L' → mm_lg L[k]? = false → mm_lg L'[k]? = false
  | [], [], k, _, hk => by simp [mm_lg]
  | a :: l, b :: l', 0, h, hk => by
    rcases h.1 with e | e
    · subst e; exact hk
    · exact e.2
  | a :: l, b :: l', k + 1, h, hk => by
    have := mm_le_lg (k := k) h.2 (by simpa using hk)
    simpa using this
  | [], _ :: _, k, h, hk => h.elim
  | _ :: _, [], k, h, hk => h.elim
theorem mm_le_set : ∀ {L L' : mm_Lo} {k : Nat} {o : Option Value}, mm_le L L' → mm_le (L.set k o) (L'.set k o)
  | [], [], k, o, h => by simp [mm_le]
  | a :: l, b :: l', 0, o, h => ⟨Or.inl rfl, h.2⟩
  | a :: l, b :: l', k + 1, o, h => ⟨h.1, mm_le_set h.2⟩
  | [], _ :: _, k, o, h => h.elim
  | _ :: _, [], k, o, h => h.elim
theorem mm_le_ok {L L' : mm_Lo} {k : Nat} (h : mm_le L L') (hk : mm_ok1 L k = true) : mm_ok1 L' k = true := by
  unfold mm_ok1 at hk ⊢
  rw [← mm_le_len h]
  rw [Bool.and_eq_true] at hk ⊢
  refine ⟨hk.1, ?_⟩
  cases k with
  | zero => rfl
  | succ q =>
    have h1 := hk.2
    simp only [Bool.not_eq_true'] at h1 ⊢
    exact mm_le_lg h h1
theorem mm_le_p1 {ins : Instr} {y : Nat} {L L' L1 : mm_Lo} {st st1 : List Value} (h : mm_le L L') (hp : mm_p1 ins y L st = some (L1, st1)) : ∃ L1', mm_p1 ins y L' st = some (L1', st1) ∧ mm_le L1 L1' := by
  unfold mm_p1 at hp
  split at hp
  · cases hp; exact ⟨L', rfl, h⟩
  · cases hp; exact ⟨L', rfl, h⟩
  · cases hp; exact ⟨L', rfl, h⟩
  · cases hp; exact ⟨L', rfl, h⟩
  · cases hp; exact ⟨L', rfl, h⟩
  · cases hp; exact ⟨L', rfl, h⟩
  · cases hp; exact ⟨L', rfl, h⟩
  · split at hp
    · rename_i hv; cases hp; exact ⟨L', by simp only [mm_p1, mm_le_get h hv], h⟩
    · cases hp
  · split at hp
    · rename_i hv; cases hp; exact ⟨L', by simp only [mm_p1, mm_le_get h hv], h⟩
    · cases hp
  · split at hp
    · rename_i hv; cases hp; exact ⟨L', by simp only [mm_p1, mm_le_get h hv], h⟩
    · cases hp
  · split at hp
    · rename_i hv; cases hp; exact ⟨L', by simp only [mm_p1, mm_le_get h hv], h⟩
    · cases hp
  · split at hp
    · rename_i hv; cases hp; exact ⟨L', by simp only [mm_p1, mm_le_get h hv], h⟩
    · cases hp
  · split at hp
    · rename_i hv; cases hp; exact ⟨L', by simp only [mm_p1, mm_le_get h hv], h⟩
    · cases hp
  · split at hp
    · rename_i x hv
      split at hp
      · rename_i b hok
        cases hp
        exact ⟨_, by simp only [mm_p1, mm_le_get h hv, mm_le_ok h hok], mm_le_set h⟩
      · cases hp
    · cases hp
  · cases hp
theorem mm_le_s1 {k : Nat} {v : Value} {L L' L1 : mm_Lo} {st st1 : List Value} (h : mm_le L L') (hp : mm_st1 L k v st = some (L1, st1)) : ∃ L1', mm_st1 L' k v st = some (L1', st1) ∧ mm_le L1 L1' := by
  unfold mm_st1 at hp
  split at hp
  · rename_i hok
    cases hp
    exact ⟨_, by simp only [mm_st1, mm_le_ok h hok], mm_le_set h⟩
  · cases hp
theorem mm_le_s2 {k : Nat} {v : Value} {L L' L1 : mm_Lo} {st st1 : List Value} (h : mm_le L L') (hp : mm_st2 L k v st = some (L1, st1)) : ∃ L1', mm_st2 L' k v st = some (L1', st1) ∧ mm_le L1 L1' := by
  unfold mm_st2 at hp
  split at hp
  · rename_i hok
    cases hp
    rw [Bool.and_eq_true] at hok
    exact ⟨_, by simp only [mm_st2, mm_le_ok h hok.1, ← mm_le_len h, hok.2, Bool.and_self], mm_le_set (mm_le_set h)⟩
  · cases hp
theorem mm_le_p2 {ins : Instr} {L L' L1 : mm_Lo} {st st1 : List Value} (h : mm_le L L') (hp : mm_p2 ins L st = some (L1, st1)) : ∃ L1', mm_p2 ins L' st = some (L1', st1) ∧ mm_le L1 L1' := by
  unfold mm_p2 at hp
  split at hp
  · split at hp
    · exact mm_le_s1 h hp
    · cases hp
  · split at hp
    · exact mm_le_s1 h hp
    · cases hp
  · split at hp
    · exact mm_le_s1 h hp
    · cases hp
  · split at hp
    · exact mm_le_s1 h hp
    · cases hp
  · split at hp
    · exact mm_le_s2 h hp
    · cases hp
  · split at hp
    · exact mm_le_s2 h hp
    · cases hp
  · split at hp
    · cases hp; exact ⟨L', rfl, h⟩
    · cases hp; exact ⟨L', rfl, h⟩
    · cases hp
  · split at hp
    · cases hp; exact ⟨L', rfl, h⟩
    · cases hp
  · split at hp
    · cases hp; exact ⟨L', rfl, h⟩
    · cases hp
  · cases hp
/-- which instructions are constants and loads does not hang on the locals -/
def mm_isp1 : Instr → Bool
  | .iconst _ | .bipush _ | .sipush _ | .ldc _ | .ldc_w _ | .lconst _ | .ldc2_w _ | .iload_n _ | .iload _ | .lload_n _ | .lload _ | .aload_n _ | .aload _ | .iinc _ _ => true
  | _ => false
theorem mm_p1_no {ins : Instr} {y : Nat} {L : mm_Lo} {st : List Value} (h : mm_isp1 ins = false) : mm_p1 ins y L st = none := by
  cases ins <;> first | rfl | (cases h; done)
theorem mm_p2_no {ins : Instr} {L : mm_Lo} {st : List Value} (h : mm_isp1 ins = true) : mm_p2 ins L st = none ∧ mm_p3 ins st = none := by
  cases ins <;> first | exact ⟨rfl, rfl⟩ | (cases h; done)
def mm_isp2 : Instr → Bool
  | .istore_n _ | .istore _ | .astore_n _ | .astore _ | .lstore_n _ | .lstore _ | .dup | .dup2 | .pop => true
  | _ => false
theorem mm_p2_no2 {ins : Instr} {L : mm_Lo} {st : List Value} (h : mm_isp2 ins = false) : mm_p2 ins L st = none := by
  cases ins <;> first | rfl | (cases h; done)
theorem mm_p3_no {ins : Instr} {st : List Value} (h : mm_isp2 ins = true) : mm_p3 ins st = none := by
  cases ins <;> first | rfl | (cases h; done)
theorem mm_le_pure {ins : Instr} {y : Nat} {L L' L1 : mm_Lo} {st st1 : List Value} (h : mm_le L L') (hp : mm_pure ins y L st = some (L1, st1)) : ∃ L1', mm_pure ins y L' st = some (L1', st1) ∧ mm_le L1 L1' := by
  unfold mm_pure at hp ⊢
  cases h1 : mm_isp1 ins with
  | true =>
    obtain ⟨n2, n3⟩ := mm_p2_no (L := L) (st := st) h1
    rw [n2, n3] at hp
    cases hq : mm_p1 ins y L st with
    | none => rw [hq] at hp; cases hp
    | some w =>
      rw [hq] at hp
      cases hp
      obtain ⟨L1', e1, e2⟩ := mm_le_p1 h hq
      exact ⟨L1', by rw [e1], e2⟩
  | false =>
    rw [mm_p1_no h1] at hp ⊢
    simp only at hp ⊢
    cases h2 : mm_isp2 ins with
    | true =>
      rw [mm_p3_no h2] at hp
      cases hq : mm_p2 ins L st with
      | none => rw [hq] at hp; cases hp
      | some w =>
        rw [hq] at hp
        cases hp
        obtain ⟨L1', e1, e2⟩ := mm_le_p2 h hq
        exact ⟨L1', by rw [e1], e2⟩
    | false =>
      rw [mm_p2_no2 h2] at hp ⊢
      simp only at hp ⊢
      cases hq : mm_p3 ins st with
      | none => rw [hq] at hp; cases hp
      | some w =>
        rw [hq] at hp
        cases hp
        exact ⟨L', rfl, h⟩
theorem mm_x_le (X : Nat × (Nat → Int32)) : ∀ (f j i : Nat) (L L' : mm_Lo) (st : List Value) (B : Nat × Nat) (μ : mm_M) (q : Option Value × mm_M), mm_le L L' → mm_x X f j i L st B μ = some q → mm_x X f j i L' st B μ = some q := by
  intro f
  induction f with
  | zero => intro j i L L' st B μ q hle h; cases h
  | succ f ih =>
    intro j i L L' st B μ q hle h
    unfold mm_x at h ⊢
    cases hen : mm_en j i with
    | none => rw [hen] at h; cases h
    | some e0 =>
      obtain ⟨tag, pc, ins, len, x, y, z⟩ := e0
      rw [hen] at h
      simp only at h ⊢
      match tag, h with
      | 0, h =>
        simp only at h ⊢
        cases hp : mm_pure ins y L st with
        | none => rw [hp] at h; cases h
        | some w =>
          obtain ⟨L1, st1⟩ := w
          rw [hp] at h
          obtain ⟨L1', e1, e2⟩ := mm_le_pure hle hp
          rw [e1]
          exact ih _ _ _ _ _ _ _ _ e2 h
      | 1, h =>
        simp only at h ⊢
        cases hp : mm_br ins st with
        | none => rw [hp] at h; cases h
        | some w =>
          obtain ⟨b, st'⟩ := w
          rw [hp] at h
          cases b with
          | true => exact ih _ _ _ _ _ _ _ _ hle h
          | false => exact ih _ _ _ _ _ _ _ _ hle h
      | 2, h => exact ih _ _ _ _ _ _ _ _ hle h
      | 3, h =>
        simp only at h ⊢
        cases hp : mm_mem X j ins x y st B μ with
        | none => rw [hp] at h; cases h
        | some w => rw [hp] at h; exact ih _ _ _ _ _ _ _ _ hle h
      | 4, h =>
        simp only at h ⊢
        cases hp : mm_cl j x st B μ with
        | none => rw [hp] at h; cases h
        | some w =>
          obtain ⟨as, rest, B'⟩ := w
          rw [hp] at h
          simp only at h ⊢
          cases hc : mm_x X f x 0 (mm_ini as (mm_me x).2.2.1) [] (0, 0) μ with
          | none => rw [hc] at h; cases h
          | some w2 =>
            rw [hc] at h
            exact ih _ _ _ _ _ _ _ _ hle h
      | 5, h => exact h
      | n + 6, h =>
        simp only at h ⊢
        cases hp : mm_sw j pc ins st with
        | none => rw [hp] at h; cases h
        | some w => rw [hp] at h; exact ih _ _ _ _ _ _ _ _ hle h
theorem wp_le {X : Nat × (Nat → Int32)} {B : Nat × Nat} {j i : Nat} {L L' : mm_Lo} {st : List Value} {iv : IV} {Q : Option Value → IV → Prop} (h : mm_le L L') (k : wp X B j i L st iv Q) : wp X B j i L' st iv Q := by
  obtain ⟨f, r, iv', h1, h2⟩ := k
  exact ⟨f, r, iv', mm_x_le X _ _ _ _ _ _ _ _ _ h h1, h2⟩
/-- what a call must come to, by the kind of its answer -/
def Ri (P : Int32 → IV → Prop) : Option Value → IV → Prop := fun r iv => ∃ v, r = some (.int v) ∧ P v iv
def Rl (P : Int64 → IV → Prop) : Option Value → IV → Prop := fun r iv => ∃ v, r = some (.long v) ∧ P v iv
def Rv (P : IV → Prop) : Option Value → IV → Prop := fun r iv => r = none ∧ P iv
def Rr (P : Nat → IV → Prop) : Option Value → IV → Prop := fun r iv => ∃ v, r = some (.ref v) ∧ P v iv
section WPC
variable {X : Nat × (Nat → Int32)} {B : Nat × Nat} {j i : Nat} {L : mm_Lo} {st : List Value} {iv : IV} {Q : Option Value → IV → Prop} {T : List mm_e}
theorem wp_calli {ins : Instr} {pc len x y z : Nat} {as rest : List Value} {P : Int32 → IV → Prop} (hT : mm_tb j = T) (he : T[i]? = some (4, pc, ins, len, x, y, z)) (h : mm_cl j x st B (mm_N0 iv) = some (as, rest, B)) (k : wc X x as iv (Ri P)) (kk : ∀ v iv', P v iv' → wp X B j (i + 1) L (.int v :: rest) iv' Q) : wp X B j i L st iv Q :=
  wp_call hT he h (wp_conseq k (fun r iv' hq => by
    obtain ⟨v, rfl, hq⟩ := hq
    exact kk v iv' hq))
theorem wp_calll {ins : Instr} {pc len x y z : Nat} {as rest : List Value} {P : Int64 → IV → Prop} (hT : mm_tb j = T) (he : T[i]? = some (4, pc, ins, len, x, y, z)) (h : mm_cl j x st B (mm_N0 iv) = some (as, rest, B)) (k : wc X x as iv (Rl P)) (kk : ∀ v iv', P v iv' → wp X B j (i + 1) L (.long v :: rest) iv' Q) : wp X B j i L st iv Q :=
  wp_call hT he h (wp_conseq k (fun r iv' hq => by
    obtain ⟨v, rfl, hq⟩ := hq
    exact kk v iv' hq))
theorem wp_callr {ins : Instr} {pc len x y z : Nat} {as rest : List Value} {P : Nat → IV → Prop} (hT : mm_tb j = T) (he : T[i]? = some (4, pc, ins, len, x, y, z)) (h : mm_cl j x st B (mm_N0 iv) = some (as, rest, B)) (k : wc X x as iv (Rr P)) (kk : ∀ v iv', P v iv' → wp X B j (i + 1) L (.ref v :: rest) iv' Q) : wp X B j i L st iv Q :=
  wp_call hT he h (wp_conseq k (fun r iv' hq => by
    obtain ⟨v, rfl, hq⟩ := hq
    exact kk v iv' hq))
theorem wp_callv {ins : Instr} {pc len x y z : Nat} {as rest : List Value} {P : IV → Prop} (hT : mm_tb j = T) (he : T[i]? = some (4, pc, ins, len, x, y, z)) (h : mm_cl j x st B (mm_N0 iv) = some (as, rest, B)) (k : wc X x as iv (Rv P)) (kk : ∀ iv', P iv' → wp X B j (i + 1) L rest iv' Q) : wp X B j i L st iv Q :=
  wp_call hT he h (wp_conseq k (fun r iv' hq => by
    obtain ⟨rfl, hq⟩ := hq
    exact kk iv' hq))
/-- the receiver is a number that isn't known -/
theorem mm_cl_of {x na ci c6 c7 f5 f6 maxL a n : Nat} {as' rest : List Value} (h1 : mm_nu (mm_me x) 0 = 1) (h2 : mm_nu (mm_me x) 1 = na) (h3 : mm_nu (mm_me x) 2 = ci) (h4 : mm_nu (mm_me x) 5 = 0) (h5 : mm_nu (mm_me x) 6 = 0) (h6 : (mm_me x).2.2.1 = maxL) (hk : kdT a = (10 + ci, n)) (ht : (st.take na).reverse = .ref a :: as') (hd : st.drop na = rest) (hl : na ≤ st.length) (hs : (rest.map fun v => v.category).sum ≤ 8) (he : (mm_ent (.ref a :: as')).length ≤ maxL) (hb1 : B.1 ≤ mm_nu (mm_me j) 5) (hb2 : B.2 ≤ mm_nu (mm_me j) 6) : mm_cl j x st B (mm_N0 iv) = some (.ref a :: as', rest, B) := by
  unfold mm_cl
  simp only [h1, h2, h3, h4, h5, h6, ht, hd, Nat.add_zero]
  rw [if_pos]
  refine ⟨hl, hs, ?_, he, hb1, hb2⟩
  show decide ((mm_kd (mm_N0 iv) a).1 = 10 + ci) = true
  rw [kd_of hk (by show 1 ≤ 10 + ci; omega)]
  exact decide_eq_true rfl
end WPC
