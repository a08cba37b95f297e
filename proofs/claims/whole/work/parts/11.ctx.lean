/-! WHAT HOLDS ALL THE RUN -/
def mm_tys (g : mm_G) : List (ClassId × FieldType) := [(g.2.1 1, .int), (g.2.1 2, .object RX6), (g.2.1 3, .object RX0), (g.2.1 4, .array .int)]
def mm_AO (t : FieldType) (U : State) : Prop := (Jvm.Cond.arrayOver t).before #[] U = true
def mm_C (g : mm_G) (U : State) (H : Heap) : Prop :=
  va_K g.1 vwCl (mm_tys g) U ∧
  (∀ (i : Nat) (w : Jvm.Cond), i < mm_nest.length → lw_tbl[mm_nest.getD i 0]? = some w → va_Nw w U) ∧
  (va_AO RX6 U ∧ va_AO RX0 U ∧ mm_AO (.array .int) U) ∧
  (∀ i, i < 4 → va_Z (mm_sf i).1 (mm_sf i).2 "[I" (.ref (g.2.2.2.1 i)) (mm_A g) U H) ∧
  (∀ i, i < 5 → va_T .int (g.2.2.2.1 i) (mm_S g.2.2.2.2 i).1 (fun j => .int ((mm_S g.2.2.2.2 i).2 j)) (mm_A g) U H) ∧
  (vk_R "DotSquares$Typed" 35 "lowmidtop" (g.2.2.2.1 5) U ∧ ∃ v, mm_T (g.2.2.2.1 5) v (mm_A g) U H) ∧
  g.2.2.1 < H.size
theorem mm_nestW : ∀ i, i < mm_nest.length → (match lw_tbl[mm_nest.getD i 0]? with
  | some w => w.onTables && w.keepsH
  | none => true) = true := by decide +kernel
theorem mm_AO.moved {t : FieldType} {u U : State} (hvm : u.vm.Alike U.vm) (h : mm_AO (.array t) u) : mm_AO (.array t) U := by
  obtain ⟨comp, c, k, h1, h2, h3, h4, h5⟩ := arrayOverA_spec h
  obtain ⟨k', hk', he⟩ := hvm.2.2 _ _ h3
  have hi : (U.vm.classes.findIdx? fun (x : Class) => match x.kind with | .array component _ => component == comp | _ => false) = some c := by
    have e1 := va_idx_bare U.vm comp
    have e2 := va_idx_bare u.vm comp
    first | rw [hvm.bare_eq] at e1 | rw [← hvm.bare_eq] at e1
    exact e1.symm.trans (e2.trans h2)
  have hkind : k'.kind = .array comp (.array t) := by rw [he]; exact h4
  have f1 : U.vm.findClass (FieldType.array t).toString = some comp := by rw [hvm.findClass]; exact h1
  have f2 : U.vm.findClass ("[" ++ (FieldType.array t).toString) = some c := by rw [hvm.findClass]; exact h5
  unfold mm_AO Cond.before Cond.holds
  simp only [Cond.value]
  rw [f1, Option.bind_some]
  refine (congrArg (fun o : Option Nat => (o.bind (fun c => (U.vm.classes[c]?).map fun (k : Class) => match k.kind with | .array _ ty => decide (ty = FieldType.array t) && decide (U.vm.findClass ("[" ++ (FieldType.array t).toString) = some c) | _ => false) == some true)) hi).trans ?_
  simp [hk', hkind, f2]
/-- it goes on: in a warmer machine, over a heap that is the same but for what is ours -/
theorem mm_C.on {g : mm_G} {u U : State} {H H1 : Heap} (h : mm_C g u H) (hW : u.WarmedH U.vm) (hz : H.size ≤ H1.size) (hq : ∀ a : Nat, a < H.size → ¬ mm_A g a → H1[a]? = H[a]?) : mm_C g U H1 := by
  obtain ⟨h1, h2, h3, h4, h5, h6, h7⟩ := h
  refine ⟨va_K.moved hW.alike h1, fun i w hi hw => ?_, ⟨h3.1.moved hW.alike, h3.2.1.moved hW.alike, mm_AO.moved hW.alike h3.2.2⟩, fun i hi => ((h4 i hi).moved hW.alike).kept hq, fun i hi => ((h5 i hi).moved hW.alike).kept hq, ⟨h6.1.warm hW, ?_⟩, Nat.lt_of_lt_of_le h7 hz⟩
  · have hn := mm_nestW i hi
    rw [hw] at hn
    simp only [Bool.and_eq_true] at hn
    exact va_tabs hn.1 (rfl : (u.setVm U.vm).vm = U.vm) (Cond.onTables_warmH (T := u) (args' := #[]) hW hn.1 hn.2 (h2 i w hi hw))
  · obtain ⟨v, hv⟩ := h6.2
    exact ⟨v, (mm_T.moved hW.alike hv).kept hq⟩
theorem mm_C.calls {g : mm_G} {U : State} {H : Heap} (h : mm_C g U H) (gf : JFrame) (mk : MethodId) (a : Array Value) : mm_C g (U.calling gf mk a) H := by
  obtain ⟨h1, h2, h3, h4, h5, h6, h7⟩ := h
  have hA : U.vm.Alike (U.calling gf mk a).vm := Vm.Alike.refl U.vm
  refine ⟨va_K.moved hA h1, fun i w hi hw => ?_, ⟨h3.1.moved hA, h3.2.1.moved hA, mm_AO.moved hA h3.2.2⟩, fun i hi => ((h4 i hi).moved hA), fun i hi => ((h5 i hi).moved hA), ⟨h6.1.same rfl, ?_⟩, h7⟩
  · have hn := mm_nestW i hi
    rw [hw] at hn
    simp only [Bool.and_eq_true] at hn
    exact va_Nw.same (u := U) (U := U.calling gf mk a) hn.1 rfl (h2 i w hi hw)
  · obtain ⟨v, hv⟩ := h6.2
    exact ⟨v, mm_T.moved hA hv⟩
/-! the classes -/
theorem mm_vw : ∀ c, c < 11 → vwCl[c]? = some (mm_cls c) := by
  intro c hc
  match c, hc with
  | 0, _ => rfl
  | 1, _ => rfl
  | 2, _ => rfl
  | 3, _ => rfl
  | 4, _ => rfl
  | 5, _ => rfl
  | 6, _ => rfl
  | 7, _ => rfl
  | 8, _ => rfl
  | 9, _ => rfl
  | 10, _ => rfl
  | n + 11, h => exact absurd h (by omega)
theorem mm_clsN : ∀ c, c < 11 → (mm_cls c).2.2 = mm_N c := by decide +kernel
def mm_ty (c k : Nat) : FieldType := (parseFieldDescriptor ((mm_cls c).2.1 k).2.2.1).getD .int
theorem mm_ty_ok : ∀ c, c < 11 → ∀ k, k < mm_N c → parseFieldDescriptor ((mm_cls c).2.1 k).2.2.1 = some (mm_ty c k) := by decide +kernel
def mm_tyk (f : Nat) (t : FieldType) : Bool :=
  match f, t with
  | 0, .int => true
  | 1, .boolean => true
  | 2, .object _ => true
  | 2, .array _ => true
  | _, _ => false
theorem mm_ty_k : ∀ c, c < 11 → ∀ k, k < mm_N c → mm_tyk (mm_fk c k) (mm_ty c k) = true := by decide +kernel
theorem mm_ty_n : ∀ c, c < 11 → ∀ a, a < mm_N c → ∀ b, b < mm_N c → a ≠ b → ((mm_cls c).2.1 a).2.1 ≠ ((mm_cls c).2.1 b).2.1 := by decide +kernel
theorem mm_ty_d : ∀ c, c < 11 → ∀ k, k < mm_N c → ((mm_cls c).2.1 k).1 = (mm_cls c).1 := by decide +kernel
def mm_lay : List (List Nat) := [[288, 290, 292, 294], [150, 152, 154, 156, 158], [242, 244, 246, 248, 250, 252, 254, 256, 258], [201, 203, 205, 207, 209, 211, 213], [309, 311, 313, 315, 317, 319, 321], [361, 363, 365, 367], [337, 339, 341, 343], [125, 127, 129], [181, 183, 185], [381, 383, 385, 387, 389, 391, 393, 395, 397, 399, 401], [975, 977, 979, 981, 983, 985, 987, 989, 991, 993, 995, 997, 999, 1001, 1003, 1005, 1007, 1009, 1011, 1013, 1015, 1017, 1019, 1021, 1023, 1025, 1027, 1029, 1031, 1033, 1035, 1037, 1039, 1041]]
def mm_clw : List (Nat × Nat) := [(269, 92), (134, 87), (217, 90), (189, 89), (262, 91), (348, 94), (325, 93), (112, 85), (162, 88), (104, 84), (936, 95)]
theorem mm_layW : ∀ c, c < 11 → ∀ k, k < mm_N c → lw_tbl[(mm_lay.getD c []).getD k 0]? = some (u_lay (mm_cls c).1 (mm_cls c).2.1 k) := by decide +kernel
theorem mm_layG : ∀ c, c < 11 → ∀ k, k < mm_N c → goodWord (u_lay (mm_cls c).1 (mm_cls c).2.1 k) = true := by decide +kernel
theorem mm_in : ∀ c, c < 11 → ∀ w ∈ u_ws (mm_cls c).1 (mm_cls c).2.1 (mm_cls c).2.2, w ∈ mm_gt := by
  intro c hc w hw
  obtain ⟨k, hk, rfl⟩ := List.mem_map.mp hw
  have hk := List.mem_range.mp hk
  rw [mm_clsN c hc] at hk
  exact mm_mg (mm_layW c hc k hk) (mm_layG c hc k hk)
theorem mm_newW : ∀ c, c < 11 → lw_tbl[(mm_clw.getD c (0, 0)).1]? = some (.instantiable (mm_cls c).1 (mm_cls c).2.2) ∧ lw_tbl[(mm_clw.getD c (0, 0)).2]? = some (.initialized (mm_cls c).1) := by decide +kernel
