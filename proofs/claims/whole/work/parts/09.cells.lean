/-! THE CELLS -/
def mm_fs (g : mm_G) (c : Nat) (rk : Nat → Nat) (ik : Nat → Int32) : List Value := (List.range (mm_N c)).map fun j => if mm_fk c j = 2 then va_rf (mm_q g (rk j)) else .int (ik j)
def mm_E (g : mm_G) (kd : Nat × Nat) (rk : Nat → Nat) (ik : Nat → Int32) : va_E :=
  if kd.1 = 1 then .inl (g.2.1 1, kd.2, .inl ik)
  else if kd.1 ≤ 4 then .inl (g.2.1 kd.1, kd.2, .inr (.inr (.inr (.inr (fun i => mm_q g (rk i))))))
  else .inr (kd.1 - 10, mm_fs g (kd.1 - 10) rk ik)
def mm_Ec (g : mm_G) (μ : mm_M) (k : Nat) : Nat × va_E := (g.2.2.1 + k, mm_E g (μ.2.1 k) (μ.2.2.1 k) (μ.2.2.2 k))
def mm_ws (g : mm_G) (μ : mm_M) : va_W := (List.range (μ.1 - 1)).map fun k => mm_Ec g μ (k + 1)
/-- the heap holds the memory -/
def mm_R (g : mm_G) (μ : mm_M) (H : Heap) : Prop := 1 ≤ μ.1 ∧ H.size = g.2.2.1 + μ.1 ∧ va_P g.1 vwCl (mm_ws g μ) H
theorem mm_ws_get {g : mm_G} {μ : mm_M} {a : Nat} (h0 : 1 ≤ a) (h1 : a < μ.1) : (mm_ws g μ)[a - 1]? = some (mm_Ec g μ a) := by
  unfold mm_ws
  rw [List.getElem?_map, List.getElem?_range (by omega)]
  show some (mm_Ec g μ (a - 1 + 1)) = _
  rw [show a - 1 + 1 = a by omega]
theorem mm_ws_inv {g : mm_G} {μ : mm_M} {k : Nat} {q : Nat × va_E} (h : (mm_ws g μ)[k]? = some q) : k + 1 < μ.1 ∧ q = mm_Ec g μ (k + 1) := by
  unfold mm_ws at h
  rw [List.getElem?_map] at h
  by_cases hk : k < μ.1 - 1
  · rw [List.getElem?_range hk] at h
    cases h
    exact ⟨by omega, rfl⟩
  · rw [List.getElem?_eq_none (by rw [List.length_range]; omega)] at h
    cases h
theorem mm_wsD (g : mm_G) (μ : mm_M) : va_D (mm_A g) (mm_ws g μ) := by
  refine ⟨fun i j x y hi hj hxy => ?_, fun k x hk => ?_⟩
  · obtain ⟨-, rfl⟩ := mm_ws_inv hi
    obtain ⟨-, rfl⟩ := mm_ws_inv hj
    have : g.2.2.1 + (i + 1) = g.2.2.1 + (j + 1) := hxy
    omega
  · obtain ⟨-, rfl⟩ := mm_ws_inv hk
    show g.2.2.1 < g.2.2.1 + (k + 1)
    omega
/-- one cell changes -/
theorem mm_ws_set {g : mm_G} {μ μ' : mm_M} {a : Nat} (h0 : 1 ≤ a) (h1 : a < μ.1) (hn : μ'.1 = μ.1) (hk : ∀ k, k ≠ a → mm_Ec g μ' k = mm_Ec g μ k) : (mm_ws g μ).set (a - 1) (mm_Ec g μ' a) = mm_ws g μ' := by
  apply List.ext_getElem?
  intro k
  by_cases hka : k = a - 1
  · subst hka
    rw [List.getElem?_set_self (by unfold mm_ws; rw [List.length_map, List.length_range]; omega), mm_ws_get h0 (by rw [hn]; exact h1)]
  · rw [List.getElem?_set_ne (Ne.symm hka)]
    by_cases hlt : k + 1 < μ.1
    · have e1 := mm_ws_get (g := g) (μ := μ) (a := k + 1) (by omega) hlt
      have e2 := mm_ws_get (g := g) (μ := μ') (a := k + 1) (by omega) (by rw [hn]; exact hlt)
      rw [show k + 1 - 1 = k by omega] at e1 e2
      rw [e1, e2, hk (k + 1) (by omega)]
    · rw [List.getElem?_eq_none (by unfold mm_ws; rw [List.length_map, List.length_range]; omega), List.getElem?_eq_none (by unfold mm_ws; rw [List.length_map, List.length_range, hn]; omega)]
/-- a cell comes -/
theorem mm_ws_new {g : mm_G} {μ μ' : mm_M} (h0 : 1 ≤ μ.1) (hn : μ'.1 = μ.1 + 1) (hk : ∀ k, k ≠ μ.1 → mm_Ec g μ' k = mm_Ec g μ k) : mm_ws g μ ++ [mm_Ec g μ' μ.1] = mm_ws g μ' := by
  have hl : (mm_ws g μ).length = μ.1 - 1 := by unfold mm_ws; rw [List.length_map, List.length_range]
  apply List.ext_getElem?
  intro k
  by_cases h1 : k < μ.1 - 1
  · rw [List.getElem?_append_left (by rw [hl]; exact h1)]
    have e1 := mm_ws_get (g := g) (μ := μ) (a := k + 1) (by omega) (by omega)
    have e2 := mm_ws_get (g := g) (μ := μ') (a := k + 1) (by omega) (by omega)
    rw [show k + 1 - 1 = k by omega] at e1 e2
    rw [e1, e2, hk (k + 1) (by omega)]
  · by_cases h2 : k = μ.1 - 1
    · subst h2
      rw [List.getElem?_append_right (by rw [hl]; exact Nat.le_refl _), hl, Nat.sub_self]
      have e2 := mm_ws_get (g := g) (μ := μ') (a := μ.1) h0 (by omega)
      rw [e2]
      rfl
    · rw [List.getElem?_eq_none (by rw [List.length_append, hl]; simp; omega), List.getElem?_eq_none (by unfold mm_ws; rw [List.length_map, List.length_range, hn]; omega)]
theorem mm_kd_in {μ : mm_M} {a t : Nat} (h : (mm_kd μ a).1 = t) (ht : 1 ≤ t) : 1 ≤ a ∧ a < μ.1 ∧ a < 1000000 ∧ mm_kd μ a = μ.2.1 a := by
  unfold mm_kd at h ⊢
  by_cases hc : 1 ≤ a ∧ a < μ.1 ∧ a < 1000000
  · rw [if_pos hc]
    exact ⟨hc.1, hc.2.1, hc.2.2, rfl⟩
  · rw [if_neg hc] at h
    exfalso
    have : (0 : Nat) = t := h
    omega
theorem mm_E_i {g : mm_G} {kd : Nat × Nat} {rk : Nat → Nat} {ik : Nat → Int32} (h : kd.1 = 1) : mm_E g kd rk ik = .inl (g.2.1 1, kd.2, .inl ik) := by
  unfold mm_E
  rw [if_pos h]
theorem mm_E_q {g : mm_G} {kd : Nat × Nat} {rk : Nat → Nat} {ik : Nat → Int32} (h : 2 ≤ kd.1) (h2 : kd.1 ≤ 4) : mm_E g kd rk ik = .inl (g.2.1 kd.1, kd.2, .inr (.inr (.inr (.inr (fun i => mm_q g (rk i)))))) := by
  unfold mm_E
  rw [if_neg (by omega), if_pos h2]
theorem mm_E_o {g : mm_G} {kd : Nat × Nat} {rk : Nat → Nat} {ik : Nat → Int32} {x : Nat} (h : kd.1 = 10 + x) : mm_E g kd rk ik = .inr (x, mm_fs g x rk ik) := by
  unfold mm_E
  rw [if_neg (by omega), if_neg (by omega), show kd.1 - 10 = x by omega]
theorem mm_fs_get {g : mm_G} {x y : Nat} {rk : Nat → Nat} {ik : Nat → Int32} (hy : y < mm_N x) : (mm_fs g x rk ik)[y]? = some (if mm_fk x y = 2 then va_rf (mm_q g (rk y)) else .int (ik y)) := by
  unfold mm_fs
  rw [List.getElem?_map, List.getElem?_range hy]
  rfl
theorem mm_fs_len (g : mm_G) (x : Nat) (rk : Nat → Nat) (ik : Nat → Int32) : (mm_fs g x rk ik).length = mm_N x := by
  unfold mm_fs
  rw [List.length_map, List.length_range]
theorem mm_fs_seti {g : mm_G} {x y : Nat} {rk : Nat → Nat} {ik : Nat → Int32} {v : Int32} (hy : y < mm_N x) (hf : mm_fk x y ≠ 2) : (mm_fs g x rk ik).set y (.int v) = mm_fs g x rk (fun j => if j = y then v else ik j) := by
  apply List.ext_getElem?
  intro k
  by_cases hk : k = y
  · subst hk
    rw [List.getElem?_set_self (by rw [mm_fs_len]; exact hy), mm_fs_get hy, if_neg hf, if_pos rfl]
  · rw [List.getElem?_set_ne (Ne.symm hk)]
    by_cases hl : k < mm_N x
    · rw [mm_fs_get hl, mm_fs_get hl, if_neg hk]
    · rw [List.getElem?_eq_none (by rw [mm_fs_len]; omega), List.getElem?_eq_none (by rw [mm_fs_len]; omega)]
theorem mm_fs_setr {g : mm_G} {x y : Nat} {rk : Nat → Nat} {ik : Nat → Int32} {q : Nat} (hy : y < mm_N x) (hf : mm_fk x y = 2) : (mm_fs g x rk ik).set y (va_rf (mm_q g q)) = mm_fs g x (fun j => if j = y then q else rk j) ik := by
  apply List.ext_getElem?
  intro k
  by_cases hk : k = y
  · subst hk
    rw [List.getElem?_set_self (by rw [mm_fs_len]; exact hy), mm_fs_get hy, if_pos hf, if_pos rfl]
  · rw [List.getElem?_set_ne (Ne.symm hk)]
    by_cases hl : k < mm_N x
    · rw [mm_fs_get hl, mm_fs_get hl, if_neg hk]
    · rw [List.getElem?_eq_none (by rw [mm_fs_len]; omega), List.getElem?_eq_none (by rw [mm_fs_len]; omega)]
