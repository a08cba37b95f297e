/-! THE CLASS'S TEXTS AND LEVEL -/
def CTx (iv : IV) (T : TX) : Prop := TOK T ∧ iv 2 1 = nI 14 ∧ iv 2 2 = nI T.1 ∧ iv 4 1 = nI 3 ∧ iv 4 2 = nI T.2.2.1 ∧ (∀ i, i < T.1 → iv 3 i = nI (T.2.1 i)) ∧ ∀ i, i < T.2.2.1 → iv 5 i = nI (T.2.2.2 i)
theorem CTx_of {iv iv' : IV} {T : TX} (h : CTx iv T) (h2 : iv' 2 = iv 2) (h3 : iv' 3 = iv 3) (h4 : iv' 4 = iv 4) (h5 : iv' 5 = iv 5) : CTx iv' T := by unfold CTx; rw [h2, h3, h4, h5]; exact h
theorem al_step (T : TX) (l j : Nat) (hj : j < 3) : j + 1 ≤ al T l ↔ j ≤ al T l ∧ j < T.2.2.1 ∧ T.2.2.2 j = ltr l j := by
  have hc : j = 0 ∨ j = 1 ∨ j = 2 := by omega
  unfold al
  by_cases c0 : 0 < T.2.2.1 ∧ T.2.2.2 0 = ltr l 0
  · rw [if_pos c0]
    by_cases c1 : 1 < T.2.2.1 ∧ T.2.2.2 1 = ltr l 1
    · rw [if_pos c1]
      by_cases c2 : 2 < T.2.2.1 ∧ T.2.2.2 2 = ltr l 2
      · rw [if_pos c2]
        rcases hc with rfl | rfl | rfl
        · exact ⟨fun _ => ⟨by omega, c0⟩, fun _ => by omega⟩
        · exact ⟨fun _ => ⟨by omega, c1⟩, fun _ => by omega⟩
        · exact ⟨fun _ => ⟨by omega, c2⟩, fun _ => by omega⟩
      · rw [if_neg c2]
        rcases hc with rfl | rfl | rfl
        · exact ⟨fun _ => ⟨by omega, c0⟩, fun _ => by omega⟩
        · exact ⟨fun _ => ⟨by omega, c1⟩, fun _ => by omega⟩
        · exact ⟨fun q => by omega, fun q => absurd q.2 c2⟩
    · rw [if_neg c1]
      rcases hc with rfl | rfl | rfl
      · exact ⟨fun _ => ⟨by omega, c0⟩, fun _ => by omega⟩
      · exact ⟨fun q => by omega, fun q => absurd q.2 c1⟩
      · exact ⟨fun q => by omega, fun q => by omega⟩
  · rw [if_neg c0]
    rcases hc with rfl | rfl | rfl
    · exact ⟨fun q => by omega, fun q => absurd q.2 c0⟩
    · exact ⟨fun q => by omega, fun q => by omega⟩
    · exact ⟨fun q => by omega, fun q => by omega⟩
theorem al_m (T : TX) (l : Nat) : al T l ≤ T.2.2.1 := by
  have h3 := al_le T l
  refine Classical.byContradiction fun q => ?_
  have := (al_step T l (al T l - 1) (by omega)).mp (by omega)
  omega
def mst (T : TX) : Nat := max (al T 0) (max (al T 1) (al T 2))
def fau (T : TX) : Option Nat := if T.2.2.1 = 0 ∨ mst T = 3 then none else some (mst T)
def fl (T : TX) (k : Nat) : Option Nat := if k ≤ al T 0 then some 0 else if k ≤ al T 1 then some 1 else if k ≤ al T 2 then some 2 else none
theorem fl_none (T : TX) (k : Nat) : fl T k = none ↔ mst T < k := by
  unfold fl mst
  by_cases h0 : k ≤ al T 0
  · rw [if_pos h0]
    exact ⟨fun q => (by cases q), fun q => by omega⟩
  · rw [if_neg h0]
    by_cases h1 : k ≤ al T 1
    · rw [if_pos h1]
      exact ⟨fun q => (by cases q), fun q => by omega⟩
    · rw [if_neg h1]
      by_cases h2 : k ≤ al T 2
      · rw [if_pos h2]
        exact ⟨fun q => (by cases q), fun q => by omega⟩
      · rw [if_neg h2]
        exact ⟨fun _ => by omega, fun _ => rfl⟩
theorem fl_lv (T : TX) : (fl T 3).getD 0 = lv T := by
  have hx : ∀ l l', l < 3 → l' < 3 → l ≠ l' → 3 ≤ al T l → ¬ 3 ≤ al T l' := by
    intro l l' h1 h2 hne q1 q2
    have a := ((al_step T l 0 (by decide)).mp (by omega)).2.2
    have b := ((al_step T l' 0 (by decide)).mp (by omega)).2.2
    have hl : ∀ l, l < 3 → ∀ l', l' < 3 → ltr l 0 = ltr l' 0 → l = l' := by decide
    exact hne (hl l h1 l' h2 (by rw [← a, b]))
  have a0 := al_le T 0
  have a1 := al_le T 1
  have a2 := al_le T 2
  unfold fl lv
  by_cases h0 : 3 ≤ al T 0
  · have := hx 0 1 (by decide) (by decide) (by decide) h0
    have := hx 0 2 (by decide) (by decide) (by decide) h0
    rw [if_pos h0, if_neg (by omega), if_neg (by omega)]
    rfl
  · rw [if_neg h0]
    by_cases h1 : 3 ≤ al T 1
    · rw [if_pos h1, if_pos (by omega)]
      rfl
    · rw [if_neg h1, if_neg (show ¬ al T 1 = 3 by omega)]
      by_cases h2 : 3 ≤ al T 2
      · rw [if_pos h2, if_pos (by omega)]
        rfl
      · rw [if_neg h2, if_neg (by omega)]
        rfl
section TEXTS
variable {X : Nat × (Nat → Int32)} {iv : IV} {P : Int32 → IV → Prop} {T : TX}
theorem sp_begun {k : Nat} (hT : CTx iv T) (hk : k ≤ T.2.2.1) (p : P (oI (fl T k)) iv) : wc X 61 [.ref 4, .int (nI k)] iv (Ri P) := by
  obtain ⟨hok, -, -, -, h42, -, h5⟩ := hT
  have hm := hok.2.2.1
  have lev : ∀ l, l < 3 → (k ≤ al T l → P (nI l) iv) → (¬ k ≤ al T l → wp X (0, 0) 61 2 [some (.ref 4), some (.int (nI k)), some (.int (nI (l + 1))), none] [] iv (Ri P)) → wp X (0, 0) 61 2 [some (.ref 4), some (.int (nI k)), some (.int (nI l)), none] [] iv (Ri P) := by
    intro l hl h1 h2
    refine mk_X8_levelBegunBy_2 ⟨fun z => absurd z (nI_ge hl (by decide)), fun _ => ?_⟩
    have key : ∀ n j, j + n = k → j ≤ al T l → wp X (0, 0) 61 7 [some (.ref 4), some (.int (nI k)), some (.int (nI l)), some (.int (nI j))] [] iv (Ri P) := by
      intro n
      induction n with
      | zero =>
        intro j hj hal
        have e : j = k := by omega
        subst e
        exact mk_X8_levelBegunBy_7 rfl ⟨fun _ => ⟨fun _ => h1 hal, fun z => absurd rfl z⟩, fun z => absurd (nI_le (Nat.le_refl _) (by omega)) z⟩
      | succ n ih =>
        intro j hj hal
        refine mk_X8_levelBegunBy_7 rfl ⟨fun z => absurd z (nI_ge (by omega) (by omega)), fun _ => ⟨fun z => absurd z (nI_ge (by omega) (by decide)), fun _ => ?_⟩⟩
        rw [pk_mul, nI_add, nI_clamp (by omega)]
        refine ⟨vp_in_nI (by omega) (by decide), mk_X8_byteAt rfl rfl ?_⟩
        rw [h42, nI_clamp (by omega)]
        refine ⟨fun z => absurd z (nI_pos (by omega)), fun _ => ⟨fun z => absurd z (nI_ge (by omega) (by omega)), fun _ => ⟨vp_in_nI (by omega) (by decide), ?_⟩⟩⟩
        rw [show rvT 4 0 = 5 by rfl, h5 j (by omega)]
        have b1 := ltr_lt l hl j (by omega)
        have b2 := hok.2.2.2 j (by omega)
        show (nI (ltr l j) = _ → _) ∧ (¬ nI (ltr l j) = _ → _)
        rw [nI_eq (by omega) (by omega), nI_add, nI_eq (by omega) (by omega), nI_add]
        have hs := al_step T l j (by omega)
        refine ⟨fun z => ih (j + 1) (by omega) (hs.mpr ⟨hal, by omega, z.symm⟩), fun z => ⟨fun z1 => absurd z1 (by omega), fun _ => h2 (fun q => ?_)⟩⟩
        exact z ((hs.mp (by omega)).2.2.symm)
    exact key k 0 (by omega) (Nat.zero_le _)
  refine mk_X8_levelBegunBy ?_
  unfold fl at p
  refine lev 0 (by decide) (fun q => by rw [if_pos q] at p; exact p) (fun q => ?_)
  rw [if_neg q] at p
  refine lev 1 (by decide) (fun q => by rw [if_pos q] at p; exact p) (fun q => ?_)
  rw [if_neg q] at p
  refine lev 2 (by decide) (fun q => by rw [if_pos q] at p; exact p) (fun q => ?_)
  rw [if_neg q] at p
  exact mk_X8_levelBegunBy_2 ⟨fun _ => p, fun z => absurd (nI_le (Nat.le_refl 3) (by decide)) z⟩
theorem pu_max : ∀ x : Fin 3, mm_ek 223 [nI x.1, nI 0] = some (nI x.1) := by decide +kernel
theorem pu_max1 : mm_ek 223 [nI 4294967295, nI 0] = some (nI 0) := by decide +kernel
theorem sp_asLevel (hT : CTx iv T) (p : P (nI (lv T)) iv) : wc X 60 [.ref 4] iv (Ri P) := by
  have h42 := hT.2.2.2.2.1
  have hm := hT.1.2.2.1
  refine mk_X8_asLevel rfl ?_
  rw [h42, nI_eq (by omega) (by decide)]
  refine ⟨fun z => sp_begun hT (by omega) ?_, fun z => ?_⟩
  · rw [← fl_lv] at p
    cases hf : fl T 3 with
    | none =>
      rw [hf] at p
      exact pui (as := [nI 4294967295, nI 0]) (by decide) pu_max1 p
    | some x =>
      rw [hf] at p
      have hx : x < 3 := by
        unfold fl at hf
        split at hf
        · cases hf; decide
        · split at hf
          · cases hf; decide
          · split at hf
            · cases hf; decide
            · cases hf
      exact pui (as := [nI x, nI 0]) (by decide) (pu_max ⟨x, hx⟩) p
  · have a1 := al_m T 1
    have a2 := al_m T 2
    have : lv T = 0 := by unfold lv; rw [if_neg (by omega), if_neg (by omega)]
    rw [this] at p
    exact pui (as := [nI 4294967295, nI 0]) (by decide) pu_max1 p
theorem sp_faultC (hT : CTx iv T) (p : P (oI (fau T)) iv) : wc X 59 [.ref 4] iv (Ri P) := by
  have h42 := hT.2.2.2.2.1
  have hm := hT.1.2.2.1
  have a0 := al_m T 0
  have a1 := al_m T 1
  have a2 := al_m T 2
  have hms : mst T ≤ T.2.2.1 := by unfold mst; omega
  refine mk_X8_faultAsLevel ?_
  have key : ∀ n i, i + n = T.2.2.1 → i ≤ mst T → wp X (0, 0) 59 2 [some (.ref 4), some (.int (nI i))] [] iv (Ri P) := by
    intro n
    induction n with
    | zero =>
      intro i hi hle
      refine mk_X8_faultAsLevel_2 rfl ?_
      rw [h42]
      refine ⟨fun _ => ⟨fun z => ?_, fun z => ⟨fun z1 => ?_, fun z1 => ?_⟩⟩, fun z => absurd (nI_le (by omega) (by omega)) z⟩
      · have e : T.2.2.1 = 0 := Classical.byContradiction fun q => nI_nle (by omega) (by omega) z
        unfold fau at p
        rw [if_pos (Or.inl e)] at p
        exact p
      · rw [nI_leI (by decide) (by omega)] at z1
        unfold fau at p
        rw [if_pos (Or.inr (by omega))] at p
        exact p
      · rw [nI_leI (by decide) (by omega)] at z1
        have e : T.2.2.1 ≠ 0 := fun q => z (by rw [q]; decide)
        unfold fau at p
        rw [if_neg (by omega)] at p
        rw [show T.2.2.1 = mst T by omega]
        exact p
    | succ n ih =>
      intro i hi hle
      refine mk_X8_faultAsLevel_2 rfl ?_
      rw [h42, nI_add]
      refine ⟨fun z => absurd z (nI_ge (by omega) (by omega)), fun _ => sp_begun hT (by omega) ?_⟩
      cases hf : fl T (i + 1) with
      | none =>
        have hq := (fl_none T (i + 1)).mp hf
        refine ⟨fun _ => ?_, fun z => absurd rfl z⟩
        unfold fau at p
        rw [if_neg (by omega)] at p
        rw [show i = mst T by omega]
        exact p
      | some x =>
        have hx : x < 3 := by
          unfold fl at hf
          split at hf
          · cases hf; decide
          · split at hf
            · cases hf; decide
            · split at hf
              · cases hf; decide
              · cases hf
        have hq : ¬ mst T < i + 1 := fun q => by rw [(fl_none T (i + 1)).mpr q] at hf; cases hf
        exact ⟨fun z => absurd z (m1_ne (by omega)), fun _ => ih (i + 1) (by omega) (by omega)⟩
  exact key T.2.2.1 0 (by omega) (Nat.zero_le _)
theorem sp_faultM (hT : MTx iv T) (p : P (oI (fau T)) iv) : wc X 149 [.ref 74] iv (Ri P) := by
  have h84 := hT.2.2.1
  have hm := hT.1.2.2.1
  have a0 := al_le T 0
  have a1 := al_le T 1
  have a2 := al_le T 2
  have hms : mst T ≤ 3 := by unfold mst; omega
  refine mk_X11_faultNow (sp_along (by decide) hT (sp_along (by decide) hT (sp_along (by decide) hT (sp_greater (by omega) (by omega) (sp_greater (by omega) (by omega) ⟨vp_in_nI (by decide) (by decide), ?_⟩)))))
  rw [nI_clamp (by decide), h84]
  unfold fau at p
  refine ⟨fun z => ?_, fun z => ?_⟩
  · have e : T.2.2.1 = 0 := Classical.byContradiction fun q => nI_ne0 (by omega) (by omega) z
    rw [if_pos (Or.inl e)] at p
    exact p
  · have e : T.2.2.1 ≠ 0 := fun q => z (by rw [q]; rfl)
    show (nI (mst T) = _ → _) ∧ (¬ nI (mst T) = _ → P (nI (mst T)) iv)
    rw [nI_eq (by omega) (by decide)]
    exact ⟨fun z1 => by rw [if_pos (Or.inr z1)] at p; exact p, fun z1 => by rw [if_neg (by omega)] at p; exact p⟩
end TEXTS
