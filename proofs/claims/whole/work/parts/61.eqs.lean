/-! THE MODEL'S FIELD AND EQUATIONS -/
def MF (iv : IV) : Prop := (∀ a b : G, iv 81 (16 * a.1 + b.1) = nI (gm a b).1) ∧ (∀ k, k < 15 → iv 79 k = nI (gp 2 k).1) ∧ (∀ a : G, a ≠ 0 → iv 80 a.1 = nI (gi a).1)
theorem MF_of {iv iv' : IV} (h : MF iv) (h79 : iv' 79 = iv 79) (h80 : iv' 80 = iv 80) (h81 : iv' 81 = iv 81) : MF iv' := by
  unfold MF
  rw [h79, h80, h81]
  exact h
theorem gp2_mod (k : Nat) : gp 2 (k % 15) = gp 2 k := by
  have h15 : gp 2 15 = 1 := by decide +kernel
  have h1 : ∀ q, gp 2 (15 * q) = 1 := fun q => by rw [← gp_gp, h15, gp_one]
  have := gp_add 2 (15 * (k / 15)) (k % 15)
  rw [h1, gm_1l, Nat.div_add_mod] at this
  exact this.symm
section EQS
variable {X : Nat × (Nat → Int32)} {iv : IV}
theorem sp_product {P : Int32 → IV → Prop} (hM : MF iv) (a b : G) (p : P (nI (gm a b).1) iv) : wc X 139 [.ref 74, .int (nI a.1), .int (nI b.1)] iv (Ri P) := by
  refine mk_X11_product ?_
  rw [pk_mul, nI_add, nI_clamp (by omega), hM.1 a b]
  exact ⟨vp_in_nI (by omega) (by decide), p⟩
theorem sp_power {P : Int32 → IV → Prop} (hM : MF iv) {k : Nat} (hk : k < 2 ^ 31) (p : P (nI (gp 2 k).1) iv) : wc X 140 [.ref 74, .int (nI k)] iv (Ri P) := by
  refine mk_X11_power ?_
  rw [pk_rem hk (by decide) (by decide), nI_clamp (by omega), hM.2.1 (k % 15) (by omega), gp2_mod]
  exact ⟨vp_in_nI (by omega) (by decide), p⟩
theorem tb_up {iv iv' : IV} {j k : Nat} {v : Int32} (h : iv' = mm_up2 iv 98 (7 * j + k) v) (hk : k < 7) : iv' 98 (7 * j + k) = v ∧ (∀ j' i, i < 7 → ¬ (j' = j ∧ i = k) → iv' 98 (7 * j' + i) = iv 98 (7 * j' + i)) ∧ ∀ a, a ≠ 98 → iv' a = iv a := by
  rw [up_row] at h
  refine ⟨by rw [h, row_at, if_pos rfl], fun j' i hi hne => ?_, fun a ha => by rw [h, row_ne ha]⟩
  rw [h, row_at, if_neg]
  intro q
  exact hne (by omega)
def TB (iv : IV) (M : Nat → Nat → G) (c n : Nat) : Prop := ∀ j, j < c → ∀ i, i ≤ n → iv 98 (7 * j + i) = nI (M j i).1
def M0 (ps : Nat → Nat) (n : Nat) (S : Nat → G) (j i : Nat) : G := if i < n then gp (xp (ps i)) j else S j
theorem sp_equations {P : IV → Prop} {c n : Nat} {ps : Nat → Nat} {S : Nat → G} (hM : MF iv) (hc : c ≤ 6) (hn : n ≤ 6) (hps : ∀ k, k < n → ps k < 14 ∧ iv 99 k = nI (ps k)) (hS : ∀ j, j < c → iv 97 j = nI (S j).1) (h : ∀ iv', (∀ a, a ≠ 98 → iv' a = iv a) → TB iv' (M0 ps n S) c n → P iv') : wc X 189 [.ref 74, .int (nI c), .int (nI n)] iv (Rv P) := by
  refine mk_X11_equations ?_
  have key : ∀ m j, j + m = c → ∀ iv3 : IV, (∀ a, a ≠ 98 → iv3 a = iv a) → TB iv3 (M0 ps n S) j n → wp X (0, 0) 189 2 [some (.ref 74), some (.int (nI c)), some (.int (nI n)), some (.int (nI j)), none] [] iv3 (Rv P) := by
    intro m
    induction m with
    | zero =>
      intro j hj iv3 f1 f2
      have e : j = c := by omega
      subst e
      exact mk_X11_equations_2 ⟨fun _ => h iv3 f1 f2, fun z => absurd (nI_le (Nat.le_refl _) (by omega)) z⟩
    | succ m ih =>
      intro j hj iv3 f1 f2
      refine mk_X11_equations_2 ⟨fun z => absurd z (nI_ge (by omega) (by omega)), fun _ => ?_⟩
      have inner : ∀ m2 k, k + m2 = n → ∀ iv4 : IV, (∀ a, a ≠ 98 → iv4 a = iv a) → TB iv4 (M0 ps n S) j n → (∀ i, i < k → iv4 98 (7 * j + i) = nI (M0 ps n S j i).1) → wp X (0, 0) 189 7 [some (.ref 74), some (.int (nI c)), some (.int (nI n)), some (.int (nI j)), some (.int (nI k))] [] iv4 (Rv P) := by
        intro m2
        induction m2 with
        | zero =>
          intro k hk iv4 g1 g2 g3
          have e : k = n := by omega
          subst e
          refine mk_X11_equations_7 ⟨fun _ => ⟨vp_in_nI (by omega) (by decide), ?_⟩, fun z => absurd (nI_le (Nat.le_refl _) (by omega)) z⟩
          rw [pk_mul, nI_add, nI_clamp (by omega), nI_clamp (by omega)]
          refine ⟨vp_in_nI (by omega) (by decide), fun iv5 h5 => ?_⟩
          obtain ⟨t1, t2, t3⟩ := tb_up h5 (by omega)
          rw [nI_add]
          refine ih (j + 1) (by omega) iv5 (fun a ha => by rw [t3 a ha, g1 a ha]) (fun j' hj' i hi => ?_)
          by_cases ej : j' = j
          · subst ej
            by_cases ei : i = k
            · subst ei
              rw [t1, g1 97 (by decide), hS j' (by omega)]
              unfold M0
              rw [if_neg (by omega)]
            · rw [t2 j' i (by omega) (fun q => ei q.2)]
              exact g3 i (by omega)
          · rw [t2 j' i (by omega) (fun q => ej q.1)]
            exact g2 j' (by omega) i hi
        | succ m2 ih2 =>
          intro k hk iv4 g1 g2 g3
          refine mk_X11_equations_7 ⟨fun z => absurd z (nI_ge (by omega) (by omega)), fun _ => ⟨vp_in_nI (by omega) (by decide), ?_⟩⟩
          have hpk := hps k (by omega)
          rw [nI_clamp (by omega), g1 99 (by decide), hpk.2, pk_sub (by omega), pk_mul]
          refine sp_power (MF_of hM (g1 79 (by decide)) (g1 80 (by decide)) (g1 81 (by decide))) (Nat.lt_of_le_of_lt (Nat.mul_le_mul (show j ≤ 6 by omega) (show 13 - ps k ≤ 13 by omega)) (by decide)) ?_
          rw [pk_mul, nI_add, nI_clamp (by omega)]
          refine ⟨vp_in_nI (by omega) (by decide), fun iv5 h5 => ?_⟩
          obtain ⟨t1, t2, t3⟩ := tb_up h5 (by omega)
          rw [nI_add]
          refine ih2 (k + 1) (by omega) iv5 (fun a ha => by rw [t3 a ha, g1 a ha]) (fun j' hj' i hi => ?_) (fun i hi => ?_)
          · rw [t2 j' i (by omega) (by omega)]
            exact g2 j' hj' i hi
          · by_cases ei : i = k
            · subst ei
              rw [t1]
              unfold M0
              rw [if_pos (by omega)]
              unfold xp
              rw [gp_gp, Nat.mul_comm]
            · rw [t2 j i (by omega) (fun q => ei q.2)]
              exact g3 i (by omega)
      exact inner n 0 (by omega) iv3 f1 f2 (fun i hi => absurd hi (by omega))
  exact key c 0 (by omega) iv (fun _ _ => rfl) (fun j hj => absurd hj (by omega))
theorem sp_swaps {P : IV → Prop} {a b : Nat} (ha : a < 6) (hb : b < 6) (h : ∀ iv', (∀ q, q ≠ 98 → iv' q = iv q) → (∀ j, j < 6 → ∀ i, i < 7 → iv' 98 (7 * j + i) = if j = a then iv 98 (7 * b + i) else if j = b then iv 98 (7 * a + i) else iv 98 (7 * j + i)) → P iv') : wc X 190 [.ref 74, .int (nI a), .int (nI b)] iv (Rv P) := by
  refine mk_X11_swaps ?_
  have key : ∀ m k, k + m = 7 → ∀ iv3 : IV, (∀ q, q ≠ 98 → iv3 q = iv q) → (∀ j, j < 6 → ∀ i, i < 7 → iv3 98 (7 * j + i) = if i < k then (if j = a then iv 98 (7 * b + i) else if j = b then iv 98 (7 * a + i) else iv 98 (7 * j + i)) else iv 98 (7 * j + i)) → wp X (0, 0) 190 2 [some (.ref 74), some (.int (nI a)), some (.int (nI b)), some (.int (nI k)), none] [] iv3 (Rv P) := by
    intro m
    induction m with
    | zero =>
      intro k hk iv3 f1 f2
      refine mk_X11_swaps_2 ⟨fun _ => h iv3 f1 (fun j hj i hi => ?_), fun z => absurd (nI_le (by omega) (by omega)) z⟩
      rw [f2 j hj i hi, if_pos (by omega)]
    | succ m ih =>
      intro k hk iv3 f1 f2
      refine mk_X11_swaps_2 ⟨fun z => absurd z (nI_ge (by omega) (by decide)), fun _ => ?_⟩
      rw [pk_mul, pk_mul, nI_add, nI_add, nI_clamp (by omega), nI_clamp (by omega)]
      refine ⟨vp_in_nI (by omega) (by decide), fun v1 h1 => ⟨vp_in_nI (by omega) (by decide), vp_in_nI (by omega) (by decide), fun iv4 h4 => ⟨vp_in_nI (by omega) (by decide), fun iv5 h5 => ?_⟩⟩⟩
      obtain ⟨t1, t2, t3⟩ := tb_up h4 (by omega)
      obtain ⟨u1, u2, u3⟩ := tb_up h5 (by omega)
      rw [nI_add]
      refine ih (k + 1) (by omega) iv5 (fun q hq => by rw [u3 q hq, t3 q hq, f1 q hq]) (fun j hj i hi => ?_)
      have fa := f2 a ha k (by omega)
      have fb := f2 b hb k (by omega)
      rw [if_neg (by omega)] at fa fb
      by_cases ei : i = k
      · subst ei
        rw [if_pos (show i < i + 1 by omega)]
        by_cases eb : j = b
        · subst eb
          rw [u1, h1, fa]
          by_cases ea : j = a
          · rw [if_pos ea, ea]
          · rw [if_neg ea, if_pos rfl]
        · rw [u2 j i (by omega) (fun q => eb q.1)]
          by_cases ea : j = a
          · subst ea
            rw [t1, fb, if_pos rfl]
          · rw [t2 j i (by omega) (fun q => ea q.1), f2 j hj i (by omega), if_neg (show ¬ i < i by omega), if_neg ea, if_neg eb]
      · rw [u2 j i (by omega) (fun q => ei q.2), t2 j i (by omega) (fun q => ei q.2), f2 j hj i hi]
        by_cases hik : i < k
        · rw [if_pos hik, if_pos (show i < k + 1 by omega)]
        · rw [if_neg hik, if_neg (show ¬ i < k + 1 by omega)]
  exact key 7 0 rfl iv (fun _ _ => rfl) (fun j hj i hi => by rw [if_neg (by omega)])
end EQS
