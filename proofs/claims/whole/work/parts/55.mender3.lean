/-! THE PLACES ARE FOUND -/
theorem m1_eq : nI 4294967295 = (-1 : Int32) := by decide
theorem nI_dec (k : Nat) : nI (k + 1) + nI 4294967295 = nI k := by rw [m1_eq, pk_m1]
theorem nI_m1lt : nI 0 + nI 4294967295 < 0 := by decide
def tl (C : Nat → G) (y : G) (n j : Nat) : G := gs (fun i => gm (C (j + i)) (gp y i)) (n + 1 - j)
theorem tl_step (C : Nat → G) (y : G) {n j : Nat} (h : j ≤ n) : tl C y n j = ga (gm (tl C y n (j + 1)) y) (C j) := by
  unfold tl
  rw [show n + 1 - j = (n + 1 - (j + 1)) + 1 by omega, gs_first, ga_comm, gm_comm (gs _ _) y, ← gs_mul]
  congr 1
  · refine gs_congr (fun i _ => ?_)
    rw [show j + (i + 1) = j + 1 + i by omega, gp, gm_comm y, gm_assoc]
  · exact gm_1 _
theorem tl_0 (C : Nat → G) (y : G) (n : Nat) : tl C y n 0 = ev C y (n + 1) := by
  unfold tl ev
  exact gs_congr (fun i _ => by rw [Nat.zero_add])
theorem gl_stop {R : Nat → Bool} {p q : Nat} (h : p ≤ q) (hc : ct R p = ct R q) : gl R q = gl R p := by
  induction q with
  | zero => rw [show p = 0 by omega]
  | succ q ih =>
    by_cases e : p = q + 1
    · rw [e]
    · have h1 := ct_mono R (show p ≤ q by omega)
      have h2 : ct R (q + 1) = ct R q + (if R q then 1 else 0) := rfl
      have h3 : R q = false := by
        cases hR : R q with
        | false => rfl
        | true =>
          rw [hR] at h2
          simp only [if_true] at h2
          omega
      rw [gl_succ, h3]
      simp only [Bool.false_eq_true, if_false, List.append_nil]
      rw [h3] at h2
      exact ih (by omega) (by simp only [Bool.false_eq_true, if_false] at h2; omega)
section MEND3
variable {X : Nat × (Nat → Int32)} {iv : IV}
theorem sp_isLocated {P : Int32 → IV → Prop} {p L : Nat} {C : Nat → G} (hp : p < 14) (hL : L ≤ 6) (hC : ∀ k, k < 7 → iv 17 k = nI (C k).1) (ht : ev C (gi (xp p)) (L + 1) = 0 → P (nI 1) iv) (hf : ev C (gi (xp p)) (L + 1) ≠ 0 → P (nI 0) iv) : wc X 33 [.ref 14, .int (nI p), .int (nI L)] iv (Ri P) := by
  refine mk_X4_isLocated (sp_ofPlace hp (sp_quot 1 (xp p) (xpz hp) ?_))
  rw [gm_1l]
  have key : ∀ j, j ≤ L → wp X (0, 0) 33 9 [some (.ref 14), none, none, some (.int (nI (gi (xp p)).1)), some (.int (nI (tl C (gi (xp p)) L (j + 1)).1)), some (.int (nI j))] [] iv (Ri P) := by
    intro j
    induction j with
    | zero =>
      intro _
      refine mk_X4_isLocated_9 ⟨fun z => absurd z (nI_pos (by decide)), fun _ => sp_times _ _ ⟨vp_in_nI (by omega) (by decide), fun v3 h3 v4 h4 => ?_⟩⟩
      rw [nI_clamp (by decide), hC 0 (by decide), nI_ga, ← tl_step C _ (Nat.zero_le L), tl_0] at h3
      rw [h3]
      refine mk_X4_isLocated_9 ⟨fun _ => ⟨fun z => ht ((nI_g0 _).mp z), fun z => hf (fun q => z ((nI_g0 _).mpr q))⟩, fun z => absurd (by rw [h4]; exact nI_m1lt) z⟩
    | succ j ih =>
      intro hj
      refine mk_X4_isLocated_9 ⟨fun z => absurd z (nI_pos (by omega)), fun _ => sp_times _ _ ⟨vp_in_nI (by omega) (by decide), fun v3 h3 v4 h4 => ?_⟩⟩
      rw [nI_clamp (by omega), hC (j + 1) (by omega), nI_ga, ← tl_step C _ hj] at h3
      rw [nI_dec] at h4
      rw [h3, h4]
      exact ih (by omega)
  have h0 := key L (Nat.le_refl _)
  have e0 : tl C (gi (xp p)) L (L + 1) = 0 := by
    unfold tl
    rw [Nat.sub_self]
    rfl
  rw [e0] at h0
  exact h0
/-- the places that the register tells -/
def rt (n L : Nat) (C : Nat → G) (p : Nat) : Bool := !(gb n p) && decide (ev C (gi (xp p)) (L + 1) = 0)
theorem rt_le {n L : Nat} {C : Nat → G} (h0 : C 0 = 1) (hd : ∀ k, L < k → C k = 0) : ct (rt n L C) 14 ≤ L :=
  Nat.le_trans (ct_le (fun p _ h => by unfold rt at h; rw [Bool.and_eq_true] at h; exact h.2)) (roots_le L C h0 hd)
theorem sp_wantLocated {P : Int32 → IV → Prop} {n L : Nat} {C : Nat → G} (hn : n < 2 ^ 14) (hgL : ct (gb n) 14 + L ≤ 6) (hC : ∀ k, k < 7 → iv 17 k = nI (C k).1) (h0 : C 0 = 1) (hd : ∀ k, L < k → C k = 0) (hw : WL iv (gl (gb n) 14)) (ht : ct (rt n L C) 14 = L → ∀ iv', (∀ a, a ≠ 14 → a ≠ 20 → iv' a = iv a) → WL iv' (gl (gb n) 14 ++ gl (rt n L C) 14) → P (nI 1) iv') (hf : ct (rt n L C) 14 ≠ L → ∀ iv', (∀ a, a ≠ 14 → a ≠ 20 → iv' a = iv a) → P (nI 0) iv') : wc X 32 [.ref 14, .int (nI L), .int (nI n)] iv (Ri P) := by
  refine mk_X4_wantLocated ?_
  have hle := rt_le (n := n) h0 hd
  have key : ∀ m p, p + m = 14 → ∀ iv3 : IV, (∀ a, a ≠ 14 → a ≠ 20 → iv3 a = iv a) → WL iv3 (gl (gb n) 14 ++ gl (rt n L C) p) → wp X (0, 0) 32 4 [some (.ref 14), some (.int (nI L)), some (.int (nI n)), some (.int (nI (ct (rt n L C) p))), some (.int (nI p))] [] iv3 (Ri P) := by
    intro m
    induction m with
    | zero =>
      intro p hp iv3 f1 f2
      have e : p = 14 := by omega
      subst e
      refine mk_X4_wantLocated_4 ⟨fun _ => ⟨fun z => ?_, fun z => ?_⟩, fun z => absurd (nI_le (Nat.le_refl 14) (by decide)) z⟩
      · rw [nI_eq (by omega) (by omega)] at z
        exact ht z iv3 f1 f2
      · rw [nI_eq (by omega) (by omega)] at z
        exact hf z iv3 f1
    | succ m ih =>
      intro p hp iv3 f1 f2
      have hmono := ct_mono (rt n L C) (show p ≤ 14 by omega)
      refine mk_X4_wantLocated_4 ⟨fun z => absurd z (nI_ge (by omega) (by decide)), fun _ => ⟨fun z => ?_, fun z => ?_⟩⟩
      · rw [nI_leI (by omega) (by omega)] at z
        refine ⟨fun _ => ?_, fun q => absurd (by rw [show ct (rt n L C) p = L by omega]) q⟩
        refine ht (by omega) iv3 f1 ?_
        rw [gl_stop (R := rt n L C) (show p ≤ 14 by omega) (by omega)]
        exact f2
      · rw [nI_leI (by omega) (by omega)] at z
        refine sp_bit (by omega) (by omega) ?_
        have hgs := gl_succ (rt n L C) p
        have hcs : ct (rt n L C) (p + 1) = ct (rt n L C) p + (if rt n L C p then 1 else 0) := rfl
        have e17 : ∀ k, k < 7 → iv3 17 k = nI (C k).1 := fun k hk => by rw [f1 17 (by decide) (by decide)]; exact hC k hk
        have no : rt n L C p = false → wp X (0, 0) 32 4 [some (.ref 14), some (.int (nI L)), some (.int (nI n)), some (.int (nI (ct (rt n L C) p))), some (.int (nI p + nI 1))] [] iv3 (Ri P) := by
          intro hr
          rw [hr] at hgs hcs
          simp only [Bool.false_eq_true, if_false, List.append_nil, Nat.add_zero] at hgs hcs
          rw [nI_add, ← hcs]
          exact ih (p + 1) (by omega) iv3 f1 (by rw [hgs]; exact f2)
        cases hb : n.testBit p with
        | true =>
          refine ⟨fun q => absurd q (by decide), fun _ => no ?_⟩
          unfold rt gb
          rw [hb]
          rfl
        | false =>
          refine ⟨fun _ => ?_, fun q => absurd rfl q⟩
          refine sp_isLocated (by omega) (by omega) e17 (fun hr => ?_) (fun hr => ?_)
          · have hrt : rt n L C p = true := by
              unfold rt gb
              rw [hb]
              exact decide_eq_true hr
            rw [hrt] at hgs hcs
            simp only [if_true] at hgs hcs
            refine ⟨fun q => absurd q (by decide), fun _ => ?_⟩
            have hlen : (gl (gb n) 14 ++ gl (rt n L C) p).length = ct (gb n) 14 + ct (rt n L C) p := by rw [List.length_append, gl_len, gl_len]
            refine ⟨by rw [f2.1, hlen]; exact vp_in_nI (by omega) (by decide), fun iv5 h5 iv6 h6 => ?_⟩
            obtain ⟨w1, w2⟩ := WL_snoc f2 rfl rfl (by rw [hlen]; omega) h5 h6
            rw [nI_add, nI_add, ← hcs]
            refine ih (p + 1) (by omega) iv6 (fun a a1 a2 => by rw [w2 a a1 a2, f1 a a1 a2]) ?_
            rw [hgs, ← List.append_assoc]
            exact w1
          · refine ⟨fun _ => no ?_, fun q => absurd rfl q⟩
            unfold rt
            rw [decide_eq_false hr, Bool.and_false]
  exact key 14 0 rfl iv (fun _ _ _ => rfl) (by
    show WL iv (gl (gb n) 14 ++ [])
    rw [List.append_nil]
    exact hw)
end MEND3
