/-! THE MODEL MAKES ITS MARK -/
theorem gi_k : ∀ k, k < 15 → gp 2 ((15 - k) % 15) = gi (gp 2 k) := by decide +kernel
theorem gp_all : ∀ a : G, a ≠ 0 → ∃ k : Fin 15, a = gp 2 k.1 := by decide +kernel
def dt (t : Nat) : Nat := 15 * (t / 15) + (if t / 15 % 2 = 0 then t % 15 else 14 - t % 15)
def cnF (t : Nat) : Nat := ct (fun t => decide (frN (dt t) ≠ 4294967295)) t
theorem dt_ok : ∀ t, t < 225 → dt t < 225 ∧ dt (dt t) = t ∧ dt t / 15 = t / 15 ∧ (frN (dt t) = 4294967295 ∨ (frN (dt t) = cnF t ∧ dO (cnF t) = dt t ∧ cnF t < 171)) ∧ cnF t ≤ 171 := by decide +kernel
theorem cnF_225 : cnF 225 = 171 := by decide +kernel
theorem fr_is : ∀ i, i < 225 → (frN i = 4294967295 ↔ (isEy i = true ∨ i / 15 = 7 ∨ fb i ≠ 4294967295)) := by decide +kernel
theorem pu_letter : ∀ l, l < 3 → ∀ i, i < 3 → mm_ek 147 [nI l, nI i] = some (nI (ltr l i)) := by decide +kernel
theorem ltr_lt : ∀ l, l < 3 → ∀ i, i < 3 → ltr l i < 256 := by decide +kernel
def FT (iv : IV) : Prop := MF iv ∧ (∀ i, i < 225 → iv 87 i = nI (frN i)) ∧ ∀ k, k < 171 → iv 88 k = nI (dO k)
theorem FT_of {iv iv' : IV} (h : FT iv) (h79 : iv' 79 = iv 79) (h80 : iv' 80 = iv 80) (h81 : iv' 81 = iv 81) (h87 : iv' 87 = iv 87) (h88 : iv' 88 = iv 88) : FT iv' := ⟨MF_of h.1 h79 h80 h81, by rw [h87]; exact h.2.1, by rw [h88]; exact h.2.2⟩
/-- the model's texts -/
def MTx (iv : IV) (T : TX) : Prop := TOK T ∧ iv 84 0 = nI T.1 ∧ iv 84 1 = nI T.2.2.1 ∧ (∀ i, i < T.1 → iv 82 i = nI (T.2.1 i)) ∧ ∀ i, i < T.2.2.1 → iv 83 i = nI (T.2.2.2 i)
theorem MTx_of {iv iv' : IV} {T : TX} (h : MTx iv T) (h82 : iv' 82 = iv 82) (h83 : iv' 83 = iv 83) (h84 : iv' 84 = iv 84) : MTx iv' T := by unfold MTx; rw [h82, h83, h84]; exact h
section MAKES
variable {X : Nat × (Nat → Int32)} {iv : IV}
set_option maxHeartbeats 1000000 in
theorem sp_frees {P : IV → Prop} (h : ∀ iv', (∀ a, ¬ (79 ≤ a ∧ a ≤ 81) → a ≠ 87 → a ≠ 88 → iv' a = iv a) → FT iv' → P iv') : wc X 157 [.ref 74] iv (Rv P) := by
  refine mk_X11_frees ?_
  refine lup (τ := IV) (W := fun k iv1 => wp X (0, 0) 157 2 [some (.ref 74), some (.int (nI k)), none, none, none, none] [] iv1 (Rv P)) (I := fun k iv1 => (∀ a, a ≠ 81 → iv1 a = iv a) ∧ ∀ q, q < k → iv1 81 q = nI (gm (Fin.ofNat 16 (q / 16)) (Fin.ofNat 16 (q % 16))).1) 256 ?_ ?_ 256 0 iv rfl ⟨fun _ _ => rfl, fun q hq => absurd hq (by omega)⟩
  · rintro iv1 ⟨a1, b1⟩
    refine mk_X11_frees_2 ⟨fun _ => ⟨vp_in_nI (by decide) (by decide), fun iv2 h2 => ?_⟩, fun z => absurd (nI_le (Nat.le_refl 256) (by decide)) z⟩
    rw [nI_clamp (by decide), up_row] at h2
    refine lup (τ := IV) (W := fun k iv3 => wp X (0, 0) 157 25 [some (.ref 74), some (.int (nI (k + 1))), none, none, none, none] [] iv3 (Rv P)) (I := fun k iv3 => (∀ a, a ≠ 79 → iv3 a = iv1 a) ∧ ∀ q, q < k + 1 → iv3 79 q = nI (gp 2 q).1) 14 ?_ ?_ 14 0 iv2 rfl ⟨fun a ha => by rw [h2, row_ne ha], fun q hq => by rw [h2, row_at, if_pos (by omega), show q = 0 by omega]; rfl⟩
    · rintro iv3 ⟨a3, b3⟩
      refine mk_X11_frees_25 ⟨fun _ => ?_, fun z => absurd (nI_le (Nat.le_refl 15) (by decide)) z⟩
      refine lup (τ := IV) (W := fun k iv4 => wp X (0, 0) 157 43 [some (.ref 74), some (.int (nI k)), none, none, none, none] [] iv4 (Rv P)) (I := fun k iv4 => (∀ a, a ≠ 80 → iv4 a = iv3 a) ∧ ∀ q, q < k → iv4 80 (gp 2 q).1 = nI (gi (gp 2 q)).1) 15 ?_ ?_ 15 0 iv3 rfl ⟨fun _ _ => rfl, fun q hq => absurd hq (by omega)⟩
      · rintro iv4 ⟨a4, b4⟩
        refine mk_X11_frees_43 ⟨fun _ => ?_, fun z => absurd (nI_le (Nat.le_refl 15) (by decide)) z⟩
        have hMF : ∀ iv5 : IV, (∀ a, a ≠ 87 → a ≠ 88 → iv5 a = iv4 a) → MF iv5 := by
          intro iv5 h5
          refine ⟨fun a b => ?_, fun k hk => ?_, fun a ha => ?_⟩
          · rw [h5 81 (by decide) (by decide), a4 81 (by decide), a3 81 (by decide), b1 _ (by omega)]
            have e1 : (Fin.ofNat 16 ((16 * a.1 + b.1) / 16) : G) = a := Fin.ext (by rw [gG (by omega)]; omega)
            have e2 : (Fin.ofNat 16 ((16 * a.1 + b.1) % 16) : G) = b := Fin.ext (by rw [gG (by omega)]; omega)
            rw [e1, e2]
          · rw [h5 79 (by decide) (by decide), a4 79 (by decide), b3 k (by omega)]
          · obtain ⟨k, hk⟩ := gp_all a ha
            rw [h5 80 (by decide) (by decide), hk]
            exact b4 k.1 k.2
        refine lup (τ := IV) (W := fun r iv5 => wp X (0, 0) 157 67 [some (.ref 74), some (.int (nI (cnF (15 * r)))), some (.int (nI r)), none, none, none] [] iv5 (Rv P)) (I := fun r iv5 => (∀ a, a ≠ 87 → a ≠ 88 → iv5 a = iv4 a) ∧ (∀ t, t < 15 * r → iv5 87 (dt t) = nI (frN (dt t))) ∧ ∀ k, k < cnF (15 * r) → iv5 88 k = nI (dO k)) 15 ?_ ?_ 15 0 iv4 rfl ⟨fun _ _ _ => rfl, fun t ht => absurd ht (by omega), fun k hk => absurd hk (by show ¬ k < 0; omega)⟩
        · rintro iv5 ⟨a5, b5, c5⟩
          refine mk_X11_frees_67 ⟨fun _ => ?_, fun z => absurd (nI_le (Nat.le_refl 15) (by decide)) z⟩
          refine h iv5 (fun a q1 q2 q3 => by rw [a5 a q2 q3, a4 a (by omega), a3 a (by omega), a1 a (by omega)]) ⟨hMF iv5 a5, fun i hi => ?_, fun k hk => c5 k (by rw [show 15 * 15 = 225 by rfl, cnF_225]; exact hk)⟩
          have hd := dt_ok i hi
          have := b5 (dt i) (by omega)
          rw [hd.2.1] at this
          exact this
        · rintro r iv5 hr ⟨a5, b5, c5⟩ nx
          refine mk_X11_frees_67 ⟨fun z => absurd z (nI_ge hr (by decide)), fun _ => ?_⟩
          refine lup (τ := IV) (W := fun i iv6 => wp X (0, 0) 157 72 [some (.ref 74), some (.int (nI (cnF (15 * r + i)))), some (.int (nI r)), some (.int (nI i)), none, none] [] iv6 (Rv P)) (I := fun i iv6 => (∀ a, a ≠ 87 → a ≠ 88 → iv6 a = iv4 a) ∧ (∀ t, t < 15 * r + i → iv6 87 (dt t) = nI (frN (dt t))) ∧ ∀ k, k < cnF (15 * r + i) → iv6 88 k = nI (dO k)) 15 ?_ ?_ 15 0 iv5 rfl ⟨a5, b5, c5⟩
          · rintro iv6 ⟨a6, b6, c6⟩
            refine mk_X11_frees_72 ⟨fun _ => ?_, fun z => absurd (nI_le (Nat.le_refl 15) (by decide)) z⟩
            rw [nI_add]
            exact nx iv6 ⟨a6, b6, c6⟩
          · rintro i iv6 hi ⟨a6, b6, c6⟩ nx6
            have hd := dt_ok (15 * r + i) (by omega)
            have e1 : (15 * r + i) / 15 = r := by omega
            have e2 : (15 * r + i) % 15 = i := by omega
            have hdt : dt (15 * r + i) = 15 * r + (if r % 2 = 0 then i else 14 - i) := by unfold dt; rw [e1, e2]
            have hcl : (if r % 2 = 0 then i else 14 - i) < 15 := by split <;> omega
            have hmod : dt (15 * r + i) % 15 = (if r % 2 = 0 then i else 14 - i) := by rw [hdt]; omega
            have hdiv : dt (15 * r + i) / 15 = r := by rw [hd.2.2.1]; exact e1
            have hcn : cnF (15 * r + i + 1) = cnF (15 * r + i) + (if frN (dt (15 * r + i)) ≠ 4294967295 then 1 else 0) := by
              show ct _ _ + _ = _
              congr 1
              by_cases q : frN (dt (15 * r + i)) = 4294967295
              · rw [if_neg (by simp [q]), if_neg (fun z => z q)]
              · rw [if_pos (by simp [q]), if_pos q]
            have main : wp X (0, 0) 157 84 [some (.ref 74), some (.int (nI (cnF (15 * r + i)))), some (.int (nI r)), some (.int (nI i)), none, none] [.int (nI (if r % 2 = 0 then i else 14 - i))] iv6 (Rv P) := by
              refine mk_X11_frees_84 ?_
              have last : ∀ b : Bool, (b = true ↔ frN (dt (15 * r + i)) ≠ 4294967295) → wp X (0, 0) 157 100 [some (.ref 74), some (.int (nI (cnF (15 * r + i)))), some (.int (nI r)), some (.int (nI i)), some (.int (nI (if r % 2 = 0 then i else 14 - i))), none] [.int (nI b.toNat)] iv6 (Rv P) := by
                intro b hb
                have l2 : ∀ s0 : Int32, s0 = nI (frN (dt (15 * r + i))) → wp X (0, 0) 157 113 [some (.ref 74), some (.int (nI (cnF (15 * r + i)))), some (.int (nI r)), some (.int (nI i)), some (.int (nI (if r % 2 = 0 then i else 14 - i))), some (.int (nI b.toNat))] [.int s0, .int ((nI 15) * nI r + nI (if r % 2 = 0 then i else 14 - i)), .ref 87] iv6 (Rv P) := by
                  intro s0 hs0
                  refine mk_X11_frees_113 ?_
                  rw [pk_mul, nI_add, ← hdt, nI_clamp (by omega), hs0, nI_add]
                  refine ⟨vp_in_nI hd.1 (by decide), fun iv7 h7 => ?_⟩
                  rw [up_row] at h7
                  have b7 : ∀ t, t < 15 * r + i + 1 → iv7 87 (dt t) = nI (frN (dt t)) := fun t ht => by
                    rw [h7, row_at]
                    by_cases e : dt t = dt (15 * r + i)
                    · rw [if_pos e, e]
                    · rw [if_neg e]
                      exact b6 t (by
                        have : t ≠ 15 * r + i := fun q => e (by rw [q])
                        omega)
                  refine ⟨fun z => ?_, fun z => ?_⟩
                  · rw [bI_0] at z
                    have z' : ¬ frN (dt (15 * r + i)) ≠ 4294967295 := fun q => by rw [hb.mpr q] at z; cases z
                    rw [if_neg z', Nat.add_zero] at hcn
                    have := nx6 iv7 ⟨fun a q1 q2 => by rw [h7, row_ne q1, a6 a q1 q2], b7, fun k hk => by
                      rw [show 15 * r + (i + 1) = 15 * r + i + 1 by omega, hcn] at hk
                      rw [h7, row_ne (by decide)]
                      exact c6 k hk⟩
                    rw [show 15 * r + (i + 1) = 15 * r + i + 1 by omega, hcn] at this
                    exact this
                  · have z' : frN (dt (15 * r + i)) ≠ 4294967295 := hb.mp (by
                      cases b with
                      | true => rfl
                      | false => exact absurd rfl z)
                    rw [if_pos z'] at hcn
                    have hd4 := hd.2.2.2.1.resolve_left z'
                    refine ⟨vp_in_nI hd4.2.2 (by decide), fun iv8 h8 => ?_⟩
                    rw [nI_clamp (by omega), up_row] at h8
                    rw [nI_add]
                    have := nx6 iv8 ⟨fun a q1 q2 => by rw [h8, row_ne q2, h7, row_ne q1, a6 a q1 q2], fun t ht => by rw [h8, row_ne (by decide)]; exact b7 t ht, fun k hk => by
                      rw [show 15 * r + (i + 1) = 15 * r + i + 1 by omega, hcn] at hk
                      rw [h8, row_at]
                      by_cases e : k = cnF (15 * r + i)
                      · rw [if_pos e, e, hd4.2.1]
                      · rw [if_neg e, h7, row_ne (by decide)]
                        exact c6 k (by omega)⟩
                    rw [show 15 * r + (i + 1) = 15 * r + i + 1 by omega, hcn] at this
                    exact this
                refine mk_X11_frees_100 ⟨fun z => l2 _ ?_, fun z => l2 _ ?_⟩
                · rw [bI_0] at z
                  have z' : ¬ frN (dt (15 * r + i)) ≠ 4294967295 := fun q => by rw [hb.mpr q] at z; cases z
                  have : frN (dt (15 * r + i)) = 4294967295 := Classical.byContradiction z'
                  rw [this]
                · have z' : frN (dt (15 * r + i)) ≠ 4294967295 := hb.mp (by
                    cases b with
                    | true => rfl
                    | false => exact absurd rfl z)
                  rw [(hd.2.2.2.1.resolve_left z').1]
              have hfi := fr_is (dt (15 * r + i)) hd.1
              rw [hdiv] at hfi
              have qe : wc X 154 [.int (nI (dt (15 * r + i) / 15)), .int (nI (dt (15 * r + i) % 15))] iv6 _ := sp_isEye (X := X) (iv := iv6) hd.1 (P := fun r2 iv1 => ((r2 = 0 → ((nI r = (nI 7) → wp X (0, 0) 157 100 [some (.ref 74), some (.int (nI (cnF (15 * r + i)))), some (.int (nI r)), some (.int (nI i)), some (.int (nI (if r % 2 = 0 then i else 14 - i))), none] [.int (nI 0)] iv1 (Rv P)) ∧ (¬ (nI r = (nI 7)) → wc X 156 [.int (nI r), .int (nI (if r % 2 = 0 then i else 14 - i))] iv1 (Ri (fun r4 iv3 => ((r4 = (nI 4294967295) → wp X (0, 0) 157 100 [some (.ref 74), some (.int (nI (cnF (15 * r + i)))), some (.int (nI r)), some (.int (nI i)), some (.int (nI (if r % 2 = 0 then i else 14 - i))), none] [.int (nI 1)] iv3 (Rv P)) ∧ (¬ (r4 = (nI 4294967295)) → wp X (0, 0) 157 100 [some (.ref 74), some (.int (nI (cnF (15 * r + i)))), some (.int (nI r)), some (.int (nI i)), some (.int (nI (if r % 2 = 0 then i else 14 - i))), none] [.int (nI 0)] iv3 (Rv P)))))))) ∧ (¬ (r2 = 0) → wp X (0, 0) 157 100 [some (.ref 74), some (.int (nI (cnF (15 * r + i)))), some (.int (nI r)), some (.int (nI i)), some (.int (nI (if r % 2 = 0 then i else 14 - i))), none] [.int (nI 0)] iv1 (Rv P)))) (by
                refine ⟨fun z => ⟨fun z1 => ?_, fun z1 => ?_⟩, fun z => ?_⟩
                · rw [nI_eq (by omega) (by decide)] at z1
                  exact last false ⟨fun q => (by cases q), fun q => absurd (hfi.mpr (Or.inr (Or.inl z1))) q⟩
                · rw [bI_0] at z
                  rw [nI_eq (by omega) (by decide)] at z1
                  have q := sp_formatBit (X := X) (iv := iv6) hd.1 (P := fun r4 iv3 => ((r4 = (nI 4294967295) → wp X (0, 0) 157 100 [some (.ref 74), some (.int (nI (cnF (15 * r + i)))), some (.int (nI r)), some (.int (nI i)), some (.int (nI (if r % 2 = 0 then i else 14 - i))), none] [.int (nI 1)] iv3 (Rv P)) ∧ (¬ (r4 = (nI 4294967295)) → wp X (0, 0) 157 100 [some (.ref 74), some (.int (nI (cnF (15 * r + i)))), some (.int (nI r)), some (.int (nI i)), some (.int (nI (if r % 2 = 0 then i else 14 - i))), none] [.int (nI 0)] iv3 (Rv P)))) (by
                    refine ⟨fun z2 => ?_, fun z2 => ?_⟩
                    · have z3 : fb (dt (15 * r + i)) = 4294967295 := by
                        rcases fb_ok _ hd.1 with q | q
                        · exact absurd z2 (m1_ne (by omega))
                        · exact q
                      refine last true ⟨fun _ q => ?_, fun _ => rfl⟩
                      rcases hfi.mp q with q1 | q1 | q1
                      · rw [z] at q1; cases q1
                      · exact z1 q1
                      · exact q1 z3
                    · have z3 : fb (dt (15 * r + i)) ≠ 4294967295 := fun q => z2 (by rw [q])
                      exact last false ⟨fun q => (by cases q), fun q => absurd (hfi.mpr (Or.inr (Or.inr z3))) q⟩)
                  rw [hdiv, hmod] at q
                  exact q
                · have z1 : isEy (dt (15 * r + i)) = true := by
                    cases hq : isEy (dt (15 * r + i)) with
                    | true => rfl
                    | false => rw [hq] at z; exact absurd rfl z
                  exact last false ⟨fun q => (by cases q), fun q => absurd (hfi.mpr (Or.inl z1)) q⟩)
              rw [hdiv, hmod] at qe
              exact qe
            refine mk_X11_frees_72 ⟨fun z => absurd z (nI_ge hi (by decide)), fun _ => ?_⟩
            rw [pk_rem (by omega) (by decide) (by decide), pk_sub (by omega)]
            refine ⟨fun z => ?_, fun z => ?_⟩
            · have z' : r % 2 = 0 := Classical.byContradiction fun q => nI_ne0 (by omega) (by omega) z
              rw [if_pos z'] at main
              exact main
            · have z' : ¬ r % 2 = 0 := fun q => z (by rw [q]; rfl)
              rw [if_neg z'] at main
              exact main
      · rintro k iv4 hk ⟨a4, b4⟩ nx
        refine mk_X11_frees_43 ⟨fun z => absurd z (nI_ge hk (by decide)), fun _ => ⟨vp_in_nI hk (by decide), ?_⟩⟩
        rw [pk_sub (by omega), pk_rem (by omega) (by decide) (by decide), nI_clamp (by omega), nI_clamp (by omega), a4 79 (by decide), b3 k (by omega), b3 _ (by omega), gi_k k hk, nI_clamp (by omega), nI_add]
        refine ⟨vp_in_nI (by omega) (by decide), vp_in_nI (gp 2 k).2 (by decide), fun iv5 h5 => ?_⟩
        rw [up_row] at h5
        refine nx iv5 ⟨fun a ha => by rw [h5, row_ne ha, a4 a ha], fun q hq => ?_⟩
        rw [h5, row_at]
        by_cases e : (gp 2 q).1 = (gp 2 k).1
        · rw [if_pos e, Fin.ext e]
        · rw [if_neg e]
          exact b4 q (by
            have : q ≠ k := fun z => e (by rw [z])
            omega)
    · rintro k iv3 hk ⟨a3, b3⟩ nx
      refine mk_X11_frees_25 ⟨fun z => absurd z (nI_ge (by omega) (by decide)), fun _ => ?_⟩
      rw [pk_sub (by omega), nI_clamp (by omega), Nat.add_sub_cancel, b3 k (by omega), nI_add]
      refine ⟨vp_in_nI (by omega) (by decide), sp_twice (gp 2 k) ⟨vp_in_nI (by omega) (by decide), fun iv4 h4 => ?_⟩⟩
      rw [nI_clamp (by omega), up_row] at h4
      refine nx iv4 ⟨fun a ha => by rw [h4, row_ne ha, a3 a ha], fun q hq => ?_⟩
      rw [h4, row_at]
      by_cases e : q = k + 1
      · rw [if_pos e, e]; rfl
      · rw [if_neg e]; exact b3 q (by omega)
  · rintro k iv1 hk ⟨a1, b1⟩ nx
    refine mk_X11_frees_2 ⟨fun z => absurd z (nI_ge hk (by decide)), fun _ => ?_⟩
    rw [pk_rem (by omega) (by decide) (by decide), pk_div (by omega) (by decide) (by decide)]
    have e1 : (Fin.ofNat 16 (k / 16) : G).1 = k / 16 := gG (by omega)
    have e2 : (Fin.ofNat 16 (k % 16) : G).1 = k % 16 := gG (by omega)
    rw [← e1, ← e2]
    refine sp_mult _ _ ⟨vp_in_nI hk (by decide), fun iv4 h4 => ?_⟩
    rw [nI_clamp (by omega), up_row] at h4
    rw [nI_add]
    refine nx iv4 ⟨fun a ha => by rw [h4, row_ne ha, a1 a ha], fun q hq => ?_⟩
    rw [h4, row_at]
    by_cases e : q = k
    · rw [if_pos e, e]
    · rw [if_neg e]; exact b1 q (by omega)
theorem sp_letter {P : Int32 → IV → Prop} {l i : Nat} (hl : l < 3) (hi : i < 3) (p : P (nI (ltr l i)) iv) : wc X 147 [.int (nI l), .int (nI i)] iv (Ri P) := pui (as := [nI l, nI i]) (by decide) (pu_letter l hl i hi) p
theorem sp_along {P : Int32 → IV → Prop} {T : TX} {l : Nat} (hl : l < 3) (hT : MTx iv T) (p : P (nI (al T l)) iv) : wc X 148 [.ref 74, .int (nI l)] iv (Ri P) := by
  obtain ⟨hk, -, h84, -, h83⟩ := hT
  have hm := hk.2.2.1
  have hb := hk.2.2.2
  refine mk_X11_along ?_
  have step : ∀ k, k < 3 → (k < T.2.2.1 ∧ T.2.2.2 k = ltr l k → wp X (0, 0) 148 2 [some (.ref 74), some (.int (nI l)), some (.int (nI (k + 1)))] [] iv (Ri P)) → (¬ (k < T.2.2.1 ∧ T.2.2.2 k = ltr l k) → P (nI k) iv) → wp X (0, 0) 148 2 [some (.ref 74), some (.int (nI l)), some (.int (nI k))] [] iv (Ri P) := by
    intro k hk3 h1 h2
    refine mk_X11_along_2 ⟨vp_in_nI (by decide) (by decide), ?_⟩
    rw [nI_clamp (n := 1) (by decide), h84, nI_leI (by omega) (by omega)]
    refine ⟨fun z => h2 (by omega), fun z => ⟨vp_in_nI hk3 (by decide), sp_letter hl hk3 ?_⟩⟩
    have := ltr_lt l hl k hk3
    have := hb k (by omega)
    rw [nI_clamp (by omega), h83 k (by omega), nI_eq (by omega) (by omega), nI_add]
    exact ⟨fun z1 => h1 ⟨by omega, z1⟩, fun z1 => h2 (fun q => z1 q.2)⟩
  unfold al at p
  refine step 0 (by decide) (fun c0 => ?_) (fun c0 => by rw [if_neg c0] at p; exact p)
  rw [if_pos c0] at p
  refine step 1 (by decide) (fun c1 => ?_) (fun c1 => by rw [if_neg c1] at p; exact p)
  rw [if_pos c1] at p
  refine step 2 (by decide) (fun c2 => ?_) (fun c2 => by rw [if_neg c2] at p; exact p)
  rw [if_pos c2] at p
  refine mk_X11_along_2 ⟨vp_in_nI (by decide) (by decide), ?_⟩
  rw [nI_clamp (n := 1) (by decide), h84]
  exact ⟨fun _ => p, fun z => absurd (nI_le hm (by decide)) z⟩
theorem al_le (T : TX) (l : Nat) : al T l ≤ 3 := by unfold al; split; split; split; all_goals omega
theorem sp_levelNow {P : Int32 → IV → Prop} {T : TX} (hT : MTx iv T) (p : P (nI (lv T)) iv) : wc X 151 [.ref 74] iv (Ri P) := by
  have a1 := al_le T 1
  have a2 := al_le T 2
  unfold lv at p
  refine mk_X11_levelNow (sp_along (by decide) hT ?_)
  rw [nI_eq (by omega) (by decide)]
  refine ⟨fun z => by rw [if_pos z] at p; exact p, fun z => sp_along (by decide) hT ?_⟩
  rw [if_neg z] at p
  rw [nI_eq (by omega) (by decide)]
  exact ⟨fun z => by rw [if_pos z] at p; exact p, fun z => by rw [if_neg z] at p; exact p⟩
theorem sp_itemAt {P : Int32 → IV → Prop} {T : TX} {i : Nat} (hi : i < 100) (hT : MTx iv T) (p : P (nI (itm T i)) iv) : wc X 158 [.ref 74, .int (nI i)] iv (Ri P) := by
  obtain ⟨hk, h84, -, h82, -⟩ := hT
  have hn := hk.1
  have hb := hk.2.1
  have fin : ∀ x : Nat, (0 < i → x < 256 ∧ x = if (i - 1) / 2 < T.1 then T.2.1 ((i - 1) / 2) else 0) → wp X (0, 0) 158 22 [some (.ref 74), some (.int (nI i)), none] [.int (nI x)] iv (Ri P) := by
    intro x hx
    unfold itm at p
    refine mk_X11_itemAt_22 ⟨fun z => ⟨vp_in_nI (by decide) (by decide), ?_⟩, fun z => ?_⟩
    · have e : i = 0 := Classical.byContradiction fun q => nI_ne0 (by omega) (by omega) z
      rw [if_pos e] at p
      rw [nI_clamp (by decide), h84]
      exact p
    · have e : i ≠ 0 := fun q => z (by rw [q]; rfl)
      have hx := hx (by omega)
      rw [if_neg e, ← hx.2] at p
      rw [pk_sub (by omega), pk_rem (by omega) (by decide) (by decide)]
      refine ⟨fun z1 => ?_, fun z1 => ?_⟩
      · have e1 : (i - 1) % 2 = 0 := Classical.byContradiction fun q => nI_ne0 (by omega) (by omega) z1
        rw [if_pos e1] at p
        rw [pk_div (by omega) (by decide) (by decide)]
        exact p
      · have e1 : ¬ (i - 1) % 2 = 0 := fun q => z1 (by rw [q]; rfl)
        rw [if_neg e1] at p
        rw [pk_rem (by omega) (by decide) (by decide)]
        exact p
  refine mk_X11_itemAt ⟨fun z => fin 0 (fun q => ?_), fun z => ⟨vp_in_nI (by decide) (by decide), ?_⟩⟩
  · exact absurd z (nI_nle q (by omega))
  · have e : 0 < i := by
      rcases Nat.eq_zero_or_pos i with q | q
      · rw [q] at z; exact absurd (by decide) z
      · exact q
    rw [pk_sub (by omega), pk_div (by omega) (by decide) (by decide), nI_clamp (by decide), h84, nI_leI (by omega) (by omega)]
    refine ⟨fun z1 => fin 0 (fun _ => ⟨by decide, (if_neg (by omega)).symm⟩), fun z1 => ⟨vp_in_nI (by omega) (by decide), ?_⟩⟩
    rw [nI_clamp (by omega), h82 _ (by omega)]
    exact fin _ (fun _ => ⟨hb _ (by omega), (if_pos (by omega)).symm⟩)
theorem sp_bases {P : IV → Prop} {c : Nat} (hM : MF iv) (hc : c ≤ 6) (h : ∀ iv', (∀ a, a ≠ 90 → iv' a = iv a) → (∀ k, k < 7 → iv' 90 k = nI (Bs c k).1) → P iv') : wc X 159 [.ref 74, .int (nI c)] iv (Rv P) := by
  refine mk_X11_bases ⟨vp_in_nI (by decide) (by decide), fun iv1 h1 => ?_⟩
  rw [nI_clamp (by decide), up_row] at h1
  refine lup (τ := IV) (W := fun k iv2 => wp X (0, 0) 159 7 [some (.ref 74), some (.int (nI c)), some (.int (nI (k + 1))), none] [] iv2 (Rv P)) (I := fun k iv2 => (∀ a, a ≠ 90 → iv2 a = iv a) ∧ ∀ q, q < k + 1 → iv2 90 q = nI (Bs 0 q).1) 6 ?_ ?_ 6 0 iv1 rfl ⟨fun a ha => by rw [h1, row_ne ha], fun q hq => by rw [h1, row_at, if_pos (by omega), show q = 0 by omega]; rfl⟩
  · rintro iv2 ⟨a2, b2⟩
    refine mk_X11_bases_7 ⟨fun _ => ?_, fun z => absurd (nI_le (Nat.le_refl 7) (by decide)) z⟩
    refine lup (τ := IV) (W := fun j iv3 => wp X (0, 0) 159 19 [some (.ref 74), some (.int (nI c)), some (.int (nI j)), none] [] iv3 (Rv P)) (I := fun j iv3 => (∀ a, a ≠ 90 → iv3 a = iv a) ∧ ∀ q, q < 7 → iv3 90 q = nI (Bs j q).1) c ?_ ?_ c 0 iv2 (by omega) ⟨a2, b2⟩
    · rintro iv3 ⟨a3, b3⟩
      exact mk_X11_bases_19 ⟨fun _ => h iv3 a3 b3, fun z => absurd (nI_le (Nat.le_refl _) (by omega)) z⟩
    · rintro j iv3 hj ⟨a3, b3⟩ nx
      refine mk_X11_bases_19 ⟨fun z => absurd z (nI_ge hj (by omega)), fun _ => ?_⟩
      rw [nI_add]
      have inner : ∀ k, k ≤ j + 1 → ∀ iv4 : IV, (∀ a, a ≠ 90 → iv4 a = iv a) → (∀ q, q < 7 → iv4 90 q = nI (Bs (if q ≤ k then j else j + 1) q).1) → wp X (0, 0) 159 26 [some (.ref 74), some (.int (nI c)), some (.int (nI j)), some (.int (nI k))] [] iv4 (Rv P) := by
        intro k
        induction k with
        | zero =>
          intro _ iv4 a4 b4
          refine mk_X11_bases_26 ⟨fun _ => ?_, fun z => absurd (by decide) z⟩
          rw [nI_add]
          refine nx iv4 ⟨a4, fun q hq => ?_⟩
          rw [b4 q hq]
          by_cases e : q ≤ 0
          · rw [if_pos e, show q = 0 by omega, Bs_0, Bs_0]
          · rw [if_neg e]
        | succ k ih =>
          intro hk iv4 a4 b4
          have hM4 : MF iv4 := MF_of hM (a4 79 (by decide)) (a4 80 (by decide)) (a4 81 (by decide))
          refine mk_X11_bases_26 ⟨fun z => absurd z (nI_nle (by omega) (by omega)), fun _ => ⟨vp_in_nI (by omega) (by decide), ?_⟩⟩
          rw [pk_sub (by omega), nI_clamp (by omega), nI_clamp (by omega), Nat.add_sub_cancel, b4 k (by omega), b4 (k + 1) (by omega), if_pos (by omega), if_pos (by omega)]
          refine ⟨vp_in_nI (by omega) (by decide), sp_power hM4 (by omega) (sp_product hM4 _ _ ⟨vp_in_nI (by omega) (by decide), fun iv5 h5 v6 h6 => ?_⟩)⟩
          rw [nI_ga, up_row] at h5
          rw [h6, nI_dec]
          refine ih (by omega) iv5 (fun a ha => by rw [h5, row_ne ha, a4 a ha]) (fun q hq => ?_)
          rw [h5, row_at]
          by_cases e : q = k + 1
          · rw [if_pos e, e, if_neg (by omega), Bs, if_neg (by omega)]
            rfl
          · rw [if_neg e, b4 q hq]
            by_cases e2 : q ≤ k
            · rw [if_pos e2, if_pos (by omega)]
            · rw [if_neg e2, if_neg (by omega)]
      refine inner (j + 1) (Nat.le_refl _) iv3 a3 (fun q hq => ?_)
      rw [b3 q hq]
      by_cases e : q ≤ j + 1
      · rw [if_pos e]
      · rw [if_neg e, Bs_high j q (by omega), Bs_high (j + 1) q (by omega)]
  · rintro k iv2 hk ⟨a2, b2⟩ nx
    refine mk_X11_bases_7 ⟨fun z => absurd z (nI_ge (by omega) (by decide)), fun _ => ⟨vp_in_nI (by omega) (by decide), fun iv3 h3 => ?_⟩⟩
    rw [nI_clamp (by omega), up_row] at h3
    rw [nI_add]
    refine nx iv3 ⟨fun a ha => by rw [h3, row_ne ha, a2 a ha], fun q hq => ?_⟩
    rw [h3, row_at]
    by_cases e : q = k + 1
    · rw [if_pos e, e, Bs, if_neg (by omega)]; rfl
    · rw [if_neg e]; exact b2 q (by omega)
theorem sp_checks {P : IV → Prop} {l blk : Nat} {v : Nat → G} (hM : MF iv) (hl : l < 3) (hb : blk < 3) (h12 : iv 74 12 = nI l) (h90 : ∀ k, k < 7 → iv 90 k = nI (Bs (2 + 2 * l) k).1) (hv : ∀ p, p < 12 - 2 * l → iv 85 (14 * blk + p) = nI (v p).1) (h : ∀ iv', (∀ a, a ≠ 85 → a ≠ 89 → iv' a = iv a) → (∀ q, ¬ (14 * blk ≤ q ∧ q < 14 * blk + 14) → iv' 85 q = iv 85 q) → (∀ p, p < 14 → iv' 85 (14 * blk + p) = nI (cwd l v p).1) → P iv') : wc X 160 [.ref 74, .int (nI blk)] iv (Rv P) := by
  refine mk_X11_checks ?_
  rw [h12]
  refine mk_X11_checksOf ?_
  rw [pk_mul, nI_add]
  refine lup (τ := IV) (W := fun k iv1 => wp X (0, 0) 160 6 [some (.ref 74), some (.int (nI blk)), some (.int (nI (2 + 2 * l))), some (.int (nI k)), none, none] [] iv1 (Rv P)) (I := fun k iv1 => (∀ a, a ≠ 89 → iv1 a = iv a) ∧ ∀ q, q < k → iv1 89 q = nI 0) 7 ?_ ?_ 7 0 iv rfl ⟨fun _ _ => rfl, fun q hq => absurd hq (by omega)⟩
  · rintro iv1 ⟨a1, b1⟩
    refine mk_X11_checks_6 ⟨fun _ => ?_, fun z => absurd (nI_le (Nat.le_refl 7) (by decide)) z⟩
    refine lup (τ := IV) (W := fun p iv2 => wp X (0, 0) 160 18 [some (.ref 74), some (.int (nI blk)), some (.int (nI (2 + 2 * l))), some (.int (nI p)), none, none] [] iv2 (Rv P)) (I := fun p iv2 => (∀ a, a ≠ 89 → iv2 a = iv a) ∧ ∀ q, q < 2 + 2 * l → iv2 89 q = nI (Rg (2 + 2 * l) v p q).1) (12 - 2 * l) ?_ ?_ (12 - 2 * l) 0 iv1 (by omega) ⟨a1, fun q hq => b1 q (by omega)⟩
    · rintro iv2 ⟨a2, b2⟩
      refine mk_X11_checks_18 ?_
      rw [pk_sub (by omega), show 14 - (2 + 2 * l) = 12 - 2 * l by omega]
      refine ⟨fun _ => ?_, fun z => absurd (nI_le (Nat.le_refl _) (by omega)) z⟩
      refine lup (τ := IV) (W := fun k iv3 => wp X (0, 0) 160 75 [some (.ref 74), some (.int (nI blk)), some (.int (nI (2 + 2 * l))), some (.int (nI k)), none, none] [] iv3 (Rv P)) (I := fun k iv3 => (∀ a, a ≠ 85 → iv3 a = iv2 a) ∧ (∀ q, ¬ (14 * blk + (12 - 2 * l) ≤ q ∧ q < 14 * blk + (12 - 2 * l) + k) → iv3 85 q = iv2 85 q) ∧ ∀ q, q < k → iv3 85 (14 * blk + (12 - 2 * l) + q) = nI (Rg (2 + 2 * l) v (12 - 2 * l) q).1) (2 + 2 * l) ?_ ?_ (2 + 2 * l) 0 iv2 (by omega) ⟨fun _ _ => rfl, fun _ _ => rfl, fun q hq => absurd hq (by omega)⟩
      · rintro iv3 ⟨a3, c3, b3⟩
        refine mk_X11_checks_75 ⟨fun _ => ?_, fun z => absurd (nI_le (Nat.le_refl _) (by omega)) z⟩
        refine h iv3 (fun a q1 q2 => by rw [a3 a q1, a2 a q2]) (fun q hq => by rw [c3 q (by omega), a2 85 (by decide)]) (fun p hp => ?_)
        unfold cwd
        by_cases e : p < 12 - 2 * l
        · rw [if_pos e, c3 _ (by omega), a2 85 (by decide)]
          exact hv p e
        · rw [if_neg e, show 14 * blk + p = 14 * blk + (12 - 2 * l) + (p - (12 - 2 * l)) by omega]
          exact b3 _ (by omega)
      · rintro k iv3 hk ⟨a3, c3, b3⟩ nx
        refine mk_X11_checks_75 ⟨fun z => absurd z (nI_ge hk (by omega)), fun _ => ⟨vp_in_nI (by omega) (by decide), ?_⟩⟩
        rw [pk_mul, nI_add, pk_sub (by omega), nI_add, nI_add, nI_clamp (by omega), nI_clamp (by omega), a3 89 (by decide), b2 k hk]
        refine ⟨vp_in_nI (by omega) (by decide), fun iv4 h4 => ?_⟩
        rw [up_row, show 14 * blk + 14 - (2 + 2 * l) + k = 14 * blk + (12 - 2 * l) + k by omega] at h4
        refine nx iv4 ⟨fun a ha => by rw [h4, row_ne ha, a3 a ha], fun q hq => ?_, fun q hq => ?_⟩
        · rw [h4, row_at, if_neg (by omega)]
          exact c3 q (by omega)
        · rw [h4, row_at]
          by_cases e : q = k
          · rw [if_pos (by omega), e]
          · rw [if_neg (by omega)]; exact b3 q (by omega)
    · rintro p iv2 hp ⟨a2, b2⟩ nx
      refine mk_X11_checks_18 ?_
      rw [pk_sub (by omega), show 14 - (2 + 2 * l) = 12 - 2 * l by omega]
      refine ⟨fun z => absurd z (nI_ge hp (by omega)), fun _ => ?_⟩
      rw [pk_mul, nI_add, nI_clamp (by omega), nI_clamp (by omega), a2 85 (by decide), hv p hp, b2 0 (by omega), nI_ga]
      refine ⟨vp_in_nI (by omega) (by decide), vp_in_nI (by decide) (by decide), fun v1 h1 => ?_⟩
      subst h1
      have hR : ∀ k, Rg (2 + 2 * l) v (p + 1) k = ga (if k + 1 < 2 + 2 * l then Rg (2 + 2 * l) v p (k + 1) else 0) (gm (ga (v p) (Rg (2 + 2 * l) v p 0)) (Bs (2 + 2 * l) (k + 1))) := fun k => rfl
      refine lup (τ := IV) (W := fun k iv3 => wp X (0, 0) 160 39 [some (.ref 74), some (.int (nI blk)), some (.int (nI (2 + 2 * l))), some (.int (nI p)), some (.int (nI (ga (v p) (Rg (2 + 2 * l) v p 0)).1)), some (.int (nI k))] [] iv3 (Rv P)) (I := fun k iv3 => (∀ a, a ≠ 89 → iv3 a = iv a) ∧ ∀ q, q < 2 + 2 * l → iv3 89 q = nI (Rg (2 + 2 * l) v (if q < k then p + 1 else p) q).1) (2 + 2 * l) ?_ ?_ (2 + 2 * l) 0 iv2 (by omega) ⟨a2, fun q hq => by rw [if_neg (by omega)]; exact b2 q hq⟩
      · rintro iv3 ⟨a3, b3⟩
        refine mk_X11_checks_39 ⟨fun _ => ?_, fun z => absurd (nI_le (Nat.le_refl _) (by omega)) z⟩
        rw [nI_add]
        refine nx iv3 ⟨a3, fun q hq => ?_⟩
        have := b3 q hq
        rw [if_pos hq] at this
        exact this
      · rintro k iv3 hk ⟨a3, b3⟩ nx3
        have hM3 : MF iv3 := MF_of hM (a3 79 (by decide)) (a3 80 (by decide)) (a3 81 (by decide))
        have last : ∀ s0 : G, s0 = (if k + 1 < 2 + 2 * l then Rg (2 + 2 * l) v p (k + 1) else 0) → wp X (0, 0) 160 58 [some (.ref 74), some (.int (nI blk)), some (.int (nI (2 + 2 * l))), some (.int (nI p)), some (.int (nI (ga (v p) (Rg (2 + 2 * l) v p 0)).1)), some (.int (nI k))] [.int (nI s0.1), .int (nI k), .ref 89] iv3 (Rv P) := by
          intro s0 hs0
          refine mk_X11_checks_58 ?_
          rw [nI_add, nI_clamp (by omega), a3 90 (by decide), h90 _ (by omega)]
          refine ⟨vp_in_nI (by omega) (by decide), sp_product hM3 _ _ ⟨vp_in_nI (by omega) (by decide), fun iv4 h4 => ?_⟩⟩
          rw [nI_clamp (by omega), nI_ga, hs0, ← hR, up_row] at h4
          refine nx3 iv4 ⟨fun a ha => by rw [h4, row_ne ha, a3 a ha], fun q hq => ?_⟩
          rw [h4, row_at]
          by_cases e : q = k
          · rw [if_pos e, e, if_pos (by omega)]
          · rw [if_neg e, b3 q hq]
            by_cases e2 : q < k
            · rw [if_pos e2, if_pos (by omega)]
            · rw [if_neg e2, if_neg (by omega)]
        refine mk_X11_checks_39 ⟨fun z => absurd z (nI_ge hk (by omega)), fun _ => ?_⟩
        rw [nI_add, nI_leI (by omega) (by omega)]
        refine ⟨fun z => ?_, fun z => ⟨vp_in_nI (by omega) (by decide), ?_⟩⟩
        · exact last 0 (by rw [if_neg (by omega)])
        · rw [nI_clamp (by omega), b3 (k + 1) (by omega), if_neg (by omega)]
          exact last _ (by rw [if_pos (by omega)])
  · rintro k iv1 hk ⟨a1, b1⟩ nx
    refine mk_X11_checks_6 ⟨fun z => absurd z (nI_ge hk (by decide)), fun _ => ⟨vp_in_nI hk (by decide), fun iv2 h2 => ?_⟩⟩
    rw [nI_clamp (by omega), up_row] at h2
    rw [nI_add]
    refine nx iv2 ⟨fun a ha => by rw [h2, row_ne ha, a1 a ha], fun q hq => ?_⟩
    rw [h2, row_at]
    by_cases e : q = k
    · rw [if_pos e]
    · rw [if_neg e]; exact b1 q (by omega)
end MAKES
