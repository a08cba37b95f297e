/-! THE MODEL'S MARK, WHOLE -/
def MK (iv : IV) (T : TX) : Prop := FT iv ∧ iv 74 12 = nI (lv T) ∧ iv 74 11 = nI (th T).toNat ∧ (th T = false → iv 74 13 = nI 4294967295) ∧ (th T = true → iv 74 13 = nI (mkT T) ∧ (∀ blk, blk < 3 → ∀ p, p < 14 → iv 85 (14 * blk + p) = nI (sS T blk p).1) ∧ ∀ i, i < 225 → frN i ≠ 4294967295 → iv 86 i = nI (sbit (sS T) (frN i)).toNat)
def FRk (iv iv' : IV) : Prop := (∀ a, a ≠ 74 → ¬ (79 ≤ a ∧ a ≤ 81) → ¬ (85 ≤ a ∧ a ≤ 90) → iv' a = iv a) ∧ ∀ j, j ≠ 11 → j ≠ 12 → j ≠ 13 → iv' 74 j = iv 74 j
section MAKES2
variable {X : Nat × (Nat → Int32)} {iv : IV}
theorem DT_of {T : TX} {w : Nat} (hw : w < 5) (hF : FT iv) (h12 : iv 74 12 = nI (lv T)) (h86 : ∀ i, i < 225 → frN i ≠ 4294967295 → iv 86 i = nI (sbit (sS T) (frN i)).toNat) : DTm X iv w (Dt T w) := by
  intro i hi P p
  refine sp_dotAt hw hi (lv_3 T) (hF.2.1 i hi) h12 ?_
  unfold Dt at p
  by_cases h : frN i = 4294967295
  · rw [if_pos h] at p ⊢; exact p
  · rw [if_neg h] at p ⊢; rw [h86 i hi h, bI_x]; exact p
theorem sS_cwd (T : TX) (blk p : Nat) (hp : p < 14) : sS T blk p = cwd (lv T) (itG T blk) p := (cwd_mr (lv_3 T) _).1 p hp
set_option maxHeartbeats 1000000 in
theorem sp_makes {P : IV → Prop} {T : TX} (hT : MTx iv T) (h : ∀ iv', FRk iv iv' → MK iv' T → P iv') : wc X 166 [.ref 74] iv (Rv P) := by
  have hl := lv_3 T
  have hn := hT.1.1
  refine mk_X11_makes (sp_frees (fun iv1 g1 f1 => sp_levelNow (MTx_of hT (g1 82 (by decide) (by decide) (by decide)) (g1 83 (by decide) (by decide) (by decide)) (g1 84 (by decide) (by decide) (by decide))) (fun iv2 h2 iv3 h3 => ⟨vp_in_nI (by decide) (by decide), ?_⟩)))
  rw [up_row] at h2 h3
  have a3 : ∀ a, a ≠ 74 → ¬ (79 ≤ a ∧ a ≤ 81) → a ≠ 87 → a ≠ 88 → iv3 a = iv a := fun a q1 q2 q3 q4 => by rw [h3, row_ne q1, h2, row_ne q1, g1 a q2 q3 q4]
  have b3 : ∀ j, j ≠ 12 → j ≠ 13 → iv3 74 j = iv 74 j := fun j q1 q2 => by rw [h3, row_at, if_neg q2, h2, row_at, if_neg q1, g1 74 (by decide) (by decide) (by decide)]
  have c3 : iv3 74 12 = nI (lv T) := by rw [h3, row_at, if_neg (by decide), h2, row_at, if_pos rfl]
  have d3 : iv3 74 13 = nI 4294967295 := by rw [h3, row_at, if_pos rfl]
  have F3 : FT iv3 := FT_of f1 (by rw [h3, row_ne (by decide), h2, row_ne (by decide)]) (by rw [h3, row_ne (by decide), h2, row_ne (by decide)]) (by rw [h3, row_ne (by decide), h2, row_ne (by decide)]) (by rw [h3, row_ne (by decide), h2, row_ne (by decide)]) (by rw [h3, row_ne (by decide), h2, row_ne (by decide)])
  clear h2 h3
  rw [c3]
  refine mk_X11_roomOf (mk_X11_checksOf ?_)
  rw [nI_clamp (by decide), a3 84 (by decide) (by decide) (by decide) (by decide), hT.2.1]
  simp only [pk_mul, nI_add]
  rw [pk_sub (by omega), pk_mul, nI_ltI (by omega) (by omega), show 14 - (2 + 2 * lv T) = 12 - 2 * lv T by omega]
  have hth : th T = true ↔ ¬ 3 * (12 - 2 * lv T) < 1 + 2 * T.1 := by
    unfold th wrg
    constructor
    · intro q
      have : ¬ (T.1 = 15 ∨ 3 * (12 - 2 * lv T) < 1 + 2 * T.1) := by simpa using q
      exact fun z => this (Or.inr z)
    · intro q
      have : ¬ (T.1 = 15 ∨ 3 * (12 - 2 * lv T) < 1 + 2 * T.1) := fun z => by rcases z with z | z; omega; exact q z
      simpa using this
  refine ⟨fun z iv4 h4 => ?_, fun z iv4 h4 => ?_⟩
  · have ht : th T = false := by
      cases q : th T with
      | false => rfl
      | true => exact absurd z (hth.mp q)
    rw [up_row] at h4
    have e11 : iv4 74 11 = nI 0 := by rw [h4, row_at, if_pos rfl]
    rw [e11]
    refine ⟨fun _ => h iv4 ⟨fun a q1 q2 q3 => by rw [h4, row_ne q1]; exact a3 a q1 q2 (by omega) (by omega), fun j q1 q2 q3 => by rw [h4, row_at, if_neg q1]; exact b3 j q2 q3⟩ ⟨FT_of F3 (by rw [h4, row_ne (by decide)]) (by rw [h4, row_ne (by decide)]) (by rw [h4, row_ne (by decide)]) (by rw [h4, row_ne (by decide)]) (by rw [h4, row_ne (by decide)]), by rw [h4, row_at, if_neg (by decide)]; exact c3, by rw [e11, ht]; rfl, fun _ => by rw [h4, row_at, if_neg (by decide)]; exact d3, fun q => by rw [ht] at q; cases q⟩, fun z1 => absurd rfl z1⟩
  · have ht : th T = true := hth.mpr z
    rw [up_row] at h4
    have a4 : ∀ a, a ≠ 74 → iv4 a = iv3 a := fun a q => by rw [h4, row_ne q]
    have b4 : ∀ j, j ≠ 11 → iv4 74 j = iv3 74 j := fun j q => by rw [h4, row_at, if_neg q]
    have e11 : iv4 74 11 = nI 1 := by rw [h4, row_at, if_pos rfl]
    clear h4
    rw [e11]
    refine ⟨fun z1 => absurd z1 (by decide), fun _ => ?_⟩
    rw [b4 12 (by decide), c3]
    refine mk_X11_checksOf ?_
    rw [pk_mul, nI_add]
    have F4 : FT iv4 := FT_of F3 (a4 79 (by decide)) (a4 80 (by decide)) (a4 81 (by decide)) (a4 87 (by decide)) (a4 88 (by decide))
    refine sp_bases F4.1 (by omega) (fun iv5 a5 b5 => ?_)
    -- the items
    refine lup (τ := IV) (W := fun i iv6 => wp X (0, 0) 166 37 [some (.ref 74), some (.int (nI i)), none, none] [] iv6 (Rv P)) (I := fun i iv6 => (∀ a, a ≠ 85 → iv6 a = iv5 a) ∧ ∀ i', i' < i → iv6 85 (14 * (i' % 3) + i' / 3) = nI (itm T i')) (3 * (12 - 2 * lv T)) ?_ ?_ (3 * (12 - 2 * lv T)) 0 iv5 (by omega) ⟨fun _ _ => rfl, fun i' hi' => absurd hi' (by omega)⟩
    · rintro iv6 ⟨a6, b6⟩
      have c6 : iv6 74 12 = nI (lv T) := by rw [a6 74 (by decide), a5 74 (by decide), b4 12 (by decide), c3]
      refine mk_X11_makes_37 ?_
      rw [c6]
      refine mk_X11_roomOf (mk_X11_checksOf ?_)
      rw [pk_mul, nI_add, pk_sub (by omega), pk_mul, show 14 - (2 + 2 * lv T) = 12 - 2 * lv T by omega]
      refine ⟨fun _ => ?_, fun z => absurd (nI_le (Nat.le_refl _) (by omega)) z⟩
      have F6 : FT iv6 := FT_of F4 (by rw [a6 79 (by decide), a5 79 (by decide)]) (by rw [a6 80 (by decide), a5 80 (by decide)]) (by rw [a6 81 (by decide), a5 81 (by decide)]) (by rw [a6 87 (by decide), a5 87 (by decide)]) (by rw [a6 88 (by decide), a5 88 (by decide)])
      have i6 : ∀ blk, blk < 3 → ∀ p, p < 12 - 2 * lv T → iv6 85 (14 * blk + p) = nI (itG T blk p).1 := by
        intro blk hb p hp
        have := b6 (3 * p + blk) (by omega)
        rw [show (3 * p + blk) % 3 = blk by omega, show (3 * p + blk) / 3 = p by omega] at this
        rw [this, itG_val hT.1]
      -- the checks
      refine lup (τ := IV) (W := fun k iv7 => wp X (0, 0) 166 61 [some (.ref 74), some (.int (nI k)), none, none] [] iv7 (Rv P)) (I := fun k iv7 => (∀ a, a ≠ 85 → a ≠ 89 → iv7 a = iv6 a) ∧ (∀ blk, k ≤ blk → ∀ p, p < 14 → iv7 85 (14 * blk + p) = iv6 85 (14 * blk + p)) ∧ ∀ blk, blk < k → ∀ p, p < 14 → iv7 85 (14 * blk + p) = nI (sS T blk p).1) 3 ?_ ?_ 3 0 iv6 rfl ⟨fun _ _ _ => rfl, fun _ _ _ _ => rfl, fun b hb => absurd hb (by omega)⟩
      · rintro iv7 ⟨a7, -, b7⟩
        refine mk_X11_makes_61 ⟨fun _ => ?_, fun z => absurd (nI_le (Nat.le_refl 3) (by decide)) z⟩
        have F7 : FT iv7 := FT_of F6 (a7 79 (by decide) (by decide)) (a7 80 (by decide) (by decide)) (a7 81 (by decide) (by decide)) (a7 87 (by decide) (by decide)) (a7 88 (by decide) (by decide))
        -- the dots
        refine lup (τ := IV) (W := fun k iv8 => wp X (0, 0) 166 71 [some (.ref 74), some (.int (nI k)), none, none] [] iv8 (Rv P)) (I := fun k iv8 => (∀ a, a ≠ 86 → iv8 a = iv7 a) ∧ ∀ q, q < k → iv8 86 (dO q) = nI (sbit (sS T) q).toNat) 171 ?_ ?_ 171 0 iv7 rfl ⟨fun _ _ => rfl, fun q hq => absurd hq (by omega)⟩
        · rintro iv8 ⟨a8, b8⟩
          refine mk_X11_makes_71 ⟨fun _ => ?_, fun z => absurd (nI_le (Nat.le_refl 171) (by decide)) z⟩
          have F8 : FT iv8 := FT_of F7 (a8 79 (by decide)) (a8 80 (by decide)) (a8 81 (by decide)) (a8 87 (by decide)) (a8 88 (by decide))
          have c8 : iv8 74 12 = nI (lv T) := by rw [a8 74 (by decide), a7 74 (by decide) (by decide), c6]
          have d8 : iv8 74 13 = nI 4294967295 := by rw [a8 74 (by decide), a7 74 (by decide) (by decide), a6 74 (by decide), a5 74 (by decide), b4 13 (by decide), d3]
          have p8 : ∀ i, i < 225 → frN i ≠ 4294967295 → iv8 86 i = nI (sbit (sS T) (frN i)).toNat := by
            intro i hi hf
            have hq := (frN_ok i hi).resolve_left hf
            have := b8 (frN i) hq.1
            rw [hq.2] at this
            exact this
          -- the masks
          refine lup (τ := IV) (W := fun k iv9 => wp X (0, 0) 166 116 [some (.ref 74), some (.int (nI (if k = 0 then 999999 else pnT T (am (pnT T) k)))), some (.int (nI k)), none] [] iv9 (Rv P)) (I := fun k iv9 => (∀ a, a ≠ 74 → iv9 a = iv8 a) ∧ (∀ j, j ≠ 13 → iv9 74 j = iv8 74 j) ∧ iv9 74 13 = (if k = 0 then nI 4294967295 else nI (am (pnT T) k))) 4 ?_ ?_ 4 0 iv8 rfl ⟨fun _ _ => rfl, fun _ _ => rfl, d8⟩
          · rintro iv9 ⟨a9, b9, c9⟩
            refine mk_X11_makes_116 ⟨fun _ => ?_, fun z => absurd (nI_le (Nat.le_refl 4) (by decide)) z⟩
            refine h iv9 ⟨fun a q1 q2 q3 => ?_, fun j q1 q2 q3 => ?_⟩ ⟨FT_of F8 (a9 79 (by decide)) (a9 80 (by decide)) (a9 81 (by decide)) (a9 87 (by decide)) (a9 88 (by decide)), by rw [b9 12 (by decide), c8], ?_, fun q => (by rw [ht] at q; cases q), fun _ => ⟨?_, fun blk hb p hp => ?_, fun i hi hf => ?_⟩⟩
            · rw [a9 a q1, a8 a (by omega), a7 a (by omega) (by omega), a6 a (by omega), a5 a (by omega), a4 a q1, a3 a q1 q2 (by omega) (by omega)]
            · rw [b9 j q3, a8 74 (by decide), a7 74 (by decide) (by decide), a6 74 (by decide), a5 74 (by decide), b4 j q1, b3 j q2 q3]
            · rw [b9 11 (by decide), a8 74 (by decide), a7 74 (by decide) (by decide), a6 74 (by decide), a5 74 (by decide), e11, ht]; rfl
            · exact c9
            · rw [a9 85 (by decide), a8 85 (by decide)]; exact b7 blk hb p hp
            · rw [a9 86 (by decide)]; exact p8 i hi hf
          · rintro k iv9 hk ⟨a9, b9, c9⟩ nx
            have D9 : DTm X iv9 k (Dt T k) := DT_of (by omega) (FT_of F8 (a9 79 (by decide)) (a9 80 (by decide)) (a9 81 (by decide)) (a9 87 (by decide)) (a9 88 (by decide))) (by rw [b9 12 (by decide), c8]) (by rw [a9 86 (by decide)]; exact p8)
            refine mk_X11_makes_116 ⟨fun z => absurd z (nI_ge hk (by decide)), fun _ => ?_⟩
            rw [← wI_lt hk]
            have bp : pnT T k < 2000 := pn_lt _
            have bq : pnT T (am (pnT T) k) < 2000 := pn_lt _
            have bx : (if k = 0 then 999999 else pnT T (am (pnT T) k)) < 2 ^ 31 := by split <;> omega
            refine sp_penaltyOfM D9 ?_
            show (nI _ ≤ nI (pnT T k) → _) ∧ (¬ nI _ ≤ nI (pnT T k) → _)
            rw [nI_leI bx (by omega)]
            have ham : am (pnT T) (k + 1) = if pnT T k < pnT T (am (pnT T) k) then k else am (pnT T) k := rfl
            have hmin : min (pnT T k) (if k = 0 then 999999 else pnT T (am (pnT T) k)) = pnT T (am (pnT T) (k + 1)) := by
              rw [ham]
              by_cases e : k = 0
              · subst e
                rw [if_pos rfl]
                have e0 : am (pnT T) 0 = 0 := rfl
                rw [e0, if_neg (Nat.lt_irrefl _)]
                omega
              · rw [if_neg e]
                split <;> omega
            have fin : ∀ iv10 : IV, iv10 = mm_up2 iv9 74 13 (nI (am (pnT T) (k + 1))) → wc X 124 [.int (nI (pnT T k)), .int (nI (if k = 0 then 999999 else pnT T (am (pnT T) k)))] iv10 (Ri (fun r5 iv4 => wp X (0, 0) 166 116 [some (.ref 74), some (.int r5), some (.int (wI k + nI 1)), none] [] iv4 (Rv P))) := by
              intro iv10 h10
              rw [up_row] at h10
              refine sp_lesser (by omega) bx ?_
              rw [hmin, wI_lt hk, nI_add]
              have := nx iv10 ⟨fun a ha => by rw [h10, row_ne ha, a9 a ha], fun j hj => by rw [h10, row_at, if_neg hj, b9 j hj], by rw [h10, row_at, if_pos rfl, if_neg (by omega)]⟩
              rw [if_neg (by omega)] at this
              exact this
            refine ⟨fun z iv10 h10 => fin iv10 ?_, fun z iv10 h10 => fin iv10 ?_⟩
            · by_cases e : k = 0
              · rw [if_pos e] at z; omega
              · rw [if_neg e] at z c9
                rw [h10, c9, ham, if_neg (by omega)]
            · by_cases e : k = 0
              · subst e
                rw [h10, ham, show am (pnT T) 0 = 0 from rfl, if_neg (Nat.lt_irrefl _), wI_lt hk]
              · rw [if_neg e] at z
                rw [h10, ham, if_pos (by omega), wI_lt hk]
        · rintro k iv8 hk ⟨a8, b8⟩ nx
          have hd := dO_ok k hk
          have F8 := F7.2.2 k hk
          refine mk_X11_makes_71 ⟨fun z => absurd z (nI_ge hk (by decide)), fun _ => ⟨vp_in_nI hk (by decide), ?_⟩⟩
          rw [nI_clamp (n := k) (by omega), a8 88 (by decide), F8, nI_clamp (n := dO k) (by omega), nI_leI (by decide) (by omega), nI_add]
          have fin : ∀ iv9 : IV, iv9 = mm_up2 iv8 86 (dO k) (nI (sbit (sS T) k).toNat) → wp X (0, 0) 166 71 [some (.ref 74), some (.int (nI (k + 1))), none, none] [] iv9 (Rv P) := by
            intro iv9 h9
            rw [up_row] at h9
            refine nx iv9 ⟨fun a ha => by rw [h9, row_ne ha, a8 a ha], fun q hq => ?_⟩
            rw [h9, row_at]
            by_cases e : dO q = dO k
            · have hdq := dO_ok q (by omega)
              have : q = k := by rw [← hdq.2.1, e, hd.2.1]
              rw [if_pos e, this]
            · rw [if_neg e]
              exact b8 q (by
                have : q ≠ k := fun z => e (by rw [z])
                omega)
          refine ⟨fun z => ⟨vp_in_nI hd.1 (by decide), fun iv9 h9 => fin iv9 ?_⟩, fun z => ?_⟩
          · rw [h9]; unfold sbit; rw [decide_eq_false (by omega)]; rfl
          · rw [pk_rem (a := k) (by omega) (by decide) (by decide), pk_div (a := k) (by omega) (by decide) (by decide), pk_rem (by omega) (by decide) (by decide), pk_div (by omega) (by decide) (by decide), pk_mul, nI_add, nI_clamp (by omega), pk_sub (by omega), a8 85 (by decide), b7 (k / 4 % 3) (by omega) (k / 4 / 3) (by omega), bit_nI (by omega) (by omega)]
            refine ⟨vp_in_nI (by omega) (by decide), vp_in_nI hd.1 (by decide), fun iv9 h9 => fin iv9 ?_⟩
            rw [h9]; unfold sbit; rw [decide_eq_true (by omega), Bool.true_and]
      · rintro k iv7 hk ⟨a7, c7, b7⟩ nx
        refine mk_X11_makes_61 ⟨fun z => absurd z (nI_ge hk (by decide)), fun _ => ?_⟩
        refine sp_checks (l := lv T) (v := itG T k) (MF_of F6.1 (a7 79 (by decide) (by decide)) (a7 80 (by decide) (by decide)) (a7 81 (by decide) (by decide))) hl hk (by rw [a7 74 (by decide) (by decide)]; exact c6) (fun q hq => by rw [a7 90 (by decide) (by decide), a6 90 (by decide)]; exact b5 q hq) (fun p hp => by rw [c7 k (Nat.le_refl _) p (by omega)]; exact i6 k hk p hp) (fun iv8 a8 c8 b8 => ?_)
        rw [nI_add]
        refine nx iv8 ⟨fun a q1 q2 => by rw [a8 a q1 q2, a7 a q1 q2], fun blk hb p hp => by rw [c8 _ (by omega), c7 blk (by omega) p hp], fun blk hb p hp => ?_⟩
        by_cases e : blk = k
        · rw [e, b8 p hp, sS_cwd T k p hp]
        · rw [c8 _ (by omega)]; exact b7 blk (by omega) p hp
    · rintro i iv6 hi ⟨a6, b6⟩ nx
      have c6 : iv6 74 12 = nI (lv T) := by rw [a6 74 (by decide), a5 74 (by decide), b4 12 (by decide), c3]
      refine mk_X11_makes_37 ?_
      rw [c6]
      refine mk_X11_roomOf (mk_X11_checksOf ?_)
      rw [pk_mul, nI_add, pk_sub (by omega), pk_mul, show 14 - (2 + 2 * lv T) = 12 - 2 * lv T by omega]
      refine ⟨fun z => absurd z (nI_ge hi (by omega)), fun _ => ?_⟩
      have hT6 : MTx iv6 T := MTx_of hT (by rw [a6 82 (by decide), a5 82 (by decide), a4 82 (by decide), a3 82 (by decide) (by decide) (by decide) (by decide)]) (by rw [a6 83 (by decide), a5 83 (by decide), a4 83 (by decide), a3 83 (by decide) (by decide) (by decide) (by decide)]) (by rw [a6 84 (by decide), a5 84 (by decide), a4 84 (by decide), a3 84 (by decide) (by decide) (by decide) (by decide)])
      refine sp_itemAt (by omega) hT6 ?_
      rw [pk_rem (by omega) (by decide) (by decide), pk_div (by omega) (by decide) (by decide), pk_mul, nI_add, nI_clamp (by omega), nI_add]
      refine ⟨vp_in_nI (by omega) (by decide), fun iv7 h7 => ?_⟩
      rw [up_row] at h7
      refine nx iv7 ⟨fun a ha => by rw [h7, row_ne ha, a6 a ha], fun i' hi' => ?_⟩
      rw [h7, row_at]
      by_cases e : i' = i
      · rw [if_pos (by rw [e]), e]
      · rw [if_neg (by omega)]; exact b6 i' (by omega)
end MAKES2
