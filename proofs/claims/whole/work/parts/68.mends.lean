/-! A BLOCK IS TAKEN AND MENDED, IN THE MODEL -/
def gv (e : Nat → Bool) (f blk p : Nat) : G := Fin.ofNat 16 (sv e f (3 * p + blk) 4)
def gg (lo : Nat → Bool) (blk p : Nat) : Bool := gk lo (3 * p + blk) 4
theorem gv_val (e : Nat → Bool) (f blk p : Nat) : (gv e f blk p).1 = sv e f (3 * p + blk) 4 := gG (sv_lt e f (3 * p + blk) 4)
/-- what is given, 0 where it is gone -/
def gz (e lo : Nat → Bool) (f blk p : Nat) : G := if gg lo blk p then 0 else gv e f blk p
theorem gz_fix {e lo : Nat → Bool} {f blk c d : Nat} {r : Nat → G} : Fix c (gz e lo f blk) (gg lo blk) r d ↔ Fix c (gv e f blk) (gg lo blk) r d := by
  constructor
  · intro h
    exact Fix_off h (fun p _ hg => by unfold gz; rw [hg]; rfl)
  · intro h
    exact Fix_off h (fun p _ hg => by unfold gz; rw [hg]; rfl)
theorem FRm_97 {iv iv1 iv2 : IV} {blk : Nat} (h : FRm iv iv1 blk) (h1 : ∀ a, a ≠ 97 → iv2 a = iv1 a) : FRm iv iv2 blk := FRm_of h (fun a ha => h1 a (by omega))
theorem FRm_99 {iv iv1 iv2 : IV} {blk : Nat} (h : FRm iv iv1 blk) (h1 : ∀ a, a ≠ 99 → iv2 a = iv1 a) : FRm iv iv2 blk := FRm_of h (fun a ha => h1 a (by omega))
def ps (v : Nat → G) (j n : Nat) : G := gs (fun q => gm (v q) (gp (xp q) j)) n
section MENDS2
variable {X : Nat × (Nat → Int32)} {iv : IV}
theorem sp_mends {P : IV → Prop} {e lo : Nat → Bool} {f l blk : Nat} (hS : SN iv e lo) (h88 : ∀ k, k < 171 → iv 88 k = nI (dO k)) (hM : MF iv) (h25 : iv 74 25 = nI l) (hl : l < 3) (h26 : iv 74 26 = nI f) (hf : f < 4) (hb : blk < 3) (hy : ∀ r d, Fix (2 + 2 * l) (gv e f blk) (gg lo blk) r d → ∀ iv', FRm iv iv' blk → iv' 95 blk = nI (ct (gg lo blk) 14) → iv' 96 blk = nI d → (∀ p, p < 14 → iv' 94 (14 * blk + p) = nI (r p).1) → P iv') (hno : (¬ ∃ r d, Fix (2 + 2 * l) (gv e f blk) (gg lo blk) r d) → ∀ iv', FRm iv iv' blk → iv' 95 blk = nI (ct (gg lo blk) 14) → iv' 96 blk = nI 4294967295 → P iv') : wc X 197 [.ref 74, .int (nI blk)] iv (Rv P) := by
  refine mk_X11_mends ?_
  rw [h25]
  refine mk_X11_checksOf ?_
  rw [pk_mul, nI_add]
  have fr0 : FRm iv iv blk := ⟨fun _ _ => rfl, fun _ _ => ⟨rfl, rfl⟩, fun _ _ => rfl⟩
  refine lup (τ := IV) (W := fun k iv1 => wp X (0, 0) 197 8 [some (.ref 74), some (.int (nI blk)), some (.int (nI (2 + 2 * l))), some (.int (nI 0)), some (.int (nI k)), none, none] [] iv1 (Rv P)) (I := fun k iv1 => FRm iv iv1 blk ∧ ∀ j, j < k → iv1 97 j = nI 0) 6 ?_ ?_ 6 0 iv rfl ⟨fr0, fun j hj => absurd hj (by omega)⟩
  · rintro iv1 ⟨f1, s1⟩
    refine mk_X11_mends_8 ⟨fun _ => ?_, fun z => absurd (nI_le (Nat.le_refl 6) (by decide)) z⟩
    refine lup (τ := IV) (W := fun p iv2 => wp X (0, 0) 197 20 [some (.ref 74), some (.int (nI blk)), some (.int (nI (2 + 2 * l))), some (.int (nI (ct (gg lo blk) p))), some (.int (nI p)), none, none] [] iv2 (Rv P)) (I := fun p iv2 => FRm iv iv2 blk ∧ PL iv2 (gl (gg lo blk) p) ∧ (∀ j, j < 2 + 2 * l → iv2 97 j = nI (ps (gz e lo f blk) j p).1) ∧ ∀ q, q < p → iv2 94 (14 * blk + q) = nI (gz e lo f blk q).1) 14 ?_ ?_ 14 0 iv1 rfl ⟨f1, fun k hk => absurd hk (by simp [gl]), fun j hj => s1 j (by omega), fun q hq => absurd hq (by omega)⟩
    · rintro iv2 ⟨f2, p2, s2, g2⟩
      refine mk_X11_mends_20 ⟨fun _ => ⟨vp_in_nI hb (by decide), fun iv3 h3 => ⟨vp_in_nI hb (by decide), fun iv4 h4 => ?_⟩⟩, fun z => absurd (nI_le (Nat.le_refl 14) (by decide)) z⟩
      rw [nI_clamp (by omega)] at h3 h4
      have f3 := FRm_95 f2 h3
      have f4 := FRm_96 f3 h4
      rw [up_row] at h3 h4
      have e4 : ∀ a, a ≠ 95 → a ≠ 96 → iv4 a = iv2 a := fun a h1 h2 => by rw [h4, row_ne h2, h3, row_ne h1]
      have e95 : iv4 95 blk = nI (ct (gg lo blk) 14) := by rw [h4, row_ne (by decide), h3, row_at, if_pos rfl]
      refine sp_mends_97 (v := gz e lo f blk) hb (by omega) hM f4 (by rw [h4, row_at, if_pos rfl]) (PL_of p2 (e4 99 (by decide) (by decide))) (fun j hj => by rw [e4 97 (by decide) (by decide)]; exact s2 j hj) (fun p hp => by rw [e4 94 (by decide) (by decide)]; exact g2 p hp) (fun r d hF iv' q1 q2 q3 q4 => hy r d (gz_fix.mp hF) iv' q1 (by rw [q2]; exact e95) q3 q4) (fun hn iv' q1 q2 q3 => hno (fun q => ?_) iv' q1 (by rw [q2]; exact e95) q3)
      obtain ⟨r, d, hF⟩ := q
      exact hn ⟨r, d, gz_fix.mpr hF⟩
    · rintro p iv2 hp ⟨f2, p2, s2, g2⟩ nx
      have hS2 : SN iv2 e lo := SN_of hS (by rw [f2.1 74 (by decide)]) (by rw [f2.1 74 (by decide)]) (f2.1 86 (by decide)) (f2.1 87 (by decide)) (f2.1 91 (by decide)) (f2.1 92 (by decide))
      have hM2 : MF iv2 := MF_of hM (f2.1 79 (by decide)) (f2.1 80 (by decide)) (f2.1 81 (by decide))
      have hct := ct_bound (gg lo blk) p
      have hll := gl_len (gg lo blk) p
      refine mk_X11_mends_20 ⟨fun z => absurd z (nI_ge hp (by decide)), fun _ => ?_⟩
      rw [pk_mul, nI_add, pk_mul, nI_add]
      refine sp_symbolSeen (f := f) hS2 (fun k hk => by rw [f2.1 88 (by decide)]; exact h88 k hk) (by rw [f2.1 74 (by decide)]; exact h26) hf (by omega) ?_
      -- the inner loop
      have inner : ∀ (r4 : Int32) (iv5 : IV), FRm iv iv5 blk → PL iv5 (gl (gg lo blk) (p + 1)) → iv5 97 = iv2 97 → (∀ q, q < p + 1 → iv5 94 (14 * blk + q) = nI (gz e lo f blk q).1) → (r4 = nI 4294967295 ∧ gg lo blk p = true ∨ r4 = nI (gz e lo f blk p).1 ∧ gg lo blk p = false) → wp X (0, 0) 197 56 [some (.ref 74), some (.int (nI blk)), some (.int (nI (2 + 2 * l))), some (.int (nI (ct (gg lo blk) (p + 1)))), some (.int (nI p)), some (.int r4), some (.int (nI 0))] [] iv5 (Rv P) := by
        intro r4 iv5 f5 p5 s5 g5 h4
        refine lup (τ := IV) (W := fun j iv6 => wp X (0, 0) 197 56 [some (.ref 74), some (.int (nI blk)), some (.int (nI (2 + 2 * l))), some (.int (nI (ct (gg lo blk) (p + 1)))), some (.int (nI p)), some (.int r4), some (.int (nI j))] [] iv6 (Rv P)) (I := fun j iv6 => (∀ a, a ≠ 97 → iv6 a = iv5 a) ∧ ∀ i, i < 2 + 2 * l → iv6 97 i = nI (ps (gz e lo f blk) i (if i < j then p + 1 else p)).1) (2 + 2 * l) ?_ ?_ (2 + 2 * l) 0 iv5 (by omega) ⟨fun _ _ => rfl, fun i hi => by rw [if_neg (by omega), s5]; exact s2 i hi⟩
        · rintro iv6 ⟨a6, b6⟩
          refine mk_X11_mends_56 ⟨fun _ => ?_, fun z => absurd (nI_le (Nat.le_refl _) (by omega)) z⟩
          rw [nI_add]
          refine nx iv6 ⟨FRm_97 f5 a6, PL_of p5 (a6 99 (by decide)), fun j hj => ?_, fun q hq => by rw [a6 94 (by decide)]; exact g5 q hq⟩
          have := b6 j hj
          rw [if_pos hj] at this
          exact this
        · rintro j iv6 hj ⟨a6, b6⟩ nx6
          refine mk_X11_mends_56 ⟨fun z => absurd z (nI_ge (by omega) (by omega)), fun _ => ⟨vp_in_nI (by omega) (by decide), ?_⟩⟩
          rw [nI_clamp (by omega)]
          have b6j := b6 j hj
          rw [if_neg (by omega)] at b6j
          have hps : ps (gz e lo f blk) j (p + 1) = ga (ps (gz e lo f blk) j p) (gm (gz e lo f blk p) (gp (xp p) j)) := rfl
          have fin : ∀ iv7 : IV, iv7 = mm_up2 iv6 97 j (nI (ps (gz e lo f blk) j (p + 1)).1) → wp X (0, 0) 197 56 [some (.ref 74), some (.int (nI blk)), some (.int (nI (2 + 2 * l))), some (.int (nI (ct (gg lo blk) (p + 1)))), some (.int (nI p)), some (.int r4), some (.int (nI (j + 1)))] [] iv7 (Rv P) := by
            intro iv7 h7
            rw [up_row] at h7
            refine nx6 iv7 ⟨fun a ha => by rw [h7, row_ne ha, a6 a ha], fun i hi => ?_⟩
            rw [h7, row_at]
            by_cases ei : i = j
            · rw [if_pos ei, ei, if_pos (by omega)]
            · rw [if_neg ei, b6 i hi]
              by_cases hij : i < j
              · rw [if_pos hij, if_pos (by omega)]
              · rw [if_neg hij, if_neg (by omega)]
          rcases h4 with ⟨h4, hg⟩ | ⟨h4, hg⟩
          · refine ⟨fun _ => ⟨vp_in_nI (by omega) (by decide), fun iv7 h7 => ?_⟩, fun z => absurd h4 z⟩
            rw [nI_add]
            refine fin iv7 ?_
            have hz : gz e lo f blk p = 0 := by unfold gz; rw [hg]; rfl
            rw [h7, b6j, hps, hz, gm_0l, ga_0]
            congr 1
            exact (nI_ga _ 0).trans (by rw [ga_0])
          · refine ⟨fun z => absurd z (by rw [h4]; exact m1_ne (by omega)), fun _ => ?_⟩
            rw [pk_sub (by omega), pk_mul]
            have hM6 : MF iv6 := MF_of hM (by rw [a6 79 (by decide), f5.1 79 (by decide)]) (by rw [a6 80 (by decide), f5.1 80 (by decide)]) (by rw [a6 81 (by decide), f5.1 81 (by decide)])
            refine sp_power hM6 (k := j * (13 - p)) (by
              have : j * (13 - p) ≤ 6 * 13 := Nat.mul_le_mul (by omega) (by omega)
              omega) ?_
            have h4' := h4
            subst h4
            refine sp_product hM6 (gz e lo f blk p) (gp 2 (j * (13 - p))) ⟨vp_in_nI (by omega) (by decide), fun iv7 h7 => ?_⟩
            rw [nI_add]
            refine fin iv7 ?_
            rw [h7, b6j, nI_ga, hps]
            unfold xp
            rw [gp_gp, Nat.mul_comm j]
      by_cases hg : gg lo blk p = true
      · have hg' : gk lo (3 * p + blk) 4 = true := hg
        rw [if_pos hg']
        refine ⟨fun _ => ⟨vp_in_nI (by omega) (by decide), fun iv5 h5 => ⟨fun _ => ⟨vp_in_nI (by omega) (by decide), fun iv6 h6 => ?_⟩, fun z => absurd rfl z⟩⟩, fun z => absurd rfl z⟩
        rw [nI_clamp (by omega)] at h5
        have f5 := FRm_94 f2 hp h5
        rw [up_row] at h5
        rw [← hll] at h6
        obtain ⟨pl6, -, k6⟩ := PL_snoc (PL_of p2 (by rw [h5, row_ne (by decide)])) hp (by omega) h6
        have ec : ct (gg lo blk) (p + 1) = ct (gg lo blk) p + 1 := by
          show ct (gg lo blk) p + _ = _
          rw [hg]; rfl
        have eg : gl (gg lo blk) (p + 1) = gl (gg lo blk) p ++ [p] := by rw [gl_succ, hg]; rfl
        rw [nI_add, ← ec]
        refine inner _ iv6 (FRm_99 f5 k6) (by rw [eg]; exact pl6) (by rw [k6 97 (by decide), h5, row_ne (by decide)]) (fun q hq => ?_) (Or.inl ⟨rfl, hg⟩)
        rw [k6 94 (by decide), h5, row_at]
        by_cases eq : q = p
        · rw [if_pos (by omega), eq]
          unfold gz
          rw [hg]; rfl
        · rw [if_neg (by omega)]
          exact g2 q (by omega)
      · have hg1 : gg lo blk p = false := by simpa using hg
        have hg' : ¬ gk lo (3 * p + blk) 4 = true := hg
        rw [if_neg hg']
        have svb : sv e f (3 * p + blk) 4 < 16 := sv_lt e f (3 * p + blk) 4
        have hz : (gz e lo f blk p).1 = sv e f (3 * p + blk) 4 := by
          unfold gz
          rw [hg1]
          exact gv_val e f blk p
        refine ⟨fun z => absurd z (m1_ne (by omega)), fun _ => ⟨vp_in_nI (by omega) (by decide), fun iv5 h5 => ⟨fun z => absurd z (m1_ne (by omega)), fun _ => ?_⟩⟩⟩
        rw [nI_clamp (by omega)] at h5
        have f5 := FRm_94 f2 hp h5
        rw [up_row] at h5
        have ec : ct (gg lo blk) (p + 1) = ct (gg lo blk) p := by
          show ct (gg lo blk) p + _ = _
          rw [hg1]; rfl
        have eg : gl (gg lo blk) (p + 1) = gl (gg lo blk) p := by rw [gl_succ, hg1]; simp
        rw [← ec]
        refine inner _ iv5 f5 (by rw [eg]; exact PL_of p2 (by rw [h5, row_ne (by decide)])) (by rw [h5, row_ne (by decide)]) (fun q hq => ?_) (Or.inr ⟨by rw [hz], hg1⟩)
        rw [h5, row_at]
        by_cases eq : q = p
        · rw [if_pos (by omega), eq, hz]
        · rw [if_neg (by omega)]
          exact g2 q (by omega)
  · rintro k iv1 hk ⟨f1, s1⟩ nx
    refine mk_X11_mends_8 ⟨fun z => absurd z (nI_ge hk (by decide)), fun _ => ⟨vp_in_nI hk (by decide), fun iv2 h2 => ?_⟩⟩
    rw [nI_clamp (by omega), up_row] at h2
    rw [nI_add]
    refine nx iv2 ⟨FRm_97 f1 (fun a ha => by rw [h2, row_ne ha]), fun j hj => ?_⟩
    rw [h2, row_at]
    by_cases e : j = k
    · rw [if_pos e]
    · rw [if_neg e]; exact s1 j (by omega)
end MENDS2
