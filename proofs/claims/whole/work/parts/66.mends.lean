/-! A BLOCK IS MENDED, IN THE MODEL -/
theorem m1_ne {w : Nat} (h : w < 2 ^ 31) : nI w ≠ nI 4294967295 := fun q => by
  have h1 := nI_pos h
  rw [q] at h1
  exact h1 (by decide)
/-- the cells of a reading that a block's mending leaves -/
def FRm (iv iv' : IV) (blk : Nat) : Prop := (∀ a, a < 94 → iv' a = iv a) ∧ (∀ k, k ≠ blk → iv' 95 k = iv 95 k ∧ iv' 96 k = iv 96 k) ∧ (∀ k, ¬ (14 * blk ≤ k ∧ k < 14 * blk + 14) → iv' 94 k = iv 94 k)
theorem FRm_of {iv iv1 iv2 : IV} {blk : Nat} (h : FRm iv iv1 blk) (h1 : ∀ a, a < 97 → iv2 a = iv1 a) : FRm iv iv2 blk :=
  ⟨fun a ha => by rw [h1 a (by omega), h.1 a ha], fun k hk => by rw [h1 95 (by decide), h1 96 (by decide)]; exact h.2.1 k hk, fun k hk => by rw [h1 94 (by decide)]; exact h.2.2 k hk⟩
theorem FRm_94 {iv iv1 iv2 : IV} {blk p : Nat} {x : Int32} (h : FRm iv iv1 blk) (hp : p < 14) (h2 : iv2 = mm_up2 iv1 94 (14 * blk + p) x) : FRm iv iv2 blk := by
  rw [up_row] at h2
  refine ⟨fun a ha => by rw [h2, row_ne (by omega), h.1 a ha], fun k hk => by rw [h2, row_ne (by decide), row_ne (by decide)]; exact h.2.1 k hk, fun k hk => ?_⟩
  rw [h2, row_at, if_neg (by omega)]
  exact h.2.2 k hk
theorem FRm_95 {iv iv1 iv2 : IV} {blk : Nat} {x : Int32} (h : FRm iv iv1 blk) (h2 : iv2 = mm_up2 iv1 95 blk x) : FRm iv iv2 blk := by
  rw [up_row] at h2
  refine ⟨fun a ha => by rw [h2, row_ne (by omega), h.1 a ha], fun k hk => ?_, fun k hk => by rw [h2, row_ne (by decide)]; exact h.2.2 k hk⟩
  rw [h2, row_at, if_neg hk, row_ne (by decide)]
  exact h.2.1 k hk
theorem FRm_96 {iv iv1 iv2 : IV} {blk : Nat} {x : Int32} (h : FRm iv iv1 blk) (h2 : iv2 = mm_up2 iv1 96 blk x) : FRm iv iv2 blk := by
  rw [up_row] at h2
  refine ⟨fun a ha => by rw [h2, row_ne (by omega), h.1 a ha], fun k hk => ?_, fun k hk => by rw [h2, row_ne (by decide)]; exact h.2.2 k hk⟩
  rw [h2, row_at, if_neg hk, row_ne (by decide)]
  exact h.2.1 k hk
section MENDS
variable {X : Nat × (Nat → Int32)} {iv : IV}
/-- the loop that takes the errors away -/
theorem sp_mends_127 {P : IV → Prop} {blk w : Nat} {l : List Nat} {v r e : Nat → G} {iv3 : IV} (hb : blk < 3) (hlen : l.length ≤ 6) (hw : w ≤ l.length) (hnd : l.Nodup) (f1 : FRm iv iv3 blk) (f96 : iv3 96 blk = nI w) (fpl : PL iv3 l) (fe : ∀ k, k < l.length → iv3 100 k = nI (e k).1) (fv : ∀ p, p < 14 → iv3 94 (14 * blk + p) = nI (v p).1) (hr : ∀ i, i < l.length → r (l.getD i 0) = ga (v (l.getD i 0)) (e i)) (hro : ∀ p, p < 14 → p ∉ l → r p = v p) (h : ∀ iv', FRm iv iv' blk → iv' 95 = iv3 95 → iv' 96 blk = nI w → (∀ p, p < 14 → iv' 94 (14 * blk + p) = nI (r p).1) → P iv') : wp X (0, 0) 197 127 [some (.ref 74), some (.int (nI blk)), none, some (.int (nI (l.length - w))), some (.int (nI 0)), none, none] [] iv3 (Rv P) := by
  have key : ∀ m k, k + m = l.length → ∀ iv4 : IV, FRm iv iv4 blk → iv4 95 = iv3 95 → iv4 96 = iv3 96 → iv4 99 = iv3 99 → iv4 100 = iv3 100 → (∀ i, i < k → iv4 94 (14 * blk + l.getD i 0) = nI (r (l.getD i 0)).1) → (∀ p, p < 14 → (∀ i, i < k → l.getD i 0 ≠ p) → iv4 94 (14 * blk + p) = nI (v p).1) → wp X (0, 0) 197 127 [some (.ref 74), some (.int (nI blk)), none, some (.int (nI (l.length - w))), some (.int (nI k)), none, none] [] iv4 (Rv P) := by
    intro m
    induction m with
    | zero =>
      intro k hk iv4 g1 g95 g96 g99 g100 g2 g3
      have e96 : iv4 96 blk = nI w := by rw [g96, f96]
      refine mk_X11_mends_127 ?_
      rw [nI_clamp (by omega), e96, nI_add]
      refine ⟨vp_in_nI hb (by decide), fun z => absurd z (m1_ne (by omega)), fun _ => ⟨vp_in_nI hb (by decide), fun _ => ?_, fun z => absurd (nI_le (by omega) (by omega)) z⟩⟩
      refine h iv4 g1 g95 e96 (fun p hp => ?_)
      by_cases hm : p ∈ l
      · obtain ⟨i, hi, hip⟩ := mem_getD hm
        rw [← hip]
        exact g2 i (by omega)
      · rw [hro p hp hm]
        exact g3 p hp (fun i hi q => hm (by rw [← q]; exact getD_mem (by omega)))
    | succ m ih =>
      intro k hk iv4 g1 g95 g96 g99 g100 g2 g3
      have e96 : iv4 96 blk = nI w := by rw [g96, f96]
      have e99 := fpl k (by omega)
      refine mk_X11_mends_127 ?_
      rw [nI_clamp (n := blk) (by omega), e96, nI_add, nI_clamp (n := k) (by omega), g99, e99.2, g100, fe k (by omega), pk_mul, nI_add, nI_clamp (by omega)]
      rw [g3 (l.getD k 0) e99.1 (fun i hi q => by
        have := nodup_getD l hnd i k (by omega) (by omega) q
        omega), nI_ga, ← hr k (by omega)]
      refine ⟨vp_in_nI hb (by decide), fun z => absurd z (m1_ne (by omega)), fun _ => ⟨vp_in_nI hb (by decide), fun z => absurd z (nI_ge (by omega) (by omega)), fun _ => ⟨vp_in_nI (by omega) (by decide), vp_in_nI (by omega) (by decide), vp_in_nI (by omega) (by decide), vp_in_nI (by omega) (by decide), fun iv5 h5 => ?_⟩⟩⟩
      have h5' := h5
      rw [up_row] at h5'
      rw [nI_add]
      refine ih (k + 1) (by omega) iv5 (FRm_94 g1 e99.1 h5) (by rw [h5', row_ne (by decide), g95]) (by rw [h5', row_ne (by decide), g96]) (by rw [h5', row_ne (by decide), g99]) (by rw [h5', row_ne (by decide), g100]) (fun i hi => ?_) (fun p hp hno => ?_)
      · rw [h5', row_at]
        by_cases ei : l.getD i 0 = l.getD k 0
        · rw [if_pos (by rw [ei]), ei]
        · rw [if_neg (by omega)]
          have : i ≠ k := fun q => ei (by rw [q])
          exact g2 i (by omega)
      · rw [h5', row_at, if_neg (fun q => hno k (by omega) (by omega))]
        exact g3 p hp (fun i hi => hno i (by omega))
  exact key l.length 0 (by omega) iv3 f1 rfl rfl rfl rfl (fun i hi => absurd hi (by omega)) (fun p hp _ => fv p hp)
/-- the loop over how many places are tried -/
theorem sp_mends_97 {P : IV → Prop} {blk c : Nat} {g : Nat → Bool} {v : Nat → G} {iv3 : IV} (hb : blk < 3) (hc : c ≤ 6) (hM : MF iv) (f1 : FRm iv iv3 blk) (f96 : iv3 96 blk = nI 4294967295) (fpl : PL iv3 (gl g 14)) (fs : ∀ j, j < c → iv3 97 j = nI (pw v j).1) (fv : ∀ p, p < 14 → iv3 94 (14 * blk + p) = nI (v p).1) (hy : ∀ r d, Fix c v g r d → ∀ iv', FRm iv iv' blk → iv' 95 = iv3 95 → iv' 96 blk = nI d → (∀ p, p < 14 → iv' 94 (14 * blk + p) = nI (r p).1) → P iv') (hno : (¬ ∃ r d, Fix c v g r d) → ∀ iv', FRm iv iv' blk → iv' 95 = iv3 95 → iv' 96 blk = nI 4294967295 → P iv') : wp X (0, 0) 197 97 [some (.ref 74), some (.int (nI blk)), some (.int (nI c)), some (.int (nI (ct g 14))), some (.int (nI 0)), none, none] [] iv3 (Rv P) := by
  have hb14 := ct_bound g 14
  have hll := gl_len g 14
  have key : ∀ m w, w + m = 4 → ∀ iv4 : IV, FRm iv iv4 blk → iv4 95 = iv3 95 → iv4 96 blk = nI 4294967295 → PL iv4 (gl g 14) → (∀ j, j < c → iv4 97 j = nI (pw v j).1) → (∀ p, p < 14 → iv4 94 (14 * blk + p) = nI (v p).1) → (∀ W : List Nat, W.length < w → W.Pairwise (fun a b => a < b) → (∀ q, q ∈ W → q < 14 ∧ q ∉ gl g 14) → ¬ ∃ e : Nat → G, So c (pw v) (gl g 14 ++ W) e) → wp X (0, 0) 197 97 [some (.ref 74), some (.int (nI blk)), some (.int (nI c)), some (.int (nI (ct g 14))), some (.int (nI w)), none, none] [] iv4 (Rv P) := by
    intro m
    induction m with
    | zero =>
      intro w hw iv4 g1 g95 g96 gpl gs' gv gno
      refine mk_X11_mends_97 ?_
      rw [pk_mul, nI_add]
      refine ⟨fun _ => ?_, fun z => absurd (nI_lt (by omega) (by omega)) z⟩
      refine mk_X11_mends_127 ?_
      rw [nI_clamp (by omega), g96]
      refine ⟨vp_in_nI hb (by decide), fun _ => hno (fun q => ?_) iv4 g1 g95 g96, fun z => absurd rfl z⟩
      obtain ⟨r, d, hF⟩ := q
      have h1 := fix_sol hF
      have h2 := hF.2.2
      exact gno (gl (df g r v) 14) (by omega) (gl_sorted _ _) (fun q hq => by
        rw [gl_mem] at hq
        refine ⟨hq.1, fun q2 => ?_⟩
        rw [gl_mem] at q2
        have := hq.2
        unfold df at this
        rw [q2.2] at this
        cases this) h1.2
    | succ m ih =>
      intro w hw iv4 g1 g95 g96 gpl gs' gv gno
      refine mk_X11_mends_97 ?_
      rw [pk_mul, nI_add]
      by_cases hcw : c < ct g 14 + 2 * w
      · refine ⟨fun _ => ?_, fun z => absurd (nI_lt hcw (by omega)) z⟩
        refine mk_X11_mends_127 ?_
        rw [nI_clamp (by omega), g96]
        refine ⟨vp_in_nI hb (by decide), fun _ => hno (fun q => ?_) iv4 g1 g95 g96, fun z => absurd rfl z⟩
        obtain ⟨r, d, hF⟩ := q
        have h1 := fix_sol hF
        have h2 := hF.2.2
        exact gno (gl (df g r v) 14) (by omega) (gl_sorted _ _) (fun q hq => by
          rw [gl_mem] at hq
          refine ⟨hq.1, fun q2 => ?_⟩
          rw [gl_mem] at q2
          have := hq.2
          unfold df at this
          rw [q2.2] at this
          cases this) h1.2
      · refine ⟨fun z => absurd z (nI_nlt (by omega) (by omega)), fun _ => ⟨vp_in_nI hb (by decide), ?_⟩⟩
        rw [nI_clamp (by omega), g96, ← hll]
        refine ⟨fun _ => ?_, fun z => absurd rfl z⟩
        have hM4 : MF iv4 := MF_of hM (g1.1 79 (by decide)) (g1.1 80 (by decide)) (g1.1 81 (by decide))
        refine sp_tries hM4 hc (by omega) gpl (gl_nodup g 14) gs' (fun W e hWl hWn hW14 he iv5 k5 p5 s5 => ?_) (fun hfail iv5 k5 p5 => ?_)
        · refine ⟨fun z => absurd z (by decide), fun _ => ⟨vp_in_nI hb (by decide), fun iv6 h6 => ?_⟩⟩
          have hfr5 : FRm iv iv5 blk := FRm_of g1 (fun a ha => k5 a (by omega) (by omega) (by omega))
          have hfr6 := FRm_96 hfr5 h6
          rw [up_row] at h6
          obtain ⟨r, d, hF, hd, hr1, hr2⟩ := sol_fix hWn hW14 (by omega) he
          have hdw : d = w := by
            refine Classical.byContradiction fun q => ?_
            have h1 := fix_sol hF
            exact gno (gl (df g r v) 14) (by omega) (gl_sorted _ _) (fun q hq => by
              rw [gl_mem] at hq
              refine ⟨hq.1, fun q2 => ?_⟩
              rw [gl_mem] at q2
              have := hq.2
              unfold df at this
              rw [q2.2] at this
              cases this) h1.2
          subst hdw
          have hlen : (gl g 14 ++ W).length = (gl g 14).length + d := by rw [List.length_append, hWl]
          have e6 : ∀ a, a ≠ 96 → iv6 a = iv5 a := fun a ha => by rw [h6, row_ne ha]
          have e696 : iv6 96 blk = nI d := by rw [h6, row_at, if_pos rfl]
          have out := sp_mends_127 (X := X) (iv := iv) (P := P) (blk := blk) (w := d) (l := gl g 14 ++ W) (v := v) (r := r) (e := e) (iv3 := iv6) hb (by omega) (by omega) hWn hfr6 e696 (PL_of p5 (e6 99 (by decide))) (fun k hk => by rw [e6 100 (by decide)]; exact s5 k (by omega)) (fun p hp => by rw [e6 94 (by decide), k5 94 (by decide) (by decide) (by decide)]; exact gv p hp) hr1 hr2 (fun iv' q1 q2 q3 q4 => hy r d hF iv' q1 (by rw [q2, e6 95 (by decide), k5 95 (by decide) (by decide) (by decide), g95]) q3 q4)
          rw [hlen, Nat.add_sub_cancel] at out
          refine mk_X11_mends_97 ⟨fun _ => out, fun _ => ⟨vp_in_nI hb (by decide), ?_⟩⟩
          rw [nI_clamp (by omega), e696]
          exact ⟨fun z => absurd z (m1_ne (by omega)), fun _ => out⟩
        · refine ⟨fun _ => ⟨vp_in_nI hb (by decide), fun iv6 h6 => ?_⟩, fun z => absurd rfl z⟩
          have hfr5 : FRm iv iv5 blk := FRm_of g1 (fun a ha => k5 a (by omega) (by omega) (by omega))
          have hfr6 := FRm_96 hfr5 h6
          rw [up_row] at h6
          have e6 : ∀ a, a ≠ 96 → iv6 a = iv5 a := fun a ha => by rw [h6, row_ne ha]
          rw [nI_add, hll]
          refine ih (w + 1) (by omega) iv6 hfr6 (by rw [e6 95 (by decide), k5 95 (by decide) (by decide) (by decide), g95]) (by rw [h6, row_at, if_pos rfl]) (PL_of p5 (e6 99 (by decide))) (fun j hj => by rw [e6 97 (by decide), k5 97 (by decide) (by decide) (by decide)]; exact gs' j hj) (fun p hp => by rw [e6 94 (by decide), k5 94 (by decide) (by decide) (by decide)]; exact gv p hp) (fun W hW hs hq => ?_)
          by_cases e : W.length = w
          · exact hfail W e hs hq
          · exact gno W (by omega) hs hq
  exact key 4 0 rfl iv3 f1 rfl f96 fpl fs fv (fun W hW => absurd hW (by omega))
end MENDS
