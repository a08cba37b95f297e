/-! A BLOCK IS MENDED, IN THE MODEL -/
theorem m1_ne {w : Nat} (h : w < 2 ^ 31) : nI w ≠ nI 4294967295 := fun q => by
  have h1 := nI_pos h
  rw [q] at h1
  exact h1 (by decide)
/-- the cells of a reading that a block's mending leaves -/
def FRm (iv iv' : IV) (blk : Nat) : Prop := (∀ a, a < 94 → iv' a = iv a) ∧ (∀ k, k ≠ blk → iv' 95 k = iv 95 k ∧ iv' 96 k = iv 96 k) ∧ (∀ k, ¬ (14 * blk ≤ k ∧ k < 14 * blk + 14) → iv' 94 k = iv 94 k)
theorem FRm_of {iv iv1 iv2 : IV} {blk : Nat} (h : FRm iv iv1 blk) (h1 : ∀ a, a < 97 → iv2 a = iv1 a) : FRm iv iv2 blk :=
  ⟨fun a ha => by rw [h1 a (by omega), h.1 a ha], fun k hk => by rw [h1 95 (by decide), h1 96 (by decide)]; exact h.2.1 k hk, fun k hk => by rw [h1 94 (by decide)]; exact h.2.2 k hk⟩
theorem FRm_94 {iv iv1 iv2 : IV} {blk p : Nat} {x : Int32} (h : FRm iv iv1 blk) (hp : p < 14) (h2 : iv2 = mm_up2 iv1 94 (14 * blk + p) x) : FRm iv iv2 blk := by
  rw [up_row] at h2
  refine ⟨fun a ha => by rw [h2, row_ne (by omega), h.1 a ha], fun k hk => by rw [h2, row_ne (by decide), row_ne (by decide)]; exact h.2.1 k hk, fun k hk => ?_⟩
  rw [h2, row_at, if_neg (by omega)]
  exact h.2.2 k hk
theorem FRm_95 {iv iv1 iv2 : IV} {blk : Nat} {x : Int32} (h : FRm iv iv1 blk) (h2 : iv2 = mm_up2 iv1 95 blk x) : FRm iv iv2 blk := by
  rw [up_row] at h2
  refine ⟨fun a ha => by rw [h2, row_ne (by omega), h.1 a ha], fun k hk => ?_, fun k hk => by rw [h2, row_ne (by decide)]; exact h.2.2 k hk⟩
  rw [h2, row_at, if_neg hk, row_ne (by decide)]
  exact h.2.1 k hk
theorem FRm_96 {iv iv1 iv2 : IV} {blk : Nat} {x : Int32} (h : FRm iv iv1 blk) (h2 : iv2 = mm_up2 iv1 96 blk x) : FRm iv iv2 blk := by
  rw [up_row] at h2
  refine ⟨fun a ha => by rw [h2, row_ne (by omega), h.1 a ha], fun k hk => ?_, fun k hk => by rw [h2, row_ne (by decide)]; exact h.2.2 k hk⟩
  rw [h2, row_at, if_neg hk, row_ne (by decide)]
  exact h.2.1 k hk
section MENDS
variable {X : Nat × (Nat → Int32)} {iv : IV}
/-- the loop that takes the errors away -/
theorem sp_mends_127 {P : IV → Prop} {blk w : Nat} {l : List Nat} {v r e : Nat → G} {iv3 : IV} (hb : blk < 3) (hlen : l.length ≤ 6) (hw : w ≤ l.length) (hnd : l.Nodup) (f1 : FRm iv iv3 blk) (f96 : iv3 96 blk = nI w) (fpl : PL iv3 l) (fe : ∀ k, k < l.length → iv3 100 k = nI (e k).1) (fv : ∀ p, p < 14 → iv3 94 (14 * blk + p) = nI (v p).1) (hr : ∀ i, i < l.length → r (l.getD i 0) = ga (v (l.getD i 0)) (e i)) (hro : ∀ p, p < 14 → p ∉ l → r p = v p) (h : ∀ iv', FRm iv iv' blk → iv' 95 = iv3 95 → iv' 96 blk = nI w → (∀ p, p < 14 → iv' 94 (14 * blk + p) = nI (r p).1) → P iv') : wp X (0, 0) 197 127 [some (.ref 74), some (.int (nI blk)), none, some (.int (nI (l.length - w))), some (.int (nI 0)), none, none] [] iv3 (Rv P) := by
  have key : ∀ m k, k + m = l.length → ∀ iv4 : IV, FRm iv iv4 blk → iv4 95 = iv3 95 → iv4 96 = iv3 96 → iv4 99 = iv3 99 → iv4 100 = iv3 100 → (∀ i, i < k → iv4 94 (14 * blk + l.getD i 0) = nI (r (l.getD i 0)).1) → (∀ p, p < 14 → (∀ i, i < k → l.getD i 0 ≠ p) → iv4 94 (14 * blk + p) = nI (v p).1) → wp X (0, 0) 197 127 [some (.ref 74), some (.int (nI blk)), none, some (.int (nI (l.length - w))), some (.int (nI k)), none, none] [] iv4 (Rv P) := by
    intro m
    induction m with
    | zero =>
      intro k hk iv4 g1 g95 g96 g99 g100 g2 g3
      have e96 : iv4 96 blk = nI w := by rw [g96, f96]
      refine mk_X11_mends_127 ?_
      rw [nI_clamp (by omega), e96, nI_add]
      refine ⟨vp_in_nI hb (by decide), fun z => absurd z (m1_ne (by omega)), fun _ => ⟨vp_in_nI hb (by decide), fun _ => ?_, fun z => absurd (nI_le (by omega) (by omega)) z⟩⟩
      refine h iv4 g1 g95 e96 (fun p hp => ?_)
      by_cases hm : p ∈ l
      · obtain ⟨i, hi, hip⟩ := mem_getD hm
        rw [← hip]
        exact g2 i (by omega)
      · rw [hro p hp hm]
        exact g3 p hp (fun i hi q => hm (by rw [← q]; exact getD_mem (by omega)))
    | succ m ih =>
      intro k hk iv4 g1 g95 g96 g99 g100 g2 g3
      have e96 : iv4 96 blk = nI w := by rw [g96, f96]
      have e99 := fpl k (by omega)
      refine mk_X11_mends_127 ?_
      rw [nI_clamp (n := blk) (by omega), e96, nI_add, nI_clamp (n := k) (by omega), g99, e99.2, g100, fe k (by omega), pk_mul, nI_add, nI_clamp (by omega)]
      rw [g3 (l.getD k 0) e99.1 (fun i hi q => by
        have := nodup_getD l hnd i k (by omega) (by omega) q
        omega), nI_ga, ← hr k (by omega)]
      refine ⟨vp_in_nI hb (by decide), fun z => absurd z (m1_ne (by omega)), fun _ => ⟨vp_in_nI hb (by decide), fun z => absurd z (nI_ge (by omega) (by omega)), fun _ => ⟨vp_in_nI (by omega) (by decide), vp_in_nI (by omega) (by decide), vp_in_nI (by omega) (by decide), vp_in_nI (by omega) (by decide), fun iv5 h5 => ?_⟩⟩⟩
      have h5' := h5
      rw [up_row] at h5'
      rw [nI_add]
      refine ih (k + 1) (by omega) iv5 (FRm_94 g1 e99.1 h5) (by rw [h5', row_ne (by decide), g95]) (by rw [h5', row_ne (by decide), g96]) (by rw [h5', row_ne (by decide), g99]) (by rw [h5', row_ne (by decide), g100]) (fun i hi => ?_) (fun p hp hno => ?_)
      · rw [h5', row_at]
        by_cases ei : l.getD i 0 = l.getD k 0
        · rw [if_pos (by rw [ei]), ei]
        · rw [if_neg (by omega)]
          have : i ≠ k := fun q => ei (by rw [q])
          exact g2 i (by omega)
      · rw [h5', row_at, if_neg (fun q => hno k (by omega) (by omega))]
        exact g3 p hp (fun i hi => hno i (by omega))
  exact key l.length 0 (by omega) iv3 f1 rfl rfl rfl rfl (fun i hi => absurd hi (by omega)) (fun p hp _ => fv p hp)
end MENDS
