/-! THE LAW'S LOOP -/
theorem inv0 : INV iv0 := by
  refine ⟨(0, fun _ => 0, 0, fun _ => 0), noD, (fun _ => 3, fun _ => 0, fun _ _ => 0), nI 0, ⟨⟨⟨by decide, fun i hi => absurd hi (by show ¬ i < 0; omega), by decide, fun i hi => absurd hi (by show ¬ i < 0; omega)⟩, rfl, rfl, rfl, rfl, fun i hi => absurd hi (by show ¬ i < 0; omega), fun i hi => absurd hi (by show ¬ i < 0; omega)⟩, ⟨fun i _ => rfl, fun k _ => ⟨rfl, rfl⟩⟩, fun blk hb p _ => ?_, ⟨fun r _ => ?_, rfl, by decide, 0, by decide, rfl, fun j hj => absurd hj (by show ¬ j < 0; omega)⟩, fun s hs => ⟨fun q => absurd q (by show ¬ 3 < 3; decide), fun _ => ?_⟩, rfl, 0, Nat.le_refl 0, by decide, rfl, fun q => absurd q (by decide), fun q => absurd q (by decide), fun q => absurd q (by decide)⟩, ⟨⟨⟨by decide, fun i hi => absurd hi (by show ¬ i < 0; omega), by decide, fun i hi => absurd hi (by show ¬ i < 0; omega)⟩, rfl, rfl, fun i hi => absurd hi (by show ¬ i < 0; omega), fun i hi => absurd hi (by show ¬ i < 0; omega)⟩, ⟨fun i _ => ⟨rfl, rfl⟩, rfl, by decide, fun j hj => absurd hj (by show ¬ j < 0; omega)⟩, fun s hs => ⟨fun q => absurd q (by show ¬ 3 < 3; decide), fun _ => ?_⟩, rfl⟩⟩
  · have : blk = 0 ∨ blk = 1 ∨ blk = 2 := by omega
    rcases this with rfl | rfl | rfl <;> exact ⟨0, rfl⟩
  · show nI 0 = nI (rr (fun _ => false) r) ∧ nI 0 = nI (rr (fun _ => false) r)
    rw [rr_0]
    exact ⟨rfl, rfl⟩
  · have : s = 0 ∨ s = 1 ∨ s = 2 ∨ s = 3 := by omega
    rcases this with rfl | rfl | rfl | rfl <;> rfl
  · have : s = 0 ∨ s = 1 ∨ s = 2 ∨ s = 3 := by omega
    rcases this with rfl | rfl | rfl | rfl <;> decide
section LAW
variable {X : Nat × (Nat → Int32)} {iv : IV}
theorem ls_mono {jc jm : Nat} {as : List Value} {R : Int32 → IV → Prop} {N P0 : IV → Prop} (h : LSt X jc jm as iv) (hN : ∀ iv', INV iv' → N iv') (k : ∀ v iv1, wc X jm (.ref 74 :: as) iv1 (Ri (fun w iv2 => ((v = w → N iv2) ∧ (¬ v = w → P0 iv2)))) → R v iv1) : wc X jc (.ref 1 :: as) iv (Ri R) := by
  refine wp_conseq (h N hN) (fun r iv1 hr => ?_)
  obtain ⟨v, e, hv⟩ := hr
  refine ⟨v, e, k v iv1 (wp_conseq hv (fun r2 iv2 hr2 => ?_))⟩
  obtain ⟨w, e2, hw⟩ := hr2
  exact ⟨w, e2, fun _ => hw.2, fun q => absurd hw.1 q⟩
theorem ls_monoL {N P0 : IV → Prop} (h : ∀ Q : IV → Prop, (∀ iv', INV iv' → Q iv') → wc X 94 [.ref 1] iv (Rl (fun v iv1 => wc X 219 [.ref 74] iv1 (Rl (fun w iv2 => v = w ∧ Q iv2))))) (hN : ∀ iv', INV iv' → N iv') : wc X 94 [.ref 1] iv (Rl (fun v iv1 => wc X 219 [.ref 74] iv1 (Rl (fun w iv2 => ((lg_cmp v w = 0 → N iv2) ∧ (¬ (lg_cmp v w = 0) → P0 iv2)))))) := by
  refine wp_conseq (h N hN) (fun r iv1 hr => ?_)
  obtain ⟨v, e, hv⟩ := hr
  refine ⟨v, e, wp_conseq hv (fun r2 iv2 hr2 => ?_)⟩
  obtain ⟨w, e2, hw⟩ := hr2
  exact ⟨w, e2, fun _ => hw.2, fun q => absurd ((lg_cmp_eq v w).mpr hw.1) q⟩
set_option maxHeartbeats 1000000 in
theorem law_loop {L : Nat} {xs : Nat → Int32} (hL : L ≤ 3072) : ∀ m k, 6 * k ≤ L → L < 6 * k + 6 * m → ∀ iv1 : IV, INV iv1 → wp (L, xs) (100, 3462) 225 10 [some (.ref 1000004), some (.ref 1), some (.ref 74), some (.int (nI (6 * k)))] [] iv1 (Ri (fun v _ => v = nI 1)) := by
  intro m
  induction m with
  | zero => intro k h1 h2; exact absurd h2 (by omega)
  | succ m ih =>
    intro k h1 h2 iv1 hI
    have hlt : ((nI L - nI 6) < nI (6 * k) ↔ L < 6 * k + 6) := by
      rw [Int32.lt_iff_toInt_lt, pk_sub_toInt (by omega) (by decide), nI_toInt (by omega)]
      omega
    refine mk_L_law_10 ⟨fun _ => rfl, fun z => ?_⟩
    have hk : 6 * k + 6 ≤ L := by
      have : ¬ L < 6 * k + 6 := fun q => z (hlt.mpr q)
      omega
    have b : ∀ j, j < 6 → vp_in (nI (6 * k) + nI j) (mm_S (L, xs) 4).1 := fun j hj => by
      rw [nI_add]
      exact vp_in_nI (show 6 * k + j < L by omega) (show L < 2 ^ 31 by omega)
    have hN : ∀ iv', INV iv' → wp (L, xs) (100, 3462) 225 10 [some (.ref 1000004), some (.ref 1), some (.ref 74), some (.int (nI (6 * k) + nI 6))] [] iv' (Ri (fun v _ => v = nI 1)) := fun iv' h' => by
      rw [nI_add]
      exact ih (k + 1) (by omega) (by omega) iv' h'
    exact ⟨vp_in_nI (show 6 * k < L by omega) (show L < 2 ^ 31 by omega), fun _ => ⟨b 1 (by decide), b 2 (by decide), ls_mono (op_type hI) hN (fun _ _ q => ⟨b 1 (by decide), b 2 (by decide), q⟩)⟩, fun _ => ⟨b 1 (by decide), ls_mono (op_wipe hI) hN (fun _ _ q => ⟨b 1 (by decide), q⟩)⟩, fun _ => ⟨b 1 (by decide), ls_mono (op_undo hI) hN (fun _ _ q => ⟨b 1 (by decide), q⟩)⟩, fun _ => ls_mono (op_fault hI) hN (fun _ _ q => q), fun _ => ⟨b 1 (by decide), ls_mono (op_read hI) hN (fun _ _ q => ⟨b 1 (by decide), q⟩)⟩, fun _ => ⟨b 1 (by decide), b 2 (by decide), b 3 (by decide), ls_mono (op_field hI) hN (fun _ _ q => ⟨b 1 (by decide), b 2 (by decide), b 3 (by decide), q⟩)⟩, fun _ => ⟨b 1 (by decide), ls_mono (op_mark hI) hN (fun _ _ q => ⟨b 1 (by decide), q⟩)⟩, fun _ => ⟨b 1 (by decide), b 2 (by decide), ls_mono (op_symbol hI) hN (fun _ _ q => ⟨b 1 (by decide), b 2 (by decide), q⟩)⟩, fun _ => ⟨b 1 (by decide), b 2 (by decide), ls_mono (op_dots hI) hN (fun _ _ q => ⟨b 1 (by decide), b 2 (by decide), q⟩)⟩, fun _ => ⟨b 1 (by decide), ls_mono (op_penalty hI) hN (fun _ _ q => ⟨b 1 (by decide), q⟩)⟩, fun _ => ⟨b 1 (by decide), b 2 (by decide), b 3 (by decide), ls_mono (op_place hI) hN (fun _ _ q => ⟨b 1 (by decide), b 2 (by decide), b 3 (by decide), q⟩)⟩, fun _ => ⟨b 1 (by decide), b 2 (by decide), ls_mono (op_turn hI) hN (fun _ _ q => ⟨b 1 (by decide), b 2 (by decide), q⟩)⟩, fun _ => ⟨b 1 (by decide), b 2 (by decide), ls_mono (op_lost hI) hN (fun _ _ q => ⟨b 1 (by decide), b 2 (by decide), q⟩)⟩, fun _ => ls_mono (op_back hI) hN (fun _ _ q => q), fun _ => ls_mono (op_heal hI) hN (fun _ _ q => q), fun _ => ⟨b 1 (by decide), b 2 (by decide), ls_mono (op_seen hI) hN (fun _ _ q => ⟨b 1 (by decide), b 2 (by decide), q⟩)⟩, fun _ => ls_mono (op_why hI) hN (fun _ _ q => q), fun _ => ⟨b 1 (by decide), ls_mono (op_told hI) hN (fun _ _ q => ⟨b 1 (by decide), q⟩)⟩, fun _ => ⟨b 1 (by decide), ls_mono (op_format hI) hN (fun _ _ q => ⟨b 1 (by decide), q⟩)⟩, fun _ => ⟨b 1 (by decide), b 2 (by decide), ls_mono (op_block hI) hN (fun _ _ q => ⟨b 1 (by decide), b 2 (by decide), q⟩)⟩, fun _ => ⟨b 1 (by decide), b 2 (by decide), ls_mono (op_mended hI) hN (fun _ _ q => ⟨b 1 (by decide), b 2 (by decide), q⟩)⟩, fun _ => ⟨b 1 (by decide), ls_mono (op_straw hI) hN (fun _ _ q => ⟨b 1 (by decide), q⟩)⟩, fun _ => ⟨b 1 (by decide), b 2 (by decide), b 3 (by decide), ls_mono (op_sheet hI) hN (fun _ _ q => ⟨b 1 (by decide), b 2 (by decide), b 3 (by decide), q⟩)⟩, fun _ => ⟨b 1 (by decide), ls_mono (op_lose hI) hN (fun _ _ q => ⟨b 1 (by decide), q⟩)⟩, fun _ => ⟨b 1 (by decide), b 2 (by decide), b 3 (by decide), b 4 (by decide), ls_mono (op_lay hI) hN (fun _ _ q => ⟨b 1 (by decide), b 2 (by decide), b 3 (by decide), b 4 (by decide), q⟩)⟩, fun _ => ⟨b 1 (by decide), b 2 (by decide), b 3 (by decide), ls_mono (op_get hI) hN (fun _ _ q => ⟨b 1 (by decide), b 2 (by decide), b 3 (by decide), q⟩)⟩, fun _ => ⟨b 1 (by decide), b 2 (by decide), b 3 (by decide), b 4 (by decide), b 5 (by decide), ls_mono (op_copy hI) hN (fun _ _ q => ⟨b 1 (by decide), b 2 (by decide), b 3 (by decide), b 4 (by decide), b 5 (by decide), q⟩)⟩, fun _ => ⟨b 1 (by decide), b 2 (by decide), ls_mono (op_write hI) hN (fun _ _ q => ⟨b 1 (by decide), b 2 (by decide), q⟩)⟩, fun _ => ⟨b 1 (by decide), ls_mono (op_count hI) hN (fun _ _ q => ⟨b 1 (by decide), q⟩)⟩, fun _ => ls_monoL (op_digest hI) hN, fun _ => hN iv1 hI⟩
theorem law_runs {L : Nat} {xs : Nat → Int32} (hL : L ≤ 3072) : wp (L, xs) (100, 3462) 225 8 [some (.ref 1000004), some (.ref 1), some (.ref 74), none] [] iv0 (fun r _ => r = some (.int 1)) := by
  have h := law_loop (xs := xs) hL 513 0 (by omega) (by omega) iv0 inv0
  have h2 : wp (L, xs) (100, 3462) 225 8 [some (.ref 1000004), some (.ref 1), some (.ref 74), none] [] iv0 (Ri (fun v _ => v = nI 1)) := wp_s tb_225 2 rfl h
  refine wp_conseq h2 (fun r iv' hr => ?_)
  obtain ⟨v, e, hv⟩ := hr
  rw [e, hv]
  rfl
end LAW
