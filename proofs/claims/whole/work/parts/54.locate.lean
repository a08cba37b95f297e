/-! THE REGISTER IS FOUND -/
section LOC
variable {X : Nat × (Nat → Int32)} {iv : IV}
theorem sp_locate {P : Int32 → IV → Prop} {left : Nat} (hl : left ≤ 6) {s : Nat → G} (hs : ∀ k, k < left → iv 16 k = nI (s k).1) (h : ∀ (iv' : IV) (C : Nat → G) (L : Nat), (∀ a, a ≠ 17 → a ≠ 18 → a ≠ 19 → iv' a = iv a) → (∀ k, k < 7 → iv' 17 k = nI (C k).1) → C 0 = 1 → (∀ k, L < k → C k = 0) → L ≤ left → (∀ i, L ≤ i → i < left → cv C s i = 0) → (∀ w, ML s left w → L ≤ w) → P (nI L) iv') : wc X 30 [.ref 14, .int (nI left)] iv (Ri P) := by
  refine mk_X4_locate (sp_startLocators (fun iv1 f1 f2 f3 => ?_))
  have key : ∀ m N, N + m = left → ∀ (iv3 : IV) (C B : Nat → G) (L sh : Nat) (b : G), (∀ a, a ≠ 17 → a ≠ 18 → a ≠ 19 → iv3 a = iv a) → (∀ k, k < 7 → iv3 17 k = nI (C k).1) → (∀ k, k < 7 → iv3 18 k = nI (B k).1) → BM s N C B L sh b → (∀ w, ML s left w → L ≤ w) → wp X (0, 0) 30 10 [some (.ref 14), some (.int (nI left)), some (.int (nI L)), some (.int (nI sh)), some (.int (nI b.1)), some (.int (nI N)), none, none, none] [] iv3 (Ri P) := by
    intro m
    induction m with
    | zero =>
      intro N hN iv3 C B L sh b g1 g2 g3 hB hm
      refine mk_X4_locate_10 ⟨fun _ => ?_, fun z => absurd (nI_le (by omega) (by omega)) z⟩
      have e : N = left := by omega
      subst e
      exact h iv3 C L g1 g2 hB.1 hB.2.1 hB.2.2.1 hB.2.2.2.1 hm
    | succ m ih =>
      intro N hN iv3 C B L sh b g1 g2 g3 hB hm
      have e16 : iv3 16 = iv 16 := g1 16 (by decide) (by decide) (by decide)
      have hLN : L ≤ N := hB.2.2.1
      have hsh : 1 ≤ sh ∧ sh ≤ N + 1 := by
        rcases hB.2.2.2.2.2 with ⟨a1, a2, -⟩ | ⟨m', LB, a1, a2, -⟩
        · omega
        · omega
      refine mk_X4_locate_10 ⟨fun z => absurd z (nI_ge (by omega) (by omega)), fun _ => ⟨vp_in_nI (by omega) (by decide), fun v1 hv1 => ?_⟩⟩
      rw [nI_clamp (by omega), e16, hs N (by omega)] at hv1
      -- behind the gap
      have gap : wp X (0, 0) 30 42 [some (.ref 14), some (.int (nI left)), some (.int (nI L)), some (.int (nI sh)), some (.int (nI b.1)), some (.int (nI N)), some (.int (nI (cv C s N).1)), none, none] [] iv3 (Ri P) := by
        refine mk_X4_locate_42 ⟨fun z => ?_, fun z => ?_⟩
        · have hz : cv C s N = 0 := (nI_g0 _).mp z
          rw [nI_add, nI_add]
          exact ih (N + 1) (by omega) iv3 C B L (sh + 1) b g1 g2 g3 (bm_zero hB hz) hm
        · have hz : cv C s N ≠ 0 := fun q => z ((nI_g0 _).mpr q)
          refine ⟨cp_ok 7 (by decide), fun iv4 h4 => ?_⟩
          rw [nI_clamp (n := 0) (by decide), nI_clamp (n := 7) (by decide)] at h4
          refine sp_quot _ _ hB.2.2.2.2.1 ?_
          have e4 : ∀ a, a ≠ 19 → iv4 a = iv3 a := fun a ha => by rw [h4, row_ne ha]
          have e19 : ∀ k, k < 7 → iv4 19 k = nI (C k).1 := fun k hk => by rw [h4, row_at, cpy_at hk, g2 k hk]
          have inner : ∀ m2 k, k + sh + m2 = 7 → wp X (0, 0) 30 62 [some (.ref 14), some (.int (nI left)), some (.int (nI L)), some (.int (nI sh)), some (.int (nI b.1)), some (.int (nI N)), some (.int (nI (cv C s N).1)), some (.int (nI (gm (cv C s N) (gi b)).1)), some (.int (nI k))] [] (mm_row iv4 17 (fun i => if sh ≤ i ∧ i < k + sh then nI (shf C B (gm (cv C s N) (gi b)) sh i).1 else iv4 17 i)) (Ri P) := by
            intro m2
            induction m2 with
            | zero =>
              intro k hk
              refine mk_X4_locate_62 ⟨fun _ => ?_, fun q => absurd (by rw [nI_add]; exact nI_le (by omega) (by omega)) q⟩
              have r17 : ∀ i, i < 7 → mm_row iv4 17 (fun i => if sh ≤ i ∧ i < k + sh then nI (shf C B (gm (cv C s N) (gi b)) sh i).1 else iv4 17 i) 17 i = nI (shf C B (gm (cv C s N) (gi b)) sh i).1 := by
                intro i hi
                rw [row_at]
                by_cases hi2 : sh ≤ i
                · rw [if_pos ⟨hi2, by omega⟩]
                · rw [if_neg (fun q => hi2 q.1), e4 17 (by decide), g2 i hi]
                  unfold shf
                  rw [if_pos (by omega), ga_0]
              refine ⟨fun q => ?_, fun q => ?_⟩
              · rw [pk_mul, nI_ltI (by omega) (by omega)] at q
                rw [nI_add, nI_add]
                refine ih (N + 1) (by omega) _ _ B L (sh + 1) b (fun a a1 a2 a3 => ?_) r17 (fun k hk => ?_) (bm_stay hB hz (by omega)) hm
                · rw [row_ne a1, e4 a a3, g1 a a1 a2 a3]
                · rw [row_ne (by decide), e4 18 (by decide), g3 k hk]
              · rw [pk_mul, nI_ltI (by omega) (by omega)] at q
                refine ⟨cp_ok 7 (by decide), fun iv5 h5 v2 hv2 => ?_⟩
                rw [nI_clamp (n := 0) (by decide), nI_clamp (n := 7) (by decide)] at h5
                rw [nI_add, pk_sub (by omega)] at hv2
                rw [hv2, nI_add]
                refine ih (N + 1) (by omega) iv5 _ C (N + 1 - L) 1 (cv C s N) (fun a a1 a2 a3 => ?_) (fun k hk => ?_) (fun k hk => ?_) (bm_jump hB hz (by omega)) (fun w hw => bm_min hB hz (by omega) hw)
                · rw [h5, row_ne a2, row_ne a1, e4 a a3, g1 a a1 a2 a3]
                · rw [h5, row_ne (by decide), r17 k hk]
                · rw [h5, row_at, cpy_at hk, row_ne (by decide), e19 k hk]
            | succ m2 ih2 =>
              intro k hk
              refine mk_X4_locate_62 ?_
              rw [nI_add]
              refine ⟨fun q => absurd q (nI_ge (by omega) (by decide)), fun _ => ⟨vp_in_nI (by omega) (by decide), vp_in_nI (by omega) (by decide), ?_⟩⟩
              rw [nI_clamp (by omega), nI_clamp (by omega), row_ne (by decide), e4 18 (by decide), g3 k (by omega), row_at, if_neg (by omega), e4 17 (by decide), g2 (k + sh) (by omega)]
              refine sp_times _ _ ⟨vp_in_nI (by omega) (by decide), fun iv5 h5 => ?_⟩
              rw [nI_ga, row_up] at h5
              rw [h5, nI_add, row_cg (g' := fun i => if sh ≤ i ∧ i < k + 1 + sh then nI (shf C B (gm (cv C s N) (gi b)) sh i).1 else iv4 17 i) (fun i => by
                by_cases hi : i = k + sh
                · rw [if_pos hi, if_pos ⟨by omega, by omega⟩, hi]
                  unfold shf
                  rw [if_neg (by omega), Nat.add_sub_cancel]
                · rw [if_neg hi]
                  by_cases hi2 : sh ≤ i ∧ i < k + sh
                  · rw [if_pos hi2, if_pos ⟨hi2.1, by omega⟩]
                  · rw [if_neg hi2, if_neg (fun q => hi2 ⟨q.1, by omega⟩), e4 17 (by decide)])]
              exact ih2 (k + 1) (by omega)
          have h0 := inner (7 - sh) 0 (by omega)
          rw [row_id (fun i => if_neg (by omega))] at h0
          exact h0
      have sums : ∀ m2 k, k + m2 = N + 1 → 1 ≤ k → k ≤ L + 1 → wp X (0, 0) 30 20 [some (.ref 14), some (.int (nI left)), some (.int (nI L)), some (.int (nI sh)), some (.int (nI b.1)), some (.int (nI N)), some (.int (nI (gs (fun k => gm (C k) (s (N - k))) k).1)), some (.int (nI k)), none] [] iv3 (Ri P) := by
        intro m2
        induction m2 with
        | zero =>
          intro k hk h1 h2
          have e : k = N + 1 := by omega
          subst e
          refine mk_X4_locate_20 ⟨fun _ => gap, fun _ => ⟨fun _ => gap, fun q => ?_⟩⟩
          exact absurd (nI_lt (by omega) (by omega)) q
        | succ m2 ih2 =>
          intro k hk h1 h2
          by_cases hkL : L < k
          · refine mk_X4_locate_20 ⟨fun _ => ?_, fun q => absurd (nI_lt hkL (by omega)) q⟩
            have : gs (fun k => gm (C k) (s (N - k))) k = cv C s N := (gs_more (n := k) (m := N + 1) (by omega) (fun i i1 i2 => by rw [hB.2.1 i (by omega), gm_0l])).symm
            rw [this]
            exact gap
          · refine mk_X4_locate_20 ⟨fun q => absurd q (nI_nlt (by omega) (by omega)), fun _ => ⟨fun q => absurd q (nI_nlt (by omega) (by omega)), fun _ => ?_⟩⟩
            rw [pk_sub (by omega)]
            refine ⟨vp_in_nI (by omega) (by decide), vp_in_nI (by omega) (by decide), ?_⟩
            rw [nI_clamp (by omega), nI_clamp (by omega), g2 k (by omega), e16, hs (N - k) (by omega)]
            refine sp_times _ _ ?_
            rw [nI_ga, nI_add]
            exact ih2 (k + 1) (by omega) (by omega) (by omega)
      have h1 := sums N 1 (by omega) (by omega) (by omega)
      have e1 : gs (fun k => gm (C k) (s (N - k))) 1 = s N := by
        show ga 0 (gm (C 0) (s (N - 0))) = s N
        rw [hB.1, gm_1l, ga_0l, Nat.sub_zero]
      rw [e1] at h1
      rw [hv1]
      exact h1
  exact key left 0 (by omega) iv1 dl dl 0 1 1 (fun a a1 a2 _ => f1 a a1 a2) f2 f3 (bm_start s) (fun w _ => Nat.zero_le w)
end LOC
