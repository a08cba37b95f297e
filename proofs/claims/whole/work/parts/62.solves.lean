/-! THE MODEL'S SOLVING -/
theorem M0_ns {ps : Nat → Nat} {n c : Nat} {S E : Nat → G} : NS (M0 ps n S) c n E ↔ ∀ j, j < c → ga (gs (fun i => gm (E i) (gp (xp (ps i)) j)) n) (gm (S j) (E n)) = 0 := by
  have row : ∀ j, gs (fun i => gm (M0 ps n S j i) (E i)) (n + 1) = ga (gs (fun i => gm (E i) (gp (xp (ps i)) j)) n) (gm (S j) (E n)) := by
    intro j
    rw [gs]
    congr 1
    · refine gs_congr (fun i hi => ?_)
      unfold M0
      rw [if_pos hi, gm_comm]
    · unfold M0
      rw [if_neg (by omega)]
  constructor
  · intro h j hj
    rw [← row j]
    exact h j hj
  · intro h j hj
    rw [row j]
    exact h j hj
section SOLVE
variable {X : Nat × (Nat → Int32)} {iv : IV}
theorem sp_solves {P : Int32 → IV → Prop} {c n : Nat} {ps : Nat → Nat} {S : Nat → G} (hM : MF iv) (hc : c ≤ 6) (hn : n ≤ c) (hps : ∀ k, k < n → ps k < 14 ∧ iv 99 k = nI (ps k)) (hinj : ∀ i j, i < n → j < n → ps i = ps j → i = j) (hS : ∀ j, j < c → iv 97 j = nI (S j).1) (ht : ∀ e : Nat → G, (∀ j, j < c → gs (fun i => gm (e i) (gp (xp (ps i)) j)) n = S j) → ∀ iv', (∀ a, a ≠ 98 → a ≠ 100 → iv' a = iv a) → (∀ k, k < n → iv' 100 k = nI (e k).1) → P (nI 1) iv') (hf : (¬ ∃ e : Nat → G, ∀ j, j < c → gs (fun i => gm (e i) (gp (xp (ps i)) j)) n = S j) → ∀ iv', (∀ a, a ≠ 98 → a ≠ 100 → iv' a = iv a) → P (nI 0) iv') : wc X 191 [.ref 74, .int (nI c), .int (nI n)] iv (Ri P) := by
  refine mk_X11_solves (sp_equations hM hc (by omega) hps hS (fun iv1 e1 T1 => ?_))
  -- the end
  have fin : ∀ (iv3 : IV) (M : Nat → Nat → G), (∀ a, a ≠ 98 → iv3 a = iv a) → TB iv3 M c n → UN M c n → (∀ E, NS M c n E ↔ NS (M0 ps n S) c n E) → wp X (0, 0) 191 130 [some (.ref 74), some (.int (nI c)), some (.int (nI n)), some (.int (nI 1)), some (.int (nI n)), none, none, none, none] [] iv3 (Ri P) := by
    intro iv3 M f1 f2 f3 f4
    have solv : (∀ j, n ≤ j → j < c → M j n = 0) → ∀ j, j < c → gs (fun i => gm (M i n) (gp (xp (ps i)) j)) n = S j := by
      intro hz
      have h1 : NS M c n (fun i => if i < n then M i n else 1) := (ns_end hn f3 (if_neg (by omega))).mpr ⟨hz, fun j hj => if_pos hj⟩
      have h2 := M0_ns.mp ((f4 _).mp h1)
      intro j hj
      have h3 := ga_eq0 _ _ (h2 j hj)
      rw [if_neg (Nat.lt_irrefl n), gm_1] at h3
      rw [← h3]
      exact gs_congr (fun i hi => by rw [if_pos hi])
    have nosolv : (¬ ∀ j, n ≤ j → j < c → M j n = 0) → ¬ ∃ e : Nat → G, ∀ j, j < c → gs (fun i => gm (e i) (gp (xp (ps i)) j)) n = S j := by
      rintro hz ⟨e, he⟩
      apply hz
      have h1 : NS (M0 ps n S) c n (fun i => if i < n then e i else 1) := M0_ns.mpr (fun j hj => by
        rw [if_neg (Nat.lt_irrefl n), gm_1, gs_congr (g := fun i => gm (e i) (gp (xp (ps i)) j)) (fun i hi => by rw [if_pos hi]), he j hj, ga_self])
      exact ((ns_end hn f3 (if_neg (by omega))).mp ((f4 _).mpr h1)).1
    have last1 : (∀ j, n ≤ j → j < c → M j n = 0) → ∀ m k, k + m = n → ∀ iv4 : IV, (∀ a, a ≠ 100 → iv4 a = iv3 a) → (∀ i, i < k → iv4 100 i = nI (M i n).1) → wp X (0, 0) 191 152 [some (.ref 74), none, some (.int (nI n)), some (.int (nI 1)), some (.int (nI k)), none, none, none, none] [] iv4 (Ri P) := by
      intro hz m
      induction m with
      | zero =>
        intro k hk iv4 g1 g2
        refine mk_X11_solves_152 ⟨fun _ => ⟨Or.inr rfl, ?_⟩, fun z => absurd (nI_le (by omega) (by omega)) z⟩
        exact ht (fun i => M i n) (solv hz) iv4 (fun a a1 a2 => by rw [g1 a a2, f1 a a1]) (fun k' hk' => g2 k' (by omega))
      | succ m ih =>
        intro k hk iv4 g1 g2
        refine mk_X11_solves_152 ⟨fun z => absurd z (nI_ge (by omega) (by omega)), fun _ => ⟨fun z => absurd z (by decide), fun _ => ?_⟩⟩
        rw [pk_mul, nI_add, nI_clamp (by omega), nI_clamp (by omega)]
        refine ⟨vp_in_nI (by omega) (by decide), vp_in_nI (by omega) (by decide), fun iv5 h5 => ?_⟩
        rw [nI_add]
        rw [up_row] at h5
        refine ih (k + 1) (by omega) iv5 (fun a ha => by rw [h5, row_ne ha, g1 a ha]) (fun i hi => ?_)
        rw [h5, row_at]
        by_cases e : i = k
        · rw [if_pos e, g1 98 (by decide), f2 k (by omega) n (Nat.le_refl _), e]
        · rw [if_neg e]
          exact g2 i (by omega)
    have last0 : (¬ ∀ j, n ≤ j → j < c → M j n = 0) → wp X (0, 0) 191 152 [some (.ref 74), none, some (.int (nI n)), some (.int (nI 0)), some (.int (nI 0)), none, none, none, none] [] iv3 (Ri P) := fun hz =>
      mk_X11_solves_152 ⟨fun _ => ⟨Or.inl rfl, hf (nosolv hz) iv3 (fun a a1 _ => f1 a a1)⟩, fun _ => ⟨fun _ => ⟨Or.inl rfl, hf (nosolv hz) iv3 (fun a a1 _ => f1 a a1)⟩, fun z => absurd rfl z⟩⟩
    have loop : ∀ m j, j + m = c → n ≤ j → (((∀ i, n ≤ i → i < j → M i n = 0) → wp X (0, 0) 191 130 [some (.ref 74), some (.int (nI c)), some (.int (nI n)), some (.int (nI 1)), some (.int (nI j)), none, none, none, none] [] iv3 (Ri P)) ∧ ((¬ ∀ i, n ≤ i → i < j → M i n = 0) → wp X (0, 0) 191 130 [some (.ref 74), some (.int (nI c)), some (.int (nI n)), some (.int (nI 0)), some (.int (nI j)), none, none, none, none] [] iv3 (Ri P))) := by
      intro m
      induction m with
      | zero =>
        intro j hj hnj
        have e : j = c := by omega
        subst e
        refine ⟨fun hz => mk_X11_solves_130 ⟨fun _ => last1 hz n 0 (by omega) iv3 (fun _ _ => rfl) (fun i hi => absurd hi (by omega)), fun z => absurd (nI_le (Nat.le_refl _) (by omega)) z⟩, fun hz => mk_X11_solves_130 ⟨fun _ => last0 hz, fun z => absurd (nI_le (Nat.le_refl _) (by omega)) z⟩⟩
      | succ m ih =>
        intro j hj hnj
        obtain ⟨i1, i2⟩ := ih (j + 1) (by omega) (by omega)
        refine ⟨fun hz => mk_X11_solves_130 ⟨fun z => absurd z (nI_ge (by omega) (by omega)), fun _ => ⟨fun z => absurd z (by decide), fun _ => ?_⟩⟩, fun hz => mk_X11_solves_130 ⟨fun z => absurd z (nI_ge (by omega) (by omega)), fun _ => ⟨fun _ => ?_, fun z => absurd rfl z⟩⟩⟩
        · rw [pk_mul, nI_add, nI_clamp (by omega), f2 j (by omega) n (Nat.le_refl _), nI_add]
          refine ⟨vp_in_nI (by omega) (by decide), fun z => i1 (fun i a1 a2 => ?_), fun z => i2 (fun q => z ((nI_g0 _).mpr (q j hnj (by omega))))⟩
          by_cases e : i = j
          · rw [e]
            exact (nI_g0 _).mp z
          · exact hz i a1 (by omega)
        · rw [nI_add]
          exact i2 (fun q => hz (fun i a1 a2 => q i a1 (by omega)))
    exact (loop (c - n) n (by omega) (Nat.le_refl _)).1 (fun i a1 a2 => absurd a2 (by omega))
  have main : ∀ m k, k + m = n → ∀ (iv3 : IV) (M : Nat → Nat → G), (∀ a, a ≠ 98 → iv3 a = iv a) → TB iv3 M c n → UN M c k → (∀ E, NS M c n E ↔ NS (M0 ps n S) c n E) → wp X (0, 0) 191 6 [some (.ref 74), some (.int (nI c)), some (.int (nI n)), some (.int (nI k)), none, none, none, none, none] [] iv3 (Ri P) := by
    intro m
    induction m with
    | zero =>
      intro k hk iv3 M f1 f2 f3 f4
      have e : k = n := by omega
      subst e
      exact mk_X11_solves_6 ⟨fun _ => fin iv3 M f1 f2 f3 f4, fun z => absurd (nI_le (Nat.le_refl _) (by omega)) z⟩
    | succ m ih =>
      intro k hk iv3 M f1 f2 f3 f4
      have hkn : k < n := by omega
      refine mk_X11_solves_6 ⟨fun z => absurd z (nI_ge hkn (by omega)), fun _ => ?_⟩
      -- a pivot at row a
      have found : ∀ a, k ≤ a → a < c → M a k ≠ 0 → wp X (0, 0) 191 25 [some (.ref 74), some (.int (nI c)), some (.int (nI n)), some (.int (nI k)), some (.int (nI a)), none, none, none, none] [] iv3 (Ri P) := by
        intro a hka hac hMa
        refine mk_X11_solves_25 ⟨fun z => absurd ((nI_eq (by omega) (by omega)).mp z) (by omega), fun _ => sp_swaps (by omega) (by omega) (fun iv4 g1 g2 => ?_)⟩
        let M1 : Nat → Nat → G := fun j i => if j = a then M k i else if j = k then M a i else M j i
        have T4 : TB iv4 M1 c n := fun j hj i hi => by
          rw [g2 j (by omega) i (by omega)]
          show _ = nI (if j = a then M k i else if j = k then M a i else M j i).1
          by_cases e1 : j = a
          · rw [if_pos e1, if_pos e1, f2 k (by omega) i hi]
          · rw [if_neg e1, if_neg e1]
            by_cases e2 : j = k
            · rw [if_pos e2, if_pos e2, f2 a hac i hi]
            · rw [if_neg e2, if_neg e2, f2 j hj i hi]
        have U1 : UN M1 c k := fun i hi j hj => by
          show (if j = a then M k i else if j = k then M a i else M j i) = _
          by_cases e1 : j = a
          · rw [if_pos e1, f3 i hi k (by omega), if_neg (by omega), if_neg (by omega)]
          · rw [if_neg e1]
            by_cases e2 : j = k
            · rw [if_pos e2, f3 i hi a hac, if_neg (by omega), if_neg (by omega)]
            · rw [if_neg e2, f3 i hi j hj]
        have N1 : ∀ E, NS M1 c n E ↔ NS M c n E := fun E => ns_swap hac (by omega) (fun j _ i _ => rfl)
        have hp : M1 k k ≠ 0 := by
          show (if k = a then M k k else if k = k then M a k else M k k) ≠ 0
          by_cases e1 : k = a
          · rw [if_pos e1]
            rw [← e1] at hMa
            exact hMa
          · rw [if_neg e1, if_pos rfl]
            exact hMa
        have hM4 : MF iv4 := MF_of hM (by rw [g1 79 (by decide), f1 79 (by decide)]) (by rw [g1 80 (by decide), f1 80 (by decide)]) (by rw [g1 81 (by decide), f1 81 (by decide)])
        rw [pk_mul, nI_add, nI_clamp (by omega), T4 k (by omega) k (by omega)]
        refine ⟨vp_in_nI (by omega) (by decide), vp_in_nI (M1 k k).2 (by decide), fun v2 h2 => ?_⟩
        rw [nI_clamp (by omega), hM4.2.2 _ hp] at h2
        rw [h2]
        have hgi : gi (M1 k k) ≠ 0 := fun z => by
          have := gm_gi _ hp
          rw [z, gm_0] at this
          exact absurd this (by decide)
        have hgt := gm_gi _ hp
        generalize gi (M1 k k) = t at hgi hgt
        let M2 : Nat → Nat → G := fun j i => if j = k then gm (M1 k i) t else M1 j i
        have N2 : ∀ E, NS M2 c n E ↔ NS M1 c n E := fun E => ns_scale hgi (fun j _ i _ => rfl)
        have z2 : ∀ i, i < k → M2 k i = 0 := fun i hi => by
          show (if k = k then gm (M1 k i) t else M1 k i) = 0
          rw [if_pos rfl, U1 i hi k (by omega), if_neg (by omega), gm_0l]
        have k2 : M2 k k = 1 := by
          show (if k = k then gm (M1 k k) t else M1 k k) = 1
          rw [if_pos rfl, hgt]
        let M3 : Nat → Nat → G := fun j i => if j = k then M2 k i else ga (M2 j i) (gm (M2 j k) (M2 k i))
        have N3 : ∀ E, NS M3 c n E ↔ NS M2 c n E := fun E => ns_add (t := fun j => M2 j k) (by omega) (fun j _ i _ => rfl)
        have U3 : UN M3 c (k + 1) := fun i hi j hj => by
          show (if j = k then M2 k i else ga (M2 j i) (gm (M2 j k) (M2 k i))) = _
          by_cases ei : i = k
          · subst ei
            by_cases ej : j = i
            · rw [if_pos ej, if_pos ej, k2]
            · rw [if_neg ej, if_neg ej, k2, gm_1, ga_self]
          · have hik : i < k := by omega
            by_cases ej : j = k
            · rw [if_pos ej, z2 i hik, if_neg (by omega)]
            · rw [if_neg ej, z2 i hik, gm_0, ga_0]
              show (if j = k then gm (M1 k i) t else M1 j i) = _
              rw [if_neg ej, U1 i hik j hj]
        have done3 : ∀ iv6 : IV, (∀ a, a ≠ 98 → iv6 a = iv a) → TB iv6 M3 c n → wp X (0, 0) 191 6 [some (.ref 74), some (.int (nI c)), some (.int (nI n)), some (.int (nI k + nI 1)), none, none, none, none, none] [] iv6 (Ri P) := fun iv6 h6 T6 => by
          rw [nI_add]
          exact ih (k + 1) (by omega) iv6 M3 h6 T6 U3 (fun E => ((N3 E).trans (N2 E)).trans ((N1 E).trans (f4 E)))
        -- the other rows
        have elim : ∀ m2 j0, j0 + m2 = c → ∀ iv6 : IV, (∀ a, a ≠ 98 → iv6 a = iv a) → (∀ j, j < c → ∀ i, i ≤ n → iv6 98 (7 * j + i) = nI (if j < j0 then M3 j i else M2 j i).1) → wp X (0, 0) 191 74 [some (.ref 74), some (.int (nI c)), some (.int (nI n)), some (.int (nI k)), none, none, some (.int (nI j0)), none, none] [] iv6 (Ri P) := by
          intro m2
          induction m2 with
          | zero =>
            intro j0 hj0 iv6 h6 T6
            refine mk_X11_solves_74 ⟨fun _ => done3 iv6 h6 (fun j hj i hi => ?_), fun z => absurd (nI_le (by omega) (by omega)) z⟩
            rw [T6 j hj i hi, if_pos (by omega)]
          | succ m2 ih2 =>
            intro j0 hj0 iv6 h6 T6
            have next : ∀ iv7 : IV, (∀ a, a ≠ 98 → iv7 a = iv a) → (∀ j, j < c → ∀ i, i ≤ n → iv7 98 (7 * j + i) = nI (if j < j0 + 1 then M3 j i else M2 j i).1) → wp X (0, 0) 191 74 [some (.ref 74), some (.int (nI c)), some (.int (nI n)), some (.int (nI k)), none, none, some (.int (nI j0 + nI 1)), none, none] [] iv7 (Ri P) := fun iv7 h7 T7 => by
              rw [nI_add]
              exact ih2 (j0 + 1) (by omega) iv7 h7 T7
            have same : (∀ i, i ≤ n → M3 j0 i = M2 j0 i) → ∀ j, j < c → ∀ i, i ≤ n → iv6 98 (7 * j + i) = nI (if j < j0 + 1 then M3 j i else M2 j i).1 := fun hs j hj i hi => by
              rw [T6 j hj i hi]
              by_cases e1 : j < j0
              · rw [if_pos e1, if_pos (by omega)]
              · rw [if_neg e1]
                by_cases e2 : j = j0
                · rw [if_pos (by omega), e2, hs i hi]
                · rw [if_neg (by omega)]
            refine mk_X11_solves_74 ⟨fun z => absurd z (nI_ge (by omega) (by omega)), fun _ => ⟨fun z => ?_, fun z => ?_⟩⟩
            · rw [nI_eq (by omega) (by omega)] at z
              refine mk_X11_solves_93 ⟨fun q => absurd q (nI_nlt (by omega) (by omega)), fun _ => ⟨fun _ => next iv6 h6 (same (fun i _ => ?_)), fun q => absurd rfl q⟩⟩
              show (if j0 = k then M2 k i else ga (M2 j0 i) (gm (M2 j0 k) (M2 k i))) = M2 j0 i
              rw [if_pos z, z]
            · rw [nI_eq (by omega) (by omega)] at z
              have e3 : ∀ i, M3 j0 i = ga (M2 j0 i) (gm (M2 j0 k) (M2 k i)) := fun i => by
                show (if j0 = k then M2 k i else ga (M2 j0 i) (gm (M2 j0 k) (M2 k i))) = _
                rw [if_neg z]
              rw [pk_mul, nI_add, nI_clamp (by omega)]
              refine ⟨vp_in_nI (by omega) (by decide), fun v1 hv1 => ?_⟩
              rw [T6 j0 (by omega) k (by omega), if_neg (by omega)] at hv1
              rw [hv1]
              by_cases ht0 : M2 j0 k = 0
              · refine mk_X11_solves_93 ⟨fun q => absurd q (nI_nlt (by omega) (by omega)), fun _ => ⟨fun _ => next iv6 h6 (same (fun i _ => ?_)), fun q => absurd ((nI_g0 _).mpr ht0) q⟩⟩
                rw [e3, ht0, gm_0l, ga_0]
              · have inner : ∀ m3 i0, i0 + m3 = n + 1 → k ≤ i0 → ∀ iv7 : IV, (∀ a, a ≠ 98 → iv7 a = iv a) → (∀ j, j < c → ∀ i, i ≤ n → iv7 98 (7 * j + i) = nI (if j < j0 ∨ (j = j0 ∧ i < i0) then M3 j i else M2 j i).1) → wp X (0, 0) 191 93 [some (.ref 74), some (.int (nI c)), some (.int (nI n)), some (.int (nI k)), none, none, some (.int (nI j0)), some (.int (nI (M2 j0 k).1)), some (.int (nI i0))] [] iv7 (Ri P) := by
                  intro m3
                  induction m3 with
                  | zero =>
                    intro i0 hi0 hki iv7 h7 T7
                    refine mk_X11_solves_93 ⟨fun _ => next iv7 h7 (fun j hj i hi => ?_), fun q => absurd (nI_lt (by omega) (by omega)) q⟩
                    rw [T7 j hj i hi]
                    by_cases e1 : j < j0 + 1
                    · rw [if_pos e1, if_pos (by omega)]
                    · rw [if_neg e1, if_neg (by omega)]
                  | succ m3 ih3 =>
                    intro i0 hi0 hki iv7 h7 T7
                    have hM7 : MF iv7 := MF_of hM (h7 79 (by decide)) (h7 80 (by decide)) (h7 81 (by decide))
                    refine mk_X11_solves_93 ⟨fun q => absurd q (nI_nlt (by omega) (by omega)), fun _ => ⟨fun q => absurd ((nI_g0 _).mp q) ht0, fun _ => ?_⟩⟩
                    have ek : iv7 98 (7 * k + i0) = nI (M2 k i0).1 := by
                      rw [T7 k (by omega) i0 (by omega)]
                      by_cases e1 : k < j0 ∨ (k = j0 ∧ i0 < i0)
                      · rw [if_pos e1]
                        show nI (if k = k then M2 k i0 else _).1 = _
                        rw [if_pos rfl]
                      · rw [if_neg e1]
                    have ej : iv7 98 (7 * j0 + i0) = nI (M2 j0 i0).1 := by
                      rw [T7 j0 (by omega) i0 (by omega), if_neg (by omega)]
                    rw [pk_mul, pk_mul, nI_add, nI_add, nI_clamp (by omega), nI_clamp (by omega), ek, ej]
                    refine ⟨vp_in_nI (by omega) (by decide), vp_in_nI (by omega) (by decide), sp_product hM7 _ _ ⟨vp_in_nI (by omega) (by decide), fun iv8 h8 => ?_⟩⟩
                    rw [nI_ga, ← e3] at h8
                    obtain ⟨t1, t2, t3⟩ := tb_up h8 (by omega)
                    rw [nI_add]
                    refine ih3 (i0 + 1) (by omega) (by omega) iv8 (fun a ha => by rw [t3 a ha, h7 a ha]) (fun j hj i hi => ?_)
                    by_cases e1 : j = j0 ∧ i = i0
                    · rw [e1.1, e1.2, t1, if_pos (by omega)]
                    · rw [t2 j i (by omega) e1, T7 j hj i hi]
                      by_cases e2 : j < j0 ∨ (j = j0 ∧ i < i0)
                      · rw [if_pos e2, if_pos (by omega)]
                      · rw [if_neg e2, if_neg (by omega)]
                refine inner (n + 1 - k) k (by omega) (Nat.le_refl _) iv6 h6 (fun j hj i hi => ?_)
                rw [T6 j hj i hi]
                by_cases e1 : j < j0
                · rw [if_pos e1, if_pos (Or.inl e1)]
                · rw [if_neg e1]
                  by_cases e2 : j = j0 ∧ i < k
                  · rw [if_pos (Or.inr e2), e2.1, e3, z2 i e2.2, gm_0, ga_0]
                  · rw [if_neg (by omega)]
        -- the pivot's row
        have scale : ∀ m2 i0, i0 + m2 = n + 1 → k ≤ i0 → ∀ iv5 : IV, (∀ a, a ≠ 98 → iv5 a = iv a) → (∀ j, j < c → ∀ i, i ≤ n → iv5 98 (7 * j + i) = nI (if j = k ∧ i < i0 then M2 j i else M1 j i).1) → wp X (0, 0) 191 48 [some (.ref 74), some (.int (nI c)), some (.int (nI n)), some (.int (nI k)), none, some (.int (nI t.1)), some (.int (nI i0)), none, none] [] iv5 (Ri P) := by
          intro m2
          induction m2 with
          | zero =>
            intro i0 hi0 hki iv5 h5 T5
            refine mk_X11_solves_48 ⟨fun _ => elim c 0 (by omega) iv5 h5 (fun j hj i hi => ?_), fun q => absurd (nI_lt (by omega) (by omega)) q⟩
            rw [T5 j hj i hi, if_neg (show ¬ j < 0 by omega)]
            by_cases e1 : j = k
            · rw [if_pos ⟨e1, by omega⟩]
            · rw [if_neg (fun q => e1 q.1)]
              show _ = nI (if j = k then gm (M1 k i) t else M1 j i).1
              rw [if_neg e1]
          | succ m2 ih2 =>
            intro i0 hi0 hki iv5 h5 T5
            have hM5 : MF iv5 := MF_of hM (h5 79 (by decide)) (h5 80 (by decide)) (h5 81 (by decide))
            refine mk_X11_solves_48 ⟨fun q => absurd q (nI_nlt (by omega) (by omega)), fun _ => ?_⟩
            rw [pk_mul, nI_add, nI_clamp (by omega), T5 k (by omega) i0 (by omega), if_neg (by omega)]
            refine ⟨vp_in_nI (by omega) (by decide), sp_product hM5 _ _ ⟨vp_in_nI (by omega) (by decide), fun iv6 h6 => ?_⟩⟩
            obtain ⟨t1, t2, t3⟩ := tb_up h6 (by omega)
            rw [nI_add]
            refine ih2 (i0 + 1) (by omega) (by omega) iv6 (fun a ha => by rw [t3 a ha, h5 a ha]) (fun j hj i hi => ?_)
            by_cases e1 : j = k ∧ i = i0
            · rw [e1.1, e1.2, t1, if_pos ⟨rfl, by omega⟩]
              show _ = nI (if k = k then gm (M1 k i0) t else M1 k i0).1
              rw [if_pos rfl]
            · rw [t2 j i (by omega) e1, T5 j hj i hi]
              by_cases e2 : j = k ∧ i < i0
              · rw [if_pos e2, if_pos ⟨e2.1, by omega⟩]
              · rw [if_neg e2, if_neg (by omega)]
        refine scale (n + 1 - k) k (by omega) (Nat.le_refl _) iv4 (fun a ha => by rw [g1 a ha, f1 a ha]) (fun j hj i hi => ?_)
        rw [T4 j hj i hi]
        by_cases e1 : j = k ∧ i < k
        · rw [if_pos e1, e1.1, z2 i e1.2, U1 i e1.2 k (by omega), if_neg (by omega)]
        · rw [if_neg e1]
      -- a pivot is there
      have search : ∀ m2 a, a + m2 = c → k ≤ a → (∀ j, k ≤ j → j < a → M j k = 0) → wp X (0, 0) 191 11 [some (.ref 74), some (.int (nI c)), some (.int (nI n)), some (.int (nI k)), some (.int (nI a)), none, none, none, none] [] iv3 (Ri P) := by
        intro m2
        induction m2 with
        | zero =>
          intro a ha hka hz
          exfalso
          have hE := M0_ns.mp ((f4 _).mp (ns_free hkn f3 (fun j h1 h2 => hz j h1 (by omega))))
          have h0 := places_free hn (fun i hi => (hps i hi).1) hinj (E := frE M k) (fun j hj => by
            have := hE j hj
            rw [frE_gt hkn, gm_0, ga_0] at this
            exact this) k hkn
          rw [frE_at] at h0
          exact absurd h0 (by decide)
        | succ m2 ih2 =>
          intro a ha hka hz
          refine mk_X11_solves_11 ⟨fun q => absurd q (nI_ge (by omega) (by omega)), fun _ => ?_⟩
          rw [pk_mul, nI_add, nI_clamp (by omega), f2 a (by omega) k (by omega), nI_add]
          refine ⟨vp_in_nI (by omega) (by decide), fun q => ih2 (a + 1) (by omega) (by omega) (fun j h1 h2 => ?_), fun q => found a hka (by omega) (fun w => q ((nI_g0 _).mpr w))⟩
          by_cases e : j = a
          · rw [e]
            exact (nI_g0 _).mp q
          · exact hz j h1 (by omega)
      exact search (c - k) k (by omega) (Nat.le_refl _) (fun j h1 h2 => absurd h2 (by omega))
  exact main n 0 (by omega) iv1 (M0 ps n S) e1 T1 (fun i hi => absurd hi (by omega)) (fun E => Iff.rfl)
end SOLVE
