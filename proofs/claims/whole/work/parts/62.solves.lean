/-! THE MODEL'S SOLVING -/
theorem M0_ns {ps : Nat → Nat} {n c : Nat} {S E : Nat → G} : NS (M0 ps n S) c n E ↔ ∀ j, j < c → ga (gs (fun i => gm (E i) (gp (xp (ps i)) j)) n) (gm (S j) (E n)) = 0 := by
  have row : ∀ j, gs (fun i => gm (M0 ps n S j i) (E i)) (n + 1) = ga (gs (fun i => gm (E i) (gp (xp (ps i)) j)) n) (gm (S j) (E n)) := by
    intro j
    rw [gs]
    congr 1
    · refine gs_congr (fun i hi => ?_)
      unfold M0
      rw [if_pos hi, gm_comm]
    · unfold M0
      rw [if_neg (by omega)]
  constructor
  · intro h j hj
    rw [← row j]
    exact h j hj
  · intro h j hj
    rw [row j]
    exact h j hj
section SOLVE
variable {X : Nat × (Nat → Int32)} {iv : IV}
theorem sp_solves {P : Int32 → IV → Prop} {c n : Nat} {ps : Nat → Nat} {S : Nat → G} (hM : MF iv) (hc : c ≤ 6) (hn : n ≤ c) (hps : ∀ k, k < n → ps k < 14 ∧ iv 99 k = nI (ps k)) (hinj : ∀ i j, i < n → j < n → ps i = ps j → i = j) (hS : ∀ j, j < c → iv 97 j = nI (S j).1) (ht : ∀ e : Nat → G, (∀ j, j < c → gs (fun i => gm (e i) (gp (xp (ps i)) j)) n = S j) → ∀ iv', (∀ a, a ≠ 98 → a ≠ 100 → iv' a = iv a) → (∀ k, k < n → iv' 100 k = nI (e k).1) → P (nI 1) iv') (hf : (¬ ∃ e : Nat → G, ∀ j, j < c → gs (fun i => gm (e i) (gp (xp (ps i)) j)) n = S j) → ∀ iv', (∀ a, a ≠ 98 → a ≠ 100 → iv' a = iv a) → P (nI 0) iv') : wc X 191 [.ref 74, .int (nI c), .int (nI n)] iv (Ri P) := by
  refine mk_X11_solves (sp_equations hM hc (by omega) hps hS (fun iv1 e1 T1 => ?_))
  -- the end
  have fin : ∀ (iv3 : IV) (M : Nat → Nat → G), (∀ a, a ≠ 98 → iv3 a = iv a) → TB iv3 M c n → UN M c n → (∀ E, NS M c n E ↔ NS (M0 ps n S) c n E) → wp X (0, 0) 191 130 [some (.ref 74), some (.int (nI c)), some (.int (nI n)), some (.int (nI 1)), some (.int (nI n)), none, none, none, none] [] iv3 (Ri P) := by
    intro iv3 M f1 f2 f3 f4
    have solv : (∀ j, n ≤ j → j < c → M j n = 0) → ∀ j, j < c → gs (fun i => gm (M i n) (gp (xp (ps i)) j)) n = S j := by
      intro hz
      have h1 : NS M c n (fun i => if i < n then M i n else 1) := (ns_end hn f3 (if_neg (by omega))).mpr ⟨hz, fun j hj => if_pos hj⟩
      have h2 := M0_ns.mp ((f4 _).mp h1)
      intro j hj
      have h3 := ga_eq0 _ _ (h2 j hj)
      rw [if_neg (Nat.lt_irrefl n), gm_1] at h3
      rw [← h3]
      exact gs_congr (fun i hi => by rw [if_pos hi])
    have nosolv : (¬ ∀ j, n ≤ j → j < c → M j n = 0) → ¬ ∃ e : Nat → G, ∀ j, j < c → gs (fun i => gm (e i) (gp (xp (ps i)) j)) n = S j := by
      rintro hz ⟨e, he⟩
      apply hz
      have h1 : NS (M0 ps n S) c n (fun i => if i < n then e i else 1) := M0_ns.mpr (fun j hj => by
        rw [if_neg (Nat.lt_irrefl n), gm_1, gs_congr (g := fun i => gm (e i) (gp (xp (ps i)) j)) (fun i hi => by rw [if_pos hi]), he j hj, ga_self])
      exact ((ns_end hn f3 (if_neg (by omega))).mp ((f4 _).mpr h1)).1
    have last1 : (∀ j, n ≤ j → j < c → M j n = 0) → ∀ m k, k + m = n → ∀ iv4 : IV, (∀ a, a ≠ 100 → iv4 a = iv3 a) → (∀ i, i < k → iv4 100 i = nI (M i n).1) → wp X (0, 0) 191 152 [some (.ref 74), none, some (.int (nI n)), some (.int (nI 1)), some (.int (nI k)), none, none, none, none] [] iv4 (Ri P) := by
      intro hz m
      induction m with
      | zero =>
        intro k hk iv4 g1 g2
        refine mk_X11_solves_152 ⟨fun _ => ⟨Or.inr rfl, ?_⟩, fun z => absurd (nI_le (by omega) (by omega)) z⟩
        exact ht (fun i => M i n) (solv hz) iv4 (fun a a1 a2 => by rw [g1 a a2, f1 a a1]) (fun k' hk' => g2 k' (by omega))
      | succ m ih =>
        intro k hk iv4 g1 g2
        refine mk_X11_solves_152 ⟨fun z => absurd z (nI_ge (by omega) (by omega)), fun _ => ⟨fun z => absurd z (by decide), fun _ => ?_⟩⟩
        rw [pk_mul, nI_add, nI_clamp (by omega), nI_clamp (by omega)]
        refine ⟨vp_in_nI (by omega) (by decide), vp_in_nI (by omega) (by decide), fun iv5 h5 => ?_⟩
        rw [nI_add]
        rw [up_row] at h5
        refine ih (k + 1) (by omega) iv5 (fun a ha => by rw [h5, row_ne ha, g1 a ha]) (fun i hi => ?_)
        rw [h5, row_at]
        by_cases e : i = k
        · rw [if_pos e, g1 98 (by decide), f2 k (by omega) n (Nat.le_refl _), e]
        · rw [if_neg e]
          exact g2 i (by omega)
    have last0 : (¬ ∀ j, n ≤ j → j < c → M j n = 0) → wp X (0, 0) 191 152 [some (.ref 74), none, some (.int (nI n)), some (.int (nI 0)), some (.int (nI 0)), none, none, none, none] [] iv3 (Ri P) := fun hz =>
      mk_X11_solves_152 ⟨fun _ => ⟨Or.inl rfl, hf (nosolv hz) iv3 (fun a a1 _ => f1 a a1)⟩, fun _ => ⟨fun _ => ⟨Or.inl rfl, hf (nosolv hz) iv3 (fun a a1 _ => f1 a a1)⟩, fun z => absurd rfl z⟩⟩
    have loop : ∀ m j, j + m = c → n ≤ j → (((∀ i, n ≤ i → i < j → M i n = 0) → wp X (0, 0) 191 130 [some (.ref 74), some (.int (nI c)), some (.int (nI n)), some (.int (nI 1)), some (.int (nI j)), none, none, none, none] [] iv3 (Ri P)) ∧ ((¬ ∀ i, n ≤ i → i < j → M i n = 0) → wp X (0, 0) 191 130 [some (.ref 74), some (.int (nI c)), some (.int (nI n)), some (.int (nI 0)), some (.int (nI j)), none, none, none, none] [] iv3 (Ri P))) := by
      intro m
      induction m with
      | zero =>
        intro j hj hnj
        have e : j = c := by omega
        subst e
        refine ⟨fun hz => mk_X11_solves_130 ⟨fun _ => last1 hz n 0 (by omega) iv3 (fun _ _ => rfl) (fun i hi => absurd hi (by omega)), fun z => absurd (nI_le (Nat.le_refl _) (by omega)) z⟩, fun hz => mk_X11_solves_130 ⟨fun _ => last0 hz, fun z => absurd (nI_le (Nat.le_refl _) (by omega)) z⟩⟩
      | succ m ih =>
        intro j hj hnj
        obtain ⟨i1, i2⟩ := ih (j + 1) (by omega) (by omega)
        refine ⟨fun hz => mk_X11_solves_130 ⟨fun z => absurd z (nI_ge (by omega) (by omega)), fun _ => ⟨fun z => absurd z (by decide), fun _ => ?_⟩⟩, fun hz => mk_X11_solves_130 ⟨fun z => absurd z (nI_ge (by omega) (by omega)), fun _ => ⟨fun _ => ?_, fun z => absurd rfl z⟩⟩⟩
        · rw [pk_mul, nI_add, nI_clamp (by omega), f2 j (by omega) n (Nat.le_refl _), nI_add]
          refine ⟨vp_in_nI (by omega) (by decide), fun z => i1 (fun i a1 a2 => ?_), fun z => i2 (fun q => z ((nI_g0 _).mpr (q j hnj (by omega))))⟩
          by_cases e : i = j
          · rw [e]
            exact (nI_g0 _).mp z
          · exact hz i a1 (by omega)
        · rw [nI_add]
          exact i2 (fun q => hz (fun i a1 a2 => q i a1 (by omega)))
    exact (loop (c - n) n (by omega) (Nat.le_refl _)).1 (fun i a1 a2 => absurd a2 (by omega))
  sorry
end SOLVE
