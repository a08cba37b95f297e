/-! MENDING, WHOLE -/
theorem nodup_getD : ∀ (l : List Nat), l.Nodup → ∀ i j, i < l.length → j < l.length → l.getD i 0 = l.getD j 0 → i = j := by
  intro l
  induction l with
  | nil => intro _ i j hi; exact absurd hi (by simp)
  | cons a l ih =>
    intro hn i j hi hj he
    have hn' := List.nodup_cons.mp hn
    have hm : ∀ k, k < l.length → l.getD k 0 ∈ l := fun k hk => by
      rw [List.getD_eq_getElem?_getD, List.getElem?_eq_getElem hk]
      exact List.getElem_mem hk
    cases i with
    | zero =>
      cases j with
      | zero => rfl
      | succ j =>
        exfalso
        have : a = l.getD j 0 := by simpa using he
        exact hn'.1 (by rw [this]; exact hm j (by simpa using hj))
    | succ i =>
      cases j with
      | zero =>
        exfalso
        have : l.getD i 0 = a := by simpa using he
        exact hn'.1 (by rw [← this]; exact hm i (by simpa using hi))
      | succ j =>
        have := ih hn'.2 i j (by simpa using hi) (by simpa using hj) (by simpa using he)
        omega
theorem getD_mem {l : List Nat} {i : Nat} (h : i < l.length) : l.getD i 0 ∈ l := by
  rw [List.getD_eq_getElem?_getD, List.getElem?_eq_getElem h]
  exact List.getElem_mem h
theorem mem_getD {l : List Nat} {p : Nat} (h : p ∈ l) : ∃ i, i < l.length ∧ l.getD i 0 = p := by
  obtain ⟨i, hi, he⟩ := List.getElem_of_mem h
  exact ⟨i, hi, by rw [List.getD_eq_getElem?_getD, List.getElem?_eq_getElem hi]; exact he⟩
theorem gl_nodup (g : Nat → Bool) (n : Nat) : (gl g n).Nodup := List.Pairwise.filter _ List.nodup_range
theorem ct_1514 {n : Nat} (h : n < 2 ^ 14) : ct (gb n) 15 = ct (gb n) 14 := by
  show ct (gb n) 14 + _ = _
  rw [show gb n 14 = false from Nat.testBit_lt_two_pow h]
  rfl
section MEND5
variable {X : Nat × (Nat → Int32)} {iv : IV}
set_option maxHeartbeats 2000000 in
theorem sp_mend {P : Int32 → IV → Prop} {r1 r4 n c : Nat} {v : Nat → G} (k1 : kdT r1 = (1, 14)) (k4 : kdT r4 = (1, 14)) (hr1 : ¬ (14 ≤ r1 ∧ r1 ≤ 20)) (hr4 : ¬ (14 ≤ r4 ∧ r4 ≤ 20)) (hn : n < 2 ^ 14) (hc : c ≤ 6) (hv : ∀ p, p < 14 → iv r1 p = nI (v p).1) (hy : ∀ r d, Fix c v (gb n) r d → ∀ iv', (∀ a, ¬ (14 ≤ a ∧ a ≤ 20) → a ≠ r4 → iv' a = iv a) → (∀ p, p < 14 → iv' r4 p = nI (r p).1) → P (nI d) iv') (hno : (¬ ∃ r d, Fix c v (gb n) r d) → ∀ iv', (∀ a, ¬ (14 ≤ a ∧ a ≤ 20) → a ≠ r4 → iv' a = iv a) → P (nI 4294967295) iv') : wc X 26 [.ref 14, .ref r1, .int (nI n), .int (nI c), .ref r4] iv (Ri P) := by
  refine mk_X4_mend k4 k1 (sp_bitCount (by omega) ?_)
  rw [ct_1514 hn]
  have hb14 := ct_bound (gb n) 14
  by_cases hgc : ct (gb n) 14 ≤ c
  · rw [pk_sub hgc]
    refine ⟨fun _ => ⟨cp_ok 14 (by decide), fun iv3 h3 => ?_⟩, fun z => absurd (nI_pos' (by omega)) z⟩
    rw [nI_clamp (n := 0) (by decide), nI_clamp (n := 14) (by decide)] at h3
    have g3 : ∀ a, a ≠ r4 → iv3 a = iv a := fun a ha => by rw [h3, row_ne ha]
    have v4 : ∀ p, p < 14 → iv3 r4 p = nI (v p).1 := fun p hp => by rw [h3, row_at, cpy_at hp, hv p hp]
    have v1 : ∀ p, p < 14 → iv3 r1 p = nI (v p).1 := fun p hp => by
      by_cases er : r1 = r4
      · rw [er]; exact v4 p hp
      · rw [g3 r1 er]; exact hv p hp
    refine sp_sumUp k1 (by omega) hc v1 ?_
    generalize hi4 : mm_row iv3 15 (fun j => if j < c then nI (pw v j).1 else iv3 15 j) = iv4
    have g4 : ∀ a, a ≠ 15 → iv4 a = iv3 a := fun a ha => by rw [← hi4, row_ne ha]
    have s4 : ∀ j, j < c → iv4 15 j = nI (pw v j).1 := fun j hj => by rw [← hi4, row_at, if_pos hj]
    refine sp_wantGone hn hc hgc s4 (fun iv5 g5 w5 s5 => ?_)
    refine sp_locate (s := pv v (gl (gb n) 14)) (by omega) (fun k hk => s5 k (by omega)) (fun iv6 C L g6 C6 C0 Cd Ll Cz Cm => ?_)
    have hyes : ∀ r d, Fix c v (gb n) r d → L = d ∧ 2 * L ≤ c - ct (gb n) 14 ∧ ∀ p, p < 14 → gb n p = false → (ev C (gi (xp p)) (L + 1) = 0 ↔ r p ≠ v p) := fun r d hF => mend_yes hF C0 Cd Cz Cm
    have fr6 : ∀ a, ¬ (14 ≤ a ∧ a ≤ 20) → a ≠ r4 → iv6 a = iv a := fun a h1 h2 => by
      rw [g6 a (by omega) (by omega) (by omega), g5 a (by omega) (by omega) (by omega), g4 a (by omega), g3 a h2]
    rw [pk_mul]
    refine ⟨fun z => ?_, fun z => ?_⟩
    · rw [nI_ltI (by omega) (by omega)] at z
      refine hno (fun q => ?_) iv6 fr6
      obtain ⟨r, d, hF⟩ := q
      have := (hyes r d hF).2.1
      omega
    · rw [nI_ltI (by omega) (by omega)] at z
      have w6 : WL iv6 (gl (gb n) 14) := ⟨by rw [g6 14 (by decide) (by decide) (by decide)]; exact w5.1, fun i hi => by rw [g6 20 (by decide) (by decide) (by decide)]; exact w5.2 i hi⟩
      refine sp_wantLocated hn (by omega) C6 C0 Cd w6 (fun hct iv7 g7 w7 => ?_) (fun hct iv7 g7 => ?_)
      · refine ⟨fun q => absurd q (by decide), fun _ => ?_⟩
        obtain ⟨e, e1, e2, hF⟩ := mend_sound (R := rt n L C) C0 Cd Cz Cm hgc (by omega) (fun p _ hR => by
            unfold rt at hR
            rw [Bool.and_eq_true] at hR
            exact ⟨by simpa using hR.1, of_decide_eq_true hR.2⟩) (fun p hg => by unfold rt; rw [hg]; rfl) hct
        have hmem : ∀ p, p ∈ gl (gb n) 14 ++ gl (rt n L C) 14 ↔ p < 14 ∧ (gb n p = true ∨ rt n L C p = true) := fun p => by
          rw [List.mem_append, gl_mem, gl_mem]
          constructor
          · rintro (q | q)
            · exact ⟨q.1, Or.inl q.2⟩
            · exact ⟨q.1, Or.inr q.2⟩
          · rintro ⟨q1, q2 | q2⟩
            · exact Or.inl ⟨q1, q2⟩
            · exact Or.inr ⟨q1, q2⟩
        have hnd : (gl (gb n) 14 ++ gl (rt n L C) 14).Nodup := by
          refine List.nodup_append.mpr ⟨gl_nodup _ _, gl_nodup _ _, ?_⟩
          intro a ha b hb hab
          rw [gl_mem] at ha hb
          subst hab
          have := hb.2
          unfold rt at this
          rw [ha.2] at this
          cases this
        have fr7 : ∀ a, a ≠ 14 → a ≠ 20 → a ≠ 17 → a ≠ 18 → a ≠ 19 → a ≠ 16 → iv7 a = iv4 a := fun a h1 h2 h3 h4 h5 h6 => by
          rw [g7 a h1 h2, g6 a h3 h4 h5, g5 a h1 h6 h2]
        refine sp_correct (v := v) (e := e) k4 ⟨by omega, by omega, by omega, by omega⟩ hc w7 (by rw [List.length_append, gl_len, gl_len]; omega) (fun i hi => ((hmem _).mp (getD_mem hi)).1) (nodup_getD _ hnd) (fun j hj => ?_) e2 (fun p hp hno' => ?_) (fun p hp => ?_) (fun iv8 g8 r8 => ?_)
        · rw [fr7 15 (by decide) (by decide) (by decide) (by decide) (by decide) (by decide)]
          exact s4 j hj
        · refine e1 p hp ?_ ?_
          · cases hR : rt n L C p with
            | false => rfl
            | true =>
              obtain ⟨i, hi, hip⟩ := mem_getD ((hmem p).mpr ⟨hp, Or.inr hR⟩)
              exact absurd hip (hno' i hi)
          · cases hR : gb n p with
            | false => rfl
            | true =>
              obtain ⟨i, hi, hip⟩ := mem_getD ((hmem p).mpr ⟨hp, Or.inl hR⟩)
              exact absurd hip (hno' i hi)
        · rw [fr7 r4 (by omega) (by omega) (by omega) (by omega) (by omega) (by omega), g4 r4 (by omega)]
          exact v4 p hp
        · refine hy _ L hF iv8 (fun a h1 h2 => ?_) r8
          rw [g8 a (by omega) h2, g7 a (by omega) (by omega)]
          exact fr6 a h1 h2
      · refine ⟨fun _ => ?_, fun q => absurd rfl q⟩
        refine hno (fun q => ?_) iv7 (fun a h1 h2 => by rw [g7 a (by omega) (by omega)]; exact fr6 a h1 h2)
        obtain ⟨r, d, hF⟩ := q
        obtain ⟨y1, y2, y3⟩ := hyes r d hF
        refine hct (Eq.trans ?_ (hF.2.1.trans y1.symm))
        refine ct_congr (fun p hp => ?_)
        unfold rt
        cases hg : gb n p with
        | true => rfl
        | false =>
          by_cases hrv : r p = v p
          · simp [hrv, (not_congr (y3 p hp hg)).mpr (fun q => q hrv)]
          · simp [hrv, (y3 p hp hg).mpr hrv]
  · refine ⟨fun z => ?_, fun _ => ?_⟩
    · exfalso
      have h1 := pk_sneg (a := c) (b := ct (gb n) 14) (by omega) (by omega)
      rw [Int32.lt_iff_toInt_lt] at h1
      rw [Int32.le_iff_toInt_le] at z
      omega
    · refine hno (fun q => ?_) iv (fun _ _ _ => rfl)
      obtain ⟨r, d, hF⟩ := q
      have := hF.2.2
      omega
end MEND5
