/-! SHEETS -/
theorem CI_sh {iv iv' : IV} {T : TX} {D : DM} {S S' : SH} {F : Int32} (h : CI iv T D S F) (hS : CSh iv' S') (ho : ∀ a, a < 66 → iv' a = iv a) : CI iv' T D S' F :=
  ⟨CTx_of h.1 (ho 2 (by decide)) (ho 3 (by decide)) (ho 4 (by decide)) (ho 5 (by decide)), WY_of h.2.1 (ho 11 (by decide)) (ho 12 (by decide)) (ho 13 (by decide)), SYr_of h.2.2.1 (fun a q1 q2 => ho a (by omega)), ⟨CDr_of h.2.2.2.1.1 (ho 7 (by decide)) (ho 8 (by decide)), CAc_of h.2.2.2.1.2 (ho 6 (by decide)) (ho 9 (by decide))⟩, hS, by rw [ho 1 (by decide)]; exact h.2.2.2.2.2.1, CSt_of h.2.2.2.2.2.2 (by rw [ho 1 (by decide)]) (fun a q1 q2 => ho a (by omega))⟩
theorem MI_sh {iv iv' : IV} {T : TX} {D : DM} {S S' : SH} {F : Int32} (h : MI iv T D S F) (hS : MSh iv' S') (ho : ∀ a, 74 ≤ a → ¬ (75 ≤ a ∧ a ≤ 78) → iv' a = iv a) : MI iv' T D S' F :=
  ⟨MTx_of h.1 (ho 82 (by decide) (by decide)) (ho 83 (by decide) (by decide)) (ho 84 (by decide) (by decide)), ⟨MDr_of h.2.1.1 (ho 91 (by decide) (by decide)) (ho 92 (by decide) (by decide)), MAc_of h.2.1.2 (by rw [ho 74 (by decide) (by decide)]) (ho 93 (by decide) (by decide))⟩, hS, by rw [ho 74 (by decide) (by decide)]; exact h.2.2.2⟩
def u1 {α : Type} (f : Nat → α) (s : Nat) (v : α) : Nat → α := fun q => if q = s then v else f q
theorem u1_at {α : Type} (f : Nat → α) (s : Nat) (v : α) : u1 f s v s = v := if_pos rfl
theorem u1_ne {α : Type} {f : Nat → α} {s q : Nat} {v : α} (h : q ≠ s) : u1 f s v q = f q := if_neg h
def shN (S : SH) (s f n : Nat) : SH := (u1 S.1 s f, u1 S.2.1 s n, u1 S.2.2 s (fun _ => nI 0))
def shL (S : SH) (s : Nat) : SH := (u1 S.1 s 3, S.2.1, S.2.2)
def shI (S : SH) (s : Nat) (g : Nat → Int32) : SH := (S.1, S.2.1, u1 S.2.2 s g)
theorem no_m1 : ¬ (0 : Int32) ≤ nI 4294967295 := by decide
section SHEETS
variable {X : Nat × (Nat → Int32)} {iv : IV}
theorem op_sheet {x y z : Int32} (h : INV iv) : LSt X 87 128 [.int x, .int y, .int z] iv := by
  intro Q hQ
  have hI := h
  obtain ⟨T, D, S, F, hC, hM⟩ := h
  rcases rng x 4 (by decide) with hx | ⟨s, hs, rfl⟩
  · exact mk_X10_sheet (wi_f hx ⟨fun _ => mk_X11_sheet (isSheet_f hx ⟨fun _ => ⟨rfl, hQ _ hI⟩, fun z => absurd rfl z⟩), fun z => absurd rfl z⟩)
  · rcases rng y 3 (by decide) with hy | ⟨f, hf, rfl⟩
    · exact mk_X10_sheet (wi_t hs (by decide) ⟨fun z => absurd z (by decide), fun _ => wi_f hy ⟨fun _ => mk_X11_sheet (isSheet_t hs ⟨fun z => absurd z (by decide), fun _ => in_f (by decide) hy ⟨fun _ => ⟨rfl, hQ _ hI⟩, fun z => absurd rfl z⟩⟩), fun z => absurd rfl z⟩⟩)
    · refine mk_X10_sheet (wi_t hs (by decide) ⟨fun z => absurd z (by decide), fun _ => wi_t hf (by decide) ⟨fun z => absurd z (by decide), fun _ => ⟨fun z1 => ⟨fun z2 => ?_, fun z2 => ?_⟩, fun z1 => ?_⟩⟩⟩)
      · obtain ⟨n, hn, rfl⟩ : ∃ n, n ≤ 60 ∧ z = nI n := nI_of2 (n := 60) (by decide) (fun q => by
          rw [Int32.lt_iff_toInt_lt] at q
          rw [Int32.le_iff_toInt_le] at z2
          omega) z1
        obtain ⟨k1, k2, k3, k4⟩ := k65 hs
        refine ⟨vp_in_nI hs (by decide), fun a5 h5 => ?_⟩
        rw [nI_clamp (by omega), k1] at h5
        subst h5
        refine ⟨k2, mk_X6_renew k2 (fun iv1 h1 iv2 h2 iv3 h3 => ?_)⟩
        rw [up_row] at h1 h2 h3
        refine lup (τ := IV) (W := fun k iv4 => wp X (0, 0) 46 11 [some (.ref (66 + 2 * s)), none, none, some (.int (nI k))] [] iv4 (Rv (fun iv6 => wc X 128 [.ref 74, .int (nI s), .int (nI f), .int (nI n)] iv6 (Ri (fun w iv2 => nI n = w ∧ Q iv2))))) (I := fun k iv4 => (∀ a, a ≠ 67 + 2 * s → iv4 a = iv3 a) ∧ ∀ i, i < k → iv4 (67 + 2 * s) i = nI 0) 60 ?_ ?_ 60 0 iv3 rfl ⟨fun _ _ => rfl, fun i hi => absurd hi (by omega)⟩
        · rintro iv4 ⟨a4, b4⟩
          refine mk_X6_renew_11 k2 (by rw [k3]; exact k4) ⟨fun _ => ?_, fun z => absurd (nI_le (Nat.le_refl 60) (by decide)) z⟩
          have A4 : ∀ a, a ≠ 66 + 2 * s → a ≠ 67 + 2 * s → iv4 a = iv a := fun a q1 q2 => by rw [a4 a q2, h3, row_ne q1, h2, row_ne q1, h1, row_ne q1]
          have hC4 : CI iv4 T D (shN S s f n) F := by
            refine CI_sh hC (fun q hq => ?_) (fun a ha => A4 a (by omega) (by omega))
            by_cases e : q = s
            · subst e
              refine ⟨fun _ => ⟨?_, ?_, ?_, ?_, fun i hi => ?_⟩, fun z => absurd (show u1 S.1 q f q < 3 by rw [u1_at]; exact hf) z⟩
              · rw [a4 _ (by omega), h3, row_at, if_neg (by decide), h2, row_at, if_neg (by decide), h1, row_at, if_pos rfl]
              · rw [a4 _ (by omega), h3, row_at, if_neg (by decide), h2, row_at, if_pos rfl]
                show nI f = nI (u1 S.1 q f q)
                rw [u1_at]
              · rw [a4 _ (by omega), h3, row_at, if_pos rfl]
                show nI n = nI (u1 S.2.1 q n q)
                rw [u1_at]
              · show u1 S.2.1 q n q ≤ 60
                rw [u1_at]; exact hn
              · have hi : i < u1 S.2.1 q n q := hi
                rw [u1_at] at hi
                rw [b4 i (by omega)]
                show nI 0 = u1 S.2.2 q _ q i
                rw [u1_at]
            · have e1 : (shN S s f n).1 q = S.1 q := u1_ne e
              have e2 : (shN S s f n).2.1 q = S.2.1 q := u1_ne e
              have e3 : (shN S s f n).2.2 q = S.2.2 q := u1_ne e
              rw [e1, e2, e3, A4 _ (by omega) (by omega), A4 _ (by omega) (by omega)]
              exact hC.2.2.2.2.1 q hq
          have hM4 : MI iv4 T D S F := MI_hi hM (fun a ha => A4 a (by omega) (by omega))
          refine mk_X11_sheet (isSheet_t hs ⟨fun z => absurd z (by decide), fun _ => in_t (by omega) (by decide) ⟨fun z => absurd z (by decide), fun _ => ⟨fun _ => ⟨fun _ => ⟨vp_in_nI hs (by decide), fun iv5 h5 => ⟨vp_in_nI hs (by decide), fun iv6 h6 => ?_⟩⟩, fun z => absurd z2 z⟩, fun z => absurd z1 z⟩⟩⟩)
          rw [nI_clamp (by omega), up_row] at h5 h6
          refine lup (τ := IV) (W := fun k iv7 => wp X (0, 0) 128 32 [some (.ref 74), some (.int (nI s)), none, some (.int (nI n)), some (.int (nI k))] [] iv7 (Ri (fun w iv2 => nI n = w ∧ Q iv2))) (I := fun k iv7 => (∀ a, a ≠ 77 → iv7 a = iv6 a) ∧ (∀ q, ¬ (60 * s ≤ q ∧ q < 60 * s + k) → iv7 77 q = iv6 77 q) ∧ ∀ i, i < k → iv7 77 (60 * s + i) = nI 0) n ?_ ?_ n 0 iv6 (by omega) ⟨fun _ _ => rfl, fun _ _ => rfl, fun i hi => absurd hi (by omega)⟩
          · rintro iv7 ⟨a7, c7, b7⟩
            refine mk_X11_sheet_32 ⟨fun _ => ⟨rfl, hQ _ ⟨T, D, shN S s f n, F, CI_of hC4 (fun a ha => by rw [a7 a (by omega), h6, row_ne (by omega), h5, row_ne (by omega)]), MI_sh hM4 (fun q hq => ?_) (fun a q1 q2 => by rw [a7 a (by omega), h6, row_ne (by omega), h5, row_ne (by omega)])⟩⟩, fun z => absurd (nI_le (Nat.le_refl _) (by omega)) z⟩
            by_cases e : q = s
            · subst e
              refine ⟨fun _ => ⟨?_, ?_, ?_, fun i hi => ?_⟩, fun z => absurd (show u1 S.1 q f q < 3 by rw [u1_at]; exact hf) z⟩
              · rw [a7 75 (by decide), h6, row_ne (by decide), h5, row_at, if_pos rfl]
                show nI f = nI (u1 S.1 q f q)
                rw [u1_at]
              · rw [a7 76 (by decide), h6, row_at, if_pos rfl]
                show nI n = nI (u1 S.2.1 q n q)
                rw [u1_at]
              · show u1 S.2.1 q n q ≤ 60
                rw [u1_at]; exact hn
              · have hi : i < u1 S.2.1 q n q := hi
                rw [u1_at] at hi
                rw [b7 i hi]
                show nI 0 = u1 S.2.2 q _ q i
                rw [u1_at]
            · have e1 : (shN S s f n).1 q = S.1 q := u1_ne e
              have e2 : (shN S s f n).2.1 q = S.2.1 q := u1_ne e
              have e3 : (shN S s f n).2.2 q = S.2.2 q := u1_ne e
              have hq' := hM4.2.2.1 q hq
              rw [e1, e2, e3, a7 75 (by decide), a7 76 (by decide), h6, row_ne (by decide), row_at, if_neg e, h5, row_at, if_neg e, row_ne (by decide)]
              refine ⟨fun z => ?_, hq'.2⟩
              obtain ⟨r1, r2, r3, r4⟩ := hq'.1 z
              refine ⟨r1, r2, r3, fun i hi => ?_⟩
              rw [c7 _ (by omega), h6, row_ne (by decide), h5, row_ne (by decide)]
              exact r4 i hi
          · rintro k iv7 hk ⟨a7, c7, b7⟩ nx
            refine mk_X11_sheet_32 ⟨fun z => absurd z (nI_ge hk (by omega)), fun _ => ?_⟩
            rw [pk_mul, nI_add, nI_clamp (by omega), nI_add]
            refine ⟨vp_in_nI (by omega) (by decide), fun iv8 h8 => ?_⟩
            rw [up_row] at h8
            refine nx iv8 ⟨fun a ha => by rw [h8, row_ne ha, a7 a ha], fun q hq => by rw [h8, row_at, if_neg (by omega)]; exact c7 q (by omega), fun i hi => ?_⟩
            rw [h8, row_at]
            by_cases e : i = k
            · rw [if_pos (by omega)]
            · rw [if_neg (by omega)]; exact b7 i (by omega)
        · rintro k iv4 hk ⟨a4, b4⟩ nx
          refine mk_X6_renew_11 k2 (by rw [k3]; exact k4) ⟨fun z => absurd z (nI_ge hk (by decide)), fun _ => ⟨vp_in_nI hk (by decide), fun iv5 h5 => ?_⟩⟩
          rw [nI_clamp (by omega), k3, up_row] at h5
          rw [nI_add]
          refine nx iv5 ⟨fun a ha => by rw [h5, row_ne ha, a4 a ha], fun i hi => ?_⟩
          rw [h5, row_at]
          by_cases e : i = k
          · rw [if_pos e]
          · rw [if_neg e]; exact b4 i (by omega)
      · exact mk_X10_found (fun iv1 h1 => mk_X11_sheet (isSheet_t hs ⟨fun z => absurd z (by decide), fun _ => in_t (by omega) (by decide) ⟨fun z => absurd z (by decide), fun _ => ⟨fun _ => ⟨fun z => absurd z z2, fun _ => mk_X11_finds (fun iv2 h2 => ⟨rfl, hQ _ (find_fin hC hM h1 h2)⟩)⟩, fun z => absurd z1 z⟩⟩⟩))
      · exact mk_X11_sheet (isSheet_t hs ⟨fun z => absurd z (by decide), fun _ => in_t (by omega) (by decide) ⟨fun z => absurd z (by decide), fun _ => ⟨fun z => absurd z z1, fun _ => ⟨rfl, hQ _ hI⟩⟩⟩⟩)
theorem op_lose {x : Int32} (h : INV iv) : LSt X 88 129 [.int x] iv := by
  intro Q hQ
  have hI := h
  obtain ⟨T, D, S, F, hC, hM⟩ := h
  rcases rng x 4 (by decide) with hx | ⟨s, hs, rfl⟩
  · exact mk_X10_lose (wi_f hx ⟨fun _ => mk_X11_lose (isSheet_f hx ⟨fun _ => ⟨rfl, hQ _ hI⟩, fun z => absurd rfl z⟩), fun z => absurd rfl z⟩)
  · obtain ⟨k1, k2, k3, k4⟩ := k65 hs
    have cs := hC.2.2.2.2.1 s hs
    have ms := hM.2.2.1 s hs
    refine mk_X10_lose (wi_t hs (by decide) ⟨fun z => absurd z (by decide), fun _ => ⟨vp_in_nI hs (by decide), fun a3 h3 => ?_⟩⟩)
    rw [nI_clamp (by omega), k1] at h3
    subst h3
    refine ⟨k2, ?_⟩
    by_cases hf : S.1 s < 3
    · obtain ⟨c1, c2, c3, c4, c5⟩ := cs.1 hf
      obtain ⟨m1, m2, m3, m4⟩ := ms.1 hf
      rw [c1]
      refine ⟨fun z => absurd z (by decide), fun _ => ⟨vp_in_nI hs (by decide), fun a6 h6 => ?_⟩⟩
      rw [nI_clamp (by omega), k1] at h6
      subst h6
      refine ⟨k2, fun iv1 h1 => ⟨vp_in_nI hs (by decide), fun a8 h8 => ?_⟩⟩
      rw [nI_clamp (by omega), k1] at h8
      subst h8
      rw [up_row] at h1
      refine ⟨k2, ?_⟩
      have hC1 : CI iv1 T D (shL S s) F := by
        refine CI_sh hC (fun q hq => ?_) (fun a ha => by rw [h1, row_ne (by omega)])
        by_cases e : q = s
        · subst e
          refine ⟨fun z => absurd (show u1 S.1 q 3 q < 3 from z) (by rw [u1_at]; decide), fun _ => by rw [h1, row_at, if_pos rfl]⟩
        · have e1 : (shL S s).1 q = S.1 q := u1_ne e
          rw [e1, h1, row_ne (by omega), row_ne (by omega)]
          exact hC.2.2.2.2.1 q hq
      have hM1 : MI iv1 T D S F := MI_hi hM (fun a ha => by rw [h1, row_ne (by omega)])
      have e2 : iv1 (66 + 2 * s) 2 = nI (S.2.1 s) := by rw [h1, row_at, if_neg (by decide)]; exact c3
      rw [e2]
      have e75 : iv1 75 = iv 75 := by rw [h1, row_ne (by omega)]
      have e76 : iv1 76 = iv 76 := by rw [h1, row_ne (by omega)]
      refine mk_X11_lose (isSheet_t hs ⟨fun z => absurd z (by decide), fun _ => ⟨vp_in_nI hs (by decide), ?_⟩⟩)
      rw [nI_clamp (by omega), e75, m1]
      refine ⟨fun _ => ⟨vp_in_nI hs (by decide), fun iv3 h3 => ⟨vp_in_nI hs (by decide), ?_⟩⟩, fun z => absurd (nI_pos' (by omega)) z⟩
      rw [up_row] at h3
      refine ⟨by rw [h3, row_ne (by decide), e76, m2], hQ _ ⟨T, D, shL S s, F, CI_of hC1 (fun a ha => by rw [h3, row_ne (by omega)]), MI_sh hM1 (fun q hq => ?_) (fun a q1 q2 => by rw [h3, row_ne (by omega)])⟩⟩
      by_cases e : q = s
      · subst e
        refine ⟨fun z => absurd (show u1 S.1 q 3 q < 3 from z) (by rw [u1_at]; decide), fun _ => by rw [h3, row_at, if_pos rfl]⟩
      · have e1 : (shL S s).1 q = S.1 q := u1_ne e
        rw [e1, h3, row_at, if_neg e, row_ne (by decide), row_ne (by decide)]
        exact hM1.2.2.1 q hq
    · rw [cs.2 hf]
      refine ⟨fun _ => mk_X10_found (fun iv1 h1 => mk_X11_lose (isSheet_t hs ⟨fun z => absurd z (by decide), fun _ => ⟨vp_in_nI hs (by decide), ?_⟩⟩)), fun z => absurd rfl z⟩
      have e75 : iv1 75 = iv 75 := by
        have h1' := h1
        rw [up_row] at h1'
        rw [h1', row_ne (by decide)]
      rw [nI_clamp (by omega), e75, ms.2 hf]
      exact ⟨fun z => absurd z no_m1, fun _ => mk_X11_finds (fun iv2 h2 => ⟨rfl, hQ _ (find_fin hC hM h1 h2)⟩)⟩
/-- the index check of the model -/
theorem in_n1 {P : Int32 → IV → Prop} {i n : Nat} (hn : n ≤ 60) (hi : i < n) (p : P (nI 1) iv) : wc X 122 [.long (nI i).toInt64, .long (lN 0), .long ((nI n - nI 1).toInt64)] iv (Ri P) := by
  rw [pk_sub (by omega), nI_l (n := n - 1) (by omega)]
  exact in_t (by omega) (by omega) p
theorem in_n0 {P : Int32 → IV → Prop} {x : Int32} {n : Nat} (hn : n ≤ 60) (hi : x < 0 ∨ nI n ≤ x) (p : P (nI 0) iv) : wc X 122 [.long x.toInt64, .long (lN 0), .long ((nI n - nI 1).toInt64)] iv (Ri P) := by
  by_cases e : n = 0
  · subst e
    refine mk_X11_in ⟨fun _ => p, fun c => ⟨fun _ => p, fun c' => ?_⟩⟩
    exfalso
    rw [lg_cmp_lt, Int64.lt_iff_toInt_lt, Int32.toInt_toInt64, lN_toInt (by decide)] at c
    rw [lg_cmp_gt, Int64.lt_iff_toInt_lt, Int32.toInt_toInt64, Int32.toInt_toInt64] at c'
    have : (nI 0 - nI 1).toInt = -1 := by decide
    omega
  · rw [pk_sub (by omega), nI_l (n := n - 1) (by omega)]
    exact in_f (by omega) (by rw [show n - 1 + 1 = n by omega]; exact hi) p
def cutV (f : Nat) (v : Int32) : Int32 := if f = 0 then v.toInt8.toInt32 else if f = 1 then v.toInt16.toInt32 else v
theorem sp_cut {P : Int32 → IV → Prop} {f : Nat} {v : Int32} (hf : f < 3) (p : P (cutV f v) iv) : wc X 131 [.int (nI f), .int v] iv (Ri P) := by
  have : f = 0 ∨ f = 1 ∨ f = 2 := by omega
  rcases this with rfl | rfl | rfl
  · exact mk_X11_cut ⟨fun _ => p, fun z => absurd rfl z⟩
  · exact mk_X11_cut ⟨fun z => absurd z (by decide), fun _ => ⟨fun _ => p, fun z => absurd rfl z⟩⟩
  · exact mk_X11_cut ⟨fun z => absurd z (by decide), fun _ => ⟨fun z => absurd z (by decide), fun _ => p⟩⟩
theorem sp_put {P : IV → Prop} {f i s : Nat} {v : Int32} (hs : s < 4) (hf : f < 3) (h1 : iv (66 + 2 * s) 1 = nI f) (hi : i < 60) (p : ∀ iv', iv' = mm_up2 iv (67 + 2 * s) i (cutV f v) → P iv') : wc X 48 [.ref (66 + 2 * s), .int (nI i), .int v] iv (Rv P) := by
  obtain ⟨k1, k2, k3, k4⟩ := k65 hs
  have : f = 0 ∨ f = 1 ∨ f = 2 := by omega
  refine mk_X6_put k2 (by rw [k3]; exact k4) ?_
  rw [h1, k3, nI_clamp (by omega)]
  rcases this with rfl | rfl | rfl
  · exact ⟨fun _ => ⟨vp_in_nI hi (by decide), p⟩, fun z => absurd rfl z⟩
  · exact ⟨fun z => absurd z (by decide), fun _ => ⟨fun _ => ⟨vp_in_nI hi (by decide), p⟩, fun z => absurd rfl z⟩⟩
  · exact ⟨fun z => absurd z (by decide), fun _ => ⟨fun z => absurd z (by decide), fun _ => ⟨vp_in_nI hi (by decide), p⟩⟩⟩
/-- what hinders: 0, or a finding's number -/
theorem cases_at (S : SH) (s f : Nat) (z : Int32) (hz : S.1 s < 3 → S.2.1 s ≤ 60) : ¬ S.1 s < 3 ∨ (S.1 s < 3 ∧ f ≠ S.1 s) ∨ (S.1 s < 3 ∧ f = S.1 s ∧ (z < 0 ∨ nI (S.2.1 s) ≤ z)) ∨ (S.1 s < 3 ∧ f = S.1 s ∧ ∃ i, i < S.2.1 s ∧ z = nI i) := by
  by_cases h : S.1 s < 3
  · by_cases h2 : f = S.1 s
    · rcases rng z (S.2.1 s) (by have := hz h; omega) with q | q
      · exact Or.inr (Or.inr (Or.inl ⟨h, h2, q⟩))
      · exact Or.inr (Or.inr (Or.inr ⟨h, h2, q⟩))
    · exact Or.inr (Or.inl ⟨h, h2⟩)
  · exact Or.inl h
theorem sp_findingAt {P : Int32 → IV → Prop} {S : SH} {s f : Nat} {z : Int32} (hs : s < 4) (hf : f < 3) (hc : CSh iv S) (p1 : ¬ S.1 s < 3 → P (nI 1) iv) (p2 : (S.1 s < 3 ∧ f ≠ S.1 s) → P (nI 3) iv) (p3 : (S.1 s < 3 ∧ f = S.1 s ∧ (z < 0 ∨ nI (S.2.1 s) ≤ z)) → P (nI 2) iv) (p4 : (S.1 s < 3 ∧ f = S.1 s ∧ ∃ i, i < S.2.1 s ∧ z = nI i) → P (nI 0) iv) : wc X 47 [.ref (66 + 2 * s), .int (nI f), .int z] iv (Ri P) := by
  obtain ⟨k1, k2, k3, k4⟩ := k65 hs
  refine mk_X6_findingAt k2 ?_
  rcases cases_at S s f z (fun h => ((hc s hs).1 h).2.2.2.1) with h | ⟨h, h2⟩ | ⟨h, h2, h3⟩ | ⟨h, h2, i, hi, rfl⟩
  · rw [(hc s hs).2 h]
    exact ⟨fun _ => p1 h, fun q => absurd rfl q⟩
  · obtain ⟨c1, c2, c3, c4, c5⟩ := (hc s hs).1 h
    rw [c1, c2, nI_eq (by omega) (by omega)]
    exact ⟨fun q => absurd q (by decide), fun _ => ⟨fun q => absurd q h2, fun _ => p2 ⟨h, h2⟩⟩⟩
  · obtain ⟨c1, c2, c3, c4, c5⟩ := (hc s hs).1 h
    rw [c1, c2, c3, nI_eq (by omega) (by omega)]
    refine ⟨fun q => absurd q (by decide), fun _ => ⟨fun _ => ⟨fun _ => p3 ⟨h, h2, h3⟩, fun q => ⟨fun q2 => ?_, fun _ => p3 ⟨h, h2, h3⟩⟩⟩, fun q => absurd h2 q⟩⟩
    rcases h3 with h3 | h3
    · exact absurd h3 q
    · rw [Int32.lt_iff_toInt_lt] at q2
      rw [Int32.le_iff_toInt_le] at h3
      omega
  · obtain ⟨c1, c2, c3, c4, c5⟩ := (hc s hs).1 h
    rw [c1, c2, c3, nI_eq (by omega) (by omega)]
    exact ⟨fun q => absurd q (by decide), fun _ => ⟨fun _ => ⟨fun q => absurd q (nI_pos (by omega)), fun _ => ⟨fun _ => p4 ⟨h, h2, i, hi, rfl⟩, fun q => absurd (nI_lt hi (by omega)) q⟩⟩, fun q => absurd h2 q⟩⟩
theorem sp_lacks {P : Int32 → IV → Prop} {S : SH} {s f : Nat} {z : Int32} (hs : s < 4) (hf : f < 3) (hc : MSh iv S) (p1 : ¬ S.1 s < 3 → ∀ iv', iv' = mm_up2 iv 74 4 (nI 1) → P (nI 4294967286 - nI 1) iv') (p2 : (S.1 s < 3 ∧ f ≠ S.1 s) → ∀ iv', iv' = mm_up2 iv 74 4 (nI 3) → P (nI 4294967286 - nI 3) iv') (p3 : (S.1 s < 3 ∧ f = S.1 s ∧ (z < 0 ∨ nI (S.2.1 s) ≤ z)) → ∀ iv', iv' = mm_up2 iv 74 4 (nI 2) → P (nI 4294967286 - nI 2) iv') (p4 : (S.1 s < 3 ∧ f = S.1 s ∧ ∃ i, i < S.2.1 s ∧ z = nI i) → P (nI 0) iv) : wc X 130 [.ref 74, .int (nI s), .int (nI f), .int z] iv (Ri P) := by
  refine mk_X11_lacks ⟨vp_in_nI hs (by decide), ?_⟩
  rw [nI_clamp (by omega)]
  rcases cases_at S s f z (fun h => ((hc s hs).1 h).2.2.1) with h | ⟨h, h2⟩ | ⟨h, h2, h3⟩ | ⟨h, h2, i, hi, rfl⟩
  · rw [(hc s hs).2 h]
    exact ⟨fun q => absurd q no_m1, fun _ => mk_X11_finds (p1 h)⟩
  · obtain ⟨m1, m2, m3, m4⟩ := (hc s hs).1 h
    rw [m1, nI_eq (by omega) (by omega)]
    exact ⟨fun _ => ⟨vp_in_nI hs (by decide), fun q => absurd q.symm h2, fun _ => mk_X11_finds (p2 ⟨h, h2⟩)⟩, fun q => absurd (nI_pos' (by omega)) q⟩
  · obtain ⟨m1, m2, m3, m4⟩ := (hc s hs).1 h
    rw [m1, m2, nI_eq (by omega) (by omega)]
    exact ⟨fun _ => ⟨vp_in_nI hs (by decide), fun _ => ⟨vp_in_nI hs (by decide), in_n0 m3 h3 ⟨fun _ => mk_X11_finds (p3 ⟨h, h2, h3⟩), fun q => absurd rfl q⟩⟩, fun q => absurd h2.symm q⟩, fun q => absurd (nI_pos' (by omega)) q⟩
  · obtain ⟨m1, m2, m3, m4⟩ := (hc s hs).1 h
    rw [m1, m2, nI_eq (by omega) (by omega)]
    exact ⟨fun _ => ⟨vp_in_nI hs (by decide), fun _ => ⟨vp_in_nI hs (by decide), in_n1 m3 hi ⟨fun q => absurd q (by decide), fun _ => p4 ⟨h, h2, i, hi, rfl⟩⟩⟩, fun q => absurd h2.symm q⟩, fun q => absurd (nI_pos' (by omega)) q⟩
/-- an item changes -/
theorem CSh_I {iv iv' : IV} {S : SH} {s : Nat} {g : Nat → Int32} (h : CSh iv S) (h' : ∀ a, a ≠ 67 + 2 * s → iv' a = iv a) (hg : S.1 s < 3 → ∀ i, i < S.2.1 s → iv' (67 + 2 * s) i = g i) : CSh iv' (shI S s g) := by
  intro q hq
  have hq' := h q hq
  have e1 : (shI S s g).1 q = S.1 q := rfl
  have e2 : (shI S s g).2.1 q = S.2.1 q := rfl
  rw [e1, e2, h' (66 + 2 * q) (by omega)]
  refine ⟨fun z => ?_, hq'.2⟩
  obtain ⟨c1, c2, c3, c4, c5⟩ := hq'.1 z
  refine ⟨c1, c2, c3, c4, fun i hi => ?_⟩
  show _ = u1 S.2.2 s g q i
  by_cases e : q = s
  · subst e
    rw [u1_at]
    exact hg z i hi
  · rw [u1_ne e, h' _ (by omega)]
    exact c5 i hi
theorem MSh_I {iv iv' : IV} {S : SH} {s : Nat} {g : Nat → Int32} (h : MSh iv S) (hs : s < 4) (h75 : iv' 75 = iv 75) (h76 : iv' 76 = iv 76) (h' : ∀ q, ¬ (60 * s ≤ q ∧ q < 60 * s + 60) → iv' 77 q = iv 77 q) (hg : S.1 s < 3 → ∀ i, i < S.2.1 s → iv' 77 (60 * s + i) = g i) : MSh iv' (shI S s g) := by
  intro q hq
  have hq' := h q hq
  have e1 : (shI S s g).1 q = S.1 q := rfl
  have e2 : (shI S s g).2.1 q = S.2.1 q := rfl
  rw [e1, e2, h75, h76]
  refine ⟨fun z => ?_, hq'.2⟩
  obtain ⟨c1, c2, c3, c4⟩ := hq'.1 z
  refine ⟨c1, c2, c3, fun i hi => ?_⟩
  show _ = u1 S.2.2 s g q i
  by_cases e : q = s
  · subst e
    rw [u1_at]
    exact hg z i hi
  · rw [u1_ne e, h' _ (by omega)]
    exact c4 i hi
theorem up_e {iv iv' : IV} {a k : Nat} {v : Int32} (h : iv' = mm_up2 iv a k v) : (∀ q, q ≠ a → iv' q = iv q) ∧ (∀ j, j ≠ k → iv' a j = iv a j) ∧ iv' a k = v := by
  rw [up_row] at h
  exact ⟨fun q hq => by rw [h, row_ne hq], fun j hj => by rw [h, row_at, if_neg hj], by rw [h, row_at, if_pos rfl]⟩
theorem op_lay {x y z v : Int32} (h : INV iv) : LSt X 89 132 [.int x, .int y, .int z, .int v] iv := by
  intro Q hQ
  have hI := h
  obtain ⟨T, D, S, F, hC, hM⟩ := h
  rcases rng x 4 (by decide) with hx | ⟨s, hs, rfl⟩
  · exact mk_X10_lay (wi_f hx ⟨fun _ => mk_X11_lay (isSheet_f hx ⟨fun _ => ⟨rfl, hQ _ hI⟩, fun z => absurd rfl z⟩), fun z => absurd rfl z⟩)
  · rcases rng y 3 (by decide) with hy | ⟨f, hf, rfl⟩
    · exact mk_X10_lay (wi_t hs (by decide) ⟨fun z => absurd z (by decide), fun _ => wi_f hy ⟨fun _ => mk_X11_lay (isSheet_t hs ⟨fun z => absurd z (by decide), fun _ => in_f (by decide) hy ⟨fun _ => ⟨rfl, hQ _ hI⟩, fun z => absurd rfl z⟩⟩), fun z => absurd rfl z⟩⟩)
    · obtain ⟨k1, k2, k3, k4⟩ := k65 hs
      have mdl : ∀ {iv1 : IV} {P : Int32 → IV → Prop}, wc X 130 [.ref 74, .int (nI s), .int (nI f), .int z] iv1 (Ri (fun r6 iv5 => ((r6 = 0 → wc X 131 [.int (nI f), .int v] iv5 (Ri (fun r8 iv7 => vp_in (((nI 60) * nI s) + z) 240 ∧ (∀ iv9 : IV, iv9 = mm_up2 iv7 77 (((nI 60) * nI s) + z).toNatClampNeg r8 → P (nI 1) iv9)))) ∧ (¬ (r6 = 0) → P r6 iv5)))) → wc X 132 [.ref 74, .int (nI s), .int (nI f), .int z, .int v] iv1 (Ri P) := fun q => mk_X11_lay (isSheet_t hs ⟨fun z => absurd z (by decide), fun _ => in_t (by omega) (by decide) ⟨fun z => absurd z (by decide), fun _ => q⟩⟩)
      have key : ∀ c : Nat, c = 1 ∨ c = 2 ∨ c = 3 → (∀ (iv1 : IV) (P : Int32 → IV → Prop), iv1 = mm_up2 iv 1 9 (nI c) → (∀ iv', iv' = mm_up2 iv1 74 4 (nI c) → P (nI 4294967286 - nI c) iv') → wc X 130 [.ref 74, .int (nI s), .int (nI f), .int z] iv1 (Ri P)) → wc X 112 [.ref 1, .int (nI c)] iv (Ri (fun r11 iv10 => wc X 132 [.ref 74, .int (nI s), .int (nI f), .int z, .int v] iv10 (Ri (fun w iv2 => r11 = w ∧ Q iv2)))) := by
        intro c hc hl
        refine mk_X10_found (fun iv1 h1 => mdl (hl iv1 _ h1 (fun iv2 h2 => ⟨fun q => ?_, fun _ => ⟨rfl, hQ _ (find_fin hC hM h1 h2)⟩⟩)))
        exfalso
        rcases hc with rfl | rfl | rfl <;> exact absurd q (by decide)
      have ms1 : ∀ {iv1 : IV} {c : Int32}, iv1 = mm_up2 iv 1 9 c → MSh iv1 S := fun h1 => MSh_of hM.2.2.1 ((up_e h1).1 75 (by decide)) ((up_e h1).1 76 (by decide)) ((up_e h1).1 77 (by decide))
      refine mk_X10_lay (wi_t hs (by decide) ⟨fun z => absurd z (by decide), fun _ => wi_t hf (by decide) ⟨fun z => absurd z (by decide), fun _ => ⟨vp_in_nI hs (by decide), fun a5 h5 => ?_⟩⟩⟩)
      rw [nI_clamp (by omega), k1] at h5
      subst h5
      refine ⟨k2, sp_findingAt hs hf hC.2.2.2.2.1 (fun q => ⟨fun z1 => absurd z1 (by decide), fun _ => key 1 (by omega) (fun iv1 P h1 hp => sp_lacks hs hf (ms1 h1) (fun _ => hp) (fun q2 => absurd q2.1 q) (fun q2 => absurd q2.1 q) (fun q2 => absurd q2.1 q))⟩) (fun q => ⟨fun z1 => absurd z1 (by decide), fun _ => key 3 (by omega) (fun iv1 P h1 hp => sp_lacks hs hf (ms1 h1) (fun q2 => absurd q.1 q2) (fun _ => hp) (fun q2 => absurd q2.2.1 q.2) (fun q2 => absurd q2.2.1 q.2))⟩) (fun q => ⟨fun z1 => absurd z1 (by decide), fun _ => key 2 (by omega) (fun iv1 P h1 hp => sp_lacks hs hf (ms1 h1) (fun q2 => absurd q.1 q2) (fun q2 => absurd q.2.1 q2.2) (fun _ => hp) (fun q2 => ?_))⟩) (fun q => ⟨fun _ => ⟨vp_in_nI hs (by decide), fun a8 h8 => ?_⟩, fun z1 => absurd rfl z1⟩)⟩
      · exfalso
        obtain ⟨i, hi, hz⟩ := q2.2.2
        have hb := ((hC.2.2.2.2.1 s hs).1 q.1).2.2.2.1
        rcases q.2.2 with q3 | q3
        · rw [hz] at q3; exact nI_pos (by omega) q3
        · rw [hz] at q3; exact nI_ge hi (by omega) q3
      · obtain ⟨hs3, hff, i, hi, rfl⟩ := q
        rw [nI_clamp (by omega), k1] at h8
        subst h8
        obtain ⟨c1, c2, c3, c4, c5⟩ := (hC.2.2.2.2.1 s hs).1 hs3
        refine ⟨k2, sp_put hs hf (by rw [c2, hff]) (by omega) (fun iv1 h1 => ?_)⟩
        obtain ⟨a1, b1, d1⟩ := up_e h1
        have hC1 : CI iv1 T D (shI S s (fun j => if j = i then cutV f v else S.2.2 s j)) F := CI_sh hC (CSh_I hC.2.2.2.2.1 a1 (fun _ j hj => by
          by_cases e : j = i
          · rw [if_pos e, e, d1]
          · rw [if_neg e, b1 j e]; exact c5 j hj)) (fun a ha => a1 a (by omega))
        have hM1 : MI iv1 T D S F := MI_hi hM (fun a ha => a1 a (by omega))
        refine mdl (sp_lacks hs hf hM1.2.2.1 (fun q2 => absurd hs3 q2) (fun q2 => absurd hff q2.2) (fun q2 => ?_) (fun _ => ⟨fun _ => sp_cut hf ?_, fun q2 => absurd rfl q2⟩))
        · exfalso
          rcases q2.2.2 with q3 | q3
          · exact nI_pos (by omega) q3
          · exact nI_ge hi (by omega) q3
        · rw [pk_mul, nI_add, nI_clamp (by omega)]
          refine ⟨vp_in_nI (by omega) (by decide), fun iv9 h9 => ⟨rfl, hQ _ ⟨T, D, _, F, CI_of hC1 (fun a ha => (up_e h9).1 a (by omega)), MI_sh hM1 (MSh_I hM1.2.2.1 hs ((up_e h9).1 75 (by decide)) ((up_e h9).1 76 (by decide)) (fun q hq => (up_e h9).2.1 q (by omega)) (fun _ j hj => ?_)) (fun a q1 q2 => (up_e h9).1 a (by omega))⟩⟩⟩
          by_cases e : j = i
          · rw [if_pos e, e, (up_e h9).2.2]
          · rw [if_neg e, (up_e h9).2.1 _ (by omega)]
            exact ((hM1.2.2.1 s hs).1 hs3).2.2.2 j hj
theorem op_get {x y z : Int32} (h : INV iv) : LSt X 90 133 [.int x, .int y, .int z] iv := by
  intro Q hQ
  have hI := h
  obtain ⟨T, D, S, F, hC, hM⟩ := h
  rcases rng x 4 (by decide) with hx | ⟨s, hs, rfl⟩
  · exact mk_X10_get (wi_f hx ⟨fun _ => mk_X11_get (isSheet_f hx ⟨fun _ => ⟨rfl, hQ _ hI⟩, fun z => absurd rfl z⟩), fun z => absurd rfl z⟩)
  · rcases rng y 3 (by decide) with hy | ⟨f, hf, rfl⟩
    · exact mk_X10_get (wi_t hs (by decide) ⟨fun z => absurd z (by decide), fun _ => wi_f hy ⟨fun _ => mk_X11_get (isSheet_t hs ⟨fun z => absurd z (by decide), fun _ => in_f (by decide) hy ⟨fun _ => ⟨rfl, hQ _ hI⟩, fun z => absurd rfl z⟩⟩), fun z => absurd rfl z⟩⟩)
    · obtain ⟨k1, k2, k3, k4⟩ := k65 hs
      have mdl : ∀ {iv1 : IV} {P : Int32 → IV → Prop}, wc X 130 [.ref 74, .int (nI s), .int (nI f), .int z] iv1 (Ri (fun r6 iv5 => ((r6 = 0 → vp_in (((nI 60) * nI s) + z) 240 ∧ P (iv5 77 (((nI 60) * nI s) + z).toNatClampNeg) iv5) ∧ (¬ (r6 = 0) → P (nI 2147483648) iv5)))) → wc X 133 [.ref 74, .int (nI s), .int (nI f), .int z] iv1 (Ri P) := fun q => mk_X11_get (isSheet_t hs ⟨fun z => absurd z (by decide), fun _ => in_t (by omega) (by decide) ⟨fun z => absurd z (by decide), fun _ => q⟩⟩)
      have key : ∀ c : Nat, c = 1 ∨ c = 2 ∨ c = 3 → (∀ (iv1 : IV) (P : Int32 → IV → Prop), iv1 = mm_up2 iv 1 9 (nI c) → (∀ iv', iv' = mm_up2 iv1 74 4 (nI c) → P (nI 4294967286 - nI c) iv') → wc X 130 [.ref 74, .int (nI s), .int (nI f), .int z] iv1 (Ri P)) → wc X 112 [.ref 1, .int (nI c)] iv (Ri (fun _ iv10 => wc X 133 [.ref 74, .int (nI s), .int (nI f), .int z] iv10 (Ri (fun w iv2 => nI 2147483648 = w ∧ Q iv2)))) := by
        intro c hc hl
        refine mk_X10_found (fun iv1 h1 => mdl (hl iv1 _ h1 (fun iv2 h2 => ⟨fun q => ?_, fun _ => ⟨rfl, hQ _ (find_fin hC hM h1 h2)⟩⟩)))
        exfalso
        rcases hc with rfl | rfl | rfl <;> exact absurd q (by decide)
      have ms1 : ∀ {iv1 : IV} {c : Int32}, iv1 = mm_up2 iv 1 9 c → MSh iv1 S := fun h1 => MSh_of hM.2.2.1 ((up_e h1).1 75 (by decide)) ((up_e h1).1 76 (by decide)) ((up_e h1).1 77 (by decide))
      refine mk_X10_get (wi_t hs (by decide) ⟨fun z => absurd z (by decide), fun _ => wi_t hf (by decide) ⟨fun z => absurd z (by decide), fun _ => ⟨vp_in_nI hs (by decide), fun a5 h5 => ?_⟩⟩⟩)
      rw [nI_clamp (by omega), k1] at h5
      subst h5
      refine ⟨k2, sp_findingAt hs hf hC.2.2.2.2.1 (fun q => ⟨fun z1 => absurd z1 (by decide), fun _ => key 1 (by omega) (fun iv1 P h1 hp => sp_lacks hs hf (ms1 h1) (fun _ => hp) (fun q2 => absurd q2.1 q) (fun q2 => absurd q2.1 q) (fun q2 => absurd q2.1 q))⟩) (fun q => ⟨fun z1 => absurd z1 (by decide), fun _ => key 3 (by omega) (fun iv1 P h1 hp => sp_lacks hs hf (ms1 h1) (fun q2 => absurd q.1 q2) (fun _ => hp) (fun q2 => absurd q2.2.1 q.2) (fun q2 => absurd q2.2.1 q.2))⟩) (fun q => ⟨fun z1 => absurd z1 (by decide), fun _ => key 2 (by omega) (fun iv1 P h1 hp => sp_lacks hs hf (ms1 h1) (fun q2 => absurd q.1 q2) (fun q2 => absurd q.2.1 q2.2) (fun _ => hp) (fun q2 => ?_))⟩) (fun q => ⟨fun _ => ⟨vp_in_nI hs (by decide), fun a8 h8 => ?_⟩, fun z1 => absurd rfl z1⟩)⟩
      · exfalso
        obtain ⟨i, hi, hz⟩ := q2.2.2
        have hb := ((hC.2.2.2.2.1 s hs).1 q.1).2.2.2.1
        rcases q.2.2 with q3 | q3
        · rw [hz] at q3; exact nI_pos (by omega) q3
        · rw [hz] at q3; exact nI_ge hi (by omega) q3
      · obtain ⟨hs3, hff, i, hi, rfl⟩ := q
        rw [nI_clamp (by omega), k1] at h8
        subst h8
        obtain ⟨c1, c2, c3, c4, c5⟩ := (hC.2.2.2.2.1 s hs).1 hs3
        obtain ⟨m1, m2, m3, m4⟩ := (hM.2.2.1 s hs).1 hs3
        rw [k3, nI_clamp (by omega), c5 i hi]
        refine ⟨k2, k4, vp_in_nI (by omega) (by decide), mdl (sp_lacks hs hf hM.2.2.1 (fun q2 => absurd hs3 q2) (fun q2 => absurd hff q2.2) (fun q2 => ?_) (fun _ => ⟨fun _ => ?_, fun q2 => absurd rfl q2⟩))⟩
        · exfalso
          rcases q2.2.2 with q3 | q3
          · exact nI_pos (by omega) q3
          · exact nI_ge hi (by omega) q3
        · rw [pk_mul, nI_add, nI_clamp (by omega), m4 i hi]
          exact ⟨vp_in_nI (by omega) (by decide), rfl, hQ _ hI⟩
end SHEETS
