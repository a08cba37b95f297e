/-! DAMAGE -/
theorem pu_min1 : ∀ k, k < 4 → mm_ek 224 [nI k, nI 1] = some (nI (min k 1)) := by decide +kernel
theorem pu_min60 : ∀ k, k < 62 → mm_ek 224 [nI k, nI 60] = some (nI (min k 60)) := by decide +kernel
def dC (D : DM) (a : Nat) (l : List Nat) : DM := if a < 225 then (flp D.1 a, D.2.1, l) else (D.1, flp D.2.1 (a - 225), l)
theorem dC_l (D : DM) (a : Nat) (l : List Nat) : (dC D a l).2.2 = l := by unfold dC; split <;> rfl
theorem CDr_l {iv : IV} {D : DM} {a : Nat} {l l' : List Nat} (h : CDr iv (dC D a l)) : CDr iv (dC D a l') := by
  unfold dC at h ⊢
  split
  · rename_i q; rw [if_pos q] at h; exact h
  · rename_i q; rw [if_neg q] at h; exact h
theorem MDr_l {iv : IV} {D : DM} {a : Nat} {l l' : List Nat} (h : MDr iv (dC D a l)) : MDr iv (dC D a l') := by
  unfold dC at h ⊢
  split
  · rename_i q; rw [if_pos q] at h; exact h
  · rename_i q; rw [if_neg q] at h; exact h
def psh (l : List Nat) (a : Nat) : List Nat := (if l.length = 60 then l.tail else l) ++ [a]
theorem snoc_lt {l : List Nat} {a j : Nat} (h : j < l.length) : (l ++ [a]).getD j 0 = l.getD j 0 := by
  rw [List.getD_eq_getElem?_getD, List.getD_eq_getElem?_getD, List.getElem?_append_left h]
theorem snoc_at (l : List Nat) (a : Nat) : (l ++ [a]).getD l.length 0 = a := by
  rw [List.getD_eq_getElem?_getD, List.getElem?_append_right (Nat.le_refl _), Nat.sub_self]
  rfl
theorem tail_get (l : List Nat) (j : Nat) : l.tail.getD j 0 = l.getD (j + 1) 0 := by
  cases l with
  | nil => simp
  | cons a l => rfl
theorem psh_len {l : List Nat} (a : Nat) (h : l.length ≤ 60) : (psh l a).length = min (l.length + 1) 60 := by
  unfold psh
  split
  · rw [List.length_append, List.length_tail]
    show _ + 1 = _
    omega
  · rw [List.length_append]
    show _ + 1 = _
    omega
theorem psh_get {l : List Nat} {a j : Nat} (h : l.length ≤ 60) (hj : j < (psh l a).length) : (psh l a).getD j 0 = if j + 1 = (psh l a).length then a else if l.length = 60 then l.getD (j + 1) 0 else l.getD j 0 := by
  have hl := psh_len a h
  by_cases h6 : l.length = 60
  · have e : psh l a = l.tail ++ [a] := by unfold psh; rw [if_pos h6]
    have ht : l.tail.length = 59 := by rw [List.length_tail]; omega
    rw [if_pos h6]
    by_cases ej : j + 1 = (psh l a).length
    · rw [if_pos ej, e, show j = l.tail.length by omega, snoc_at]
    · rw [if_neg ej, e, snoc_lt (by omega), tail_get]
  · have e : psh l a = l ++ [a] := by unfold psh; rw [if_neg h6]
    rw [if_neg h6]
    by_cases ej : j + 1 = (psh l a).length
    · rw [if_pos ej, e, show j = l.length by omega, snoc_at]
    · rw [if_neg ej, e, snoc_lt (by omega)]
theorem CI_dm {iv iv' : IV} {T : TX} {D D' : DM} {S : SH} {F : Int32} {k : Nat} (h : CI iv T D S F) (hk : k ≤ 1) (h10 : iv' 1 10 = nI k) (h1 : 1 ≤ k → CM iv T) (h9 : iv' 1 9 = iv 1 9) (hd : CDr iv' D') (ha : CAc iv' D'.2.2) (ho : ∀ a, a ≠ 1 → ¬ (6 ≤ a ∧ a ≤ 9) → a < 74 → iv' a = iv a) : CI iv' T D' S F :=
  ⟨CTx_of h.1 (ho 2 (by decide) (by decide) (by decide)) (ho 3 (by decide) (by decide) (by decide)) (ho 4 (by decide) (by decide) (by decide)) (ho 5 (by decide) (by decide) (by decide)), WY_of h.2.1 (ho 11 (by decide) (by decide) (by decide)) (ho 12 (by decide) (by decide) (by decide)) (ho 13 (by decide) (by decide) (by decide)), SYr_of h.2.2.1 (fun a q1 q2 => ho a (by omega) (by omega) (by omega)), ⟨hd, ha⟩, CSh_of h.2.2.2.2.1 (fun a q1 q2 => ho a (by omega) (by omega) (by omega)), by rw [h9]; exact h.2.2.2.2.2.1, ⟨k, Nat.zero_le _, by omega, h10, fun q => CM_of (h1 q) (fun a q1 q2 => ho a (by omega) (by omega) (by omega)), fun q => absurd q (by omega), fun q => absurd q (by omega)⟩⟩
theorem MI_dm {iv iv' : IV} {T : TX} {D D' : DM} {S : SH} {F : Int32} (h : MI iv T D S F) (hd : MDr iv' D') (ha : MAc iv' D'.2.2) (h4 : iv' 74 4 = iv 74 4) (ho : ∀ a, 75 ≤ a → ¬ (91 ≤ a ∧ a ≤ 93) → iv' a = iv a) : MI iv' T D' S F :=
  ⟨MTx_of h.1 (ho 82 (by decide) (by decide)) (ho 83 (by decide) (by decide)) (ho 84 (by decide) (by decide)), ⟨hd, ha⟩, MSh_of h.2.2.1 (ho 75 (by decide) (by decide)) (ho 76 (by decide) (by decide)) (ho 77 (by decide) (by decide)), by rw [h4]; exact h.2.2.2⟩
section DAMAGE
variable {X : Nat × (Nat → Int32)} {iv : IV}
theorem sp_change {P : IV → Prop} {D : DM} {a : Nat} (ha : a < 450) (hd : CDr iv D) (h : ∀ iv', (∀ q, q ≠ 7 → q ≠ 8 → iv' q = iv q) → (∀ l, CDr iv' (dC D a l)) → P iv') : wc X 7 [.ref 6, .int (nI a)] iv (Rv P) := by
  have p15 : (2 : Nat) ^ (a % 225 % 15) ≤ 2 ^ 14 := Nat.pow_le_pow_right (by decide) (by omega)
  refine mk_X1_change ?_
  rw [nI_leI (by decide) (by omega)]
  refine ⟨fun z => mk_X1_change_8 (fun v1 h1 => ?_), fun z => mk_X1_change_8 (fun v1 h1 => ?_)⟩
  · rw [pk_rem (by omega) (by decide) (by decide)] at h1
    subst h1
    rw [pk_rem (by omega) (by decide) (by decide), pk_div (by omega) (by decide) (by decide), nI_clamp (by omega), (hd (a % 225 / 15) (by omega)).2, shl_nI (by omega) (by omega), nI_xor, Nat.one_mul, rr_flp (f := D.2.1) (i := a % 225) rfl]
    refine ⟨rfl, vp_in_nI (by omega) (by decide), rfl, vp_in_nI (by omega) (by decide), fun iv2 h2 => ?_⟩
    obtain ⟨a2, b2, c2⟩ := up_e h2
    refine h iv2 (fun q _ q2 => a2 q q2) (fun l r hr => ?_)
    have e : a % 225 = a - 225 := by omega
    unfold dC
    rw [if_neg (by omega), a2 7 (by decide)]
    refine ⟨(hd r hr).1, ?_⟩
    show _ = nI (rr (flp D.2.1 (a - 225)) r)
    by_cases er : r = a % 225 / 15
    · rw [er, c2, e]
    · rw [b2 r er, (hd r hr).2, rr_flp_ne (by omega)]
  · rw [pk_rem (by omega) (by decide) (by decide)] at h1
    subst h1
    have e : a % 225 = a := by omega
    rw [pk_rem (by omega) (by decide) (by decide), pk_div (by omega) (by decide) (by decide), nI_clamp (by omega), (hd (a % 225 / 15) (by omega)).1, shl_nI (by omega) (by omega), nI_xor, Nat.one_mul, rr_flp (f := D.1) (i := a % 225) rfl]
    refine ⟨rfl, vp_in_nI (by omega) (by decide), rfl, vp_in_nI (by omega) (by decide), fun iv2 h2 => ?_⟩
    obtain ⟨a2, b2, c2⟩ := up_e h2
    refine h iv2 (fun q q1 _ => a2 q q1) (fun l r hr => ?_)
    unfold dC
    rw [if_pos (by omega), a2 8 (by decide)]
    refine ⟨?_, (hd r hr).2⟩
    show _ = nI (rr (flp D.1 a) r)
    by_cases er : r = a % 225 / 15
    · rw [er, c2, e]
    · rw [b2 r er, (hd r hr).1, rr_flp_ne (by omega)]
theorem flp_I (f : Nat → Bool) (i : Nat) : nI 1 - nI (f i).toNat = nI (flp f i i).toNat := by
  rw [flp_at]
  cases f i <;> decide
theorem sp_does {P : IV → Prop} {D : DM} {a : Nat} (ha : a < 450) (hd : MDr iv D) (h : ∀ iv', (∀ q, q ≠ 91 → q ≠ 92 → iv' q = iv q) → (∀ l, MDr iv' (dC D a l)) → P iv') : wc X 179 [.ref 74, .int (nI a)] iv (Rv P) := by
  refine mk_X11_does ?_
  rw [nI_leI (by decide) (by omega)]
  refine ⟨fun z => ?_, fun z => ?_⟩
  · rw [pk_sub z, nI_clamp (by omega), (hd (a - 225) (by omega)).2, flp_I]
    refine ⟨vp_in_nI (by omega) (by decide), vp_in_nI (by omega) (by decide), fun iv2 h2 => ?_⟩
    obtain ⟨a2, b2, c2⟩ := up_e h2
    refine h iv2 (fun q _ q2 => a2 q q2) (fun l i hi => ?_)
    unfold dC
    rw [if_neg (by omega), a2 91 (by decide)]
    refine ⟨(hd i hi).1, ?_⟩
    show _ = nI (flp D.2.1 (a - 225) i).toNat
    by_cases er : i = a - 225
    · rw [er, c2]
    · rw [b2 i er, (hd i hi).2, flp_ne er]
  · rw [nI_clamp (by omega), (hd a (by omega)).1, flp_I]
    refine ⟨vp_in_nI (by omega) (by decide), vp_in_nI (by omega) (by decide), fun iv2 h2 => ?_⟩
    obtain ⟨a2, b2, c2⟩ := up_e h2
    refine h iv2 (fun q q1 _ => a2 q q1) (fun l i hi => ?_)
    unfold dC
    rw [if_pos (by omega), a2 92 (by decide)]
    refine ⟨?_, (hd i hi).2⟩
    show _ = nI (flp D.1 a i).toNat
    by_cases er : i = a
    · rw [er, c2]
    · rw [b2 i er, (hd i hi).1, flp_ne er]
theorem sp_add {P : IV → Prop} {D : DM} {a : Nat} (ha : a < 450) (hd : CDr iv D) (hc : CAc iv D.2.2) (h : ∀ iv', (∀ q, ¬ (6 ≤ q ∧ q ≤ 9) → iv' q = iv q) → CDr iv' (dC D a (psh D.2.2 a)) → CAc iv' (psh D.2.2 a) → P iv') : wc X 3 [.ref 6, .int (nI a)] iv (Rv P) := by
  obtain ⟨c1, c2, q, c3, c4, c5⟩ := hc
  refine mk_X1_add (sp_change ha hd (fun iv1 a1 d1 => ?_))
  rw [a1 6 (by decide) (by decide), c4, nI_clamp (by omega)]
  refine ⟨vp_in_nI c3 (by decide), fun iv2 h2 => ?_⟩
  obtain ⟨a2, b2, e2⟩ := up_e h2
  rw [a2 6 (by decide), a1 6 (by decide) (by decide), c4, nI_add, nI_leI (by decide) (by omega)]
  have hlen := psh_len a c2
  have fin : ∀ q' : Nat, q' < 60 → q' = (q + 1) % 60 → ∀ iv3 : IV, iv3 = mm_up2 iv2 6 4 (nI q') → wc X 224 [.int ((iv3 6 2) + (nI 1)), .int (nI 60)] iv3 (Ri (fun r5 iv4 => ∀ iv6 : IV, iv6 = mm_up2 iv4 6 2 r5 → P iv6)) := by
    intro q' hq' hqe iv3 h3
    obtain ⟨a3, b3, e3⟩ := up_e h3
    rw [b3 2 (by decide), a2 6 (by decide), a1 6 (by decide) (by decide), c1, nI_add]
    refine pui (as := [nI (D.2.2.length + 1), nI 60]) (by decide) (pu_min60 _ (by omega)) (fun iv6 h6 => ?_)
    obtain ⟨a6, b6, e6⟩ := up_e h6
    refine h iv6 (fun p hp => by rw [a6 p (by omega), a3 p (by omega), a2 p (by omega), a1 p (by omega) (by omega)]) ?_ ⟨by rw [e6, hlen], by omega, q', hq', by rw [b6 4 (by decide), e3], fun j hj => ?_⟩
    · exact CDr_of (d1 _) (by rw [a6 7 (by decide), a3 7 (by decide), a2 7 (by decide)]) (by rw [a6 8 (by decide), a3 8 (by decide), a2 8 (by decide)])
    · rw [psh_get c2 hj, a6 9 (by decide), a3 9 (by decide)]
      by_cases ej : j + 1 = (psh D.2.2 a).length
      · rw [if_pos ej]
        refine ⟨ha, ?_⟩
        rw [show (q' + 60 - (psh D.2.2 a).length + j) % 60 = q by omega, e2]
      · rw [if_neg ej]
        by_cases h6' : D.2.2.length = 60
        · rw [if_pos h6']
          have := c5 (j + 1) (by omega)
          refine ⟨this.1, ?_⟩
          rw [b2 _ (by omega), a1 9 (by decide) (by decide), ← this.2]
          congr 1
          omega
        · rw [if_neg h6']
          have := c5 j (by omega)
          refine ⟨this.1, ?_⟩
          rw [b2 _ (by omega), a1 9 (by decide) (by decide), ← this.2]
          congr 1
          omega
  exact ⟨fun z iv3 h3 => fin 0 (by decide) (by omega) iv3 h3, fun z iv3 h3 => fin (q + 1) (by omega) (by omega) iv3 h3⟩
theorem sp_notes {P : IV → Prop} {D : DM} {a : Nat} (ha : a < 450) (hd : MDr iv D) (hc : MAc iv D.2.2) (h : ∀ iv', (∀ q, q ≠ 74 → ¬ (91 ≤ q ∧ q ≤ 93) → iv' q = iv q) → (∀ j, j ≠ 23 → iv' 74 j = iv 74 j) → MDr iv' (dC D a (psh D.2.2 a)) → MAc iv' (psh D.2.2 a) → P iv') : wc X 180 [.ref 74, .int (nI a)] iv (Rv P) := by
  obtain ⟨c1, c2, c5⟩ := hc
  have hlen := psh_len a c2
  refine mk_X11_notes (sp_does ha hd (fun iv1 a1 d1 => ?_))
  rw [a1 74 (by decide) (by decide), c1, nI_eq (by omega) (by decide)]
  have last : ∀ iv2 : IV, (∀ q, q ≠ 74 → q ≠ 93 → iv2 q = iv1 q) → (∀ j, j ≠ 23 → iv2 74 j = iv1 74 j) → iv2 74 23 = nI ((psh D.2.2 a).length - 1) → (∀ j, j + 1 < (psh D.2.2 a).length → (psh D.2.2 a).getD j 0 < 450 ∧ iv2 93 j = nI ((psh D.2.2 a).getD j 0)) → wp X (0, 0) 180 30 [some (.ref 74), some (.int (nI a)), none] [] iv2 (Rv P) := by
    intro iv2 a2 b2 e2 g2
    refine mk_X11_notes_30 ?_
    rw [e2, nI_clamp (by omega)]
    refine ⟨vp_in_nI (by omega) (by decide), fun iv3 h3 iv4 h4 => ?_⟩
    obtain ⟨a3, b3, e3⟩ := up_e h3
    rw [a3 74 (by decide), e2, nI_add] at h4
    obtain ⟨a4, b4, e4⟩ := up_e h4
    refine h iv4 (fun q q1 q2 => by rw [a4 q q1, a3 q (by omega), a2 q q1 (by omega), a1 q (by omega) (by omega)]) (fun j hj => by rw [b4 j hj, a3 74 (by decide), b2 j hj, a1 74 (by decide) (by decide)]) (MDr_of (d1 _) (by rw [a4 91 (by decide), a3 91 (by decide), a2 91 (by decide) (by decide)]) (by rw [a4 92 (by decide), a3 92 (by decide), a2 92 (by decide) (by decide)])) ⟨by rw [e4, show (psh D.2.2 a).length - 1 + 1 = (psh D.2.2 a).length by omega], by omega, fun j hj => ?_⟩
    rw [a4 93 (by decide)]
    by_cases ej : j + 1 = (psh D.2.2 a).length
    · rw [psh_get c2 hj, if_pos ej]
      exact ⟨ha, by rw [show j = (psh D.2.2 a).length - 1 by omega, e3]⟩
    · rw [b3 j (by omega)]
      exact g2 j (by omega)
  refine ⟨fun z => ?_, fun z => ?_⟩
  · refine lup (τ := IV) (W := fun k iv2 => wp X (0, 0) 180 9 [some (.ref 74), some (.int (nI a)), some (.int (nI (k + 1)))] [] iv2 (Rv P)) (I := fun k iv2 => (∀ q, q ≠ 93 → iv2 q = iv1 q) ∧ (∀ j, j < k → iv2 93 j = nI (D.2.2.getD (j + 1) 0)) ∧ ∀ j, k ≤ j → j < 60 → iv2 93 j = nI (D.2.2.getD j 0)) 59 ?_ ?_ 59 0 iv1 rfl ⟨fun _ _ => rfl, fun j hj => absurd hj (by omega), fun j _ hj => by rw [a1 93 (by decide) (by decide)]; exact (c5 j (by omega)).2⟩
    · rintro iv2 ⟨a2, b2, e2⟩
      refine mk_X11_notes_9 ⟨fun _ iv3 h3 => ?_, fun z => absurd (nI_le (Nat.le_refl 60) (by decide)) z⟩
      rw [a2 74 (by decide), a1 74 (by decide) (by decide), c1, pk_sub (by omega)] at h3
      obtain ⟨a3, b3, e3⟩ := up_e h3
      refine last iv3 (fun q q1 q2 => by rw [a3 q q1, a2 q q2]) (fun j hj => by rw [b3 j hj, a2 74 (by decide)]) (by rw [e3]; congr 1; omega) (fun j hj => ?_)
      rw [psh_get c2 (by omega), if_neg (by omega), if_pos z, a3 93 (by decide)]
      exact ⟨(c5 (j + 1) (by omega)).1, b2 j (by omega)⟩
    · rintro k iv2 hk ⟨a2, b2, e2⟩ nx
      refine mk_X11_notes_9 ⟨fun z => absurd z (nI_ge (by omega) (by decide)), fun _ => ?_⟩
      rw [pk_sub (by omega), nI_clamp (by omega), nI_clamp (by omega), Nat.add_sub_cancel, e2 (k + 1) (by omega) (by omega), nI_add]
      refine ⟨vp_in_nI (by omega) (by decide), vp_in_nI (by omega) (by decide), fun iv3 h3 => ?_⟩
      obtain ⟨a3, b3, e3⟩ := up_e h3
      refine nx iv3 ⟨fun q hq => by rw [a3 q hq, a2 q hq], fun j hj => ?_, fun j h1 h2 => by rw [b3 j (by omega)]; exact e2 j (by omega) h2⟩
      by_cases ej : j = k
      · rw [ej, e3]
      · rw [b3 j ej]; exact b2 j (by omega)
  · refine last iv1 (fun _ _ _ => rfl) (fun _ _ => rfl) (by rw [a1 74 (by decide) (by decide), c1]; congr 1; omega) (fun j hj => ?_)
    rw [psh_get c2 (by omega), if_neg (by omega), if_neg z, a1 93 (by decide) (by decide)]
    exact c5 j (by omega)
/-- damage has changed: the mark stays -/
theorem sp_changed {P : IV → Prop} {k : Nat} (hk : k ≤ 3) (h1 : iv 1 10 = nI k) (h : ∀ iv', (∀ q, q ≠ 1 → iv' q = iv q) → (∀ j, j ≠ 10 → iv' 1 j = iv 1 j) → iv' 1 10 = nI (min k 1) → P iv') : wc X 110 [.ref 1] iv (Rv P) := by
  refine mk_X10_damageChanged ?_
  rw [h1]
  refine pui (as := [nI k, nI 1]) (by decide) (pu_min1 k (by omega)) (fun iv3 h3 => ?_)
  obtain ⟨a3, b3, e3⟩ := up_e h3
  exact h iv3 a3 b3 e3
theorem sumOf_ct {P : Int32 → IV → Prop} {r0 : Nat} {f : Nat → Bool} (k0 : kdT r0 = (1, 225)) (hb : ∀ i, i < 225 → iv r0 i = nI (f i).toNat) (p : P (nI (ct f 225)) iv) : wc X 178 [.ref r0] iv (Ri P) := by
  refine sp_sumOf (b := fun i => (f i).toNat) k0 hb ?_
  rw [← ct_sm]
  exact p
/-- the whole of an act, in the class -/
theorem sp_actC {P : IV → Prop} {T : TX} {D : DM} {S : SH} {F : Int32} {a : Nat} (ha : a < 450) (hC : CI iv T D S F) (h : ∀ iv', (∀ q, 74 ≤ q → iv' q = iv q) → CI iv' T (dC D a (psh D.2.2 a)) S F → P iv') : wc X 3 [.ref 6, .int (nI a)] iv (Rv (fun iv3 => wc X 110 [.ref 1] iv3 (Rv (fun iv4 => P iv4)))) := by
  obtain ⟨k, -, hk, c0, c1, -, -⟩ := hC.2.2.2.2.2.2
  refine sp_add ha hC.2.2.2.1.1 hC.2.2.2.1.2 (fun iv1 a1 d1 l1 => ?_)
  refine sp_changed hk (by rw [a1 1 (by decide)]; exact c0) (fun iv2 a2 b2 e2 => ?_)
  refine h iv2 (fun q hq => by rw [a2 q (by omega), a1 q (by omega)]) (CI_dm hC (k := min k 1) (by omega) e2 (fun q => c1 (by omega)) (by rw [b2 9 (by decide), a1 1 (by decide)]) (CDr_of d1 (a2 7 (by decide)) (a2 8 (by decide))) ?_ (fun q q1 q2 q3 => by rw [a2 q q1, a1 q q2]))
  rw [dC_l]
  exact CAc_of l1 (a2 6 (by decide)) (a2 9 (by decide))
theorem sp_actM {P : IV → Prop} {T : TX} {D : DM} {S : SH} {F : Int32} {a : Nat} (ha : a < 450) (hM : MI iv T D S F) (h : ∀ iv', (∀ q, q < 74 → iv' q = iv q) → MI iv' T (dC D a (psh D.2.2 a)) S F → P iv') : wc X 180 [.ref 74, .int (nI a)] iv (Rv P) := by
  refine sp_notes ha hM.2.1.1 hM.2.1.2 (fun iv1 a1 b1 d1 l1 => ?_)
  refine h iv1 (fun q hq => a1 q (by omega) (by omega)) (MI_dm hM d1 ?_ (b1 4 (by decide)) (fun q q1 q2 => a1 q (by omega) q2))
  rw [dC_l]
  exact l1
theorem op_turn {x y : Int32} (h : INV iv) : LSt X 76 181 [.int x, .int y] iv := by
  intro Q hQ
  have hI := h
  obtain ⟨T, D, S, F, hC, hM⟩ := h
  rcases rng x 15 (by decide) with hx | ⟨r, hr, rfl⟩
  · exact mk_X10_turn (isDot_f1 hx ⟨fun _ => mk_X11_turn (isPlace_f hx ⟨fun _ => ⟨rfl, hQ _ hI⟩, fun z => absurd rfl z⟩), fun z => absurd rfl z⟩)
  · rcases rng y 15 (by decide) with hy | ⟨c, hc, rfl⟩
    · exact mk_X10_turn (isDot_f2 hr hy ⟨fun _ => mk_X11_turn (isPlace_t hr ⟨fun z => absurd z (by decide), fun _ => isPlace_f hy ⟨fun _ => ⟨rfl, hQ _ hI⟩, fun z => absurd rfl z⟩⟩), fun z => absurd rfl z⟩)
    · refine mk_X10_turn (isDot_t hr hc ⟨fun z => absurd z (by decide), fun _ => ?_⟩)
      rw [pk_mul, nI_add]
      refine sp_actC (by omega) hC (fun iv1 a1 c1 => ?_)
      refine sp_dotsIn (D := (dC D (15 * r + c) (psh D.2.2 (15 * r + c))).1) rfl (fun r hr => (c1.2.2.2.1.1 r hr).1) ?_
      refine mk_X11_turn (isPlace_t hr ⟨fun z => absurd z (by decide), fun _ => isPlace_t hc ⟨fun z => absurd z (by decide), fun _ => ?_⟩⟩)
      rw [pk_mul, nI_add]
      refine sp_actM (by omega) (MI_hi hM a1) (fun iv2 a2 m2 => ?_)
      exact sumOf_ct (f := (dC D (15 * r + c) (psh D.2.2 (15 * r + c))).1) rfl (fun i hi => (m2.2.1.1 i hi).1) ⟨rfl, hQ _ ⟨T, _, S, F, CI_of c1 a2, m2⟩⟩
theorem op_lost {x y : Int32} (h : INV iv) : LSt X 77 182 [.int x, .int y] iv := by
  intro Q hQ
  have hI := h
  obtain ⟨T, D, S, F, hC, hM⟩ := h
  rcases rng x 15 (by decide) with hx | ⟨r, hr, rfl⟩
  · exact mk_X10_lost (isDot_f1 hx ⟨fun _ => mk_X11_lost (isPlace_f hx ⟨fun _ => ⟨rfl, hQ _ hI⟩, fun z => absurd rfl z⟩), fun z => absurd rfl z⟩)
  · rcases rng y 15 (by decide) with hy | ⟨c, hc, rfl⟩
    · exact mk_X10_lost (isDot_f2 hr hy ⟨fun _ => mk_X11_lost (isPlace_t hr ⟨fun z => absurd z (by decide), fun _ => isPlace_f hy ⟨fun _ => ⟨rfl, hQ _ hI⟩, fun z => absurd rfl z⟩⟩), fun z => absurd rfl z⟩)
    · refine mk_X10_lost (isDot_t hr hc ⟨fun z => absurd z (by decide), fun _ => ?_⟩)
      rw [pk_mul, nI_add, nI_add]
      refine sp_actC (by omega) hC (fun iv1 a1 c1 => ?_)
      refine sp_dotsIn (D := (dC D (225 + 15 * r + c) (psh D.2.2 (225 + 15 * r + c))).2.1) rfl (fun r hr => (c1.2.2.2.1.1 r hr).2) ?_
      refine mk_X11_lost (isPlace_t hr ⟨fun z => absurd z (by decide), fun _ => isPlace_t hc ⟨fun z => absurd z (by decide), fun _ => ?_⟩⟩)
      rw [pk_mul, nI_add, nI_add]
      refine sp_actM (by omega) (MI_hi hM a1) (fun iv2 a2 m2 => ?_)
      exact sumOf_ct (f := (dC D (225 + 15 * r + c) (psh D.2.2 (225 + 15 * r + c))).2.1) rfl (fun i hi => (m2.2.1.1 i hi).2) ⟨rfl, hQ _ ⟨T, _, S, F, CI_of c1 a2, m2⟩⟩
theorem dropLast_get {l : List Nat} {j : Nat} (h : j + 1 < l.length) : l.dropLast.getD j 0 = l.getD j 0 := by
  rw [List.getD_eq_getElem?_getD, List.getD_eq_getElem?_getD, List.getElem?_dropLast, if_pos (by omega)]
theorem op_back (h : INV iv) : LSt X 78 183 [] iv := by
  intro Q hQ
  have hI := h
  obtain ⟨T, D, S, F, hC, hM⟩ := h
  obtain ⟨c1, c2, q, c3, c4, c5⟩ := hC.2.2.2.1.2
  obtain ⟨m1, m2, m5⟩ := hM.2.1.2
  refine mk_X10_back ?_
  rw [c1]
  refine ⟨fun z => mk_X11_back ?_, fun z => ?_⟩
  · rw [m1]
    exact ⟨fun _ => ⟨rfl, hQ _ hI⟩, fun z1 => absurd z z1⟩
  · have hn0 : D.2.2.length ≠ 0 := fun e => z (by rw [e]; rfl)
    have hdl : D.2.2.dropLast.length = D.2.2.length - 1 := List.length_dropLast
    obtain ⟨hla, hl9⟩ := c5 (D.2.2.length - 1) (by omega)
    obtain ⟨k, -, hk, s0, s1, -, -⟩ := hC.2.2.2.2.2.2
    have after : ∀ q' : Nat, q' < 60 → q' = (q + 59) % 60 → wp X (0, 0) 4 13 [some (.ref 6)] [.int (nI q'), .ref 6] iv (Rv (fun iv1 => wc X 110 [.ref 1] iv1 (Rv (fun iv2 => wc X 183 [.ref 74] iv2 (Ri (fun w iv3 => iv2 6 2 = w ∧ Q iv3)))))) := by
      intro q' hq' hqe
      refine mk_X1_takeBack_13 (fun iv1 h1 => ?_)
      obtain ⟨a1, b1, e1⟩ := up_e h1
      rw [e1, nI_clamp (by omega), a1 9 (by decide)]
      have e9 : iv 9 q' = nI (D.2.2.getD (D.2.2.length - 1) 0) := by
        rw [← hl9]
        congr 1
        omega
      rw [e9]
      refine ⟨vp_in_nI hq' (by decide), sp_change hla (CDr_of hC.2.2.2.1.1 (a1 7 (by decide)) (a1 8 (by decide))) (fun iv2 a2 d2 iv3 h3 => ?_)⟩
      rw [a2 6 (by decide) (by decide), b1 2 (by decide), c1, pk_sub (by omega)] at h3
      obtain ⟨a3, b3, e3⟩ := up_e h3
      refine sp_changed hk (by rw [a3 1 (by decide), a2 1 (by decide) (by decide), a1 1 (by decide)]; exact s0) (fun iv4 a4 b4 e4 => ?_)
      have hC4 : CI iv4 T (dC D (D.2.2.getD (D.2.2.length - 1) 0) D.2.2.dropLast) S F := by
        refine CI_dm hC (k := min k 1) (by omega) e4 (fun p => s1 (by omega)) (by rw [b4 9 (by decide), a3 1 (by decide), a2 1 (by decide) (by decide), a1 1 (by decide)]) (CDr_of (d2 _) (by rw [a4 7 (by decide), a3 7 (by decide)]) (by rw [a4 8 (by decide), a3 8 (by decide)])) ?_ (fun p p1 p2 p3 => by rw [a4 p p1, a3 p (by omega), a2 p (by omega) (by omega), a1 p (by omega)])
        rw [dC_l]
        refine ⟨by rw [a4 6 (by decide), e3, hdl], by omega, q', hq', by rw [a4 6 (by decide), b3 4 (by decide), a2 6 (by decide) (by decide), e1], fun j hj => ?_⟩
        rw [dropLast_get (by omega)]
        obtain ⟨o1, o2⟩ := c5 j (by omega)
        refine ⟨o1, ?_⟩
        rw [a4 9 (by decide), a3 9 (by decide), a2 9 (by decide) (by decide), a1 9 (by decide), ← o2]
        congr 1
        omega
      have H4 : ∀ p, 74 ≤ p → iv4 p = iv p := fun p hp => by rw [a4 p (by omega), a3 p (by omega), a2 p (by omega) (by omega), a1 p (by omega)]
      have hM4 := MI_hi hM H4
      have e62 : iv4 6 2 = nI (D.2.2.length - 1) := by rw [a4 6 (by decide), e3]
      rw [e62]
      refine mk_X11_back ?_
      rw [hM4.2.1.2.1]
      refine ⟨fun z1 => absurd z1 z, fun _ iv5 h5 => ?_⟩
      rw [pk_sub (by omega)] at h5
      obtain ⟨a5, b5, e5⟩ := up_e h5
      rw [e5, nI_clamp (by omega), a5 93 (by decide), (hM4.2.1.2.2.2 (D.2.2.length - 1) (by omega)).2]
      refine ⟨vp_in_nI (by omega) (by decide), sp_does hla (MDr_of hM4.2.1.1 (a5 91 (by decide)) (a5 92 (by decide))) (fun iv6 a6 d6 => ?_)⟩
      refine ⟨by rw [a6 74 (by decide) (by decide), e5], hQ _ ⟨T, _, S, F, CI_of hC4 (fun p hp => by rw [a6 p (by omega) (by omega), a5 p (by omega)]), MI_dm hM4 (d6 _) ?_ (by rw [a6 74 (by decide) (by decide), b5 4 (by decide)]) (fun p p1 p2 => by rw [a6 p (by omega) (by omega), a5 p (by omega)])⟩⟩
      rw [dC_l]
      refine ⟨by rw [a6 74 (by decide) (by decide), e5, hdl], by omega, fun j hj => ?_⟩
      rw [dropLast_get (by omega), a6 93 (by decide) (by decide), a5 93 (by decide)]
      exact hM4.2.1.2.2.2 j (by omega)
    refine mk_X1_takeBack ?_
    rw [c1, c4]
    refine ⟨fun z1 => absurd z1 (nI_nle (by omega) (by omega)), fun _ => ⟨fun z1 => ?_, fun z1 => ?_⟩⟩
    · have e : q = 0 := Classical.byContradiction fun p => nI_nle (by omega) (by omega) z1
      exact after 59 (by decide) (by omega)
    · have e : q ≠ 0 := fun p => z1 (by rw [p]; decide)
      rw [pk_sub (by omega)]
      exact after (q - 1) (by omega) (by omega)
def noD : DM := (fun _ => false, fun _ => false, [])
theorem op_heal (h : INV iv) : LSt X 79 184 [] iv := by
  intro Q hQ
  obtain ⟨T, D, S, F, hC, hM⟩ := h
  obtain ⟨c1, c2, q, c3, c4, c5⟩ := hC.2.2.2.1.2
  obtain ⟨k, -, hk, s0, s1, -, -⟩ := hC.2.2.2.2.2.2
  refine mk_X10_heal (mk_X1_hurtDots ?_)
  refine ldn (W := fun r => wp X (0, 0) 6 4 [some (.ref 6), some (.int (nI (sm (fun r => ct (rowL (fun i => D.1 i || D.2.1 i) r) 15) r))), some (.int (nI r))] [] iv (Ri (fun r2 iv1 => wc X 5 [.ref 6] iv1 (Rv (fun iv3 => wc X 110 [.ref 1] iv3 (Rv (fun iv4 => wc X 184 [.ref 74] iv4 (Ri (fun w iv5 => r2 = w ∧ Q iv5)))))))) ) 15 ?_ ?_
  · refine mk_X1_hurtDots_4 ⟨fun _ => ?_, fun z => absurd (nI_le (Nat.le_refl 15) (by decide)) z⟩
    rw [← ct_15]
    refine mk_X1_clear ?_
    refine lup (τ := IV) (W := fun r iv1 => wp X (0, 0) 5 2 [some (.ref 6), some (.int (nI r))] [] iv1 (Rv (fun iv3 => wc X 110 [.ref 1] iv3 (Rv (fun iv4 => wc X 184 [.ref 74] iv4 (Ri (fun w iv5 => nI (ct (fun i => D.1 i || D.2.1 i) (15 * 15)) = w ∧ Q iv5))))))) (I := fun r iv1 => (∀ a, a ≠ 7 → a ≠ 8 → iv1 a = iv a) ∧ ∀ r', r' < r → iv1 7 r' = nI 0 ∧ iv1 8 r' = nI 0) 15 ?_ ?_ 15 0 iv rfl ⟨fun _ _ _ => rfl, fun r hr => absurd hr (by omega)⟩
    · rintro iv1 ⟨a1, b1⟩
      refine mk_X1_clear_2 ⟨fun _ iv2 h2 => ?_, fun z => absurd (nI_le (Nat.le_refl 15) (by decide)) z⟩
      obtain ⟨a2, b2, e2⟩ := up_e h2
      refine sp_changed hk (by rw [a2 1 (by decide), a1 1 (by decide) (by decide)]; exact s0) (fun iv3 a3 b3 e3 => ?_)
      have hC3 : CI iv3 T noD S F := by
        refine CI_dm hC (k := min k 1) (by omega) e3 (fun p => s1 (by omega)) (by rw [b3 9 (by decide), a2 1 (by decide), a1 1 (by decide) (by decide)]) (fun r hr => ?_) ⟨by rw [a3 6 (by decide), e2]; rfl, by decide, q, c3, by rw [a3 6 (by decide), b2 4 (by decide), a1 6 (by decide) (by decide)]; exact c4, fun j hj => absurd hj (by show ¬ j < 0; omega)⟩ (fun p p1 p2 p3 => by rw [a3 p p1, a2 p (by omega), a1 p (by omega) (by omega)])
        rw [a3 7 (by decide), a3 8 (by decide), a2 7 (by decide), a2 8 (by decide), (b1 r hr).1, (b1 r hr).2]
        show nI 0 = nI (rr (fun _ => false) r) ∧ nI 0 = nI (rr (fun _ => false) r)
        rw [rr_0]
        exact ⟨rfl, rfl⟩
      have hM3 : MI iv3 T D S F := MI_hi hM (fun p hp => by rw [a3 p (by omega), a2 p (by omega), a1 p (by omega) (by omega)])
      refine mk_X11_heal ?_
      refine lup (τ := IV) (W := fun n iv4 => wp X (0, 0) 184 4 [some (.ref 74), some (.int (nI (ct (fun i => D.1 i || D.2.1 i) n))), some (.int (nI n))] [] iv4 (Ri (fun w iv5 => nI (ct (fun i => D.1 i || D.2.1 i) (15 * 15)) = w ∧ Q iv5))) (I := fun n iv4 => (∀ a, a ≠ 91 → a ≠ 92 → iv4 a = iv3 a) ∧ ∀ i, i < 225 → iv4 91 i = nI (decide (n ≤ i) && D.1 i).toNat ∧ iv4 92 i = nI (decide (n ≤ i) && D.2.1 i).toNat) 225 ?_ ?_ 225 0 iv3 rfl ⟨fun _ _ _ => rfl, fun i hi => by rw [decide_eq_true (Nat.zero_le i), Bool.true_and, Bool.true_and]; exact hM3.2.1.1 i hi⟩
      · rintro iv4 ⟨a4, b4⟩
        refine mk_X11_heal_4 ⟨fun _ iv5 h5 => ?_, fun z => absurd (nI_le (Nat.le_refl 225) (by decide)) z⟩
        obtain ⟨a5, b5, e5⟩ := up_e h5
        refine ⟨rfl, hQ _ ⟨T, noD, S, F, CI_of hC3 (fun p hp => by rw [a5 p (by omega), a4 p (by omega) (by omega)]), MI_dm hM3 (fun i hi => ?_) ⟨by rw [e5]; rfl, by decide, fun j hj => absurd hj (by show ¬ j < 0; omega)⟩ (by rw [b5 4 (by decide), a4 74 (by decide) (by decide)]) (fun p p1 p2 => by rw [a5 p (by omega), a4 p (by omega) (by omega)])⟩⟩
        have := b4 i hi
        rw [decide_eq_false (by omega)] at this
        rw [a5 91 (by decide), a5 92 (by decide)]
        exact this
      · rintro n iv4 hn ⟨a4, b4⟩ nx
        have hb := b4 n hn
        rw [decide_eq_true (Nat.le_refl n), Bool.true_and, Bool.true_and] at hb
        have hct : ct (fun i => D.1 i || D.2.1 i) (n + 1) = ct (fun i => D.1 i || D.2.1 i) n + (D.1 n || D.2.1 n).toNat := by
          show ct _ n + (if (D.1 n || D.2.1 n) then 1 else 0) = _
          cases (D.1 n || D.2.1 n) <;> rfl
        have last : wp X (0, 0) 184 21 [some (.ref 74), none, some (.int (nI n))] [.int (nI (D.1 n || D.2.1 n).toNat), .int (nI (ct (fun i => D.1 i || D.2.1 i) n))] iv4 (Ri (fun w iv5 => nI (ct (fun i => D.1 i || D.2.1 i) (15 * 15)) = w ∧ Q iv5)) := by
          refine mk_X11_heal_21 ⟨vp_in_nI hn (by decide), fun iv5 h5 => ⟨vp_in_nI hn (by decide), fun iv6 h6 => ?_⟩⟩
          rw [nI_clamp (by omega)] at h5 h6
          obtain ⟨a5, b5, e5⟩ := up_e h5
          obtain ⟨a6, b6, e6⟩ := up_e h6
          rw [nI_add, ← hct, nI_add]
          refine nx iv6 ⟨fun p p1 p2 => by rw [a6 p p2, a5 p p1, a4 p p1 p2], fun i hi => ?_⟩
          rw [a6 91 (by decide)]
          by_cases ei : i = n
          · subst ei
            rw [e5, e6, decide_eq_false (by omega)]
            exact ⟨rfl, rfl⟩
          · rw [b5 i ei, b6 i ei, a5 92 (by decide)]
            have := b4 i hi
            have hd : decide (n ≤ i) = decide (n + 1 ≤ i) := by
              by_cases q : n ≤ i
              · rw [decide_eq_true q, decide_eq_true (by omega)]
              · rw [decide_eq_false q, decide_eq_false (by omega)]
            rw [hd] at this
            exact this
        refine mk_X11_heal_4 ⟨fun z => absurd z (nI_ge hn (by decide)), fun _ => ⟨vp_in_nI hn (by decide), vp_in_nI hn (by decide), ?_⟩⟩
        rw [nI_clamp (by omega), hb.1, hb.2]
        cases h1 : D.1 n <;> cases h2 : D.2.1 n <;> rw [h1, h2] at last
        · exact ⟨fun _ => last, fun z => absurd (by decide) z⟩
        · exact ⟨fun z => absurd z (by decide), fun _ => last⟩
        · exact ⟨fun z => absurd z (by decide), fun _ => last⟩
        · exact ⟨fun z => absurd z (by decide), fun _ => last⟩
    · rintro r iv1 hr ⟨a1, b1⟩ nx
      refine mk_X1_clear_2 ⟨fun z => absurd z (nI_ge hr (by decide)), fun _ => ⟨vp_in_nI hr (by decide), fun iv2 h2 => ⟨vp_in_nI hr (by decide), fun iv3 h3 => ?_⟩⟩⟩
      rw [nI_clamp (by omega)] at h2 h3
      obtain ⟨a2, b2, e2⟩ := up_e h2
      obtain ⟨a3, b3, e3⟩ := up_e h3
      rw [nI_add]
      refine nx iv3 ⟨fun p p1 p2 => by rw [a3 p p2, a2 p p1, a1 p p1 p2], fun r' hr' => ?_⟩
      rw [a3 7 (by decide)]
      by_cases er : r' = r
      · rw [er, e2, e3]
        exact ⟨rfl, rfl⟩
      · rw [b2 r' er, b3 r' er, a2 8 (by decide)]
        exact b1 r' (by omega)
  · intro r hr nx
    refine mk_X1_hurtDots_4 ⟨fun z => absurd z (nI_ge hr (by decide)), fun _ => ⟨vp_in_nI hr (by decide), vp_in_nI hr (by decide), ?_⟩⟩
    have hd := hC.2.2.2.1.1 r hr
    have hor : rr D.1 r ||| rr D.2.1 r = rr (fun i => D.1 i || D.2.1 i) r := rb_or _ _ 15
    rw [nI_clamp (by omega), hd.1, hd.2, nI_or, hor]
    refine sp_bitCount (rr_lt _ r) ?_
    have e : ct (gb (rr (fun i => D.1 i || D.2.1 i) r)) 15 = ct (rowL (fun i => D.1 i || D.2.1 i) r) 15 := rb_ct _ 15 (by decide)
    rw [e, nI_add, nI_add]
    exact nx
end DAMAGE
