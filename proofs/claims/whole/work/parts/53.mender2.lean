/-! THE MENDER'S METHODS: places that are gone, the register -/
theorem cpy_at {f g : Nat → Int32} {n i : Nat} (h : i < n) : va_cpy f g 0 0 n i = f i := by
  unfold va_cpy
  rw [if_pos ⟨Nat.zero_le _, by omega⟩, Nat.zero_add, Nat.sub_zero]
theorem cp_ok (n : Nat) (hn : n < 2 ^ 31) : ¬ nI 0 < 0 ∧ ¬ nI 0 < 0 ∧ ¬ nI n < 0 ∧ (nI 0).toNatClampNeg + (nI n).toNatClampNeg ≤ n ∧ (nI 0).toNatClampNeg + (nI n).toNatClampNeg ≤ n := by
  rw [nI_clamp (n := 0) (by decide), nI_clamp hn]
  exact ⟨nI_pos (by decide), nI_pos (by decide), nI_pos hn, by omega, by omega⟩
theorem ct_mono (s : Nat → Bool) {m n : Nat} (h : m ≤ n) : ct s m ≤ ct s n := by
  induction n with
  | zero => rw [show m = 0 by omega]; exact Nat.le_refl _
  | succ n ih =>
    by_cases e : m = n + 1
    · rw [e]; exact Nat.le_refl _
    · exact Nat.le_trans (ih (by omega)) (Nat.le_add_right _ _)
theorem gl_lt (g : Nat → Bool) (n : Nat) : ∀ q, q ∈ gl g n → q < n := fun q h => ((gl_mem g n q).mp h).1
theorem getD_snoc_lt {l : List Nat} {q i : Nat} (h : i < l.length) : (l ++ [q]).getD i 0 = l.getD i 0 := by
  rw [List.getD_eq_getElem?_getD, List.getD_eq_getElem?_getD, List.getElem?_append_left h]
theorem getD_snoc_at {l : List Nat} {q : Nat} : (l ++ [q]).getD l.length 0 = q := by
  rw [List.getD_eq_getElem?_getD, List.getElem?_append_right (Nat.le_refl _)]
  simp
section MEND2
variable {X : Nat × (Nat → Int32)} {iv : IV}
/-- the wanted places, so far -/
def WL (iv : IV) (l : List Nat) : Prop := iv 14 6 = nI l.length ∧ ∀ i, i < l.length → iv 20 i = nI (l.getD i 0)
theorem WL_snoc {iv iv5 iv6 iv7 : IV} {l : List Nat} {q : Nat} (h : WL iv l) (h14 : iv5 14 = iv 14) (h20 : iv5 20 = iv 20) (hl : l.length < 14) (h6 : iv6 = mm_up2 iv5 20 (iv5 14 6).toNatClampNeg (nI q)) (h7 : iv7 = mm_up2 iv6 14 6 (iv6 14 6 + nI 1)) : WL iv7 (l ++ [q]) ∧ ∀ a, a ≠ 14 → a ≠ 20 → iv7 a = iv5 a := by
  obtain ⟨w1, w2⟩ := h
  have e5 : iv5 14 6 = nI l.length := by rw [h14, w1]
  rw [e5, nI_clamp (by omega)] at h6
  have e6 : iv6 14 6 = nI l.length := by rw [h6, up_row, row_ne (by decide), e5]
  rw [e6, nI_add] at h7
  refine ⟨⟨?_, fun i hi => ?_⟩, fun a h1 h2 => ?_⟩
  · rw [h7, up_row, row_at, if_pos rfl, List.length_append]
    rfl
  · rw [h7, up_row, row_ne (by decide), h6, up_row, row_at]
    rw [List.length_append, List.length_singleton] at hi
    by_cases e : i = l.length
    · rw [if_pos e, e, getD_snoc_at]
    · rw [if_neg e, getD_snoc_lt (by omega), h20, w2 i (by omega)]
  · rw [h7, up_row, row_ne h1, h6, up_row, row_ne h2]
theorem sp_wantGone {P : IV → Prop} {n c : Nat} {v : Nat → G} (hn : n < 2 ^ 14) (hc : c ≤ 6) (hg : ct (gb n) 14 ≤ c) (hs : ∀ j, j < c → iv 15 j = nI (pw v j).1) (h : ∀ iv', (∀ a, a ≠ 14 → a ≠ 16 → a ≠ 20 → iv' a = iv a) → WL iv' (gl (gb n) 14) → (∀ k, k + ct (gb n) 14 < c → iv' 16 k = nI (pv v (gl (gb n) 14) k).1) → P iv') : wc X 28 [.ref 14, .int (nI n), .int (nI c)] iv (Rv P) := by
  refine mk_X4_wantGone ⟨cp_ok 6 (by decide), fun iv1 h1 iv2 h2 => ?_⟩
  rw [nI_clamp (n := 0) (by decide), nI_clamp (n := 6) (by decide)] at h1
  have key : ∀ m p, p + m = 14 → ∀ iv3 : IV, (∀ a, a ≠ 14 → a ≠ 16 → a ≠ 20 → iv3 a = iv a) → WL iv3 (gl (gb n) p) → (∀ k, k + ct (gb n) p < c → iv3 16 k = nI (pv v (gl (gb n) p) k).1) → wp X (0, 0) 28 13 [some (.ref 14), some (.int (nI n)), some (.int (nI c)), some (.int (nI p))] [] iv3 (Rv P) := by
    intro m
    induction m with
    | zero =>
      intro p hp iv3 f1 f2 f3
      have e : p = 14 := by omega
      subst e
      exact mk_X4_wantGone_13 ⟨fun _ => h iv3 f1 f2 f3, fun z => absurd (nI_le (Nat.le_refl 14) (by decide)) z⟩
    | succ m ih =>
      intro p hp iv3 f1 f2 f3
      refine mk_X4_wantGone_13 ⟨fun z => absurd z (nI_ge (by omega) (by decide)), fun _ => ?_⟩
      refine sp_bit (by omega) (by omega) ?_
      have hcp : ct (gb n) (p + 1) ≤ c := Nat.le_trans (ct_mono (gb n) (by omega)) hg
      have hgs := gl_succ (gb n) p
      have hct : ct (gb n) (p + 1) = ct (gb n) p + (if gb n p then 1 else 0) := rfl
      have hlen := gl_len (gb n) p
      cases hb : n.testBit p with
      | true =>
        have hb' : gb n p = true := hb
        rw [hb'] at hgs hct
        simp only [if_true] at hgs hct
        refine ⟨fun _ => ?_, fun z => absurd rfl z⟩
        refine sp_ofPlace (by omega) ?_
        have e14 : iv3 14 6 = nI (ct (gb n) p) := by rw [f2.1, hlen]
        rw [e14, pk_sub (by omega)]
        refine sp_strike (s := pv v (gl (gb n) p)) (by omega) (fun k hk => f3 k (by omega)) ?_
        have wl := fun (iv6 iv7 : IV) => WL_snoc (iv6 := iv6) (iv7 := iv7) (q := p) f2 (iv5 := mm_row iv3 16 (fun k => if k + 1 < c - ct (gb n) p then nI (st (xp p) (pv v (gl (gb n) p)) k).1 else iv3 16 k)) (row_ne (by decide)) (row_ne (by decide)) (by omega)
        refine ⟨?_, fun iv6 h6 iv7 h7 => ?_⟩
        · rw [row_ne (by decide), e14]
          exact vp_in_nI (by omega) (by decide)
        · obtain ⟨w1, w2⟩ := wl iv6 iv7 h6 h7
          rw [nI_add]
          refine ih (p + 1) (by omega) iv7 (fun a a1 a2 a3 => ?_) (by rw [hgs]; exact w1) (fun k hk => ?_)
          · rw [w2 a a1 a3, row_ne a2, f1 a a1 a2 a3]
          · rw [w2 16 (by decide) (by decide), row_at, if_pos (by omega), hgs, pv_st]
      | false =>
        have hb' : gb n p = false := hb
        rw [hb'] at hgs hct
        simp only [Bool.false_eq_true, if_false, List.append_nil, Nat.add_zero] at hgs hct
        refine ⟨fun z => absurd z (by decide), fun _ => ?_⟩
        rw [nI_add]
        exact ih (p + 1) (by omega) iv3 f1 (by rw [hgs]; exact f2) (fun k hk => by rw [hgs]; exact f3 k (by omega))
  refine key 14 0 rfl iv2 (fun a a1 a2 a3 => ?_) ⟨?_, fun i hi => absurd hi (by show ¬ i < 0; omega)⟩ (fun k hk => ?_)
  · rw [h2, up_row, row_ne a1, h1, row_ne a2]
  · rw [h2, up_row, row_at]
    rfl
  · have hk' : k < c := by simpa [ct] using hk
    rw [h2, up_row, row_ne (by decide), h1, row_at, cpy_at (by omega), hs k hk']
    show nI (pw v k).1 = nI (pv v [] k).1
    rw [pv_nil]
theorem sp_startLocators {P : IV → Prop} (h : ∀ iv', (∀ a, a ≠ 17 → a ≠ 18 → iv' a = iv a) → (∀ k, k < 7 → iv' 17 k = nI (dl k).1) → (∀ k, k < 7 → iv' 18 k = nI (dl k).1) → P iv') : wc X 31 [.ref 14] iv (Rv P) := by
  refine mk_X4_startLocators ?_
  have key : ∀ m q, q + m = 7 → ∀ iv3 : IV, (∀ a, a ≠ 17 → a ≠ 18 → iv3 a = iv a) → (∀ k, k < q → iv3 17 k = nI (dl k).1) → (∀ k, k < q → iv3 18 k = nI (dl k).1) → wp X (0, 0) 31 2 [some (.ref 14), some (.int (nI q))] [] iv3 (Rv P) := by
    intro m
    induction m with
    | zero =>
      intro q hq iv3 f1 f2 f3
      have e : q = 7 := by omega
      subst e
      exact mk_X4_startLocators_2 ⟨fun _ => h iv3 f1 f2 f3, fun z => absurd (nI_le (Nat.le_refl 7) (by decide)) z⟩
    | succ m ih =>
      intro q hq iv3 f1 f2 f3
      have step : ∀ d : Int32, d = nI (dl q).1 → ∀ iv1 : IV, iv1 = mm_up2 iv3 17 (nI q).toNatClampNeg d → ∀ iv2 : IV, iv2 = mm_up2 iv1 18 (nI q).toNatClampNeg (iv1 17 (nI q).toNatClampNeg) → wp X (0, 0) 31 2 [some (.ref 14), some (.int (nI q + nI 1))] [] iv2 (Rv P) := by
        intro d hd iv1 h1 iv2 h2
        rw [nI_clamp (by omega)] at h1 h2
        have e1 : iv1 17 q = d := by rw [h1, up_row, row_at, if_pos rfl]
        rw [e1] at h2
        rw [nI_add]
        refine ih (q + 1) (by omega) iv2 (fun a a1 a2 => ?_) (fun k hk => ?_) (fun k hk => ?_)
        · rw [h2, up_row, row_ne a2, h1, up_row, row_ne a1, f1 a a1 a2]
        · rw [h2, up_row, row_ne (by decide), h1, up_row, row_at]
          by_cases e : k = q
          · rw [if_pos e, hd, e]
          · rw [if_neg e, f2 k (by omega)]
        · rw [h2, up_row, row_at]
          by_cases e : k = q
          · rw [if_pos e, hd, e]
          · rw [if_neg e, h1, up_row, row_ne (by decide), f3 k (by omega)]
      have hv : vp_in (nI q) 7 := vp_in_nI (by omega) (by decide)
      refine mk_X4_startLocators_2 ⟨fun z => absurd z (nI_ge (by omega) (by decide)), fun _ => ⟨fun z => ?_, fun z => ?_⟩⟩
      · have hq0 : q = 0 := by
          refine Classical.byContradiction fun hne => ?_
          exact absurd z (nI_ne0 (by omega) (by omega))
        refine ⟨hv, fun iv1 h1 => ⟨hv, hv, fun iv2 h2 => step (nI 1) (by rw [hq0]; rfl) iv1 h1 iv2 h2⟩⟩
      · have hq0 : q ≠ 0 := fun e => z (by rw [e]; rfl)
        refine ⟨hv, fun iv1 h1 => ⟨hv, hv, fun iv2 h2 => step (nI 0) (by unfold dl; rw [if_neg hq0]; rfl) iv1 h1 iv2 h2⟩⟩
  exact key 7 0 rfl iv (fun _ _ _ => rfl) (fun k hk => absurd hk (by omega)) (fun k hk => absurd hk (by omega))
end MEND2
