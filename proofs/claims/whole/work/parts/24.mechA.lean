/-! what each method comes to, printed by wip/gen/mech.py -/
theorem mk_X0_cost {X : Nat × (Nat → Int32)} {r0 : Nat} {x1 : Int32} {iv : IV} {P : Int32 → IV → Prop} (k0 : kdT r0 = (10, 0))
    (h : wc X 220 [.int (iv r0 2)] iv (Ri (fun r2 iv1 => P (r2 + ((nI 2) * x1)) iv1))) :
    wc X 1 [.ref r0, .int x1] iv (Ri P) := by
  have hT := tb_1
  show wp X (0, 0) 1 0 [some (.ref r0), some (.int x1)] [] iv (Ri P)
  refine wp_s hT 1 (i' := 1) (L' := [some (.ref r0), some (.int x1)]) (st' := [.ref r0]) rfl ?_
  refine wp_geti hT rfl k0 ⟨by decide, by decide⟩ ?_
  refine wp_calli hT rfl rfl h (fun r2 iv1 h => ?_)
  refine wp_s hT 4 (i' := 7) (L' := [some (.ref r0), some (.int x1)]) (st' := [.int (r2 + ((nI 2) * x1))]) rfl ?_
  exact wp_ri hT rfl rfl ⟨_, rfl, h⟩

theorem mk_X1_add {X : Nat × (Nat → Int32)} {x1 : Int32} {iv : IV} {P : IV → Prop}
    (h : wc X 7 [.ref 6, .int x1] iv (Rv (fun iv1 => vp_in (iv1 6 4) 60 ∧ (∀ iv2 : IV, iv2 = mm_up2 iv1 9 (iv1 6 4).toNatClampNeg x1 → (((nI 60) ≤ ((iv2 6 4) + (nI 1)) → ∀ iv3 : IV, iv3 = mm_up2 iv2 6 4 (nI 0) → wc X 224 [.int ((iv3 6 2) + (nI 1)), .int (nI 60)] iv3 (Ri (fun r5 iv4 => ∀ iv6 : IV, iv6 = mm_up2 iv4 6 2 r5 → P iv6))) ∧ (¬ ((nI 60) ≤ ((iv2 6 4) + (nI 1))) → ∀ iv7 : IV, iv7 = mm_up2 iv2 6 4 ((iv2 6 4) + (nI 1)) → wc X 224 [.int ((iv7 6 2) + (nI 1)), .int (nI 60)] iv7 (Ri (fun r9 iv8 => ∀ iv10 : IV, iv10 = mm_up2 iv8 6 2 r9 → P iv10)))))))) :
    wc X 3 [.ref 6, .int x1] iv (Rv P) := by
  have hT := tb_3
  show wp X (0, 0) 3 0 [some (.ref 6), some (.int x1)] [] iv (Rv P)
  refine wp_s hT 2 (i' := 2) (L' := [some (.ref 6), some (.int x1)]) (st' := [.int x1, .ref 6]) rfl ?_
  refine wp_callv hT rfl rfl h (fun iv1 h => ?_)
  refine wp_s hT 5 (i' := 8) (L' := [some (.ref 6), some (.int x1)]) (st' := [.int x1, .int (iv1 6 4), .ref 9]) rfl ?_
  refine wp_iast hT rfl rfl ⟨h.1, ?_⟩
  have h := h.2
  have h := h _ rfl
  refine wp_s hT 6 (i' := 15) (L' := [some (.ref 6), some (.int x1)]) (st' := [.int (nI 60), .int (((mm_up2 iv1 9 (iv1 6 4).toNatClampNeg x1) 6 4) + (nI 1)), .ref 6]) rfl ?_
  refine wp_ic_ge hT rfl ⟨fun c => ?_, fun c => ?_⟩
  · have h := h.1 c
    refine wp_s hT 1 (i' := 22) (L' := [some (.ref 6), some (.int x1)]) (st' := [.int (nI 0), .ref 6]) rfl ?_
    refine wp_puti hT rfl rfl ⟨by decide, by decide⟩ ?_
    have h := h _ rfl
    refine wp_s hT 6 (i' := 29) (L' := [some (.ref 6), some (.int x1)]) (st' := [.int (nI 60), .int (((mm_up2 (mm_up2 iv1 9 (iv1 6 4).toNatClampNeg x1) 6 4 (nI 0)) 6 2) + (nI 1)), .ref 6]) rfl ?_
    refine wp_calli hT rfl rfl h (fun r5 iv4 h => ?_)
    refine wp_puti hT rfl rfl ⟨by decide, by decide⟩ ?_
    have h := h _ rfl
    exact wp_rv hT rfl rfl ⟨rfl, h⟩
  · have h := h.2 c
    refine wp_s hT 5 (i' := 22) (L' := [some (.ref 6), some (.int x1)]) (st' := [.int (((mm_up2 iv1 9 (iv1 6 4).toNatClampNeg x1) 6 4) + (nI 1)), .ref 6]) rfl ?_
    refine wp_puti hT rfl rfl ⟨by decide, by decide⟩ ?_
    have h := h _ rfl
    refine wp_s hT 6 (i' := 29) (L' := [some (.ref 6), some (.int x1)]) (st' := [.int (nI 60), .int (((mm_up2 (mm_up2 iv1 9 (iv1 6 4).toNatClampNeg x1) 6 4 (((mm_up2 iv1 9 (iv1 6 4).toNatClampNeg x1) 6 4) + (nI 1))) 6 2) + (nI 1)), .ref 6]) rfl ?_
    refine wp_calli hT rfl rfl h (fun r9 iv8 h => ?_)
    refine wp_puti hT rfl rfl ⟨by decide, by decide⟩ ?_
    have h := h _ rfl
    exact wp_rv hT rfl rfl ⟨rfl, h⟩

theorem mk_X1_takeBack_13 {X : Nat × (Nat → Int32)} {s0 : Int32} {iv : IV} {P : IV → Prop}
    (h : ∀ iv1 : IV, iv1 = mm_up2 iv 6 4 s0 → vp_in (iv1 6 4) 60 ∧ wc X 7 [.ref 6, .int (iv1 9 (iv1 6 4).toNatClampNeg)] iv1 (Rv (fun iv2 => ∀ iv3 : IV, iv3 = mm_up2 iv2 6 2 ((iv2 6 2) - (nI 1)) → P iv3))) :
    wp X (0, 0) 4 13 [some (.ref 6)] [.int s0, .ref 6] iv (Rv P) := by
  have hT := tb_4
  refine wp_puti hT rfl rfl ⟨by decide, by decide⟩ ?_
  have h := h _ rfl
  refine wp_s hT 5 (i' := 19) (L' := [some (.ref 6)]) (st' := [.int ((mm_up2 iv 6 4 s0) 6 4), .ref 9, .ref 6]) rfl ?_
  refine wp_iald hT rfl rfl ⟨h.1, ?_⟩
  have h := h.2
  refine wp_callv hT rfl rfl h (fun iv2 h => ?_)
  refine wp_s hT 5 (i' := 26) (L' := [some (.ref 6)]) (st' := [.int ((iv2 6 2) - (nI 1)), .ref 6]) rfl ?_
  refine wp_puti hT rfl rfl ⟨by decide, by decide⟩ ?_
  have h := h _ rfl
  exact wp_rv hT rfl rfl ⟨rfl, h⟩

theorem mk_X1_takeBack {X : Nat × (Nat → Int32)}  {iv : IV} {P : IV → Prop}
    (h : ((iv 6 2 ≤ 0 → P iv) ∧ (¬ (iv 6 2 ≤ 0) → ((iv 6 4 ≤ 0 → wp X (0, 0) 4 13 [some (.ref 6)] [.int (nI 59), .ref 6] iv (Rv P)) ∧ (¬ (iv 6 4 ≤ 0) → wp X (0, 0) 4 13 [some (.ref 6)] [.int ((iv 6 4) - (nI 1)), .ref 6] iv (Rv P)))))) :
    wc X 4 [.ref 6] iv (Rv P) := by
  have hT := tb_4
  show wp X (0, 0) 4 0 [some (.ref 6)] [] iv (Rv P)
  refine wp_s hT 2 (i' := 2) (L' := [some (.ref 6)]) (st' := [.int (iv 6 2)]) rfl ?_
  refine wp_if_le hT rfl ⟨fun c => ?_, fun c => ?_⟩
  · have h := h.1 c
    exact wp_rv hT rfl rfl ⟨rfl, h⟩
  · have h := h.2 c
    refine wp_s hT 3 (i' := 6) (L' := [some (.ref 6)]) (st' := [.int (iv 6 4), .ref 6]) rfl ?_
    refine wp_if_le hT rfl ⟨fun c => ?_, fun c => ?_⟩
    · have h := h.1 c
      refine wp_s hT 1 (i' := 13) (L' := [some (.ref 6)]) (st' := [.int (nI 59), .ref 6]) rfl ?_
      exact h
    · have h := h.2 c
      refine wp_s hT 5 (i' := 13) (L' := [some (.ref 6)]) (st' := [.int ((iv 6 4) - (nI 1)), .ref 6]) rfl ?_
      exact h

theorem mk_X1_clear_2 {X : Nat × (Nat → Int32)} {x1 : Int32} {iv : IV} {P : IV → Prop}
    (h : (((nI 15) ≤ x1 → ∀ iv1 : IV, iv1 = mm_up2 iv 6 2 (nI 0) → P iv1) ∧ (¬ ((nI 15) ≤ x1) → vp_in x1 15 ∧ (∀ iv2 : IV, iv2 = mm_up2 iv 7 x1.toNatClampNeg (nI 0) → vp_in x1 15 ∧ (∀ iv3 : IV, iv3 = mm_up2 iv2 8 x1.toNatClampNeg (nI 0) → wp X (0, 0) 5 2 [some (.ref 6), some (.int (x1 + nI 1))] [] iv3 (Rv P)))))) :
    wp X (0, 0) 5 2 [some (.ref 6), some (.int x1)] [] iv (Rv P) := by
  have hT := tb_5
  refine wp_s hT 2 (i' := 4) (L' := [some (.ref 6), some (.int x1)]) (st' := [.int (nI 15), .int x1]) rfl ?_
  refine wp_ic_ge hT rfl ⟨fun c => ?_, fun c => ?_⟩
  · have h := h.1 c
    refine wp_s hT 2 (i' := 19) (L' := [some (.ref 6), some (.int x1)]) (st' := [.int (nI 0), .ref 6]) rfl ?_
    refine wp_puti hT rfl rfl ⟨by decide, by decide⟩ ?_
    have h := h _ rfl
    exact wp_rv hT rfl rfl ⟨rfl, h⟩
  · have h := h.2 c
    refine wp_s hT 4 (i' := 9) (L' := [some (.ref 6), some (.int x1)]) (st' := [.int (nI 0), .int x1, .ref 7]) rfl ?_
    refine wp_iast hT rfl rfl ⟨h.1, ?_⟩
    have h := h.2
    have h := h _ rfl
    refine wp_s hT 4 (i' := 14) (L' := [some (.ref 6), some (.int x1)]) (st' := [.int (nI 0), .int x1, .ref 8]) rfl ?_
    refine wp_iast hT rfl rfl ⟨h.1, ?_⟩
    have h := h.2
    have h := h _ rfl
    refine wp_s hT 2 (i' := 2) (L' := [some (.ref 6), some (.int (x1 + nI 1))]) (st' := []) rfl ?_
    exact h

theorem mk_X1_clear {X : Nat × (Nat → Int32)}  {iv : IV} {P : IV → Prop}
    (h : wp X (0, 0) 5 2 [some (.ref 6), some (.int (nI 0))] [] iv (Rv P)) :
    wc X 5 [.ref 6] iv (Rv P) := by
  have hT := tb_5
  show wp X (0, 0) 5 0 [some (.ref 6), none] [] iv (Rv P)
  refine wp_s hT 2 (i' := 2) (L' := [some (.ref 6), some (.int (nI 0))]) (st' := []) rfl ?_
  exact h

theorem mk_X1_hurtDots_4 {X : Nat × (Nat → Int32)} {x1 : Int32} {x2 : Int32} {iv : IV} {P : Int32 → IV → Prop}
    (h : (((nI 15) ≤ x2 → P x1 iv) ∧ (¬ ((nI 15) ≤ x2) → vp_in x2 15 ∧ vp_in x2 15 ∧ wc X 220 [.int ((iv 7 x2.toNatClampNeg) ||| (iv 8 x2.toNatClampNeg))] iv (Ri (fun r2 iv1 => wp X (0, 0) 6 4 [some (.ref 6), some (.int (x1 + r2)), some (.int (x2 + nI 1))] [] iv1 (Ri P)))))) :
    wp X (0, 0) 6 4 [some (.ref 6), some (.int x1), some (.int x2)] [] iv (Ri P) := by
  have hT := tb_6
  refine wp_s hT 2 (i' := 6) (L' := [some (.ref 6), some (.int x1), some (.int x2)]) (st' := [.int (nI 15), .int x2]) rfl ?_
  refine wp_ic_ge hT rfl ⟨fun c => ?_, fun c => ?_⟩
  · have h := h.1 c
    refine wp_s hT 1 (i' := 23) (L' := [some (.ref 6), some (.int x1), some (.int x2)]) (st' := [.int x1]) rfl ?_
    exact wp_ri hT rfl rfl ⟨_, rfl, h⟩
  · have h := h.2 c
    refine wp_s hT 4 (i' := 11) (L' := [some (.ref 6), some (.int x1), some (.int x2)]) (st' := [.int x2, .ref 7, .int x1]) rfl ?_
    refine wp_iald hT rfl rfl ⟨h.1, ?_⟩
    have h := h.2
    refine wp_s hT 3 (i' := 15) (L' := [some (.ref 6), some (.int x1), some (.int x2)]) (st' := [.int x2, .ref 8, .int (iv 7 x2.toNatClampNeg), .int x1]) rfl ?_
    refine wp_iald hT rfl rfl ⟨h.1, ?_⟩
    have h := h.2
    refine wp_s hT 1 (i' := 17) (L' := [some (.ref 6), some (.int x1), some (.int x2)]) (st' := [.int ((iv 7 x2.toNatClampNeg) ||| (iv 8 x2.toNatClampNeg)), .int x1]) rfl ?_
    refine wp_calli hT rfl rfl h (fun r2 iv1 h => ?_)
    refine wp_s hT 4 (i' := 4) (L' := [some (.ref 6), some (.int (x1 + r2)), some (.int (x2 + nI 1))]) (st' := []) rfl ?_
    exact h

theorem mk_X1_hurtDots {X : Nat × (Nat → Int32)}  {iv : IV} {P : Int32 → IV → Prop}
    (h : wp X (0, 0) 6 4 [some (.ref 6), some (.int (nI 0)), some (.int (nI 0))] [] iv (Ri P)) :
    wc X 6 [.ref 6] iv (Ri P) := by
  have hT := tb_6
  show wp X (0, 0) 6 0 [some (.ref 6), none, none] [] iv (Ri P)
  refine wp_s hT 4 (i' := 4) (L' := [some (.ref 6), some (.int (nI 0)), some (.int (nI 0))]) (st' := []) rfl ?_
  exact h

theorem mk_X1_change_8 {X : Nat × (Nat → Int32)} {x1 : Int32} {b0_ : Nat} {iv : IV} {P : IV → Prop}
    (h : ∀ v1 : Int32, v1 = x1 - x1 / (nI 225) * (nI 225) → kdT b0_ = (1, 15) ∧ vp_in (v1 / (nI 15)) 15 ∧ kdT b0_ = (1, 15) ∧ vp_in (v1 / (nI 15)) 15 ∧ (∀ iv2 : IV, iv2 = mm_up2 iv b0_ (v1 / (nI 15)).toNatClampNeg ((iv b0_ (v1 / (nI 15)).toNatClampNeg) ^^^ ((nI 1) <<< ((v1 - v1 / (nI 15) * (nI 15)) &&& 31))) → P iv2)) :
    wp X (0, 0) 7 8 [none, some (.int x1), none, none] [.ref b0_] iv (Rv P) := by
  have hT := tb_7
  refine wp_s hT 5 (i' := 13) (L' := [none, some (.int x1), some (.ref b0_), some (.int (x1 - x1 / (nI 225) * (nI 225)))]) (st' := []) rfl ?_
  have h := h _ rfl
  refine wp_s hT 5 (i' := 18) (L' := [none, some (.int x1), some (.ref b0_), some (.int (x1 - x1 / (nI 225) * (nI 225)))]) (st' := [.int ((x1 - x1 / (nI 225) * (nI 225)) / (nI 15)), .ref b0_, .int ((x1 - x1 / (nI 225) * (nI 225)) / (nI 15)), .ref b0_]) rfl ?_
  refine wp_iald hT rfl h.1 ⟨h.2.1, ?_⟩
  have h := h.2.2
  refine wp_s hT 6 (i' := 25) (L' := [none, some (.int x1), some (.ref b0_), some (.int (x1 - x1 / (nI 225) * (nI 225)))]) (st' := [.int ((iv b0_ ((x1 - x1 / (nI 225) * (nI 225)) / (nI 15)).toNatClampNeg) ^^^ ((nI 1) <<< (((x1 - x1 / (nI 225) * (nI 225)) - (x1 - x1 / (nI 225) * (nI 225)) / (nI 15) * (nI 15)) &&& 31))), .int ((x1 - x1 / (nI 225) * (nI 225)) / (nI 15)), .ref b0_]) rfl ?_
  refine wp_iast hT rfl h.1 ⟨h.2.1, ?_⟩
  have h := h.2.2
  have h := h _ rfl
  exact wp_rv hT rfl rfl ⟨rfl, h⟩

theorem mk_X1_change {X : Nat × (Nat → Int32)} {x1 : Int32} {iv : IV} {P : IV → Prop}
    (h : (((nI 225) ≤ x1 → wp X (0, 0) 7 8 [none, some (.int x1), none, none] [.ref 8] iv (Rv P)) ∧ (¬ ((nI 225) ≤ x1) → wp X (0, 0) 7 8 [none, some (.int x1), none, none] [.ref 7] iv (Rv P)))) :
    wc X 7 [.ref 6, .int x1] iv (Rv P) := by
  have hT := tb_7
  show wp X (0, 0) 7 0 [some (.ref 6), some (.int x1), none, none] [] iv (Rv P)
  refine wp_s hT 2 (i' := 2) (L' := [some (.ref 6), some (.int x1), none, none]) (st' := [.int (nI 225), .int x1]) rfl ?_
  refine wp_ic_ge hT rfl ⟨fun c => ?_, fun c => ?_⟩
  · have h := h.1 c
    refine wp_s hT 2 (i' := 8) (L' := [some (.ref 6), some (.int x1), none, none]) (st' := [.ref 8]) rfl ?_
    refine wp_le (L := [none, some (.int x1), none, none]) ⟨Or.inr ⟨rfl, rfl⟩, Or.inl rfl, Or.inl rfl, Or.inl rfl, trivial⟩ ?_
    exact h
  · have h := h.2 c
    refine wp_s hT 3 (i' := 8) (L' := [some (.ref 6), some (.int x1), none, none]) (st' := [.ref 7]) rfl ?_
    refine wp_le (L := [none, some (.int x1), none, none]) ⟨Or.inr ⟨rfl, rfl⟩, Or.inl rfl, Or.inl rfl, Or.inl rfl, trivial⟩ ?_
    exact h

theorem mk_X2_times {X : Nat × (Nat → Int32)} {x0 : Int32} {x1 : Int32} {iv : IV} {P : Int32 → IV → Prop}
    (h : ((x0 = 0 → P (nI 0) iv) ∧ (¬ (x0 = 0) → ((x1 = 0 → P (nI 0) iv) ∧ (¬ (x1 = 0) → vp_in (x0 &&& (nI 15)) 16 ∧ vp_in (x1 &&& (nI 15)) 16 ∧ vp_in (((mm_S X 3).2 (x0 &&& (nI 15)).toNatClampNeg) + ((mm_S X 3).2 (x1 &&& (nI 15)).toNatClampNeg)) 30 ∧ P ((mm_S X 2).2 (((mm_S X 3).2 (x0 &&& (nI 15)).toNatClampNeg) + ((mm_S X 3).2 (x1 &&& (nI 15)).toNatClampNeg)).toNatClampNeg) iv))))) :
    wc X 8 [.int x0, .int x1] iv (Ri P) := by
  have hT := tb_8
  show wp X (0, 0) 8 0 [some (.int x0), some (.int x1)] [] iv (Ri P)
  refine wp_s hT 1 (i' := 1) (L' := [some (.int x0), some (.int x1)]) (st' := [.int x0]) rfl ?_
  refine wp_if_eq hT rfl ⟨fun c => ?_, fun c => ?_⟩
  · have h := h.1 c
    refine wp_s hT 2 (i' := 19) (L' := [some (.int x0), some (.int x1)]) (st' := [.int (nI 0)]) rfl ?_
    exact wp_ri hT rfl rfl ⟨_, rfl, h⟩
  · have h := h.2 c
    refine wp_s hT 1 (i' := 3) (L' := [some (.int x0), some (.int x1)]) (st' := [.int x1]) rfl ?_
    refine wp_if_ne hT rfl ⟨fun c => ?_, fun c => ?_⟩
    · have h := h.1 c
      refine wp_s hT 2 (i' := 19) (L' := [some (.int x0), some (.int x1)]) (st' := [.int (nI 0)]) rfl ?_
      exact wp_ri hT rfl rfl ⟨_, rfl, h⟩
    · have h := h.2 c
      refine wp_s hT 5 (i' := 11) (L' := [some (.int x0), some (.int x1)]) (st' := [.int (x0 &&& (nI 15)), .ref 1000003, .ref 1000002]) rfl ?_
      refine wp_tald (a := 3) hT rfl rfl (by decide) ⟨h.1, ?_⟩
      have h := h.2
      refine wp_s hT 4 (i' := 16) (L' := [some (.int x0), some (.int x1)]) (st' := [.int (x1 &&& (nI 15)), .ref 1000003, .int ((mm_S X 3).2 (x0 &&& (nI 15)).toNatClampNeg), .ref 1000002]) rfl ?_
      refine wp_tald (a := 3) hT rfl rfl (by decide) ⟨h.1, ?_⟩
      have h := h.2
      refine wp_s hT 1 (i' := 18) (L' := [some (.int x0), some (.int x1)]) (st' := [.int (((mm_S X 3).2 (x0 &&& (nI 15)).toNatClampNeg) + ((mm_S X 3).2 (x1 &&& (nI 15)).toNatClampNeg)), .ref 1000002]) rfl ?_
      refine wp_tald (a := 2) hT rfl rfl (by decide) ⟨h.1, ?_⟩
      have h := h.2
      exact wp_ri hT rfl rfl ⟨_, rfl, h⟩

theorem mk_X2_quotient {X : Nat × (Nat → Int32)} {x0 : Int32} {x1 : Int32} {iv : IV} {P : Int32 → IV → Prop}
    (h : ((x1 = 0 → P (nI 4294967295) iv) ∧ (¬ (x1 = 0) → ((x0 = 0 → P (nI 0) iv) ∧ (¬ (x0 = 0) → vp_in (x0 &&& (nI 15)) 16 ∧ vp_in (x1 &&& (nI 15)) 16 ∧ vp_in ((((mm_S X 3).2 (x0 &&& (nI 15)).toNatClampNeg) + (nI 15)) - ((mm_S X 3).2 (x1 &&& (nI 15)).toNatClampNeg)) 30 ∧ P ((mm_S X 2).2 ((((mm_S X 3).2 (x0 &&& (nI 15)).toNatClampNeg) + (nI 15)) - ((mm_S X 3).2 (x1 &&& (nI 15)).toNatClampNeg)).toNatClampNeg) iv))))) :
    wc X 9 [.int x0, .int x1] iv (Ri P) := by
  have hT := tb_9
  show wp X (0, 0) 9 0 [some (.int x0), some (.int x1)] [] iv (Ri P)
  refine wp_s hT 1 (i' := 1) (L' := [some (.int x0), some (.int x1)]) (st' := [.int x1]) rfl ?_
  refine wp_if_ne hT rfl ⟨fun c => ?_, fun c => ?_⟩
  · have h := h.1 c
    refine wp_s hT 1 (i' := 3) (L' := [some (.int x0), some (.int x1)]) (st' := [.int (nI 4294967295)]) rfl ?_
    exact wp_ri hT rfl rfl ⟨_, rfl, h⟩
  · have h := h.2 c
    refine wp_s hT 1 (i' := 5) (L' := [some (.int x0), some (.int x1)]) (st' := [.int x0]) rfl ?_
    refine wp_if_ne hT rfl ⟨fun c => ?_, fun c => ?_⟩
    · have h := h.1 c
      refine wp_s hT 2 (i' := 23) (L' := [some (.int x0), some (.int x1)]) (st' := [.int (nI 0)]) rfl ?_
      exact wp_ri hT rfl rfl ⟨_, rfl, h⟩
    · have h := h.2 c
      refine wp_s hT 5 (i' := 13) (L' := [some (.int x0), some (.int x1)]) (st' := [.int (x0 &&& (nI 15)), .ref 1000003, .ref 1000002]) rfl ?_
      refine wp_tald (a := 3) hT rfl rfl (by decide) ⟨h.1, ?_⟩
      have h := h.2
      refine wp_s hT 6 (i' := 20) (L' := [some (.int x0), some (.int x1)]) (st' := [.int (x1 &&& (nI 15)), .ref 1000003, .int (((mm_S X 3).2 (x0 &&& (nI 15)).toNatClampNeg) + (nI 15)), .ref 1000002]) rfl ?_
      refine wp_tald (a := 3) hT rfl rfl (by decide) ⟨h.1, ?_⟩
      have h := h.2
      refine wp_s hT 1 (i' := 22) (L' := [some (.int x0), some (.int x1)]) (st' := [.int ((((mm_S X 3).2 (x0 &&& (nI 15)).toNatClampNeg) + (nI 15)) - ((mm_S X 3).2 (x1 &&& (nI 15)).toNatClampNeg)), .ref 1000002]) rfl ?_
      refine wp_tald (a := 2) hT rfl rfl (by decide) ⟨h.1, ?_⟩
      have h := h.2
      exact wp_ri hT rfl rfl ⟨_, rfl, h⟩

theorem mk_X2_raised {X : Nat × (Nat → Int32)} {x0 : Int32} {x1 : Int32} {iv : IV} {P : Int32 → IV → Prop}
    (h : ((x1 = 0 → P (nI 1) iv) ∧ (¬ (x1 = 0) → ((x0 = 0 → P (nI 0) iv) ∧ (¬ (x0 = 0) → vp_in (x0 &&& (nI 15)) 16 ∧ wc X 221 [.int (((mm_S X 3).2 (x0 &&& (nI 15)).toNatClampNeg) * x1), .int (nI 15)] iv (Ri (fun r2 iv1 => vp_in r2 30 ∧ P ((mm_S X 2).2 r2.toNatClampNeg) iv1))))))) :
    wc X 10 [.int x0, .int x1] iv (Ri P) := by
  have hT := tb_10
  show wp X (0, 0) 10 0 [some (.int x0), some (.int x1)] [] iv (Ri P)
  refine wp_s hT 1 (i' := 1) (L' := [some (.int x0), some (.int x1)]) (st' := [.int x1]) rfl ?_
  refine wp_if_ne hT rfl ⟨fun c => ?_, fun c => ?_⟩
  · have h := h.1 c
    refine wp_s hT 1 (i' := 3) (L' := [some (.int x0), some (.int x1)]) (st' := [.int (nI 1)]) rfl ?_
    exact wp_ri hT rfl rfl ⟨_, rfl, h⟩
  · have h := h.2 c
    refine wp_s hT 1 (i' := 5) (L' := [some (.int x0), some (.int x1)]) (st' := [.int x0]) rfl ?_
    refine wp_if_ne hT rfl ⟨fun c => ?_, fun c => ?_⟩
    · have h := h.1 c
      refine wp_s hT 2 (i' := 19) (L' := [some (.int x0), some (.int x1)]) (st' := [.int (nI 0)]) rfl ?_
      exact wp_ri hT rfl rfl ⟨_, rfl, h⟩
    · have h := h.2 c
      refine wp_s hT 5 (i' := 13) (L' := [some (.int x0), some (.int x1)]) (st' := [.int (x0 &&& (nI 15)), .ref 1000003, .ref 1000002]) rfl ?_
      refine wp_tald (a := 3) hT rfl rfl (by decide) ⟨h.1, ?_⟩
      have h := h.2
      refine wp_s hT 3 (i' := 17) (L' := [some (.int x0), some (.int x1)]) (st' := [.int (nI 15), .int (((mm_S X 3).2 (x0 &&& (nI 15)).toNatClampNeg) * x1), .ref 1000002]) rfl ?_
      refine wp_calli hT rfl rfl h (fun r2 iv1 h => ?_)
      refine wp_tald (a := 2) hT rfl rfl (by decide) ⟨h.1, ?_⟩
      have h := h.2
      exact wp_ri hT rfl rfl ⟨_, rfl, h⟩

theorem mk_X2_ofPlace {X : Nat × (Nat → Int32)} {x0 : Int32} {iv : IV} {P : Int32 → IV → Prop}
    (h : vp_in (((nI 13) - x0) &&& (nI 15)) 30 ∧ P ((mm_S X 2).2 (((nI 13) - x0) &&& (nI 15)).toNatClampNeg) iv) :
    wc X 11 [.int x0] iv (Ri P) := by
  have hT := tb_11
  show wp X (0, 0) 11 0 [some (.int x0)] [] iv (Ri P)
  refine wp_s hT 6 (i' := 6) (L' := [some (.int x0)]) (st' := [.int (((nI 13) - x0) &&& (nI 15)), .ref 1000002]) rfl ?_
  refine wp_tald (a := 2) hT rfl rfl (by decide) ⟨h.1, ?_⟩
  have h := h.2
  exact wp_ri hT rfl rfl ⟨_, rfl, h⟩

theorem mk_X3_make {X : Nat × (Nat → Int32)} {x2 : Int32} {iv : IV} {P : IV → Prop}
    (h : ∀ iv1 : IV, iv1 = mm_up2 iv 21 0 x2 → wc X 119 [.int x2, .int (iv1 2 2)] iv1 (Ri (fun r3 iv2 => (r3 = 0 ∨ r3 = 1) ∧ (∀ iv4 : IV, iv4 = mm_up2 iv2 21 1 r3 → ∀ iv5 : IV, iv5 = mm_up2 iv4 21 2 (nI 4294967295) → ∀ iv6 : IV, iv6 = mm_up2 iv5 21 3 (nI 0) → ((iv6 21 1 = 0 → P iv6) ∧ (¬ (iv6 21 1 = 0) → wc X 15 [.ref 21, .ref 2] iv6 (Rv (fun iv7 => wc X 16 [.ref 21, .ref 14] iv7 (Rv (fun iv8 => wc X 17 [.ref 21, .ref 10] iv8 (Rv (fun iv9 => wc X 18 [.ref 21] iv9 (Rv (fun iv10 => P iv10)))))))))))))) :
    wc X 13 [.ref 21, .ref 2, .int x2, .ref 10, .ref 14] iv (Rv P) := by
  have hT := tb_13
  show wp X (0, 0) 13 0 [some (.ref 21), some (.ref 2), some (.int x2), some (.ref 10), some (.ref 14)] [] iv (Rv P)
  refine wp_s hT 2 (i' := 2) (L' := [some (.ref 21), some (.ref 2), some (.int x2), some (.ref 10), some (.ref 14)]) (st' := [.int x2, .ref 21]) rfl ?_
  refine wp_puti hT rfl rfl ⟨by decide, by decide⟩ ?_
  have h := h _ rfl
  refine wp_s hT 4 (i' := 7) (L' := [some (.ref 21), some (.ref 2), some (.int x2), some (.ref 10), some (.ref 14)]) (st' := [.int ((mm_up2 iv 21 0 x2) 2 2), .int x2, .ref 21]) rfl ?_
  refine wp_calli hT rfl rfl h (fun r3 iv2 h => ?_)
  refine wp_putz hT rfl rfl ⟨by decide, by decide⟩ ⟨h.1, ?_⟩
  have h := h.2
  have h := h _ rfl
  refine wp_s hT 2 (i' := 11) (L' := [some (.ref 21), some (.ref 2), some (.int x2), some (.ref 10), some (.ref 14)]) (st' := [.int (nI 4294967295), .ref 21]) rfl ?_
  refine wp_puti hT rfl rfl ⟨by decide, by decide⟩ ?_
  have h := h _ rfl
  refine wp_s hT 2 (i' := 14) (L' := [some (.ref 21), some (.ref 2), some (.int x2), some (.ref 10), some (.ref 14)]) (st' := [.int (nI 0), .ref 21]) rfl ?_
  refine wp_puti hT rfl rfl ⟨by decide, by decide⟩ ?_
  have h := h _ rfl
  refine wp_s hT 2 (i' := 17) (L' := [some (.ref 21), some (.ref 2), some (.int x2), some (.ref 10), some (.ref 14)]) (st' := [.int ((mm_up2 (mm_up2 (mm_up2 iv2 21 1 r3) 21 2 (nI 4294967295)) 21 3 (nI 0)) 21 1)]) rfl ?_
  refine wp_if_eq hT rfl ⟨fun c => ?_, fun c => ?_⟩
  · have h := h.1 c
    exact wp_rv hT rfl rfl ⟨rfl, h⟩
  · have h := h.2 c
    refine wp_s hT 2 (i' := 20) (L' := [some (.ref 21), some (.ref 2), some (.int x2), some (.ref 10), some (.ref 14)]) (st' := [.ref 2, .ref 21]) rfl ?_
    refine wp_callv hT rfl rfl h (fun iv7 h => ?_)
    refine wp_s hT 2 (i' := 23) (L' := [some (.ref 21), some (.ref 2), some (.int x2), some (.ref 10), some (.ref 14)]) (st' := [.ref 14, .ref 21]) rfl ?_
    refine wp_callv hT rfl rfl h (fun iv8 h => ?_)
    refine wp_s hT 2 (i' := 26) (L' := [some (.ref 21), some (.ref 2), some (.int x2), some (.ref 10), some (.ref 14)]) (st' := [.ref 10, .ref 21]) rfl ?_
    refine wp_callv hT rfl rfl h (fun iv9 h => ?_)
    refine wp_s hT 1 (i' := 28) (L' := [some (.ref 21), some (.ref 2), some (.int x2), some (.ref 10), some (.ref 14)]) (st' := [.ref 21]) rfl ?_
    refine wp_callv hT rfl rfl h (fun iv10 h => ?_)
    exact wp_rv hT rfl rfl ⟨rfl, h⟩

theorem mk_X3_chosen {X : Nat × (Nat → Int32)} {x1 : Int32} {iv : IV} {P : Int32 → IV → Prop}
    (h : (((iv 21 2) = (nI 4294967295) → P (nI 0) iv) ∧ (¬ ((iv 21 2) = (nI 4294967295)) → vp_in (iv 21 2) 4 ∧ ∀ a1 : Nat, a1 = rvT 27 (iv 21 2).toNatClampNeg → kdT a1 = (1, 15) ∧ vp_in x1 15 ∧ P (iv a1 x1.toNatClampNeg) iv))) :
    wc X 14 [.ref 21, .int x1] iv (Ri P) := by
  have hT := tb_14
  show wp X (0, 0) 14 0 [some (.ref 21), some (.int x1)] [] iv (Ri P)
  refine wp_s hT 3 (i' := 3) (L' := [some (.ref 21), some (.int x1)]) (st' := [.int (nI 4294967295), .int (iv 21 2)]) rfl ?_
  refine wp_ic_ne hT rfl ⟨fun c => ?_, fun c => ?_⟩
  · have h := h.1 c
    refine wp_s hT 2 (i' := 13) (L' := [some (.ref 21), some (.int x1)]) (st' := [.int (nI 0)]) rfl ?_
    exact wp_ri hT rfl rfl ⟨_, rfl, h⟩
  · have h := h.2 c
    refine wp_s hT 4 (i' := 10) (L' := [some (.ref 21), some (.int x1)]) (st' := [.int (iv 21 2), .ref 27]) rfl ?_
    refine wp_aald hT rfl rfl ⟨by decide, by decide⟩ ⟨h.1, ?_⟩
    have h := h.2
    have h := h _ rfl
    refine wp_s hT 1 (i' := 12) (L' := [some (.ref 21), some (.int x1)]) (st' := [.int x1, .ref (rvT 27 (iv 21 2).toNatClampNeg)]) rfl ?_
    refine wp_iald hT rfl h.1 ⟨h.2.1, ?_⟩
    have h := h.2.2
    exact wp_ri hT rfl rfl ⟨_, rfl, h⟩

theorem mk_X3_layItems_16 {X : Nat × (Nat → Int32)} {x2 : Int32} {x3 : Int32} {iv : IV} {P : IV → Prop}
    (h : ((x2 ≤ x3 → P iv) ∧ (¬ (x2 ≤ x3) → wc X 58 [.ref 2, .int ((x3 - (nI 1)) / (nI 2))] iv (Ri (fun r2 iv1 => vp_in (x3 - x3 / (nI 3) * (nI 3)) 3 ∧ ∀ a3 : Nat, a3 = rvT 22 (x3 - x3 / (nI 3) * (nI 3)).toNatClampNeg → (((x3 - x3 / (nI 2) * (nI 2)) = (nI 1) → kdT a3 = (1, 14) ∧ vp_in (x3 / (nI 3)) 14 ∧ (∀ iv4 : IV, iv4 = mm_up2 iv1 a3 (x3 / (nI 3)).toNatClampNeg (r2 >>> ((nI 4) &&& 31)) → wp X (0, 0) 15 16 [some (.ref 21), some (.ref 2), some (.int x2), some (.int (x3 + nI 1)), none] [] iv4 (Rv P))) ∧ (¬ ((x3 - x3 / (nI 2) * (nI 2)) = (nI 1)) → kdT a3 = (1, 14) ∧ vp_in (x3 / (nI 3)) 14 ∧ (∀ iv5 : IV, iv5 = mm_up2 iv1 a3 (x3 / (nI 3)).toNatClampNeg (r2 &&& (nI 15)) → wp X (0, 0) 15 16 [some (.ref 21), some (.ref 2), some (.int x2), some (.int (x3 + nI 1)), none] [] iv5 (Rv P))))))))) :
    wp X (0, 0) 15 16 [some (.ref 21), some (.ref 2), some (.int x2), some (.int x3), none] [] iv (Rv P) := by
  have hT := tb_15
  refine wp_s hT 2 (i' := 18) (L' := [some (.ref 21), some (.ref 2), some (.int x2), some (.int x3), none]) (st' := [.int x2, .int x3]) rfl ?_
  refine wp_ic_ge hT rfl ⟨fun c => ?_, fun c => ?_⟩
  · have h := h.1 c
    exact wp_rv hT rfl rfl ⟨rfl, h⟩
  · have h := h.2 c
    refine wp_s hT 6 (i' := 25) (L' := [some (.ref 21), some (.ref 2), some (.int x2), some (.int x3), none]) (st' := [.int ((x3 - (nI 1)) / (nI 2)), .ref 2]) rfl ?_
    refine wp_calli hT rfl rfl h (fun r2 iv1 h => ?_)
    refine wp_s hT 6 (i' := 32) (L' := [some (.ref 21), some (.ref 2), some (.int x2), some (.int x3), some (.int r2)]) (st' := [.int (x3 - x3 / (nI 3) * (nI 3)), .ref 22]) rfl ?_
    refine wp_aald hT rfl rfl ⟨by decide, by decide⟩ ⟨h.1, ?_⟩
    have h := h.2
    have h := h _ rfl
    refine wp_s hT 7 (i' := 40) (L' := [some (.ref 21), some (.ref 2), some (.int x2), some (.int x3), some (.int r2)]) (st' := [.int (nI 1), .int (x3 - x3 / (nI 2) * (nI 2)), .int (x3 / (nI 3)), .ref (rvT 22 (x3 - x3 / (nI 3) * (nI 3)).toNatClampNeg)]) rfl ?_
    refine wp_ic_ne hT rfl ⟨fun c => ?_, fun c => ?_⟩
    · have h := h.1 c
      refine wp_s hT 4 (i' := 48) (L' := [some (.ref 21), some (.ref 2), some (.int x2), some (.int x3), some (.int r2)]) (st' := [.int (r2 >>> ((nI 4) &&& 31)), .int (x3 / (nI 3)), .ref (rvT 22 (x3 - x3 / (nI 3) * (nI 3)).toNatClampNeg)]) rfl ?_
      refine wp_iast hT rfl h.1 ⟨h.2.1, ?_⟩
      have h := h.2.2
      have h := h _ rfl
      refine wp_s hT 2 (i' := 16) (L' := [some (.ref 21), some (.ref 2), some (.int x2), some (.int (x3 + nI 1)), some (.int r2)]) (st' := []) rfl ?_
      refine wp_le (L := [some (.ref 21), some (.ref 2), some (.int x2), some (.int (x3 + nI 1)), none]) ⟨Or.inl rfl, Or.inl rfl, Or.inl rfl, Or.inl rfl, Or.inr ⟨rfl, rfl⟩, trivial⟩ ?_
      exact h
    · have h := h.2 c
      refine wp_s hT 3 (i' := 48) (L' := [some (.ref 21), some (.ref 2), some (.int x2), some (.int x3), some (.int r2)]) (st' := [.int (r2 &&& (nI 15)), .int (x3 / (nI 3)), .ref (rvT 22 (x3 - x3 / (nI 3) * (nI 3)).toNatClampNeg)]) rfl ?_
      refine wp_iast hT rfl h.1 ⟨h.2.1, ?_⟩
      have h := h.2.2
      have h := h _ rfl
      refine wp_s hT 2 (i' := 16) (L' := [some (.ref 21), some (.ref 2), some (.int x2), some (.int (x3 + nI 1)), some (.int r2)]) (st' := []) rfl ?_
      refine wp_le (L := [some (.ref 21), some (.ref 2), some (.int x2), some (.int (x3 + nI 1)), none]) ⟨Or.inl rfl, Or.inl rfl, Or.inl rfl, Or.inl rfl, Or.inr ⟨rfl, rfl⟩, trivial⟩ ?_
      exact h

theorem mk_X3_layItems {X : Nat × (Nat → Int32)}  {iv : IV} {P : IV → Prop}
    (h : wc X 118 [.int (iv 21 0)] iv (Ri (fun r2 iv1 => vp_in (nI 0) 3 ∧ vp_in (nI 0) 14 ∧ (∀ iv3 : IV, iv3 = mm_up2 iv1 23 (nI 0).toNatClampNeg (iv1 2 2) → wp X (0, 0) 15 16 [some (.ref 21), some (.ref 2), some (.int ((nI 3) * r2)), some (.int (nI 1)), none] [] iv3 (Rv P))))) :
    wc X 15 [.ref 21, .ref 2] iv (Rv P) := by
  have hT := tb_15
  show wp X (0, 0) 15 0 [some (.ref 21), some (.ref 2), none, none, none] [] iv (Rv P)
  refine wp_s hT 3 (i' := 3) (L' := [some (.ref 21), some (.ref 2), none, none, none]) (st' := [.int (iv 21 0), .int (nI 3)]) rfl ?_
  refine wp_calli hT rfl rfl h (fun r2 iv1 h => ?_)
  refine wp_s hT 5 (i' := 9) (L' := [some (.ref 21), some (.ref 2), some (.int ((nI 3) * r2)), none, none]) (st' := [.int (nI 0), .ref 22]) rfl ?_
  refine wp_aald hT rfl rfl ⟨by decide, by decide⟩ ⟨h.1, ?_⟩
  have h := h.2
  refine wp_s hT 3 (i' := 13) (L' := [some (.ref 21), some (.ref 2), some (.int ((nI 3) * r2)), none, none]) (st' := [.int (iv1 2 2), .int (nI 0), .ref 23]) rfl ?_
  refine wp_iast hT rfl rfl ⟨h.1, ?_⟩
  have h := h.2
  have h := h _ rfl
  refine wp_s hT 2 (i' := 16) (L' := [some (.ref 21), some (.ref 2), some (.int ((nI 3) * r2)), some (.int (nI 1)), none]) (st' := []) rfl ?_
  exact h

theorem mk_X3_addChecks_12 {X : Nat × (Nat → Int32)} {x3 : Int32} {x4 : Int32} {iv : IV} {P : IV → Prop}
    (h : (((nI 3) ≤ x4 → P iv) ∧ (¬ ((nI 3) ≤ x4) → vp_in x4 3 ∧ ∀ a1 : Nat, a1 = rvT 22 x4.toNatClampNeg → wc X 117 [.int (iv 21 0)] iv (Ri (fun r3 iv2 => vp_in x4 3 ∧ ∀ a4 : Nat, a4 = rvT 22 x4.toNatClampNeg → wc X 26 [.ref 14, .ref a1, .int x3, .int r3, .ref a4] iv2 (Ri (fun r6 iv5 => wp X (0, 0) 16 12 [some (.ref 21), some (.ref 14), none, some (.int x3), some (.int (x4 + nI 1))] [] iv5 (Rv P)))))))) :
    wp X (0, 0) 16 12 [some (.ref 21), some (.ref 14), none, some (.int x3), some (.int x4)] [] iv (Rv P) := by
  have hT := tb_16
  refine wp_s hT 2 (i' := 14) (L' := [some (.ref 21), some (.ref 14), none, some (.int x3), some (.int x4)]) (st' := [.int (nI 3), .int x4]) rfl ?_
  refine wp_ic_ge hT rfl ⟨fun c => ?_, fun c => ?_⟩
  · have h := h.1 c
    exact wp_rv hT rfl rfl ⟨rfl, h⟩
  · have h := h.2 c
    refine wp_s hT 4 (i' := 19) (L' := [some (.ref 21), some (.ref 14), none, some (.int x3), some (.int x4)]) (st' := [.int x4, .ref 22, .ref 14]) rfl ?_
    refine wp_aald hT rfl rfl ⟨by decide, by decide⟩ ⟨h.1, ?_⟩
    have h := h.2
    have h := h _ rfl
    refine wp_s hT 3 (i' := 23) (L' := [some (.ref 21), some (.ref 14), none, some (.int x3), some (.int x4)]) (st' := [.int (iv 21 0), .int x3, .ref (rvT 22 x4.toNatClampNeg), .ref 14]) rfl ?_
    refine wp_calli hT rfl rfl h (fun r3 iv2 h => ?_)
    refine wp_s hT 3 (i' := 27) (L' := [some (.ref 21), some (.ref 14), none, some (.int x3), some (.int x4)]) (st' := [.int x4, .ref 22, .int r3, .int x3, .ref (rvT 22 x4.toNatClampNeg), .ref 14]) rfl ?_
    refine wp_aald hT rfl rfl ⟨by decide, by decide⟩ ⟨h.1, ?_⟩
    have h := h.2
    have h := h _ rfl
    refine wp_calli hT rfl rfl h (fun r6 iv5 h => ?_)
    refine wp_s hT 3 (i' := 12) (L' := [some (.ref 21), some (.ref 14), none, some (.int x3), some (.int (x4 + nI 1))]) (st' := []) rfl ?_
    exact h

theorem mk_X3_addChecks {X : Nat × (Nat → Int32)}  {iv : IV} {P : IV → Prop}
    (h : wc X 118 [.int (iv 21 0)] iv (Ri (fun r2 iv1 => ∀ v3 : Int32, v3 = (nI 16384) - ((nI 1) <<< (r2 &&& 31)) → wp X (0, 0) 16 12 [some (.ref 21), some (.ref 14), none, some (.int v3), some (.int (nI 0))] [] iv1 (Rv P)))) :
    wc X 16 [.ref 21, .ref 14] iv (Rv P) := by
  have hT := tb_16
  show wp X (0, 0) 16 0 [some (.ref 21), some (.ref 14), none, none, none] [] iv (Rv P)
  refine wp_s hT 2 (i' := 2) (L' := [some (.ref 21), some (.ref 14), none, none, none]) (st' := [.int (iv 21 0)]) rfl ?_
  refine wp_calli hT rfl rfl h (fun r2 iv1 h => ?_)
  refine wp_s hT 7 (i' := 10) (L' := [some (.ref 21), some (.ref 14), some (.int r2), some (.int ((nI 16384) - ((nI 1) <<< (r2 &&& 31)))), none]) (st' := []) rfl ?_
  have h := h _ rfl
  refine wp_s hT 2 (i' := 12) (L' := [some (.ref 21), some (.ref 14), some (.int r2), some (.int ((nI 16384) - ((nI 1) <<< (r2 &&& 31)))), some (.int (nI 0))]) (st' := []) rfl ?_
  refine wp_le (L := [some (.ref 21), some (.ref 14), none, some (.int ((nI 16384) - ((nI 1) <<< (r2 &&& 31)))), some (.int (nI 0))]) ⟨Or.inl rfl, Or.inl rfl, Or.inr ⟨rfl, rfl⟩, Or.inl rfl, Or.inl rfl, trivial⟩ ?_
  exact h

theorem mk_X3_layDots_78 {X : Nat × (Nat → Int32)} {x2 : Int32} {x3 : Int32} {iv : IV} {P : IV → Prop}
    (h : (((nI 4) ≤ x3 → wp X (0, 0) 17 60 [some (.ref 21), none, some (.int (x2 + nI 1)), none, none, none] [] iv (Rv P)) ∧ (¬ ((nI 4) ≤ x3) → vp_in x3 4 ∧ ∀ a1 : Nat, a1 = rvT 27 x3.toNatClampNeg → wc X 19 [.ref 21, .int x2, .int x3] iv (Ri (fun r3 iv2 => vp_in x2 15 ∧ wc X 120 [.int x3, .int x2] iv2 (Ri (fun r5 iv4 => kdT a1 = (1, 15) ∧ vp_in x2 15 ∧ (∀ iv6 : IV, iv6 = mm_up2 iv4 a1 x2.toNatClampNeg (r3 ||| ((iv2 33 x2.toNatClampNeg) ^^^ r5)) → wp X (0, 0) 17 78 [some (.ref 21), none, some (.int x2), some (.int (x3 + nI 1)), none, none] [] iv6 (Rv P))))))))) :
    wp X (0, 0) 17 78 [some (.ref 21), none, some (.int x2), some (.int x3), none, none] [] iv (Rv P) := by
  have hT := tb_17
  refine wp_s hT 2 (i' := 80) (L' := [some (.ref 21), none, some (.int x2), some (.int x3), none, none]) (st' := [.int (nI 4), .int x3]) rfl ?_
  refine wp_ic_ge hT rfl ⟨fun c => ?_, fun c => ?_⟩
  · have h := h.1 c
    refine wp_s hT 2 (i' := 60) (L' := [some (.ref 21), none, some (.int (x2 + nI 1)), some (.int x3), none, none]) (st' := []) rfl ?_
    refine wp_le (L := [some (.ref 21), none, some (.int (x2 + nI 1)), none, none, none]) ⟨Or.inl rfl, Or.inl rfl, Or.inl rfl, Or.inr ⟨rfl, rfl⟩, Or.inl rfl, Or.inl rfl, trivial⟩ ?_
    exact h
  · have h := h.2 c
    refine wp_s hT 3 (i' := 84) (L' := [some (.ref 21), none, some (.int x2), some (.int x3), none, none]) (st' := [.int x3, .ref 27]) rfl ?_
    refine wp_aald hT rfl rfl ⟨by decide, by decide⟩ ⟨h.1, ?_⟩
    have h := h.2
    have h := h _ rfl
    refine wp_s hT 4 (i' := 89) (L' := [some (.ref 21), none, some (.int x2), some (.int x3), none, none]) (st' := [.int x3, .int x2, .ref 21, .int x2, .ref (rvT 27 x3.toNatClampNeg)]) rfl ?_
    refine wp_calli hT rfl rfl h (fun r3 iv2 h => ?_)
    refine wp_s hT 3 (i' := 93) (L' := [some (.ref 21), none, some (.int x2), some (.int x3), none, none]) (st' := [.int x2, .ref 33, .int r3, .int x2, .ref (rvT 27 x3.toNatClampNeg)]) rfl ?_
    refine wp_iald hT rfl rfl ⟨h.1, ?_⟩
    have h := h.2
    refine wp_s hT 2 (i' := 96) (L' := [some (.ref 21), none, some (.int x2), some (.int x3), none, none]) (st' := [.int x2, .int x3, .int (iv2 33 x2.toNatClampNeg), .int r3, .int x2, .ref (rvT 27 x3.toNatClampNeg)]) rfl ?_
    refine wp_calli hT rfl rfl h (fun r5 iv4 h => ?_)
    refine wp_s hT 2 (i' := 99) (L' := [some (.ref 21), none, some (.int x2), some (.int x3), none, none]) (st' := [.int (r3 ||| ((iv2 33 x2.toNatClampNeg) ^^^ r5)), .int x2, .ref (rvT 27 x3.toNatClampNeg)]) rfl ?_
    refine wp_iast hT rfl h.1 ⟨h.2.1, ?_⟩
    have h := h.2.2
    have h := h _ rfl
    refine wp_s hT 2 (i' := 78) (L' := [some (.ref 21), none, some (.int x2), some (.int (x3 + nI 1)), none, none]) (st' := []) rfl ?_
    exact h

theorem mk_X3_layDots_60 {X : Nat × (Nat → Int32)} {x2 : Int32} {iv : IV} {P : IV → Prop}
    (h : (((nI 15) ≤ x2 → P iv) ∧ (¬ ((nI 15) ≤ x2) → wc X 19 [.ref 21, .int x2, .int (nI 0)] iv (Ri (fun r2 iv1 => vp_in x2 15 ∧ vp_in x2 15 ∧ (∀ iv3 : IV, iv3 = mm_up2 iv1 26 x2.toNatClampNeg (r2 ||| (iv1 33 x2.toNatClampNeg)) → wp X (0, 0) 17 78 [some (.ref 21), none, some (.int x2), some (.int (nI 0)), none, none] [] iv3 (Rv P))))))) :
    wp X (0, 0) 17 60 [some (.ref 21), none, some (.int x2), none, none, none] [] iv (Rv P) := by
  have hT := tb_17
  refine wp_s hT 2 (i' := 62) (L' := [some (.ref 21), none, some (.int x2), none, none, none]) (st' := [.int (nI 15), .int x2]) rfl ?_
  refine wp_ic_ge hT rfl ⟨fun c => ?_, fun c => ?_⟩
  · have h := h.1 c
    exact wp_rv hT rfl rfl ⟨rfl, h⟩
  · have h := h.2 c
    refine wp_s hT 6 (i' := 69) (L' := [some (.ref 21), none, some (.int x2), none, none, none]) (st' := [.int (nI 0), .int x2, .ref 21, .int x2, .ref 26]) rfl ?_
    refine wp_calli hT rfl rfl h (fun r2 iv1 h => ?_)
    refine wp_s hT 3 (i' := 73) (L' := [some (.ref 21), none, some (.int x2), none, none, none]) (st' := [.int x2, .ref 33, .int r2, .int x2, .ref 26]) rfl ?_
    refine wp_iald hT rfl rfl ⟨h.1, ?_⟩
    have h := h.2
    refine wp_s hT 1 (i' := 75) (L' := [some (.ref 21), none, some (.int x2), none, none, none]) (st' := [.int (r2 ||| (iv1 33 x2.toNatClampNeg)), .int x2, .ref 26]) rfl ?_
    refine wp_iast hT rfl rfl ⟨h.1, ?_⟩
    have h := h.2
    have h := h _ rfl
    refine wp_s hT 2 (i' := 78) (L' := [some (.ref 21), none, some (.int x2), some (.int (nI 0)), none, none]) (st' := []) rfl ?_
    exact h

theorem mk_X3_layDots_14 {X : Nat × (Nat → Int32)} {x2 : Int32} {iv : IV} {P : IV → Prop}
    (h : (((nI 168) ≤ x2 → wp X (0, 0) 17 60 [some (.ref 21), none, some (.int (nI 0)), none, none, none] [] iv (Rv P)) ∧ (¬ ((nI 168) ≤ x2) → vp_in ((x2 / (nI 4)) - (x2 / (nI 4)) / (nI 3) * (nI 3)) 3 ∧ ∀ a1 : Nat, a1 = rvT 22 ((x2 / (nI 4)) - (x2 / (nI 4)) / (nI 3) * (nI 3)).toNatClampNeg → kdT a1 = (1, 14) ∧ vp_in ((x2 / (nI 4)) / (nI 3)) 14 ∧ ∀ v2 : Int32, v2 = iv a1 ((x2 / (nI 4)) / (nI 3)).toNatClampNeg → wc X 115 [.int v2, .int ((nI 3) - (x2 - x2 / (nI 4) * (nI 4)))] iv (Ri (fun r4 iv3 => vp_in x2 171 ∧ vp_in (iv3 12 x2.toNatClampNeg) 15 ∧ vp_in x2 171 ∧ vp_in (iv3 12 x2.toNatClampNeg) 15 ∧ (∀ iv5 : IV, iv5 = mm_up2 iv3 33 (iv3 12 x2.toNatClampNeg).toNatClampNeg ((iv3 33 (iv3 12 x2.toNatClampNeg).toNatClampNeg) ||| (r4 <<< ((iv3 13 x2.toNatClampNeg) &&& 31))) → wp X (0, 0) 17 14 [some (.ref 21), some (.ref 10), some (.int (x2 + nI 1)), none, none, none] [] iv5 (Rv P))))))) :
    wp X (0, 0) 17 14 [some (.ref 21), some (.ref 10), some (.int x2), none, none, none] [] iv (Rv P) := by
  have hT := tb_17
  refine wp_s hT 2 (i' := 16) (L' := [some (.ref 21), some (.ref 10), some (.int x2), none, none, none]) (st' := [.int (nI 168), .int x2]) rfl ?_
  refine wp_ic_ge hT rfl ⟨fun c => ?_, fun c => ?_⟩
  · have h := h.1 c
    refine wp_s hT 2 (i' := 60) (L' := [some (.ref 21), some (.ref 10), some (.int (nI 0)), none, none, none]) (st' := []) rfl ?_
    refine wp_le (L := [some (.ref 21), none, some (.int (nI 0)), none, none, none]) ⟨Or.inl rfl, Or.inr ⟨rfl, rfl⟩, Or.inl rfl, Or.inl rfl, Or.inl rfl, Or.inl rfl, trivial⟩ ?_
    exact h
  · have h := h.2 c
    refine wp_s hT 9 (i' := 26) (L' := [some (.ref 21), some (.ref 10), some (.int x2), some (.int (x2 / (nI 4))), none, none]) (st' := [.int ((x2 / (nI 4)) - (x2 / (nI 4)) / (nI 3) * (nI 3)), .ref 22]) rfl ?_
    refine wp_aald hT rfl rfl ⟨by decide, by decide⟩ ⟨h.1, ?_⟩
    have h := h.2
    have h := h _ rfl
    refine wp_s hT 3 (i' := 30) (L' := [some (.ref 21), some (.ref 10), some (.int x2), some (.int (x2 / (nI 4))), none, none]) (st' := [.int ((x2 / (nI 4)) / (nI 3)), .ref (rvT 22 ((x2 / (nI 4)) - (x2 / (nI 4)) / (nI 3) * (nI 3)).toNatClampNeg)]) rfl ?_
    refine wp_iald hT rfl h.1 ⟨h.2.1, ?_⟩
    have h := h.2.2
    refine wp_s hT 1 (i' := 32) (L' := [some (.ref 21), some (.ref 10), some (.int x2), some (.int (x2 / (nI 4))), some (.int (iv (rvT 22 ((x2 / (nI 4)) - (x2 / (nI 4)) / (nI 3) * (nI 3)).toNatClampNeg) ((x2 / (nI 4)) / (nI 3)).toNatClampNeg)), none]) (st' := []) rfl ?_
    have h := h _ rfl
    refine wp_s hT 6 (i' := 38) (L' := [some (.ref 21), some (.ref 10), some (.int x2), some (.int (x2 / (nI 4))), some (.int (iv (rvT 22 ((x2 / (nI 4)) - (x2 / (nI 4)) / (nI 3) * (nI 3)).toNatClampNeg) ((x2 / (nI 4)) / (nI 3)).toNatClampNeg)), none]) (st' := [.int ((nI 3) - (x2 - x2 / (nI 4) * (nI 4))), .int (iv (rvT 22 ((x2 / (nI 4)) - (x2 / (nI 4)) / (nI 3) * (nI 3)).toNatClampNeg) ((x2 / (nI 4)) / (nI 3)).toNatClampNeg)]) rfl ?_
    refine wp_calli hT rfl rfl h (fun r4 iv3 h => ?_)
    refine wp_s hT 6 (i' := 45) (L' := [some (.ref 21), some (.ref 10), some (.int x2), some (.int (x2 / (nI 4))), some (.int (iv (rvT 22 ((x2 / (nI 4)) - (x2 / (nI 4)) / (nI 3) * (nI 3)).toNatClampNeg) ((x2 / (nI 4)) / (nI 3)).toNatClampNeg)), some (.int r4)]) (st' := [.int x2, .ref 12, .ref 33]) rfl ?_
    refine wp_iald hT rfl rfl ⟨h.1, ?_⟩
    have h := h.2
    refine wp_s hT 1 (i' := 47) (L' := [some (.ref 21), some (.ref 10), some (.int x2), some (.int (x2 / (nI 4))), some (.int (iv (rvT 22 ((x2 / (nI 4)) - (x2 / (nI 4)) / (nI 3) * (nI 3)).toNatClampNeg) ((x2 / (nI 4)) / (nI 3)).toNatClampNeg)), some (.int r4)]) (st' := [.int (iv3 12 x2.toNatClampNeg), .ref 33, .int (iv3 12 x2.toNatClampNeg), .ref 33]) rfl ?_
    refine wp_iald hT rfl rfl ⟨h.1, ?_⟩
    have h := h.2
    refine wp_s hT 4 (i' := 52) (L' := [some (.ref 21), some (.ref 10), some (.int x2), some (.int (x2 / (nI 4))), some (.int (iv (rvT 22 ((x2 / (nI 4)) - (x2 / (nI 4)) / (nI 3) * (nI 3)).toNatClampNeg) ((x2 / (nI 4)) / (nI 3)).toNatClampNeg)), some (.int r4)]) (st' := [.int x2, .ref 13, .int r4, .int (iv3 33 (iv3 12 x2.toNatClampNeg).toNatClampNeg), .int (iv3 12 x2.toNatClampNeg), .ref 33]) rfl ?_
    refine wp_iald hT rfl rfl ⟨h.1, ?_⟩
    have h := h.2
    refine wp_s hT 2 (i' := 55) (L' := [some (.ref 21), some (.ref 10), some (.int x2), some (.int (x2 / (nI 4))), some (.int (iv (rvT 22 ((x2 / (nI 4)) - (x2 / (nI 4)) / (nI 3) * (nI 3)).toNatClampNeg) ((x2 / (nI 4)) / (nI 3)).toNatClampNeg)), some (.int r4)]) (st' := [.int ((iv3 33 (iv3 12 x2.toNatClampNeg).toNatClampNeg) ||| (r4 <<< ((iv3 13 x2.toNatClampNeg) &&& 31))), .int (iv3 12 x2.toNatClampNeg), .ref 33]) rfl ?_
    refine wp_iast hT rfl rfl ⟨h.1, ?_⟩
    have h := h.2
    have h := h _ rfl
    refine wp_s hT 2 (i' := 14) (L' := [some (.ref 21), some (.ref 10), some (.int (x2 + nI 1)), some (.int (x2 / (nI 4))), some (.int (iv (rvT 22 ((x2 / (nI 4)) - (x2 / (nI 4)) / (nI 3) * (nI 3)).toNatClampNeg) ((x2 / (nI 4)) / (nI 3)).toNatClampNeg)), some (.int r4)]) (st' := []) rfl ?_
    refine wp_le (L := [some (.ref 21), some (.ref 10), some (.int (x2 + nI 1)), none, none, none]) ⟨Or.inl rfl, Or.inl rfl, Or.inl rfl, Or.inr ⟨rfl, rfl⟩, Or.inr ⟨rfl, rfl⟩, Or.inr ⟨rfl, rfl⟩, trivial⟩ ?_
    exact h

theorem mk_X3_layDots_2 {X : Nat × (Nat → Int32)} {x2 : Int32} {iv : IV} {P : IV → Prop}
    (h : (((nI 15) ≤ x2 → wp X (0, 0) 17 14 [some (.ref 21), some (.ref 10), some (.int (nI 0)), none, none, none] [] iv (Rv P)) ∧ (¬ ((nI 15) ≤ x2) → vp_in x2 15 ∧ (∀ iv1 : IV, iv1 = mm_up2 iv 33 x2.toNatClampNeg (nI 0) → wp X (0, 0) 17 2 [some (.ref 21), some (.ref 10), some (.int (x2 + nI 1)), none, none, none] [] iv1 (Rv P))))) :
    wp X (0, 0) 17 2 [some (.ref 21), some (.ref 10), some (.int x2), none, none, none] [] iv (Rv P) := by
  have hT := tb_17
  refine wp_s hT 2 (i' := 4) (L' := [some (.ref 21), some (.ref 10), some (.int x2), none, none, none]) (st' := [.int (nI 15), .int x2]) rfl ?_
  refine wp_ic_ge hT rfl ⟨fun c => ?_, fun c => ?_⟩
  · have h := h.1 c
    refine wp_s hT 2 (i' := 14) (L' := [some (.ref 21), some (.ref 10), some (.int (nI 0)), none, none, none]) (st' := []) rfl ?_
    exact h
  · have h := h.2 c
    refine wp_s hT 4 (i' := 9) (L' := [some (.ref 21), some (.ref 10), some (.int x2), none, none, none]) (st' := [.int (nI 0), .int x2, .ref 33]) rfl ?_
    refine wp_iast hT rfl rfl ⟨h.1, ?_⟩
    have h := h.2
    have h := h _ rfl
    refine wp_s hT 2 (i' := 2) (L' := [some (.ref 21), some (.ref 10), some (.int (x2 + nI 1)), none, none, none]) (st' := []) rfl ?_
    exact h

theorem mk_X3_layDots {X : Nat × (Nat → Int32)}  {iv : IV} {P : IV → Prop}
    (h : wp X (0, 0) 17 2 [some (.ref 21), some (.ref 10), some (.int (nI 0)), none, none, none] [] iv (Rv P)) :
    wc X 17 [.ref 21, .ref 10] iv (Rv P) := by
  have hT := tb_17
  show wp X (0, 0) 17 0 [some (.ref 21), some (.ref 10), none, none, none, none] [] iv (Rv P)
  refine wp_s hT 2 (i' := 2) (L' := [some (.ref 21), some (.ref 10), some (.int (nI 0)), none, none, none]) (st' := []) rfl ?_
  exact h

theorem mk_X3_chooseMask_5 {X : Nat × (Nat → Int32)} {x1 : Int32} {iv : IV} {P : IV → Prop}
    (h : (((nI 4) ≤ x1 → vp_in (iv 21 2) 4 ∧ ∀ a1 : Nat, a1 = rvT 27 (iv 21 2).toNatClampNeg → wc X 116 [.ref a1] iv (Ri (fun r3 iv2 => ∀ iv4 : IV, iv4 = mm_up2 iv2 21 3 r3 → P iv4))) ∧ (¬ ((nI 4) ≤ x1) → vp_in x1 4 ∧ ∀ a5 : Nat, a5 = rvT 27 x1.toNatClampNeg → wc X 20 [.ref a5] iv (Ri (fun r7 iv6 => vp_in x1 4 ∧ (∀ iv8 : IV, iv8 = mm_up2 iv6 32 x1.toNatClampNeg r7 → vp_in x1 4 ∧ vp_in (iv8 21 2) 4 ∧ (((iv8 32 (iv8 21 2).toNatClampNeg) ≤ (iv8 32 x1.toNatClampNeg) → wp X (0, 0) 18 5 [some (.ref 21), some (.int (x1 + nI 1))] [] iv8 (Rv P)) ∧ (¬ ((iv8 32 (iv8 21 2).toNatClampNeg) ≤ (iv8 32 x1.toNatClampNeg)) → ∀ iv9 : IV, iv9 = mm_up2 iv8 21 2 x1 → wp X (0, 0) 18 5 [some (.ref 21), some (.int (x1 + nI 1))] [] iv9 (Rv P))))))))) :
    wp X (0, 0) 18 5 [some (.ref 21), some (.int x1)] [] iv (Rv P) := by
  have hT := tb_18
  refine wp_s hT 2 (i' := 7) (L' := [some (.ref 21), some (.int x1)]) (st' := [.int (nI 4), .int x1]) rfl ?_
  refine wp_ic_ge hT rfl ⟨fun c => ?_, fun c => ?_⟩
  · have h := h.1 c
    refine wp_s hT 5 (i' := 37) (L' := [some (.ref 21), some (.int x1)]) (st' := [.int (iv 21 2), .ref 27, .ref 21]) rfl ?_
    refine wp_aald hT rfl rfl ⟨by decide, by decide⟩ ⟨h.1, ?_⟩
    have h := h.2
    have h := h _ rfl
    refine wp_calli hT rfl rfl h (fun r3 iv2 h => ?_)
    refine wp_puti hT rfl rfl ⟨by decide, by decide⟩ ?_
    have h := h _ rfl
    exact wp_rv hT rfl rfl ⟨rfl, h⟩
  · have h := h.2 c
    refine wp_s hT 6 (i' := 14) (L' := [some (.ref 21), some (.int x1)]) (st' := [.int x1, .ref 27, .int x1, .ref 32]) rfl ?_
    refine wp_aald hT rfl rfl ⟨by decide, by decide⟩ ⟨h.1, ?_⟩
    have h := h.2
    have h := h _ rfl
    refine wp_calli hT rfl rfl h (fun r7 iv6 h => ?_)
    refine wp_iast hT rfl rfl ⟨h.1, ?_⟩
    have h := h.2
    have h := h _ rfl
    refine wp_s hT 3 (i' := 20) (L' := [some (.ref 21), some (.int x1)]) (st' := [.int x1, .ref 32]) rfl ?_
    refine wp_iald hT rfl rfl ⟨h.1, ?_⟩
    have h := h.2
    refine wp_s hT 4 (i' := 25) (L' := [some (.ref 21), some (.int x1)]) (st' := [.int ((mm_up2 iv6 32 x1.toNatClampNeg r7) 21 2), .ref 32, .int ((mm_up2 iv6 32 x1.toNatClampNeg r7) 32 x1.toNatClampNeg)]) rfl ?_
    refine wp_iald hT rfl rfl ⟨h.1, ?_⟩
    have h := h.2
    refine wp_ic_ge hT rfl ⟨fun c => ?_, fun c => ?_⟩
    · have h := h.1 c
      refine wp_s hT 2 (i' := 5) (L' := [some (.ref 21), some (.int (x1 + nI 1))]) (st' := []) rfl ?_
      exact h
    · have h := h.2 c
      refine wp_s hT 2 (i' := 29) (L' := [some (.ref 21), some (.int x1)]) (st' := [.int x1, .ref 21]) rfl ?_
      refine wp_puti hT rfl rfl ⟨by decide, by decide⟩ ?_
      have h := h _ rfl
      refine wp_s hT 2 (i' := 5) (L' := [some (.ref 21), some (.int (x1 + nI 1))]) (st' := []) rfl ?_
      exact h

theorem mk_X3_chooseMask {X : Nat × (Nat → Int32)}  {iv : IV} {P : IV → Prop}
    (h : ∀ iv1 : IV, iv1 = mm_up2 iv 21 2 (nI 0) → wp X (0, 0) 18 5 [some (.ref 21), some (.int (nI 0))] [] iv1 (Rv P)) :
    wc X 18 [.ref 21] iv (Rv P) := by
  have hT := tb_18
  show wp X (0, 0) 18 0 [some (.ref 21), none] [] iv (Rv P)
  refine wp_s hT 2 (i' := 2) (L' := [some (.ref 21), none]) (st' := [.int (nI 0), .ref 21]) rfl ?_
  refine wp_puti hT rfl rfl ⟨by decide, by decide⟩ ?_
  have h := h _ rfl
  refine wp_s hT 2 (i' := 5) (L' := [some (.ref 21), some (.int (nI 0))]) (st' := []) rfl ?_
  exact h

theorem mk_X3_fixedDots_21 {X : Nat × (Nat → Int32)} {x1 : Int32} {x3 : Int32} {x4 : Int32} {x5 : Int32} {iv : IV} {P : Int32 → IV → Prop}
    (h : (((nI 4) ≤ x5 → ((x1 = (nI 11) → P x4 iv) ∧ (¬ (x1 = (nI 11)) → P (x4 ||| (x4 <<< ((nI 11) &&& 31))) iv))) ∧ (¬ ((nI 4) ≤ x5) → wc X 115 [.int x3, .int ((nI 3) - x5)] iv (Ri (fun r2 iv1 => ∀ v3 : Int32, v3 = x4 ||| (r2 <<< (x5 &&& 31)) → wp X (0, 0) 19 21 [none, some (.int x1), none, some (.int x3), some (.int v3), some (.int (x5 + nI 1))] [] iv1 (Ri P)))))) :
    wp X (0, 0) 19 21 [none, some (.int x1), none, some (.int x3), some (.int x4), some (.int x5)] [] iv (Ri P) := by
  have hT := tb_19
  refine wp_s hT 2 (i' := 23) (L' := [none, some (.int x1), none, some (.int x3), some (.int x4), some (.int x5)]) (st' := [.int (nI 4), .int x5]) rfl ?_
  refine wp_ic_ge hT rfl ⟨fun c => ?_, fun c => ?_⟩
  · have h := h.1 c
    refine wp_s hT 2 (i' := 38) (L' := [none, some (.int x1), none, some (.int x3), some (.int x4), some (.int x5)]) (st' := [.int (nI 11), .int x1]) rfl ?_
    refine wp_ic_ne hT rfl ⟨fun c => ?_, fun c => ?_⟩
    · have h := h.1 c
      refine wp_s hT 2 (i' := 46) (L' := [none, some (.int x1), none, some (.int x3), some (.int x4), some (.int x5)]) (st' := [.int x4]) rfl ?_
      exact wp_ri hT rfl rfl ⟨_, rfl, h⟩
    · have h := h.2 c
      refine wp_s hT 5 (i' := 46) (L' := [none, some (.int x1), none, some (.int x3), some (.int x4), some (.int x5)]) (st' := [.int (x4 ||| (x4 <<< ((nI 11) &&& 31)))]) rfl ?_
      exact wp_ri hT rfl rfl ⟨_, rfl, h⟩
  · have h := h.2 c
    refine wp_s hT 5 (i' := 29) (L' := [none, some (.int x1), none, some (.int x3), some (.int x4), some (.int x5)]) (st' := [.int ((nI 3) - x5), .int x3, .int x4]) rfl ?_
    refine wp_calli hT rfl rfl h (fun r2 iv1 h => ?_)
    refine wp_s hT 4 (i' := 34) (L' := [none, some (.int x1), none, some (.int x3), some (.int (x4 ||| (r2 <<< (x5 &&& 31)))), some (.int x5)]) (st' := []) rfl ?_
    have h := h _ rfl
    refine wp_s hT 2 (i' := 21) (L' := [none, some (.int x1), none, some (.int x3), some (.int (x4 ||| (r2 <<< (x5 &&& 31)))), some (.int (x5 + nI 1))]) (st' := []) rfl ?_
    exact h

theorem mk_X3_fixedDots {X : Nat × (Nat → Int32)} {x1 : Int32} {x2 : Int32} {iv : IV} {P : Int32 → IV → Prop}
    (h : ((x1 = (nI 3) → ∀ v1 : Int32, v1 = ((nI 4) * (iv 21 0)) + x2 → wp X (0, 0) 19 21 [none, some (.int x1), none, some (.int v1), some (.int (nI 0)), some (.int (nI 0))] [] iv (Ri P)) ∧ (¬ (x1 = (nI 3)) → ((x1 = (nI 11) → ∀ v2 : Int32, v2 = ((nI 4) * (iv 21 0)) + x2 → wp X (0, 0) 19 21 [none, some (.int x1), none, some (.int v2), some (.int (nI 0)), some (.int (nI 0))] [] iv (Ri P)) ∧ (¬ (x1 = (nI 11)) → vp_in x1 15 ∧ P ((mm_S X 1).2 x1.toNatClampNeg) iv))))) :
    wc X 19 [.ref 21, .int x1, .int x2] iv (Ri P) := by
  have hT := tb_19
  show wp X (0, 0) 19 0 [some (.ref 21), some (.int x1), some (.int x2), none, none, none] [] iv (Ri P)
  refine wp_s hT 2 (i' := 2) (L' := [some (.ref 21), some (.int x1), some (.int x2), none, none, none]) (st' := [.int (nI 3), .int x1]) rfl ?_
  refine wp_ic_eq hT rfl ⟨fun c => ?_, fun c => ?_⟩
  · have h := h.1 c
    refine wp_s hT 7 (i' := 17) (L' := [some (.ref 21), some (.int x1), some (.int x2), some (.int (((nI 4) * (iv 21 0)) + x2)), none, none]) (st' := []) rfl ?_
    have h := h _ rfl
    refine wp_s hT 4 (i' := 21) (L' := [some (.ref 21), some (.int x1), some (.int x2), some (.int (((nI 4) * (iv 21 0)) + x2)), some (.int (nI 0)), some (.int (nI 0))]) (st' := []) rfl ?_
    refine wp_le (L := [none, some (.int x1), none, some (.int (((nI 4) * (iv 21 0)) + x2)), some (.int (nI 0)), some (.int (nI 0))]) ⟨Or.inr ⟨rfl, rfl⟩, Or.inl rfl, Or.inr ⟨rfl, rfl⟩, Or.inl rfl, Or.inl rfl, Or.inl rfl, trivial⟩ ?_
    exact h
  · have h := h.2 c
    refine wp_s hT 2 (i' := 5) (L' := [some (.ref 21), some (.int x1), some (.int x2), none, none, none]) (st' := [.int (nI 11), .int x1]) rfl ?_
    refine wp_ic_eq hT rfl ⟨fun c => ?_, fun c => ?_⟩
    · have h := h.1 c
      refine wp_s hT 7 (i' := 17) (L' := [some (.ref 21), some (.int x1), some (.int x2), some (.int (((nI 4) * (iv 21 0)) + x2)), none, none]) (st' := []) rfl ?_
      have h := h _ rfl
      refine wp_s hT 4 (i' := 21) (L' := [some (.ref 21), some (.int x1), some (.int x2), some (.int (((nI 4) * (iv 21 0)) + x2)), some (.int (nI 0)), some (.int (nI 0))]) (st' := []) rfl ?_
      refine wp_le (L := [none, some (.int x1), none, some (.int (((nI 4) * (iv 21 0)) + x2)), some (.int (nI 0)), some (.int (nI 0))]) ⟨Or.inr ⟨rfl, rfl⟩, Or.inl rfl, Or.inr ⟨rfl, rfl⟩, Or.inl rfl, Or.inl rfl, Or.inl rfl, trivial⟩ ?_
      exact h
    · have h := h.2 c
      refine wp_s hT 2 (i' := 8) (L' := [some (.ref 21), some (.int x1), some (.int x2), none, none, none]) (st' := [.int x1, .ref 1000001]) rfl ?_
      refine wp_tald (a := 1) hT rfl rfl (by decide) ⟨h.1, ?_⟩
      have h := h.2
      exact wp_ri hT rfl rfl ⟨_, rfl, h⟩

theorem mk_X3_penaltyOf_12 {X : Nat × (Nat → Int32)} {r0 : Nat} {x1 : Int32} {x2 : Int32} {x3 : Int32} {iv : IV} {P : Int32 → IV → Prop} (k0 : kdT r0 = (1, 15))
    (h : (((nI 15) ≤ x3 → P x1 iv) ∧ (¬ ((nI 15) ≤ x3) → vp_in x3 15 ∧ wc X 22 [.int (iv r0 x3.toNatClampNeg)] iv (Ri (fun r2 iv1 => wc X 23 [.ref r0, .int x3] iv1 (Ri (fun r4 iv3 => wc X 21 [.int r2, .int (r2 <<< ((nI 1) &&& 31))] iv3 (Ri (fun r6 iv5 => wc X 21 [.int r4, .int x2] iv5 (Ri (fun r8 iv7 => ∀ v9 : Int32, v9 = x1 + (r6 + r8) → (((nI 15) ≤ (x3 + (nI 1)) → wp X (0, 0) 20 12 [some (.ref r0), some (.int v9), some (.int r4), some (.int (x3 + nI 1)), none, none] [] iv7 (Ri P)) ∧ (¬ ((nI 15) ≤ (x3 + (nI 1))) → vp_in x3 15 ∧ vp_in (x3 + (nI 1)) 15 ∧ wc X 24 [.int (iv7 r0 x3.toNatClampNeg), .int (iv7 r0 (x3 + (nI 1)).toNatClampNeg)] iv7 (Ri (fun r11 iv10 => ∀ v12 : Int32, v12 = v9 + ((nI 3) * r11) → wp X (0, 0) 20 12 [some (.ref r0), some (.int v12), some (.int r4), some (.int (x3 + nI 1)), none, none] [] iv10 (Ri P)))))))))))))))) :
    wp X (0, 0) 20 12 [some (.ref r0), some (.int x1), some (.int x2), some (.int x3), none, none] [] iv (Ri P) := by
  have hT := tb_20
  refine wp_s hT 2 (i' := 14) (L' := [some (.ref r0), some (.int x1), some (.int x2), some (.int x3), none, none]) (st' := [.int (nI 15), .int x3]) rfl ?_
  refine wp_ic_ge hT rfl ⟨fun c => ?_, fun c => ?_⟩
  · have h := h.1 c
    refine wp_s hT 1 (i' := 60) (L' := [some (.ref r0), some (.int x1), some (.int x2), some (.int x3), none, none]) (st' := [.int x1]) rfl ?_
    exact wp_ri hT rfl rfl ⟨_, rfl, h⟩
  · have h := h.2 c
    refine wp_s hT 2 (i' := 17) (L' := [some (.ref r0), some (.int x1), some (.int x2), some (.int x3), none, none]) (st' := [.int x3, .ref r0]) rfl ?_
    refine wp_iald hT rfl k0 ⟨h.1, ?_⟩
    have h := h.2
    refine wp_calli hT rfl rfl h (fun r2 iv1 h => ?_)
    refine wp_s hT 3 (i' := 22) (L' := [some (.ref r0), some (.int x1), some (.int x2), some (.int x3), some (.int r2), none]) (st' := [.int x3, .ref r0]) rfl ?_
    refine wp_calli hT rfl rfl h (fun r4 iv3 h => ?_)
    refine wp_s hT 6 (i' := 29) (L' := [some (.ref r0), some (.int x1), some (.int x2), some (.int x3), some (.int r2), some (.int r4)]) (st' := [.int (r2 <<< ((nI 1) &&& 31)), .int r2, .int x1]) rfl ?_
    refine wp_calli hT rfl rfl h (fun r6 iv5 h => ?_)
    refine wp_s hT 2 (i' := 32) (L' := [some (.ref r0), some (.int x1), some (.int x2), some (.int x3), some (.int r2), some (.int r4)]) (st' := [.int x2, .int r4, .int r6, .int x1]) rfl ?_
    refine wp_calli hT rfl rfl h (fun r8 iv7 h => ?_)
    refine wp_s hT 3 (i' := 36) (L' := [some (.ref r0), some (.int (x1 + (r6 + r8))), some (.int x2), some (.int x3), some (.int r2), some (.int r4)]) (st' := []) rfl ?_
    have h := h _ rfl
    refine wp_s hT 6 (i' := 42) (L' := [some (.ref r0), some (.int (x1 + (r6 + r8))), some (.int r4), some (.int x3), some (.int r2), some (.int r4)]) (st' := [.int (nI 15), .int (x3 + (nI 1))]) rfl ?_
    refine wp_ic_ge hT rfl ⟨fun c => ?_, fun c => ?_⟩
    · have h := h.1 c
      refine wp_s hT 2 (i' := 12) (L' := [some (.ref r0), some (.int (x1 + (r6 + r8))), some (.int r4), some (.int (x3 + nI 1)), some (.int r2), some (.int r4)]) (st' := []) rfl ?_
      refine wp_le (L := [some (.ref r0), some (.int (x1 + (r6 + r8))), some (.int r4), some (.int (x3 + nI 1)), none, none]) ⟨Or.inl rfl, Or.inl rfl, Or.inl rfl, Or.inl rfl, Or.inr ⟨rfl, rfl⟩, Or.inr ⟨rfl, rfl⟩, trivial⟩ ?_
      exact h
    · have h := h.2 c
      refine wp_s hT 4 (i' := 47) (L' := [some (.ref r0), some (.int (x1 + (r6 + r8))), some (.int r4), some (.int x3), some (.int r2), some (.int r4)]) (st' := [.int x3, .ref r0, .int (nI 3), .int (x1 + (r6 + r8))]) rfl ?_
      refine wp_iald hT rfl k0 ⟨h.1, ?_⟩
      have h := h.2
      refine wp_s hT 4 (i' := 52) (L' := [some (.ref r0), some (.int (x1 + (r6 + r8))), some (.int r4), some (.int x3), some (.int r2), some (.int r4)]) (st' := [.int (x3 + (nI 1)), .ref r0, .int (iv7 r0 x3.toNatClampNeg), .int (nI 3), .int (x1 + (r6 + r8))]) rfl ?_
      refine wp_iald hT rfl k0 ⟨h.1, ?_⟩
      have h := h.2
      refine wp_calli hT rfl rfl h (fun r11 iv10 h => ?_)
      refine wp_s hT 3 (i' := 57) (L' := [some (.ref r0), some (.int ((x1 + (r6 + r8)) + ((nI 3) * r11))), some (.int r4), some (.int x3), some (.int r2), some (.int r4)]) (st' := []) rfl ?_
      have h := h _ rfl
      refine wp_s hT 2 (i' := 12) (L' := [some (.ref r0), some (.int ((x1 + (r6 + r8)) + ((nI 3) * r11))), some (.int r4), some (.int (x3 + nI 1)), some (.int r2), some (.int r4)]) (st' := []) rfl ?_
      refine wp_le (L := [some (.ref r0), some (.int ((x1 + (r6 + r8)) + ((nI 3) * r11))), some (.int r4), some (.int (x3 + nI 1)), none, none]) ⟨Or.inl rfl, Or.inl rfl, Or.inl rfl, Or.inl rfl, Or.inr ⟨rfl, rfl⟩, Or.inr ⟨rfl, rfl⟩, trivial⟩ ?_
      exact h

theorem mk_X3_penaltyOf {X : Nat × (Nat → Int32)} {r0 : Nat} {iv : IV} {P : Int32 → IV → Prop}
    (h : wc X 116 [.ref r0] iv (Ri (fun r2 iv1 => wc X 222 [.int (r2 - (nI 112))] iv1 (Ri (fun r4 iv3 => wp X (0, 0) 20 12 [some (.ref r0), some (.int (r4 / (nI 5))), some (.int (nI 0)), some (.int (nI 0)), none, none] [] iv3 (Ri P)))))) :
    wc X 20 [.ref r0] iv (Ri P) := by
  have hT := tb_20
  show wp X (0, 0) 20 0 [some (.ref r0), none, none, none, none, none] [] iv (Ri P)
  refine wp_s hT 1 (i' := 1) (L' := [some (.ref r0), none, none, none, none, none]) (st' := [.ref r0]) rfl ?_
  refine wp_calli hT rfl rfl h (fun r2 iv1 h => ?_)
  refine wp_s hT 2 (i' := 4) (L' := [some (.ref r0), none, none, none, none, none]) (st' := [.int (r2 - (nI 112))]) rfl ?_
  refine wp_calli hT rfl rfl h (fun r4 iv3 h => ?_)
  refine wp_s hT 7 (i' := 12) (L' := [some (.ref r0), some (.int (r4 / (nI 5))), some (.int (nI 0)), some (.int (nI 0)), none, none]) (st' := []) rfl ?_
  exact h

theorem mk_X3_penaltyOfRuns {X : Nat × (Nat → Int32)} {x0 : Int32} {x1 : Int32} {iv : IV} {P : Int32 → IV → Prop}
    (h : wc X 220 [.int x0] iv (Ri (fun r2 iv1 => wc X 220 [.int (x0 &&& (x1 ^^^ (nI 4294967295)))] iv1 (Ri (fun r4 iv3 => P (r2 + ((nI 2) * r4)) iv3))))) :
    wc X 21 [.int x0, .int x1] iv (Ri P) := by
  have hT := tb_21
  show wp X (0, 0) 21 0 [some (.int x0), some (.int x1)] [] iv (Ri P)
  refine wp_s hT 1 (i' := 1) (L' := [some (.int x0), some (.int x1)]) (st' := [.int x0]) rfl ?_
  refine wp_calli hT rfl rfl h (fun r2 iv1 h => ?_)
  refine wp_s hT 6 (i' := 8) (L' := [some (.int x0), some (.int x1)]) (st' := [.int (x0 &&& (x1 ^^^ (nI 4294967295))), .int (nI 2), .int r2]) rfl ?_
  refine wp_calli hT rfl rfl h (fun r4 iv3 h => ?_)
  refine wp_s hT 2 (i' := 11) (L' := [some (.int x0), some (.int x1)]) (st' := [.int (r2 + ((nI 2) * r4))]) rfl ?_
  exact wp_ri hT rfl rfl ⟨_, rfl, h⟩

theorem mk_X3_runStartsAcross {X : Nat × (Nat → Int32)} {x0 : Int32} {iv : IV} {P : Int32 → IV → Prop}
    (h : ∀ v1 : Int32, v1 = ((x0 ^^^ (x0 >>> ((nI 1) &&& 31))) ^^^ (nI 4294967295)) &&& (nI 16383) → P (((v1 &&& (v1 >>> ((nI 1) &&& 31))) &&& (v1 >>> ((nI 2) &&& 31))) &&& (v1 >>> ((nI 3) &&& 31))) iv) :
    wc X 22 [.int x0] iv (Ri P) := by
  have hT := tb_22
  show wp X (0, 0) 22 0 [some (.int x0), none] [] iv (Ri P)
  refine wp_s hT 10 (i' := 10) (L' := [some (.int x0), some (.int (((x0 ^^^ (x0 >>> ((nI 1) &&& 31))) ^^^ (nI 4294967295)) &&& (nI 16383)))]) (st' := []) rfl ?_
  have h := h _ rfl
  refine wp_s hT 13 (i' := 23) (L' := [some (.int x0), some (.int (((x0 ^^^ (x0 >>> ((nI 1) &&& 31))) ^^^ (nI 4294967295)) &&& (nI 16383)))]) (st' := [.int ((((((x0 ^^^ (x0 >>> ((nI 1) &&& 31))) ^^^ (nI 4294967295)) &&& (nI 16383)) &&& ((((x0 ^^^ (x0 >>> ((nI 1) &&& 31))) ^^^ (nI 4294967295)) &&& (nI 16383)) >>> ((nI 1) &&& 31))) &&& ((((x0 ^^^ (x0 >>> ((nI 1) &&& 31))) ^^^ (nI 4294967295)) &&& (nI 16383)) >>> ((nI 2) &&& 31))) &&& ((((x0 ^^^ (x0 >>> ((nI 1) &&& 31))) ^^^ (nI 4294967295)) &&& (nI 16383)) >>> ((nI 3) &&& 31)))]) rfl ?_
  exact wp_ri hT rfl rfl ⟨_, rfl, h⟩

theorem mk_X3_runStartsDown_13 {X : Nat × (Nat → Int32)} {r0 : Nat} {x1 : Int32} {x2 : Int32} {x3 : Int32} {x4 : Int32} {iv : IV} {P : Int32 → IV → Prop} (k0 : kdT r0 = (1, 15))
    (h : (((x1 + (nI 5)) ≤ x4 → P (x3 ||| ((x2 ^^^ (nI 4294967295)) &&& (nI 32767))) iv) ∧ (¬ ((x1 + (nI 5)) ≤ x4) → vp_in x4 15 ∧ ∀ v1 : Int32, v1 = x2 ||| (iv r0 x4.toNatClampNeg) → vp_in x4 15 ∧ ∀ v2 : Int32, v2 = x3 &&& (iv r0 x4.toNatClampNeg) → wp X (0, 0) 23 13 [some (.ref r0), some (.int x1), some (.int v1), some (.int v2), some (.int (x4 + nI 1))] [] iv (Ri P)))) :
    wp X (0, 0) 23 13 [some (.ref r0), some (.int x1), some (.int x2), some (.int x3), some (.int x4)] [] iv (Ri P) := by
  have hT := tb_23
  refine wp_s hT 4 (i' := 17) (L' := [some (.ref r0), some (.int x1), some (.int x2), some (.int x3), some (.int x4)]) (st' := [.int (x1 + (nI 5)), .int x4]) rfl ?_
  refine wp_ic_ge hT rfl ⟨fun c => ?_, fun c => ?_⟩
  · have h := h.1 c
    refine wp_s hT 7 (i' := 39) (L' := [some (.ref r0), some (.int x1), some (.int x2), some (.int x3), some (.int x4)]) (st' := [.int (x3 ||| ((x2 ^^^ (nI 4294967295)) &&& (nI 32767)))]) rfl ?_
    exact wp_ri hT rfl rfl ⟨_, rfl, h⟩
  · have h := h.2 c
    refine wp_s hT 3 (i' := 21) (L' := [some (.ref r0), some (.int x1), some (.int x2), some (.int x3), some (.int x4)]) (st' := [.int x4, .ref r0, .int x2]) rfl ?_
    refine wp_iald hT rfl k0 ⟨h.1, ?_⟩
    have h := h.2
    refine wp_s hT 2 (i' := 24) (L' := [some (.ref r0), some (.int x1), some (.int (x2 ||| (iv r0 x4.toNatClampNeg))), some (.int x3), some (.int x4)]) (st' := []) rfl ?_
    have h := h _ rfl
    refine wp_s hT 3 (i' := 27) (L' := [some (.ref r0), some (.int x1), some (.int (x2 ||| (iv r0 x4.toNatClampNeg))), some (.int x3), some (.int x4)]) (st' := [.int x4, .ref r0, .int x3]) rfl ?_
    refine wp_iald hT rfl k0 ⟨h.1, ?_⟩
    have h := h.2
    refine wp_s hT 2 (i' := 30) (L' := [some (.ref r0), some (.int x1), some (.int (x2 ||| (iv r0 x4.toNatClampNeg))), some (.int (x3 &&& (iv r0 x4.toNatClampNeg))), some (.int x4)]) (st' := []) rfl ?_
    have h := h _ rfl
    refine wp_s hT 2 (i' := 13) (L' := [some (.ref r0), some (.int x1), some (.int (x2 ||| (iv r0 x4.toNatClampNeg))), some (.int (x3 &&& (iv r0 x4.toNatClampNeg))), some (.int (x4 + nI 1))]) (st' := []) rfl ?_
    exact h

theorem mk_X3_runStartsDown {X : Nat × (Nat → Int32)} {r0 : Nat} {x1 : Int32} {iv : IV} {P : Int32 → IV → Prop}
    (h : (((x1 + (nI 4)) < (nI 15) → wp X (0, 0) 23 13 [some (.ref r0), some (.int x1), some (.int (nI 0)), some (.int (nI 32767)), some (.int x1)] [] iv (Ri P)) ∧ (¬ ((x1 + (nI 4)) < (nI 15)) → P (nI 0) iv))) :
    wc X 23 [.ref r0, .int x1] iv (Ri P) := by
  have hT := tb_23
  show wp X (0, 0) 23 0 [some (.ref r0), some (.int x1), none, none, none] [] iv (Ri P)
  refine wp_s hT 4 (i' := 4) (L' := [some (.ref r0), some (.int x1), none, none, none]) (st' := [.int (nI 15), .int (x1 + (nI 4))]) rfl ?_
  refine wp_ic_lt hT rfl ⟨fun c => ?_, fun c => ?_⟩
  · have h := h.1 c
    refine wp_s hT 6 (i' := 13) (L' := [some (.ref r0), some (.int x1), some (.int (nI 0)), some (.int (nI 32767)), some (.int x1)]) (st' := []) rfl ?_
    exact h
  · have h := h.2 c
    refine wp_s hT 1 (i' := 6) (L' := [some (.ref r0), some (.int x1), none, none, none]) (st' := [.int (nI 0)]) rfl ?_
    exact wp_ri hT rfl rfl ⟨_, rfl, h⟩

theorem mk_X3_likeSquares {X : Nat × (Nat → Int32)} {x0 : Int32} {x1 : Int32} {iv : IV} {P : Int32 → IV → Prop}
    (h : ∀ v1 : Int32, v1 = ((x0 ^^^ (x0 >>> ((nI 1) &&& 31))) ||| (x1 ^^^ (x1 >>> ((nI 1) &&& 31)))) ||| (x0 ^^^ x1) → wc X 220 [.int ((v1 ^^^ (nI 4294967295)) &&& (nI 16383))] iv (Ri (fun r3 iv2 => P r3 iv2))) :
    wc X 24 [.int x0, .int x1] iv (Ri P) := by
  have hT := tb_24
  show wp X (0, 0) 24 0 [some (.int x0), some (.int x1), none] [] iv (Ri P)
  refine wp_s hT 16 (i' := 16) (L' := [some (.int x0), some (.int x1), some (.int (((x0 ^^^ (x0 >>> ((nI 1) &&& 31))) ||| (x1 ^^^ (x1 >>> ((nI 1) &&& 31)))) ||| (x0 ^^^ x1)))]) (st' := []) rfl ?_
  have h := h _ rfl
  refine wp_s hT 5 (i' := 21) (L' := [some (.int x0), some (.int x1), some (.int (((x0 ^^^ (x0 >>> ((nI 1) &&& 31))) ||| (x1 ^^^ (x1 >>> ((nI 1) &&& 31)))) ||| (x0 ^^^ x1)))]) (st' := [.int (((((x0 ^^^ (x0 >>> ((nI 1) &&& 31))) ||| (x1 ^^^ (x1 >>> ((nI 1) &&& 31)))) ||| (x0 ^^^ x1)) ^^^ (nI 4294967295)) &&& (nI 16383))]) rfl ?_
  refine wp_calli hT rfl rfl h (fun r3 iv2 h => ?_)
  exact wp_ri hT rfl rfl ⟨_, rfl, h⟩

theorem mk_X4_mend {X : Nat × (Nat → Int32)} {r1 : Nat} {x2 : Int32} {x3 : Int32} {r4 : Nat} {iv : IV} {P : Int32 → IV → Prop} (k0 : kdT r4 = (1, 14)) (k1 : kdT r1 = (1, 14))
    (h : wc X 220 [.int x2] iv (Ri (fun r2 iv1 => ((0 ≤ x3 - r2 → (¬ nI 0 < 0 ∧ ¬ nI 0 < 0 ∧ ¬ nI 14 < 0 ∧ (nI 0).toNatClampNeg + (nI 14).toNatClampNeg ≤ 14 ∧ (nI 0).toNatClampNeg + (nI 14).toNatClampNeg ≤ 14) ∧ (∀ iv3 : IV, iv3 = mm_row iv1 r4 (va_cpy (iv1 r1) (iv1 r4) (nI 0).toNatClampNeg (nI 0).toNatClampNeg (nI 14).toNatClampNeg) → wc X 27 [.ref 14, .ref r1, .int x3] iv3 (Rv (fun iv4 => wc X 28 [.ref 14, .int x2, .int x3] iv4 (Rv (fun iv5 => wc X 30 [.ref 14, .int (x3 - r2)] iv5 (Ri (fun r7 iv6 => (((x3 - r2) < ((nI 2) * r7) → P (nI 4294967295) iv6) ∧ (¬ ((x3 - r2) < ((nI 2) * r7)) → wc X 32 [.ref 14, .int r7, .int x2] iv6 (Ri (fun r9 iv8 => ((r9 = 0 → P (nI 4294967295) iv8) ∧ (¬ (r9 = 0) → wc X 34 [.ref 14, .ref r4, .int x3] iv8 (Rv (fun iv10 => P r7 iv10)))))))))))))))) ∧ (¬ (0 ≤ x3 - r2) → P (nI 4294967295) iv1))))) :
    wc X 26 [.ref 14, .ref r1, .int x2, .int x3, .ref r4] iv (Ri P) := by
  have hT := tb_26
  show wp X (0, 0) 26 0 [some (.ref 14), some (.ref r1), some (.int x2), some (.int x3), some (.ref r4), none, none] [] iv (Ri P)
  refine wp_s hT 2 (i' := 2) (L' := [some (.ref 14), some (.ref r1), some (.int x2), some (.int x3), some (.ref r4), none, none]) (st' := [.int x2, .int x3]) rfl ?_
  refine wp_calli hT rfl rfl h (fun r2 iv1 h => ?_)
  refine wp_s hT 3 (i' := 6) (L' := [some (.ref 14), some (.ref r1), some (.int x2), some (.int x3), some (.ref r4), some (.int (x3 - r2)), none]) (st' := [.int (x3 - r2)]) rfl ?_
  refine wp_if_ge hT rfl ⟨fun c => ?_, fun c => ?_⟩
  · have h := h.1 c
    refine wp_s hT 5 (i' := 14) (L' := [some (.ref 14), some (.ref r1), some (.int x2), some (.int x3), some (.ref r4), some (.int (x3 - r2)), none]) (st' := [.int (nI 14), .int (nI 0), .ref r4, .int (nI 0), .ref r1]) rfl ?_
    refine wp_copy hT rfl k0 k1 (Nat.le_of_ble_eq_true rfl) ⟨h.1, ?_⟩
    have h := h.2
    have h := h _ rfl
    refine wp_s hT 3 (i' := 18) (L' := [some (.ref 14), some (.ref r1), some (.int x2), some (.int x3), some (.ref r4), some (.int (x3 - r2)), none]) (st' := [.int x3, .ref r1, .ref 14]) rfl ?_
    refine wp_callv hT rfl rfl h (fun iv4 h => ?_)
    refine wp_s hT 3 (i' := 22) (L' := [some (.ref 14), some (.ref r1), some (.int x2), some (.int x3), some (.ref r4), some (.int (x3 - r2)), none]) (st' := [.int x3, .int x2, .ref 14]) rfl ?_
    refine wp_callv hT rfl rfl h (fun iv5 h => ?_)
    refine wp_s hT 2 (i' := 25) (L' := [some (.ref 14), some (.ref r1), some (.int x2), some (.int x3), some (.ref r4), some (.int (x3 - r2)), none]) (st' := [.int (x3 - r2), .ref 14]) rfl ?_
    refine wp_calli hT rfl rfl h (fun r7 iv6 h => ?_)
    refine wp_s hT 5 (i' := 31) (L' := [some (.ref 14), some (.ref r1), some (.int x2), some (.int x3), some (.ref r4), some (.int (x3 - r2)), some (.int r7)]) (st' := [.int (x3 - r2), .int ((nI 2) * r7)]) rfl ?_
    refine wp_ic_gt hT rfl ⟨fun c => ?_, fun c => ?_⟩
    · have h := h.1 c
      refine wp_s hT 1 (i' := 38) (L' := [some (.ref 14), some (.ref r1), some (.int x2), some (.int x3), some (.ref r4), some (.int (x3 - r2)), some (.int r7)]) (st' := [.int (nI 4294967295)]) rfl ?_
      exact wp_ri hT rfl rfl ⟨_, rfl, h⟩
    · have h := h.2 c
      refine wp_s hT 3 (i' := 35) (L' := [some (.ref 14), some (.ref r1), some (.int x2), some (.int x3), some (.ref r4), some (.int (x3 - r2)), some (.int r7)]) (st' := [.int x2, .int r7, .ref 14]) rfl ?_
      refine wp_calli hT rfl rfl h (fun r9 iv8 h => ?_)
      refine wp_if_ne hT rfl ⟨fun c => ?_, fun c => ?_⟩
      · have h := h.1 c
        refine wp_s hT 1 (i' := 38) (L' := [some (.ref 14), some (.ref r1), some (.int x2), some (.int x3), some (.ref r4), some (.int (x3 - r2)), some (.int r7)]) (st' := [.int (nI 4294967295)]) rfl ?_
        exact wp_ri hT rfl rfl ⟨_, rfl, h⟩
      · have h := h.2 c
        refine wp_s hT 3 (i' := 42) (L' := [some (.ref 14), some (.ref r1), some (.int x2), some (.int x3), some (.ref r4), some (.int (x3 - r2)), some (.int r7)]) (st' := [.int x3, .ref r4, .ref 14]) rfl ?_
        refine wp_callv hT rfl rfl h (fun iv10 h => ?_)
        refine wp_s hT 1 (i' := 44) (L' := [some (.ref 14), some (.ref r1), some (.int x2), some (.int x3), some (.ref r4), some (.int (x3 - r2)), some (.int r7)]) (st' := [.int r7]) rfl ?_
        exact wp_ri hT rfl rfl ⟨_, rfl, h⟩
  · have h := h.2 c
    refine wp_s hT 1 (i' := 8) (L' := [some (.ref 14), some (.ref r1), some (.int x2), some (.int x3), some (.ref r4), some (.int (x3 - r2)), none]) (st' := [.int (nI 4294967295)]) rfl ?_
    exact wp_ri hT rfl rfl ⟨_, rfl, h⟩

theorem mk_X4_sumUp_13 {X : Nat × (Nat → Int32)} {r1 : Nat} {x2 : Int32} {x3 : Int32} {x4 : Int32} {x5 : Int32} {x6 : Int32} {iv : IV} {P : IV → Prop} (k0 : kdT r1 = (1, 14))
    (h : (((nI 14) ≤ x6 → vp_in x3 6 ∧ (∀ iv1 : IV, iv1 = mm_up2 iv 15 x3.toNatClampNeg x5 → wp X (0, 0) 27 2 [some (.ref 14), some (.ref r1), some (.int x2), some (.int (x3 + nI 1)), none, none, none] [] iv1 (Rv P))) ∧ (¬ ((nI 14) ≤ x6) → wc X 8 [.int x5, .int x4] iv (Ri (fun r3 iv2 => vp_in x6 14 ∧ ∀ v4 : Int32, v4 = r3 ^^^ (iv2 r1 x6.toNatClampNeg) → wp X (0, 0) 27 13 [some (.ref 14), some (.ref r1), some (.int x2), some (.int x3), some (.int x4), some (.int v4), some (.int (x6 + nI 1))] [] iv2 (Rv P)))))) :
    wp X (0, 0) 27 13 [some (.ref 14), some (.ref r1), some (.int x2), some (.int x3), some (.int x4), some (.int x5), some (.int x6)] [] iv (Rv P) := by
  have hT := tb_27
  refine wp_s hT 2 (i' := 15) (L' := [some (.ref 14), some (.ref r1), some (.int x2), some (.int x3), some (.int x4), some (.int x5), some (.int x6)]) (st' := [.int (nI 14), .int x6]) rfl ?_
  refine wp_ic_ge hT rfl ⟨fun c => ?_, fun c => ?_⟩
  · have h := h.1 c
    refine wp_s hT 4 (i' := 30) (L' := [some (.ref 14), some (.ref r1), some (.int x2), some (.int x3), some (.int x4), some (.int x5), some (.int x6)]) (st' := [.int x5, .int x3, .ref 15]) rfl ?_
    refine wp_iast hT rfl rfl ⟨h.1, ?_⟩
    have h := h.2
    have h := h _ rfl
    refine wp_s hT 2 (i' := 2) (L' := [some (.ref 14), some (.ref r1), some (.int x2), some (.int (x3 + nI 1)), some (.int x4), some (.int x5), some (.int x6)]) (st' := []) rfl ?_
    refine wp_le (L := [some (.ref 14), some (.ref r1), some (.int x2), some (.int (x3 + nI 1)), none, none, none]) ⟨Or.inl rfl, Or.inl rfl, Or.inl rfl, Or.inl rfl, Or.inr ⟨rfl, rfl⟩, Or.inr ⟨rfl, rfl⟩, Or.inr ⟨rfl, rfl⟩, trivial⟩ ?_
    exact h
  · have h := h.2 c
    refine wp_s hT 2 (i' := 18) (L' := [some (.ref 14), some (.ref r1), some (.int x2), some (.int x3), some (.int x4), some (.int x5), some (.int x6)]) (st' := [.int x4, .int x5]) rfl ?_
    refine wp_calli hT rfl rfl h (fun r3 iv2 h => ?_)
    refine wp_s hT 2 (i' := 21) (L' := [some (.ref 14), some (.ref r1), some (.int x2), some (.int x3), some (.int x4), some (.int x5), some (.int x6)]) (st' := [.int x6, .ref r1, .int r3]) rfl ?_
    refine wp_iald hT rfl k0 ⟨h.1, ?_⟩
    have h := h.2
    refine wp_s hT 2 (i' := 24) (L' := [some (.ref 14), some (.ref r1), some (.int x2), some (.int x3), some (.int x4), some (.int (r3 ^^^ (iv2 r1 x6.toNatClampNeg))), some (.int x6)]) (st' := []) rfl ?_
    have h := h _ rfl
    refine wp_s hT 2 (i' := 13) (L' := [some (.ref 14), some (.ref r1), some (.int x2), some (.int x3), some (.int x4), some (.int (r3 ^^^ (iv2 r1 x6.toNatClampNeg))), some (.int (x6 + nI 1))]) (st' := []) rfl ?_
    exact h

theorem mk_X4_sumUp_2 {X : Nat × (Nat → Int32)} {r1 : Nat} {x2 : Int32} {x3 : Int32} {iv : IV} {P : IV → Prop}
    (h : ((x2 ≤ x3 → P iv) ∧ (¬ (x2 ≤ x3) → wc X 10 [.int (nI 2), .int x3] iv (Ri (fun r2 iv1 => wp X (0, 0) 27 13 [some (.ref 14), some (.ref r1), some (.int x2), some (.int x3), some (.int r2), some (.int (nI 0)), some (.int (nI 0))] [] iv1 (Rv P)))))) :
    wp X (0, 0) 27 2 [some (.ref 14), some (.ref r1), some (.int x2), some (.int x3), none, none, none] [] iv (Rv P) := by
  have hT := tb_27
  refine wp_s hT 2 (i' := 4) (L' := [some (.ref 14), some (.ref r1), some (.int x2), some (.int x3), none, none, none]) (st' := [.int x2, .int x3]) rfl ?_
  refine wp_ic_ge hT rfl ⟨fun c => ?_, fun c => ?_⟩
  · have h := h.1 c
    exact wp_rv hT rfl rfl ⟨rfl, h⟩
  · have h := h.2 c
    refine wp_s hT 2 (i' := 7) (L' := [some (.ref 14), some (.ref r1), some (.int x2), some (.int x3), none, none, none]) (st' := [.int x3, .int (nI 2)]) rfl ?_
    refine wp_calli hT rfl rfl h (fun r2 iv1 h => ?_)
    refine wp_s hT 5 (i' := 13) (L' := [some (.ref 14), some (.ref r1), some (.int x2), some (.int x3), some (.int r2), some (.int (nI 0)), some (.int (nI 0))]) (st' := []) rfl ?_
    exact h

theorem mk_X4_sumUp {X : Nat × (Nat → Int32)} {r1 : Nat} {x2 : Int32} {iv : IV} {P : IV → Prop}
    (h : wp X (0, 0) 27 2 [some (.ref 14), some (.ref r1), some (.int x2), some (.int (nI 0)), none, none, none] [] iv (Rv P)) :
    wc X 27 [.ref 14, .ref r1, .int x2] iv (Rv P) := by
  have hT := tb_27
  show wp X (0, 0) 27 0 [some (.ref 14), some (.ref r1), some (.int x2), none, none, none, none] [] iv (Rv P)
  refine wp_s hT 2 (i' := 2) (L' := [some (.ref 14), some (.ref r1), some (.int x2), some (.int (nI 0)), none, none, none]) (st' := []) rfl ?_
  exact h

theorem mk_X4_wantGone_13 {X : Nat × (Nat → Int32)} {x1 : Int32} {x2 : Int32} {x3 : Int32} {iv : IV} {P : IV → Prop}
    (h : (((nI 14) ≤ x3 → P iv) ∧ (¬ ((nI 14) ≤ x3) → wc X 115 [.int x1, .int x3] iv (Ri (fun r2 iv1 => ((r2 = (nI 1) → wc X 11 [.int x3] iv1 (Ri (fun r4 iv3 => wc X 29 [.ref 14, .int (x2 - (iv1 14 6)), .int r4] iv3 (Rv (fun iv5 => vp_in (iv5 14 6) 14 ∧ (∀ iv6 : IV, iv6 = mm_up2 iv5 20 (iv5 14 6).toNatClampNeg x3 → ∀ iv7 : IV, iv7 = mm_up2 iv6 14 6 ((iv6 14 6) + (nI 1)) → wp X (0, 0) 28 13 [some (.ref 14), some (.int x1), some (.int x2), some (.int (x3 + nI 1))] [] iv7 (Rv P))))))) ∧ (¬ (r2 = (nI 1)) → wp X (0, 0) 28 13 [some (.ref 14), some (.int x1), some (.int x2), some (.int (x3 + nI 1))] [] iv1 (Rv P)))))))) :
    wp X (0, 0) 28 13 [some (.ref 14), some (.int x1), some (.int x2), some (.int x3)] [] iv (Rv P) := by
  have hT := tb_28
  refine wp_s hT 2 (i' := 15) (L' := [some (.ref 14), some (.int x1), some (.int x2), some (.int x3)]) (st' := [.int (nI 14), .int x3]) rfl ?_
  refine wp_ic_ge hT rfl ⟨fun c => ?_, fun c => ?_⟩
  · have h := h.1 c
    exact wp_rv hT rfl rfl ⟨rfl, h⟩
  · have h := h.2 c
    refine wp_s hT 2 (i' := 18) (L' := [some (.ref 14), some (.int x1), some (.int x2), some (.int x3)]) (st' := [.int x3, .int x1]) rfl ?_
    refine wp_calli hT rfl rfl h (fun r2 iv1 h => ?_)
    refine wp_s hT 1 (i' := 20) (L' := [some (.ref 14), some (.int x1), some (.int x2), some (.int x3)]) (st' := [.int (nI 1), .int r2]) rfl ?_
    refine wp_ic_ne hT rfl ⟨fun c => ?_, fun c => ?_⟩
    · have h := h.1 c
      refine wp_s hT 6 (i' := 27) (L' := [some (.ref 14), some (.int x1), some (.int x2), some (.int x3)]) (st' := [.int x3, .int (x2 - (iv1 14 6)), .ref 14]) rfl ?_
      refine wp_calli hT rfl rfl h (fun r4 iv3 h => ?_)
      refine wp_callv hT rfl rfl h (fun iv5 h => ?_)
      refine wp_s hT 5 (i' := 34) (L' := [some (.ref 14), some (.int x1), some (.int x2), some (.int x3)]) (st' := [.int x3, .int (iv5 14 6), .ref 20]) rfl ?_
      refine wp_iast hT rfl rfl ⟨h.1, ?_⟩
      have h := h.2
      have h := h _ rfl
      refine wp_s hT 5 (i' := 40) (L' := [some (.ref 14), some (.int x1), some (.int x2), some (.int x3)]) (st' := [.int (((mm_up2 iv5 20 (iv5 14 6).toNatClampNeg x3) 14 6) + (nI 1)), .ref 14]) rfl ?_
      refine wp_puti hT rfl rfl ⟨by decide, by decide⟩ ?_
      have h := h _ rfl
      refine wp_s hT 2 (i' := 13) (L' := [some (.ref 14), some (.int x1), some (.int x2), some (.int (x3 + nI 1))]) (st' := []) rfl ?_
      exact h
    · have h := h.2 c
      refine wp_s hT 2 (i' := 13) (L' := [some (.ref 14), some (.int x1), some (.int x2), some (.int (x3 + nI 1))]) (st' := []) rfl ?_
      exact h

theorem mk_X4_wantGone {X : Nat × (Nat → Int32)} {x1 : Int32} {x2 : Int32} {iv : IV} {P : IV → Prop}
    (h : (¬ nI 0 < 0 ∧ ¬ nI 0 < 0 ∧ ¬ nI 6 < 0 ∧ (nI 0).toNatClampNeg + (nI 6).toNatClampNeg ≤ 6 ∧ (nI 0).toNatClampNeg + (nI 6).toNatClampNeg ≤ 6) ∧ (∀ iv1 : IV, iv1 = mm_row iv 16 (va_cpy (iv 15) (iv 16) (nI 0).toNatClampNeg (nI 0).toNatClampNeg (nI 6).toNatClampNeg) → ∀ iv2 : IV, iv2 = mm_up2 iv1 14 6 (nI 0) → wp X (0, 0) 28 13 [some (.ref 14), some (.int x1), some (.int x2), some (.int (nI 0))] [] iv2 (Rv P))) :
    wc X 28 [.ref 14, .int x1, .int x2] iv (Rv P) := by
  have hT := tb_28
  show wp X (0, 0) 28 0 [some (.ref 14), some (.int x1), some (.int x2), none] [] iv (Rv P)
  refine wp_s hT 7 (i' := 7) (L' := [some (.ref 14), some (.int x1), some (.int x2), none]) (st' := [.int (nI 6), .int (nI 0), .ref 16, .int (nI 0), .ref 15]) rfl ?_
  refine wp_copy hT rfl rfl rfl (Nat.le_of_ble_eq_true rfl) ⟨h.1, ?_⟩
  have h := h.2
  have h := h _ rfl
  refine wp_s hT 2 (i' := 10) (L' := [some (.ref 14), some (.int x1), some (.int x2), none]) (st' := [.int (nI 0), .ref 14]) rfl ?_
  refine wp_puti hT rfl rfl ⟨by decide, by decide⟩ ?_
  have h := h _ rfl
  refine wp_s hT 2 (i' := 13) (L' := [some (.ref 14), some (.int x1), some (.int x2), some (.int (nI 0))]) (st' := []) rfl ?_
  exact h

theorem mk_X4_strike_2 {X : Nat × (Nat → Int32)} {x1 : Int32} {x2 : Int32} {x3 : Int32} {iv : IV} {P : IV → Prop}
    (h : ((x1 ≤ (x3 + (nI 1)) → P iv) ∧ (¬ (x1 ≤ (x3 + (nI 1))) → vp_in (x3 + (nI 1)) 6 ∧ vp_in x3 6 ∧ wc X 8 [.int x2, .int (iv 16 x3.toNatClampNeg)] iv (Ri (fun r2 iv1 => vp_in x3 6 ∧ (∀ iv3 : IV, iv3 = mm_up2 iv1 16 x3.toNatClampNeg ((iv 16 (x3 + (nI 1)).toNatClampNeg) ^^^ r2) → wp X (0, 0) 29 2 [some (.ref 14), some (.int x1), some (.int x2), some (.int (x3 + nI 1))] [] iv3 (Rv P))))))) :
    wp X (0, 0) 29 2 [some (.ref 14), some (.int x1), some (.int x2), some (.int x3)] [] iv (Rv P) := by
  have hT := tb_29
  refine wp_s hT 4 (i' := 6) (L' := [some (.ref 14), some (.int x1), some (.int x2), some (.int x3)]) (st' := [.int x1, .int (x3 + (nI 1))]) rfl ?_
  refine wp_ic_ge hT rfl ⟨fun c => ?_, fun c => ?_⟩
  · have h := h.1 c
    exact wp_rv hT rfl rfl ⟨rfl, h⟩
  · have h := h.2 c
    refine wp_s hT 8 (i' := 15) (L' := [some (.ref 14), some (.int x1), some (.int x2), some (.int x3)]) (st' := [.int (x3 + (nI 1)), .ref 16, .int x3, .ref 16]) rfl ?_
    refine wp_iald hT rfl rfl ⟨h.1, ?_⟩
    have h := h.2
    refine wp_s hT 4 (i' := 20) (L' := [some (.ref 14), some (.int x1), some (.int x2), some (.int x3)]) (st' := [.int x3, .ref 16, .int x2, .int (iv 16 (x3 + (nI 1)).toNatClampNeg), .int x3, .ref 16]) rfl ?_
    refine wp_iald hT rfl rfl ⟨h.1, ?_⟩
    have h := h.2
    refine wp_calli hT rfl rfl h (fun r2 iv1 h => ?_)
    refine wp_s hT 1 (i' := 23) (L' := [some (.ref 14), some (.int x1), some (.int x2), some (.int x3)]) (st' := [.int ((iv 16 (x3 + (nI 1)).toNatClampNeg) ^^^ r2), .int x3, .ref 16]) rfl ?_
    refine wp_iast hT rfl rfl ⟨h.1, ?_⟩
    have h := h.2
    have h := h _ rfl
    refine wp_s hT 2 (i' := 2) (L' := [some (.ref 14), some (.int x1), some (.int x2), some (.int (x3 + nI 1))]) (st' := []) rfl ?_
    exact h

theorem mk_X4_strike {X : Nat × (Nat → Int32)} {x1 : Int32} {x2 : Int32} {iv : IV} {P : IV → Prop}
    (h : wp X (0, 0) 29 2 [some (.ref 14), some (.int x1), some (.int x2), some (.int (nI 0))] [] iv (Rv P)) :
    wc X 29 [.ref 14, .int x1, .int x2] iv (Rv P) := by
  have hT := tb_29
  show wp X (0, 0) 29 0 [some (.ref 14), some (.int x1), some (.int x2), none] [] iv (Rv P)
  refine wp_s hT 2 (i' := 2) (L' := [some (.ref 14), some (.int x1), some (.int x2), some (.int (nI 0))]) (st' := []) rfl ?_
  exact h

theorem mk_X4_locate_62 {X : Nat × (Nat → Int32)} {x1 : Int32} {x2 : Int32} {x3 : Int32} {x4 : Int32} {x5 : Int32} {x6 : Int32} {x7 : Int32} {x8 : Int32} {iv : IV} {P : Int32 → IV → Prop}
    (h : (((nI 7) ≤ (x8 + x3) → ((x5 < ((nI 2) * x2) → wp X (0, 0) 30 10 [some (.ref 14), some (.int x1), some (.int x2), some (.int (x3 + nI 1)), some (.int x4), some (.int (x5 + nI 1)), none, none, none] [] iv (Ri P)) ∧ (¬ (x5 < ((nI 2) * x2)) → (¬ nI 0 < 0 ∧ ¬ nI 0 < 0 ∧ ¬ nI 7 < 0 ∧ (nI 0).toNatClampNeg + (nI 7).toNatClampNeg ≤ 7 ∧ (nI 0).toNatClampNeg + (nI 7).toNatClampNeg ≤ 7) ∧ (∀ iv1 : IV, iv1 = mm_row iv 18 (va_cpy (iv 19) (iv 18) (nI 0).toNatClampNeg (nI 0).toNatClampNeg (nI 7).toNatClampNeg) → ∀ v2 : Int32, v2 = (x5 + (nI 1)) - x2 → wp X (0, 0) 30 10 [some (.ref 14), some (.int x1), some (.int v2), some (.int (nI 1)), some (.int x6), some (.int (x5 + nI 1)), none, none, none] [] iv1 (Ri P))))) ∧ (¬ ((nI 7) ≤ (x8 + x3)) → vp_in (x8 + x3) 7 ∧ vp_in x8 7 ∧ wc X 8 [.int x7, .int (iv 18 x8.toNatClampNeg)] iv (Ri (fun r4 iv3 => vp_in (x8 + x3) 7 ∧ (∀ iv5 : IV, iv5 = mm_up2 iv3 17 (x8 + x3).toNatClampNeg ((iv 17 (x8 + x3).toNatClampNeg) ^^^ r4) → wp X (0, 0) 30 62 [some (.ref 14), some (.int x1), some (.int x2), some (.int x3), some (.int x4), some (.int x5), some (.int x6), some (.int x7), some (.int (x8 + nI 1))] [] iv5 (Ri P))))))) :
    wp X (0, 0) 30 62 [some (.ref 14), some (.int x1), some (.int x2), some (.int x3), some (.int x4), some (.int x5), some (.int x6), some (.int x7), some (.int x8)] [] iv (Ri P) := by
  have hT := tb_30
  refine wp_s hT 6 (i' := 68) (L' := [some (.ref 14), some (.int x1), some (.int x2), some (.int x3), some (.int x4), some (.int x5), some (.int x6), some (.int x7), some (.int x8)]) (st' := [.int (nI 7), .int (x8 + x3)]) rfl ?_
  refine wp_ic_ge hT rfl ⟨fun c => ?_, fun c => ?_⟩
  · have h := h.1 c
    refine wp_s hT 5 (i' := 91) (L' := [some (.ref 14), some (.int x1), some (.int x2), some (.int (x3 + nI 1)), some (.int x4), some (.int x5), some (.int x6), some (.int x7), some (.int x8)]) (st' := [.int x5, .int ((nI 2) * x2)]) rfl ?_
    refine wp_ic_gt hT rfl ⟨fun c => ?_, fun c => ?_⟩
    · have h := h.1 c
      refine wp_s hT 2 (i' := 10) (L' := [some (.ref 14), some (.int x1), some (.int x2), some (.int (x3 + nI 1)), some (.int x4), some (.int (x5 + nI 1)), some (.int x6), some (.int x7), some (.int x8)]) (st' := []) rfl ?_
      refine wp_le (L := [some (.ref 14), some (.int x1), some (.int x2), some (.int (x3 + nI 1)), some (.int x4), some (.int (x5 + nI 1)), none, none, none]) ⟨Or.inl rfl, Or.inl rfl, Or.inl rfl, Or.inl rfl, Or.inl rfl, Or.inl rfl, Or.inr ⟨rfl, rfl⟩, Or.inr ⟨rfl, rfl⟩, Or.inr ⟨rfl, rfl⟩, trivial⟩ ?_
      exact h
    · have h := h.2 c
      refine wp_s hT 9 (i' := 101) (L' := [some (.ref 14), some (.int x1), some (.int x2), some (.int (x3 + nI 1)), some (.int x4), some (.int x5), some (.int x6), some (.int x7), some (.int x8)]) (st' := [.int (nI 7), .int (nI 0), .ref 18, .int (nI 0), .ref 19]) rfl ?_
      refine wp_copy hT rfl rfl rfl (Nat.le_of_ble_eq_true rfl) ⟨h.1, ?_⟩
      have h := h.2
      have h := h _ rfl
      refine wp_s hT 6 (i' := 108) (L' := [some (.ref 14), some (.int x1), some (.int ((x5 + (nI 1)) - x2)), some (.int (x3 + nI 1)), some (.int x4), some (.int x5), some (.int x6), some (.int x7), some (.int x8)]) (st' := []) rfl ?_
      have h := h _ rfl
      refine wp_s hT 6 (i' := 10) (L' := [some (.ref 14), some (.int x1), some (.int ((x5 + (nI 1)) - x2)), some (.int (nI 1)), some (.int x6), some (.int (x5 + nI 1)), some (.int x6), some (.int x7), some (.int x8)]) (st' := []) rfl ?_
      refine wp_le (L := [some (.ref 14), some (.int x1), some (.int ((x5 + (nI 1)) - x2)), some (.int (nI 1)), some (.int x6), some (.int (x5 + nI 1)), none, none, none]) ⟨Or.inl rfl, Or.inl rfl, Or.inl rfl, Or.inl rfl, Or.inl rfl, Or.inl rfl, Or.inr ⟨rfl, rfl⟩, Or.inr ⟨rfl, rfl⟩, Or.inr ⟨rfl, rfl⟩, trivial⟩ ?_
      exact h
  · have h := h.2 c
    refine wp_s hT 6 (i' := 75) (L' := [some (.ref 14), some (.int x1), some (.int x2), some (.int x3), some (.int x4), some (.int x5), some (.int x6), some (.int x7), some (.int x8)]) (st' := [.int (x8 + x3), .ref 17, .int (x8 + x3), .ref 17]) rfl ?_
    refine wp_iald hT rfl rfl ⟨h.1, ?_⟩
    have h := h.2
    refine wp_s hT 4 (i' := 80) (L' := [some (.ref 14), some (.int x1), some (.int x2), some (.int x3), some (.int x4), some (.int x5), some (.int x6), some (.int x7), some (.int x8)]) (st' := [.int x8, .ref 18, .int x7, .int (iv 17 (x8 + x3).toNatClampNeg), .int (x8 + x3), .ref 17]) rfl ?_
    refine wp_iald hT rfl rfl ⟨h.1, ?_⟩
    have h := h.2
    refine wp_calli hT rfl rfl h (fun r4 iv3 h => ?_)
    refine wp_s hT 1 (i' := 83) (L' := [some (.ref 14), some (.int x1), some (.int x2), some (.int x3), some (.int x4), some (.int x5), some (.int x6), some (.int x7), some (.int x8)]) (st' := [.int ((iv 17 (x8 + x3).toNatClampNeg) ^^^ r4), .int (x8 + x3), .ref 17]) rfl ?_
    refine wp_iast hT rfl rfl ⟨h.1, ?_⟩
    have h := h.2
    have h := h _ rfl
    refine wp_s hT 2 (i' := 62) (L' := [some (.ref 14), some (.int x1), some (.int x2), some (.int x3), some (.int x4), some (.int x5), some (.int x6), some (.int x7), some (.int (x8 + nI 1))]) (st' := []) rfl ?_
    exact h

theorem mk_X4_locate_42 {X : Nat × (Nat → Int32)} {x1 : Int32} {x2 : Int32} {x3 : Int32} {x4 : Int32} {x5 : Int32} {x6 : Int32} {iv : IV} {P : Int32 → IV → Prop}
    (h : ((x6 = 0 → wp X (0, 0) 30 10 [some (.ref 14), some (.int x1), some (.int x2), some (.int (x3 + nI 1)), some (.int x4), some (.int (x5 + nI 1)), none, none, none] [] iv (Ri P)) ∧ (¬ (x6 = 0) → (¬ nI 0 < 0 ∧ ¬ nI 0 < 0 ∧ ¬ nI 7 < 0 ∧ (nI 0).toNatClampNeg + (nI 7).toNatClampNeg ≤ 7 ∧ (nI 0).toNatClampNeg + (nI 7).toNatClampNeg ≤ 7) ∧ (∀ iv1 : IV, iv1 = mm_row iv 19 (va_cpy (iv 17) (iv 19) (nI 0).toNatClampNeg (nI 0).toNatClampNeg (nI 7).toNatClampNeg) → wc X 9 [.int x6, .int x4] iv1 (Ri (fun r3 iv2 => wp X (0, 0) 30 62 [some (.ref 14), some (.int x1), some (.int x2), some (.int x3), some (.int x4), some (.int x5), some (.int x6), some (.int r3), some (.int (nI 0))] [] iv2 (Ri P))))))) :
    wp X (0, 0) 30 42 [some (.ref 14), some (.int x1), some (.int x2), some (.int x3), some (.int x4), some (.int x5), some (.int x6), none, none] [] iv (Ri P) := by
  have hT := tb_30
  refine wp_s hT 1 (i' := 43) (L' := [some (.ref 14), some (.int x1), some (.int x2), some (.int x3), some (.int x4), some (.int x5), some (.int x6), none, none]) (st' := [.int x6]) rfl ?_
  refine wp_if_ne hT rfl ⟨fun c => ?_, fun c => ?_⟩
  · have h := h.1 c
    refine wp_s hT 4 (i' := 10) (L' := [some (.ref 14), some (.int x1), some (.int x2), some (.int (x3 + nI 1)), some (.int x4), some (.int (x5 + nI 1)), some (.int x6), none, none]) (st' := []) rfl ?_
    refine wp_le (L := [some (.ref 14), some (.int x1), some (.int x2), some (.int (x3 + nI 1)), some (.int x4), some (.int (x5 + nI 1)), none, none, none]) ⟨Or.inl rfl, Or.inl rfl, Or.inl rfl, Or.inl rfl, Or.inl rfl, Or.inl rfl, Or.inr ⟨rfl, rfl⟩, Or.inl rfl, Or.inl rfl, trivial⟩ ?_
    exact h
  · have h := h.2 c
    refine wp_s hT 9 (i' := 55) (L' := [some (.ref 14), some (.int x1), some (.int x2), some (.int x3), some (.int x4), some (.int x5), some (.int x6), none, none]) (st' := [.int (nI 7), .int (nI 0), .ref 19, .int (nI 0), .ref 17]) rfl ?_
    refine wp_copy hT rfl rfl rfl (Nat.le_of_ble_eq_true rfl) ⟨h.1, ?_⟩
    have h := h.2
    have h := h _ rfl
    refine wp_s hT 2 (i' := 58) (L' := [some (.ref 14), some (.int x1), some (.int x2), some (.int x3), some (.int x4), some (.int x5), some (.int x6), none, none]) (st' := [.int x4, .int x6]) rfl ?_
    refine wp_calli hT rfl rfl h (fun r3 iv2 h => ?_)
    refine wp_s hT 3 (i' := 62) (L' := [some (.ref 14), some (.int x1), some (.int x2), some (.int x3), some (.int x4), some (.int x5), some (.int x6), some (.int r3), some (.int (nI 0))]) (st' := []) rfl ?_
    exact h

theorem mk_X4_locate_20 {X : Nat × (Nat → Int32)} {x1 : Int32} {x2 : Int32} {x3 : Int32} {x4 : Int32} {x5 : Int32} {x6 : Int32} {x7 : Int32} {iv : IV} {P : Int32 → IV → Prop}
    (h : ((x2 < x7 → wp X (0, 0) 30 42 [some (.ref 14), some (.int x1), some (.int x2), some (.int x3), some (.int x4), some (.int x5), some (.int x6), none, none] [] iv (Ri P)) ∧ (¬ (x2 < x7) → ((x5 < x7 → wp X (0, 0) 30 42 [some (.ref 14), some (.int x1), some (.int x2), some (.int x3), some (.int x4), some (.int x5), some (.int x6), none, none] [] iv (Ri P)) ∧ (¬ (x5 < x7) → vp_in x7 7 ∧ vp_in (x5 - x7) 6 ∧ wc X 8 [.int (iv 17 x7.toNatClampNeg), .int (iv 16 (x5 - x7).toNatClampNeg)] iv (Ri (fun r2 iv1 => wp X (0, 0) 30 20 [some (.ref 14), some (.int x1), some (.int x2), some (.int x3), some (.int x4), some (.int x5), some (.int (x6 ^^^ r2)), some (.int (x7 + nI 1)), none] [] iv1 (Ri P)))))))) :
    wp X (0, 0) 30 20 [some (.ref 14), some (.int x1), some (.int x2), some (.int x3), some (.int x4), some (.int x5), some (.int x6), some (.int x7), none] [] iv (Ri P) := by
  have hT := tb_30
  refine wp_s hT 2 (i' := 22) (L' := [some (.ref 14), some (.int x1), some (.int x2), some (.int x3), some (.int x4), some (.int x5), some (.int x6), some (.int x7), none]) (st' := [.int x2, .int x7]) rfl ?_
  refine wp_ic_gt hT rfl ⟨fun c => ?_, fun c => ?_⟩
  · have h := h.1 c
    refine wp_le (L := [some (.ref 14), some (.int x1), some (.int x2), some (.int x3), some (.int x4), some (.int x5), some (.int x6), none, none]) ⟨Or.inl rfl, Or.inl rfl, Or.inl rfl, Or.inl rfl, Or.inl rfl, Or.inl rfl, Or.inl rfl, Or.inr ⟨rfl, rfl⟩, Or.inl rfl, trivial⟩ ?_
    exact h
  · have h := h.2 c
    refine wp_s hT 2 (i' := 25) (L' := [some (.ref 14), some (.int x1), some (.int x2), some (.int x3), some (.int x4), some (.int x5), some (.int x6), some (.int x7), none]) (st' := [.int x5, .int x7]) rfl ?_
    refine wp_ic_gt hT rfl ⟨fun c => ?_, fun c => ?_⟩
    · have h := h.1 c
      refine wp_le (L := [some (.ref 14), some (.int x1), some (.int x2), some (.int x3), some (.int x4), some (.int x5), some (.int x6), none, none]) ⟨Or.inl rfl, Or.inl rfl, Or.inl rfl, Or.inl rfl, Or.inl rfl, Or.inl rfl, Or.inl rfl, Or.inr ⟨rfl, rfl⟩, Or.inl rfl, trivial⟩ ?_
      exact h
    · have h := h.2 c
      refine wp_s hT 4 (i' := 30) (L' := [some (.ref 14), some (.int x1), some (.int x2), some (.int x3), some (.int x4), some (.int x5), some (.int x6), some (.int x7), none]) (st' := [.int x7, .ref 17, .int x6]) rfl ?_
      refine wp_iald hT rfl rfl ⟨h.1, ?_⟩
      have h := h.2
      refine wp_s hT 5 (i' := 36) (L' := [some (.ref 14), some (.int x1), some (.int x2), some (.int x3), some (.int x4), some (.int x5), some (.int x6), some (.int x7), none]) (st' := [.int (x5 - x7), .ref 16, .int (iv 17 x7.toNatClampNeg), .int x6]) rfl ?_
      refine wp_iald hT rfl rfl ⟨h.1, ?_⟩
      have h := h.2
      refine wp_calli hT rfl rfl h (fun r2 iv1 h => ?_)
      refine wp_s hT 4 (i' := 20) (L' := [some (.ref 14), some (.int x1), some (.int x2), some (.int x3), some (.int x4), some (.int x5), some (.int (x6 ^^^ r2)), some (.int (x7 + nI 1)), none]) (st' := []) rfl ?_
      exact h

theorem mk_X4_locate_10 {X : Nat × (Nat → Int32)} {x1 : Int32} {x2 : Int32} {x3 : Int32} {x4 : Int32} {x5 : Int32} {iv : IV} {P : Int32 → IV → Prop}
    (h : ((x1 ≤ x5 → P x2 iv) ∧ (¬ (x1 ≤ x5) → vp_in x5 6 ∧ ∀ v1 : Int32, v1 = iv 16 x5.toNatClampNeg → wp X (0, 0) 30 20 [some (.ref 14), some (.int x1), some (.int x2), some (.int x3), some (.int x4), some (.int x5), some (.int v1), some (.int (nI 1)), none] [] iv (Ri P)))) :
    wp X (0, 0) 30 10 [some (.ref 14), some (.int x1), some (.int x2), some (.int x3), some (.int x4), some (.int x5), none, none, none] [] iv (Ri P) := by
  have hT := tb_30
  refine wp_s hT 2 (i' := 12) (L' := [some (.ref 14), some (.int x1), some (.int x2), some (.int x3), some (.int x4), some (.int x5), none, none, none]) (st' := [.int x1, .int x5]) rfl ?_
  refine wp_ic_ge hT rfl ⟨fun c => ?_, fun c => ?_⟩
  · have h := h.1 c
    refine wp_s hT 1 (i' := 115) (L' := [some (.ref 14), some (.int x1), some (.int x2), some (.int x3), some (.int x4), some (.int x5), none, none, none]) (st' := [.int x2]) rfl ?_
    exact wp_ri hT rfl rfl ⟨_, rfl, h⟩
  · have h := h.2 c
    refine wp_s hT 3 (i' := 16) (L' := [some (.ref 14), some (.int x1), some (.int x2), some (.int x3), some (.int x4), some (.int x5), none, none, none]) (st' := [.int x5, .ref 16]) rfl ?_
    refine wp_iald hT rfl rfl ⟨h.1, ?_⟩
    have h := h.2
    refine wp_s hT 1 (i' := 18) (L' := [some (.ref 14), some (.int x1), some (.int x2), some (.int x3), some (.int x4), some (.int x5), some (.int (iv 16 x5.toNatClampNeg)), none, none]) (st' := []) rfl ?_
    have h := h _ rfl
    refine wp_s hT 2 (i' := 20) (L' := [some (.ref 14), some (.int x1), some (.int x2), some (.int x3), some (.int x4), some (.int x5), some (.int (iv 16 x5.toNatClampNeg)), some (.int (nI 1)), none]) (st' := []) rfl ?_
    exact h

theorem mk_X4_locate {X : Nat × (Nat → Int32)} {x1 : Int32} {iv : IV} {P : Int32 → IV → Prop}
    (h : wc X 31 [.ref 14] iv (Rv (fun iv1 => wp X (0, 0) 30 10 [some (.ref 14), some (.int x1), some (.int (nI 0)), some (.int (nI 1)), some (.int (nI 1)), some (.int (nI 0)), none, none, none] [] iv1 (Ri P)))) :
    wc X 30 [.ref 14, .int x1] iv (Ri P) := by
  have hT := tb_30
  show wp X (0, 0) 30 0 [some (.ref 14), some (.int x1), none, none, none, none, none, none, none] [] iv (Ri P)
  refine wp_s hT 1 (i' := 1) (L' := [some (.ref 14), some (.int x1), none, none, none, none, none, none, none]) (st' := [.ref 14]) rfl ?_
  refine wp_callv hT rfl rfl h (fun iv1 h => ?_)
  refine wp_s hT 8 (i' := 10) (L' := [some (.ref 14), some (.int x1), some (.int (nI 0)), some (.int (nI 1)), some (.int (nI 1)), some (.int (nI 0)), none, none, none]) (st' := []) rfl ?_
  exact h

theorem mk_X4_startLocators_2 {X : Nat × (Nat → Int32)} {x1 : Int32} {iv : IV} {P : IV → Prop}
    (h : (((nI 7) ≤ x1 → P iv) ∧ (¬ ((nI 7) ≤ x1) → ((x1 = 0 → vp_in x1 7 ∧ (∀ iv1 : IV, iv1 = mm_up2 iv 17 x1.toNatClampNeg (nI 1) → vp_in x1 7 ∧ vp_in x1 7 ∧ (∀ iv2 : IV, iv2 = mm_up2 iv1 18 x1.toNatClampNeg (iv1 17 x1.toNatClampNeg) → wp X (0, 0) 31 2 [some (.ref 14), some (.int (x1 + nI 1))] [] iv2 (Rv P)))) ∧ (¬ (x1 = 0) → vp_in x1 7 ∧ (∀ iv3 : IV, iv3 = mm_up2 iv 17 x1.toNatClampNeg (nI 0) → vp_in x1 7 ∧ vp_in x1 7 ∧ (∀ iv4 : IV, iv4 = mm_up2 iv3 18 x1.toNatClampNeg (iv3 17 x1.toNatClampNeg) → wp X (0, 0) 31 2 [some (.ref 14), some (.int (x1 + nI 1))] [] iv4 (Rv P)))))))) :
    wp X (0, 0) 31 2 [some (.ref 14), some (.int x1)] [] iv (Rv P) := by
  have hT := tb_31
  refine wp_s hT 4 (i' := 6) (L' := [some (.ref 14), some (.int x1)]) (st' := [.int (nI 7), .int x1]) rfl ?_
  refine wp_ic_ge hT rfl ⟨fun c => ?_, fun c => ?_⟩
  · have h := h.1 c
    exact wp_rv hT rfl rfl ⟨rfl, h⟩
  · have h := h.2 c
    refine wp_s hT 4 (i' := 11) (L' := [some (.ref 14), some (.int x1)]) (st' := [.int x1, .int x1, .ref 17]) rfl ?_
    refine wp_if_ne hT rfl ⟨fun c => ?_, fun c => ?_⟩
    · have h := h.1 c
      refine wp_s hT 2 (i' := 15) (L' := [some (.ref 14), some (.int x1)]) (st' := [.int (nI 1), .int x1, .ref 17]) rfl ?_
      refine wp_iast hT rfl rfl ⟨h.1, ?_⟩
      have h := h.2
      have h := h _ rfl
      refine wp_s hT 6 (i' := 22) (L' := [some (.ref 14), some (.int x1)]) (st' := [.int x1, .ref 17, .int x1, .ref 18]) rfl ?_
      refine wp_iald hT rfl rfl ⟨h.1, ?_⟩
      have h := h.2
      refine wp_iast hT rfl rfl ⟨h.1, ?_⟩
      have h := h.2
      have h := h _ rfl
      refine wp_s hT 2 (i' := 2) (L' := [some (.ref 14), some (.int (x1 + nI 1))]) (st' := []) rfl ?_
      exact h
    · have h := h.2 c
      refine wp_s hT 1 (i' := 15) (L' := [some (.ref 14), some (.int x1)]) (st' := [.int (nI 0), .int x1, .ref 17]) rfl ?_
      refine wp_iast hT rfl rfl ⟨h.1, ?_⟩
      have h := h.2
      have h := h _ rfl
      refine wp_s hT 6 (i' := 22) (L' := [some (.ref 14), some (.int x1)]) (st' := [.int x1, .ref 17, .int x1, .ref 18]) rfl ?_
      refine wp_iald hT rfl rfl ⟨h.1, ?_⟩
      have h := h.2
      refine wp_iast hT rfl rfl ⟨h.1, ?_⟩
      have h := h.2
      have h := h _ rfl
      refine wp_s hT 2 (i' := 2) (L' := [some (.ref 14), some (.int (x1 + nI 1))]) (st' := []) rfl ?_
      exact h

theorem mk_X4_startLocators {X : Nat × (Nat → Int32)}  {iv : IV} {P : IV → Prop}
    (h : wp X (0, 0) 31 2 [some (.ref 14), some (.int (nI 0))] [] iv (Rv P)) :
    wc X 31 [.ref 14] iv (Rv P) := by
  have hT := tb_31
  show wp X (0, 0) 31 0 [some (.ref 14), none] [] iv (Rv P)
  refine wp_s hT 2 (i' := 2) (L' := [some (.ref 14), some (.int (nI 0))]) (st' := []) rfl ?_
  exact h

theorem mk_X4_wantLocated_4 {X : Nat × (Nat → Int32)} {x1 : Int32} {x2 : Int32} {x3 : Int32} {x4 : Int32} {iv : IV} {P : Int32 → IV → Prop}
    (h : (((nI 14) ≤ x4 → ((x3 = x1 → P (nI 1) iv) ∧ (¬ (x3 = x1) → P (nI 0) iv))) ∧ (¬ ((nI 14) ≤ x4) → ((x1 ≤ x3 → ((x3 = x1 → P (nI 1) iv) ∧ (¬ (x3 = x1) → P (nI 0) iv))) ∧ (¬ (x1 ≤ x3) → wc X 115 [.int x2, .int x4] iv (Ri (fun r2 iv1 => ((r2 = 0 → wc X 33 [.ref 14, .int x4, .int x1] iv1 (Ri (fun r4 iv3 => ((r4 = 0 → wp X (0, 0) 32 4 [some (.ref 14), some (.int x1), some (.int x2), some (.int x3), some (.int (x4 + nI 1))] [] iv3 (Ri P)) ∧ (¬ (r4 = 0) → vp_in (iv3 14 6) 14 ∧ (∀ iv5 : IV, iv5 = mm_up2 iv3 20 (iv3 14 6).toNatClampNeg x4 → ∀ iv6 : IV, iv6 = mm_up2 iv5 14 6 ((iv5 14 6) + (nI 1)) → wp X (0, 0) 32 4 [some (.ref 14), some (.int x1), some (.int x2), some (.int (x3 + nI 1)), some (.int (x4 + nI 1))] [] iv6 (Ri P))))))) ∧ (¬ (r2 = 0) → wp X (0, 0) 32 4 [some (.ref 14), some (.int x1), some (.int x2), some (.int x3), some (.int (x4 + nI 1))] [] iv1 (Ri P)))))))))) :
    wp X (0, 0) 32 4 [some (.ref 14), some (.int x1), some (.int x2), some (.int x3), some (.int x4)] [] iv (Ri P) := by
  have hT := tb_32
  refine wp_s hT 2 (i' := 6) (L' := [some (.ref 14), some (.int x1), some (.int x2), some (.int x3), some (.int x4)]) (st' := [.int (nI 14), .int x4]) rfl ?_
  refine wp_ic_ge hT rfl ⟨fun c => ?_, fun c => ?_⟩
  · have h := h.1 c
    refine wp_s hT 2 (i' := 36) (L' := [some (.ref 14), some (.int x1), some (.int x2), some (.int x3), some (.int x4)]) (st' := [.int x1, .int x3]) rfl ?_
    refine wp_ic_ne hT rfl ⟨fun c => ?_, fun c => ?_⟩
    · have h := h.1 c
      refine wp_s hT 2 (i' := 40) (L' := [some (.ref 14), some (.int x1), some (.int x2), some (.int x3), some (.int x4)]) (st' := [.int (nI 1)]) rfl ?_
      exact wp_rz hT rfl rfl ⟨Or.inr rfl, ⟨_, rfl, h⟩⟩
    · have h := h.2 c
      refine wp_s hT 1 (i' := 40) (L' := [some (.ref 14), some (.int x1), some (.int x2), some (.int x3), some (.int x4)]) (st' := [.int (nI 0)]) rfl ?_
      exact wp_rz hT rfl rfl ⟨Or.inl rfl, ⟨_, rfl, h⟩⟩
  · have h := h.2 c
    refine wp_s hT 2 (i' := 9) (L' := [some (.ref 14), some (.int x1), some (.int x2), some (.int x3), some (.int x4)]) (st' := [.int x1, .int x3]) rfl ?_
    refine wp_ic_ge hT rfl ⟨fun c => ?_, fun c => ?_⟩
    · have h := h.1 c
      refine wp_s hT 2 (i' := 36) (L' := [some (.ref 14), some (.int x1), some (.int x2), some (.int x3), some (.int x4)]) (st' := [.int x1, .int x3]) rfl ?_
      refine wp_ic_ne hT rfl ⟨fun c => ?_, fun c => ?_⟩
      · have h := h.1 c
        refine wp_s hT 2 (i' := 40) (L' := [some (.ref 14), some (.int x1), some (.int x2), some (.int x3), some (.int x4)]) (st' := [.int (nI 1)]) rfl ?_
        exact wp_rz hT rfl rfl ⟨Or.inr rfl, ⟨_, rfl, h⟩⟩
      · have h := h.2 c
        refine wp_s hT 1 (i' := 40) (L' := [some (.ref 14), some (.int x1), some (.int x2), some (.int x3), some (.int x4)]) (st' := [.int (nI 0)]) rfl ?_
        exact wp_rz hT rfl rfl ⟨Or.inl rfl, ⟨_, rfl, h⟩⟩
    · have h := h.2 c
      refine wp_s hT 2 (i' := 12) (L' := [some (.ref 14), some (.int x1), some (.int x2), some (.int x3), some (.int x4)]) (st' := [.int x4, .int x2]) rfl ?_
      refine wp_calli hT rfl rfl h (fun r2 iv1 h => ?_)
      refine wp_if_ne hT rfl ⟨fun c => ?_, fun c => ?_⟩
      · have h := h.1 c
        refine wp_s hT 3 (i' := 17) (L' := [some (.ref 14), some (.int x1), some (.int x2), some (.int x3), some (.int x4)]) (st' := [.int x1, .int x4, .ref 14]) rfl ?_
        refine wp_calli hT rfl rfl h (fun r4 iv3 h => ?_)
        refine wp_if_eq hT rfl ⟨fun c => ?_, fun c => ?_⟩
        · have h := h.1 c
          refine wp_s hT 2 (i' := 4) (L' := [some (.ref 14), some (.int x1), some (.int x2), some (.int x3), some (.int (x4 + nI 1))]) (st' := []) rfl ?_
          exact h
        · have h := h.2 c
          refine wp_s hT 5 (i' := 24) (L' := [some (.ref 14), some (.int x1), some (.int x2), some (.int x3), some (.int x4)]) (st' := [.int x4, .int (iv3 14 6), .ref 20]) rfl ?_
          refine wp_iast hT rfl rfl ⟨h.1, ?_⟩
          have h := h.2
          have h := h _ rfl
          refine wp_s hT 5 (i' := 30) (L' := [some (.ref 14), some (.int x1), some (.int x2), some (.int x3), some (.int x4)]) (st' := [.int (((mm_up2 iv3 20 (iv3 14 6).toNatClampNeg x4) 14 6) + (nI 1)), .ref 14]) rfl ?_
          refine wp_puti hT rfl rfl ⟨by decide, by decide⟩ ?_
          have h := h _ rfl
          refine wp_s hT 3 (i' := 4) (L' := [some (.ref 14), some (.int x1), some (.int x2), some (.int (x3 + nI 1)), some (.int (x4 + nI 1))]) (st' := []) rfl ?_
          exact h
      · have h := h.2 c
        refine wp_s hT 2 (i' := 4) (L' := [some (.ref 14), some (.int x1), some (.int x2), some (.int x3), some (.int (x4 + nI 1))]) (st' := []) rfl ?_
        exact h

theorem mk_X4_wantLocated {X : Nat × (Nat → Int32)} {x1 : Int32} {x2 : Int32} {iv : IV} {P : Int32 → IV → Prop}
    (h : wp X (0, 0) 32 4 [some (.ref 14), some (.int x1), some (.int x2), some (.int (nI 0)), some (.int (nI 0))] [] iv (Ri P)) :
    wc X 32 [.ref 14, .int x1, .int x2] iv (Ri P) := by
  have hT := tb_32
  show wp X (0, 0) 32 0 [some (.ref 14), some (.int x1), some (.int x2), none, none] [] iv (Ri P)
  refine wp_s hT 4 (i' := 4) (L' := [some (.ref 14), some (.int x1), some (.int x2), some (.int (nI 0)), some (.int (nI 0))]) (st' := []) rfl ?_
  exact h

theorem mk_X4_isLocated_9 {X : Nat × (Nat → Int32)} {x3 : Int32} {x4 : Int32} {x5 : Int32} {iv : IV} {P : Int32 → IV → Prop}
    (h : ((x5 < 0 → ((x4 = 0 → P (nI 1) iv) ∧ (¬ (x4 = 0) → P (nI 0) iv))) ∧ (¬ (x5 < 0) → wc X 8 [.int x4, .int x3] iv (Ri (fun r2 iv1 => vp_in x5 7 ∧ ∀ v3 : Int32, v3 = r2 ^^^ (iv1 17 x5.toNatClampNeg) → ∀ v4 : Int32, v4 = x5 + nI 4294967295 → wp X (0, 0) 33 9 [some (.ref 14), none, none, some (.int x3), some (.int v3), some (.int v4)] [] iv1 (Ri P)))))) :
    wp X (0, 0) 33 9 [some (.ref 14), none, none, some (.int x3), some (.int x4), some (.int x5)] [] iv (Ri P) := by
  have hT := tb_33
  refine wp_s hT 1 (i' := 10) (L' := [some (.ref 14), none, none, some (.int x3), some (.int x4), some (.int x5)]) (st' := [.int x5]) rfl ?_
  refine wp_if_lt hT rfl ⟨fun c => ?_, fun c => ?_⟩
  · have h := h.1 c
    refine wp_s hT 1 (i' := 23) (L' := [some (.ref 14), none, none, some (.int x3), some (.int x4), some (.int x5)]) (st' := [.int x4]) rfl ?_
    refine wp_if_ne hT rfl ⟨fun c => ?_, fun c => ?_⟩
    · have h := h.1 c
      refine wp_s hT 2 (i' := 27) (L' := [some (.ref 14), none, none, some (.int x3), some (.int x4), some (.int x5)]) (st' := [.int (nI 1)]) rfl ?_
      exact wp_rz hT rfl rfl ⟨Or.inr rfl, ⟨_, rfl, h⟩⟩
    · have h := h.2 c
      refine wp_s hT 1 (i' := 27) (L' := [some (.ref 14), none, none, some (.int x3), some (.int x4), some (.int x5)]) (st' := [.int (nI 0)]) rfl ?_
      exact wp_rz hT rfl rfl ⟨Or.inl rfl, ⟨_, rfl, h⟩⟩
  · have h := h.2 c
    refine wp_s hT 2 (i' := 13) (L' := [some (.ref 14), none, none, some (.int x3), some (.int x4), some (.int x5)]) (st' := [.int x3, .int x4]) rfl ?_
    refine wp_calli hT rfl rfl h (fun r2 iv1 h => ?_)
    refine wp_s hT 3 (i' := 17) (L' := [some (.ref 14), none, none, some (.int x3), some (.int x4), some (.int x5)]) (st' := [.int x5, .ref 17, .int r2]) rfl ?_
    refine wp_iald hT rfl rfl ⟨h.1, ?_⟩
    have h := h.2
    refine wp_s hT 2 (i' := 20) (L' := [some (.ref 14), none, none, some (.int x3), some (.int (r2 ^^^ (iv1 17 x5.toNatClampNeg))), some (.int x5)]) (st' := []) rfl ?_
    have h := h _ rfl
    refine wp_s hT 1 (i' := 21) (L' := [some (.ref 14), none, none, some (.int x3), some (.int (r2 ^^^ (iv1 17 x5.toNatClampNeg))), some (.int (x5 + nI 4294967295))]) (st' := []) rfl ?_
    have h := h _ rfl
    refine wp_s hT 1 (i' := 9) (L' := [some (.ref 14), none, none, some (.int x3), some (.int (r2 ^^^ (iv1 17 x5.toNatClampNeg))), some (.int (x5 + nI 4294967295))]) (st' := []) rfl ?_
    exact h

theorem mk_X4_isLocated {X : Nat × (Nat → Int32)} {x1 : Int32} {x2 : Int32} {iv : IV} {P : Int32 → IV → Prop}
    (h : wc X 11 [.int x1] iv (Ri (fun r2 iv1 => wc X 9 [.int (nI 1), .int r2] iv1 (Ri (fun r4 iv3 => wp X (0, 0) 33 9 [some (.ref 14), none, none, some (.int r4), some (.int (nI 0)), some (.int x2)] [] iv3 (Ri P)))))) :
    wc X 33 [.ref 14, .int x1, .int x2] iv (Ri P) := by
  have hT := tb_33
  show wp X (0, 0) 33 0 [some (.ref 14), some (.int x1), some (.int x2), none, none, none] [] iv (Ri P)
  refine wp_s hT 2 (i' := 2) (L' := [some (.ref 14), some (.int x1), some (.int x2), none, none, none]) (st' := [.int x1, .int (nI 1)]) rfl ?_
  refine wp_calli hT rfl rfl h (fun r2 iv1 h => ?_)
  refine wp_calli hT rfl rfl h (fun r4 iv3 h => ?_)
  refine wp_s hT 5 (i' := 9) (L' := [some (.ref 14), some (.int x1), some (.int x2), some (.int r4), some (.int (nI 0)), some (.int x2)]) (st' := []) rfl ?_
  refine wp_le (L := [some (.ref 14), none, none, some (.int r4), some (.int (nI 0)), some (.int x2)]) ⟨Or.inl rfl, Or.inr ⟨rfl, rfl⟩, Or.inr ⟨rfl, rfl⟩, Or.inl rfl, Or.inl rfl, Or.inl rfl, trivial⟩ ?_
  exact h

theorem mk_X4_correct_26 {X : Nat × (Nat → Int32)} {r1 : Nat} {x2 : Int32} {x3 : Int32} {x4 : Int32} {x5 : Int32} {x6 : Int32} {x7 : Int32} {iv : IV} {P : IV → Prop} (k0 : kdT r1 = (1, 14))
    (h : (((iv 14 6) ≤ x7 → vp_in x3 14 ∧ vp_in (iv 20 x3.toNatClampNeg) 14 ∧ vp_in (nI 0) 6 ∧ wc X 9 [.int (iv 16 (nI 0).toNatClampNeg), .int x6] iv (Ri (fun r2 iv1 => vp_in (iv 20 x3.toNatClampNeg) 14 ∧ (∀ iv3 : IV, iv3 = mm_up2 iv1 r1 (iv 20 x3.toNatClampNeg).toNatClampNeg ((iv r1 (iv 20 x3.toNatClampNeg).toNatClampNeg) ^^^ r2) → wp X (0, 0) 34 2 [some (.ref 14), some (.ref r1), some (.int x2), some (.int (x3 + nI 1)), none, none, none, none, none] [] iv3 (Rv P))))) ∧ (¬ ((iv 14 6) ≤ x7) → ((x7 = x3 → wp X (0, 0) 34 26 [some (.ref 14), some (.ref r1), some (.int x2), some (.int x3), some (.int x4), some (.int x5), some (.int x6), some (.int (x7 + nI 1)), none] [] iv (Rv P)) ∧ (¬ (x7 = x3) → vp_in x7 14 ∧ wc X 11 [.int (iv 20 x7.toNatClampNeg)] iv (Ri (fun r5 iv4 => wc X 29 [.ref 14, .int x5, .int r5] iv4 (Rv (fun iv6 => ∀ v7 : Int32, v7 = x5 + nI 4294967295 → wc X 8 [.int x6, .int (x4 ^^^ r5)] iv6 (Ri (fun r9 iv8 => wp X (0, 0) 34 26 [some (.ref 14), some (.ref r1), some (.int x2), some (.int x3), some (.int x4), some (.int v7), some (.int r9), some (.int (x7 + nI 1)), none] [] iv8 (Rv P)))))))))))) :
    wp X (0, 0) 34 26 [some (.ref 14), some (.ref r1), some (.int x2), some (.int x3), some (.int x4), some (.int x5), some (.int x6), some (.int x7), none] [] iv (Rv P) := by
  have hT := tb_34
  refine wp_s hT 3 (i' := 29) (L' := [some (.ref 14), some (.ref r1), some (.int x2), some (.int x3), some (.int x4), some (.int x5), some (.int x6), some (.int x7), none]) (st' := [.int (iv 14 6), .int x7]) rfl ?_
  refine wp_ic_ge hT rfl ⟨fun c => ?_, fun c => ?_⟩
  · have h := h.1 c
    refine wp_s hT 4 (i' := 56) (L' := [some (.ref 14), some (.ref r1), some (.int x2), some (.int x3), some (.int x4), some (.int x5), some (.int x6), some (.int x7), none]) (st' := [.int x3, .ref 20, .ref r1]) rfl ?_
    refine wp_iald hT rfl rfl ⟨h.1, ?_⟩
    have h := h.2
    refine wp_s hT 1 (i' := 58) (L' := [some (.ref 14), some (.ref r1), some (.int x2), some (.int x3), some (.int x4), some (.int x5), some (.int x6), some (.int x7), none]) (st' := [.int (iv 20 x3.toNatClampNeg), .ref r1, .int (iv 20 x3.toNatClampNeg), .ref r1]) rfl ?_
    refine wp_iald hT rfl k0 ⟨h.1, ?_⟩
    have h := h.2
    refine wp_s hT 3 (i' := 62) (L' := [some (.ref 14), some (.ref r1), some (.int x2), some (.int x3), some (.int x4), some (.int x5), some (.int x6), some (.int x7), none]) (st' := [.int (nI 0), .ref 16, .int (iv r1 (iv 20 x3.toNatClampNeg).toNatClampNeg), .int (iv 20 x3.toNatClampNeg), .ref r1]) rfl ?_
    refine wp_iald hT rfl rfl ⟨h.1, ?_⟩
    have h := h.2
    refine wp_s hT 1 (i' := 64) (L' := [some (.ref 14), some (.ref r1), some (.int x2), some (.int x3), some (.int x4), some (.int x5), some (.int x6), some (.int x7), none]) (st' := [.int x6, .int (iv 16 (nI 0).toNatClampNeg), .int (iv r1 (iv 20 x3.toNatClampNeg).toNatClampNeg), .int (iv 20 x3.toNatClampNeg), .ref r1]) rfl ?_
    refine wp_calli hT rfl rfl h (fun r2 iv1 h => ?_)
    refine wp_s hT 1 (i' := 66) (L' := [some (.ref 14), some (.ref r1), some (.int x2), some (.int x3), some (.int x4), some (.int x5), some (.int x6), some (.int x7), none]) (st' := [.int ((iv r1 (iv 20 x3.toNatClampNeg).toNatClampNeg) ^^^ r2), .int (iv 20 x3.toNatClampNeg), .ref r1]) rfl ?_
    refine wp_iast hT rfl k0 ⟨h.1, ?_⟩
    have h := h.2
    have h := h _ rfl
    refine wp_s hT 2 (i' := 2) (L' := [some (.ref 14), some (.ref r1), some (.int x2), some (.int (x3 + nI 1)), some (.int x4), some (.int x5), some (.int x6), some (.int x7), none]) (st' := []) rfl ?_
    refine wp_le (L := [some (.ref 14), some (.ref r1), some (.int x2), some (.int (x3 + nI 1)), none, none, none, none, none]) ⟨Or.inl rfl, Or.inl rfl, Or.inl rfl, Or.inl rfl, Or.inr ⟨rfl, rfl⟩, Or.inr ⟨rfl, rfl⟩, Or.inr ⟨rfl, rfl⟩, Or.inr ⟨rfl, rfl⟩, Or.inl rfl, trivial⟩ ?_
    exact h
  · have h := h.2 c
    refine wp_s hT 2 (i' := 32) (L' := [some (.ref 14), some (.ref r1), some (.int x2), some (.int x3), some (.int x4), some (.int x5), some (.int x6), some (.int x7), none]) (st' := [.int x3, .int x7]) rfl ?_
    refine wp_ic_eq hT rfl ⟨fun c => ?_, fun c => ?_⟩
    · have h := h.1 c
      refine wp_s hT 2 (i' := 26) (L' := [some (.ref 14), some (.ref r1), some (.int x2), some (.int x3), some (.int x4), some (.int x5), some (.int x6), some (.int (x7 + nI 1)), none]) (st' := []) rfl ?_
      exact h
    · have h := h.2 c
      refine wp_s hT 3 (i' := 36) (L' := [some (.ref 14), some (.ref r1), some (.int x2), some (.int x3), some (.int x4), some (.int x5), some (.int x6), some (.int x7), none]) (st' := [.int x7, .ref 20]) rfl ?_
      refine wp_iald hT rfl rfl ⟨h.1, ?_⟩
      have h := h.2
      refine wp_calli hT rfl rfl h (fun r5 iv4 h => ?_)
      refine wp_s hT 4 (i' := 42) (L' := [some (.ref 14), some (.ref r1), some (.int x2), some (.int x3), some (.int x4), some (.int x5), some (.int x6), some (.int x7), some (.int r5)]) (st' := [.int r5, .int x5, .ref 14]) rfl ?_
      refine wp_callv hT rfl rfl h (fun iv6 h => ?_)
      refine wp_s hT 1 (i' := 44) (L' := [some (.ref 14), some (.ref r1), some (.int x2), some (.int x3), some (.int x4), some (.int (x5 + nI 4294967295)), some (.int x6), some (.int x7), some (.int r5)]) (st' := []) rfl ?_
      have h := h _ rfl
      refine wp_s hT 4 (i' := 48) (L' := [some (.ref 14), some (.ref r1), some (.int x2), some (.int x3), some (.int x4), some (.int (x5 + nI 4294967295)), some (.int x6), some (.int x7), some (.int r5)]) (st' := [.int (x4 ^^^ r5), .int x6]) rfl ?_
      refine wp_calli hT rfl rfl h (fun r9 iv8 h => ?_)
      refine wp_s hT 3 (i' := 26) (L' := [some (.ref 14), some (.ref r1), some (.int x2), some (.int x3), some (.int x4), some (.int (x5 + nI 4294967295)), some (.int r9), some (.int (x7 + nI 1)), some (.int r5)]) (st' := []) rfl ?_
      refine wp_le (L := [some (.ref 14), some (.ref r1), some (.int x2), some (.int x3), some (.int x4), some (.int (x5 + nI 4294967295)), some (.int r9), some (.int (x7 + nI 1)), none]) ⟨Or.inl rfl, Or.inl rfl, Or.inl rfl, Or.inl rfl, Or.inl rfl, Or.inl rfl, Or.inl rfl, Or.inl rfl, Or.inr ⟨rfl, rfl⟩, trivial⟩ ?_
      exact h

theorem mk_X4_correct_2 {X : Nat × (Nat → Int32)} {r1 : Nat} {x2 : Int32} {x3 : Int32} {iv : IV} {P : IV → Prop}
    (h : (((iv 14 6) ≤ x3 → P iv) ∧ (¬ ((iv 14 6) ≤ x3) → (¬ nI 0 < 0 ∧ ¬ nI 0 < 0 ∧ ¬ nI 6 < 0 ∧ (nI 0).toNatClampNeg + (nI 6).toNatClampNeg ≤ 6 ∧ (nI 0).toNatClampNeg + (nI 6).toNatClampNeg ≤ 6) ∧ (∀ iv1 : IV, iv1 = mm_row iv 16 (va_cpy (iv 15) (iv 16) (nI 0).toNatClampNeg (nI 0).toNatClampNeg (nI 6).toNatClampNeg) → vp_in x3 14 ∧ wc X 11 [.int (iv1 20 x3.toNatClampNeg)] iv1 (Ri (fun r3 iv2 => wp X (0, 0) 34 26 [some (.ref 14), some (.ref r1), some (.int x2), some (.int x3), some (.int r3), some (.int x2), some (.int (nI 1)), some (.int (nI 0)), none] [] iv2 (Rv P))))))) :
    wp X (0, 0) 34 2 [some (.ref 14), some (.ref r1), some (.int x2), some (.int x3), none, none, none, none, none] [] iv (Rv P) := by
  have hT := tb_34
  refine wp_s hT 3 (i' := 5) (L' := [some (.ref 14), some (.ref r1), some (.int x2), some (.int x3), none, none, none, none, none]) (st' := [.int (iv 14 6), .int x3]) rfl ?_
  refine wp_ic_ge hT rfl ⟨fun c => ?_, fun c => ?_⟩
  · have h := h.1 c
    exact wp_rv hT rfl rfl ⟨rfl, h⟩
  · have h := h.2 c
    refine wp_s hT 7 (i' := 13) (L' := [some (.ref 14), some (.ref r1), some (.int x2), some (.int x3), none, none, none, none, none]) (st' := [.int (nI 6), .int (nI 0), .ref 16, .int (nI 0), .ref 15]) rfl ?_
    refine wp_copy hT rfl rfl rfl (Nat.le_of_ble_eq_true rfl) ⟨h.1, ?_⟩
    have h := h.2
    have h := h _ rfl
    refine wp_s hT 3 (i' := 17) (L' := [some (.ref 14), some (.ref r1), some (.int x2), some (.int x3), none, none, none, none, none]) (st' := [.int x3, .ref 20]) rfl ?_
    refine wp_iald hT rfl rfl ⟨h.1, ?_⟩
    have h := h.2
    refine wp_calli hT rfl rfl h (fun r3 iv2 h => ?_)
    refine wp_s hT 7 (i' := 26) (L' := [some (.ref 14), some (.ref r1), some (.int x2), some (.int x3), some (.int r3), some (.int x2), some (.int (nI 1)), some (.int (nI 0)), none]) (st' := []) rfl ?_
    exact h

theorem mk_X4_correct {X : Nat × (Nat → Int32)} {r1 : Nat} {x2 : Int32} {iv : IV} {P : IV → Prop}
    (h : wp X (0, 0) 34 2 [some (.ref 14), some (.ref r1), some (.int x2), some (.int (nI 0)), none, none, none, none, none] [] iv (Rv P)) :
    wc X 34 [.ref 14, .ref r1, .int x2] iv (Rv P) := by
  have hT := tb_34
  show wp X (0, 0) 34 0 [some (.ref 14), some (.ref r1), some (.int x2), none, none, none, none, none, none] [] iv (Rv P)
  refine wp_s hT 2 (i' := 2) (L' := [some (.ref 14), some (.ref r1), some (.int x2), some (.int (nI 0)), none, none, none, none, none]) (st' := []) rfl ?_
  exact h

theorem mk_X5_look_6 {X : Nat × (Nat → Int32)} {r0 : Nat} {x3 : Int32} {x4 : Int32} {iv : IV} {P : IV → Prop} (k0 : kdT r0 = (14, 0)) (k1 : kdT (rvT r0 3) = (1, 15)) (k2 : kdT (rvT r0 4) = (1, 15))
    (h : (((nI 15) ≤ x4 → ((x3 = (nI 4294967295) → P iv) ∧ (¬ (x3 = (nI 4294967295)) → vp_in (x3 / (nI 15)) 15 ∧ vp_in (x3 / (nI 15)) 15 ∧ (∀ iv1 : IV, iv1 = mm_up2 iv (rvT r0 3) (x3 / (nI 15)).toNatClampNeg ((iv (rvT r0 3) (x3 / (nI 15)).toNatClampNeg) ^^^ ((nI 1) <<< ((x3 - x3 / (nI 15) * (nI 15)) &&& 31))) → P iv1)))) ∧ (¬ ((nI 15) ≤ x4) → wc X 14 [.ref 21, .int x4] iv (Ri (fun r3 iv2 => vp_in x4 15 ∧ vp_in x4 15 ∧ (∀ iv4 : IV, iv4 = mm_up2 iv2 (rvT r0 3) x4.toNatClampNeg (r3 ^^^ (iv2 7 x4.toNatClampNeg)) → vp_in x4 15 ∧ vp_in x4 15 ∧ (∀ iv5 : IV, iv5 = mm_up2 iv4 (rvT r0 4) x4.toNatClampNeg (iv4 8 x4.toNatClampNeg) → wp X (0, 0) 36 6 [some (.ref r0), some (.ref 21), some (.ref 6), some (.int x3), some (.int (x4 + nI 1))] [] iv5 (Rv P)))))))) :
    wp X (0, 0) 36 6 [some (.ref r0), some (.ref 21), some (.ref 6), some (.int x3), some (.int x4)] [] iv (Rv P) := by
  have hT := tb_36
  refine wp_s hT 2 (i' := 8) (L' := [some (.ref r0), some (.ref 21), some (.ref 6), some (.int x3), some (.int x4)]) (st' := [.int (nI 15), .int x4]) rfl ?_
  refine wp_ic_ge hT rfl ⟨fun c => ?_, fun c => ?_⟩
  · have h := h.1 c
    refine wp_s hT 2 (i' := 33) (L' := [some (.ref r0), some (.ref 21), some (.ref 6), some (.int x3), some (.int x4)]) (st' := [.int (nI 4294967295), .int x3]) rfl ?_
    refine wp_ic_eq hT rfl ⟨fun c => ?_, fun c => ?_⟩
    · have h := h.1 c
      exact wp_rv hT rfl rfl ⟨rfl, h⟩
    · have h := h.2 c
      refine wp_s hT 1 (i' := 35) (L' := [some (.ref r0), some (.ref 21), some (.ref 6), some (.int x3), some (.int x4)]) (st' := [.ref r0]) rfl ?_
      refine wp_getr hT rfl k0 ⟨by decide, by decide⟩ ?_
      refine wp_s hT 4 (i' := 40) (L' := [some (.ref r0), some (.ref 21), some (.ref 6), some (.int x3), some (.int x4)]) (st' := [.int (x3 / (nI 15)), .ref (rvT r0 3), .int (x3 / (nI 15)), .ref (rvT r0 3)]) rfl ?_
      refine wp_iald hT rfl k1 ⟨h.1, ?_⟩
      have h := h.2
      refine wp_s hT 6 (i' := 47) (L' := [some (.ref r0), some (.ref 21), some (.ref 6), some (.int x3), some (.int x4)]) (st' := [.int ((iv (rvT r0 3) (x3 / (nI 15)).toNatClampNeg) ^^^ ((nI 1) <<< ((x3 - x3 / (nI 15) * (nI 15)) &&& 31))), .int (x3 / (nI 15)), .ref (rvT r0 3)]) rfl ?_
      refine wp_iast hT rfl k1 ⟨h.1, ?_⟩
      have h := h.2
      have h := h _ rfl
      exact wp_rv hT rfl rfl ⟨rfl, h⟩
  · have h := h.2 c
    refine wp_s hT 1 (i' := 10) (L' := [some (.ref r0), some (.ref 21), some (.ref 6), some (.int x3), some (.int x4)]) (st' := [.ref r0]) rfl ?_
    refine wp_getr hT rfl k0 ⟨by decide, by decide⟩ ?_
    refine wp_s hT 3 (i' := 14) (L' := [some (.ref r0), some (.ref 21), some (.ref 6), some (.int x3), some (.int x4)]) (st' := [.int x4, .ref 21, .int x4, .ref (rvT r0 3)]) rfl ?_
    refine wp_calli hT rfl rfl h (fun r3 iv2 h => ?_)
    refine wp_s hT 3 (i' := 18) (L' := [some (.ref r0), some (.ref 21), some (.ref 6), some (.int x3), some (.int x4)]) (st' := [.int x4, .ref 7, .int r3, .int x4, .ref (rvT r0 3)]) rfl ?_
    refine wp_iald hT rfl rfl ⟨h.1, ?_⟩
    have h := h.2
    refine wp_s hT 1 (i' := 20) (L' := [some (.ref r0), some (.ref 21), some (.ref 6), some (.int x3), some (.int x4)]) (st' := [.int (r3 ^^^ (iv2 7 x4.toNatClampNeg)), .int x4, .ref (rvT r0 3)]) rfl ?_
    refine wp_iast hT rfl k1 ⟨h.1, ?_⟩
    have h := h.2
    have h := h _ rfl
    refine wp_s hT 1 (i' := 22) (L' := [some (.ref r0), some (.ref 21), some (.ref 6), some (.int x3), some (.int x4)]) (st' := [.ref r0]) rfl ?_
    refine wp_getr hT rfl k0 ⟨by decide, by decide⟩ ?_
    refine wp_s hT 4 (i' := 27) (L' := [some (.ref r0), some (.ref 21), some (.ref 6), some (.int x3), some (.int x4)]) (st' := [.int x4, .ref 8, .int x4, .ref (rvT r0 4)]) rfl ?_
    refine wp_iald hT rfl rfl ⟨h.1, ?_⟩
    have h := h.2
    refine wp_iast hT rfl k2 ⟨h.1, ?_⟩
    have h := h.2
    have h := h _ rfl
    refine wp_s hT 2 (i' := 6) (L' := [some (.ref r0), some (.ref 21), some (.ref 6), some (.int x3), some (.int (x4 + nI 1))]) (st' := []) rfl ?_
    exact h

theorem mk_X5_look {X : Nat × (Nat → Int32)} {r0 : Nat} {x3 : Int32} {iv : IV} {P : IV → Prop} (k0 : kdT r0 = (14, 0))
    (h : (iv 21 1 = 0 ∨ iv 21 1 = 1) ∧ (∀ iv1 : IV, iv1 = mm_up2 iv r0 6 (iv 21 1) → wp X (0, 0) 36 6 [some (.ref r0), some (.ref 21), some (.ref 6), some (.int x3), some (.int (nI 0))] [] iv1 (Rv P))) :
    wc X 36 [.ref r0, .ref 21, .ref 6, .int x3] iv (Rv P) := by
  have hT := tb_36
  show wp X (0, 0) 36 0 [some (.ref r0), some (.ref 21), some (.ref 6), some (.int x3), none] [] iv (Rv P)
  refine wp_s hT 3 (i' := 3) (L' := [some (.ref r0), some (.ref 21), some (.ref 6), some (.int x3), none]) (st' := [.int (iv 21 1), .ref r0]) rfl ?_
  refine wp_putz hT rfl k0 ⟨by decide, by decide⟩ ⟨h.1, ?_⟩
  have h := h.2
  have h := h _ rfl
  refine wp_s hT 2 (i' := 6) (L' := [some (.ref r0), some (.ref 21), some (.ref 6), some (.int x3), some (.int (nI 0))]) (st' := []) rfl ?_
  exact h

theorem mk_X5_readFormat_10 {X : Nat × (Nat → Int32)} {r0 : Nat} {x1 : Int32} {iv : IV} {P : IV → Prop} (k0 : kdT r0 = (14, 0))
    (h : (((nI 4) ≤ x1 → (((iv r0 1) < (nI 12) → P iv) ∧ (¬ ((iv r0 1) < (nI 12)) → ∀ iv1 : IV, iv1 = mm_up2 iv r0 1 (nI 4294967295) → P iv1))) ∧ (¬ ((nI 4) ≤ x1) → (((iv r0 1) = (nI 4294967295) → (((iv r0 1) < (nI 12) → P iv) ∧ (¬ ((iv r0 1) < (nI 12)) → ∀ iv2 : IV, iv2 = mm_up2 iv r0 1 (nI 4294967295) → P iv2))) ∧ (¬ ((iv r0 1) = (nI 4294967295)) → wc X 43 [.ref r0, .int (nI 3), .int x1] iv (Ri (fun r4 iv3 => wc X 43 [.ref r0, .int (nI 3), .int ((nI 11) + x1)] iv3 (Ri (fun r6 iv5 => wc X 43 [.ref r0, .int (nI 11), .int x1] iv5 (Ri (fun r8 iv7 => ∀ v9 : Int32, v9 = (r4 + r6) + r8 → ((v9 = 0 → ∀ iv10 : IV, iv10 = mm_up2 iv7 r0 1 (nI 4294967295) → wp X (0, 0) 37 10 [some (.ref r0), some (.int (x1 + nI 1)), none] [] iv10 (Rv P)) ∧ (¬ (v9 = 0) → ((v9 ≤ 0 → ∀ iv11 : IV, iv11 = mm_up2 iv7 r0 1 (((nI 2) * (iv7 r0 1)) + (nI 0)) → wp X (0, 0) 37 10 [some (.ref r0), some (.int (x1 + nI 1)), none] [] iv11 (Rv P)) ∧ (¬ (v9 ≤ 0) → ∀ iv12 : IV, iv12 = mm_up2 iv7 r0 1 (((nI 2) * (iv7 r0 1)) + (nI 1)) → wp X (0, 0) 37 10 [some (.ref r0), some (.int (x1 + nI 1)), none] [] iv12 (Rv P)))))))))))))))) :
    wp X (0, 0) 37 10 [some (.ref r0), some (.int x1), none] [] iv (Rv P) := by
  have hT := tb_37
  refine wp_s hT 2 (i' := 12) (L' := [some (.ref r0), some (.int x1), none]) (st' := [.int (nI 4), .int x1]) rfl ?_
  refine wp_ic_ge hT rfl ⟨fun c => ?_, fun c => ?_⟩
  · have h := h.1 c
    refine wp_s hT 1 (i' := 53) (L' := [some (.ref r0), some (.int x1), none]) (st' := [.ref r0]) rfl ?_
    refine wp_geti hT rfl k0 ⟨by decide, by decide⟩ ?_
    refine wp_s hT 1 (i' := 55) (L' := [some (.ref r0), some (.int x1), none]) (st' := [.int (nI 12), .int (iv r0 1)]) rfl ?_
    refine wp_ic_lt hT rfl ⟨fun c => ?_, fun c => ?_⟩
    · have h := h.1 c
      exact wp_rv hT rfl rfl ⟨rfl, h⟩
    · have h := h.2 c
      refine wp_s hT 2 (i' := 58) (L' := [some (.ref r0), some (.int x1), none]) (st' := [.int (nI 4294967295), .ref r0]) rfl ?_
      refine wp_puti hT rfl k0 ⟨by decide, by decide⟩ ?_
      have h := h _ rfl
      exact wp_rv hT rfl rfl ⟨rfl, h⟩
  · have h := h.2 c
    refine wp_s hT 1 (i' := 14) (L' := [some (.ref r0), some (.int x1), none]) (st' := [.ref r0]) rfl ?_
    refine wp_geti hT rfl k0 ⟨by decide, by decide⟩ ?_
    refine wp_s hT 1 (i' := 16) (L' := [some (.ref r0), some (.int x1), none]) (st' := [.int (nI 4294967295), .int (iv r0 1)]) rfl ?_
    refine wp_ic_eq hT rfl ⟨fun c => ?_, fun c => ?_⟩
    · have h := h.1 c
      refine wp_s hT 1 (i' := 53) (L' := [some (.ref r0), some (.int x1), none]) (st' := [.ref r0]) rfl ?_
      refine wp_geti hT rfl k0 ⟨by decide, by decide⟩ ?_
      refine wp_s hT 1 (i' := 55) (L' := [some (.ref r0), some (.int x1), none]) (st' := [.int (nI 12), .int (iv r0 1)]) rfl ?_
      refine wp_ic_lt hT rfl ⟨fun c => ?_, fun c => ?_⟩
      · have h := h.1 c
        exact wp_rv hT rfl rfl ⟨rfl, h⟩
      · have h := h.2 c
        refine wp_s hT 2 (i' := 58) (L' := [some (.ref r0), some (.int x1), none]) (st' := [.int (nI 4294967295), .ref r0]) rfl ?_
        refine wp_puti hT rfl k0 ⟨by decide, by decide⟩ ?_
        have h := h _ rfl
        exact wp_rv hT rfl rfl ⟨rfl, h⟩
    · have h := h.2 c
      refine wp_s hT 3 (i' := 20) (L' := [some (.ref r0), some (.int x1), none]) (st' := [.int x1, .int (nI 3), .ref r0]) rfl ?_
      refine wp_calli hT rfl (mm_cl_of (c6 := 0) (c7 := 0) (f5 := 0) (f6 := 0) rfl rfl rfl rfl rfl rfl k0 rfl rfl (Nat.le_of_ble_eq_true rfl) (Nat.le_of_ble_eq_true rfl) (Nat.le_of_ble_eq_true rfl) (Nat.zero_le _) (Nat.zero_le _)) h (fun r4 iv3 h => ?_)
      refine wp_s hT 5 (i' := 26) (L' := [some (.ref r0), some (.int x1), none]) (st' := [.int ((nI 11) + x1), .int (nI 3), .ref r0, .int r4]) rfl ?_
      refine wp_calli hT rfl (mm_cl_of (c6 := 0) (c7 := 0) (f5 := 0) (f6 := 0) rfl rfl rfl rfl rfl rfl k0 rfl rfl (Nat.le_of_ble_eq_true rfl) (Nat.le_of_ble_eq_true rfl) (Nat.le_of_ble_eq_true rfl) (Nat.zero_le _) (Nat.zero_le _)) h (fun r6 iv5 h => ?_)
      refine wp_s hT 4 (i' := 31) (L' := [some (.ref r0), some (.int x1), none]) (st' := [.int x1, .int (nI 11), .ref r0, .int (r4 + r6)]) rfl ?_
      refine wp_calli hT rfl (mm_cl_of (c6 := 0) (c7 := 0) (f5 := 0) (f6 := 0) rfl rfl rfl rfl rfl rfl k0 rfl rfl (Nat.le_of_ble_eq_true rfl) (Nat.le_of_ble_eq_true rfl) (Nat.le_of_ble_eq_true rfl) (Nat.zero_le _) (Nat.zero_le _)) h (fun r8 iv7 h => ?_)
      refine wp_s hT 2 (i' := 34) (L' := [some (.ref r0), some (.int x1), some (.int ((r4 + r6) + r8))]) (st' := []) rfl ?_
      have h := h _ rfl
      refine wp_s hT 2 (i' := 36) (L' := [some (.ref r0), some (.int x1), some (.int ((r4 + r6) + r8))]) (st' := [.int ((r4 + r6) + r8), .ref r0]) rfl ?_
      refine wp_if_ne hT rfl ⟨fun c => ?_, fun c => ?_⟩
      · have h := h.1 c
        refine wp_s hT 2 (i' := 49) (L' := [some (.ref r0), some (.int x1), some (.int ((r4 + r6) + r8))]) (st' := [.int (nI 4294967295), .ref r0]) rfl ?_
        refine wp_puti hT rfl k0 ⟨by decide, by decide⟩ ?_
        have h := h _ rfl
        refine wp_s hT 2 (i' := 10) (L' := [some (.ref r0), some (.int (x1 + nI 1)), some (.int ((r4 + r6) + r8))]) (st' := []) rfl ?_
        refine wp_le (L := [some (.ref r0), some (.int (x1 + nI 1)), none]) ⟨Or.inl rfl, Or.inl rfl, Or.inr ⟨rfl, rfl⟩, trivial⟩ ?_
        exact h
      · have h := h.2 c
        refine wp_s hT 2 (i' := 41) (L' := [some (.ref r0), some (.int x1), some (.int ((r4 + r6) + r8))]) (st' := [.ref r0, .int (nI 2), .ref r0]) rfl ?_
        refine wp_geti hT rfl k0 ⟨by decide, by decide⟩ ?_
        refine wp_s hT 2 (i' := 44) (L' := [some (.ref r0), some (.int x1), some (.int ((r4 + r6) + r8))]) (st' := [.int ((r4 + r6) + r8), .int ((nI 2) * (iv7 r0 1)), .ref r0]) rfl ?_
        refine wp_if_le hT rfl ⟨fun c => ?_, fun c => ?_⟩
        · have h := h.1 c
          refine wp_s hT 2 (i' := 49) (L' := [some (.ref r0), some (.int x1), some (.int ((r4 + r6) + r8))]) (st' := [.int (((nI 2) * (iv7 r0 1)) + (nI 0)), .ref r0]) rfl ?_
          refine wp_puti hT rfl k0 ⟨by decide, by decide⟩ ?_
          have h := h _ rfl
          refine wp_s hT 2 (i' := 10) (L' := [some (.ref r0), some (.int (x1 + nI 1)), some (.int ((r4 + r6) + r8))]) (st' := []) rfl ?_
          refine wp_le (L := [some (.ref r0), some (.int (x1 + nI 1)), none]) ⟨Or.inl rfl, Or.inl rfl, Or.inr ⟨rfl, rfl⟩, trivial⟩ ?_
          exact h
        · have h := h.2 c
          refine wp_s hT 3 (i' := 49) (L' := [some (.ref r0), some (.int x1), some (.int ((r4 + r6) + r8))]) (st' := [.int (((nI 2) * (iv7 r0 1)) + (nI 1)), .ref r0]) rfl ?_
          refine wp_puti hT rfl k0 ⟨by decide, by decide⟩ ?_
          have h := h _ rfl
          refine wp_s hT 2 (i' := 10) (L' := [some (.ref r0), some (.int (x1 + nI 1)), some (.int ((r4 + r6) + r8))]) (st' := []) rfl ?_
          refine wp_le (L := [some (.ref r0), some (.int (x1 + nI 1)), none]) ⟨Or.inl rfl, Or.inl rfl, Or.inr ⟨rfl, rfl⟩, trivial⟩ ?_
          exact h

theorem mk_X5_readFormat {X : Nat × (Nat → Int32)} {r0 : Nat} {iv : IV} {P : IV → Prop} (k0 : kdT r0 = (14, 0))
    (h : ((iv r0 6 = 0 → ∀ iv1 : IV, iv1 = mm_up2 iv r0 1 (nI 4294967295) → wp X (0, 0) 37 10 [some (.ref r0), some (.int (nI 0)), none] [] iv1 (Rv P)) ∧ (¬ (iv r0 6 = 0) → ∀ iv2 : IV, iv2 = mm_up2 iv r0 1 (nI 0) → wp X (0, 0) 37 10 [some (.ref r0), some (.int (nI 0)), none] [] iv2 (Rv P)))) :
    wc X 37 [.ref r0] iv (Rv P) := by
  have hT := tb_37
  show wp X (0, 0) 37 0 [some (.ref r0), none, none] [] iv (Rv P)
  refine wp_s hT 2 (i' := 2) (L' := [some (.ref r0), none, none]) (st' := [.ref r0, .ref r0]) rfl ?_
  refine wp_geti hT rfl k0 ⟨by decide, by decide⟩ ?_
  refine wp_if_eq hT rfl ⟨fun c => ?_, fun c => ?_⟩
  · have h := h.1 c
    refine wp_s hT 1 (i' := 7) (L' := [some (.ref r0), none, none]) (st' := [.int (nI 4294967295), .ref r0]) rfl ?_
    refine wp_puti hT rfl k0 ⟨by decide, by decide⟩ ?_
    have h := h _ rfl
    refine wp_s hT 2 (i' := 10) (L' := [some (.ref r0), some (.int (nI 0)), none]) (st' := []) rfl ?_
    exact h
  · have h := h.2 c
    refine wp_s hT 2 (i' := 7) (L' := [some (.ref r0), none, none]) (st' := [.int (nI 0), .ref r0]) rfl ?_
    refine wp_puti hT rfl k0 ⟨by decide, by decide⟩ ?_
    have h := h _ rfl
    refine wp_s hT 2 (i' := 10) (L' := [some (.ref r0), some (.int (nI 0)), none]) (st' := []) rfl ?_
    exact h

theorem mk_X5_readBlocks_25 {X : Nat × (Nat → Int32)} {r0 : Nat} {x3 : Int32} {x5 : Int32} {x6 : Int32} {iv : IV} {P : IV → Prop} (k0 : kdT r0 = (14, 0)) (k1 : kdT (rvT r0 2) = (3, 3))
    (h : ((x5 ≤ x6 → ∀ iv1 : IV, iv1 = mm_up2 iv r0 0 (nI 0) → ((x3 = 0 → wc X 40 [.ref r0] iv1 (Ri (fun r3 iv2 => wc X 42 [.ref r0, .int (nI 0)] iv2 (Ri (fun r5 iv4 => wc X 119 [.int r3, .int r5] iv4 (Ri (fun r7 iv6 => ((r7 = 0 → ∀ iv8 : IV, iv8 = mm_up2 iv6 r0 0 (nI 3) → P iv8) ∧ (¬ (r7 = 0) → P iv6))))))))) ∧ (¬ (x3 = 0) → ∀ iv9 : IV, iv9 = mm_up2 iv1 r0 0 (nI 2) → P iv9))) ∧ (¬ (x5 ≤ x6) → vp_in x6 3 ∧ ∀ a10 : Nat, a10 = rvT (rvT r0 2) x6.toNatClampNeg → kdT a10 = (10, 0) ∧ kdT a10 = (10, 0) ∧ wc X 40 [.ref r0] iv (Ri (fun r12 iv11 => wc X 117 [.int r12] iv11 (Ri (fun r14 iv13 => kdT a10 = (10, 0) ∧ wc X 26 [.ref 14, .ref (rvT a10 0), .int (iv a10 2), .int r14, .ref (rvT a10 1)] iv13 (Ri (fun r16 iv15 => kdT a10 = (10, 0) ∧ (∀ iv17 : IV, iv17 = mm_up2 iv15 a10 3 r16 → ((x3 = 0 → kdT a10 = (10, 0) ∧ (((iv17 a10 3) = (nI 4294967295) → wp X (0, 0) 38 25 [some (.ref r0), none, some (.ref 14), some (.int (nI 1)), some (.ref (rvT r0 2)), some (.int x5), some (.int (x6 + nI 1)), none] [] iv17 (Rv P)) ∧ (¬ ((iv17 a10 3) = (nI 4294967295)) → wp X (0, 0) 38 25 [some (.ref r0), none, some (.ref 14), some (.int (nI 0)), some (.ref (rvT r0 2)), some (.int x5), some (.int (x6 + nI 1)), none] [] iv17 (Rv P)))) ∧ (¬ (x3 = 0) → wp X (0, 0) 38 25 [some (.ref r0), none, some (.ref 14), some (.int (nI 1)), some (.ref (rvT r0 2)), some (.int x5), some (.int (x6 + nI 1)), none] [] iv17 (Rv P))))))))))))) :
    wp X (0, 0) 38 25 [some (.ref r0), none, some (.ref 14), some (.int x3), some (.ref (rvT r0 2)), some (.int x5), some (.int x6), none] [] iv (Rv P) := by
  have hT := tb_38
  refine wp_s hT 2 (i' := 27) (L' := [some (.ref r0), none, some (.ref 14), some (.int x3), some (.ref (rvT r0 2)), some (.int x5), some (.int x6), none]) (st' := [.int x5, .int x6]) rfl ?_
  refine wp_ic_ge hT rfl ⟨fun c => ?_, fun c => ?_⟩
  · have h := h.1 c
    refine wp_s hT 2 (i' := 59) (L' := [some (.ref r0), none, some (.ref 14), some (.int x3), some (.ref (rvT r0 2)), some (.int x5), some (.int x6), none]) (st' := [.int (nI 0), .ref r0]) rfl ?_
    refine wp_puti hT rfl k0 ⟨by decide, by decide⟩ ?_
    have h := h _ rfl
    refine wp_s hT 1 (i' := 61) (L' := [some (.ref r0), none, some (.ref 14), some (.int x3), some (.ref (rvT r0 2)), some (.int x5), some (.int x6), none]) (st' := [.int x3]) rfl ?_
    refine wp_if_eq hT rfl ⟨fun c => ?_, fun c => ?_⟩
    · have h := h.1 c
      refine wp_s hT 1 (i' := 67) (L' := [some (.ref r0), none, some (.ref 14), some (.int x3), some (.ref (rvT r0 2)), some (.int x5), some (.int x6), none]) (st' := [.ref r0]) rfl ?_
      refine wp_calli hT rfl (mm_cl_of (c6 := 0) (c7 := 0) (f5 := 0) (f6 := 0) rfl rfl rfl rfl rfl rfl k0 rfl rfl (Nat.le_of_ble_eq_true rfl) (Nat.le_of_ble_eq_true rfl) (Nat.le_of_ble_eq_true rfl) (Nat.zero_le _) (Nat.zero_le _)) h (fun r3 iv2 h => ?_)
      refine wp_s hT 2 (i' := 70) (L' := [some (.ref r0), none, some (.ref 14), some (.int x3), some (.ref (rvT r0 2)), some (.int x5), some (.int x6), none]) (st' := [.int (nI 0), .ref r0, .int r3]) rfl ?_
      refine wp_calli hT rfl (mm_cl_of (c6 := 0) (c7 := 0) (f5 := 0) (f6 := 0) rfl rfl rfl rfl rfl rfl k0 rfl rfl (Nat.le_of_ble_eq_true rfl) (Nat.le_of_ble_eq_true rfl) (Nat.le_of_ble_eq_true rfl) (Nat.zero_le _) (Nat.zero_le _)) h (fun r5 iv4 h => ?_)
      refine wp_calli hT rfl rfl h (fun r7 iv6 h => ?_)
      refine wp_if_ne hT rfl ⟨fun c => ?_, fun c => ?_⟩
      · have h := h.1 c
        refine wp_s hT 2 (i' := 75) (L' := [some (.ref r0), none, some (.ref 14), some (.int x3), some (.ref (rvT r0 2)), some (.int x5), some (.int x6), none]) (st' := [.int (nI 3), .ref r0]) rfl ?_
        refine wp_puti hT rfl k0 ⟨by decide, by decide⟩ ?_
        have h := h _ rfl
        exact wp_rv hT rfl rfl ⟨rfl, h⟩
      · have h := h.2 c
        exact wp_rv hT rfl rfl ⟨rfl, h⟩
    · have h := h.2 c
      refine wp_s hT 2 (i' := 64) (L' := [some (.ref r0), none, some (.ref 14), some (.int x3), some (.ref (rvT r0 2)), some (.int x5), some (.int x6), none]) (st' := [.int (nI 2), .ref r0]) rfl ?_
      refine wp_puti hT rfl k0 ⟨by decide, by decide⟩ ?_
      have h := h _ rfl
      refine wp_s hT 1 (i' := 76) (L' := [some (.ref r0), none, some (.ref 14), some (.int x3), some (.ref (rvT r0 2)), some (.int x5), some (.int x6), none]) (st' := []) rfl ?_
      exact wp_rv hT rfl rfl ⟨rfl, h⟩
  · have h := h.2 c
    refine wp_s hT 2 (i' := 30) (L' := [some (.ref r0), none, some (.ref 14), some (.int x3), some (.ref (rvT r0 2)), some (.int x5), some (.int x6), none]) (st' := [.int x6, .ref (rvT r0 2)]) rfl ?_
    refine wp_aald hT rfl k1 ⟨by decide, by decide⟩ ⟨h.1, ?_⟩
    have h := h.2
    have h := h _ rfl
    refine wp_s hT 4 (i' := 35) (L' := [some (.ref r0), none, some (.ref 14), some (.int x3), some (.ref (rvT r0 2)), some (.int x5), some (.int x6), some (.ref (rvT (rvT r0 2) x6.toNatClampNeg))]) (st' := [.ref (rvT (rvT r0 2) x6.toNatClampNeg), .ref 14, .ref (rvT (rvT r0 2) x6.toNatClampNeg)]) rfl ?_
    refine wp_getr hT rfl h.1 ⟨by decide, by decide⟩ ?_
    have h := h.2
    refine wp_s hT 1 (i' := 37) (L' := [some (.ref r0), none, some (.ref 14), some (.int x3), some (.ref (rvT r0 2)), some (.int x5), some (.int x6), some (.ref (rvT (rvT r0 2) x6.toNatClampNeg))]) (st' := [.ref (rvT (rvT r0 2) x6.toNatClampNeg), .ref (rvT (rvT (rvT r0 2) x6.toNatClampNeg) 0), .ref 14, .ref (rvT (rvT r0 2) x6.toNatClampNeg)]) rfl ?_
    refine wp_geti hT rfl h.1 ⟨by decide, by decide⟩ ?_
    have h := h.2
    refine wp_s hT 1 (i' := 39) (L' := [some (.ref r0), none, some (.ref 14), some (.int x3), some (.ref (rvT r0 2)), some (.int x5), some (.int x6), some (.ref (rvT (rvT r0 2) x6.toNatClampNeg))]) (st' := [.ref r0, .int (iv (rvT (rvT r0 2) x6.toNatClampNeg) 2), .ref (rvT (rvT (rvT r0 2) x6.toNatClampNeg) 0), .ref 14, .ref (rvT (rvT r0 2) x6.toNatClampNeg)]) rfl ?_
    refine wp_calli hT rfl (mm_cl_of (c6 := 0) (c7 := 0) (f5 := 0) (f6 := 0) rfl rfl rfl rfl rfl rfl k0 rfl rfl (Nat.le_of_ble_eq_true rfl) (Nat.le_of_ble_eq_true rfl) (Nat.le_of_ble_eq_true rfl) (Nat.zero_le _) (Nat.zero_le _)) h (fun r12 iv11 h => ?_)
    refine wp_calli hT rfl rfl h (fun r14 iv13 h => ?_)
    refine wp_s hT 1 (i' := 42) (L' := [some (.ref r0), none, some (.ref 14), some (.int x3), some (.ref (rvT r0 2)), some (.int x5), some (.int x6), some (.ref (rvT (rvT r0 2) x6.toNatClampNeg))]) (st' := [.ref (rvT (rvT r0 2) x6.toNatClampNeg), .int r14, .int (iv (rvT (rvT r0 2) x6.toNatClampNeg) 2), .ref (rvT (rvT (rvT r0 2) x6.toNatClampNeg) 0), .ref 14, .ref (rvT (rvT r0 2) x6.toNatClampNeg)]) rfl ?_
    refine wp_getr hT rfl h.1 ⟨by decide, by decide⟩ ?_
    have h := h.2
    refine wp_calli hT rfl rfl h (fun r16 iv15 h => ?_)
    refine wp_puti hT rfl h.1 ⟨by decide, by decide⟩ ?_
    have h := h.2
    have h := h _ rfl
    refine wp_s hT 1 (i' := 46) (L' := [some (.ref r0), none, some (.ref 14), some (.int x3), some (.ref (rvT r0 2)), some (.int x5), some (.int x6), some (.ref (rvT (rvT r0 2) x6.toNatClampNeg))]) (st' := [.int x3]) rfl ?_
    refine wp_if_ne hT rfl ⟨fun c => ?_, fun c => ?_⟩
    · have h := h.1 c
      refine wp_s hT 1 (i' := 48) (L' := [some (.ref r0), none, some (.ref 14), some (.int x3), some (.ref (rvT r0 2)), some (.int x5), some (.int x6), some (.ref (rvT (rvT r0 2) x6.toNatClampNeg))]) (st' := [.ref (rvT (rvT r0 2) x6.toNatClampNeg)]) rfl ?_
      refine wp_geti hT rfl h.1 ⟨by decide, by decide⟩ ?_
      have h := h.2
      refine wp_s hT 1 (i' := 50) (L' := [some (.ref r0), none, some (.ref 14), some (.int x3), some (.ref (rvT r0 2)), some (.int x5), some (.int x6), some (.ref (rvT (rvT r0 2) x6.toNatClampNeg))]) (st' := [.int (nI 4294967295), .int ((mm_up2 iv15 (rvT (rvT r0 2) x6.toNatClampNeg) 3 r16) (rvT (rvT r0 2) x6.toNatClampNeg) 3)]) rfl ?_
      refine wp_ic_ne hT rfl ⟨fun c => ?_, fun c => ?_⟩
      · have h := h.1 c
        refine wp_s hT 5 (i' := 25) (L' := [some (.ref r0), none, some (.ref 14), some (.int (nI 1)), some (.ref (rvT r0 2)), some (.int x5), some (.int (x6 + nI 1)), some (.ref (rvT (rvT r0 2) x6.toNatClampNeg))]) (st' := []) rfl ?_
        refine wp_le (L := [some (.ref r0), none, some (.ref 14), some (.int (nI 1)), some (.ref (rvT r0 2)), some (.int x5), some (.int (x6 + nI 1)), none]) ⟨Or.inl rfl, Or.inl rfl, Or.inl rfl, Or.inl rfl, Or.inl rfl, Or.inl rfl, Or.inl rfl, Or.inr ⟨rfl, rfl⟩, trivial⟩ ?_
        exact h
      · have h := h.2 c
        refine wp_s hT 4 (i' := 25) (L' := [some (.ref r0), none, some (.ref 14), some (.int (nI 0)), some (.ref (rvT r0 2)), some (.int x5), some (.int (x6 + nI 1)), some (.ref (rvT (rvT r0 2) x6.toNatClampNeg))]) (st' := []) rfl ?_
        refine wp_le (L := [some (.ref r0), none, some (.ref 14), some (.int (nI 0)), some (.ref (rvT r0 2)), some (.int x5), some (.int (x6 + nI 1)), none]) ⟨Or.inl rfl, Or.inl rfl, Or.inl rfl, Or.inl rfl, Or.inl rfl, Or.inl rfl, Or.inl rfl, Or.inr ⟨rfl, rfl⟩, trivial⟩ ?_
        exact h
    · have h := h.2 c
      refine wp_s hT 5 (i' := 25) (L' := [some (.ref r0), none, some (.ref 14), some (.int (nI 1)), some (.ref (rvT r0 2)), some (.int x5), some (.int (x6 + nI 1)), some (.ref (rvT (rvT r0 2) x6.toNatClampNeg))]) (st' := []) rfl ?_
      refine wp_le (L := [some (.ref r0), none, some (.ref 14), some (.int (nI 1)), some (.ref (rvT r0 2)), some (.int x5), some (.int (x6 + nI 1)), none]) ⟨Or.inl rfl, Or.inl rfl, Or.inl rfl, Or.inl rfl, Or.inl rfl, Or.inl rfl, Or.inl rfl, Or.inr ⟨rfl, rfl⟩, trivial⟩ ?_
      exact h

theorem mk_X5_readBlocks_7 {X : Nat × (Nat → Int32)} {r0 : Nat} {s0 : Int32} {iv : IV} {P : IV → Prop} (k0 : kdT r0 = (14, 0)) (k1 : kdT (rvT r0 2) = (3, 3))
    (h : ∀ iv1 : IV, iv1 = mm_up2 iv r0 0 s0 → wc X 39 [.ref r0] iv1 (Ri (fun r3 iv2 => ((r3 = 0 → P iv2) ∧ (¬ (r3 = 0) → wc X 44 [.ref r0, .ref 10] iv2 (Rv (fun iv4 => wp X (0, 0) 38 25 [some (.ref r0), none, some (.ref 14), some (.int (nI 0)), some (.ref (rvT r0 2)), some (.int (nI 3)), some (.int (nI 0)), none] [] iv4 (Rv P)))))))) :
    wp X (0, 0) 38 7 [some (.ref r0), some (.ref 10), some (.ref 14), none, none, none, none, none] [.int s0, .ref r0] iv (Rv P) := by
  have hT := tb_38
  refine wp_puti hT rfl k0 ⟨by decide, by decide⟩ ?_
  have h := h _ rfl
  refine wp_s hT 1 (i' := 9) (L' := [some (.ref r0), some (.ref 10), some (.ref 14), none, none, none, none, none]) (st' := [.ref r0]) rfl ?_
  refine wp_calli hT rfl (mm_cl_of (c6 := 0) (c7 := 0) (f5 := 0) (f6 := 0) rfl rfl rfl rfl rfl rfl k0 rfl rfl (Nat.le_of_ble_eq_true rfl) (Nat.le_of_ble_eq_true rfl) (Nat.le_of_ble_eq_true rfl) (Nat.zero_le _) (Nat.zero_le _)) h (fun r3 iv2 h => ?_)
  refine wp_if_ne hT rfl ⟨fun c => ?_, fun c => ?_⟩
  · have h := h.1 c
    exact wp_rv hT rfl rfl ⟨rfl, h⟩
  · have h := h.2 c
    refine wp_s hT 2 (i' := 14) (L' := [some (.ref r0), some (.ref 10), some (.ref 14), none, none, none, none, none]) (st' := [.ref 10, .ref r0]) rfl ?_
    refine wp_callv hT rfl (mm_cl_of (c6 := 0) (c7 := 0) (f5 := 0) (f6 := 0) rfl rfl rfl rfl rfl rfl k0 rfl rfl (Nat.le_of_ble_eq_true rfl) (Nat.le_of_ble_eq_true rfl) (Nat.le_of_ble_eq_true rfl) (Nat.zero_le _) (Nat.zero_le _)) h (fun iv4 h => ?_)
    refine wp_s hT 3 (i' := 18) (L' := [some (.ref r0), some (.ref 10), some (.ref 14), some (.int (nI 0)), none, none, none, none]) (st' := [.ref r0]) rfl ?_
    refine wp_getr hT rfl k0 ⟨by decide, by decide⟩ ?_
    refine wp_s hT 2 (i' := 21) (L' := [some (.ref r0), some (.ref 10), some (.ref 14), some (.int (nI 0)), some (.ref (rvT r0 2)), none, none, none]) (st' := [.ref (rvT r0 2)]) rfl ?_
    refine wp_alen hT rfl k1 ⟨by decide, by decide⟩ ?_
    refine wp_s hT 3 (i' := 25) (L' := [some (.ref r0), some (.ref 10), some (.ref 14), some (.int (nI 0)), some (.ref (rvT r0 2)), some (.int (nI 3)), some (.int (nI 0)), none]) (st' := []) rfl ?_
    refine wp_le (L := [some (.ref r0), none, some (.ref 14), some (.int (nI 0)), some (.ref (rvT r0 2)), some (.int (nI 3)), some (.int (nI 0)), none]) ⟨Or.inl rfl, Or.inr ⟨rfl, rfl⟩, Or.inl rfl, Or.inl rfl, Or.inl rfl, Or.inl rfl, Or.inl rfl, Or.inl rfl, trivial⟩ ?_
    exact h

theorem mk_X5_readBlocks {X : Nat × (Nat → Int32)} {r0 : Nat} {iv : IV} {P : IV → Prop} (k0 : kdT r0 = (14, 0))
    (h : ((iv r0 6 = 0 → wp X (0, 0) 38 7 [some (.ref r0), some (.ref 10), some (.ref 14), none, none, none, none, none] [.int (nI 4), .ref r0] iv (Rv P)) ∧ (¬ (iv r0 6 = 0) → wp X (0, 0) 38 7 [some (.ref r0), some (.ref 10), some (.ref 14), none, none, none, none, none] [.int (nI 1), .ref r0] iv (Rv P)))) :
    wc X 38 [.ref r0, .ref 10, .ref 14] iv (Rv P) := by
  have hT := tb_38
  show wp X (0, 0) 38 0 [some (.ref r0), some (.ref 10), some (.ref 14), none, none, none, none, none] [] iv (Rv P)
  refine wp_s hT 2 (i' := 2) (L' := [some (.ref r0), some (.ref 10), some (.ref 14), none, none, none, none, none]) (st' := [.ref r0, .ref r0]) rfl ?_
  refine wp_geti hT rfl k0 ⟨by decide, by decide⟩ ?_
  refine wp_if_eq hT rfl ⟨fun c => ?_, fun c => ?_⟩
  · have h := h.1 c
    refine wp_s hT 1 (i' := 7) (L' := [some (.ref r0), some (.ref 10), some (.ref 14), none, none, none, none, none]) (st' := [.int (nI 4), .ref r0]) rfl ?_
    exact h
  · have h := h.2 c
    refine wp_s hT 2 (i' := 7) (L' := [some (.ref r0), some (.ref 10), some (.ref 14), none, none, none, none, none]) (st' := [.int (nI 1), .ref r0]) rfl ?_
    exact h

theorem mk_X5_formatKnown {X : Nat × (Nat → Int32)} {r0 : Nat} {iv : IV} {P : Int32 → IV → Prop} (k0 : kdT r0 = (14, 0))
    (h : (((iv r0 1) = (nI 4294967295) → P (nI 0) iv) ∧ (¬ ((iv r0 1) = (nI 4294967295)) → P (nI 1) iv))) :
    wc X 39 [.ref r0] iv (Ri P) := by
  have hT := tb_39
  show wp X (0, 0) 39 0 [some (.ref r0)] [] iv (Ri P)
  refine wp_s hT 1 (i' := 1) (L' := [some (.ref r0)]) (st' := [.ref r0]) rfl ?_
  refine wp_geti hT rfl k0 ⟨by decide, by decide⟩ ?_
  refine wp_s hT 1 (i' := 3) (L' := [some (.ref r0)]) (st' := [.int (nI 4294967295), .int (iv r0 1)]) rfl ?_
  refine wp_ic_eq hT rfl ⟨fun c => ?_, fun c => ?_⟩
  · have h := h.1 c
    refine wp_s hT 1 (i' := 7) (L' := [some (.ref r0)]) (st' := [.int (nI 0)]) rfl ?_
    exact wp_rz hT rfl rfl ⟨Or.inl rfl, ⟨_, rfl, h⟩⟩
  · have h := h.2 c
    refine wp_s hT 2 (i' := 7) (L' := [some (.ref r0)]) (st' := [.int (nI 1)]) rfl ?_
    exact wp_rz hT rfl rfl ⟨Or.inr rfl, ⟨_, rfl, h⟩⟩

theorem mk_X5_level {X : Nat × (Nat → Int32)} {r0 : Nat} {iv : IV} {P : Int32 → IV → Prop} (k0 : kdT r0 = (14, 0))
    (h : P ((iv r0 1) / (nI 4)) iv) :
    wc X 40 [.ref r0] iv (Ri P) := by
  have hT := tb_40
  show wp X (0, 0) 40 0 [some (.ref r0)] [] iv (Ri P)
  refine wp_s hT 1 (i' := 1) (L' := [some (.ref r0)]) (st' := [.ref r0]) rfl ?_
  refine wp_geti hT rfl k0 ⟨by decide, by decide⟩ ?_
  refine wp_s hT 2 (i' := 4) (L' := [some (.ref r0)]) (st' := [.int ((iv r0 1) / (nI 4))]) rfl ?_
  exact wp_ri hT rfl rfl ⟨_, rfl, h⟩

theorem mk_X5_mask {X : Nat × (Nat → Int32)} {r0 : Nat} {iv : IV} {P : Int32 → IV → Prop} (k0 : kdT r0 = (14, 0))
    (h : P ((iv r0 1) - (iv r0 1) / (nI 4) * (nI 4)) iv) :
    wc X 41 [.ref r0] iv (Ri P) := by
  have hT := tb_41
  show wp X (0, 0) 41 0 [some (.ref r0)] [] iv (Ri P)
  refine wp_s hT 1 (i' := 1) (L' := [some (.ref r0)]) (st' := [.ref r0]) rfl ?_
  refine wp_geti hT rfl k0 ⟨by decide, by decide⟩ ?_
  refine wp_s hT 2 (i' := 4) (L' := [some (.ref r0)]) (st' := [.int ((iv r0 1) - (iv r0 1) / (nI 4) * (nI 4))]) rfl ?_
  exact wp_ri hT rfl rfl ⟨_, rfl, h⟩

theorem mk_X5_item {X : Nat × (Nat → Int32)} {r0 : Nat} {x1 : Int32} {iv : IV} {P : Int32 → IV → Prop} (k0 : kdT r0 = (14, 0)) (k1 : kdT (rvT r0 2) = (3, 3))
    (h : vp_in (x1 - x1 / (nI 3) * (nI 3)) 3 ∧ ∀ a1 : Nat, a1 = rvT (rvT r0 2) (x1 - x1 / (nI 3) * (nI 3)).toNatClampNeg → kdT a1 = (10, 0) ∧ kdT (rvT a1 1) = (1, 14) ∧ vp_in (x1 / (nI 3)) 14 ∧ P (iv (rvT a1 1) (x1 / (nI 3)).toNatClampNeg) iv) :
    wc X 42 [.ref r0, .int x1] iv (Ri P) := by
  have hT := tb_42
  show wp X (0, 0) 42 0 [some (.ref r0), some (.int x1)] [] iv (Ri P)
  refine wp_s hT 1 (i' := 1) (L' := [some (.ref r0), some (.int x1)]) (st' := [.ref r0]) rfl ?_
  refine wp_getr hT rfl k0 ⟨by decide, by decide⟩ ?_
  refine wp_s hT 3 (i' := 5) (L' := [some (.ref r0), some (.int x1)]) (st' := [.int (x1 - x1 / (nI 3) * (nI 3)), .ref (rvT r0 2)]) rfl ?_
  refine wp_aald hT rfl k1 ⟨by decide, by decide⟩ ⟨h.1, ?_⟩
  have h := h.2
  have h := h _ rfl
  refine wp_getr hT rfl h.1 ⟨by decide, by decide⟩ ?_
  have h := h.2
  refine wp_s hT 3 (i' := 10) (L' := [some (.ref r0), some (.int x1)]) (st' := [.int (x1 / (nI 3)), .ref (rvT (rvT (rvT r0 2) (x1 - x1 / (nI 3) * (nI 3)).toNatClampNeg) 1)]) rfl ?_
  refine wp_iald hT rfl h.1 ⟨h.2.1, ?_⟩
  have h := h.2.2
  exact wp_ri hT rfl rfl ⟨_, rfl, h⟩

theorem mk_X5_vote {X : Nat × (Nat → Int32)} {r0 : Nat} {x1 : Int32} {x2 : Int32} {iv : IV} {P : Int32 → IV → Prop} (k0 : kdT r0 = (14, 0)) (k1 : kdT (rvT r0 4) = (1, 15)) (k2 : kdT (rvT r0 3) = (1, 15))
    (h : vp_in x1 15 ∧ wc X 115 [.int (iv (rvT r0 4) x1.toNatClampNeg), .int x2] iv (Ri (fun r2 iv1 => ((r2 = (nI 1) → P (nI 0) iv1) ∧ (¬ (r2 = (nI 1)) → vp_in x1 15 ∧ wc X 115 [.int (iv1 (rvT r0 3) x1.toNatClampNeg), .int x2] iv1 (Ri (fun r4 iv3 => P (((nI 2) * r4) - (nI 1)) iv3))))))) :
    wc X 43 [.ref r0, .int x1, .int x2] iv (Ri P) := by
  have hT := tb_43
  show wp X (0, 0) 43 0 [some (.ref r0), some (.int x1), some (.int x2)] [] iv (Ri P)
  refine wp_s hT 1 (i' := 1) (L' := [some (.ref r0), some (.int x1), some (.int x2)]) (st' := [.ref r0]) rfl ?_
  refine wp_getr hT rfl k0 ⟨by decide, by decide⟩ ?_
  refine wp_s hT 1 (i' := 3) (L' := [some (.ref r0), some (.int x1), some (.int x2)]) (st' := [.int x1, .ref (rvT r0 4)]) rfl ?_
  refine wp_iald hT rfl k1 ⟨h.1, ?_⟩
  have h := h.2
  refine wp_s hT 1 (i' := 5) (L' := [some (.ref r0), some (.int x1), some (.int x2)]) (st' := [.int x2, .int (iv (rvT r0 4) x1.toNatClampNeg)]) rfl ?_
  refine wp_calli hT rfl rfl h (fun r2 iv1 h => ?_)
  refine wp_s hT 1 (i' := 7) (L' := [some (.ref r0), some (.int x1), some (.int x2)]) (st' := [.int (nI 1), .int r2]) rfl ?_
  refine wp_ic_ne hT rfl ⟨fun c => ?_, fun c => ?_⟩
  · have h := h.1 c
    refine wp_s hT 2 (i' := 20) (L' := [some (.ref r0), some (.int x1), some (.int x2)]) (st' := [.int (nI 0)]) rfl ?_
    exact wp_ri hT rfl rfl ⟨_, rfl, h⟩
  · have h := h.2 c
    refine wp_s hT 2 (i' := 12) (L' := [some (.ref r0), some (.int x1), some (.int x2)]) (st' := [.ref r0, .int (nI 2)]) rfl ?_
    refine wp_getr hT rfl k0 ⟨by decide, by decide⟩ ?_
    refine wp_s hT 1 (i' := 14) (L' := [some (.ref r0), some (.int x1), some (.int x2)]) (st' := [.int x1, .ref (rvT r0 3), .int (nI 2)]) rfl ?_
    refine wp_iald hT rfl k2 ⟨h.1, ?_⟩
    have h := h.2
    refine wp_s hT 1 (i' := 16) (L' := [some (.ref r0), some (.int x1), some (.int x2)]) (st' := [.int x2, .int (iv1 (rvT r0 3) x1.toNatClampNeg), .int (nI 2)]) rfl ?_
    refine wp_calli hT rfl rfl h (fun r4 iv3 h => ?_)
    refine wp_s hT 3 (i' := 20) (L' := [some (.ref r0), some (.int x1), some (.int x2)]) (st' := [.int (((nI 2) * r4) - (nI 1))]) rfl ?_
    exact wp_ri hT rfl rfl ⟨_, rfl, h⟩

theorem mk_X5_takeSymbols_33 {X : Nat × (Nat → Int32)} {r0 : Nat} {x2 : Int32} {x3 : Int32} {x4 : Int32} {x5 : Int32} {iv : IV} {P : IV → Prop} (k0 : kdT r0 = (14, 0)) (k1 : kdT (rvT r0 2) = (3, 3)) (k2 : kdT (rvT r0 5) = (1, 15)) (k3 : kdT (rvT r0 4) = (1, 15))
    (h : ((((nI 4) * (x2 + (nI 1))) ≤ x5 → vp_in (x2 - x2 / (nI 3) * (nI 3)) 3 ∧ ∀ a1 : Nat, a1 = rvT (rvT r0 2) (x2 - x2 / (nI 3) * (nI 3)).toNatClampNeg → kdT a1 = (10, 0) ∧ kdT (rvT a1 0) = (1, 14) ∧ vp_in (x2 / (nI 3)) 14 ∧ (∀ iv2 : IV, iv2 = mm_up2 iv (rvT a1 0) (x2 / (nI 3)).toNatClampNeg x3 → ((x2 / (nI 3) = 0 → kdT a1 = (10, 0) ∧ (∀ iv3 : IV, iv3 = mm_up2 iv2 a1 2 ((nI 0) ||| (x4 <<< ((x2 / (nI 3)) &&& 31))) → wp X (0, 0) 44 22 [some (.ref r0), some (.ref 10), some (.int (x2 + nI 1)), none, none, none, none] [] iv3 (Rv P))) ∧ (¬ (x2 / (nI 3) = 0) → kdT a1 = (10, 0) ∧ kdT a1 = (10, 0) ∧ (∀ iv4 : IV, iv4 = mm_up2 iv2 a1 2 ((iv2 a1 2) ||| (x4 <<< ((x2 / (nI 3)) &&& 31))) → wp X (0, 0) 44 22 [some (.ref r0), some (.ref 10), some (.int (x2 + nI 1)), none, none, none, none] [] iv4 (Rv P)))))) ∧ (¬ (((nI 4) * (x2 + (nI 1))) ≤ x5) → vp_in x5 171 ∧ vp_in (iv 12 x5.toNatClampNeg) 15 ∧ vp_in x5 171 ∧ wc X 115 [.int (iv (rvT r0 5) (iv 12 x5.toNatClampNeg).toNatClampNeg), .int (iv 13 x5.toNatClampNeg)] iv (Ri (fun r6 iv5 => ∀ v7 : Int32, v7 = ((nI 2) * x3) + r6 → vp_in x5 171 ∧ vp_in (iv5 12 x5.toNatClampNeg) 15 ∧ vp_in x5 171 ∧ wc X 115 [.int (iv5 (rvT r0 4) (iv5 12 x5.toNatClampNeg).toNatClampNeg), .int (iv5 13 x5.toNatClampNeg)] iv5 (Ri (fun r9 iv8 => wp X (0, 0) 44 33 [some (.ref r0), some (.ref 10), some (.int x2), some (.int v7), some (.int (x4 ||| r9)), some (.int (x5 + nI 1)), none] [] iv8 (Rv P)))))))) :
    wp X (0, 0) 44 33 [some (.ref r0), some (.ref 10), some (.int x2), some (.int x3), some (.int x4), some (.int x5), none] [] iv (Rv P) := by
  have hT := tb_44
  refine wp_s hT 6 (i' := 39) (L' := [some (.ref r0), some (.ref 10), some (.int x2), some (.int x3), some (.int x4), some (.int x5), none]) (st' := [.int ((nI 4) * (x2 + (nI 1))), .int x5]) rfl ?_
  refine wp_ic_ge hT rfl ⟨fun c => ?_, fun c => ?_⟩
  · have h := h.1 c
    refine wp_s hT 1 (i' := 75) (L' := [some (.ref r0), some (.ref 10), some (.int x2), some (.int x3), some (.int x4), some (.int x5), none]) (st' := [.ref r0]) rfl ?_
    refine wp_getr hT rfl k0 ⟨by decide, by decide⟩ ?_
    refine wp_s hT 3 (i' := 79) (L' := [some (.ref r0), some (.ref 10), some (.int x2), some (.int x3), some (.int x4), some (.int x5), none]) (st' := [.int (x2 - x2 / (nI 3) * (nI 3)), .ref (rvT r0 2)]) rfl ?_
    refine wp_aald hT rfl k1 ⟨by decide, by decide⟩ ⟨h.1, ?_⟩
    have h := h.2
    have h := h _ rfl
    refine wp_s hT 6 (i' := 86) (L' := [some (.ref r0), some (.ref 10), some (.int x2), some (.int x3), some (.int x4), some (.ref (rvT (rvT r0 2) (x2 - x2 / (nI 3) * (nI 3)).toNatClampNeg)), some (.int (x2 / (nI 3)))]) (st' := [.ref (rvT (rvT r0 2) (x2 - x2 / (nI 3) * (nI 3)).toNatClampNeg)]) rfl ?_
    refine wp_getr hT rfl h.1 ⟨by decide, by decide⟩ ?_
    have h := h.2
    refine wp_s hT 2 (i' := 89) (L' := [some (.ref r0), some (.ref 10), some (.int x2), some (.int x3), some (.int x4), some (.ref (rvT (rvT r0 2) (x2 - x2 / (nI 3) * (nI 3)).toNatClampNeg)), some (.int (x2 / (nI 3)))]) (st' := [.int x3, .int (x2 / (nI 3)), .ref (rvT (rvT (rvT r0 2) (x2 - x2 / (nI 3) * (nI 3)).toNatClampNeg) 0)]) rfl ?_
    refine wp_iast hT rfl h.1 ⟨h.2.1, ?_⟩
    have h := h.2.2
    have h := h _ rfl
    refine wp_s hT 2 (i' := 92) (L' := [some (.ref r0), some (.ref 10), some (.int x2), some (.int x3), some (.int x4), some (.ref (rvT (rvT r0 2) (x2 - x2 / (nI 3) * (nI 3)).toNatClampNeg)), some (.int (x2 / (nI 3)))]) (st' := [.int (x2 / (nI 3)), .ref (rvT (rvT r0 2) (x2 - x2 / (nI 3) * (nI 3)).toNatClampNeg)]) rfl ?_
    refine wp_if_ne hT rfl ⟨fun c => ?_, fun c => ?_⟩
    · have h := h.1 c
      refine wp_s hT 6 (i' := 101) (L' := [some (.ref r0), some (.ref 10), some (.int x2), some (.int x3), some (.int x4), some (.ref (rvT (rvT r0 2) (x2 - x2 / (nI 3) * (nI 3)).toNatClampNeg)), some (.int (x2 / (nI 3)))]) (st' := [.int ((nI 0) ||| (x4 <<< ((x2 / (nI 3)) &&& 31))), .ref (rvT (rvT r0 2) (x2 - x2 / (nI 3) * (nI 3)).toNatClampNeg)]) rfl ?_
      refine wp_puti hT rfl h.1 ⟨by decide, by decide⟩ ?_
      have h := h.2
      have h := h _ rfl
      refine wp_s hT 2 (i' := 22) (L' := [some (.ref r0), some (.ref 10), some (.int (x2 + nI 1)), some (.int x3), some (.int x4), some (.ref (rvT (rvT r0 2) (x2 - x2 / (nI 3) * (nI 3)).toNatClampNeg)), some (.int (x2 / (nI 3)))]) (st' := []) rfl ?_
      refine wp_le (L := [some (.ref r0), some (.ref 10), some (.int (x2 + nI 1)), none, none, none, none]) ⟨Or.inl rfl, Or.inl rfl, Or.inl rfl, Or.inr ⟨rfl, rfl⟩, Or.inr ⟨rfl, rfl⟩, Or.inr ⟨rfl, rfl⟩, Or.inr ⟨rfl, rfl⟩, trivial⟩ ?_
      exact h
    · have h := h.2 c
      refine wp_s hT 1 (i' := 96) (L' := [some (.ref r0), some (.ref 10), some (.int x2), some (.int x3), some (.int x4), some (.ref (rvT (rvT r0 2) (x2 - x2 / (nI 3) * (nI 3)).toNatClampNeg)), some (.int (x2 / (nI 3)))]) (st' := [.ref (rvT (rvT r0 2) (x2 - x2 / (nI 3) * (nI 3)).toNatClampNeg), .ref (rvT (rvT r0 2) (x2 - x2 / (nI 3) * (nI 3)).toNatClampNeg)]) rfl ?_
      refine wp_geti hT rfl h.1 ⟨by decide, by decide⟩ ?_
      have h := h.2
      refine wp_s hT 4 (i' := 101) (L' := [some (.ref r0), some (.ref 10), some (.int x2), some (.int x3), some (.int x4), some (.ref (rvT (rvT r0 2) (x2 - x2 / (nI 3) * (nI 3)).toNatClampNeg)), some (.int (x2 / (nI 3)))]) (st' := [.int (((mm_up2 iv (rvT (rvT (rvT r0 2) (x2 - x2 / (nI 3) * (nI 3)).toNatClampNeg) 0) (x2 / (nI 3)).toNatClampNeg x3) (rvT (rvT r0 2) (x2 - x2 / (nI 3) * (nI 3)).toNatClampNeg) 2) ||| (x4 <<< ((x2 / (nI 3)) &&& 31))), .ref (rvT (rvT r0 2) (x2 - x2 / (nI 3) * (nI 3)).toNatClampNeg)]) rfl ?_
      refine wp_puti hT rfl h.1 ⟨by decide, by decide⟩ ?_
      have h := h.2
      have h := h _ rfl
      refine wp_s hT 2 (i' := 22) (L' := [some (.ref r0), some (.ref 10), some (.int (x2 + nI 1)), some (.int x3), some (.int x4), some (.ref (rvT (rvT r0 2) (x2 - x2 / (nI 3) * (nI 3)).toNatClampNeg)), some (.int (x2 / (nI 3)))]) (st' := []) rfl ?_
      refine wp_le (L := [some (.ref r0), some (.ref 10), some (.int (x2 + nI 1)), none, none, none, none]) ⟨Or.inl rfl, Or.inl rfl, Or.inl rfl, Or.inr ⟨rfl, rfl⟩, Or.inr ⟨rfl, rfl⟩, Or.inr ⟨rfl, rfl⟩, Or.inr ⟨rfl, rfl⟩, trivial⟩ ?_
      exact h
  · have h := h.2 c
    refine wp_s hT 4 (i' := 44) (L' := [some (.ref r0), some (.ref 10), some (.int x2), some (.int x3), some (.int x4), some (.int x5), none]) (st' := [.ref r0, .int ((nI 2) * x3)]) rfl ?_
    refine wp_getr hT rfl k0 ⟨by decide, by decide⟩ ?_
    refine wp_s hT 3 (i' := 48) (L' := [some (.ref r0), some (.ref 10), some (.int x2), some (.int x3), some (.int x4), some (.int x5), none]) (st' := [.int x5, .ref 12, .ref (rvT r0 5), .int ((nI 2) * x3)]) rfl ?_
    refine wp_iald hT rfl rfl ⟨h.1, ?_⟩
    have h := h.2
    refine wp_iald hT rfl k2 ⟨h.1, ?_⟩
    have h := h.2
    refine wp_s hT 3 (i' := 53) (L' := [some (.ref r0), some (.ref 10), some (.int x2), some (.int x3), some (.int x4), some (.int x5), none]) (st' := [.int x5, .ref 13, .int (iv (rvT r0 5) (iv 12 x5.toNatClampNeg).toNatClampNeg), .int ((nI 2) * x3)]) rfl ?_
    refine wp_iald hT rfl rfl ⟨h.1, ?_⟩
    have h := h.2
    refine wp_calli hT rfl rfl h (fun r6 iv5 h => ?_)
    refine wp_s hT 2 (i' := 57) (L' := [some (.ref r0), some (.ref 10), some (.int x2), some (.int (((nI 2) * x3) + r6)), some (.int x4), some (.int x5), none]) (st' := []) rfl ?_
    have h := h _ rfl
    refine wp_s hT 2 (i' := 59) (L' := [some (.ref r0), some (.ref 10), some (.int x2), some (.int (((nI 2) * x3) + r6)), some (.int x4), some (.int x5), none]) (st' := [.ref r0, .int x4]) rfl ?_
    refine wp_getr hT rfl k0 ⟨by decide, by decide⟩ ?_
    refine wp_s hT 3 (i' := 63) (L' := [some (.ref r0), some (.ref 10), some (.int x2), some (.int (((nI 2) * x3) + r6)), some (.int x4), some (.int x5), none]) (st' := [.int x5, .ref 12, .ref (rvT r0 4), .int x4]) rfl ?_
    refine wp_iald hT rfl rfl ⟨h.1, ?_⟩
    have h := h.2
    refine wp_iald hT rfl k3 ⟨h.1, ?_⟩
    have h := h.2
    refine wp_s hT 3 (i' := 68) (L' := [some (.ref r0), some (.ref 10), some (.int x2), some (.int (((nI 2) * x3) + r6)), some (.int x4), some (.int x5), none]) (st' := [.int x5, .ref 13, .int (iv5 (rvT r0 4) (iv5 12 x5.toNatClampNeg).toNatClampNeg), .int x4]) rfl ?_
    refine wp_iald hT rfl rfl ⟨h.1, ?_⟩
    have h := h.2
    refine wp_calli hT rfl rfl h (fun r9 iv8 h => ?_)
    refine wp_s hT 4 (i' := 33) (L' := [some (.ref r0), some (.ref 10), some (.int x2), some (.int (((nI 2) * x3) + r6)), some (.int (x4 ||| r9)), some (.int (x5 + nI 1)), none]) (st' := []) rfl ?_
    exact h

theorem mk_X5_takeSymbols_22 {X : Nat × (Nat → Int32)} {r0 : Nat} {x2 : Int32} {iv : IV} {P : IV → Prop}
    (h : (((nI 42) ≤ x2 → P iv) ∧ (¬ ((nI 42) ≤ x2) → wp X (0, 0) 44 33 [some (.ref r0), some (.ref 10), some (.int x2), some (.int (nI 0)), some (.int (nI 0)), some (.int ((nI 4) * x2)), none] [] iv (Rv P)))) :
    wp X (0, 0) 44 22 [some (.ref r0), some (.ref 10), some (.int x2), none, none, none, none] [] iv (Rv P) := by
  have hT := tb_44
  refine wp_s hT 2 (i' := 24) (L' := [some (.ref r0), some (.ref 10), some (.int x2), none, none, none, none]) (st' := [.int (nI 42), .int x2]) rfl ?_
  refine wp_ic_ge hT rfl ⟨fun c => ?_, fun c => ?_⟩
  · have h := h.1 c
    exact wp_rv hT rfl rfl ⟨rfl, h⟩
  · have h := h.2 c
    refine wp_s hT 8 (i' := 33) (L' := [some (.ref r0), some (.ref 10), some (.int x2), some (.int (nI 0)), some (.int (nI 0)), some (.int ((nI 4) * x2)), none]) (st' := []) rfl ?_
    exact h

theorem mk_X5_takeSymbols_2 {X : Nat × (Nat → Int32)} {r0 : Nat} {x2 : Int32} {iv : IV} {P : IV → Prop} (k0 : kdT r0 = (14, 0)) (k1 : kdT (rvT r0 3) = (1, 15)) (k2 : kdT (rvT r0 5) = (1, 15))
    (h : (((nI 15) ≤ x2 → wp X (0, 0) 44 22 [some (.ref r0), some (.ref 10), some (.int (nI 0)), none, none, none, none] [] iv (Rv P)) ∧ (¬ ((nI 15) ≤ x2) → vp_in x2 15 ∧ wc X 41 [.ref r0] iv (Ri (fun r2 iv1 => wc X 120 [.int r2, .int x2] iv1 (Ri (fun r4 iv3 => vp_in x2 15 ∧ (∀ iv5 : IV, iv5 = mm_up2 iv3 (rvT r0 5) x2.toNatClampNeg ((iv (rvT r0 3) x2.toNatClampNeg) ^^^ r4) → wp X (0, 0) 44 2 [some (.ref r0), some (.ref 10), some (.int (x2 + nI 1)), none, none, none, none] [] iv5 (Rv P))))))))) :
    wp X (0, 0) 44 2 [some (.ref r0), some (.ref 10), some (.int x2), none, none, none, none] [] iv (Rv P) := by
  have hT := tb_44
  refine wp_s hT 2 (i' := 4) (L' := [some (.ref r0), some (.ref 10), some (.int x2), none, none, none, none]) (st' := [.int (nI 15), .int x2]) rfl ?_
  refine wp_ic_ge hT rfl ⟨fun c => ?_, fun c => ?_⟩
  · have h := h.1 c
    refine wp_s hT 2 (i' := 22) (L' := [some (.ref r0), some (.ref 10), some (.int (nI 0)), none, none, none, none]) (st' := []) rfl ?_
    exact h
  · have h := h.2 c
    refine wp_s hT 1 (i' := 6) (L' := [some (.ref r0), some (.ref 10), some (.int x2), none, none, none, none]) (st' := [.ref r0]) rfl ?_
    refine wp_getr hT rfl k0 ⟨by decide, by decide⟩ ?_
    refine wp_s hT 2 (i' := 9) (L' := [some (.ref r0), some (.ref 10), some (.int x2), none, none, none, none]) (st' := [.ref r0, .int x2, .ref (rvT r0 5)]) rfl ?_
    refine wp_getr hT rfl k0 ⟨by decide, by decide⟩ ?_
    refine wp_s hT 1 (i' := 11) (L' := [some (.ref r0), some (.ref 10), some (.int x2), none, none, none, none]) (st' := [.int x2, .ref (rvT r0 3), .int x2, .ref (rvT r0 5)]) rfl ?_
    refine wp_iald hT rfl k1 ⟨h.1, ?_⟩
    have h := h.2
    refine wp_s hT 1 (i' := 13) (L' := [some (.ref r0), some (.ref 10), some (.int x2), none, none, none, none]) (st' := [.ref r0, .int (iv (rvT r0 3) x2.toNatClampNeg), .int x2, .ref (rvT r0 5)]) rfl ?_
    refine wp_calli hT rfl (mm_cl_of (c6 := 0) (c7 := 0) (f5 := 0) (f6 := 0) rfl rfl rfl rfl rfl rfl k0 rfl rfl (Nat.le_of_ble_eq_true rfl) (Nat.le_of_ble_eq_true rfl) (Nat.le_of_ble_eq_true rfl) (Nat.zero_le _) (Nat.zero_le _)) h (fun r2 iv1 h => ?_)
    refine wp_s hT 1 (i' := 15) (L' := [some (.ref r0), some (.ref 10), some (.int x2), none, none, none, none]) (st' := [.int x2, .int r2, .int (iv (rvT r0 3) x2.toNatClampNeg), .int x2, .ref (rvT r0 5)]) rfl ?_
    refine wp_calli hT rfl rfl h (fun r4 iv3 h => ?_)
    refine wp_s hT 1 (i' := 17) (L' := [some (.ref r0), some (.ref 10), some (.int x2), none, none, none, none]) (st' := [.int ((iv (rvT r0 3) x2.toNatClampNeg) ^^^ r4), .int x2, .ref (rvT r0 5)]) rfl ?_
    refine wp_iast hT rfl k2 ⟨h.1, ?_⟩
    have h := h.2
    have h := h _ rfl
    refine wp_s hT 2 (i' := 2) (L' := [some (.ref r0), some (.ref 10), some (.int (x2 + nI 1)), none, none, none, none]) (st' := []) rfl ?_
    exact h

theorem mk_X5_takeSymbols {X : Nat × (Nat → Int32)} {r0 : Nat} {iv : IV} {P : IV → Prop}
    (h : wp X (0, 0) 44 2 [some (.ref r0), some (.ref 10), some (.int (nI 0)), none, none, none, none] [] iv (Rv P)) :
    wc X 44 [.ref r0, .ref 10] iv (Rv P) := by
  have hT := tb_44
  show wp X (0, 0) 44 0 [some (.ref r0), some (.ref 10), none, none, none, none, none] [] iv (Rv P)
  refine wp_s hT 2 (i' := 2) (L' := [some (.ref r0), some (.ref 10), some (.int (nI 0)), none, none, none, none]) (st' := []) rfl ?_
  exact h

theorem mk_X6_renew_11 {X : Nat × (Nat → Int32)} {r0 : Nat} {x3 : Int32} {iv : IV} {P : IV → Prop} (k0 : kdT r0 = (15, 0)) (k1 : kdT (rvT r0 3) = (1, 60))
    (h : (((nI 60) ≤ x3 → P iv) ∧ (¬ ((nI 60) ≤ x3) → vp_in x3 60 ∧ (∀ iv1 : IV, iv1 = mm_up2 iv (rvT r0 3) x3.toNatClampNeg (nI 0) → wp X (0, 0) 46 11 [some (.ref r0), none, none, some (.int (x3 + nI 1))] [] iv1 (Rv P))))) :
    wp X (0, 0) 46 11 [some (.ref r0), none, none, some (.int x3)] [] iv (Rv P) := by
  have hT := tb_46
  refine wp_s hT 2 (i' := 13) (L' := [some (.ref r0), none, none, some (.int x3)]) (st' := [.int (nI 60), .int x3]) rfl ?_
  refine wp_ic_ge hT rfl ⟨fun c => ?_, fun c => ?_⟩
  · have h := h.1 c
    exact wp_rv hT rfl rfl ⟨rfl, h⟩
  · have h := h.2 c
    refine wp_s hT 1 (i' := 15) (L' := [some (.ref r0), none, none, some (.int x3)]) (st' := [.ref r0]) rfl ?_
    refine wp_getr hT rfl k0 ⟨by decide, by decide⟩ ?_
    refine wp_s hT 2 (i' := 18) (L' := [some (.ref r0), none, none, some (.int x3)]) (st' := [.int (nI 0), .int x3, .ref (rvT r0 3)]) rfl ?_
    refine wp_iast hT rfl k1 ⟨h.1, ?_⟩
    have h := h.2
    have h := h _ rfl
    refine wp_s hT 2 (i' := 11) (L' := [some (.ref r0), none, none, some (.int (x3 + nI 1))]) (st' := []) rfl ?_
    exact h

theorem mk_X6_renew {X : Nat × (Nat → Int32)} {r0 : Nat} {x1 : Int32} {x2 : Int32} {iv : IV} {P : IV → Prop} (k0 : kdT r0 = (15, 0))
    (h : ∀ iv1 : IV, iv1 = mm_up2 iv r0 0 (nI 1) → ∀ iv2 : IV, iv2 = mm_up2 iv1 r0 1 x1 → ∀ iv3 : IV, iv3 = mm_up2 iv2 r0 2 x2 → wp X (0, 0) 46 11 [some (.ref r0), none, none, some (.int (nI 0))] [] iv3 (Rv P)) :
    wc X 46 [.ref r0, .int x1, .int x2] iv (Rv P) := by
  have hT := tb_46
  show wp X (0, 0) 46 0 [some (.ref r0), some (.int x1), some (.int x2), none] [] iv (Rv P)
  refine wp_s hT 2 (i' := 2) (L' := [some (.ref r0), some (.int x1), some (.int x2), none]) (st' := [.int (nI 1), .ref r0]) rfl ?_
  refine wp_putz hT rfl k0 ⟨by decide, by decide⟩ ⟨Or.inr rfl, ?_⟩
  have h := h _ rfl
  refine wp_s hT 2 (i' := 5) (L' := [some (.ref r0), some (.int x1), some (.int x2), none]) (st' := [.int x1, .ref r0]) rfl ?_
  refine wp_puti hT rfl k0 ⟨by decide, by decide⟩ ?_
  have h := h _ rfl
  refine wp_s hT 2 (i' := 8) (L' := [some (.ref r0), some (.int x1), some (.int x2), none]) (st' := [.int x2, .ref r0]) rfl ?_
  refine wp_puti hT rfl k0 ⟨by decide, by decide⟩ ?_
  have h := h _ rfl
  refine wp_s hT 2 (i' := 11) (L' := [some (.ref r0), some (.int x1), some (.int x2), some (.int (nI 0))]) (st' := []) rfl ?_
  refine wp_le (L := [some (.ref r0), none, none, some (.int (nI 0))]) ⟨Or.inl rfl, Or.inr ⟨rfl, rfl⟩, Or.inr ⟨rfl, rfl⟩, Or.inl rfl, trivial⟩ ?_
  exact h

theorem mk_X6_findingAt {X : Nat × (Nat → Int32)} {r0 : Nat} {x1 : Int32} {x2 : Int32} {iv : IV} {P : Int32 → IV → Prop} (k0 : kdT r0 = (15, 0))
    (h : ((iv r0 0 = 0 → P (nI 1) iv) ∧ (¬ (iv r0 0 = 0) → ((x1 = (iv r0 1) → ((x2 < 0 → P (nI 2) iv) ∧ (¬ (x2 < 0) → ((x2 < (iv r0 2) → P (nI 0) iv) ∧ (¬ (x2 < (iv r0 2)) → P (nI 2) iv))))) ∧ (¬ (x1 = (iv r0 1)) → P (nI 3) iv))))) :
    wc X 47 [.ref r0, .int x1, .int x2] iv (Ri P) := by
  have hT := tb_47
  show wp X (0, 0) 47 0 [some (.ref r0), some (.int x1), some (.int x2)] [] iv (Ri P)
  refine wp_s hT 1 (i' := 1) (L' := [some (.ref r0), some (.int x1), some (.int x2)]) (st' := [.ref r0]) rfl ?_
  refine wp_geti hT rfl k0 ⟨by decide, by decide⟩ ?_
  refine wp_if_ne hT rfl ⟨fun c => ?_, fun c => ?_⟩
  · have h := h.1 c
    refine wp_s hT 1 (i' := 4) (L' := [some (.ref r0), some (.int x1), some (.int x2)]) (st' := [.int (nI 1)]) rfl ?_
    exact wp_ri hT rfl rfl ⟨_, rfl, h⟩
  · have h := h.2 c
    refine wp_s hT 2 (i' := 7) (L' := [some (.ref r0), some (.int x1), some (.int x2)]) (st' := [.ref r0, .int x1]) rfl ?_
    refine wp_geti hT rfl k0 ⟨by decide, by decide⟩ ?_
    refine wp_ic_eq hT rfl ⟨fun c => ?_, fun c => ?_⟩
    · have h := h.1 c
      refine wp_s hT 1 (i' := 12) (L' := [some (.ref r0), some (.int x1), some (.int x2)]) (st' := [.int x2]) rfl ?_
      refine wp_if_lt hT rfl ⟨fun c => ?_, fun c => ?_⟩
      · have h := h.1 c
        refine wp_s hT 2 (i' := 20) (L' := [some (.ref r0), some (.int x1), some (.int x2)]) (st' := [.int (nI 2)]) rfl ?_
        exact wp_ri hT rfl rfl ⟨_, rfl, h⟩
      · have h := h.2 c
        refine wp_s hT 2 (i' := 15) (L' := [some (.ref r0), some (.int x1), some (.int x2)]) (st' := [.ref r0, .int x2]) rfl ?_
        refine wp_geti hT rfl k0 ⟨by decide, by decide⟩ ?_
        refine wp_ic_lt hT rfl ⟨fun c => ?_, fun c => ?_⟩
        · have h := h.1 c
          refine wp_s hT 1 (i' := 20) (L' := [some (.ref r0), some (.int x1), some (.int x2)]) (st' := [.int (nI 0)]) rfl ?_
          exact wp_ri hT rfl rfl ⟨_, rfl, h⟩
        · have h := h.2 c
          refine wp_s hT 2 (i' := 20) (L' := [some (.ref r0), some (.int x1), some (.int x2)]) (st' := [.int (nI 2)]) rfl ?_
          exact wp_ri hT rfl rfl ⟨_, rfl, h⟩
    · have h := h.2 c
      refine wp_s hT 1 (i' := 10) (L' := [some (.ref r0), some (.int x1), some (.int x2)]) (st' := [.int (nI 3)]) rfl ?_
      exact wp_ri hT rfl rfl ⟨_, rfl, h⟩

theorem mk_X6_put {X : Nat × (Nat → Int32)} {r0 : Nat} {x1 : Int32} {x2 : Int32} {iv : IV} {P : IV → Prop} (k0 : kdT r0 = (15, 0)) (k1 : kdT (rvT r0 3) = (1, 60))
    (h : ((iv r0 1 = 0 → vp_in x1 60 ∧ (∀ iv1 : IV, iv1 = mm_up2 iv (rvT r0 3) x1.toNatClampNeg x2.toInt8.toInt32 → P iv1)) ∧ (¬ (iv r0 1 = 0) → (((iv r0 1) = (nI 1) → vp_in x1 60 ∧ (∀ iv2 : IV, iv2 = mm_up2 iv (rvT r0 3) x1.toNatClampNeg x2.toInt16.toInt32 → P iv2)) ∧ (¬ ((iv r0 1) = (nI 1)) → vp_in x1 60 ∧ (∀ iv3 : IV, iv3 = mm_up2 iv (rvT r0 3) x1.toNatClampNeg x2 → P iv3)))))) :
    wc X 48 [.ref r0, .int x1, .int x2] iv (Rv P) := by
  have hT := tb_48
  show wp X (0, 0) 48 0 [some (.ref r0), some (.int x1), some (.int x2)] [] iv (Rv P)
  refine wp_s hT 1 (i' := 1) (L' := [some (.ref r0), some (.int x1), some (.int x2)]) (st' := [.ref r0]) rfl ?_
  refine wp_geti hT rfl k0 ⟨by decide, by decide⟩ ?_
  refine wp_if_ne hT rfl ⟨fun c => ?_, fun c => ?_⟩
  · have h := h.1 c
    refine wp_s hT 1 (i' := 4) (L' := [some (.ref r0), some (.int x1), some (.int x2)]) (st' := [.ref r0]) rfl ?_
    refine wp_getr hT rfl k0 ⟨by decide, by decide⟩ ?_
    refine wp_s hT 3 (i' := 8) (L' := [some (.ref r0), some (.int x1), some (.int x2)]) (st' := [.int x2.toInt8.toInt32, .int x1, .ref (rvT r0 3)]) rfl ?_
    refine wp_iast hT rfl k1 ⟨h.1, ?_⟩
    have h := h.2
    have h := h _ rfl
    refine wp_s hT 1 (i' := 26) (L' := [some (.ref r0), some (.int x1), some (.int x2)]) (st' := []) rfl ?_
    exact wp_rv hT rfl rfl ⟨rfl, h⟩
  · have h := h.2 c
    refine wp_s hT 1 (i' := 11) (L' := [some (.ref r0), some (.int x1), some (.int x2)]) (st' := [.ref r0]) rfl ?_
    refine wp_geti hT rfl k0 ⟨by decide, by decide⟩ ?_
    refine wp_s hT 1 (i' := 13) (L' := [some (.ref r0), some (.int x1), some (.int x2)]) (st' := [.int (nI 1), .int (iv r0 1)]) rfl ?_
    refine wp_ic_ne hT rfl ⟨fun c => ?_, fun c => ?_⟩
    · have h := h.1 c
      refine wp_s hT 1 (i' := 15) (L' := [some (.ref r0), some (.int x1), some (.int x2)]) (st' := [.ref r0]) rfl ?_
      refine wp_getr hT rfl k0 ⟨by decide, by decide⟩ ?_
      refine wp_s hT 3 (i' := 19) (L' := [some (.ref r0), some (.int x1), some (.int x2)]) (st' := [.int x2.toInt16.toInt32, .int x1, .ref (rvT r0 3)]) rfl ?_
      refine wp_iast hT rfl k1 ⟨h.1, ?_⟩
      have h := h.2
      have h := h _ rfl
      refine wp_s hT 1 (i' := 26) (L' := [some (.ref r0), some (.int x1), some (.int x2)]) (st' := []) rfl ?_
      exact wp_rv hT rfl rfl ⟨rfl, h⟩
    · have h := h.2 c
      refine wp_s hT 1 (i' := 22) (L' := [some (.ref r0), some (.int x1), some (.int x2)]) (st' := [.ref r0]) rfl ?_
      refine wp_getr hT rfl k0 ⟨by decide, by decide⟩ ?_
      refine wp_s hT 2 (i' := 25) (L' := [some (.ref r0), some (.int x1), some (.int x2)]) (st' := [.int x2, .int x1, .ref (rvT r0 3)]) rfl ?_
      refine wp_iast hT rfl k1 ⟨h.1, ?_⟩
      have h := h.2
      have h := h _ rfl
      exact wp_rv hT rfl rfl ⟨rfl, h⟩

theorem mk_X6_hasPart {X : Nat × (Nat → Int32)} {r0 : Nat} {x1 : Int32} {x2 : Int32} {iv : IV} {P : Int32 → IV → Prop} (k0 : kdT r0 = (15, 0))
    (h : ((x1 < 0 → P (nI 0) iv) ∧ (¬ (x1 < 0) → ((x2 < 0 → P (nI 0) iv) ∧ (¬ (x2 < 0) → ((((iv r0 2) - x1) < x2 → P (nI 0) iv) ∧ (¬ (((iv r0 2) - x1) < x2) → P (nI 1) iv))))))) :
    wc X 49 [.ref r0, .int x1, .int x2] iv (Ri P) := by
  have hT := tb_49
  show wp X (0, 0) 49 0 [some (.ref r0), some (.int x1), some (.int x2)] [] iv (Ri P)
  refine wp_s hT 1 (i' := 1) (L' := [some (.ref r0), some (.int x1), some (.int x2)]) (st' := [.int x1]) rfl ?_
  refine wp_if_lt hT rfl ⟨fun c => ?_, fun c => ?_⟩
  · have h := h.1 c
    refine wp_s hT 1 (i' := 13) (L' := [some (.ref r0), some (.int x1), some (.int x2)]) (st' := [.int (nI 0)]) rfl ?_
    exact wp_rz hT rfl rfl ⟨Or.inl rfl, ⟨_, rfl, h⟩⟩
  · have h := h.2 c
    refine wp_s hT 1 (i' := 3) (L' := [some (.ref r0), some (.int x1), some (.int x2)]) (st' := [.int x2]) rfl ?_
    refine wp_if_lt hT rfl ⟨fun c => ?_, fun c => ?_⟩
    · have h := h.1 c
      refine wp_s hT 1 (i' := 13) (L' := [some (.ref r0), some (.int x1), some (.int x2)]) (st' := [.int (nI 0)]) rfl ?_
      exact wp_rz hT rfl rfl ⟨Or.inl rfl, ⟨_, rfl, h⟩⟩
    · have h := h.2 c
      refine wp_s hT 2 (i' := 6) (L' := [some (.ref r0), some (.int x1), some (.int x2)]) (st' := [.ref r0, .int x2]) rfl ?_
      refine wp_geti hT rfl k0 ⟨by decide, by decide⟩ ?_
      refine wp_s hT 2 (i' := 9) (L' := [some (.ref r0), some (.int x1), some (.int x2)]) (st' := [.int ((iv r0 2) - x1), .int x2]) rfl ?_
      refine wp_ic_gt hT rfl ⟨fun c => ?_, fun c => ?_⟩
      · have h := h.1 c
        refine wp_s hT 1 (i' := 13) (L' := [some (.ref r0), some (.int x1), some (.int x2)]) (st' := [.int (nI 0)]) rfl ?_
        exact wp_rz hT rfl rfl ⟨Or.inl rfl, ⟨_, rfl, h⟩⟩
      · have h := h.2 c
        refine wp_s hT 2 (i' := 13) (L' := [some (.ref r0), some (.int x1), some (.int x2)]) (st' := [.int (nI 1)]) rfl ?_
        exact wp_rz hT rfl rfl ⟨Or.inr rfl, ⟨_, rfl, h⟩⟩

theorem mk_X7_find_9 {X : Nat × (Nat → Int32)} {x6 : Int32} {iv : IV} {P : IV → Prop}
    (h : (((nI 225) ≤ x6 → P iv) ∧ (¬ ((nI 225) ≤ x6) → (((iv 48 0) = (nI 4294967295) → vp_in (x6 / (nI 15)) 15 ∧ wc X 115 [.int (iv 8 (x6 / (nI 15)).toNatClampNeg), .int (x6 - x6 / (nI 15) * (nI 15))] iv (Ri (fun r2 iv1 => ((r2 = (nI 1) → wp X (0, 0) 51 9 [some (.ref 48), some (.ref 34), some (.ref 21), some (.ref 6), some (.ref 10), some (.ref 14), some (.int (x6 + nI 1)), none] [] iv1 (Rv P)) ∧ (¬ (r2 = (nI 1)) → wc X 63 [.ref 10, .int x6] iv1 (Ri (fun r4 iv3 => ((r4 = (nI 4294967295) → wc X 52 [.int x6] iv3 (Ri (fun r6 iv5 => ((r6 = 0 → ((nI 0 = 0 → ∀ iv7 : IV, iv7 = mm_up2 iv5 48 0 (nI 4294967295) → wp X (0, 0) 51 9 [some (.ref 48), some (.ref 34), some (.ref 21), some (.ref 6), some (.ref 10), some (.ref 14), some (.int (x6 + nI 1)), none] [] iv7 (Rv P)) ∧ (¬ (nI 0 = 0) → ∀ iv8 : IV, iv8 = mm_up2 iv5 48 0 x6 → wp X (0, 0) 51 9 [some (.ref 48), some (.ref 34), some (.ref 21), some (.ref 6), some (.ref 10), some (.ref 14), some (.int (x6 + nI 1)), none] [] iv8 (Rv P)))) ∧ (¬ (r6 = 0) → wc X 36 [.ref 49, .ref 21, .ref 6, .int x6] iv5 (Rv (fun iv9 => wc X 37 [.ref 49] iv9 (Rv (fun iv10 => (((iv10 49 1) = (iv10 34 1) → ((nI 0 = 0 → ∀ iv11 : IV, iv11 = mm_up2 iv10 48 0 (nI 4294967295) → wp X (0, 0) 51 9 [some (.ref 48), some (.ref 34), some (.ref 21), some (.ref 6), some (.ref 10), some (.ref 14), some (.int (x6 + nI 1)), none] [] iv11 (Rv P)) ∧ (¬ (nI 0 = 0) → ∀ iv12 : IV, iv12 = mm_up2 iv10 48 0 x6 → wp X (0, 0) 51 9 [some (.ref 48), some (.ref 34), some (.ref 21), some (.ref 6), some (.ref 10), some (.ref 14), some (.int (x6 + nI 1)), none] [] iv12 (Rv P)))) ∧ (¬ ((iv10 49 1) = (iv10 34 1)) → wc X 38 [.ref 49, .ref 10, .ref 14] iv10 (Rv (fun iv13 => ((iv13 49 0 = 0 → ((nI 0 = 0 → ∀ iv14 : IV, iv14 = mm_up2 iv13 48 0 (nI 4294967295) → wp X (0, 0) 51 9 [some (.ref 48), some (.ref 34), some (.ref 21), some (.ref 6), some (.ref 10), some (.ref 14), some (.int (x6 + nI 1)), none] [] iv14 (Rv P)) ∧ (¬ (nI 0 = 0) → ∀ iv15 : IV, iv15 = mm_up2 iv13 48 0 x6 → wp X (0, 0) 51 9 [some (.ref 48), some (.ref 34), some (.ref 21), some (.ref 6), some (.ref 10), some (.ref 14), some (.int (x6 + nI 1)), none] [] iv15 (Rv P)))) ∧ (¬ (iv13 49 0 = 0) → ((nI 1 = 0 → ∀ iv16 : IV, iv16 = mm_up2 iv13 48 0 (nI 4294967295) → wp X (0, 0) 51 9 [some (.ref 48), some (.ref 34), some (.ref 21), some (.ref 6), some (.ref 10), some (.ref 14), some (.int (x6 + nI 1)), none] [] iv16 (Rv P)) ∧ (¬ (nI 1 = 0) → ∀ iv17 : IV, iv17 = mm_up2 iv13 48 0 x6 → wp X (0, 0) 51 9 [some (.ref 48), some (.ref 34), some (.ref 21), some (.ref 6), some (.ref 10), some (.ref 14), some (.int (x6 + nI 1)), none] [] iv17 (Rv P)))))))))))))))))) ∧ (¬ (r4 = (nI 4294967295)) → vp_in x6 225 ∧ wc X 53 [.ref 48, .ref 34, .int (iv3 11 x6.toNatClampNeg), .ref 14] iv3 (Ri (fun r19 iv18 => ((r19 = 0 → ∀ iv20 : IV, iv20 = mm_up2 iv18 48 0 (nI 4294967295) → wp X (0, 0) 51 9 [some (.ref 48), some (.ref 34), some (.ref 21), some (.ref 6), some (.ref 10), some (.ref 14), some (.int (x6 + nI 1)), none] [] iv20 (Rv P)) ∧ (¬ (r19 = 0) → ∀ iv21 : IV, iv21 = mm_up2 iv18 48 0 x6 → wp X (0, 0) 51 9 [some (.ref 48), some (.ref 34), some (.ref 21), some (.ref 6), some (.ref 10), some (.ref 14), some (.int (x6 + nI 1)), none] [] iv21 (Rv P)))))))))))))) ∧ (¬ ((iv 48 0) = (nI 4294967295)) → P iv))))) :
    wp X (0, 0) 51 9 [some (.ref 48), some (.ref 34), some (.ref 21), some (.ref 6), some (.ref 10), some (.ref 14), some (.int x6), none] [] iv (Rv P) := by
  have hT := tb_51
  refine wp_s hT 2 (i' := 11) (L' := [some (.ref 48), some (.ref 34), some (.ref 21), some (.ref 6), some (.ref 10), some (.ref 14), some (.int x6), none]) (st' := [.int (nI 225), .int x6]) rfl ?_
  refine wp_ic_ge hT rfl ⟨fun c => ?_, fun c => ?_⟩
  · have h := h.1 c
    exact wp_rv hT rfl rfl ⟨rfl, h⟩
  · have h := h.2 c
    refine wp_s hT 3 (i' := 15) (L' := [some (.ref 48), some (.ref 34), some (.ref 21), some (.ref 6), some (.ref 10), some (.ref 14), some (.int x6), none]) (st' := [.int (nI 4294967295), .int (iv 48 0)]) rfl ?_
    refine wp_ic_ne hT rfl ⟨fun c => ?_, fun c => ?_⟩
    · have h := h.1 c
      refine wp_s hT 5 (i' := 21) (L' := [some (.ref 48), some (.ref 34), some (.ref 21), some (.ref 6), some (.ref 10), some (.ref 14), some (.int x6), none]) (st' := [.int (x6 / (nI 15)), .ref 8]) rfl ?_
      refine wp_iald hT rfl rfl ⟨h.1, ?_⟩
      have h := h.2
      refine wp_s hT 3 (i' := 25) (L' := [some (.ref 48), some (.ref 34), some (.ref 21), some (.ref 6), some (.ref 10), some (.ref 14), some (.int x6), none]) (st' := [.int (x6 - x6 / (nI 15) * (nI 15)), .int (iv 8 (x6 / (nI 15)).toNatClampNeg)]) rfl ?_
      refine wp_calli hT rfl rfl h (fun r2 iv1 h => ?_)
      refine wp_s hT 1 (i' := 27) (L' := [some (.ref 48), some (.ref 34), some (.ref 21), some (.ref 6), some (.ref 10), some (.ref 14), some (.int x6), none]) (st' := [.int (nI 1), .int r2]) rfl ?_
      refine wp_ic_ne hT rfl ⟨fun c => ?_, fun c => ?_⟩
      · have h := h.1 c
        refine wp_s hT 3 (i' := 9) (L' := [some (.ref 48), some (.ref 34), some (.ref 21), some (.ref 6), some (.ref 10), some (.ref 14), some (.int (x6 + nI 1)), none]) (st' := []) rfl ?_
        exact h
      · have h := h.2 c
        refine wp_s hT 4 (i' := 33) (L' := [some (.ref 48), some (.ref 34), some (.ref 21), some (.ref 6), some (.ref 10), some (.ref 14), some (.int x6), some (.int (nI 0))]) (st' := [.int x6, .ref 10]) rfl ?_
        refine wp_calli hT rfl rfl h (fun r4 iv3 h => ?_)
        refine wp_s hT 1 (i' := 35) (L' := [some (.ref 48), some (.ref 34), some (.ref 21), some (.ref 6), some (.ref 10), some (.ref 14), some (.int x6), some (.int (nI 0))]) (st' := [.int (nI 4294967295), .int r4]) rfl ?_
        refine wp_ic_eq hT rfl ⟨fun c => ?_, fun c => ?_⟩
        · have h := h.1 c
          refine wp_s hT 1 (i' := 47) (L' := [some (.ref 48), some (.ref 34), some (.ref 21), some (.ref 6), some (.ref 10), some (.ref 14), some (.int x6), some (.int (nI 0))]) (st' := [.int x6]) rfl ?_
          refine wp_calli hT rfl rfl h (fun r6 iv5 h => ?_)
          refine wp_if_eq hT rfl ⟨fun c => ?_, fun c => ?_⟩
          · have h := h.1 c
            refine wp_s hT 2 (i' := 79) (L' := [some (.ref 48), some (.ref 34), some (.ref 21), some (.ref 6), some (.ref 10), some (.ref 14), some (.int x6), some (.int (nI 0))]) (st' := [.int (nI 0), .ref 48]) rfl ?_
            refine wp_if_eq hT rfl ⟨fun c => ?_, fun c => ?_⟩
            · have h := h.1 c
              refine wp_s hT 1 (i' := 83) (L' := [some (.ref 48), some (.ref 34), some (.ref 21), some (.ref 6), some (.ref 10), some (.ref 14), some (.int x6), some (.int (nI 0))]) (st' := [.int (nI 4294967295), .ref 48]) rfl ?_
              refine wp_puti hT rfl rfl ⟨by decide, by decide⟩ ?_
              have h := h _ rfl
              refine wp_s hT 2 (i' := 9) (L' := [some (.ref 48), some (.ref 34), some (.ref 21), some (.ref 6), some (.ref 10), some (.ref 14), some (.int (x6 + nI 1)), some (.int (nI 0))]) (st' := []) rfl ?_
              refine wp_le (L := [some (.ref 48), some (.ref 34), some (.ref 21), some (.ref 6), some (.ref 10), some (.ref 14), some (.int (x6 + nI 1)), none]) ⟨Or.inl rfl, Or.inl rfl, Or.inl rfl, Or.inl rfl, Or.inl rfl, Or.inl rfl, Or.inl rfl, Or.inr ⟨rfl, rfl⟩, trivial⟩ ?_
              exact h
            · have h := h.2 c
              refine wp_s hT 2 (i' := 83) (L' := [some (.ref 48), some (.ref 34), some (.ref 21), some (.ref 6), some (.ref 10), some (.ref 14), some (.int x6), some (.int (nI 0))]) (st' := [.int x6, .ref 48]) rfl ?_
              refine wp_puti hT rfl rfl ⟨by decide, by decide⟩ ?_
              have h := h _ rfl
              refine wp_s hT 2 (i' := 9) (L' := [some (.ref 48), some (.ref 34), some (.ref 21), some (.ref 6), some (.ref 10), some (.ref 14), some (.int (x6 + nI 1)), some (.int (nI 0))]) (st' := []) rfl ?_
              refine wp_le (L := [some (.ref 48), some (.ref 34), some (.ref 21), some (.ref 6), some (.ref 10), some (.ref 14), some (.int (x6 + nI 1)), none]) ⟨Or.inl rfl, Or.inl rfl, Or.inl rfl, Or.inl rfl, Or.inl rfl, Or.inl rfl, Or.inl rfl, Or.inr ⟨rfl, rfl⟩, trivial⟩ ?_
              exact h
          · have h := h.2 c
            refine wp_s hT 5 (i' := 54) (L' := [some (.ref 48), some (.ref 34), some (.ref 21), some (.ref 6), some (.ref 10), some (.ref 14), some (.int x6), some (.int (nI 0))]) (st' := [.int x6, .ref 6, .ref 21, .ref 49]) rfl ?_
            refine wp_callv hT rfl rfl h (fun iv9 h => ?_)
            refine wp_s hT 2 (i' := 57) (L' := [some (.ref 48), some (.ref 34), some (.ref 21), some (.ref 6), some (.ref 10), some (.ref 14), some (.int x6), some (.int (nI 0))]) (st' := [.ref 49]) rfl ?_
            refine wp_callv hT rfl rfl h (fun iv10 h => ?_)
            refine wp_s hT 5 (i' := 63) (L' := [some (.ref 48), some (.ref 34), some (.ref 21), some (.ref 6), some (.ref 10), some (.ref 14), some (.int x6), some (.int (nI 0))]) (st' := [.int (iv10 34 1), .int (iv10 49 1)]) rfl ?_
            refine wp_ic_eq hT rfl ⟨fun c => ?_, fun c => ?_⟩
            · have h := h.1 c
              refine wp_s hT 2 (i' := 79) (L' := [some (.ref 48), some (.ref 34), some (.ref 21), some (.ref 6), some (.ref 10), some (.ref 14), some (.int x6), some (.int (nI 0))]) (st' := [.int (nI 0), .ref 48]) rfl ?_
              refine wp_if_eq hT rfl ⟨fun c => ?_, fun c => ?_⟩
              · have h := h.1 c
                refine wp_s hT 1 (i' := 83) (L' := [some (.ref 48), some (.ref 34), some (.ref 21), some (.ref 6), some (.ref 10), some (.ref 14), some (.int x6), some (.int (nI 0))]) (st' := [.int (nI 4294967295), .ref 48]) rfl ?_
                refine wp_puti hT rfl rfl ⟨by decide, by decide⟩ ?_
                have h := h _ rfl
                refine wp_s hT 2 (i' := 9) (L' := [some (.ref 48), some (.ref 34), some (.ref 21), some (.ref 6), some (.ref 10), some (.ref 14), some (.int (x6 + nI 1)), some (.int (nI 0))]) (st' := []) rfl ?_
                refine wp_le (L := [some (.ref 48), some (.ref 34), some (.ref 21), some (.ref 6), some (.ref 10), some (.ref 14), some (.int (x6 + nI 1)), none]) ⟨Or.inl rfl, Or.inl rfl, Or.inl rfl, Or.inl rfl, Or.inl rfl, Or.inl rfl, Or.inl rfl, Or.inr ⟨rfl, rfl⟩, trivial⟩ ?_
                exact h
              · have h := h.2 c
                refine wp_s hT 2 (i' := 83) (L' := [some (.ref 48), some (.ref 34), some (.ref 21), some (.ref 6), some (.ref 10), some (.ref 14), some (.int x6), some (.int (nI 0))]) (st' := [.int x6, .ref 48]) rfl ?_
                refine wp_puti hT rfl rfl ⟨by decide, by decide⟩ ?_
                have h := h _ rfl
                refine wp_s hT 2 (i' := 9) (L' := [some (.ref 48), some (.ref 34), some (.ref 21), some (.ref 6), some (.ref 10), some (.ref 14), some (.int (x6 + nI 1)), some (.int (nI 0))]) (st' := []) rfl ?_
                refine wp_le (L := [some (.ref 48), some (.ref 34), some (.ref 21), some (.ref 6), some (.ref 10), some (.ref 14), some (.int (x6 + nI 1)), none]) ⟨Or.inl rfl, Or.inl rfl, Or.inl rfl, Or.inl rfl, Or.inl rfl, Or.inl rfl, Or.inl rfl, Or.inr ⟨rfl, rfl⟩, trivial⟩ ?_
                exact h
            · have h := h.2 c
              refine wp_s hT 4 (i' := 68) (L' := [some (.ref 48), some (.ref 34), some (.ref 21), some (.ref 6), some (.ref 10), some (.ref 14), some (.int x6), some (.int (nI 0))]) (st' := [.ref 14, .ref 10, .ref 49]) rfl ?_
              refine wp_callv hT rfl rfl h (fun iv13 h => ?_)
              refine wp_s hT 3 (i' := 72) (L' := [some (.ref 48), some (.ref 34), some (.ref 21), some (.ref 6), some (.ref 10), some (.ref 14), some (.int x6), some (.int (nI 0))]) (st' := [.int (iv13 49 0)]) rfl ?_
              refine wp_if_eq hT rfl ⟨fun c => ?_, fun c => ?_⟩
              · have h := h.1 c
                refine wp_s hT 4 (i' := 79) (L' := [some (.ref 48), some (.ref 34), some (.ref 21), some (.ref 6), some (.ref 10), some (.ref 14), some (.int x6), some (.int (nI 0))]) (st' := [.int (nI 0), .ref 48]) rfl ?_
                refine wp_if_eq hT rfl ⟨fun c => ?_, fun c => ?_⟩
                · have h := h.1 c
                  refine wp_s hT 1 (i' := 83) (L' := [some (.ref 48), some (.ref 34), some (.ref 21), some (.ref 6), some (.ref 10), some (.ref 14), some (.int x6), some (.int (nI 0))]) (st' := [.int (nI 4294967295), .ref 48]) rfl ?_
                  refine wp_puti hT rfl rfl ⟨by decide, by decide⟩ ?_
                  have h := h _ rfl
                  refine wp_s hT 2 (i' := 9) (L' := [some (.ref 48), some (.ref 34), some (.ref 21), some (.ref 6), some (.ref 10), some (.ref 14), some (.int (x6 + nI 1)), some (.int (nI 0))]) (st' := []) rfl ?_
                  refine wp_le (L := [some (.ref 48), some (.ref 34), some (.ref 21), some (.ref 6), some (.ref 10), some (.ref 14), some (.int (x6 + nI 1)), none]) ⟨Or.inl rfl, Or.inl rfl, Or.inl rfl, Or.inl rfl, Or.inl rfl, Or.inl rfl, Or.inl rfl, Or.inr ⟨rfl, rfl⟩, trivial⟩ ?_
                  exact h
                · have h := h.2 c
                  refine wp_s hT 2 (i' := 83) (L' := [some (.ref 48), some (.ref 34), some (.ref 21), some (.ref 6), some (.ref 10), some (.ref 14), some (.int x6), some (.int (nI 0))]) (st' := [.int x6, .ref 48]) rfl ?_
                  refine wp_puti hT rfl rfl ⟨by decide, by decide⟩ ?_
                  have h := h _ rfl
                  refine wp_s hT 2 (i' := 9) (L' := [some (.ref 48), some (.ref 34), some (.ref 21), some (.ref 6), some (.ref 10), some (.ref 14), some (.int (x6 + nI 1)), some (.int (nI 0))]) (st' := []) rfl ?_
                  refine wp_le (L := [some (.ref 48), some (.ref 34), some (.ref 21), some (.ref 6), some (.ref 10), some (.ref 14), some (.int (x6 + nI 1)), none]) ⟨Or.inl rfl, Or.inl rfl, Or.inl rfl, Or.inl rfl, Or.inl rfl, Or.inl rfl, Or.inl rfl, Or.inr ⟨rfl, rfl⟩, trivial⟩ ?_
                  exact h
              · have h := h.2 c
                refine wp_s hT 5 (i' := 79) (L' := [some (.ref 48), some (.ref 34), some (.ref 21), some (.ref 6), some (.ref 10), some (.ref 14), some (.int x6), some (.int (nI 1))]) (st' := [.int (nI 1), .ref 48]) rfl ?_
                refine wp_if_eq hT rfl ⟨fun c => ?_, fun c => ?_⟩
                · have h := h.1 c
                  refine wp_s hT 1 (i' := 83) (L' := [some (.ref 48), some (.ref 34), some (.ref 21), some (.ref 6), some (.ref 10), some (.ref 14), some (.int x6), some (.int (nI 1))]) (st' := [.int (nI 4294967295), .ref 48]) rfl ?_
                  refine wp_puti hT rfl rfl ⟨by decide, by decide⟩ ?_
                  have h := h _ rfl
                  refine wp_s hT 2 (i' := 9) (L' := [some (.ref 48), some (.ref 34), some (.ref 21), some (.ref 6), some (.ref 10), some (.ref 14), some (.int (x6 + nI 1)), some (.int (nI 1))]) (st' := []) rfl ?_
                  refine wp_le (L := [some (.ref 48), some (.ref 34), some (.ref 21), some (.ref 6), some (.ref 10), some (.ref 14), some (.int (x6 + nI 1)), none]) ⟨Or.inl rfl, Or.inl rfl, Or.inl rfl, Or.inl rfl, Or.inl rfl, Or.inl rfl, Or.inl rfl, Or.inr ⟨rfl, rfl⟩, trivial⟩ ?_
                  exact h
                · have h := h.2 c
                  refine wp_s hT 2 (i' := 83) (L' := [some (.ref 48), some (.ref 34), some (.ref 21), some (.ref 6), some (.ref 10), some (.ref 14), some (.int x6), some (.int (nI 1))]) (st' := [.int x6, .ref 48]) rfl ?_
                  refine wp_puti hT rfl rfl ⟨by decide, by decide⟩ ?_
                  have h := h _ rfl
                  refine wp_s hT 2 (i' := 9) (L' := [some (.ref 48), some (.ref 34), some (.ref 21), some (.ref 6), some (.ref 10), some (.ref 14), some (.int (x6 + nI 1)), some (.int (nI 1))]) (st' := []) rfl ?_
                  refine wp_le (L := [some (.ref 48), some (.ref 34), some (.ref 21), some (.ref 6), some (.ref 10), some (.ref 14), some (.int (x6 + nI 1)), none]) ⟨Or.inl rfl, Or.inl rfl, Or.inl rfl, Or.inl rfl, Or.inl rfl, Or.inl rfl, Or.inl rfl, Or.inr ⟨rfl, rfl⟩, trivial⟩ ?_
                  exact h
        · have h := h.2 c
          refine wp_s hT 5 (i' := 41) (L' := [some (.ref 48), some (.ref 34), some (.ref 21), some (.ref 6), some (.ref 10), some (.ref 14), some (.int x6), some (.int (nI 0))]) (st' := [.int x6, .ref 11, .ref 34, .ref 48]) rfl ?_
          refine wp_iald hT rfl rfl ⟨h.1, ?_⟩
          have h := h.2
          refine wp_s hT 1 (i' := 43) (L' := [some (.ref 48), some (.ref 34), some (.ref 21), some (.ref 6), some (.ref 10), some (.ref 14), some (.int x6), some (.int (nI 0))]) (st' := [.ref 14, .int (iv3 11 x6.toNatClampNeg), .ref 34, .ref 48]) rfl ?_
          refine wp_calli hT rfl rfl h (fun r19 iv18 h => ?_)
          refine wp_s hT 4 (i' := 79) (L' := [some (.ref 48), some (.ref 34), some (.ref 21), some (.ref 6), some (.ref 10), some (.ref 14), some (.int x6), some (.int r19)]) (st' := [.int r19, .ref 48]) rfl ?_
          refine wp_if_eq hT rfl ⟨fun c => ?_, fun c => ?_⟩
          · have h := h.1 c
            refine wp_s hT 1 (i' := 83) (L' := [some (.ref 48), some (.ref 34), some (.ref 21), some (.ref 6), some (.ref 10), some (.ref 14), some (.int x6), some (.int r19)]) (st' := [.int (nI 4294967295), .ref 48]) rfl ?_
            refine wp_puti hT rfl rfl ⟨by decide, by decide⟩ ?_
            have h := h _ rfl
            refine wp_s hT 2 (i' := 9) (L' := [some (.ref 48), some (.ref 34), some (.ref 21), some (.ref 6), some (.ref 10), some (.ref 14), some (.int (x6 + nI 1)), some (.int r19)]) (st' := []) rfl ?_
            refine wp_le (L := [some (.ref 48), some (.ref 34), some (.ref 21), some (.ref 6), some (.ref 10), some (.ref 14), some (.int (x6 + nI 1)), none]) ⟨Or.inl rfl, Or.inl rfl, Or.inl rfl, Or.inl rfl, Or.inl rfl, Or.inl rfl, Or.inl rfl, Or.inr ⟨rfl, rfl⟩, trivial⟩ ?_
            exact h
          · have h := h.2 c
            refine wp_s hT 2 (i' := 83) (L' := [some (.ref 48), some (.ref 34), some (.ref 21), some (.ref 6), some (.ref 10), some (.ref 14), some (.int x6), some (.int r19)]) (st' := [.int x6, .ref 48]) rfl ?_
            refine wp_puti hT rfl rfl ⟨by decide, by decide⟩ ?_
            have h := h _ rfl
            refine wp_s hT 2 (i' := 9) (L' := [some (.ref 48), some (.ref 34), some (.ref 21), some (.ref 6), some (.ref 10), some (.ref 14), some (.int (x6 + nI 1)), some (.int r19)]) (st' := []) rfl ?_
            refine wp_le (L := [some (.ref 48), some (.ref 34), some (.ref 21), some (.ref 6), some (.ref 10), some (.ref 14), some (.int (x6 + nI 1)), none]) ⟨Or.inl rfl, Or.inl rfl, Or.inl rfl, Or.inl rfl, Or.inl rfl, Or.inl rfl, Or.inl rfl, Or.inr ⟨rfl, rfl⟩, trivial⟩ ?_
            exact h
    · have h := h.2 c
      exact wp_rv hT rfl rfl ⟨rfl, h⟩

theorem mk_X7_find {X : Nat × (Nat → Int32)}  {iv : IV} {P : IV → Prop}
    (h : ∀ iv1 : IV, iv1 = mm_up2 iv 48 0 (nI 4294967295) → ((iv1 34 0 = 0 → wp X (0, 0) 51 9 [some (.ref 48), some (.ref 34), some (.ref 21), some (.ref 6), some (.ref 10), some (.ref 14), some (.int (nI 0)), none] [] iv1 (Rv P)) ∧ (¬ (iv1 34 0 = 0) → P iv1))) :
    wc X 51 [.ref 48, .ref 34, .ref 21, .ref 6, .ref 10, .ref 14] iv (Rv P) := by
  have hT := tb_51
  show wp X (0, 0) 51 0 [some (.ref 48), some (.ref 34), some (.ref 21), some (.ref 6), some (.ref 10), some (.ref 14), none, none] [] iv (Rv P)
  refine wp_s hT 2 (i' := 2) (L' := [some (.ref 48), some (.ref 34), some (.ref 21), some (.ref 6), some (.ref 10), some (.ref 14), none, none]) (st' := [.int (nI 4294967295), .ref 48]) rfl ?_
  refine wp_puti hT rfl rfl ⟨by decide, by decide⟩ ?_
  have h := h _ rfl
  refine wp_s hT 2 (i' := 5) (L' := [some (.ref 48), some (.ref 34), some (.ref 21), some (.ref 6), some (.ref 10), some (.ref 14), none, none]) (st' := [.int ((mm_up2 iv 48 0 (nI 4294967295)) 34 0)]) rfl ?_
  refine wp_if_eq hT rfl ⟨fun c => ?_, fun c => ?_⟩
  · have h := h.1 c
    refine wp_s hT 2 (i' := 9) (L' := [some (.ref 48), some (.ref 34), some (.ref 21), some (.ref 6), some (.ref 10), some (.ref 14), some (.int (nI 0)), none]) (st' := []) rfl ?_
    exact h
  · have h := h.2 c
    exact wp_rv hT rfl rfl ⟨rfl, h⟩

theorem mk_X7_isFormatDot {X : Nat × (Nat → Int32)} {x0 : Int32} {iv : IV} {P : Int32 → IV → Prop}
    (h : (((x0 / (nI 15)) = (nI 3) → vp_in (x0 / (nI 15)) 15 ∧ wc X 115 [.int ((mm_S X 0).2 (x0 / (nI 15)).toNatClampNeg), .int (x0 - x0 / (nI 15) * (nI 15))] iv (Ri (fun r2 iv1 => ((r2 = 0 → P (nI 1) iv1) ∧ (¬ (r2 = 0) → P (nI 0) iv1))))) ∧ (¬ ((x0 / (nI 15)) = (nI 3)) → (((x0 / (nI 15)) = (nI 11) → vp_in (x0 / (nI 15)) 15 ∧ wc X 115 [.int ((mm_S X 0).2 (x0 / (nI 15)).toNatClampNeg), .int (x0 - x0 / (nI 15) * (nI 15))] iv (Ri (fun r4 iv3 => ((r4 = 0 → P (nI 1) iv3) ∧ (¬ (r4 = 0) → P (nI 0) iv3))))) ∧ (¬ ((x0 / (nI 15)) = (nI 11)) → P (nI 0) iv))))) :
    wc X 52 [.int x0] iv (Ri P) := by
  have hT := tb_52
  show wp X (0, 0) 52 0 [some (.int x0), none] [] iv (Ri P)
  refine wp_s hT 6 (i' := 6) (L' := [some (.int x0), some (.int (x0 / (nI 15)))]) (st' := [.int (nI 3), .int (x0 / (nI 15))]) rfl ?_
  refine wp_ic_eq hT rfl ⟨fun c => ?_, fun c => ?_⟩
  · have h := h.1 c
    refine wp_s hT 2 (i' := 12) (L' := [some (.int x0), some (.int (x0 / (nI 15)))]) (st' := [.int (x0 / (nI 15)), .ref 1000000]) rfl ?_
    refine wp_tald (a := 0) hT rfl rfl (by decide) ⟨h.1, ?_⟩
    have h := h.2
    refine wp_s hT 3 (i' := 16) (L' := [some (.int x0), some (.int (x0 / (nI 15)))]) (st' := [.int (x0 - x0 / (nI 15) * (nI 15)), .int ((mm_S X 0).2 (x0 / (nI 15)).toNatClampNeg)]) rfl ?_
    refine wp_calli hT rfl rfl h (fun r2 iv1 h => ?_)
    refine wp_if_ne hT rfl ⟨fun c => ?_, fun c => ?_⟩
    · have h := h.1 c
      refine wp_s hT 2 (i' := 21) (L' := [some (.int x0), some (.int (x0 / (nI 15)))]) (st' := [.int (nI 1)]) rfl ?_
      exact wp_rz hT rfl rfl ⟨Or.inr rfl, ⟨_, rfl, h⟩⟩
    · have h := h.2 c
      refine wp_s hT 1 (i' := 21) (L' := [some (.int x0), some (.int (x0 / (nI 15)))]) (st' := [.int (nI 0)]) rfl ?_
      exact wp_rz hT rfl rfl ⟨Or.inl rfl, ⟨_, rfl, h⟩⟩
  · have h := h.2 c
    refine wp_s hT 2 (i' := 9) (L' := [some (.int x0), some (.int (x0 / (nI 15)))]) (st' := [.int (nI 11), .int (x0 / (nI 15))]) rfl ?_
    refine wp_ic_ne hT rfl ⟨fun c => ?_, fun c => ?_⟩
    · have h := h.1 c
      refine wp_s hT 2 (i' := 12) (L' := [some (.int x0), some (.int (x0 / (nI 15)))]) (st' := [.int (x0 / (nI 15)), .ref 1000000]) rfl ?_
      refine wp_tald (a := 0) hT rfl rfl (by decide) ⟨h.1, ?_⟩
      have h := h.2
      refine wp_s hT 3 (i' := 16) (L' := [some (.int x0), some (.int (x0 / (nI 15)))]) (st' := [.int (x0 - x0 / (nI 15) * (nI 15)), .int ((mm_S X 0).2 (x0 / (nI 15)).toNatClampNeg)]) rfl ?_
      refine wp_calli hT rfl rfl h (fun r4 iv3 h => ?_)
      refine wp_if_ne hT rfl ⟨fun c => ?_, fun c => ?_⟩
      · have h := h.1 c
        refine wp_s hT 2 (i' := 21) (L' := [some (.int x0), some (.int (x0 / (nI 15)))]) (st' := [.int (nI 1)]) rfl ?_
        exact wp_rz hT rfl rfl ⟨Or.inr rfl, ⟨_, rfl, h⟩⟩
      · have h := h.2 c
        refine wp_s hT 1 (i' := 21) (L' := [some (.int x0), some (.int (x0 / (nI 15)))]) (st' := [.int (nI 0)]) rfl ?_
        exact wp_rz hT rfl rfl ⟨Or.inl rfl, ⟨_, rfl, h⟩⟩
    · have h := h.2 c
      refine wp_s hT 1 (i' := 21) (L' := [some (.int x0), some (.int (x0 / (nI 15)))]) (st' := [.int (nI 0)]) rfl ?_
      exact wp_rz hT rfl rfl ⟨Or.inl rfl, ⟨_, rfl, h⟩⟩

theorem mk_X7_spoilsBlock {X : Nat × (Nat → Int32)} {x2 : Int32} {iv : IV} {P : Int32 → IV → Prop}
    (h : vp_in ((x2 / (nI 4)) - (x2 / (nI 4)) / (nI 3) * (nI 3)) 3 ∧ ∀ a1 : Nat, a1 = rvT 35 ((x2 / (nI 4)) - (x2 / (nI 4)) / (nI 3) * (nI 3)).toNatClampNeg → ∀ v2 : Int32, v2 = (x2 / (nI 4)) / (nI 3) → kdT a1 = (10, 0) ∧ wc X 115 [.int (iv a1 2), .int v2] iv (Ri (fun r4 iv3 => ((r4 = (nI 1) → P (nI 0) iv3) ∧ (¬ (r4 = (nI 1)) → wc X 40 [.ref 34] iv3 (Ri (fun r6 iv5 => wc X 117 [.int r6] iv5 (Ri (fun r8 iv7 => kdT a1 = (10, 0) ∧ kdT (rvT a1 0) = (1, 14) ∧ vp_in v2 14 ∧ ∀ v9 : Int32, v9 = (iv7 (rvT a1 0) v2.toNatClampNeg) ^^^ ((nI 8) >>> ((x2 - x2 / (nI 4) * (nI 4)) &&& 31)) → kdT a1 = (10, 0) ∧ kdT a1 = (10, 0) ∧ kdT (rvT a1 1) = (1, 14) ∧ vp_in v2 14 ∧ wc X 54 [.int v9, .int (iv7 (rvT a1 1) v2.toNatClampNeg)] iv7 (Ri (fun r11 iv10 => kdT a1 = (10, 0) ∧ kdT (rvT a1 0) = (1, 14) ∧ vp_in v2 14 ∧ kdT a1 = (10, 0) ∧ kdT (rvT a1 1) = (1, 14) ∧ vp_in v2 14 ∧ wc X 54 [.int (iv10 (rvT a1 0) v2.toNatClampNeg), .int (iv10 (rvT a1 1) v2.toNatClampNeg)] iv10 (Ri (fun r13 iv12 => ∀ v14 : Int32, v14 = ((iv7 a1 3) + r11) - r13 → kdT a1 = (10, 0) ∧ wc X 1 [.ref a1, .int v14] iv12 (Ri (fun r16 iv15 => ((r8 < r16 → kdT a1 = (10, 0) ∧ kdT (rvT a1 0) = (1, 14) ∧ (¬ nI 0 < 0 ∧ ¬ nI 0 < 0 ∧ ¬ nI 14 < 0 ∧ (nI 0).toNatClampNeg + (nI 14).toNatClampNeg ≤ 14 ∧ (nI 0).toNatClampNeg + (nI 14).toNatClampNeg ≤ 14) ∧ (∀ iv17 : IV, iv17 = mm_row iv15 63 (va_cpy (iv15 (rvT a1 0)) (iv15 63) (nI 0).toNatClampNeg (nI 0).toNatClampNeg (nI 14).toNatClampNeg) → vp_in v2 14 ∧ (∀ iv18 : IV, iv18 = mm_up2 iv17 63 v2.toNatClampNeg v9 → kdT a1 = (10, 0) ∧ wc X 26 [.ref 14, .ref 63, .int (iv18 a1 2), .int r8, .ref 64] iv18 (Ri (fun r20 iv19 => ((r20 = (nI 4294967295) → P (nI 1) iv19) ∧ (¬ (r20 = (nI 4294967295)) → (((x2 / (nI 4)) - (x2 / (nI 4)) / (nI 3) * (nI 3) = 0 → wc X 40 [.ref 34] iv19 (Ri (fun r22 iv21 => vp_in (nI 0) 14 ∧ wc X 119 [.int r22, .int (iv21 64 (nI 0).toNatClampNeg)] iv21 (Ri (fun r24 iv23 => ((r24 = 0 → P (nI 1) iv23) ∧ (¬ (r24 = 0) → P (nI 0) iv23))))))) ∧ (¬ ((x2 / (nI 4)) - (x2 / (nI 4)) / (nI 3) * (nI 3) = 0) → P (nI 0) iv19))))))))) ∧ (¬ (r8 < r16) → P (nI 0) iv15))))))))))))))))) :
    wc X 53 [.ref 48, .ref 34, .int x2, .ref 14] iv (Ri P) := by
  have hT := tb_53
  show wp X (0, 0) 53 0 [some (.ref 48), some (.ref 34), some (.int x2), some (.ref 14), none, none, none, none, none, none] [] iv (Ri P)
  refine wp_s hT 9 (i' := 9) (L' := [some (.ref 48), some (.ref 34), some (.int x2), some (.ref 14), some (.int (x2 / (nI 4))), none, none, none, none, none]) (st' := [.int ((x2 / (nI 4)) - (x2 / (nI 4)) / (nI 3) * (nI 3)), .ref 35]) rfl ?_
  refine wp_aald hT rfl rfl ⟨by decide, by decide⟩ ⟨h.1, ?_⟩
  have h := h.2
  have h := h _ rfl
  refine wp_s hT 5 (i' := 15) (L' := [some (.ref 48), some (.ref 34), some (.int x2), some (.ref 14), some (.int (x2 / (nI 4))), some (.ref (rvT 35 ((x2 / (nI 4)) - (x2 / (nI 4)) / (nI 3) * (nI 3)).toNatClampNeg)), some (.int ((x2 / (nI 4)) / (nI 3))), none, none, none]) (st' := []) rfl ?_
  have h := h _ rfl
  refine wp_s hT 1 (i' := 16) (L' := [some (.ref 48), some (.ref 34), some (.int x2), some (.ref 14), some (.int (x2 / (nI 4))), some (.ref (rvT 35 ((x2 / (nI 4)) - (x2 / (nI 4)) / (nI 3) * (nI 3)).toNatClampNeg)), some (.int ((x2 / (nI 4)) / (nI 3))), none, none, none]) (st' := [.ref (rvT 35 ((x2 / (nI 4)) - (x2 / (nI 4)) / (nI 3) * (nI 3)).toNatClampNeg)]) rfl ?_
  refine wp_geti hT rfl h.1 ⟨by decide, by decide⟩ ?_
  have h := h.2
  refine wp_s hT 1 (i' := 18) (L' := [some (.ref 48), some (.ref 34), some (.int x2), some (.ref 14), some (.int (x2 / (nI 4))), some (.ref (rvT 35 ((x2 / (nI 4)) - (x2 / (nI 4)) / (nI 3) * (nI 3)).toNatClampNeg)), some (.int ((x2 / (nI 4)) / (nI 3))), none, none, none]) (st' := [.int ((x2 / (nI 4)) / (nI 3)), .int (iv (rvT 35 ((x2 / (nI 4)) - (x2 / (nI 4)) / (nI 3) * (nI 3)).toNatClampNeg) 2)]) rfl ?_
  refine wp_calli hT rfl rfl h (fun r4 iv3 h => ?_)
  refine wp_s hT 1 (i' := 20) (L' := [some (.ref 48), some (.ref 34), some (.int x2), some (.ref 14), some (.int (x2 / (nI 4))), some (.ref (rvT 35 ((x2 / (nI 4)) - (x2 / (nI 4)) / (nI 3) * (nI 3)).toNatClampNeg)), some (.int ((x2 / (nI 4)) / (nI 3))), none, none, none]) (st' := [.int (nI 1), .int r4]) rfl ?_
  refine wp_ic_ne hT rfl ⟨fun c => ?_, fun c => ?_⟩
  · have h := h.1 c
    refine wp_s hT 1 (i' := 22) (L' := [some (.ref 48), some (.ref 34), some (.int x2), some (.ref 14), some (.int (x2 / (nI 4))), some (.ref (rvT 35 ((x2 / (nI 4)) - (x2 / (nI 4)) / (nI 3) * (nI 3)).toNatClampNeg)), some (.int ((x2 / (nI 4)) / (nI 3))), none, none, none]) (st' := [.int (nI 0)]) rfl ?_
    exact wp_rz hT rfl rfl ⟨Or.inl rfl, ⟨_, rfl, h⟩⟩
  · have h := h.2 c
    refine wp_s hT 1 (i' := 24) (L' := [some (.ref 48), some (.ref 34), some (.int x2), some (.ref 14), some (.int (x2 / (nI 4))), some (.ref (rvT 35 ((x2 / (nI 4)) - (x2 / (nI 4)) / (nI 3) * (nI 3)).toNatClampNeg)), some (.int ((x2 / (nI 4)) / (nI 3))), none, none, none]) (st' := [.ref 34]) rfl ?_
    refine wp_calli hT rfl rfl h (fun r6 iv5 h => ?_)
    refine wp_calli hT rfl rfl h (fun r8 iv7 h => ?_)
    refine wp_s hT 2 (i' := 28) (L' := [some (.ref 48), some (.ref 34), some (.int x2), some (.ref 14), some (.int (x2 / (nI 4))), some (.ref (rvT 35 ((x2 / (nI 4)) - (x2 / (nI 4)) / (nI 3) * (nI 3)).toNatClampNeg)), some (.int ((x2 / (nI 4)) / (nI 3))), some (.int r8), none, none]) (st' := [.ref (rvT 35 ((x2 / (nI 4)) - (x2 / (nI 4)) / (nI 3) * (nI 3)).toNatClampNeg)]) rfl ?_
    refine wp_getr hT rfl h.1 ⟨by decide, by decide⟩ ?_
    have h := h.2
    refine wp_s hT 1 (i' := 30) (L' := [some (.ref 48), some (.ref 34), some (.int x2), some (.ref 14), some (.int (x2 / (nI 4))), some (.ref (rvT 35 ((x2 / (nI 4)) - (x2 / (nI 4)) / (nI 3) * (nI 3)).toNatClampNeg)), some (.int ((x2 / (nI 4)) / (nI 3))), some (.int r8), none, none]) (st' := [.int ((x2 / (nI 4)) / (nI 3)), .ref (rvT (rvT 35 ((x2 / (nI 4)) - (x2 / (nI 4)) / (nI 3) * (nI 3)).toNatClampNeg) 0)]) rfl ?_
    refine wp_iald hT rfl h.1 ⟨h.2.1, ?_⟩
    have h := h.2.2
    refine wp_s hT 7 (i' := 38) (L' := [some (.ref 48), some (.ref 34), some (.int x2), some (.ref 14), some (.int (x2 / (nI 4))), some (.ref (rvT 35 ((x2 / (nI 4)) - (x2 / (nI 4)) / (nI 3) * (nI 3)).toNatClampNeg)), some (.int ((x2 / (nI 4)) / (nI 3))), some (.int r8), some (.int ((iv7 (rvT (rvT 35 ((x2 / (nI 4)) - (x2 / (nI 4)) / (nI 3) * (nI 3)).toNatClampNeg) 0) ((x2 / (nI 4)) / (nI 3)).toNatClampNeg) ^^^ ((nI 8) >>> ((x2 - x2 / (nI 4) * (nI 4)) &&& 31)))), none]) (st' := []) rfl ?_
    have h := h _ rfl
    refine wp_s hT 1 (i' := 39) (L' := [some (.ref 48), some (.ref 34), some (.int x2), some (.ref 14), some (.int (x2 / (nI 4))), some (.ref (rvT 35 ((x2 / (nI 4)) - (x2 / (nI 4)) / (nI 3) * (nI 3)).toNatClampNeg)), some (.int ((x2 / (nI 4)) / (nI 3))), some (.int r8), some (.int ((iv7 (rvT (rvT 35 ((x2 / (nI 4)) - (x2 / (nI 4)) / (nI 3) * (nI 3)).toNatClampNeg) 0) ((x2 / (nI 4)) / (nI 3)).toNatClampNeg) ^^^ ((nI 8) >>> ((x2 - x2 / (nI 4) * (nI 4)) &&& 31)))), none]) (st' := [.ref (rvT 35 ((x2 / (nI 4)) - (x2 / (nI 4)) / (nI 3) * (nI 3)).toNatClampNeg)]) rfl ?_
    refine wp_geti hT rfl h.1 ⟨by decide, by decide⟩ ?_
    have h := h.2
    refine wp_s hT 2 (i' := 42) (L' := [some (.ref 48), some (.ref 34), some (.int x2), some (.ref 14), some (.int (x2 / (nI 4))), some (.ref (rvT 35 ((x2 / (nI 4)) - (x2 / (nI 4)) / (nI 3) * (nI 3)).toNatClampNeg)), some (.int ((x2 / (nI 4)) / (nI 3))), some (.int r8), some (.int ((iv7 (rvT (rvT 35 ((x2 / (nI 4)) - (x2 / (nI 4)) / (nI 3) * (nI 3)).toNatClampNeg) 0) ((x2 / (nI 4)) / (nI 3)).toNatClampNeg) ^^^ ((nI 8) >>> ((x2 - x2 / (nI 4) * (nI 4)) &&& 31)))), none]) (st' := [.ref (rvT 35 ((x2 / (nI 4)) - (x2 / (nI 4)) / (nI 3) * (nI 3)).toNatClampNeg), .int ((iv7 (rvT (rvT 35 ((x2 / (nI 4)) - (x2 / (nI 4)) / (nI 3) * (nI 3)).toNatClampNeg) 0) ((x2 / (nI 4)) / (nI 3)).toNatClampNeg) ^^^ ((nI 8) >>> ((x2 - x2 / (nI 4) * (nI 4)) &&& 31))), .int (iv7 (rvT 35 ((x2 / (nI 4)) - (x2 / (nI 4)) / (nI 3) * (nI 3)).toNatClampNeg) 3)]) rfl ?_
    refine wp_getr hT rfl h.1 ⟨by decide, by decide⟩ ?_
    have h := h.2
    refine wp_s hT 1 (i' := 44) (L' := [some (.ref 48), some (.ref 34), some (.int x2), some (.ref 14), some (.int (x2 / (nI 4))), some (.ref (rvT 35 ((x2 / (nI 4)) - (x2 / (nI 4)) / (nI 3) * (nI 3)).toNatClampNeg)), some (.int ((x2 / (nI 4)) / (nI 3))), some (.int r8), some (.int ((iv7 (rvT (rvT 35 ((x2 / (nI 4)) - (x2 / (nI 4)) / (nI 3) * (nI 3)).toNatClampNeg) 0) ((x2 / (nI 4)) / (nI 3)).toNatClampNeg) ^^^ ((nI 8) >>> ((x2 - x2 / (nI 4) * (nI 4)) &&& 31)))), none]) (st' := [.int ((x2 / (nI 4)) / (nI 3)), .ref (rvT (rvT 35 ((x2 / (nI 4)) - (x2 / (nI 4)) / (nI 3) * (nI 3)).toNatClampNeg) 1), .int ((iv7 (rvT (rvT 35 ((x2 / (nI 4)) - (x2 / (nI 4)) / (nI 3) * (nI 3)).toNatClampNeg) 0) ((x2 / (nI 4)) / (nI 3)).toNatClampNeg) ^^^ ((nI 8) >>> ((x2 - x2 / (nI 4) * (nI 4)) &&& 31))), .int (iv7 (rvT 35 ((x2 / (nI 4)) - (x2 / (nI 4)) / (nI 3) * (nI 3)).toNatClampNeg) 3)]) rfl ?_
    refine wp_iald hT rfl h.1 ⟨h.2.1, ?_⟩
    have h := h.2.2
    refine wp_calli hT rfl rfl h (fun r11 iv10 h => ?_)
    refine wp_s hT 2 (i' := 48) (L' := [some (.ref 48), some (.ref 34), some (.int x2), some (.ref 14), some (.int (x2 / (nI 4))), some (.ref (rvT 35 ((x2 / (nI 4)) - (x2 / (nI 4)) / (nI 3) * (nI 3)).toNatClampNeg)), some (.int ((x2 / (nI 4)) / (nI 3))), some (.int r8), some (.int ((iv7 (rvT (rvT 35 ((x2 / (nI 4)) - (x2 / (nI 4)) / (nI 3) * (nI 3)).toNatClampNeg) 0) ((x2 / (nI 4)) / (nI 3)).toNatClampNeg) ^^^ ((nI 8) >>> ((x2 - x2 / (nI 4) * (nI 4)) &&& 31)))), none]) (st' := [.ref (rvT 35 ((x2 / (nI 4)) - (x2 / (nI 4)) / (nI 3) * (nI 3)).toNatClampNeg), .int ((iv7 (rvT 35 ((x2 / (nI 4)) - (x2 / (nI 4)) / (nI 3) * (nI 3)).toNatClampNeg) 3) + r11)]) rfl ?_
    refine wp_getr hT rfl h.1 ⟨by decide, by decide⟩ ?_
    have h := h.2
    refine wp_s hT 1 (i' := 50) (L' := [some (.ref 48), some (.ref 34), some (.int x2), some (.ref 14), some (.int (x2 / (nI 4))), some (.ref (rvT 35 ((x2 / (nI 4)) - (x2 / (nI 4)) / (nI 3) * (nI 3)).toNatClampNeg)), some (.int ((x2 / (nI 4)) / (nI 3))), some (.int r8), some (.int ((iv7 (rvT (rvT 35 ((x2 / (nI 4)) - (x2 / (nI 4)) / (nI 3) * (nI 3)).toNatClampNeg) 0) ((x2 / (nI 4)) / (nI 3)).toNatClampNeg) ^^^ ((nI 8) >>> ((x2 - x2 / (nI 4) * (nI 4)) &&& 31)))), none]) (st' := [.int ((x2 / (nI 4)) / (nI 3)), .ref (rvT (rvT 35 ((x2 / (nI 4)) - (x2 / (nI 4)) / (nI 3) * (nI 3)).toNatClampNeg) 0), .int ((iv7 (rvT 35 ((x2 / (nI 4)) - (x2 / (nI 4)) / (nI 3) * (nI 3)).toNatClampNeg) 3) + r11)]) rfl ?_
    refine wp_iald hT rfl h.1 ⟨h.2.1, ?_⟩
    have h := h.2.2
    refine wp_s hT 1 (i' := 52) (L' := [some (.ref 48), some (.ref 34), some (.int x2), some (.ref 14), some (.int (x2 / (nI 4))), some (.ref (rvT 35 ((x2 / (nI 4)) - (x2 / (nI 4)) / (nI 3) * (nI 3)).toNatClampNeg)), some (.int ((x2 / (nI 4)) / (nI 3))), some (.int r8), some (.int ((iv7 (rvT (rvT 35 ((x2 / (nI 4)) - (x2 / (nI 4)) / (nI 3) * (nI 3)).toNatClampNeg) 0) ((x2 / (nI 4)) / (nI 3)).toNatClampNeg) ^^^ ((nI 8) >>> ((x2 - x2 / (nI 4) * (nI 4)) &&& 31)))), none]) (st' := [.ref (rvT 35 ((x2 / (nI 4)) - (x2 / (nI 4)) / (nI 3) * (nI 3)).toNatClampNeg), .int (iv10 (rvT (rvT 35 ((x2 / (nI 4)) - (x2 / (nI 4)) / (nI 3) * (nI 3)).toNatClampNeg) 0) ((x2 / (nI 4)) / (nI 3)).toNatClampNeg), .int ((iv7 (rvT 35 ((x2 / (nI 4)) - (x2 / (nI 4)) / (nI 3) * (nI 3)).toNatClampNeg) 3) + r11)]) rfl ?_
    refine wp_getr hT rfl h.1 ⟨by decide, by decide⟩ ?_
    have h := h.2
    refine wp_s hT 1 (i' := 54) (L' := [some (.ref 48), some (.ref 34), some (.int x2), some (.ref 14), some (.int (x2 / (nI 4))), some (.ref (rvT 35 ((x2 / (nI 4)) - (x2 / (nI 4)) / (nI 3) * (nI 3)).toNatClampNeg)), some (.int ((x2 / (nI 4)) / (nI 3))), some (.int r8), some (.int ((iv7 (rvT (rvT 35 ((x2 / (nI 4)) - (x2 / (nI 4)) / (nI 3) * (nI 3)).toNatClampNeg) 0) ((x2 / (nI 4)) / (nI 3)).toNatClampNeg) ^^^ ((nI 8) >>> ((x2 - x2 / (nI 4) * (nI 4)) &&& 31)))), none]) (st' := [.int ((x2 / (nI 4)) / (nI 3)), .ref (rvT (rvT 35 ((x2 / (nI 4)) - (x2 / (nI 4)) / (nI 3) * (nI 3)).toNatClampNeg) 1), .int (iv10 (rvT (rvT 35 ((x2 / (nI 4)) - (x2 / (nI 4)) / (nI 3) * (nI 3)).toNatClampNeg) 0) ((x2 / (nI 4)) / (nI 3)).toNatClampNeg), .int ((iv7 (rvT 35 ((x2 / (nI 4)) - (x2 / (nI 4)) / (nI 3) * (nI 3)).toNatClampNeg) 3) + r11)]) rfl ?_
    refine wp_iald hT rfl h.1 ⟨h.2.1, ?_⟩
    have h := h.2.2
    refine wp_calli hT rfl rfl h (fun r13 iv12 h => ?_)
    refine wp_s hT 2 (i' := 58) (L' := [some (.ref 48), some (.ref 34), some (.int x2), some (.ref 14), some (.int (x2 / (nI 4))), some (.ref (rvT 35 ((x2 / (nI 4)) - (x2 / (nI 4)) / (nI 3) * (nI 3)).toNatClampNeg)), some (.int ((x2 / (nI 4)) / (nI 3))), some (.int r8), some (.int ((iv7 (rvT (rvT 35 ((x2 / (nI 4)) - (x2 / (nI 4)) / (nI 3) * (nI 3)).toNatClampNeg) 0) ((x2 / (nI 4)) / (nI 3)).toNatClampNeg) ^^^ ((nI 8) >>> ((x2 - x2 / (nI 4) * (nI 4)) &&& 31)))), some (.int (((iv7 (rvT 35 ((x2 / (nI 4)) - (x2 / (nI 4)) / (nI 3) * (nI 3)).toNatClampNeg) 3) + r11) - r13))]) (st' := []) rfl ?_
    have h := h _ rfl
    refine wp_s hT 2 (i' := 60) (L' := [some (.ref 48), some (.ref 34), some (.int x2), some (.ref 14), some (.int (x2 / (nI 4))), some (.ref (rvT 35 ((x2 / (nI 4)) - (x2 / (nI 4)) / (nI 3) * (nI 3)).toNatClampNeg)), some (.int ((x2 / (nI 4)) / (nI 3))), some (.int r8), some (.int ((iv7 (rvT (rvT 35 ((x2 / (nI 4)) - (x2 / (nI 4)) / (nI 3) * (nI 3)).toNatClampNeg) 0) ((x2 / (nI 4)) / (nI 3)).toNatClampNeg) ^^^ ((nI 8) >>> ((x2 - x2 / (nI 4) * (nI 4)) &&& 31)))), some (.int (((iv7 (rvT 35 ((x2 / (nI 4)) - (x2 / (nI 4)) / (nI 3) * (nI 3)).toNatClampNeg) 3) + r11) - r13))]) (st' := [.int (((iv7 (rvT 35 ((x2 / (nI 4)) - (x2 / (nI 4)) / (nI 3) * (nI 3)).toNatClampNeg) 3) + r11) - r13), .ref (rvT 35 ((x2 / (nI 4)) - (x2 / (nI 4)) / (nI 3) * (nI 3)).toNatClampNeg)]) rfl ?_
    refine wp_calli hT rfl (mm_cl_of (c6 := 0) (c7 := 0) (f5 := 0) (f6 := 0) rfl rfl rfl rfl rfl rfl h.1 rfl rfl (Nat.le_of_ble_eq_true rfl) (Nat.le_of_ble_eq_true rfl) (Nat.le_of_ble_eq_true rfl) (Nat.zero_le _) (Nat.zero_le _)) h.2 (fun r16 iv15 h => ?_)
    refine wp_s hT 1 (i' := 62) (L' := [some (.ref 48), some (.ref 34), some (.int x2), some (.ref 14), some (.int (x2 / (nI 4))), some (.ref (rvT 35 ((x2 / (nI 4)) - (x2 / (nI 4)) / (nI 3) * (nI 3)).toNatClampNeg)), some (.int ((x2 / (nI 4)) / (nI 3))), some (.int r8), some (.int ((iv7 (rvT (rvT 35 ((x2 / (nI 4)) - (x2 / (nI 4)) / (nI 3) * (nI 3)).toNatClampNeg) 0) ((x2 / (nI 4)) / (nI 3)).toNatClampNeg) ^^^ ((nI 8) >>> ((x2 - x2 / (nI 4) * (nI 4)) &&& 31)))), some (.int (((iv7 (rvT 35 ((x2 / (nI 4)) - (x2 / (nI 4)) / (nI 3) * (nI 3)).toNatClampNeg) 3) + r11) - r13))]) (st' := [.int r8, .int r16]) rfl ?_
    refine wp_ic_gt hT rfl ⟨fun c => ?_, fun c => ?_⟩
    · have h := h.1 c
      refine wp_s hT 1 (i' := 66) (L' := [some (.ref 48), some (.ref 34), some (.int x2), some (.ref 14), some (.int (x2 / (nI 4))), some (.ref (rvT 35 ((x2 / (nI 4)) - (x2 / (nI 4)) / (nI 3) * (nI 3)).toNatClampNeg)), some (.int ((x2 / (nI 4)) / (nI 3))), some (.int r8), some (.int ((iv7 (rvT (rvT 35 ((x2 / (nI 4)) - (x2 / (nI 4)) / (nI 3) * (nI 3)).toNatClampNeg) 0) ((x2 / (nI 4)) / (nI 3)).toNatClampNeg) ^^^ ((nI 8) >>> ((x2 - x2 / (nI 4) * (nI 4)) &&& 31)))), some (.int (((iv7 (rvT 35 ((x2 / (nI 4)) - (x2 / (nI 4)) / (nI 3) * (nI 3)).toNatClampNeg) 3) + r11) - r13))]) (st' := [.ref (rvT 35 ((x2 / (nI 4)) - (x2 / (nI 4)) / (nI 3) * (nI 3)).toNatClampNeg)]) rfl ?_
      refine wp_getr hT rfl h.1 ⟨by decide, by decide⟩ ?_
      have h := h.2
      refine wp_s hT 5 (i' := 72) (L' := [some (.ref 48), some (.ref 34), some (.int x2), some (.ref 14), some (.int (x2 / (nI 4))), some (.ref (rvT 35 ((x2 / (nI 4)) - (x2 / (nI 4)) / (nI 3) * (nI 3)).toNatClampNeg)), some (.int ((x2 / (nI 4)) / (nI 3))), some (.int r8), some (.int ((iv7 (rvT (rvT 35 ((x2 / (nI 4)) - (x2 / (nI 4)) / (nI 3) * (nI 3)).toNatClampNeg) 0) ((x2 / (nI 4)) / (nI 3)).toNatClampNeg) ^^^ ((nI 8) >>> ((x2 - x2 / (nI 4) * (nI 4)) &&& 31)))), some (.int (((iv7 (rvT 35 ((x2 / (nI 4)) - (x2 / (nI 4)) / (nI 3) * (nI 3)).toNatClampNeg) 3) + r11) - r13))]) (st' := [.int (nI 14), .int (nI 0), .ref 63, .int (nI 0), .ref (rvT (rvT 35 ((x2 / (nI 4)) - (x2 / (nI 4)) / (nI 3) * (nI 3)).toNatClampNeg) 0)]) rfl ?_
      refine wp_copy hT rfl rfl h.1 (Nat.le_of_ble_eq_true rfl) ⟨h.2.1, ?_⟩
      have h := h.2.2
      have h := h _ rfl
      refine wp_s hT 4 (i' := 77) (L' := [some (.ref 48), some (.ref 34), some (.int x2), some (.ref 14), some (.int (x2 / (nI 4))), some (.ref (rvT 35 ((x2 / (nI 4)) - (x2 / (nI 4)) / (nI 3) * (nI 3)).toNatClampNeg)), some (.int ((x2 / (nI 4)) / (nI 3))), some (.int r8), some (.int ((iv7 (rvT (rvT 35 ((x2 / (nI 4)) - (x2 / (nI 4)) / (nI 3) * (nI 3)).toNatClampNeg) 0) ((x2 / (nI 4)) / (nI 3)).toNatClampNeg) ^^^ ((nI 8) >>> ((x2 - x2 / (nI 4) * (nI 4)) &&& 31)))), some (.int (((iv7 (rvT 35 ((x2 / (nI 4)) - (x2 / (nI 4)) / (nI 3) * (nI 3)).toNatClampNeg) 3) + r11) - r13))]) (st' := [.int ((iv7 (rvT (rvT 35 ((x2 / (nI 4)) - (x2 / (nI 4)) / (nI 3) * (nI 3)).toNatClampNeg) 0) ((x2 / (nI 4)) / (nI 3)).toNatClampNeg) ^^^ ((nI 8) >>> ((x2 - x2 / (nI 4) * (nI 4)) &&& 31))), .int ((x2 / (nI 4)) / (nI 3)), .ref 63]) rfl ?_
      refine wp_iast hT rfl rfl ⟨h.1, ?_⟩
      have h := h.2
      have h := h _ rfl
      refine wp_s hT 4 (i' := 82) (L' := [some (.ref 48), some (.ref 34), some (.int x2), some (.ref 14), some (.int (x2 / (nI 4))), some (.ref (rvT 35 ((x2 / (nI 4)) - (x2 / (nI 4)) / (nI 3) * (nI 3)).toNatClampNeg)), some (.int ((x2 / (nI 4)) / (nI 3))), some (.int r8), some (.int ((iv7 (rvT (rvT 35 ((x2 / (nI 4)) - (x2 / (nI 4)) / (nI 3) * (nI 3)).toNatClampNeg) 0) ((x2 / (nI 4)) / (nI 3)).toNatClampNeg) ^^^ ((nI 8) >>> ((x2 - x2 / (nI 4) * (nI 4)) &&& 31)))), some (.int (((iv7 (rvT 35 ((x2 / (nI 4)) - (x2 / (nI 4)) / (nI 3) * (nI 3)).toNatClampNeg) 3) + r11) - r13))]) (st' := [.ref (rvT 35 ((x2 / (nI 4)) - (x2 / (nI 4)) / (nI 3) * (nI 3)).toNatClampNeg), .ref 63, .ref 14]) rfl ?_
      refine wp_geti hT rfl h.1 ⟨by decide, by decide⟩ ?_
      have h := h.2
      refine wp_s hT 3 (i' := 86) (L' := [some (.ref 48), some (.ref 34), some (.int x2), some (.ref 14), some (.int (x2 / (nI 4))), some (.ref (rvT 35 ((x2 / (nI 4)) - (x2 / (nI 4)) / (nI 3) * (nI 3)).toNatClampNeg)), some (.int ((x2 / (nI 4)) / (nI 3))), some (.int r8), some (.int ((iv7 (rvT (rvT 35 ((x2 / (nI 4)) - (x2 / (nI 4)) / (nI 3) * (nI 3)).toNatClampNeg) 0) ((x2 / (nI 4)) / (nI 3)).toNatClampNeg) ^^^ ((nI 8) >>> ((x2 - x2 / (nI 4) * (nI 4)) &&& 31)))), some (.int (((iv7 (rvT 35 ((x2 / (nI 4)) - (x2 / (nI 4)) / (nI 3) * (nI 3)).toNatClampNeg) 3) + r11) - r13))]) (st' := [.ref 64, .int r8, .int ((mm_up2 (mm_row iv15 63 (va_cpy (iv15 (rvT (rvT 35 ((x2 / (nI 4)) - (x2 / (nI 4)) / (nI 3) * (nI 3)).toNatClampNeg) 0)) (iv15 63) (nI 0).toNatClampNeg (nI 0).toNatClampNeg (nI 14).toNatClampNeg)) 63 ((x2 / (nI 4)) / (nI 3)).toNatClampNeg ((iv7 (rvT (rvT 35 ((x2 / (nI 4)) - (x2 / (nI 4)) / (nI 3) * (nI 3)).toNatClampNeg) 0) ((x2 / (nI 4)) / (nI 3)).toNatClampNeg) ^^^ ((nI 8) >>> ((x2 - x2 / (nI 4) * (nI 4)) &&& 31)))) (rvT 35 ((x2 / (nI 4)) - (x2 / (nI 4)) / (nI 3) * (nI 3)).toNatClampNeg) 2), .ref 63, .ref 14]) rfl ?_
      refine wp_calli hT rfl rfl h (fun r20 iv19 h => ?_)
      refine wp_s hT 1 (i' := 88) (L' := [some (.ref 48), some (.ref 34), some (.int x2), some (.ref 14), some (.int (x2 / (nI 4))), some (.ref (rvT 35 ((x2 / (nI 4)) - (x2 / (nI 4)) / (nI 3) * (nI 3)).toNatClampNeg)), some (.int ((x2 / (nI 4)) / (nI 3))), some (.int r8), some (.int ((iv7 (rvT (rvT 35 ((x2 / (nI 4)) - (x2 / (nI 4)) / (nI 3) * (nI 3)).toNatClampNeg) 0) ((x2 / (nI 4)) / (nI 3)).toNatClampNeg) ^^^ ((nI 8) >>> ((x2 - x2 / (nI 4) * (nI 4)) &&& 31)))), some (.int (((iv7 (rvT 35 ((x2 / (nI 4)) - (x2 / (nI 4)) / (nI 3) * (nI 3)).toNatClampNeg) 3) + r11) - r13))]) (st' := [.int (nI 4294967295), .int r20]) rfl ?_
      refine wp_ic_ne hT rfl ⟨fun c => ?_, fun c => ?_⟩
      · have h := h.1 c
        refine wp_s hT 1 (i' := 90) (L' := [some (.ref 48), some (.ref 34), some (.int x2), some (.ref 14), some (.int (x2 / (nI 4))), some (.ref (rvT 35 ((x2 / (nI 4)) - (x2 / (nI 4)) / (nI 3) * (nI 3)).toNatClampNeg)), some (.int ((x2 / (nI 4)) / (nI 3))), some (.int r8), some (.int ((iv7 (rvT (rvT 35 ((x2 / (nI 4)) - (x2 / (nI 4)) / (nI 3) * (nI 3)).toNatClampNeg) 0) ((x2 / (nI 4)) / (nI 3)).toNatClampNeg) ^^^ ((nI 8) >>> ((x2 - x2 / (nI 4) * (nI 4)) &&& 31)))), some (.int (((iv7 (rvT 35 ((x2 / (nI 4)) - (x2 / (nI 4)) / (nI 3) * (nI 3)).toNatClampNeg) 3) + r11) - r13))]) (st' := [.int (nI 1)]) rfl ?_
        exact wp_rz hT rfl rfl ⟨Or.inr rfl, ⟨_, rfl, h⟩⟩
      · have h := h.2 c
        refine wp_s hT 3 (i' := 94) (L' := [some (.ref 48), some (.ref 34), some (.int x2), some (.ref 14), some (.int (x2 / (nI 4))), some (.ref (rvT 35 ((x2 / (nI 4)) - (x2 / (nI 4)) / (nI 3) * (nI 3)).toNatClampNeg)), some (.int ((x2 / (nI 4)) / (nI 3))), some (.int r8), some (.int ((iv7 (rvT (rvT 35 ((x2 / (nI 4)) - (x2 / (nI 4)) / (nI 3) * (nI 3)).toNatClampNeg) 0) ((x2 / (nI 4)) / (nI 3)).toNatClampNeg) ^^^ ((nI 8) >>> ((x2 - x2 / (nI 4) * (nI 4)) &&& 31)))), some (.int (((iv7 (rvT 35 ((x2 / (nI 4)) - (x2 / (nI 4)) / (nI 3) * (nI 3)).toNatClampNeg) 3) + r11) - r13))]) (st' := [.int ((x2 / (nI 4)) - (x2 / (nI 4)) / (nI 3) * (nI 3))]) rfl ?_
        refine wp_if_ne hT rfl ⟨fun c => ?_, fun c => ?_⟩
        · have h := h.1 c
          refine wp_s hT 1 (i' := 96) (L' := [some (.ref 48), some (.ref 34), some (.int x2), some (.ref 14), some (.int (x2 / (nI 4))), some (.ref (rvT 35 ((x2 / (nI 4)) - (x2 / (nI 4)) / (nI 3) * (nI 3)).toNatClampNeg)), some (.int ((x2 / (nI 4)) / (nI 3))), some (.int r8), some (.int ((iv7 (rvT (rvT 35 ((x2 / (nI 4)) - (x2 / (nI 4)) / (nI 3) * (nI 3)).toNatClampNeg) 0) ((x2 / (nI 4)) / (nI 3)).toNatClampNeg) ^^^ ((nI 8) >>> ((x2 - x2 / (nI 4) * (nI 4)) &&& 31)))), some (.int (((iv7 (rvT 35 ((x2 / (nI 4)) - (x2 / (nI 4)) / (nI 3) * (nI 3)).toNatClampNeg) 3) + r11) - r13))]) (st' := [.ref 34]) rfl ?_
          refine wp_calli hT rfl rfl h (fun r22 iv21 h => ?_)
          refine wp_s hT 3 (i' := 100) (L' := [some (.ref 48), some (.ref 34), some (.int x2), some (.ref 14), some (.int (x2 / (nI 4))), some (.ref (rvT 35 ((x2 / (nI 4)) - (x2 / (nI 4)) / (nI 3) * (nI 3)).toNatClampNeg)), some (.int ((x2 / (nI 4)) / (nI 3))), some (.int r8), some (.int ((iv7 (rvT (rvT 35 ((x2 / (nI 4)) - (x2 / (nI 4)) / (nI 3) * (nI 3)).toNatClampNeg) 0) ((x2 / (nI 4)) / (nI 3)).toNatClampNeg) ^^^ ((nI 8) >>> ((x2 - x2 / (nI 4) * (nI 4)) &&& 31)))), some (.int (((iv7 (rvT 35 ((x2 / (nI 4)) - (x2 / (nI 4)) / (nI 3) * (nI 3)).toNatClampNeg) 3) + r11) - r13))]) (st' := [.int (nI 0), .ref 64, .int r22]) rfl ?_
          refine wp_iald hT rfl rfl ⟨h.1, ?_⟩
          have h := h.2
          refine wp_calli hT rfl rfl h (fun r24 iv23 h => ?_)
          refine wp_if_ne hT rfl ⟨fun c => ?_, fun c => ?_⟩
          · have h := h.1 c
            refine wp_s hT 2 (i' := 106) (L' := [some (.ref 48), some (.ref 34), some (.int x2), some (.ref 14), some (.int (x2 / (nI 4))), some (.ref (rvT 35 ((x2 / (nI 4)) - (x2 / (nI 4)) / (nI 3) * (nI 3)).toNatClampNeg)), some (.int ((x2 / (nI 4)) / (nI 3))), some (.int r8), some (.int ((iv7 (rvT (rvT 35 ((x2 / (nI 4)) - (x2 / (nI 4)) / (nI 3) * (nI 3)).toNatClampNeg) 0) ((x2 / (nI 4)) / (nI 3)).toNatClampNeg) ^^^ ((nI 8) >>> ((x2 - x2 / (nI 4) * (nI 4)) &&& 31)))), some (.int (((iv7 (rvT 35 ((x2 / (nI 4)) - (x2 / (nI 4)) / (nI 3) * (nI 3)).toNatClampNeg) 3) + r11) - r13))]) (st' := [.int (nI 1)]) rfl ?_
            exact wp_rz hT rfl rfl ⟨Or.inr rfl, ⟨_, rfl, h⟩⟩
          · have h := h.2 c
            refine wp_s hT 1 (i' := 106) (L' := [some (.ref 48), some (.ref 34), some (.int x2), some (.ref 14), some (.int (x2 / (nI 4))), some (.ref (rvT 35 ((x2 / (nI 4)) - (x2 / (nI 4)) / (nI 3) * (nI 3)).toNatClampNeg)), some (.int ((x2 / (nI 4)) / (nI 3))), some (.int r8), some (.int ((iv7 (rvT (rvT 35 ((x2 / (nI 4)) - (x2 / (nI 4)) / (nI 3) * (nI 3)).toNatClampNeg) 0) ((x2 / (nI 4)) / (nI 3)).toNatClampNeg) ^^^ ((nI 8) >>> ((x2 - x2 / (nI 4) * (nI 4)) &&& 31)))), some (.int (((iv7 (rvT 35 ((x2 / (nI 4)) - (x2 / (nI 4)) / (nI 3) * (nI 3)).toNatClampNeg) 3) + r11) - r13))]) (st' := [.int (nI 0)]) rfl ?_
            exact wp_rz hT rfl rfl ⟨Or.inl rfl, ⟨_, rfl, h⟩⟩
        · have h := h.2 c
          refine wp_s hT 1 (i' := 106) (L' := [some (.ref 48), some (.ref 34), some (.int x2), some (.ref 14), some (.int (x2 / (nI 4))), some (.ref (rvT 35 ((x2 / (nI 4)) - (x2 / (nI 4)) / (nI 3) * (nI 3)).toNatClampNeg)), some (.int ((x2 / (nI 4)) / (nI 3))), some (.int r8), some (.int ((iv7 (rvT (rvT 35 ((x2 / (nI 4)) - (x2 / (nI 4)) / (nI 3) * (nI 3)).toNatClampNeg) 0) ((x2 / (nI 4)) / (nI 3)).toNatClampNeg) ^^^ ((nI 8) >>> ((x2 - x2 / (nI 4) * (nI 4)) &&& 31)))), some (.int (((iv7 (rvT 35 ((x2 / (nI 4)) - (x2 / (nI 4)) / (nI 3) * (nI 3)).toNatClampNeg) 3) + r11) - r13))]) (st' := [.int (nI 0)]) rfl ?_
          exact wp_rz hT rfl rfl ⟨Or.inl rfl, ⟨_, rfl, h⟩⟩
    · have h := h.2 c
      refine wp_s hT 1 (i' := 64) (L' := [some (.ref 48), some (.ref 34), some (.int x2), some (.ref 14), some (.int (x2 / (nI 4))), some (.ref (rvT 35 ((x2 / (nI 4)) - (x2 / (nI 4)) / (nI 3) * (nI 3)).toNatClampNeg)), some (.int ((x2 / (nI 4)) / (nI 3))), some (.int r8), some (.int ((iv7 (rvT (rvT 35 ((x2 / (nI 4)) - (x2 / (nI 4)) / (nI 3) * (nI 3)).toNatClampNeg) 0) ((x2 / (nI 4)) / (nI 3)).toNatClampNeg) ^^^ ((nI 8) >>> ((x2 - x2 / (nI 4) * (nI 4)) &&& 31)))), some (.int (((iv7 (rvT 35 ((x2 / (nI 4)) - (x2 / (nI 4)) / (nI 3) * (nI 3)).toNatClampNeg) 3) + r11) - r13))]) (st' := [.int (nI 0)]) rfl ?_
      exact wp_rz hT rfl rfl ⟨Or.inl rfl, ⟨_, rfl, h⟩⟩

theorem mk_X7_differs {X : Nat × (Nat → Int32)} {x0 : Int32} {x1 : Int32} {iv : IV} {P : Int32 → IV → Prop}
    (h : ((x0 = x1 → P (nI 0) iv) ∧ (¬ (x0 = x1) → P (nI 1) iv))) :
    wc X 54 [.int x0, .int x1] iv (Ri P) := by
  have hT := tb_54
  show wp X (0, 0) 54 0 [some (.int x0), some (.int x1)] [] iv (Ri P)
  refine wp_s hT 2 (i' := 2) (L' := [some (.int x0), some (.int x1)]) (st' := [.int x1, .int x0]) rfl ?_
  refine wp_ic_ne hT rfl ⟨fun c => ?_, fun c => ?_⟩
  · have h := h.1 c
    refine wp_s hT 2 (i' := 6) (L' := [some (.int x0), some (.int x1)]) (st' := [.int (nI 0)]) rfl ?_
    exact wp_ri hT rfl rfl ⟨_, rfl, h⟩
  · have h := h.2 c
    refine wp_s hT 1 (i' := 6) (L' := [some (.int x0), some (.int x1)]) (st' := [.int (nI 1)]) rfl ?_
    exact wp_ri hT rfl rfl ⟨_, rfl, h⟩

theorem mk_X8_isFull {X : Nat × (Nat → Int32)} {r0 : Nat} {iv : IV} {P : Int32 → IV → Prop} (k0 : kdT r0 = (17, 0))
    (h : (((iv r0 2) < (iv r0 1) → P (nI 0) iv) ∧ (¬ ((iv r0 2) < (iv r0 1)) → P (nI 1) iv))) :
    wc X 56 [.ref r0] iv (Ri P) := by
  have hT := tb_56
  show wp X (0, 0) 56 0 [some (.ref r0)] [] iv (Ri P)
  refine wp_s hT 1 (i' := 1) (L' := [some (.ref r0)]) (st' := [.ref r0]) rfl ?_
  refine wp_geti hT rfl k0 ⟨by decide, by decide⟩ ?_
  refine wp_s hT 1 (i' := 3) (L' := [some (.ref r0)]) (st' := [.ref r0, .int (iv r0 2)]) rfl ?_
  refine wp_geti hT rfl k0 ⟨by decide, by decide⟩ ?_
  refine wp_ic_lt hT rfl ⟨fun c => ?_, fun c => ?_⟩
  · have h := h.1 c
    refine wp_s hT 1 (i' := 8) (L' := [some (.ref r0)]) (st' := [.int (nI 0)]) rfl ?_
    exact wp_rz hT rfl rfl ⟨Or.inl rfl, ⟨_, rfl, h⟩⟩
  · have h := h.2 c
    refine wp_s hT 2 (i' := 8) (L' := [some (.ref r0)]) (st' := [.int (nI 1)]) rfl ?_
    exact wp_rz hT rfl rfl ⟨Or.inr rfl, ⟨_, rfl, h⟩⟩

theorem mk_X8_append {X : Nat × (Nat → Int32)} {r0 : Nat} {x1 : Int32} {iv : IV} {P : IV → Prop} (k0 : kdT r0 = (17, 0)) (k1 : kdT (rvT r0 0) = (1, 14))
    (h : (((iv r0 1) ≤ (iv r0 2) → P iv) ∧ (¬ ((iv r0 1) ≤ (iv r0 2)) → vp_in (iv r0 2) 14 ∧ (∀ iv1 : IV, iv1 = mm_up2 iv (rvT r0 0) (iv r0 2).toNatClampNeg x1 → ∀ iv2 : IV, iv2 = mm_up2 iv1 r0 2 ((iv1 r0 2) + (nI 1)) → P iv2)))) :
    wc X 57 [.ref r0, .int x1] iv (Rv P) := by
  have hT := tb_57
  show wp X (0, 0) 57 0 [some (.ref r0), some (.int x1)] [] iv (Rv P)
  refine wp_s hT 1 (i' := 1) (L' := [some (.ref r0), some (.int x1)]) (st' := [.ref r0]) rfl ?_
  refine wp_geti hT rfl k0 ⟨by decide, by decide⟩ ?_
  refine wp_s hT 1 (i' := 3) (L' := [some (.ref r0), some (.int x1)]) (st' := [.ref r0, .int (iv r0 2)]) rfl ?_
  refine wp_geti hT rfl k0 ⟨by decide, by decide⟩ ?_
  refine wp_ic_ge hT rfl ⟨fun c => ?_, fun c => ?_⟩
  · have h := h.1 c
    exact wp_rv hT rfl rfl ⟨rfl, h⟩
  · have h := h.2 c
    refine wp_s hT 1 (i' := 6) (L' := [some (.ref r0), some (.int x1)]) (st' := [.ref r0]) rfl ?_
    refine wp_getr hT rfl k0 ⟨by decide, by decide⟩ ?_
    refine wp_s hT 1 (i' := 8) (L' := [some (.ref r0), some (.int x1)]) (st' := [.ref r0, .ref (rvT r0 0)]) rfl ?_
    refine wp_geti hT rfl k0 ⟨by decide, by decide⟩ ?_
    refine wp_s hT 1 (i' := 10) (L' := [some (.ref r0), some (.int x1)]) (st' := [.int x1, .int (iv r0 2), .ref (rvT r0 0)]) rfl ?_
    refine wp_iast hT rfl k1 ⟨h.1, ?_⟩
    have h := h.2
    have h := h _ rfl
    refine wp_s hT 2 (i' := 13) (L' := [some (.ref r0), some (.int x1)]) (st' := [.ref r0, .ref r0]) rfl ?_
    refine wp_geti hT rfl k0 ⟨by decide, by decide⟩ ?_
    refine wp_s hT 2 (i' := 16) (L' := [some (.ref r0), some (.int x1)]) (st' := [.int (((mm_up2 iv (rvT r0 0) (iv r0 2).toNatClampNeg x1) r0 2) + (nI 1)), .ref r0]) rfl ?_
    refine wp_puti hT rfl k0 ⟨by decide, by decide⟩ ?_
    have h := h _ rfl
    exact wp_rv hT rfl rfl ⟨rfl, h⟩

theorem mk_X8_byteAt {X : Nat × (Nat → Int32)} {r0 : Nat} {x1 : Int32} {iv : IV} {P : Int32 → IV → Prop} (k0 : kdT r0 = (17, 0)) (k1 : kdT (rvT r0 0) = (1, 14))
    (h : ((x1 < 0 → P (nI 0) iv) ∧ (¬ (x1 < 0) → (((iv r0 2) ≤ x1 → P (nI 0) iv) ∧ (¬ ((iv r0 2) ≤ x1) → vp_in x1 14 ∧ P (iv (rvT r0 0) x1.toNatClampNeg) iv))))) :
    wc X 58 [.ref r0, .int x1] iv (Ri P) := by
  have hT := tb_58
  show wp X (0, 0) 58 0 [some (.ref r0), some (.int x1)] [] iv (Ri P)
  refine wp_s hT 1 (i' := 1) (L' := [some (.ref r0), some (.int x1)]) (st' := [.int x1]) rfl ?_
  refine wp_if_lt hT rfl ⟨fun c => ?_, fun c => ?_⟩
  · have h := h.1 c
    refine wp_s hT 1 (i' := 12) (L' := [some (.ref r0), some (.int x1)]) (st' := [.int (nI 0)]) rfl ?_
    exact wp_ri hT rfl rfl ⟨_, rfl, h⟩
  · have h := h.2 c
    refine wp_s hT 2 (i' := 4) (L' := [some (.ref r0), some (.int x1)]) (st' := [.ref r0, .int x1]) rfl ?_
    refine wp_geti hT rfl k0 ⟨by decide, by decide⟩ ?_
    refine wp_ic_ge hT rfl ⟨fun c => ?_, fun c => ?_⟩
    · have h := h.1 c
      refine wp_s hT 1 (i' := 12) (L' := [some (.ref r0), some (.int x1)]) (st' := [.int (nI 0)]) rfl ?_
      exact wp_ri hT rfl rfl ⟨_, rfl, h⟩
    · have h := h.2 c
      refine wp_s hT 1 (i' := 7) (L' := [some (.ref r0), some (.int x1)]) (st' := [.ref r0]) rfl ?_
      refine wp_getr hT rfl k0 ⟨by decide, by decide⟩ ?_
      refine wp_s hT 1 (i' := 9) (L' := [some (.ref r0), some (.int x1)]) (st' := [.int x1, .ref (rvT r0 0)]) rfl ?_
      refine wp_iald hT rfl k1 ⟨h.1, ?_⟩
      have h := h.2
      refine wp_s hT 1 (i' := 12) (L' := [some (.ref r0), some (.int x1)]) (st' := [.int (iv (rvT r0 0) x1.toNatClampNeg)]) rfl ?_
      exact wp_ri hT rfl rfl ⟨_, rfl, h⟩

theorem mk_X8_faultAsLevel_2 {X : Nat × (Nat → Int32)} {r0 : Nat} {x1 : Int32} {iv : IV} {P : Int32 → IV → Prop} (k0 : kdT r0 = (17, 0))
    (h : (((iv r0 2) ≤ x1 → ((iv r0 2 ≤ 0 → P (nI 4294967295) iv) ∧ (¬ (iv r0 2 ≤ 0) → (((nI 3) ≤ (iv r0 2) → P (nI 4294967295) iv) ∧ (¬ ((nI 3) ≤ (iv r0 2)) → P (iv r0 2) iv))))) ∧ (¬ ((iv r0 2) ≤ x1) → wc X 61 [.ref r0, .int (x1 + (nI 1))] iv (Ri (fun r2 iv1 => ((r2 = (nI 4294967295) → P x1 iv1) ∧ (¬ (r2 = (nI 4294967295)) → wp X (0, 0) 59 2 [some (.ref r0), some (.int (x1 + nI 1))] [] iv1 (Ri P)))))))) :
    wp X (0, 0) 59 2 [some (.ref r0), some (.int x1)] [] iv (Ri P) := by
  have hT := tb_59
  refine wp_s hT 2 (i' := 4) (L' := [some (.ref r0), some (.int x1)]) (st' := [.ref r0, .int x1]) rfl ?_
  refine wp_geti hT rfl k0 ⟨by decide, by decide⟩ ?_
  refine wp_ic_ge hT rfl ⟨fun c => ?_, fun c => ?_⟩
  · have h := h.1 c
    refine wp_s hT 1 (i' := 18) (L' := [some (.ref r0), some (.int x1)]) (st' := [.ref r0]) rfl ?_
    refine wp_geti hT rfl k0 ⟨by decide, by decide⟩ ?_
    refine wp_if_le hT rfl ⟨fun c => ?_, fun c => ?_⟩
    · have h := h.1 c
      refine wp_s hT 1 (i' := 28) (L' := [some (.ref r0), some (.int x1)]) (st' := [.int (nI 4294967295)]) rfl ?_
      exact wp_ri hT rfl rfl ⟨_, rfl, h⟩
    · have h := h.2 c
      refine wp_s hT 1 (i' := 21) (L' := [some (.ref r0), some (.int x1)]) (st' := [.ref r0]) rfl ?_
      refine wp_geti hT rfl k0 ⟨by decide, by decide⟩ ?_
      refine wp_s hT 1 (i' := 23) (L' := [some (.ref r0), some (.int x1)]) (st' := [.int (nI 3), .int (iv r0 2)]) rfl ?_
      refine wp_ic_ge hT rfl ⟨fun c => ?_, fun c => ?_⟩
      · have h := h.1 c
        refine wp_s hT 1 (i' := 28) (L' := [some (.ref r0), some (.int x1)]) (st' := [.int (nI 4294967295)]) rfl ?_
        exact wp_ri hT rfl rfl ⟨_, rfl, h⟩
      · have h := h.2 c
        refine wp_s hT 1 (i' := 25) (L' := [some (.ref r0), some (.int x1)]) (st' := [.ref r0]) rfl ?_
        refine wp_geti hT rfl k0 ⟨by decide, by decide⟩ ?_
        refine wp_s hT 1 (i' := 28) (L' := [some (.ref r0), some (.int x1)]) (st' := [.int (iv r0 2)]) rfl ?_
        exact wp_ri hT rfl rfl ⟨_, rfl, h⟩
  · have h := h.2 c
    refine wp_s hT 4 (i' := 10) (L' := [some (.ref r0), some (.int x1)]) (st' := [.int (x1 + (nI 1)), .ref r0]) rfl ?_
    refine wp_calli hT rfl (mm_cl_of (c6 := 0) (c7 := 0) (f5 := 0) (f6 := 0) rfl rfl rfl rfl rfl rfl k0 rfl rfl (Nat.le_of_ble_eq_true rfl) (Nat.le_of_ble_eq_true rfl) (Nat.le_of_ble_eq_true rfl) (Nat.zero_le _) (Nat.zero_le _)) h (fun r2 iv1 h => ?_)
    refine wp_s hT 1 (i' := 12) (L' := [some (.ref r0), some (.int x1)]) (st' := [.int (nI 4294967295), .int r2]) rfl ?_
    refine wp_ic_ne hT rfl ⟨fun c => ?_, fun c => ?_⟩
    · have h := h.1 c
      refine wp_s hT 1 (i' := 14) (L' := [some (.ref r0), some (.int x1)]) (st' := [.int x1]) rfl ?_
      exact wp_ri hT rfl rfl ⟨_, rfl, h⟩
    · have h := h.2 c
      refine wp_s hT 2 (i' := 2) (L' := [some (.ref r0), some (.int (x1 + nI 1))]) (st' := []) rfl ?_
      exact h

theorem mk_X8_faultAsLevel {X : Nat × (Nat → Int32)} {r0 : Nat} {iv : IV} {P : Int32 → IV → Prop}
    (h : wp X (0, 0) 59 2 [some (.ref r0), some (.int (nI 0))] [] iv (Ri P)) :
    wc X 59 [.ref r0] iv (Ri P) := by
  have hT := tb_59
  show wp X (0, 0) 59 0 [some (.ref r0), none] [] iv (Ri P)
  refine wp_s hT 2 (i' := 2) (L' := [some (.ref r0), some (.int (nI 0))]) (st' := []) rfl ?_
  exact h

theorem mk_X8_asLevel {X : Nat × (Nat → Int32)} {r0 : Nat} {iv : IV} {P : Int32 → IV → Prop} (k0 : kdT r0 = (17, 0))
    (h : (((iv r0 2) = (nI 3) → wc X 61 [.ref r0, .int (nI 3)] iv (Ri (fun r2 iv1 => wc X 223 [.int r2, .int (nI 0)] iv1 (Ri (fun r4 iv3 => P r4 iv3))))) ∧ (¬ ((iv r0 2) = (nI 3)) → wc X 223 [.int (nI 4294967295), .int (nI 0)] iv (Ri (fun r6 iv5 => P r6 iv5))))) :
    wc X 60 [.ref r0] iv (Ri P) := by
  have hT := tb_60
  show wp X (0, 0) 60 0 [some (.ref r0), none] [] iv (Ri P)
  refine wp_s hT 1 (i' := 1) (L' := [some (.ref r0), none]) (st' := [.ref r0]) rfl ?_
  refine wp_geti hT rfl k0 ⟨by decide, by decide⟩ ?_
  refine wp_s hT 1 (i' := 3) (L' := [some (.ref r0), none]) (st' := [.int (nI 3), .int (iv r0 2)]) rfl ?_
  refine wp_ic_ne hT rfl ⟨fun c => ?_, fun c => ?_⟩
  · have h := h.1 c
    refine wp_s hT 2 (i' := 6) (L' := [some (.ref r0), none]) (st' := [.int (nI 3), .ref r0]) rfl ?_
    refine wp_calli hT rfl (mm_cl_of (c6 := 0) (c7 := 0) (f5 := 0) (f6 := 0) rfl rfl rfl rfl rfl rfl k0 rfl rfl (Nat.le_of_ble_eq_true rfl) (Nat.le_of_ble_eq_true rfl) (Nat.le_of_ble_eq_true rfl) (Nat.zero_le _) (Nat.zero_le _)) h (fun r2 iv1 h => ?_)
    refine wp_s hT 4 (i' := 12) (L' := [some (.ref r0), some (.int r2)]) (st' := [.int (nI 0), .int r2]) rfl ?_
    refine wp_calli hT rfl rfl h (fun r4 iv3 h => ?_)
    exact wp_ri hT rfl rfl ⟨_, rfl, h⟩
  · have h := h.2 c
    refine wp_s hT 4 (i' := 12) (L' := [some (.ref r0), some (.int (nI 4294967295))]) (st' := [.int (nI 0), .int (nI 4294967295)]) rfl ?_
    refine wp_calli hT rfl rfl h (fun r6 iv5 h => ?_)
    exact wp_ri hT rfl rfl ⟨_, rfl, h⟩

theorem mk_X8_levelBegunBy_7 {X : Nat × (Nat → Int32)} {r0 : Nat} {x1 : Int32} {x2 : Int32} {x3 : Int32} {iv : IV} {P : Int32 → IV → Prop} (k0 : kdT r0 = (17, 0))
    (h : ((x1 ≤ x3 → ((x3 = x1 → P x2 iv) ∧ (¬ (x3 = x1) → wp X (0, 0) 61 2 [some (.ref r0), some (.int x1), some (.int (x2 + nI 1)), none] [] iv (Ri P)))) ∧ (¬ (x1 ≤ x3) → (((nI 3) ≤ x3 → ((x3 = x1 → P x2 iv) ∧ (¬ (x3 = x1) → wp X (0, 0) 61 2 [some (.ref r0), some (.int x1), some (.int (x2 + nI 1)), none] [] iv (Ri P)))) ∧ (¬ ((nI 3) ≤ x3) → vp_in (((nI 3) * x2) + x3) 9 ∧ wc X 58 [.ref r0, .int x3] iv (Ri (fun r2 iv1 => (((nI (mm_tx.getD (((nI 3) * x2) + x3).toNatClampNeg 0)) = r2 → wp X (0, 0) 61 7 [some (.ref r0), some (.int x1), some (.int x2), some (.int (x3 + nI 1))] [] iv1 (Ri P)) ∧ (¬ ((nI (mm_tx.getD (((nI 3) * x2) + x3).toNatClampNeg 0)) = r2) → ((x3 = x1 → P x2 iv1) ∧ (¬ (x3 = x1) → wp X (0, 0) 61 2 [some (.ref r0), some (.int x1), some (.int (x2 + nI 1)), none] [] iv1 (Ri P)))))))))))) :
    wp X (0, 0) 61 7 [some (.ref r0), some (.int x1), some (.int x2), some (.int x3)] [] iv (Ri P) := by
  have hT := tb_61
  refine wp_s hT 2 (i' := 9) (L' := [some (.ref r0), some (.int x1), some (.int x2), some (.int x3)]) (st' := [.int x1, .int x3]) rfl ?_
  refine wp_ic_ge hT rfl ⟨fun c => ?_, fun c => ?_⟩
  · have h := h.1 c
    refine wp_s hT 2 (i' := 28) (L' := [some (.ref r0), some (.int x1), some (.int x2), some (.int x3)]) (st' := [.int x1, .int x3]) rfl ?_
    refine wp_ic_ne hT rfl ⟨fun c => ?_, fun c => ?_⟩
    · have h := h.1 c
      refine wp_s hT 1 (i' := 30) (L' := [some (.ref r0), some (.int x1), some (.int x2), some (.int x3)]) (st' := [.int x2]) rfl ?_
      exact wp_ri hT rfl rfl ⟨_, rfl, h⟩
    · have h := h.2 c
      refine wp_s hT 2 (i' := 2) (L' := [some (.ref r0), some (.int x1), some (.int (x2 + nI 1)), some (.int x3)]) (st' := []) rfl ?_
      refine wp_le (L := [some (.ref r0), some (.int x1), some (.int (x2 + nI 1)), none]) ⟨Or.inl rfl, Or.inl rfl, Or.inl rfl, Or.inr ⟨rfl, rfl⟩, trivial⟩ ?_
      exact h
  · have h := h.2 c
    refine wp_s hT 2 (i' := 12) (L' := [some (.ref r0), some (.int x1), some (.int x2), some (.int x3)]) (st' := [.int (nI 3), .int x3]) rfl ?_
    refine wp_ic_ge hT rfl ⟨fun c => ?_, fun c => ?_⟩
    · have h := h.1 c
      refine wp_s hT 2 (i' := 28) (L' := [some (.ref r0), some (.int x1), some (.int x2), some (.int x3)]) (st' := [.int x1, .int x3]) rfl ?_
      refine wp_ic_ne hT rfl ⟨fun c => ?_, fun c => ?_⟩
      · have h := h.1 c
        refine wp_s hT 1 (i' := 30) (L' := [some (.ref r0), some (.int x1), some (.int x2), some (.int x3)]) (st' := [.int x2]) rfl ?_
        exact wp_ri hT rfl rfl ⟨_, rfl, h⟩
      · have h := h.2 c
        refine wp_s hT 2 (i' := 2) (L' := [some (.ref r0), some (.int x1), some (.int (x2 + nI 1)), some (.int x3)]) (st' := []) rfl ?_
        refine wp_le (L := [some (.ref r0), some (.int x1), some (.int (x2 + nI 1)), none]) ⟨Or.inl rfl, Or.inl rfl, Or.inl rfl, Or.inr ⟨rfl, rfl⟩, trivial⟩ ?_
        exact h
    · have h := h.2 c
      refine wp_s hT 6 (i' := 19) (L' := [some (.ref r0), some (.int x1), some (.int x2), some (.int x3)]) (st' := [.int (((nI 3) * x2) + x3), .ref 1000005]) rfl ?_
      refine wp_char hT rfl (Nat.le_of_ble_eq_true rfl) ⟨h.1, ?_⟩
      have h := h.2
      refine wp_s hT 2 (i' := 22) (L' := [some (.ref r0), some (.int x1), some (.int x2), some (.int x3)]) (st' := [.int x3, .ref r0, .int (nI (mm_tx.getD (((nI 3) * x2) + x3).toNatClampNeg 0))]) rfl ?_
      refine wp_calli hT rfl (mm_cl_of (c6 := 0) (c7 := 0) (f5 := 0) (f6 := 0) rfl rfl rfl rfl rfl rfl k0 rfl rfl (Nat.le_of_ble_eq_true rfl) (Nat.le_of_ble_eq_true rfl) (Nat.le_of_ble_eq_true rfl) (Nat.zero_le _) (Nat.zero_le _)) h (fun r2 iv1 h => ?_)
      refine wp_ic_ne hT rfl ⟨fun c => ?_, fun c => ?_⟩
      · have h := h.1 c
        refine wp_s hT 2 (i' := 7) (L' := [some (.ref r0), some (.int x1), some (.int x2), some (.int (x3 + nI 1))]) (st' := []) rfl ?_
        exact h
      · have h := h.2 c
        refine wp_s hT 2 (i' := 28) (L' := [some (.ref r0), some (.int x1), some (.int x2), some (.int x3)]) (st' := [.int x1, .int x3]) rfl ?_
        refine wp_ic_ne hT rfl ⟨fun c => ?_, fun c => ?_⟩
        · have h := h.1 c
          refine wp_s hT 1 (i' := 30) (L' := [some (.ref r0), some (.int x1), some (.int x2), some (.int x3)]) (st' := [.int x2]) rfl ?_
          exact wp_ri hT rfl rfl ⟨_, rfl, h⟩
        · have h := h.2 c
          refine wp_s hT 2 (i' := 2) (L' := [some (.ref r0), some (.int x1), some (.int (x2 + nI 1)), some (.int x3)]) (st' := []) rfl ?_
          refine wp_le (L := [some (.ref r0), some (.int x1), some (.int (x2 + nI 1)), none]) ⟨Or.inl rfl, Or.inl rfl, Or.inl rfl, Or.inr ⟨rfl, rfl⟩, trivial⟩ ?_
          exact h

theorem mk_X8_levelBegunBy_2 {X : Nat × (Nat → Int32)} {r0 : Nat} {x1 : Int32} {x2 : Int32} {iv : IV} {P : Int32 → IV → Prop}
    (h : (((nI 3) ≤ x2 → P (nI 4294967295) iv) ∧ (¬ ((nI 3) ≤ x2) → wp X (0, 0) 61 7 [some (.ref r0), some (.int x1), some (.int x2), some (.int (nI 0))] [] iv (Ri P)))) :
    wp X (0, 0) 61 2 [some (.ref r0), some (.int x1), some (.int x2), none] [] iv (Ri P) := by
  have hT := tb_61
  refine wp_s hT 2 (i' := 4) (L' := [some (.ref r0), some (.int x1), some (.int x2), none]) (st' := [.int (nI 3), .int x2]) rfl ?_
  refine wp_ic_ge hT rfl ⟨fun c => ?_, fun c => ?_⟩
  · have h := h.1 c
    refine wp_s hT 1 (i' := 34) (L' := [some (.ref r0), some (.int x1), some (.int x2), none]) (st' := [.int (nI 4294967295)]) rfl ?_
    exact wp_ri hT rfl rfl ⟨_, rfl, h⟩
  · have h := h.2 c
    refine wp_s hT 2 (i' := 7) (L' := [some (.ref r0), some (.int x1), some (.int x2), some (.int (nI 0))]) (st' := []) rfl ?_
    exact h

theorem mk_X8_levelBegunBy {X : Nat × (Nat → Int32)} {r0 : Nat} {x1 : Int32} {iv : IV} {P : Int32 → IV → Prop}
    (h : wp X (0, 0) 61 2 [some (.ref r0), some (.int x1), some (.int (nI 0)), none] [] iv (Ri P)) :
    wc X 61 [.ref r0, .int x1] iv (Ri P) := by
  have hT := tb_61
  show wp X (0, 0) 61 0 [some (.ref r0), some (.int x1), none, none] [] iv (Ri P)
  refine wp_s hT 2 (i' := 2) (L' := [some (.ref r0), some (.int x1), some (.int (nI 0)), none]) (st' := []) rfl ?_
  exact h

theorem mk_X9_symbolAt {X : Nat × (Nat → Int32)} {x1 : Int32} {iv : IV} {P : Int32 → IV → Prop}
    (h : vp_in x1 225 ∧ ∀ v1 : Int32, v1 = iv 11 x1.toNatClampNeg → ((v1 = (nI 4294967295) → P (nI 4294967295) iv) ∧ (¬ (v1 = (nI 4294967295)) → (((nI 168) ≤ v1 → P (nI 4294967295) iv) ∧ (¬ ((nI 168) ≤ v1) → P (v1 / (nI 4)) iv))))) :
    wc X 63 [.ref 10, .int x1] iv (Ri P) := by
  have hT := tb_63
  show wp X (0, 0) 63 0 [some (.ref 10), some (.int x1), none] [] iv (Ri P)
  refine wp_s hT 3 (i' := 3) (L' := [some (.ref 10), some (.int x1), none]) (st' := [.int x1, .ref 11]) rfl ?_
  refine wp_iald hT rfl rfl ⟨h.1, ?_⟩
  have h := h.2
  refine wp_s hT 1 (i' := 5) (L' := [some (.ref 10), some (.int x1), some (.int (iv 11 x1.toNatClampNeg))]) (st' := []) rfl ?_
  have h := h _ rfl
  refine wp_s hT 2 (i' := 7) (L' := [some (.ref 10), some (.int x1), some (.int (iv 11 x1.toNatClampNeg))]) (st' := [.int (nI 4294967295), .int (iv 11 x1.toNatClampNeg)]) rfl ?_
  refine wp_ic_eq hT rfl ⟨fun c => ?_, fun c => ?_⟩
  · have h := h.1 c
    refine wp_s hT 1 (i' := 16) (L' := [some (.ref 10), some (.int x1), some (.int (iv 11 x1.toNatClampNeg))]) (st' := [.int (nI 4294967295)]) rfl ?_
    exact wp_ri hT rfl rfl ⟨_, rfl, h⟩
  · have h := h.2 c
    refine wp_s hT 2 (i' := 10) (L' := [some (.ref 10), some (.int x1), some (.int (iv 11 x1.toNatClampNeg))]) (st' := [.int (nI 168), .int (iv 11 x1.toNatClampNeg)]) rfl ?_
    refine wp_ic_ge hT rfl ⟨fun c => ?_, fun c => ?_⟩
    · have h := h.1 c
      refine wp_s hT 1 (i' := 16) (L' := [some (.ref 10), some (.int x1), some (.int (iv 11 x1.toNatClampNeg))]) (st' := [.int (nI 4294967295)]) rfl ?_
      exact wp_ri hT rfl rfl ⟨_, rfl, h⟩
    · have h := h.2 c
      refine wp_s hT 4 (i' := 16) (L' := [some (.ref 10), some (.int x1), some (.int (iv 11 x1.toNatClampNeg))]) (st' := [.int ((iv 11 x1.toNatClampNeg) / (nI 4))]) rfl ?_
      exact wp_ri hT rfl rfl ⟨_, rfl, h⟩

theorem mk_J6_bitCount_0f7a4 {X : Nat × (Nat → Int32)} {x0 : Int32} {iv : IV} {P : Int32 → IV → Prop}
    (h : ∀ v1 : Int32, v1 = x0 - (((x0.toUInt32 >>> ((nI 1).toUInt32 &&& Int32.toUInt32 31)).toInt32) &&& (nI 1431655765)) → ∀ v2 : Int32, v2 = (v1 &&& (nI 858993459)) + (((v1.toUInt32 >>> ((nI 2).toUInt32 &&& Int32.toUInt32 31)).toInt32) &&& (nI 858993459)) → ∀ v3 : Int32, v3 = (v2 + ((v2.toUInt32 >>> ((nI 4).toUInt32 &&& Int32.toUInt32 31)).toInt32)) &&& (nI 252645135) → ∀ v4 : Int32, v4 = v3 + ((v3.toUInt32 >>> ((nI 8).toUInt32 &&& Int32.toUInt32 31)).toInt32) → ∀ v5 : Int32, v5 = v4 + ((v4.toUInt32 >>> ((nI 16).toUInt32 &&& Int32.toUInt32 31)).toInt32) → P (v5 &&& (nI 63)) iv) :
    wc X 220 [.int x0] iv (Ri P) := by
  have hT := tb_220
  show wp X (0, 0) 220 0 [some (.int x0)] [] iv (Ri P)
  refine wp_s hT 8 (i' := 8) (L' := [some (.int (x0 - (((x0.toUInt32 >>> ((nI 1).toUInt32 &&& Int32.toUInt32 31)).toInt32) &&& (nI 1431655765))))]) (st' := []) rfl ?_
  have h := h _ rfl
  refine wp_s hT 10 (i' := 18) (L' := [some (.int (((x0 - (((x0.toUInt32 >>> ((nI 1).toUInt32 &&& Int32.toUInt32 31)).toInt32) &&& (nI 1431655765))) &&& (nI 858993459)) + ((((x0 - (((x0.toUInt32 >>> ((nI 1).toUInt32 &&& Int32.toUInt32 31)).toInt32) &&& (nI 1431655765))).toUInt32 >>> ((nI 2).toUInt32 &&& Int32.toUInt32 31)).toInt32) &&& (nI 858993459))))]) (st' := []) rfl ?_
  have h := h _ rfl
  refine wp_s hT 8 (i' := 26) (L' := [some (.int (((((x0 - (((x0.toUInt32 >>> ((nI 1).toUInt32 &&& Int32.toUInt32 31)).toInt32) &&& (nI 1431655765))) &&& (nI 858993459)) + ((((x0 - (((x0.toUInt32 >>> ((nI 1).toUInt32 &&& Int32.toUInt32 31)).toInt32) &&& (nI 1431655765))).toUInt32 >>> ((nI 2).toUInt32 &&& Int32.toUInt32 31)).toInt32) &&& (nI 858993459))) + (((((x0 - (((x0.toUInt32 >>> ((nI 1).toUInt32 &&& Int32.toUInt32 31)).toInt32) &&& (nI 1431655765))) &&& (nI 858993459)) + ((((x0 - (((x0.toUInt32 >>> ((nI 1).toUInt32 &&& Int32.toUInt32 31)).toInt32) &&& (nI 1431655765))).toUInt32 >>> ((nI 2).toUInt32 &&& Int32.toUInt32 31)).toInt32) &&& (nI 858993459))).toUInt32 >>> ((nI 4).toUInt32 &&& Int32.toUInt32 31)).toInt32)) &&& (nI 252645135)))]) (st' := []) rfl ?_
  have h := h _ rfl
  refine wp_s hT 6 (i' := 32) (L' := [some (.int ((((((x0 - (((x0.toUInt32 >>> ((nI 1).toUInt32 &&& Int32.toUInt32 31)).toInt32) &&& (nI 1431655765))) &&& (nI 858993459)) + ((((x0 - (((x0.toUInt32 >>> ((nI 1).toUInt32 &&& Int32.toUInt32 31)).toInt32) &&& (nI 1431655765))).toUInt32 >>> ((nI 2).toUInt32 &&& Int32.toUInt32 31)).toInt32) &&& (nI 858993459))) + (((((x0 - (((x0.toUInt32 >>> ((nI 1).toUInt32 &&& Int32.toUInt32 31)).toInt32) &&& (nI 1431655765))) &&& (nI 858993459)) + ((((x0 - (((x0.toUInt32 >>> ((nI 1).toUInt32 &&& Int32.toUInt32 31)).toInt32) &&& (nI 1431655765))).toUInt32 >>> ((nI 2).toUInt32 &&& Int32.toUInt32 31)).toInt32) &&& (nI 858993459))).toUInt32 >>> ((nI 4).toUInt32 &&& Int32.toUInt32 31)).toInt32)) &&& (nI 252645135)) + (((((((x0 - (((x0.toUInt32 >>> ((nI 1).toUInt32 &&& Int32.toUInt32 31)).toInt32) &&& (nI 1431655765))) &&& (nI 858993459)) + ((((x0 - (((x0.toUInt32 >>> ((nI 1).toUInt32 &&& Int32.toUInt32 31)).toInt32) &&& (nI 1431655765))).toUInt32 >>> ((nI 2).toUInt32 &&& Int32.toUInt32 31)).toInt32) &&& (nI 858993459))) + (((((x0 - (((x0.toUInt32 >>> ((nI 1).toUInt32 &&& Int32.toUInt32 31)).toInt32) &&& (nI 1431655765))) &&& (nI 858993459)) + ((((x0 - (((x0.toUInt32 >>> ((nI 1).toUInt32 &&& Int32.toUInt32 31)).toInt32) &&& (nI 1431655765))).toUInt32 >>> ((nI 2).toUInt32 &&& Int32.toUInt32 31)).toInt32) &&& (nI 858993459))).toUInt32 >>> ((nI 4).toUInt32 &&& Int32.toUInt32 31)).toInt32)) &&& (nI 252645135)).toUInt32 >>> ((nI 8).toUInt32 &&& Int32.toUInt32 31)).toInt32)))]) (st' := []) rfl ?_
  have h := h _ rfl
  refine wp_s hT 6 (i' := 38) (L' := [some (.int (((((((x0 - (((x0.toUInt32 >>> ((nI 1).toUInt32 &&& Int32.toUInt32 31)).toInt32) &&& (nI 1431655765))) &&& (nI 858993459)) + ((((x0 - (((x0.toUInt32 >>> ((nI 1).toUInt32 &&& Int32.toUInt32 31)).toInt32) &&& (nI 1431655765))).toUInt32 >>> ((nI 2).toUInt32 &&& Int32.toUInt32 31)).toInt32) &&& (nI 858993459))) + (((((x0 - (((x0.toUInt32 >>> ((nI 1).toUInt32 &&& Int32.toUInt32 31)).toInt32) &&& (nI 1431655765))) &&& (nI 858993459)) + ((((x0 - (((x0.toUInt32 >>> ((nI 1).toUInt32 &&& Int32.toUInt32 31)).toInt32) &&& (nI 1431655765))).toUInt32 >>> ((nI 2).toUInt32 &&& Int32.toUInt32 31)).toInt32) &&& (nI 858993459))).toUInt32 >>> ((nI 4).toUInt32 &&& Int32.toUInt32 31)).toInt32)) &&& (nI 252645135)) + (((((((x0 - (((x0.toUInt32 >>> ((nI 1).toUInt32 &&& Int32.toUInt32 31)).toInt32) &&& (nI 1431655765))) &&& (nI 858993459)) + ((((x0 - (((x0.toUInt32 >>> ((nI 1).toUInt32 &&& Int32.toUInt32 31)).toInt32) &&& (nI 1431655765))).toUInt32 >>> ((nI 2).toUInt32 &&& Int32.toUInt32 31)).toInt32) &&& (nI 858993459))) + (((((x0 - (((x0.toUInt32 >>> ((nI 1).toUInt32 &&& Int32.toUInt32 31)).toInt32) &&& (nI 1431655765))) &&& (nI 858993459)) + ((((x0 - (((x0.toUInt32 >>> ((nI 1).toUInt32 &&& Int32.toUInt32 31)).toInt32) &&& (nI 1431655765))).toUInt32 >>> ((nI 2).toUInt32 &&& Int32.toUInt32 31)).toInt32) &&& (nI 858993459))).toUInt32 >>> ((nI 4).toUInt32 &&& Int32.toUInt32 31)).toInt32)) &&& (nI 252645135)).toUInt32 >>> ((nI 8).toUInt32 &&& Int32.toUInt32 31)).toInt32)) + ((((((((x0 - (((x0.toUInt32 >>> ((nI 1).toUInt32 &&& Int32.toUInt32 31)).toInt32) &&& (nI 1431655765))) &&& (nI 858993459)) + ((((x0 - (((x0.toUInt32 >>> ((nI 1).toUInt32 &&& Int32.toUInt32 31)).toInt32) &&& (nI 1431655765))).toUInt32 >>> ((nI 2).toUInt32 &&& Int32.toUInt32 31)).toInt32) &&& (nI 858993459))) + (((((x0 - (((x0.toUInt32 >>> ((nI 1).toUInt32 &&& Int32.toUInt32 31)).toInt32) &&& (nI 1431655765))) &&& (nI 858993459)) + ((((x0 - (((x0.toUInt32 >>> ((nI 1).toUInt32 &&& Int32.toUInt32 31)).toInt32) &&& (nI 1431655765))).toUInt32 >>> ((nI 2).toUInt32 &&& Int32.toUInt32 31)).toInt32) &&& (nI 858993459))).toUInt32 >>> ((nI 4).toUInt32 &&& Int32.toUInt32 31)).toInt32)) &&& (nI 252645135)) + (((((((x0 - (((x0.toUInt32 >>> ((nI 1).toUInt32 &&& Int32.toUInt32 31)).toInt32) &&& (nI 1431655765))) &&& (nI 858993459)) + ((((x0 - (((x0.toUInt32 >>> ((nI 1).toUInt32 &&& Int32.toUInt32 31)).toInt32) &&& (nI 1431655765))).toUInt32 >>> ((nI 2).toUInt32 &&& Int32.toUInt32 31)).toInt32) &&& (nI 858993459))) + (((((x0 - (((x0.toUInt32 >>> ((nI 1).toUInt32 &&& Int32.toUInt32 31)).toInt32) &&& (nI 1431655765))) &&& (nI 858993459)) + ((((x0 - (((x0.toUInt32 >>> ((nI 1).toUInt32 &&& Int32.toUInt32 31)).toInt32) &&& (nI 1431655765))).toUInt32 >>> ((nI 2).toUInt32 &&& Int32.toUInt32 31)).toInt32) &&& (nI 858993459))).toUInt32 >>> ((nI 4).toUInt32 &&& Int32.toUInt32 31)).toInt32)) &&& (nI 252645135)).toUInt32 >>> ((nI 8).toUInt32 &&& Int32.toUInt32 31)).toInt32)).toUInt32 >>> ((nI 16).toUInt32 &&& Int32.toUInt32 31)).toInt32)))]) (st' := []) rfl ?_
  have h := h _ rfl
  refine wp_s hT 3 (i' := 41) (L' := [some (.int (((((((x0 - (((x0.toUInt32 >>> ((nI 1).toUInt32 &&& Int32.toUInt32 31)).toInt32) &&& (nI 1431655765))) &&& (nI 858993459)) + ((((x0 - (((x0.toUInt32 >>> ((nI 1).toUInt32 &&& Int32.toUInt32 31)).toInt32) &&& (nI 1431655765))).toUInt32 >>> ((nI 2).toUInt32 &&& Int32.toUInt32 31)).toInt32) &&& (nI 858993459))) + (((((x0 - (((x0.toUInt32 >>> ((nI 1).toUInt32 &&& Int32.toUInt32 31)).toInt32) &&& (nI 1431655765))) &&& (nI 858993459)) + ((((x0 - (((x0.toUInt32 >>> ((nI 1).toUInt32 &&& Int32.toUInt32 31)).toInt32) &&& (nI 1431655765))).toUInt32 >>> ((nI 2).toUInt32 &&& Int32.toUInt32 31)).toInt32) &&& (nI 858993459))).toUInt32 >>> ((nI 4).toUInt32 &&& Int32.toUInt32 31)).toInt32)) &&& (nI 252645135)) + (((((((x0 - (((x0.toUInt32 >>> ((nI 1).toUInt32 &&& Int32.toUInt32 31)).toInt32) &&& (nI 1431655765))) &&& (nI 858993459)) + ((((x0 - (((x0.toUInt32 >>> ((nI 1).toUInt32 &&& Int32.toUInt32 31)).toInt32) &&& (nI 1431655765))).toUInt32 >>> ((nI 2).toUInt32 &&& Int32.toUInt32 31)).toInt32) &&& (nI 858993459))) + (((((x0 - (((x0.toUInt32 >>> ((nI 1).toUInt32 &&& Int32.toUInt32 31)).toInt32) &&& (nI 1431655765))) &&& (nI 858993459)) + ((((x0 - (((x0.toUInt32 >>> ((nI 1).toUInt32 &&& Int32.toUInt32 31)).toInt32) &&& (nI 1431655765))).toUInt32 >>> ((nI 2).toUInt32 &&& Int32.toUInt32 31)).toInt32) &&& (nI 858993459))).toUInt32 >>> ((nI 4).toUInt32 &&& Int32.toUInt32 31)).toInt32)) &&& (nI 252645135)).toUInt32 >>> ((nI 8).toUInt32 &&& Int32.toUInt32 31)).toInt32)) + ((((((((x0 - (((x0.toUInt32 >>> ((nI 1).toUInt32 &&& Int32.toUInt32 31)).toInt32) &&& (nI 1431655765))) &&& (nI 858993459)) + ((((x0 - (((x0.toUInt32 >>> ((nI 1).toUInt32 &&& Int32.toUInt32 31)).toInt32) &&& (nI 1431655765))).toUInt32 >>> ((nI 2).toUInt32 &&& Int32.toUInt32 31)).toInt32) &&& (nI 858993459))) + (((((x0 - (((x0.toUInt32 >>> ((nI 1).toUInt32 &&& Int32.toUInt32 31)).toInt32) &&& (nI 1431655765))) &&& (nI 858993459)) + ((((x0 - (((x0.toUInt32 >>> ((nI 1).toUInt32 &&& Int32.toUInt32 31)).toInt32) &&& (nI 1431655765))).toUInt32 >>> ((nI 2).toUInt32 &&& Int32.toUInt32 31)).toInt32) &&& (nI 858993459))).toUInt32 >>> ((nI 4).toUInt32 &&& Int32.toUInt32 31)).toInt32)) &&& (nI 252645135)) + (((((((x0 - (((x0.toUInt32 >>> ((nI 1).toUInt32 &&& Int32.toUInt32 31)).toInt32) &&& (nI 1431655765))) &&& (nI 858993459)) + ((((x0 - (((x0.toUInt32 >>> ((nI 1).toUInt32 &&& Int32.toUInt32 31)).toInt32) &&& (nI 1431655765))).toUInt32 >>> ((nI 2).toUInt32 &&& Int32.toUInt32 31)).toInt32) &&& (nI 858993459))) + (((((x0 - (((x0.toUInt32 >>> ((nI 1).toUInt32 &&& Int32.toUInt32 31)).toInt32) &&& (nI 1431655765))) &&& (nI 858993459)) + ((((x0 - (((x0.toUInt32 >>> ((nI 1).toUInt32 &&& Int32.toUInt32 31)).toInt32) &&& (nI 1431655765))).toUInt32 >>> ((nI 2).toUInt32 &&& Int32.toUInt32 31)).toInt32) &&& (nI 858993459))).toUInt32 >>> ((nI 4).toUInt32 &&& Int32.toUInt32 31)).toInt32)) &&& (nI 252645135)).toUInt32 >>> ((nI 8).toUInt32 &&& Int32.toUInt32 31)).toInt32)).toUInt32 >>> ((nI 16).toUInt32 &&& Int32.toUInt32 31)).toInt32)))]) (st' := [.int ((((((((x0 - (((x0.toUInt32 >>> ((nI 1).toUInt32 &&& Int32.toUInt32 31)).toInt32) &&& (nI 1431655765))) &&& (nI 858993459)) + ((((x0 - (((x0.toUInt32 >>> ((nI 1).toUInt32 &&& Int32.toUInt32 31)).toInt32) &&& (nI 1431655765))).toUInt32 >>> ((nI 2).toUInt32 &&& Int32.toUInt32 31)).toInt32) &&& (nI 858993459))) + (((((x0 - (((x0.toUInt32 >>> ((nI 1).toUInt32 &&& Int32.toUInt32 31)).toInt32) &&& (nI 1431655765))) &&& (nI 858993459)) + ((((x0 - (((x0.toUInt32 >>> ((nI 1).toUInt32 &&& Int32.toUInt32 31)).toInt32) &&& (nI 1431655765))).toUInt32 >>> ((nI 2).toUInt32 &&& Int32.toUInt32 31)).toInt32) &&& (nI 858993459))).toUInt32 >>> ((nI 4).toUInt32 &&& Int32.toUInt32 31)).toInt32)) &&& (nI 252645135)) + (((((((x0 - (((x0.toUInt32 >>> ((nI 1).toUInt32 &&& Int32.toUInt32 31)).toInt32) &&& (nI 1431655765))) &&& (nI 858993459)) + ((((x0 - (((x0.toUInt32 >>> ((nI 1).toUInt32 &&& Int32.toUInt32 31)).toInt32) &&& (nI 1431655765))).toUInt32 >>> ((nI 2).toUInt32 &&& Int32.toUInt32 31)).toInt32) &&& (nI 858993459))) + (((((x0 - (((x0.toUInt32 >>> ((nI 1).toUInt32 &&& Int32.toUInt32 31)).toInt32) &&& (nI 1431655765))) &&& (nI 858993459)) + ((((x0 - (((x0.toUInt32 >>> ((nI 1).toUInt32 &&& Int32.toUInt32 31)).toInt32) &&& (nI 1431655765))).toUInt32 >>> ((nI 2).toUInt32 &&& Int32.toUInt32 31)).toInt32) &&& (nI 858993459))).toUInt32 >>> ((nI 4).toUInt32 &&& Int32.toUInt32 31)).toInt32)) &&& (nI 252645135)).toUInt32 >>> ((nI 8).toUInt32 &&& Int32.toUInt32 31)).toInt32)) + ((((((((x0 - (((x0.toUInt32 >>> ((nI 1).toUInt32 &&& Int32.toUInt32 31)).toInt32) &&& (nI 1431655765))) &&& (nI 858993459)) + ((((x0 - (((x0.toUInt32 >>> ((nI 1).toUInt32 &&& Int32.toUInt32 31)).toInt32) &&& (nI 1431655765))).toUInt32 >>> ((nI 2).toUInt32 &&& Int32.toUInt32 31)).toInt32) &&& (nI 858993459))) + (((((x0 - (((x0.toUInt32 >>> ((nI 1).toUInt32 &&& Int32.toUInt32 31)).toInt32) &&& (nI 1431655765))) &&& (nI 858993459)) + ((((x0 - (((x0.toUInt32 >>> ((nI 1).toUInt32 &&& Int32.toUInt32 31)).toInt32) &&& (nI 1431655765))).toUInt32 >>> ((nI 2).toUInt32 &&& Int32.toUInt32 31)).toInt32) &&& (nI 858993459))).toUInt32 >>> ((nI 4).toUInt32 &&& Int32.toUInt32 31)).toInt32)) &&& (nI 252645135)) + (((((((x0 - (((x0.toUInt32 >>> ((nI 1).toUInt32 &&& Int32.toUInt32 31)).toInt32) &&& (nI 1431655765))) &&& (nI 858993459)) + ((((x0 - (((x0.toUInt32 >>> ((nI 1).toUInt32 &&& Int32.toUInt32 31)).toInt32) &&& (nI 1431655765))).toUInt32 >>> ((nI 2).toUInt32 &&& Int32.toUInt32 31)).toInt32) &&& (nI 858993459))) + (((((x0 - (((x0.toUInt32 >>> ((nI 1).toUInt32 &&& Int32.toUInt32 31)).toInt32) &&& (nI 1431655765))) &&& (nI 858993459)) + ((((x0 - (((x0.toUInt32 >>> ((nI 1).toUInt32 &&& Int32.toUInt32 31)).toInt32) &&& (nI 1431655765))).toUInt32 >>> ((nI 2).toUInt32 &&& Int32.toUInt32 31)).toInt32) &&& (nI 858993459))).toUInt32 >>> ((nI 4).toUInt32 &&& Int32.toUInt32 31)).toInt32)) &&& (nI 252645135)).toUInt32 >>> ((nI 8).toUInt32 &&& Int32.toUInt32 31)).toInt32)).toUInt32 >>> ((nI 16).toUInt32 &&& Int32.toUInt32 31)).toInt32)) &&& (nI 63))]) rfl ?_
  exact wp_ri hT rfl rfl ⟨_, rfl, h⟩

theorem mk_J9_floorMod_7cf53 {X : Nat × (Nat → Int32)} {x0 : Int32} {x1 : Int32} {iv : IV} {P : Int32 → IV → Prop}
    (h : ¬ x1 = 0 ∧ ∀ v1 : Int32, v1 = x0 - x0 / x1 * x1 → ((0 ≤ x0 ^^^ x1 → P v1 iv) ∧ (¬ (0 ≤ x0 ^^^ x1) → ((v1 = 0 → P v1 iv) ∧ (¬ (v1 = 0) → P (v1 + x1) iv))))) :
    wc X 221 [.int x0, .int x1] iv (Ri P) := by
  have hT := tb_221
  show wp X (0, 0) 221 0 [some (.int x0), some (.int x1), none] [] iv (Ri P)
  refine wp_s hT 2 (i' := 2) (L' := [some (.int x0), some (.int x1), none]) (st' := [.int x1, .int x0]) rfl ?_
  refine wp_rem hT rfl ⟨h.1, ?_⟩
  have h := h.2
  refine wp_s hT 1 (i' := 4) (L' := [some (.int x0), some (.int x1), some (.int (x0 - x0 / x1 * x1))]) (st' := []) rfl ?_
  have h := h _ rfl
  refine wp_s hT 3 (i' := 7) (L' := [some (.int x0), some (.int x1), some (.int (x0 - x0 / x1 * x1))]) (st' := [.int (x0 ^^^ x1)]) rfl ?_
  refine wp_if_ge hT rfl ⟨fun c => ?_, fun c => ?_⟩
  · have h := h.1 c
    refine wp_s hT 1 (i' := 15) (L' := [some (.int x0), some (.int x1), some (.int (x0 - x0 / x1 * x1))]) (st' := [.int (x0 - x0 / x1 * x1)]) rfl ?_
    exact wp_ri hT rfl rfl ⟨_, rfl, h⟩
  · have h := h.2 c
    refine wp_s hT 1 (i' := 9) (L' := [some (.int x0), some (.int x1), some (.int (x0 - x0 / x1 * x1))]) (st' := [.int (x0 - x0 / x1 * x1)]) rfl ?_
    refine wp_if_eq hT rfl ⟨fun c => ?_, fun c => ?_⟩
    · have h := h.1 c
      refine wp_s hT 1 (i' := 15) (L' := [some (.int x0), some (.int x1), some (.int (x0 - x0 / x1 * x1))]) (st' := [.int (x0 - x0 / x1 * x1)]) rfl ?_
      exact wp_ri hT rfl rfl ⟨_, rfl, h⟩
    · have h := h.2 c
      refine wp_s hT 3 (i' := 13) (L' := [some (.int x0), some (.int x1), some (.int (x0 - x0 / x1 * x1))]) (st' := [.int ((x0 - x0 / x1 * x1) + x1)]) rfl ?_
      exact wp_ri hT rfl rfl ⟨_, rfl, h⟩

theorem mk_J9_abs_0f7a4 {X : Nat × (Nat → Int32)} {x0 : Int32} {iv : IV} {P : Int32 → IV → Prop}
    (h : ((0 ≤ x0 → P x0 iv) ∧ (¬ (0 ≤ x0) → P (-x0) iv))) :
    wc X 222 [.int x0] iv (Ri P) := by
  have hT := tb_222
  show wp X (0, 0) 222 0 [some (.int x0)] [] iv (Ri P)
  refine wp_s hT 1 (i' := 1) (L' := [some (.int x0)]) (st' := [.int x0]) rfl ?_
  refine wp_if_ge hT rfl ⟨fun c => ?_, fun c => ?_⟩
  · have h := h.1 c
    refine wp_s hT 1 (i' := 6) (L' := [some (.int x0)]) (st' := [.int x0]) rfl ?_
    exact wp_ri hT rfl rfl ⟨_, rfl, h⟩
  · have h := h.2 c
    refine wp_s hT 3 (i' := 6) (L' := [some (.int x0)]) (st' := [.int (-x0)]) rfl ?_
    exact wp_ri hT rfl rfl ⟨_, rfl, h⟩

theorem mk_J9_max_7cf53 {X : Nat × (Nat → Int32)} {x0 : Int32} {x1 : Int32} {iv : IV} {P : Int32 → IV → Prop}
    (h : ((x0 < x1 → P x1 iv) ∧ (¬ (x0 < x1) → P x0 iv))) :
    wc X 223 [.int x0, .int x1] iv (Ri P) := by
  have hT := tb_223
  show wp X (0, 0) 223 0 [some (.int x0), some (.int x1)] [] iv (Ri P)
  refine wp_s hT 2 (i' := 2) (L' := [some (.int x0), some (.int x1)]) (st' := [.int x1, .int x0]) rfl ?_
  refine wp_ic_lt hT rfl ⟨fun c => ?_, fun c => ?_⟩
  · have h := h.1 c
    refine wp_s hT 1 (i' := 6) (L' := [some (.int x0), some (.int x1)]) (st' := [.int x1]) rfl ?_
    exact wp_ri hT rfl rfl ⟨_, rfl, h⟩
  · have h := h.2 c
    refine wp_s hT 2 (i' := 6) (L' := [some (.int x0), some (.int x1)]) (st' := [.int x0]) rfl ?_
    exact wp_ri hT rfl rfl ⟨_, rfl, h⟩

theorem mk_J9_min_7cf53 {X : Nat × (Nat → Int32)} {x0 : Int32} {x1 : Int32} {iv : IV} {P : Int32 → IV → Prop}
    (h : ((x1 < x0 → P x1 iv) ∧ (¬ (x1 < x0) → P x0 iv))) :
    wc X 224 [.int x0, .int x1] iv (Ri P) := by
  have hT := tb_224
  show wp X (0, 0) 224 0 [some (.int x0), some (.int x1)] [] iv (Ri P)
  refine wp_s hT 2 (i' := 2) (L' := [some (.int x0), some (.int x1)]) (st' := [.int x1, .int x0]) rfl ?_
  refine wp_ic_gt hT rfl ⟨fun c => ?_, fun c => ?_⟩
  · have h := h.1 c
    refine wp_s hT 1 (i' := 6) (L' := [some (.int x0), some (.int x1)]) (st' := [.int x1]) rfl ?_
    exact wp_ri hT rfl rfl ⟨_, rfl, h⟩
  · have h := h.2 c
    refine wp_s hT 2 (i' := 6) (L' := [some (.int x0), some (.int x1)]) (st' := [.int x0]) rfl ?_
    exact wp_ri hT rfl rfl ⟨_, rfl, h⟩
