/-! what each method comes to, printed by wip/gen/mech.py -/
theorem mk_X11_in {X : Nat × (Nat → Int32)} {x0 : Int64} {x2 : Int64} {x4 : Int64} {iv : IV} {P : Int32 → IV → Prop}
    (h : ((lg_cmp x0 x2 < 0 → P (nI 0) iv) ∧ (¬ (lg_cmp x0 x2 < 0) → ((0 < lg_cmp x0 x4 → P (nI 0) iv) ∧ (¬ (0 < lg_cmp x0 x4) → P (nI 1) iv))))) :
    wc X 122 [.long x0, .long x2, .long x4] iv (Ri P) := by
  have hT := tb_122
  show wp X (0, 0) 122 0 [some (.long x0), none, some (.long x2), none, some (.long x4), none] [] iv (Ri P)
  refine wp_s hT 3 (i' := 3) (L' := [some (.long x0), none, some (.long x2), none, some (.long x4), none]) (st' := [.int (lg_cmp x0 x2)]) rfl ?_
  refine wp_if_lt hT rfl ⟨fun c => ?_, fun c => ?_⟩
  · have h := h.1 c
    refine wp_s hT 1 (i' := 11) (L' := [some (.long x0), none, some (.long x2), none, some (.long x4), none]) (st' := [.int (nI 0)]) rfl ?_
    exact wp_rz hT rfl rfl ⟨Or.inl rfl, ⟨_, rfl, h⟩⟩
  · have h := h.2 c
    refine wp_s hT 3 (i' := 7) (L' := [some (.long x0), none, some (.long x2), none, some (.long x4), none]) (st' := [.int (lg_cmp x0 x4)]) rfl ?_
    refine wp_if_gt hT rfl ⟨fun c => ?_, fun c => ?_⟩
    · have h := h.1 c
      refine wp_s hT 1 (i' := 11) (L' := [some (.long x0), none, some (.long x2), none, some (.long x4), none]) (st' := [.int (nI 0)]) rfl ?_
      exact wp_rz hT rfl rfl ⟨Or.inl rfl, ⟨_, rfl, h⟩⟩
    · have h := h.2 c
      refine wp_s hT 2 (i' := 11) (L' := [some (.long x0), none, some (.long x2), none, some (.long x4), none]) (st' := [.int (nI 1)]) rfl ?_
      exact wp_rz hT rfl rfl ⟨Or.inr rfl, ⟨_, rfl, h⟩⟩

theorem mk_X11_isTwo {X : Nat × (Nat → Int32)} {x0 : Int32} {iv : IV} {P : Int32 → IV → Prop}
    (h : wc X 122 [.long x0.toInt64, .long (lN 0), .long (lN 1)] iv (Ri (fun r2 iv1 => (r2 = 0 ∨ r2 = 1) ∧ P r2 iv1))) :
    wc X 123 [.int x0] iv (Ri P) := by
  have hT := tb_123
  show wp X (0, 0) 123 0 [some (.int x0)] [] iv (Ri P)
  refine wp_s hT 4 (i' := 4) (L' := [some (.int x0)]) (st' := [.long (lN 1), .long (lN 0), .long x0.toInt64]) rfl ?_
  refine wp_calli hT rfl rfl h (fun r2 iv1 h => ?_)
  exact wp_rz hT rfl rfl ⟨h.1, ⟨_, rfl, h.2⟩⟩

theorem mk_X11_lesser {X : Nat × (Nat → Int32)} {x0 : Int32} {x1 : Int32} {iv : IV} {P : Int32 → IV → Prop}
    (h : ((x1 ≤ x0 → P x1 iv) ∧ (¬ (x1 ≤ x0) → P x0 iv))) :
    wc X 124 [.int x0, .int x1] iv (Ri P) := by
  have hT := tb_124
  show wp X (0, 0) 124 0 [some (.int x0), some (.int x1)] [] iv (Ri P)
  refine wp_s hT 2 (i' := 2) (L' := [some (.int x0), some (.int x1)]) (st' := [.int x1, .int x0]) rfl ?_
  refine wp_ic_ge hT rfl ⟨fun c => ?_, fun c => ?_⟩
  · have h := h.1 c
    refine wp_s hT 1 (i' := 6) (L' := [some (.int x0), some (.int x1)]) (st' := [.int x1]) rfl ?_
    exact wp_ri hT rfl rfl ⟨_, rfl, h⟩
  · have h := h.2 c
    refine wp_s hT 2 (i' := 6) (L' := [some (.int x0), some (.int x1)]) (st' := [.int x0]) rfl ?_
    exact wp_ri hT rfl rfl ⟨_, rfl, h⟩

theorem mk_X11_greater {X : Nat × (Nat → Int32)} {x0 : Int32} {x1 : Int32} {iv : IV} {P : Int32 → IV → Prop}
    (h : ((x0 ≤ x1 → P x1 iv) ∧ (¬ (x0 ≤ x1) → P x0 iv))) :
    wc X 125 [.int x0, .int x1] iv (Ri P) := by
  have hT := tb_125
  show wp X (0, 0) 125 0 [some (.int x0), some (.int x1)] [] iv (Ri P)
  refine wp_s hT 2 (i' := 2) (L' := [some (.int x0), some (.int x1)]) (st' := [.int x1, .int x0]) rfl ?_
  refine wp_ic_le hT rfl ⟨fun c => ?_, fun c => ?_⟩
  · have h := h.1 c
    refine wp_s hT 1 (i' := 6) (L' := [some (.int x0), some (.int x1)]) (st' := [.int x1]) rfl ?_
    exact wp_ri hT rfl rfl ⟨_, rfl, h⟩
  · have h := h.2 c
    refine wp_s hT 2 (i' := 6) (L' := [some (.int x0), some (.int x1)]) (st' := [.int x0]) rfl ?_
    exact wp_ri hT rfl rfl ⟨_, rfl, h⟩

theorem mk_X11_finds {X : Nat × (Nat → Int32)} {x1 : Int32} {iv : IV} {P : Int32 → IV → Prop}
    (h : ∀ iv1 : IV, iv1 = mm_up2 iv 74 4 x1 → P ((nI 4294967286) - x1) iv1) :
    wc X 126 [.ref 74, .int x1] iv (Ri P) := by
  have hT := tb_126
  show wp X (0, 0) 126 0 [some (.ref 74), some (.int x1)] [] iv (Ri P)
  refine wp_s hT 2 (i' := 2) (L' := [some (.ref 74), some (.int x1)]) (st' := [.int x1, .ref 74]) rfl ?_
  refine wp_puti hT rfl rfl ⟨by decide, by decide⟩ ?_
  have h := h _ rfl
  refine wp_s hT 3 (i' := 6) (L' := [some (.ref 74), some (.int x1)]) (st' := [.int ((nI 4294967286) - x1)]) rfl ?_
  exact wp_ri hT rfl rfl ⟨_, rfl, h⟩

theorem mk_X11_isSheet {X : Nat × (Nat → Int32)} {x0 : Int32} {iv : IV} {P : Int32 → IV → Prop}
    (h : wc X 122 [.long x0.toInt64, .long (lN 0), .long (lN 3)] iv (Ri (fun r2 iv1 => (r2 = 0 ∨ r2 = 1) ∧ P r2 iv1))) :
    wc X 127 [.int x0] iv (Ri P) := by
  have hT := tb_127
  show wp X (0, 0) 127 0 [some (.int x0)] [] iv (Ri P)
  refine wp_s hT 4 (i' := 4) (L' := [some (.int x0)]) (st' := [.long (lN 3), .long (lN 0), .long x0.toInt64]) rfl ?_
  refine wp_calli hT rfl rfl h (fun r2 iv1 h => ?_)
  exact wp_rz hT rfl rfl ⟨h.1, ⟨_, rfl, h.2⟩⟩

theorem mk_X11_sheet_32 {X : Nat × (Nat → Int32)} {x1 : Int32} {x3 : Int32} {x4 : Int32} {iv : IV} {P : Int32 → IV → Prop}
    (h : ((x3 ≤ x4 → P x3 iv) ∧ (¬ (x3 ≤ x4) → vp_in (((nI 60) * x1) + x4) 240 ∧ (∀ iv1 : IV, iv1 = mm_up2 iv 77 (((nI 60) * x1) + x4).toNatClampNeg (nI 0) → wp X (0, 0) 128 32 [some (.ref 74), some (.int x1), none, some (.int x3), some (.int (x4 + nI 1))] [] iv1 (Ri P))))) :
    wp X (0, 0) 128 32 [some (.ref 74), some (.int x1), none, some (.int x3), some (.int x4)] [] iv (Ri P) := by
  have hT := tb_128
  refine wp_s hT 2 (i' := 34) (L' := [some (.ref 74), some (.int x1), none, some (.int x3), some (.int x4)]) (st' := [.int x3, .int x4]) rfl ?_
  refine wp_ic_ge hT rfl ⟨fun c => ?_, fun c => ?_⟩
  · have h := h.1 c
    refine wp_s hT 1 (i' := 47) (L' := [some (.ref 74), some (.int x1), none, some (.int x3), some (.int x4)]) (st' := [.int x3]) rfl ?_
    exact wp_ri hT rfl rfl ⟨_, rfl, h⟩
  · have h := h.2 c
    refine wp_s hT 8 (i' := 43) (L' := [some (.ref 74), some (.int x1), none, some (.int x3), some (.int x4)]) (st' := [.int (nI 0), .int (((nI 60) * x1) + x4), .ref 77]) rfl ?_
    refine wp_iast hT rfl rfl ⟨h.1, ?_⟩
    have h := h.2
    have h := h _ rfl
    refine wp_s hT 2 (i' := 32) (L' := [some (.ref 74), some (.int x1), none, some (.int x3), some (.int (x4 + nI 1))]) (st' := []) rfl ?_
    exact h

theorem mk_X11_sheet {X : Nat × (Nat → Int32)} {x1 : Int32} {x2 : Int32} {x3 : Int32} {iv : IV} {P : Int32 → IV → Prop}
    (h : wc X 127 [.int x1] iv (Ri (fun r2 iv1 => ((r2 = 0 → P (nI 4294967294) iv1) ∧ (¬ (r2 = 0) → wc X 122 [.long x2.toInt64, .long (lN 0), .long (lN 2)] iv1 (Ri (fun r4 iv3 => ((r4 = 0 → P (nI 4294967294) iv3) ∧ (¬ (r4 = 0) → ((x3 ≤ (nI 60) → ((0 ≤ x3 → vp_in x1 4 ∧ (∀ iv5 : IV, iv5 = mm_up2 iv3 75 x1.toNatClampNeg x2 → vp_in x1 4 ∧ (∀ iv6 : IV, iv6 = mm_up2 iv5 76 x1.toNatClampNeg x3 → wp X (0, 0) 128 32 [some (.ref 74), some (.int x1), none, some (.int x3), some (.int (nI 0))] [] iv6 (Ri P)))) ∧ (¬ (0 ≤ x3) → wc X 126 [.ref 74, .int (nI 5)] iv3 (Ri (fun r8 iv7 => P r8 iv7))))) ∧ (¬ (x3 ≤ (nI 60)) → P (nI 4294967294) iv3))))))))))) :
    wc X 128 [.ref 74, .int x1, .int x2, .int x3] iv (Ri P) := by
  have hT := tb_128
  show wp X (0, 0) 128 0 [some (.ref 74), some (.int x1), some (.int x2), some (.int x3), none] [] iv (Ri P)
  refine wp_s hT 1 (i' := 1) (L' := [some (.ref 74), some (.int x1), some (.int x2), some (.int x3), none]) (st' := [.int x1]) rfl ?_
  refine wp_calli hT rfl rfl h (fun r2 iv1 h => ?_)
  refine wp_if_eq hT rfl ⟨fun c => ?_, fun c => ?_⟩
  · have h := h.1 c
    refine wp_s hT 1 (i' := 13) (L' := [some (.ref 74), some (.int x1), some (.int x2), some (.int x3), none]) (st' := [.int (nI 4294967294)]) rfl ?_
    exact wp_ri hT rfl rfl ⟨_, rfl, h⟩
  · have h := h.2 c
    refine wp_s hT 4 (i' := 7) (L' := [some (.ref 74), some (.int x1), some (.int x2), some (.int x3), none]) (st' := [.long (lN 2), .long (lN 0), .long x2.toInt64]) rfl ?_
    refine wp_calli hT rfl rfl h (fun r4 iv3 h => ?_)
    refine wp_if_eq hT rfl ⟨fun c => ?_, fun c => ?_⟩
    · have h := h.1 c
      refine wp_s hT 1 (i' := 13) (L' := [some (.ref 74), some (.int x1), some (.int x2), some (.int x3), none]) (st' := [.int (nI 4294967294)]) rfl ?_
      exact wp_ri hT rfl rfl ⟨_, rfl, h⟩
    · have h := h.2 c
      refine wp_s hT 2 (i' := 11) (L' := [some (.ref 74), some (.int x1), some (.int x2), some (.int x3), none]) (st' := [.int (nI 60), .int x3]) rfl ?_
      refine wp_ic_le hT rfl ⟨fun c => ?_, fun c => ?_⟩
      · have h := h.1 c
        refine wp_s hT 1 (i' := 15) (L' := [some (.ref 74), some (.int x1), some (.int x2), some (.int x3), none]) (st' := [.int x3]) rfl ?_
        refine wp_if_ge hT rfl ⟨fun c => ?_, fun c => ?_⟩
        · have h := h.1 c
          refine wp_s hT 4 (i' := 24) (L' := [some (.ref 74), some (.int x1), some (.int x2), some (.int x3), none]) (st' := [.int x2, .int x1, .ref 75]) rfl ?_
          refine wp_iast hT rfl rfl ⟨h.1, ?_⟩
          have h := h.2
          have h := h _ rfl
          refine wp_s hT 4 (i' := 29) (L' := [some (.ref 74), some (.int x1), some (.int x2), some (.int x3), none]) (st' := [.int x3, .int x1, .ref 76]) rfl ?_
          refine wp_iast hT rfl rfl ⟨h.1, ?_⟩
          have h := h.2
          have h := h _ rfl
          refine wp_s hT 2 (i' := 32) (L' := [some (.ref 74), some (.int x1), some (.int x2), some (.int x3), some (.int (nI 0))]) (st' := []) rfl ?_
          refine wp_le (L := [some (.ref 74), some (.int x1), none, some (.int x3), some (.int (nI 0))]) ⟨Or.inl rfl, Or.inl rfl, Or.inr ⟨rfl, rfl⟩, Or.inl rfl, Or.inl rfl, trivial⟩ ?_
          exact h
        · have h := h.2 c
          refine wp_s hT 2 (i' := 18) (L' := [some (.ref 74), some (.int x1), some (.int x2), some (.int x3), none]) (st' := [.int (nI 5), .ref 74]) rfl ?_
          refine wp_calli hT rfl rfl h (fun r8 iv7 h => ?_)
          exact wp_ri hT rfl rfl ⟨_, rfl, h⟩
      · have h := h.2 c
        refine wp_s hT 1 (i' := 13) (L' := [some (.ref 74), some (.int x1), some (.int x2), some (.int x3), none]) (st' := [.int (nI 4294967294)]) rfl ?_
        exact wp_ri hT rfl rfl ⟨_, rfl, h⟩

theorem mk_X11_lose {X : Nat × (Nat → Int32)} {x1 : Int32} {iv : IV} {P : Int32 → IV → Prop}
    (h : wc X 127 [.int x1] iv (Ri (fun r2 iv1 => ((r2 = 0 → P (nI 4294967294) iv1) ∧ (¬ (r2 = 0) → vp_in x1 4 ∧ ((0 ≤ iv1 75 x1.toNatClampNeg → vp_in x1 4 ∧ (∀ iv3 : IV, iv3 = mm_up2 iv1 75 x1.toNatClampNeg (nI 4294967295) → vp_in x1 4 ∧ P (iv3 76 x1.toNatClampNeg) iv3)) ∧ (¬ (0 ≤ iv1 75 x1.toNatClampNeg) → wc X 126 [.ref 74, .int (nI 1)] iv1 (Ri (fun r5 iv4 => P r5 iv4))))))))) :
    wc X 129 [.ref 74, .int x1] iv (Ri P) := by
  have hT := tb_129
  show wp X (0, 0) 129 0 [some (.ref 74), some (.int x1)] [] iv (Ri P)
  refine wp_s hT 1 (i' := 1) (L' := [some (.ref 74), some (.int x1)]) (st' := [.int x1]) rfl ?_
  refine wp_calli hT rfl rfl h (fun r2 iv1 h => ?_)
  refine wp_if_ne hT rfl ⟨fun c => ?_, fun c => ?_⟩
  · have h := h.1 c
    refine wp_s hT 1 (i' := 4) (L' := [some (.ref 74), some (.int x1)]) (st' := [.int (nI 4294967294)]) rfl ?_
    exact wp_ri hT rfl rfl ⟨_, rfl, h⟩
  · have h := h.2 c
    refine wp_s hT 3 (i' := 8) (L' := [some (.ref 74), some (.int x1)]) (st' := [.int x1, .ref 75]) rfl ?_
    refine wp_iald hT rfl rfl ⟨h.1, ?_⟩
    have h := h.2
    refine wp_if_ge hT rfl ⟨fun c => ?_, fun c => ?_⟩
    · have h := h.1 c
      refine wp_s hT 4 (i' := 18) (L' := [some (.ref 74), some (.int x1)]) (st' := [.int (nI 4294967295), .int x1, .ref 75]) rfl ?_
      refine wp_iast hT rfl rfl ⟨h.1, ?_⟩
      have h := h.2
      have h := h _ rfl
      refine wp_s hT 3 (i' := 22) (L' := [some (.ref 74), some (.int x1)]) (st' := [.int x1, .ref 76]) rfl ?_
      refine wp_iald hT rfl rfl ⟨h.1, ?_⟩
      have h := h.2
      exact wp_ri hT rfl rfl ⟨_, rfl, h⟩
    · have h := h.2 c
      refine wp_s hT 2 (i' := 12) (L' := [some (.ref 74), some (.int x1)]) (st' := [.int (nI 1), .ref 74]) rfl ?_
      refine wp_calli hT rfl rfl h (fun r5 iv4 h => ?_)
      exact wp_ri hT rfl rfl ⟨_, rfl, h⟩

theorem mk_X11_lacks {X : Nat × (Nat → Int32)} {x1 : Int32} {x2 : Int32} {x3 : Int32} {iv : IV} {P : Int32 → IV → Prop}
    (h : vp_in x1 4 ∧ ((0 ≤ iv 75 x1.toNatClampNeg → vp_in x1 4 ∧ (((iv 75 x1.toNatClampNeg) = x2 → vp_in x1 4 ∧ wc X 122 [.long x3.toInt64, .long (lN 0), .long (((iv 76 x1.toNatClampNeg) - (nI 1)).toInt64)] iv (Ri (fun r2 iv1 => ((r2 = 0 → wc X 126 [.ref 74, .int (nI 2)] iv1 (Ri (fun r4 iv3 => P r4 iv3))) ∧ (¬ (r2 = 0) → P (nI 0) iv1))))) ∧ (¬ ((iv 75 x1.toNatClampNeg) = x2) → wc X 126 [.ref 74, .int (nI 3)] iv (Ri (fun r6 iv5 => P r6 iv5))))) ∧ (¬ (0 ≤ iv 75 x1.toNatClampNeg) → wc X 126 [.ref 74, .int (nI 1)] iv (Ri (fun r8 iv7 => P r8 iv7))))) :
    wc X 130 [.ref 74, .int x1, .int x2, .int x3] iv (Ri P) := by
  have hT := tb_130
  show wp X (0, 0) 130 0 [some (.ref 74), some (.int x1), some (.int x2), some (.int x3)] [] iv (Ri P)
  refine wp_s hT 3 (i' := 3) (L' := [some (.ref 74), some (.int x1), some (.int x2), some (.int x3)]) (st' := [.int x1, .ref 75]) rfl ?_
  refine wp_iald hT rfl rfl ⟨h.1, ?_⟩
  have h := h.2
  refine wp_if_ge hT rfl ⟨fun c => ?_, fun c => ?_⟩
  · have h := h.1 c
    refine wp_s hT 3 (i' := 12) (L' := [some (.ref 74), some (.int x1), some (.int x2), some (.int x3)]) (st' := [.int x1, .ref 75]) rfl ?_
    refine wp_iald hT rfl rfl ⟨h.1, ?_⟩
    have h := h.2
    refine wp_s hT 1 (i' := 14) (L' := [some (.ref 74), some (.int x1), some (.int x2), some (.int x3)]) (st' := [.int x2, .int (iv 75 x1.toNatClampNeg)]) rfl ?_
    refine wp_ic_eq hT rfl ⟨fun c => ?_, fun c => ?_⟩
    · have h := h.1 c
      refine wp_s hT 6 (i' := 25) (L' := [some (.ref 74), some (.int x1), some (.int x2), some (.int x3)]) (st' := [.int x1, .ref 76, .long (lN 0), .long x3.toInt64]) rfl ?_
      refine wp_iald hT rfl rfl ⟨h.1, ?_⟩
      have h := h.2
      refine wp_s hT 3 (i' := 29) (L' := [some (.ref 74), some (.int x1), some (.int x2), some (.int x3)]) (st' := [.long (((iv 76 x1.toNatClampNeg) - (nI 1)).toInt64), .long (lN 0), .long x3.toInt64]) rfl ?_
      refine wp_calli hT rfl rfl h (fun r2 iv1 h => ?_)
      refine wp_if_eq hT rfl ⟨fun c => ?_, fun c => ?_⟩
      · have h := h.1 c
        refine wp_s hT 2 (i' := 35) (L' := [some (.ref 74), some (.int x1), some (.int x2), some (.int x3)]) (st' := [.int (nI 2), .ref 74]) rfl ?_
        refine wp_calli hT rfl rfl h (fun r4 iv3 h => ?_)
        exact wp_ri hT rfl rfl ⟨_, rfl, h⟩
      · have h := h.2 c
        refine wp_s hT 2 (i' := 36) (L' := [some (.ref 74), some (.int x1), some (.int x2), some (.int x3)]) (st' := [.int (nI 0)]) rfl ?_
        exact wp_ri hT rfl rfl ⟨_, rfl, h⟩
    · have h := h.2 c
      refine wp_s hT 2 (i' := 17) (L' := [some (.ref 74), some (.int x1), some (.int x2), some (.int x3)]) (st' := [.int (nI 3), .ref 74]) rfl ?_
      refine wp_calli hT rfl rfl h (fun r6 iv5 h => ?_)
      exact wp_ri hT rfl rfl ⟨_, rfl, h⟩
  · have h := h.2 c
    refine wp_s hT 2 (i' := 7) (L' := [some (.ref 74), some (.int x1), some (.int x2), some (.int x3)]) (st' := [.int (nI 1), .ref 74]) rfl ?_
    refine wp_calli hT rfl rfl h (fun r8 iv7 h => ?_)
    exact wp_ri hT rfl rfl ⟨_, rfl, h⟩

theorem mk_X11_cut {X : Nat × (Nat → Int32)} {x0 : Int32} {x1 : Int32} {iv : IV} {P : Int32 → IV → Prop}
    (h : ((x0 = 0 → P x1.toInt8.toInt32 iv) ∧ (¬ (x0 = 0) → ((x0 = (nI 1) → P x1.toInt16.toInt32 iv) ∧ (¬ (x0 = (nI 1)) → P x1 iv))))) :
    wc X 131 [.int x0, .int x1] iv (Ri P) := by
  have hT := tb_131
  show wp X (0, 0) 131 0 [some (.int x0), some (.int x1)] [] iv (Ri P)
  refine wp_s hT 1 (i' := 1) (L' := [some (.int x0), some (.int x1)]) (st' := [.int x0]) rfl ?_
  refine wp_if_ne hT rfl ⟨fun c => ?_, fun c => ?_⟩
  · have h := h.1 c
    refine wp_s hT 3 (i' := 12) (L' := [some (.int x0), some (.int x1)]) (st' := [.int x1.toInt8.toInt32]) rfl ?_
    exact wp_ri hT rfl rfl ⟨_, rfl, h⟩
  · have h := h.2 c
    refine wp_s hT 2 (i' := 7) (L' := [some (.int x0), some (.int x1)]) (st' := [.int (nI 1), .int x0]) rfl ?_
    refine wp_ic_ne hT rfl ⟨fun c => ?_, fun c => ?_⟩
    · have h := h.1 c
      refine wp_s hT 3 (i' := 12) (L' := [some (.int x0), some (.int x1)]) (st' := [.int x1.toInt16.toInt32]) rfl ?_
      exact wp_ri hT rfl rfl ⟨_, rfl, h⟩
    · have h := h.2 c
      refine wp_s hT 1 (i' := 12) (L' := [some (.int x0), some (.int x1)]) (st' := [.int x1]) rfl ?_
      exact wp_ri hT rfl rfl ⟨_, rfl, h⟩

theorem mk_X11_lay {X : Nat × (Nat → Int32)} {x1 : Int32} {x2 : Int32} {x3 : Int32} {x4 : Int32} {iv : IV} {P : Int32 → IV → Prop}
    (h : wc X 127 [.int x1] iv (Ri (fun r2 iv1 => ((r2 = 0 → P (nI 4294967294) iv1) ∧ (¬ (r2 = 0) → wc X 122 [.long x2.toInt64, .long (lN 0), .long (lN 2)] iv1 (Ri (fun r4 iv3 => ((r4 = 0 → P (nI 4294967294) iv3) ∧ (¬ (r4 = 0) → wc X 130 [.ref 74, .int x1, .int x2, .int x3] iv3 (Ri (fun r6 iv5 => ((r6 = 0 → wc X 131 [.int x2, .int x4] iv5 (Ri (fun r8 iv7 => vp_in (((nI 60) * x1) + x3) 240 ∧ (∀ iv9 : IV, iv9 = mm_up2 iv7 77 (((nI 60) * x1) + x3).toNatClampNeg r8 → P (nI 1) iv9)))) ∧ (¬ (r6 = 0) → P r6 iv5))))))))))))) :
    wc X 132 [.ref 74, .int x1, .int x2, .int x3, .int x4] iv (Ri P) := by
  have hT := tb_132
  show wp X (0, 0) 132 0 [some (.ref 74), some (.int x1), some (.int x2), some (.int x3), some (.int x4), none] [] iv (Ri P)
  refine wp_s hT 1 (i' := 1) (L' := [some (.ref 74), some (.int x1), some (.int x2), some (.int x3), some (.int x4), none]) (st' := [.int x1]) rfl ?_
  refine wp_calli hT rfl rfl h (fun r2 iv1 h => ?_)
  refine wp_if_eq hT rfl ⟨fun c => ?_, fun c => ?_⟩
  · have h := h.1 c
    refine wp_s hT 1 (i' := 10) (L' := [some (.ref 74), some (.int x1), some (.int x2), some (.int x3), some (.int x4), none]) (st' := [.int (nI 4294967294)]) rfl ?_
    exact wp_ri hT rfl rfl ⟨_, rfl, h⟩
  · have h := h.2 c
    refine wp_s hT 4 (i' := 7) (L' := [some (.ref 74), some (.int x1), some (.int x2), some (.int x3), some (.int x4), none]) (st' := [.long (lN 2), .long (lN 0), .long x2.toInt64]) rfl ?_
    refine wp_calli hT rfl rfl h (fun r4 iv3 h => ?_)
    refine wp_if_ne hT rfl ⟨fun c => ?_, fun c => ?_⟩
    · have h := h.1 c
      refine wp_s hT 1 (i' := 10) (L' := [some (.ref 74), some (.int x1), some (.int x2), some (.int x3), some (.int x4), none]) (st' := [.int (nI 4294967294)]) rfl ?_
      exact wp_ri hT rfl rfl ⟨_, rfl, h⟩
    · have h := h.2 c
      refine wp_s hT 4 (i' := 15) (L' := [some (.ref 74), some (.int x1), some (.int x2), some (.int x3), some (.int x4), none]) (st' := [.int x3, .int x2, .int x1, .ref 74]) rfl ?_
      refine wp_calli hT rfl rfl h (fun r6 iv5 h => ?_)
      refine wp_s hT 2 (i' := 18) (L' := [some (.ref 74), some (.int x1), some (.int x2), some (.int x3), some (.int x4), some (.int r6)]) (st' := [.int r6]) rfl ?_
      refine wp_if_eq hT rfl ⟨fun c => ?_, fun c => ?_⟩
      · have h := h.1 c
        refine wp_s hT 9 (i' := 30) (L' := [some (.ref 74), some (.int x1), some (.int x2), some (.int x3), some (.int x4), some (.int r6)]) (st' := [.int x4, .int x2, .int (((nI 60) * x1) + x3), .ref 77]) rfl ?_
        refine wp_calli hT rfl rfl h (fun r8 iv7 h => ?_)
        refine wp_iast hT rfl rfl ⟨h.1, ?_⟩
        have h := h.2
        have h := h _ rfl
        refine wp_s hT 1 (i' := 33) (L' := [some (.ref 74), some (.int x1), some (.int x2), some (.int x3), some (.int x4), some (.int r6)]) (st' := [.int (nI 1)]) rfl ?_
        exact wp_ri hT rfl rfl ⟨_, rfl, h⟩
      · have h := h.2 c
        refine wp_s hT 1 (i' := 20) (L' := [some (.ref 74), some (.int x1), some (.int x2), some (.int x3), some (.int x4), some (.int r6)]) (st' := [.int r6]) rfl ?_
        exact wp_ri hT rfl rfl ⟨_, rfl, h⟩

theorem mk_X11_get {X : Nat × (Nat → Int32)} {x1 : Int32} {x2 : Int32} {x3 : Int32} {iv : IV} {P : Int32 → IV → Prop}
    (h : wc X 127 [.int x1] iv (Ri (fun r2 iv1 => ((r2 = 0 → P (nI 2147483648) iv1) ∧ (¬ (r2 = 0) → wc X 122 [.long x2.toInt64, .long (lN 0), .long (lN 2)] iv1 (Ri (fun r4 iv3 => ((r4 = 0 → P (nI 2147483648) iv3) ∧ (¬ (r4 = 0) → wc X 130 [.ref 74, .int x1, .int x2, .int x3] iv3 (Ri (fun r6 iv5 => ((r6 = 0 → vp_in (((nI 60) * x1) + x3) 240 ∧ P (iv5 77 (((nI 60) * x1) + x3).toNatClampNeg) iv5) ∧ (¬ (r6 = 0) → P (nI 2147483648) iv5))))))))))))) :
    wc X 133 [.ref 74, .int x1, .int x2, .int x3] iv (Ri P) := by
  have hT := tb_133
  show wp X (0, 0) 133 0 [some (.ref 74), some (.int x1), some (.int x2), some (.int x3)] [] iv (Ri P)
  refine wp_s hT 1 (i' := 1) (L' := [some (.ref 74), some (.int x1), some (.int x2), some (.int x3)]) (st' := [.int x1]) rfl ?_
  refine wp_calli hT rfl rfl h (fun r2 iv1 h => ?_)
  refine wp_if_eq hT rfl ⟨fun c => ?_, fun c => ?_⟩
  · have h := h.1 c
    refine wp_s hT 1 (i' := 16) (L' := [some (.ref 74), some (.int x1), some (.int x2), some (.int x3)]) (st' := [.int (nI 2147483648)]) rfl ?_
    exact wp_ri hT rfl rfl ⟨_, rfl, h⟩
  · have h := h.2 c
    refine wp_s hT 4 (i' := 7) (L' := [some (.ref 74), some (.int x1), some (.int x2), some (.int x3)]) (st' := [.long (lN 2), .long (lN 0), .long x2.toInt64]) rfl ?_
    refine wp_calli hT rfl rfl h (fun r4 iv3 h => ?_)
    refine wp_if_eq hT rfl ⟨fun c => ?_, fun c => ?_⟩
    · have h := h.1 c
      refine wp_s hT 1 (i' := 16) (L' := [some (.ref 74), some (.int x1), some (.int x2), some (.int x3)]) (st' := [.int (nI 2147483648)]) rfl ?_
      exact wp_ri hT rfl rfl ⟨_, rfl, h⟩
    · have h := h.2 c
      refine wp_s hT 4 (i' := 13) (L' := [some (.ref 74), some (.int x1), some (.int x2), some (.int x3)]) (st' := [.int x3, .int x2, .int x1, .ref 74]) rfl ?_
      refine wp_calli hT rfl rfl h (fun r6 iv5 h => ?_)
      refine wp_if_eq hT rfl ⟨fun c => ?_, fun c => ?_⟩
      · have h := h.1 c
        refine wp_s hT 7 (i' := 24) (L' := [some (.ref 74), some (.int x1), some (.int x2), some (.int x3)]) (st' := [.int (((nI 60) * x1) + x3), .ref 77]) rfl ?_
        refine wp_iald hT rfl rfl ⟨h.1, ?_⟩
        have h := h.2
        exact wp_ri hT rfl rfl ⟨_, rfl, h⟩
      · have h := h.2 c
        refine wp_s hT 1 (i' := 16) (L' := [some (.ref 74), some (.int x1), some (.int x2), some (.int x3)]) (st' := [.int (nI 2147483648)]) rfl ?_
        exact wp_ri hT rfl rfl ⟨_, rfl, h⟩

theorem mk_X11_copy_92 {X : Nat × (Nat → Int32)} {x3 : Int32} {x4 : Int32} {x5 : Int32} {x6 : Int32} {iv : IV} {P : Int32 → IV → Prop}
    (h : ((x5 ≤ x6 → P (nI 1) iv) ∧ (¬ (x5 ≤ x6) → vp_in x6 60 ∧ vp_in ((((nI 60) * x3) + x4) + x6) 240 ∧ (∀ iv1 : IV, iv1 = mm_up2 iv 77 ((((nI 60) * x3) + x4) + x6).toNatClampNeg (iv 78 x6.toNatClampNeg) → wp X (0, 0) 134 92 [some (.ref 74), none, none, some (.int x3), some (.int x4), some (.int x5), some (.int (x6 + nI 1))] [] iv1 (Ri P))))) :
    wp X (0, 0) 134 92 [some (.ref 74), none, none, some (.int x3), some (.int x4), some (.int x5), some (.int x6)] [] iv (Ri P) := by
  have hT := tb_134
  refine wp_s hT 2 (i' := 94) (L' := [some (.ref 74), none, none, some (.int x3), some (.int x4), some (.int x5), some (.int x6)]) (st' := [.int x5, .int x6]) rfl ?_
  refine wp_ic_ge hT rfl ⟨fun c => ?_, fun c => ?_⟩
  · have h := h.1 c
    refine wp_s hT 1 (i' := 112) (L' := [some (.ref 74), none, none, some (.int x3), some (.int x4), some (.int x5), some (.int x6)]) (st' := [.int (nI 1)]) rfl ?_
    exact wp_ri hT rfl rfl ⟨_, rfl, h⟩
  · have h := h.2 c
    refine wp_s hT 12 (i' := 107) (L' := [some (.ref 74), none, none, some (.int x3), some (.int x4), some (.int x5), some (.int x6)]) (st' := [.int x6, .ref 78, .int ((((nI 60) * x3) + x4) + x6), .ref 77]) rfl ?_
    refine wp_iald hT rfl rfl ⟨h.1, ?_⟩
    have h := h.2
    refine wp_iast hT rfl rfl ⟨h.1, ?_⟩
    have h := h.2
    have h := h _ rfl
    refine wp_s hT 2 (i' := 92) (L' := [some (.ref 74), none, none, some (.int x3), some (.int x4), some (.int x5), some (.int (x6 + nI 1))]) (st' := []) rfl ?_
    exact h

theorem mk_X11_copy_71 {X : Nat × (Nat → Int32)} {x1 : Int32} {x2 : Int32} {x3 : Int32} {x4 : Int32} {x5 : Int32} {x6 : Int32} {iv : IV} {P : Int32 → IV → Prop}
    (h : ((x5 ≤ x6 → wp X (0, 0) 134 92 [some (.ref 74), none, none, some (.int x3), some (.int x4), some (.int x5), some (.int (nI 0))] [] iv (Ri P)) ∧ (¬ (x5 ≤ x6) → vp_in ((((nI 60) * x1) + x2) + x6) 240 ∧ vp_in x6 60 ∧ (∀ iv1 : IV, iv1 = mm_up2 iv 78 x6.toNatClampNeg (iv 77 ((((nI 60) * x1) + x2) + x6).toNatClampNeg) → wp X (0, 0) 134 71 [some (.ref 74), some (.int x1), some (.int x2), some (.int x3), some (.int x4), some (.int x5), some (.int (x6 + nI 1))] [] iv1 (Ri P))))) :
    wp X (0, 0) 134 71 [some (.ref 74), some (.int x1), some (.int x2), some (.int x3), some (.int x4), some (.int x5), some (.int x6)] [] iv (Ri P) := by
  have hT := tb_134
  refine wp_s hT 2 (i' := 73) (L' := [some (.ref 74), some (.int x1), some (.int x2), some (.int x3), some (.int x4), some (.int x5), some (.int x6)]) (st' := [.int x5, .int x6]) rfl ?_
  refine wp_ic_ge hT rfl ⟨fun c => ?_, fun c => ?_⟩
  · have h := h.1 c
    refine wp_s hT 2 (i' := 92) (L' := [some (.ref 74), some (.int x1), some (.int x2), some (.int x3), some (.int x4), some (.int x5), some (.int (nI 0))]) (st' := []) rfl ?_
    refine wp_le (L := [some (.ref 74), none, none, some (.int x3), some (.int x4), some (.int x5), some (.int (nI 0))]) ⟨Or.inl rfl, Or.inr ⟨rfl, rfl⟩, Or.inr ⟨rfl, rfl⟩, Or.inl rfl, Or.inl rfl, Or.inl rfl, Or.inl rfl, trivial⟩ ?_
    exact h
  · have h := h.2 c
    refine wp_s hT 12 (i' := 86) (L' := [some (.ref 74), some (.int x1), some (.int x2), some (.int x3), some (.int x4), some (.int x5), some (.int x6)]) (st' := [.int ((((nI 60) * x1) + x2) + x6), .ref 77, .int x6, .ref 78]) rfl ?_
    refine wp_iald hT rfl rfl ⟨h.1, ?_⟩
    have h := h.2
    refine wp_iast hT rfl rfl ⟨h.1, ?_⟩
    have h := h.2
    have h := h _ rfl
    refine wp_s hT 2 (i' := 71) (L' := [some (.ref 74), some (.int x1), some (.int x2), some (.int x3), some (.int x4), some (.int x5), some (.int (x6 + nI 1))]) (st' := []) rfl ?_
    exact h

theorem mk_X11_copy {X : Nat × (Nat → Int32)} {x1 : Int32} {x2 : Int32} {x3 : Int32} {x4 : Int32} {x5 : Int32} {iv : IV} {P : Int32 → IV → Prop}
    (h : wc X 127 [.int x1] iv (Ri (fun r2 iv1 => ((r2 = 0 → P (nI 4294967294) iv1) ∧ (¬ (r2 = 0) → wc X 127 [.int x3] iv1 (Ri (fun r4 iv3 => ((r4 = 0 → P (nI 4294967294) iv3) ∧ (¬ (r4 = 0) → vp_in x1 4 ∧ ((iv3 75 x1.toNatClampNeg < 0 → wc X 126 [.ref 74, .int (nI 1)] iv3 (Ri (fun r6 iv5 => P r6 iv5))) ∧ (¬ (iv3 75 x1.toNatClampNeg < 0) → vp_in x3 4 ∧ ((0 ≤ iv3 75 x3.toNatClampNeg → vp_in x1 4 ∧ vp_in x3 4 ∧ (((iv3 75 x1.toNatClampNeg) = (iv3 75 x3.toNatClampNeg) → ((x2 < 0 → wc X 126 [.ref 74, .int (nI 2)] iv3 (Ri (fun r8 iv7 => P r8 iv7))) ∧ (¬ (x2 < 0) → ((x4 < 0 → wc X 126 [.ref 74, .int (nI 2)] iv3 (Ri (fun r10 iv9 => P r10 iv9))) ∧ (¬ (x4 < 0) → ((x5 < 0 → wc X 126 [.ref 74, .int (nI 2)] iv3 (Ri (fun r12 iv11 => P r12 iv11))) ∧ (¬ (x5 < 0) → vp_in x1 4 ∧ ((0 < lg_cmp (x2.toInt64 + x5.toInt64) ((iv3 76 x1.toNatClampNeg).toInt64) → wc X 126 [.ref 74, .int (nI 2)] iv3 (Ri (fun r14 iv13 => P r14 iv13))) ∧ (¬ (0 < lg_cmp (x2.toInt64 + x5.toInt64) ((iv3 76 x1.toNatClampNeg).toInt64)) → vp_in x3 4 ∧ ((lg_cmp (x4.toInt64 + x5.toInt64) ((iv3 76 x3.toNatClampNeg).toInt64) ≤ 0 → wp X (0, 0) 134 71 [some (.ref 74), some (.int x1), some (.int x2), some (.int x3), some (.int x4), some (.int x5), some (.int (nI 0))] [] iv3 (Ri P)) ∧ (¬ (lg_cmp (x4.toInt64 + x5.toInt64) ((iv3 76 x3.toNatClampNeg).toInt64) ≤ 0) → wc X 126 [.ref 74, .int (nI 2)] iv3 (Ri (fun r16 iv15 => P r16 iv15))))))))))))) ∧ (¬ ((iv3 75 x1.toNatClampNeg) = (iv3 75 x3.toNatClampNeg)) → wc X 126 [.ref 74, .int (nI 4)] iv3 (Ri (fun r18 iv17 => P r18 iv17))))) ∧ (¬ (0 ≤ iv3 75 x3.toNatClampNeg) → wc X 126 [.ref 74, .int (nI 1)] iv3 (Ri (fun r20 iv19 => P r20 iv19))))))))))))))) :
    wc X 134 [.ref 74, .int x1, .int x2, .int x3, .int x4, .int x5] iv (Ri P) := by
  have hT := tb_134
  show wp X (0, 0) 134 0 [some (.ref 74), some (.int x1), some (.int x2), some (.int x3), some (.int x4), some (.int x5), none] [] iv (Ri P)
  refine wp_s hT 1 (i' := 1) (L' := [some (.ref 74), some (.int x1), some (.int x2), some (.int x3), some (.int x4), some (.int x5), none]) (st' := [.int x1]) rfl ?_
  refine wp_calli hT rfl rfl h (fun r2 iv1 h => ?_)
  refine wp_if_eq hT rfl ⟨fun c => ?_, fun c => ?_⟩
  · have h := h.1 c
    refine wp_s hT 1 (i' := 7) (L' := [some (.ref 74), some (.int x1), some (.int x2), some (.int x3), some (.int x4), some (.int x5), none]) (st' := [.int (nI 4294967294)]) rfl ?_
    exact wp_ri hT rfl rfl ⟨_, rfl, h⟩
  · have h := h.2 c
    refine wp_s hT 1 (i' := 4) (L' := [some (.ref 74), some (.int x1), some (.int x2), some (.int x3), some (.int x4), some (.int x5), none]) (st' := [.int x3]) rfl ?_
    refine wp_calli hT rfl rfl h (fun r4 iv3 h => ?_)
    refine wp_if_ne hT rfl ⟨fun c => ?_, fun c => ?_⟩
    · have h := h.1 c
      refine wp_s hT 1 (i' := 7) (L' := [some (.ref 74), some (.int x1), some (.int x2), some (.int x3), some (.int x4), some (.int x5), none]) (st' := [.int (nI 4294967294)]) rfl ?_
      exact wp_ri hT rfl rfl ⟨_, rfl, h⟩
    · have h := h.2 c
      refine wp_s hT 3 (i' := 11) (L' := [some (.ref 74), some (.int x1), some (.int x2), some (.int x3), some (.int x4), some (.int x5), none]) (st' := [.int x1, .ref 75]) rfl ?_
      refine wp_iald hT rfl rfl ⟨h.1, ?_⟩
      have h := h.2
      refine wp_if_lt hT rfl ⟨fun c => ?_, fun c => ?_⟩
      · have h := h.1 c
        refine wp_s hT 2 (i' := 20) (L' := [some (.ref 74), some (.int x1), some (.int x2), some (.int x3), some (.int x4), some (.int x5), none]) (st' := [.int (nI 1), .ref 74]) rfl ?_
        refine wp_calli hT rfl rfl h (fun r6 iv5 h => ?_)
        exact wp_ri hT rfl rfl ⟨_, rfl, h⟩
      · have h := h.2 c
        refine wp_s hT 3 (i' := 16) (L' := [some (.ref 74), some (.int x1), some (.int x2), some (.int x3), some (.int x4), some (.int x5), none]) (st' := [.int x3, .ref 75]) rfl ?_
        refine wp_iald hT rfl rfl ⟨h.1, ?_⟩
        have h := h.2
        refine wp_if_ge hT rfl ⟨fun c => ?_, fun c => ?_⟩
        · have h := h.1 c
          refine wp_s hT 3 (i' := 25) (L' := [some (.ref 74), some (.int x1), some (.int x2), some (.int x3), some (.int x4), some (.int x5), none]) (st' := [.int x1, .ref 75]) rfl ?_
          refine wp_iald hT rfl rfl ⟨h.1, ?_⟩
          have h := h.2
          refine wp_s hT 3 (i' := 29) (L' := [some (.ref 74), some (.int x1), some (.int x2), some (.int x3), some (.int x4), some (.int x5), none]) (st' := [.int x3, .ref 75, .int (iv3 75 x1.toNatClampNeg)]) rfl ?_
          refine wp_iald hT rfl rfl ⟨h.1, ?_⟩
          have h := h.2
          refine wp_ic_eq hT rfl ⟨fun c => ?_, fun c => ?_⟩
          · have h := h.1 c
            refine wp_s hT 1 (i' := 36) (L' := [some (.ref 74), some (.int x1), some (.int x2), some (.int x3), some (.int x4), some (.int x5), none]) (st' := [.int x2]) rfl ?_
            refine wp_if_lt hT rfl ⟨fun c => ?_, fun c => ?_⟩
            · have h := h.1 c
              refine wp_s hT 2 (i' := 67) (L' := [some (.ref 74), some (.int x1), some (.int x2), some (.int x3), some (.int x4), some (.int x5), none]) (st' := [.int (nI 2), .ref 74]) rfl ?_
              refine wp_calli hT rfl rfl h (fun r8 iv7 h => ?_)
              exact wp_ri hT rfl rfl ⟨_, rfl, h⟩
            · have h := h.2 c
              refine wp_s hT 1 (i' := 38) (L' := [some (.ref 74), some (.int x1), some (.int x2), some (.int x3), some (.int x4), some (.int x5), none]) (st' := [.int x4]) rfl ?_
              refine wp_if_lt hT rfl ⟨fun c => ?_, fun c => ?_⟩
              · have h := h.1 c
                refine wp_s hT 2 (i' := 67) (L' := [some (.ref 74), some (.int x1), some (.int x2), some (.int x3), some (.int x4), some (.int x5), none]) (st' := [.int (nI 2), .ref 74]) rfl ?_
                refine wp_calli hT rfl rfl h (fun r10 iv9 h => ?_)
                exact wp_ri hT rfl rfl ⟨_, rfl, h⟩
              · have h := h.2 c
                refine wp_s hT 1 (i' := 40) (L' := [some (.ref 74), some (.int x1), some (.int x2), some (.int x3), some (.int x4), some (.int x5), none]) (st' := [.int x5]) rfl ?_
                refine wp_if_lt hT rfl ⟨fun c => ?_, fun c => ?_⟩
                · have h := h.1 c
                  refine wp_s hT 2 (i' := 67) (L' := [some (.ref 74), some (.int x1), some (.int x2), some (.int x3), some (.int x4), some (.int x5), none]) (st' := [.int (nI 2), .ref 74]) rfl ?_
                  refine wp_calli hT rfl rfl h (fun r12 iv11 h => ?_)
                  exact wp_ri hT rfl rfl ⟨_, rfl, h⟩
                · have h := h.2 c
                  refine wp_s hT 8 (i' := 49) (L' := [some (.ref 74), some (.int x1), some (.int x2), some (.int x3), some (.int x4), some (.int x5), none]) (st' := [.int x1, .ref 76, .long (x2.toInt64 + x5.toInt64)]) rfl ?_
                  refine wp_iald hT rfl rfl ⟨h.1, ?_⟩
                  have h := h.2
                  refine wp_s hT 2 (i' := 52) (L' := [some (.ref 74), some (.int x1), some (.int x2), some (.int x3), some (.int x4), some (.int x5), none]) (st' := [.int (lg_cmp (x2.toInt64 + x5.toInt64) ((iv3 76 x1.toNatClampNeg).toInt64))]) rfl ?_
                  refine wp_if_gt hT rfl ⟨fun c => ?_, fun c => ?_⟩
                  · have h := h.1 c
                    refine wp_s hT 2 (i' := 67) (L' := [some (.ref 74), some (.int x1), some (.int x2), some (.int x3), some (.int x4), some (.int x5), none]) (st' := [.int (nI 2), .ref 74]) rfl ?_
                    refine wp_calli hT rfl rfl h (fun r14 iv13 h => ?_)
                    exact wp_ri hT rfl rfl ⟨_, rfl, h⟩
                  · have h := h.2 c
                    refine wp_s hT 8 (i' := 61) (L' := [some (.ref 74), some (.int x1), some (.int x2), some (.int x3), some (.int x4), some (.int x5), none]) (st' := [.int x3, .ref 76, .long (x4.toInt64 + x5.toInt64)]) rfl ?_
                    refine wp_iald hT rfl rfl ⟨h.1, ?_⟩
                    have h := h.2
                    refine wp_s hT 2 (i' := 64) (L' := [some (.ref 74), some (.int x1), some (.int x2), some (.int x3), some (.int x4), some (.int x5), none]) (st' := [.int (lg_cmp (x4.toInt64 + x5.toInt64) ((iv3 76 x3.toNatClampNeg).toInt64))]) rfl ?_
                    refine wp_if_le hT rfl ⟨fun c => ?_, fun c => ?_⟩
                    · have h := h.1 c
                      refine wp_s hT 2 (i' := 71) (L' := [some (.ref 74), some (.int x1), some (.int x2), some (.int x3), some (.int x4), some (.int x5), some (.int (nI 0))]) (st' := []) rfl ?_
                      exact h
                    · have h := h.2 c
                      refine wp_s hT 2 (i' := 67) (L' := [some (.ref 74), some (.int x1), some (.int x2), some (.int x3), some (.int x4), some (.int x5), none]) (st' := [.int (nI 2), .ref 74]) rfl ?_
                      refine wp_calli hT rfl rfl h (fun r16 iv15 h => ?_)
                      exact wp_ri hT rfl rfl ⟨_, rfl, h⟩
          · have h := h.2 c
            refine wp_s hT 2 (i' := 33) (L' := [some (.ref 74), some (.int x1), some (.int x2), some (.int x3), some (.int x4), some (.int x5), none]) (st' := [.int (nI 4), .ref 74]) rfl ?_
            refine wp_calli hT rfl rfl h (fun r18 iv17 h => ?_)
            exact wp_ri hT rfl rfl ⟨_, rfl, h⟩
        · have h := h.2 c
          refine wp_s hT 2 (i' := 20) (L' := [some (.ref 74), some (.int x1), some (.int x2), some (.int x3), some (.int x4), some (.int x5), none]) (st' := [.int (nI 1), .ref 74]) rfl ?_
          refine wp_calli hT rfl rfl h (fun r20 iv19 h => ?_)
          exact wp_ri hT rfl rfl ⟨_, rfl, h⟩

theorem mk_X11_twice {X : Nat × (Nat → Int32)} {x0 : Int32} {iv : IV} {P : Int32 → IV → Prop}
    (h : (((x0 * (nI 2)) ≤ (nI 15) → P (x0 * (nI 2)) iv) ∧ (¬ ((x0 * (nI 2)) ≤ (nI 15)) → P ((x0 * (nI 2)) ^^^ (nI 19)) iv))) :
    wc X 135 [.int x0] iv (Ri P) := by
  have hT := tb_135
  show wp X (0, 0) 135 0 [some (.int x0), none] [] iv (Ri P)
  refine wp_s hT 6 (i' := 6) (L' := [some (.int x0), some (.int (x0 * (nI 2)))]) (st' := [.int (nI 15), .int (x0 * (nI 2))]) rfl ?_
  refine wp_ic_le hT rfl ⟨fun c => ?_, fun c => ?_⟩
  · have h := h.1 c
    refine wp_s hT 1 (i' := 12) (L' := [some (.int x0), some (.int (x0 * (nI 2)))]) (st' := [.int (x0 * (nI 2))]) rfl ?_
    exact wp_ri hT rfl rfl ⟨_, rfl, h⟩
  · have h := h.2 c
    refine wp_s hT 4 (i' := 12) (L' := [some (.int x0), some (.int (x0 * (nI 2)))]) (st' := [.int ((x0 * (nI 2)) ^^^ (nI 19))]) rfl ?_
    exact wp_ri hT rfl rfl ⟨_, rfl, h⟩

theorem mk_X11_multiplied_6 {X : Nat × (Nat → Int32)} {x2 : Int32} {x3 : Int32} {x4 : Int32} {iv : IV} {P : Int32 → IV → Prop}
    (h : ((x2 ≤ 0 → P x4 iv) ∧ (¬ (x2 ≤ 0) → (((x2 &&& (nI 1)) = (nI 1) → wc X 135 [.int x3] iv (Ri (fun r2 iv1 => ∀ v3 : Int32, v3 = x2 >>> ((nI 1) &&& 31) → wp X (0, 0) 136 6 [none, none, some (.int v3), some (.int r2), some (.int (x4 ^^^ x3))] [] iv1 (Ri P)))) ∧ (¬ ((x2 &&& (nI 1)) = (nI 1)) → ∀ v4 : Int32, v4 = x4 ^^^ (nI 0) → wc X 135 [.int x3] iv (Ri (fun r6 iv5 => ∀ v7 : Int32, v7 = x2 >>> ((nI 1) &&& 31) → wp X (0, 0) 136 6 [none, none, some (.int v7), some (.int r6), some (.int v4)] [] iv5 (Ri P)))))))) :
    wp X (0, 0) 136 6 [none, none, some (.int x2), some (.int x3), some (.int x4)] [] iv (Ri P) := by
  have hT := tb_136
  refine wp_s hT 1 (i' := 7) (L' := [none, none, some (.int x2), some (.int x3), some (.int x4)]) (st' := [.int x2]) rfl ?_
  refine wp_if_le hT rfl ⟨fun c => ?_, fun c => ?_⟩
  · have h := h.1 c
    refine wp_s hT 1 (i' := 28) (L' := [none, none, some (.int x2), some (.int x3), some (.int x4)]) (st' := [.int x4]) rfl ?_
    exact wp_ri hT rfl rfl ⟨_, rfl, h⟩
  · have h := h.2 c
    refine wp_s hT 5 (i' := 13) (L' := [none, none, some (.int x2), some (.int x3), some (.int x4)]) (st' := [.int (nI 1), .int (x2 &&& (nI 1)), .int x4]) rfl ?_
    refine wp_ic_ne hT rfl ⟨fun c => ?_, fun c => ?_⟩
    · have h := h.1 c
      refine wp_s hT 5 (i' := 20) (L' := [none, none, some (.int x2), some (.int x3), some (.int (x4 ^^^ x3))]) (st' := [.int x3]) rfl ?_
      refine wp_calli hT rfl rfl h (fun r2 iv1 h => ?_)
      refine wp_s hT 5 (i' := 26) (L' := [none, none, some (.int (x2 >>> ((nI 1) &&& 31))), some (.int r2), some (.int (x4 ^^^ x3))]) (st' := []) rfl ?_
      have h := h _ rfl
      refine wp_s hT 1 (i' := 6) (L' := [none, none, some (.int (x2 >>> ((nI 1) &&& 31))), some (.int r2), some (.int (x4 ^^^ x3))]) (st' := []) rfl ?_
      exact h
    · have h := h.2 c
      refine wp_s hT 3 (i' := 19) (L' := [none, none, some (.int x2), some (.int x3), some (.int (x4 ^^^ (nI 0)))]) (st' := []) rfl ?_
      have h := h _ rfl
      refine wp_s hT 1 (i' := 20) (L' := [none, none, some (.int x2), some (.int x3), some (.int (x4 ^^^ (nI 0)))]) (st' := [.int x3]) rfl ?_
      refine wp_calli hT rfl rfl h (fun r6 iv5 h => ?_)
      refine wp_s hT 5 (i' := 26) (L' := [none, none, some (.int (x2 >>> ((nI 1) &&& 31))), some (.int r6), some (.int (x4 ^^^ (nI 0)))]) (st' := []) rfl ?_
      have h := h _ rfl
      refine wp_s hT 1 (i' := 6) (L' := [none, none, some (.int (x2 >>> ((nI 1) &&& 31))), some (.int r6), some (.int (x4 ^^^ (nI 0)))]) (st' := []) rfl ?_
      exact h

theorem mk_X11_multiplied {X : Nat × (Nat → Int32)} {x0 : Int32} {x1 : Int32} {iv : IV} {P : Int32 → IV → Prop}
    (h : wp X (0, 0) 136 6 [none, none, some (.int x1), some (.int x0), some (.int (nI 0))] [] iv (Ri P)) :
    wc X 136 [.int x0, .int x1] iv (Ri P) := by
  have hT := tb_136
  show wp X (0, 0) 136 0 [some (.int x0), some (.int x1), none, none, none] [] iv (Ri P)
  refine wp_s hT 6 (i' := 6) (L' := [some (.int x0), some (.int x1), some (.int x1), some (.int x0), some (.int (nI 0))]) (st' := []) rfl ?_
  refine wp_le (L := [none, none, some (.int x1), some (.int x0), some (.int (nI 0))]) ⟨Or.inr ⟨rfl, rfl⟩, Or.inr ⟨rfl, rfl⟩, Or.inl rfl, Or.inl rfl, Or.inl rfl, trivial⟩ ?_
  exact h

theorem mk_X11_often_4 {X : Nat × (Nat → Int32)} {x0 : Int32} {x1 : Int32} {x2 : Int32} {x3 : Int32} {iv : IV} {P : Int32 → IV → Prop}
    (h : ((x1 ≤ x3 → P x2 iv) ∧ (¬ (x1 ≤ x3) → wc X 136 [.int x2, .int x0] iv (Ri (fun r2 iv1 => wp X (0, 0) 137 4 [some (.int x0), some (.int x1), some (.int r2), some (.int (x3 + nI 1))] [] iv1 (Ri P)))))) :
    wp X (0, 0) 137 4 [some (.int x0), some (.int x1), some (.int x2), some (.int x3)] [] iv (Ri P) := by
  have hT := tb_137
  refine wp_s hT 2 (i' := 6) (L' := [some (.int x0), some (.int x1), some (.int x2), some (.int x3)]) (st' := [.int x1, .int x3]) rfl ?_
  refine wp_ic_ge hT rfl ⟨fun c => ?_, fun c => ?_⟩
  · have h := h.1 c
    refine wp_s hT 1 (i' := 14) (L' := [some (.int x0), some (.int x1), some (.int x2), some (.int x3)]) (st' := [.int x2]) rfl ?_
    exact wp_ri hT rfl rfl ⟨_, rfl, h⟩
  · have h := h.2 c
    refine wp_s hT 2 (i' := 9) (L' := [some (.int x0), some (.int x1), some (.int x2), some (.int x3)]) (st' := [.int x0, .int x2]) rfl ?_
    refine wp_calli hT rfl rfl h (fun r2 iv1 h => ?_)
    refine wp_s hT 3 (i' := 4) (L' := [some (.int x0), some (.int x1), some (.int r2), some (.int (x3 + nI 1))]) (st' := []) rfl ?_
    exact h

theorem mk_X11_often {X : Nat × (Nat → Int32)} {x0 : Int32} {x1 : Int32} {iv : IV} {P : Int32 → IV → Prop}
    (h : wp X (0, 0) 137 4 [some (.int x0), some (.int x1), some (.int (nI 1)), some (.int (nI 0))] [] iv (Ri P)) :
    wc X 137 [.int x0, .int x1] iv (Ri P) := by
  have hT := tb_137
  show wp X (0, 0) 137 0 [some (.int x0), some (.int x1), none, none] [] iv (Ri P)
  refine wp_s hT 4 (i' := 4) (L' := [some (.int x0), some (.int x1), some (.int (nI 1)), some (.int (nI 0))]) (st' := []) rfl ?_
  exact h

theorem mk_X11_inverse {X : Nat × (Nat → Int32)} {x0 : Int32} {iv : IV} {P : Int32 → IV → Prop}
    (h : wc X 137 [.int x0, .int (nI 14)] iv (Ri (fun r2 iv1 => P r2 iv1))) :
    wc X 138 [.int x0] iv (Ri P) := by
  have hT := tb_138
  show wp X (0, 0) 138 0 [some (.int x0)] [] iv (Ri P)
  refine wp_s hT 2 (i' := 2) (L' := [some (.int x0)]) (st' := [.int (nI 14), .int x0]) rfl ?_
  refine wp_calli hT rfl rfl h (fun r2 iv1 h => ?_)
  exact wp_ri hT rfl rfl ⟨_, rfl, h⟩

theorem mk_X11_product {X : Nat × (Nat → Int32)} {x1 : Int32} {x2 : Int32} {iv : IV} {P : Int32 → IV → Prop}
    (h : vp_in (((nI 16) * x1) + x2) 256 ∧ P (iv 81 (((nI 16) * x1) + x2).toNatClampNeg) iv) :
    wc X 139 [.ref 74, .int x1, .int x2] iv (Ri P) := by
  have hT := tb_139
  show wp X (0, 0) 139 0 [some (.ref 74), some (.int x1), some (.int x2)] [] iv (Ri P)
  refine wp_s hT 7 (i' := 7) (L' := [some (.ref 74), some (.int x1), some (.int x2)]) (st' := [.int (((nI 16) * x1) + x2), .ref 81]) rfl ?_
  refine wp_iald hT rfl rfl ⟨h.1, ?_⟩
  have h := h.2
  exact wp_ri hT rfl rfl ⟨_, rfl, h⟩

theorem mk_X11_power {X : Nat × (Nat → Int32)} {x1 : Int32} {iv : IV} {P : Int32 → IV → Prop}
    (h : vp_in (x1 - x1 / (nI 15) * (nI 15)) 15 ∧ P (iv 79 (x1 - x1 / (nI 15) * (nI 15)).toNatClampNeg) iv) :
    wc X 140 [.ref 74, .int x1] iv (Ri P) := by
  have hT := tb_140
  show wp X (0, 0) 140 0 [some (.ref 74), some (.int x1)] [] iv (Ri P)
  refine wp_s hT 5 (i' := 5) (L' := [some (.ref 74), some (.int x1)]) (st' := [.int (x1 - x1 / (nI 15) * (nI 15)), .ref 79]) rfl ?_
  refine wp_iald hT rfl rfl ⟨h.1, ?_⟩
  have h := h.2
  exact wp_ri hT rfl rfl ⟨_, rfl, h⟩

theorem mk_X11_fieldBy {X : Nat × (Nat → Int32)} {x0 : Int32} {x1 : Int32} {x2 : Int32} {iv : IV} {P : Int32 → IV → Prop}
    (h : ((x2 = 0 → wc X 136 [.int x0, .int x1] iv (Ri (fun r2 iv1 => P r2 iv1))) ∧ (¬ (x2 = 0) → ((x2 = (nI 1) → ((x1 = 0 → P (nI 4294967295) iv) ∧ (¬ (x1 = 0) → wc X 138 [.int x1] iv (Ri (fun r4 iv3 => wc X 136 [.int x0, .int r4] iv3 (Ri (fun r6 iv5 => P r6 iv5))))))) ∧ (¬ (x2 = (nI 1)) → wc X 137 [.int x0, .int x1] iv (Ri (fun r8 iv7 => P r8 iv7))))))) :
    wc X 141 [.int x0, .int x1, .int x2] iv (Ri P) := by
  have hT := tb_141
  show wp X (0, 0) 141 0 [some (.int x0), some (.int x1), some (.int x2)] [] iv (Ri P)
  refine wp_s hT 1 (i' := 1) (L' := [some (.int x0), some (.int x1), some (.int x2)]) (st' := [.int x2]) rfl ?_
  refine wp_if_ne hT rfl ⟨fun c => ?_, fun c => ?_⟩
  · have h := h.1 c
    refine wp_s hT 2 (i' := 4) (L' := [some (.int x0), some (.int x1), some (.int x2)]) (st' := [.int x1, .int x0]) rfl ?_
    refine wp_calli hT rfl rfl h (fun r2 iv1 h => ?_)
    refine wp_s hT 1 (i' := 21) (L' := [some (.int x0), some (.int x1), some (.int x2)]) (st' := [.int r2]) rfl ?_
    exact wp_ri hT rfl rfl ⟨_, rfl, h⟩
  · have h := h.2 c
    refine wp_s hT 2 (i' := 8) (L' := [some (.int x0), some (.int x1), some (.int x2)]) (st' := [.int (nI 1), .int x2]) rfl ?_
    refine wp_ic_ne hT rfl ⟨fun c => ?_, fun c => ?_⟩
    · have h := h.1 c
      refine wp_s hT 1 (i' := 10) (L' := [some (.int x0), some (.int x1), some (.int x2)]) (st' := [.int x1]) rfl ?_
      refine wp_if_ne hT rfl ⟨fun c => ?_, fun c => ?_⟩
      · have h := h.1 c
        refine wp_s hT 2 (i' := 21) (L' := [some (.int x0), some (.int x1), some (.int x2)]) (st' := [.int (nI 4294967295)]) rfl ?_
        exact wp_ri hT rfl rfl ⟨_, rfl, h⟩
      · have h := h.2 c
        refine wp_s hT 2 (i' := 15) (L' := [some (.int x0), some (.int x1), some (.int x2)]) (st' := [.int x1, .int x0]) rfl ?_
        refine wp_calli hT rfl rfl h (fun r4 iv3 h => ?_)
        refine wp_calli hT rfl rfl h (fun r6 iv5 h => ?_)
        refine wp_s hT 1 (i' := 21) (L' := [some (.int x0), some (.int x1), some (.int x2)]) (st' := [.int r6]) rfl ?_
        exact wp_ri hT rfl rfl ⟨_, rfl, h⟩
    · have h := h.2 c
      refine wp_s hT 2 (i' := 20) (L' := [some (.int x0), some (.int x1), some (.int x2)]) (st' := [.int x1, .int x0]) rfl ?_
      refine wp_calli hT rfl rfl h (fun r8 iv7 h => ?_)
      exact wp_ri hT rfl rfl ⟨_, rfl, h⟩

theorem mk_X11_field {X : Nat × (Nat → Int32)} {x1 : Int32} {x2 : Int32} {x3 : Int32} {iv : IV} {P : Int32 → IV → Prop}
    (h : wc X 122 [.long x1.toInt64, .long (lN 0), .long (lN 15)] iv (Ri (fun r2 iv1 => ((r2 = 0 → P (nI 4294967294) iv1) ∧ (¬ (r2 = 0) → wc X 122 [.long x2.toInt64, .long (lN 0), .long (lN 15)] iv1 (Ri (fun r4 iv3 => ((r4 = 0 → P (nI 4294967294) iv3) ∧ (¬ (r4 = 0) → wc X 122 [.long x3.toInt64, .long (lN 0), .long (lN 2)] iv3 (Ri (fun r6 iv5 => ((r6 = 0 → P (nI 4294967294) iv5) ∧ (¬ (r6 = 0) → wc X 141 [.int x1, .int x2, .int x3] iv5 (Ri (fun r8 iv7 => P r8 iv7))))))))))))))) :
    wc X 142 [.ref 74, .int x1, .int x2, .int x3] iv (Ri P) := by
  have hT := tb_142
  show wp X (0, 0) 142 0 [some (.ref 74), some (.int x1), some (.int x2), some (.int x3)] [] iv (Ri P)
  refine wp_s hT 4 (i' := 4) (L' := [some (.ref 74), some (.int x1), some (.int x2), some (.int x3)]) (st' := [.long (lN 15), .long (lN 0), .long x1.toInt64]) rfl ?_
  refine wp_calli hT rfl rfl h (fun r2 iv1 h => ?_)
  refine wp_if_eq hT rfl ⟨fun c => ?_, fun c => ?_⟩
  · have h := h.1 c
    refine wp_s hT 1 (i' := 24) (L' := [some (.ref 74), some (.int x1), some (.int x2), some (.int x3)]) (st' := [.int (nI 4294967294)]) rfl ?_
    exact wp_ri hT rfl rfl ⟨_, rfl, h⟩
  · have h := h.2 c
    refine wp_s hT 4 (i' := 10) (L' := [some (.ref 74), some (.int x1), some (.int x2), some (.int x3)]) (st' := [.long (lN 15), .long (lN 0), .long x2.toInt64]) rfl ?_
    refine wp_calli hT rfl rfl h (fun r4 iv3 h => ?_)
    refine wp_if_eq hT rfl ⟨fun c => ?_, fun c => ?_⟩
    · have h := h.1 c
      refine wp_s hT 1 (i' := 24) (L' := [some (.ref 74), some (.int x1), some (.int x2), some (.int x3)]) (st' := [.int (nI 4294967294)]) rfl ?_
      exact wp_ri hT rfl rfl ⟨_, rfl, h⟩
    · have h := h.2 c
      refine wp_s hT 4 (i' := 16) (L' := [some (.ref 74), some (.int x1), some (.int x2), some (.int x3)]) (st' := [.long (lN 2), .long (lN 0), .long x3.toInt64]) rfl ?_
      refine wp_calli hT rfl rfl h (fun r6 iv5 h => ?_)
      refine wp_if_eq hT rfl ⟨fun c => ?_, fun c => ?_⟩
      · have h := h.1 c
        refine wp_s hT 1 (i' := 24) (L' := [some (.ref 74), some (.int x1), some (.int x2), some (.int x3)]) (st' := [.int (nI 4294967294)]) rfl ?_
        exact wp_ri hT rfl rfl ⟨_, rfl, h⟩
      · have h := h.2 c
        refine wp_s hT 3 (i' := 21) (L' := [some (.ref 74), some (.int x1), some (.int x2), some (.int x3)]) (st' := [.int x3, .int x2, .int x1]) rfl ?_
        refine wp_calli hT rfl rfl h (fun r8 iv7 h => ?_)
        refine wp_s hT 1 (i' := 24) (L' := [some (.ref 74), some (.int x1), some (.int x2), some (.int x3)]) (st' := [.int r8]) rfl ?_
        exact wp_ri hT rfl rfl ⟨_, rfl, h⟩

theorem mk_X11_type_42 {X : Nat × (Nat → Int32)} {x1 : Int32} {iv : IV} {P : Int32 → IV → Prop}
    (h : vp_in x1 2 ∧ vp_in x1 2 ∧ (∀ iv1 : IV, iv1 = mm_up2 iv 84 x1.toNatClampNeg ((iv 84 x1.toNatClampNeg) + (nI 1)) → vp_in x1 2 ∧ P (iv1 84 x1.toNatClampNeg) iv1)) :
    wp X (0, 0) 143 42 [some (.ref 74), some (.int x1), none] [] iv (Ri P) := by
  have hT := tb_143
  refine wp_s hT 4 (i' := 46) (L' := [some (.ref 74), some (.int x1), none]) (st' := [.int x1, .ref 84, .int x1, .ref 84]) rfl ?_
  refine wp_iald hT rfl rfl ⟨h.1, ?_⟩
  have h := h.2
  refine wp_s hT 2 (i' := 49) (L' := [some (.ref 74), some (.int x1), none]) (st' := [.int ((iv 84 x1.toNatClampNeg) + (nI 1)), .int x1, .ref 84]) rfl ?_
  refine wp_iast hT rfl rfl ⟨h.1, ?_⟩
  have h := h.2
  have h := h _ rfl
  refine wp_s hT 3 (i' := 53) (L' := [some (.ref 74), some (.int x1), none]) (st' := [.int x1, .ref 84]) rfl ?_
  refine wp_iald hT rfl rfl ⟨h.1, ?_⟩
  have h := h.2
  exact wp_ri hT rfl rfl ⟨_, rfl, h⟩

theorem mk_X11_type_20 {X : Nat × (Nat → Int32)} {x1 : Int32} {x2 : Int32} {s0 : Int32} {s1 : Int32} {iv : IV} {P : Int32 → IV → Prop}
    (h : ((s1 = s0 → P (nI 4294967292) iv) ∧ (¬ (s1 = s0) → ((x1 = 0 → vp_in x1 2 ∧ vp_in (iv 84 x1.toNatClampNeg) 14 ∧ (∀ iv1 : IV, iv1 = mm_up2 iv 82 (iv 84 x1.toNatClampNeg).toNatClampNeg x2 → wp X (0, 0) 143 42 [some (.ref 74), some (.int x1), none] [] iv1 (Ri P))) ∧ (¬ (x1 = 0) → vp_in x1 2 ∧ vp_in (iv 84 x1.toNatClampNeg) 3 ∧ (∀ iv2 : IV, iv2 = mm_up2 iv 83 (iv 84 x1.toNatClampNeg).toNatClampNeg x2 → wp X (0, 0) 143 42 [some (.ref 74), some (.int x1), none] [] iv2 (Ri P))))))) :
    wp X (0, 0) 143 20 [some (.ref 74), some (.int x1), some (.int x2)] [.int s0, .int s1] iv (Ri P) := by
  have hT := tb_143
  refine wp_ic_ne hT rfl ⟨fun c => ?_, fun c => ?_⟩
  · have h := h.1 c
    refine wp_s hT 1 (i' := 22) (L' := [some (.ref 74), some (.int x1), some (.int x2)]) (st' := [.int (nI 4294967292)]) rfl ?_
    exact wp_ri hT rfl rfl ⟨_, rfl, h⟩
  · have h := h.2 c
    refine wp_s hT 1 (i' := 24) (L' := [some (.ref 74), some (.int x1), some (.int x2)]) (st' := [.int x1]) rfl ?_
    refine wp_if_ne hT rfl ⟨fun c => ?_, fun c => ?_⟩
    · have h := h.1 c
      refine wp_s hT 5 (i' := 30) (L' := [some (.ref 74), some (.int x1), some (.int x2)]) (st' := [.int x1, .ref 84, .ref 82]) rfl ?_
      refine wp_iald hT rfl rfl ⟨h.1, ?_⟩
      have h := h.2
      refine wp_s hT 1 (i' := 32) (L' := [some (.ref 74), some (.int x1), some (.int x2)]) (st' := [.int x2, .int (iv 84 x1.toNatClampNeg), .ref 82]) rfl ?_
      refine wp_iast hT rfl rfl ⟨h.1, ?_⟩
      have h := h.2
      have h := h _ rfl
      refine wp_s hT 1 (i' := 42) (L' := [some (.ref 74), some (.int x1), some (.int x2)]) (st' := []) rfl ?_
      refine wp_le (L := [some (.ref 74), some (.int x1), none]) ⟨Or.inl rfl, Or.inl rfl, Or.inr ⟨rfl, rfl⟩, trivial⟩ ?_
      exact h
    · have h := h.2 c
      refine wp_s hT 5 (i' := 39) (L' := [some (.ref 74), some (.int x1), some (.int x2)]) (st' := [.int x1, .ref 84, .ref 83]) rfl ?_
      refine wp_iald hT rfl rfl ⟨h.1, ?_⟩
      have h := h.2
      refine wp_s hT 1 (i' := 41) (L' := [some (.ref 74), some (.int x1), some (.int x2)]) (st' := [.int x2, .int (iv 84 x1.toNatClampNeg), .ref 83]) rfl ?_
      refine wp_iast hT rfl rfl ⟨h.1, ?_⟩
      have h := h.2
      have h := h _ rfl
      refine wp_le (L := [some (.ref 74), some (.int x1), none]) ⟨Or.inl rfl, Or.inl rfl, Or.inr ⟨rfl, rfl⟩, trivial⟩ ?_
      exact h

theorem mk_X11_type {X : Nat × (Nat → Int32)} {x1 : Int32} {x2 : Int32} {iv : IV} {P : Int32 → IV → Prop}
    (h : wc X 123 [.int x1] iv (Ri (fun r2 iv1 => ((r2 = 0 → P (nI 4294967294) iv1) ∧ (¬ (r2 = 0) → wc X 122 [.long x2.toInt64, .long (lN 0), .long (lN 255)] iv1 (Ri (fun r4 iv3 => ((r4 = 0 → P (nI 4294967294) iv3) ∧ (¬ (r4 = 0) → vp_in x1 2 ∧ ((x1 = 0 → wp X (0, 0) 143 20 [some (.ref 74), some (.int x1), some (.int x2)] [.int (nI 14), .int (iv3 84 x1.toNatClampNeg)] iv3 (Ri P)) ∧ (¬ (x1 = 0) → wp X (0, 0) 143 20 [some (.ref 74), some (.int x1), some (.int x2)] [.int (nI 3), .int (iv3 84 x1.toNatClampNeg)] iv3 (Ri P)))))))))))) :
    wc X 143 [.ref 74, .int x1, .int x2] iv (Ri P) := by
  have hT := tb_143
  show wp X (0, 0) 143 0 [some (.ref 74), some (.int x1), some (.int x2)] [] iv (Ri P)
  refine wp_s hT 1 (i' := 1) (L' := [some (.ref 74), some (.int x1), some (.int x2)]) (st' := [.int x1]) rfl ?_
  refine wp_calli hT rfl rfl h (fun r2 iv1 h => ?_)
  refine wp_if_eq hT rfl ⟨fun c => ?_, fun c => ?_⟩
  · have h := h.1 c
    refine wp_s hT 1 (i' := 10) (L' := [some (.ref 74), some (.int x1), some (.int x2)]) (st' := [.int (nI 4294967294)]) rfl ?_
    exact wp_ri hT rfl rfl ⟨_, rfl, h⟩
  · have h := h.2 c
    refine wp_s hT 4 (i' := 7) (L' := [some (.ref 74), some (.int x1), some (.int x2)]) (st' := [.long (lN 255), .long (lN 0), .long x2.toInt64]) rfl ?_
    refine wp_calli hT rfl rfl h (fun r4 iv3 h => ?_)
    refine wp_if_ne hT rfl ⟨fun c => ?_, fun c => ?_⟩
    · have h := h.1 c
      refine wp_s hT 1 (i' := 10) (L' := [some (.ref 74), some (.int x1), some (.int x2)]) (st' := [.int (nI 4294967294)]) rfl ?_
      exact wp_ri hT rfl rfl ⟨_, rfl, h⟩
    · have h := h.2 c
      refine wp_s hT 3 (i' := 14) (L' := [some (.ref 74), some (.int x1), some (.int x2)]) (st' := [.int x1, .ref 84]) rfl ?_
      refine wp_iald hT rfl rfl ⟨h.1, ?_⟩
      have h := h.2
      refine wp_s hT 1 (i' := 16) (L' := [some (.ref 74), some (.int x1), some (.int x2)]) (st' := [.int x1, .int (iv3 84 x1.toNatClampNeg)]) rfl ?_
      refine wp_if_ne hT rfl ⟨fun c => ?_, fun c => ?_⟩
      · have h := h.1 c
        refine wp_s hT 2 (i' := 20) (L' := [some (.ref 74), some (.int x1), some (.int x2)]) (st' := [.int (nI 14), .int (iv3 84 x1.toNatClampNeg)]) rfl ?_
        exact h
      · have h := h.2 c
        refine wp_s hT 1 (i' := 20) (L' := [some (.ref 74), some (.int x1), some (.int x2)]) (st' := [.int (nI 3), .int (iv3 84 x1.toNatClampNeg)]) rfl ?_
        exact h

theorem mk_X11_wipe {X : Nat × (Nat → Int32)} {x1 : Int32} {iv : IV} {P : Int32 → IV → Prop}
    (h : wc X 123 [.int x1] iv (Ri (fun r2 iv1 => ((r2 = 0 → P (nI 4294967294) iv1) ∧ (¬ (r2 = 0) → vp_in x1 2 ∧ ∀ v3 : Int32, v3 = iv1 84 x1.toNatClampNeg → vp_in x1 2 ∧ (∀ iv4 : IV, iv4 = mm_up2 iv1 84 x1.toNatClampNeg (nI 0) → P v3 iv4)))))) :
    wc X 144 [.ref 74, .int x1] iv (Ri P) := by
  have hT := tb_144
  show wp X (0, 0) 144 0 [some (.ref 74), some (.int x1), none] [] iv (Ri P)
  refine wp_s hT 1 (i' := 1) (L' := [some (.ref 74), some (.int x1), none]) (st' := [.int x1]) rfl ?_
  refine wp_calli hT rfl rfl h (fun r2 iv1 h => ?_)
  refine wp_if_ne hT rfl ⟨fun c => ?_, fun c => ?_⟩
  · have h := h.1 c
    refine wp_s hT 1 (i' := 4) (L' := [some (.ref 74), some (.int x1), none]) (st' := [.int (nI 4294967294)]) rfl ?_
    exact wp_ri hT rfl rfl ⟨_, rfl, h⟩
  · have h := h.2 c
    refine wp_s hT 3 (i' := 8) (L' := [some (.ref 74), some (.int x1), none]) (st' := [.int x1, .ref 84]) rfl ?_
    refine wp_iald hT rfl rfl ⟨h.1, ?_⟩
    have h := h.2
    refine wp_s hT 1 (i' := 10) (L' := [some (.ref 74), some (.int x1), some (.int (iv1 84 x1.toNatClampNeg))]) (st' := []) rfl ?_
    have h := h _ rfl
    refine wp_s hT 4 (i' := 14) (L' := [some (.ref 74), some (.int x1), some (.int (iv1 84 x1.toNatClampNeg))]) (st' := [.int (nI 0), .int x1, .ref 84]) rfl ?_
    refine wp_iast hT rfl rfl ⟨h.1, ?_⟩
    have h := h.2
    have h := h _ rfl
    refine wp_s hT 1 (i' := 16) (L' := [some (.ref 74), some (.int x1), some (.int (iv1 84 x1.toNatClampNeg))]) (st' := [.int (iv1 84 x1.toNatClampNeg)]) rfl ?_
    exact wp_ri hT rfl rfl ⟨_, rfl, h⟩

theorem mk_X11_undo {X : Nat × (Nat → Int32)} {x1 : Int32} {iv : IV} {P : Int32 → IV → Prop}
    (h : wc X 123 [.int x1] iv (Ri (fun r2 iv1 => ((r2 = 0 → P (nI 4294967294) iv1) ∧ (¬ (r2 = 0) → vp_in x1 2 ∧ ((iv1 84 x1.toNatClampNeg = 0 → P (nI 4294967293) iv1) ∧ (¬ (iv1 84 x1.toNatClampNeg = 0) → vp_in x1 2 ∧ vp_in x1 2 ∧ (∀ iv3 : IV, iv3 = mm_up2 iv1 84 x1.toNatClampNeg ((iv1 84 x1.toNatClampNeg) - (nI 1)) → vp_in x1 2 ∧ P (iv3 84 x1.toNatClampNeg) iv3)))))))) :
    wc X 145 [.ref 74, .int x1] iv (Ri P) := by
  have hT := tb_145
  show wp X (0, 0) 145 0 [some (.ref 74), some (.int x1)] [] iv (Ri P)
  refine wp_s hT 1 (i' := 1) (L' := [some (.ref 74), some (.int x1)]) (st' := [.int x1]) rfl ?_
  refine wp_calli hT rfl rfl h (fun r2 iv1 h => ?_)
  refine wp_if_ne hT rfl ⟨fun c => ?_, fun c => ?_⟩
  · have h := h.1 c
    refine wp_s hT 1 (i' := 4) (L' := [some (.ref 74), some (.int x1)]) (st' := [.int (nI 4294967294)]) rfl ?_
    exact wp_ri hT rfl rfl ⟨_, rfl, h⟩
  · have h := h.2 c
    refine wp_s hT 3 (i' := 8) (L' := [some (.ref 74), some (.int x1)]) (st' := [.int x1, .ref 84]) rfl ?_
    refine wp_iald hT rfl rfl ⟨h.1, ?_⟩
    have h := h.2
    refine wp_if_ne hT rfl ⟨fun c => ?_, fun c => ?_⟩
    · have h := h.1 c
      refine wp_s hT 1 (i' := 11) (L' := [some (.ref 74), some (.int x1)]) (st' := [.int (nI 4294967293)]) rfl ?_
      exact wp_ri hT rfl rfl ⟨_, rfl, h⟩
    · have h := h.2 c
      refine wp_s hT 4 (i' := 16) (L' := [some (.ref 74), some (.int x1)]) (st' := [.int x1, .ref 84, .int x1, .ref 84]) rfl ?_
      refine wp_iald hT rfl rfl ⟨h.1, ?_⟩
      have h := h.2
      refine wp_s hT 2 (i' := 19) (L' := [some (.ref 74), some (.int x1)]) (st' := [.int ((iv1 84 x1.toNatClampNeg) - (nI 1)), .int x1, .ref 84]) rfl ?_
      refine wp_iast hT rfl rfl ⟨h.1, ?_⟩
      have h := h.2
      have h := h _ rfl
      refine wp_s hT 3 (i' := 23) (L' := [some (.ref 74), some (.int x1)]) (st' := [.int x1, .ref 84]) rfl ?_
      refine wp_iald hT rfl rfl ⟨h.1, ?_⟩
      have h := h.2
      exact wp_ri hT rfl rfl ⟨_, rfl, h⟩

theorem mk_X11_read_16 {X : Nat × (Nat → Int32)} {x1 : Int32} {x2 : Int32} {iv : IV} {P : Int32 → IV → Prop}
    (h : vp_in x1 4 ∧ (((iv 76 x1.toNatClampNeg) ≤ x2 → P x2 iv) ∧ (¬ ((iv 76 x1.toNatClampNeg) ≤ x2) → vp_in (((nI 60) * x1) + x2) 240 ∧ wc X 143 [.ref 74, .int (nI 0), .int (iv 77 (((nI 60) * x1) + x2).toNatClampNeg)] iv (Ri (fun r2 iv1 => ((r2 < 0 → P x2 iv1) ∧ (¬ (r2 < 0) → wp X (0, 0) 146 16 [some (.ref 74), some (.int x1), some (.int (x2 + nI 1))] [] iv1 (Ri P)))))))) :
    wp X (0, 0) 146 16 [some (.ref 74), some (.int x1), some (.int x2)] [] iv (Ri P) := by
  have hT := tb_146
  refine wp_s hT 4 (i' := 20) (L' := [some (.ref 74), some (.int x1), some (.int x2)]) (st' := [.int x1, .ref 76, .int x2]) rfl ?_
  refine wp_iald hT rfl rfl ⟨h.1, ?_⟩
  have h := h.2
  refine wp_ic_ge hT rfl ⟨fun c => ?_, fun c => ?_⟩
  · have h := h.1 c
    refine wp_s hT 1 (i' := 37) (L' := [some (.ref 74), some (.int x1), some (.int x2)]) (st' := [.int x2]) rfl ?_
    exact wp_ri hT rfl rfl ⟨_, rfl, h⟩
  · have h := h.2 c
    refine wp_s hT 9 (i' := 31) (L' := [some (.ref 74), some (.int x1), some (.int x2)]) (st' := [.int (((nI 60) * x1) + x2), .ref 77, .int (nI 0), .ref 74]) rfl ?_
    refine wp_iald hT rfl rfl ⟨h.1, ?_⟩
    have h := h.2
    refine wp_calli hT rfl rfl h (fun r2 iv1 h => ?_)
    refine wp_if_lt hT rfl ⟨fun c => ?_, fun c => ?_⟩
    · have h := h.1 c
      refine wp_s hT 1 (i' := 37) (L' := [some (.ref 74), some (.int x1), some (.int x2)]) (st' := [.int x2]) rfl ?_
      exact wp_ri hT rfl rfl ⟨_, rfl, h⟩
    · have h := h.2 c
      refine wp_s hT 2 (i' := 16) (L' := [some (.ref 74), some (.int x1), some (.int (x2 + nI 1))]) (st' := []) rfl ?_
      exact h

theorem mk_X11_read {X : Nat × (Nat → Int32)} {x1 : Int32} {iv : IV} {P : Int32 → IV → Prop}
    (h : wc X 127 [.int x1] iv (Ri (fun r2 iv1 => ((r2 = 0 → P (nI 4294967294) iv1) ∧ (¬ (r2 = 0) → vp_in x1 4 ∧ ((0 ≤ iv1 75 x1.toNatClampNeg → wp X (0, 0) 146 16 [some (.ref 74), some (.int x1), some (.int (nI 0))] [] iv1 (Ri P)) ∧ (¬ (0 ≤ iv1 75 x1.toNatClampNeg) → wc X 126 [.ref 74, .int (nI 1)] iv1 (Ri (fun r4 iv3 => P r4 iv3))))))))) :
    wc X 146 [.ref 74, .int x1] iv (Ri P) := by
  have hT := tb_146
  show wp X (0, 0) 146 0 [some (.ref 74), some (.int x1), none] [] iv (Ri P)
  refine wp_s hT 1 (i' := 1) (L' := [some (.ref 74), some (.int x1), none]) (st' := [.int x1]) rfl ?_
  refine wp_calli hT rfl rfl h (fun r2 iv1 h => ?_)
  refine wp_if_ne hT rfl ⟨fun c => ?_, fun c => ?_⟩
  · have h := h.1 c
    refine wp_s hT 1 (i' := 4) (L' := [some (.ref 74), some (.int x1), none]) (st' := [.int (nI 4294967294)]) rfl ?_
    exact wp_ri hT rfl rfl ⟨_, rfl, h⟩
  · have h := h.2 c
    refine wp_s hT 3 (i' := 8) (L' := [some (.ref 74), some (.int x1), none]) (st' := [.int x1, .ref 75]) rfl ?_
    refine wp_iald hT rfl rfl ⟨h.1, ?_⟩
    have h := h.2
    refine wp_if_ge hT rfl ⟨fun c => ?_, fun c => ?_⟩
    · have h := h.1 c
      refine wp_s hT 2 (i' := 16) (L' := [some (.ref 74), some (.int x1), some (.int (nI 0))]) (st' := []) rfl ?_
      exact h
    · have h := h.2 c
      refine wp_s hT 2 (i' := 12) (L' := [some (.ref 74), some (.int x1), none]) (st' := [.int (nI 1), .ref 74]) rfl ?_
      refine wp_calli hT rfl rfl h (fun r4 iv3 h => ?_)
      exact wp_ri hT rfl rfl ⟨_, rfl, h⟩

theorem mk_X11_letterOf_17 {X : Nat × (Nat → Int32)} {x0 : Int32} {x1 : Int32} {x2 : Int32} {s0 : Int32} {iv : IV} {P : Int32 → IV → Prop}
    (h : ((x0 = 0 → ((x1 = 0 → P x2 iv) ∧ (¬ (x1 = 0) → ((x1 = (nI 1) → P s0 iv) ∧ (¬ (x1 = (nI 1)) → P (nI 119) iv))))) ∧ (¬ (x0 = 0) → ((x0 = (nI 1) → ((x1 = 0 → P x2 iv) ∧ (¬ (x1 = 0) → ((x1 = (nI 1) → P s0 iv) ∧ (¬ (x1 = (nI 1)) → P (nI 100) iv))))) ∧ (¬ (x0 = (nI 1)) → ((x1 = 0 → P x2 iv) ∧ (¬ (x1 = 0) → ((x1 = (nI 1) → P s0 iv) ∧ (¬ (x1 = (nI 1)) → P (nI 112) iv))))))))) :
    wp X (0, 0) 147 17 [some (.int x0), some (.int x1), some (.int x2), none, none] [.int s0] iv (Ri P) := by
  have hT := tb_147
  refine wp_s hT 2 (i' := 19) (L' := [some (.int x0), some (.int x1), some (.int x2), some (.int s0), none]) (st' := [.int x0]) rfl ?_
  refine wp_if_ne hT rfl ⟨fun c => ?_, fun c => ?_⟩
  · have h := h.1 c
    refine wp_s hT 4 (i' := 30) (L' := [some (.int x0), some (.int x1), some (.int x2), some (.int s0), some (.int (nI 119))]) (st' := [.int x1]) rfl ?_
    refine wp_if_ne hT rfl ⟨fun c => ?_, fun c => ?_⟩
    · have h := h.1 c
      refine wp_s hT 2 (i' := 39) (L' := [some (.int x0), some (.int x1), some (.int x2), some (.int s0), some (.int (nI 119))]) (st' := [.int x2]) rfl ?_
      exact wp_ri hT rfl rfl ⟨_, rfl, h⟩
    · have h := h.2 c
      refine wp_s hT 2 (i' := 35) (L' := [some (.int x0), some (.int x1), some (.int x2), some (.int s0), some (.int (nI 119))]) (st' := [.int (nI 1), .int x1]) rfl ?_
      refine wp_ic_ne hT rfl ⟨fun c => ?_, fun c => ?_⟩
      · have h := h.1 c
        refine wp_s hT 2 (i' := 39) (L' := [some (.int x0), some (.int x1), some (.int x2), some (.int s0), some (.int (nI 119))]) (st' := [.int s0]) rfl ?_
        exact wp_ri hT rfl rfl ⟨_, rfl, h⟩
      · have h := h.2 c
        refine wp_s hT 1 (i' := 39) (L' := [some (.int x0), some (.int x1), some (.int x2), some (.int s0), some (.int (nI 119))]) (st' := [.int (nI 119)]) rfl ?_
        exact wp_ri hT rfl rfl ⟨_, rfl, h⟩
  · have h := h.2 c
    refine wp_s hT 2 (i' := 24) (L' := [some (.int x0), some (.int x1), some (.int x2), some (.int s0), none]) (st' := [.int (nI 1), .int x0]) rfl ?_
    refine wp_ic_ne hT rfl ⟨fun c => ?_, fun c => ?_⟩
    · have h := h.1 c
      refine wp_s hT 4 (i' := 30) (L' := [some (.int x0), some (.int x1), some (.int x2), some (.int s0), some (.int (nI 100))]) (st' := [.int x1]) rfl ?_
      refine wp_if_ne hT rfl ⟨fun c => ?_, fun c => ?_⟩
      · have h := h.1 c
        refine wp_s hT 2 (i' := 39) (L' := [some (.int x0), some (.int x1), some (.int x2), some (.int s0), some (.int (nI 100))]) (st' := [.int x2]) rfl ?_
        exact wp_ri hT rfl rfl ⟨_, rfl, h⟩
      · have h := h.2 c
        refine wp_s hT 2 (i' := 35) (L' := [some (.int x0), some (.int x1), some (.int x2), some (.int s0), some (.int (nI 100))]) (st' := [.int (nI 1), .int x1]) rfl ?_
        refine wp_ic_ne hT rfl ⟨fun c => ?_, fun c => ?_⟩
        · have h := h.1 c
          refine wp_s hT 2 (i' := 39) (L' := [some (.int x0), some (.int x1), some (.int x2), some (.int s0), some (.int (nI 100))]) (st' := [.int s0]) rfl ?_
          exact wp_ri hT rfl rfl ⟨_, rfl, h⟩
        · have h := h.2 c
          refine wp_s hT 1 (i' := 39) (L' := [some (.int x0), some (.int x1), some (.int x2), some (.int s0), some (.int (nI 100))]) (st' := [.int (nI 100)]) rfl ?_
          exact wp_ri hT rfl rfl ⟨_, rfl, h⟩
    · have h := h.2 c
      refine wp_s hT 3 (i' := 30) (L' := [some (.int x0), some (.int x1), some (.int x2), some (.int s0), some (.int (nI 112))]) (st' := [.int x1]) rfl ?_
      refine wp_if_ne hT rfl ⟨fun c => ?_, fun c => ?_⟩
      · have h := h.1 c
        refine wp_s hT 2 (i' := 39) (L' := [some (.int x0), some (.int x1), some (.int x2), some (.int s0), some (.int (nI 112))]) (st' := [.int x2]) rfl ?_
        exact wp_ri hT rfl rfl ⟨_, rfl, h⟩
      · have h := h.2 c
        refine wp_s hT 2 (i' := 35) (L' := [some (.int x0), some (.int x1), some (.int x2), some (.int s0), some (.int (nI 112))]) (st' := [.int (nI 1), .int x1]) rfl ?_
        refine wp_ic_ne hT rfl ⟨fun c => ?_, fun c => ?_⟩
        · have h := h.1 c
          refine wp_s hT 2 (i' := 39) (L' := [some (.int x0), some (.int x1), some (.int x2), some (.int s0), some (.int (nI 112))]) (st' := [.int s0]) rfl ?_
          exact wp_ri hT rfl rfl ⟨_, rfl, h⟩
        · have h := h.2 c
          refine wp_s hT 1 (i' := 39) (L' := [some (.int x0), some (.int x1), some (.int x2), some (.int s0), some (.int (nI 112))]) (st' := [.int (nI 112)]) rfl ?_
          exact wp_ri hT rfl rfl ⟨_, rfl, h⟩

theorem mk_X11_letterOf {X : Nat × (Nat → Int32)} {x0 : Int32} {x1 : Int32} {iv : IV} {P : Int32 → IV → Prop}
    (h : ((x0 = 0 → ((x0 = (nI 1) → wp X (0, 0) 147 17 [some (.int x0), some (.int x1), some (.int (nI 108)), none, none] [.int (nI 105)] iv (Ri P)) ∧ (¬ (x0 = (nI 1)) → wp X (0, 0) 147 17 [some (.int x0), some (.int x1), some (.int (nI 108)), none, none] [.int (nI 111)] iv (Ri P)))) ∧ (¬ (x0 = 0) → ((x0 = (nI 1) → ((x0 = (nI 1) → wp X (0, 0) 147 17 [some (.int x0), some (.int x1), some (.int (nI 109)), none, none] [.int (nI 105)] iv (Ri P)) ∧ (¬ (x0 = (nI 1)) → wp X (0, 0) 147 17 [some (.int x0), some (.int x1), some (.int (nI 109)), none, none] [.int (nI 111)] iv (Ri P)))) ∧ (¬ (x0 = (nI 1)) → ((x0 = (nI 1) → wp X (0, 0) 147 17 [some (.int x0), some (.int x1), some (.int (nI 116)), none, none] [.int (nI 105)] iv (Ri P)) ∧ (¬ (x0 = (nI 1)) → wp X (0, 0) 147 17 [some (.int x0), some (.int x1), some (.int (nI 116)), none, none] [.int (nI 111)] iv (Ri P)))))))) :
    wc X 147 [.int x0, .int x1] iv (Ri P) := by
  have hT := tb_147
  show wp X (0, 0) 147 0 [some (.int x0), some (.int x1), none, none, none] [] iv (Ri P)
  refine wp_s hT 1 (i' := 1) (L' := [some (.int x0), some (.int x1), none, none, none]) (st' := [.int x0]) rfl ?_
  refine wp_if_ne hT rfl ⟨fun c => ?_, fun c => ?_⟩
  · have h := h.1 c
    refine wp_s hT 5 (i' := 13) (L' := [some (.int x0), some (.int x1), some (.int (nI 108)), none, none]) (st' := [.int (nI 1), .int x0]) rfl ?_
    refine wp_ic_ne hT rfl ⟨fun c => ?_, fun c => ?_⟩
    · have h := h.1 c
      refine wp_s hT 2 (i' := 17) (L' := [some (.int x0), some (.int x1), some (.int (nI 108)), none, none]) (st' := [.int (nI 105)]) rfl ?_
      exact h
    · have h := h.2 c
      refine wp_s hT 1 (i' := 17) (L' := [some (.int x0), some (.int x1), some (.int (nI 108)), none, none]) (st' := [.int (nI 111)]) rfl ?_
      exact h
  · have h := h.2 c
    refine wp_s hT 2 (i' := 6) (L' := [some (.int x0), some (.int x1), none, none, none]) (st' := [.int (nI 1), .int x0]) rfl ?_
    refine wp_ic_ne hT rfl ⟨fun c => ?_, fun c => ?_⟩
    · have h := h.1 c
      refine wp_s hT 5 (i' := 13) (L' := [some (.int x0), some (.int x1), some (.int (nI 109)), none, none]) (st' := [.int (nI 1), .int x0]) rfl ?_
      refine wp_ic_ne hT rfl ⟨fun c => ?_, fun c => ?_⟩
      · have h := h.1 c
        refine wp_s hT 2 (i' := 17) (L' := [some (.int x0), some (.int x1), some (.int (nI 109)), none, none]) (st' := [.int (nI 105)]) rfl ?_
        exact h
      · have h := h.2 c
        refine wp_s hT 1 (i' := 17) (L' := [some (.int x0), some (.int x1), some (.int (nI 109)), none, none]) (st' := [.int (nI 111)]) rfl ?_
        exact h
    · have h := h.2 c
      refine wp_s hT 4 (i' := 13) (L' := [some (.int x0), some (.int x1), some (.int (nI 116)), none, none]) (st' := [.int (nI 1), .int x0]) rfl ?_
      refine wp_ic_ne hT rfl ⟨fun c => ?_, fun c => ?_⟩
      · have h := h.1 c
        refine wp_s hT 2 (i' := 17) (L' := [some (.int x0), some (.int x1), some (.int (nI 116)), none, none]) (st' := [.int (nI 105)]) rfl ?_
        exact h
      · have h := h.2 c
        refine wp_s hT 1 (i' := 17) (L' := [some (.int x0), some (.int x1), some (.int (nI 116)), none, none]) (st' := [.int (nI 111)]) rfl ?_
        exact h

theorem mk_X11_along_2 {X : Nat × (Nat → Int32)} {x1 : Int32} {x2 : Int32} {iv : IV} {P : Int32 → IV → Prop}
    (h : vp_in (nI 1) 2 ∧ (((iv 84 (nI 1).toNatClampNeg) ≤ x2 → P x2 iv) ∧ (¬ ((iv 84 (nI 1).toNatClampNeg) ≤ x2) → vp_in x2 3 ∧ wc X 147 [.int x1, .int x2] iv (Ri (fun r2 iv1 => (((iv 83 x2.toNatClampNeg) = r2 → wp X (0, 0) 148 2 [some (.ref 74), some (.int x1), some (.int (x2 + nI 1))] [] iv1 (Ri P)) ∧ (¬ ((iv 83 x2.toNatClampNeg) = r2) → P x2 iv1))))))) :
    wp X (0, 0) 148 2 [some (.ref 74), some (.int x1), some (.int x2)] [] iv (Ri P) := by
  have hT := tb_148
  refine wp_s hT 4 (i' := 6) (L' := [some (.ref 74), some (.int x1), some (.int x2)]) (st' := [.int (nI 1), .ref 84, .int x2]) rfl ?_
  refine wp_iald hT rfl rfl ⟨h.1, ?_⟩
  have h := h.2
  refine wp_ic_ge hT rfl ⟨fun c => ?_, fun c => ?_⟩
  · have h := h.1 c
    refine wp_s hT 1 (i' := 19) (L' := [some (.ref 74), some (.int x1), some (.int x2)]) (st' := [.int x2]) rfl ?_
    exact wp_ri hT rfl rfl ⟨_, rfl, h⟩
  · have h := h.2 c
    refine wp_s hT 3 (i' := 11) (L' := [some (.ref 74), some (.int x1), some (.int x2)]) (st' := [.int x2, .ref 83]) rfl ?_
    refine wp_iald hT rfl rfl ⟨h.1, ?_⟩
    have h := h.2
    refine wp_s hT 2 (i' := 14) (L' := [some (.ref 74), some (.int x1), some (.int x2)]) (st' := [.int x2, .int x1, .int (iv 83 x2.toNatClampNeg)]) rfl ?_
    refine wp_calli hT rfl rfl h (fun r2 iv1 h => ?_)
    refine wp_ic_ne hT rfl ⟨fun c => ?_, fun c => ?_⟩
    · have h := h.1 c
      refine wp_s hT 2 (i' := 2) (L' := [some (.ref 74), some (.int x1), some (.int (x2 + nI 1))]) (st' := []) rfl ?_
      exact h
    · have h := h.2 c
      refine wp_s hT 1 (i' := 19) (L' := [some (.ref 74), some (.int x1), some (.int x2)]) (st' := [.int x2]) rfl ?_
      exact wp_ri hT rfl rfl ⟨_, rfl, h⟩

theorem mk_X11_along {X : Nat × (Nat → Int32)} {x1 : Int32} {iv : IV} {P : Int32 → IV → Prop}
    (h : wp X (0, 0) 148 2 [some (.ref 74), some (.int x1), some (.int (nI 0))] [] iv (Ri P)) :
    wc X 148 [.ref 74, .int x1] iv (Ri P) := by
  have hT := tb_148
  show wp X (0, 0) 148 0 [some (.ref 74), some (.int x1), none] [] iv (Ri P)
  refine wp_s hT 2 (i' := 2) (L' := [some (.ref 74), some (.int x1), some (.int (nI 0))]) (st' := []) rfl ?_
  exact h

theorem mk_X11_faultNow {X : Nat × (Nat → Int32)}  {iv : IV} {P : Int32 → IV → Prop}
    (h : wc X 148 [.ref 74, .int (nI 0)] iv (Ri (fun r2 iv1 => wc X 148 [.ref 74, .int (nI 1)] iv1 (Ri (fun r4 iv3 => wc X 148 [.ref 74, .int (nI 2)] iv3 (Ri (fun r6 iv5 => wc X 125 [.int r4, .int r6] iv5 (Ri (fun r8 iv7 => wc X 125 [.int r2, .int r8] iv7 (Ri (fun r10 iv9 => vp_in (nI 1) 2 ∧ ((iv9 84 (nI 1).toNatClampNeg = 0 → P (nI 4294967295) iv9) ∧ (¬ (iv9 84 (nI 1).toNatClampNeg = 0) → ((r10 = (nI 3) → P (nI 4294967295) iv9) ∧ (¬ (r10 = (nI 3)) → P r10 iv9))))))))))))))) :
    wc X 149 [.ref 74] iv (Ri P) := by
  have hT := tb_149
  show wp X (0, 0) 149 0 [some (.ref 74), none] [] iv (Ri P)
  refine wp_s hT 2 (i' := 2) (L' := [some (.ref 74), none]) (st' := [.int (nI 0), .ref 74]) rfl ?_
  refine wp_calli hT rfl rfl h (fun r2 iv1 h => ?_)
  refine wp_s hT 2 (i' := 5) (L' := [some (.ref 74), none]) (st' := [.int (nI 1), .ref 74, .int r2]) rfl ?_
  refine wp_calli hT rfl rfl h (fun r4 iv3 h => ?_)
  refine wp_s hT 2 (i' := 8) (L' := [some (.ref 74), none]) (st' := [.int (nI 2), .ref 74, .int r4, .int r2]) rfl ?_
  refine wp_calli hT rfl rfl h (fun r6 iv5 h => ?_)
  refine wp_calli hT rfl rfl h (fun r8 iv7 h => ?_)
  refine wp_calli hT rfl rfl h (fun r10 iv9 h => ?_)
  refine wp_s hT 4 (i' := 15) (L' := [some (.ref 74), some (.int r10)]) (st' := [.int (nI 1), .ref 84]) rfl ?_
  refine wp_iald hT rfl rfl ⟨h.1, ?_⟩
  have h := h.2
  refine wp_if_eq hT rfl ⟨fun c => ?_, fun c => ?_⟩
  · have h := h.1 c
    refine wp_s hT 2 (i' := 23) (L' := [some (.ref 74), some (.int r10)]) (st' := [.int (nI 4294967295)]) rfl ?_
    exact wp_ri hT rfl rfl ⟨_, rfl, h⟩
  · have h := h.2 c
    refine wp_s hT 2 (i' := 19) (L' := [some (.ref 74), some (.int r10)]) (st' := [.int (nI 3), .int r10]) rfl ?_
    refine wp_ic_ne hT rfl ⟨fun c => ?_, fun c => ?_⟩
    · have h := h.1 c
      refine wp_s hT 2 (i' := 23) (L' := [some (.ref 74), some (.int r10)]) (st' := [.int (nI 4294967295)]) rfl ?_
      exact wp_ri hT rfl rfl ⟨_, rfl, h⟩
    · have h := h.2 c
      refine wp_s hT 1 (i' := 23) (L' := [some (.ref 74), some (.int r10)]) (st' := [.int r10]) rfl ?_
      exact wp_ri hT rfl rfl ⟨_, rfl, h⟩

theorem mk_X11_fault {X : Nat × (Nat → Int32)}  {iv : IV} {P : Int32 → IV → Prop}
    (h : wc X 149 [.ref 74] iv (Ri (fun r2 iv1 => P r2 iv1))) :
    wc X 150 [.ref 74] iv (Ri P) := by
  have hT := tb_150
  show wp X (0, 0) 150 0 [some (.ref 74)] [] iv (Ri P)
  refine wp_s hT 1 (i' := 1) (L' := [some (.ref 74)]) (st' := [.ref 74]) rfl ?_
  refine wp_calli hT rfl rfl h (fun r2 iv1 h => ?_)
  exact wp_ri hT rfl rfl ⟨_, rfl, h⟩

theorem mk_X11_levelNow {X : Nat × (Nat → Int32)}  {iv : IV} {P : Int32 → IV → Prop}
    (h : wc X 148 [.ref 74, .int (nI 1)] iv (Ri (fun r2 iv1 => ((r2 = (nI 3) → P (nI 1) iv1) ∧ (¬ (r2 = (nI 3)) → wc X 148 [.ref 74, .int (nI 2)] iv1 (Ri (fun r4 iv3 => ((r4 = (nI 3) → P (nI 2) iv3) ∧ (¬ (r4 = (nI 3)) → P (nI 0) iv3))))))))) :
    wc X 151 [.ref 74] iv (Ri P) := by
  have hT := tb_151
  show wp X (0, 0) 151 0 [some (.ref 74)] [] iv (Ri P)
  refine wp_s hT 2 (i' := 2) (L' := [some (.ref 74)]) (st' := [.int (nI 1), .ref 74]) rfl ?_
  refine wp_calli hT rfl rfl h (fun r2 iv1 h => ?_)
  refine wp_s hT 1 (i' := 4) (L' := [some (.ref 74)]) (st' := [.int (nI 3), .int r2]) rfl ?_
  refine wp_ic_ne hT rfl ⟨fun c => ?_, fun c => ?_⟩
  · have h := h.1 c
    refine wp_s hT 2 (i' := 15) (L' := [some (.ref 74)]) (st' := [.int (nI 1)]) rfl ?_
    exact wp_ri hT rfl rfl ⟨_, rfl, h⟩
  · have h := h.2 c
    refine wp_s hT 2 (i' := 9) (L' := [some (.ref 74)]) (st' := [.int (nI 2), .ref 74]) rfl ?_
    refine wp_calli hT rfl rfl h (fun r4 iv3 h => ?_)
    refine wp_s hT 1 (i' := 11) (L' := [some (.ref 74)]) (st' := [.int (nI 3), .int r4]) rfl ?_
    refine wp_ic_ne hT rfl ⟨fun c => ?_, fun c => ?_⟩
    · have h := h.1 c
      refine wp_s hT 2 (i' := 15) (L' := [some (.ref 74)]) (st' := [.int (nI 2)]) rfl ?_
      exact wp_ri hT rfl rfl ⟨_, rfl, h⟩
    · have h := h.2 c
      refine wp_s hT 1 (i' := 15) (L' := [some (.ref 74)]) (st' := [.int (nI 0)]) rfl ?_
      exact wp_ri hT rfl rfl ⟨_, rfl, h⟩

theorem mk_X11_checksOf {X : Nat × (Nat → Int32)} {x0 : Int32} {iv : IV} {P : Int32 → IV → Prop}
    (h : P ((nI 2) + ((nI 2) * x0)) iv) :
    wc X 152 [.int x0] iv (Ri P) := by
  have hT := tb_152
  show wp X (0, 0) 152 0 [some (.int x0)] [] iv (Ri P)
  refine wp_s hT 5 (i' := 5) (L' := [some (.int x0)]) (st' := [.int ((nI 2) + ((nI 2) * x0))]) rfl ?_
  exact wp_ri hT rfl rfl ⟨_, rfl, h⟩

theorem mk_X11_roomOf {X : Nat × (Nat → Int32)} {x0 : Int32} {iv : IV} {P : Int32 → IV → Prop}
    (h : wc X 152 [.int x0] iv (Ri (fun r2 iv1 => P ((nI 3) * ((nI 14) - r2)) iv1))) :
    wc X 153 [.int x0] iv (Ri P) := by
  have hT := tb_153
  show wp X (0, 0) 153 0 [some (.int x0)] [] iv (Ri P)
  refine wp_s hT 3 (i' := 3) (L' := [some (.int x0)]) (st' := [.int x0, .int (nI 14), .int (nI 3)]) rfl ?_
  refine wp_calli hT rfl rfl h (fun r2 iv1 h => ?_)
  refine wp_s hT 2 (i' := 6) (L' := [some (.int x0)]) (st' := [.int ((nI 3) * ((nI 14) - r2))]) rfl ?_
  exact wp_ri hT rfl rfl ⟨_, rfl, h⟩

theorem mk_X11_isEye_6 {X : Nat × (Nat → Int32)} {x0 : Int32} {x1 : Int32} {iv : IV} {P : Int32 → IV → Prop}
    (h : (((nI 3) ≤ x0 → ((x0 ≤ (nI 11) → P (nI 0) iv) ∧ (¬ (x0 ≤ (nI 11)) → (((nI 3) ≤ x1 → P (nI 0) iv) ∧ (¬ ((nI 3) ≤ x1) → P (nI 1) iv))))) ∧ (¬ ((nI 3) ≤ x0) → (((nI 11) < x1 → P (nI 1) iv) ∧ (¬ ((nI 11) < x1) → ((x0 ≤ (nI 11) → P (nI 0) iv) ∧ (¬ (x0 ≤ (nI 11)) → (((nI 3) ≤ x1 → P (nI 0) iv) ∧ (¬ ((nI 3) ≤ x1) → P (nI 1) iv))))))))) :
    wp X (0, 0) 154 6 [some (.int x0), some (.int x1)] [] iv (Ri P) := by
  have hT := tb_154
  refine wp_s hT 2 (i' := 8) (L' := [some (.int x0), some (.int x1)]) (st' := [.int (nI 3), .int x0]) rfl ?_
  refine wp_ic_ge hT rfl ⟨fun c => ?_, fun c => ?_⟩
  · have h := h.1 c
    refine wp_s hT 2 (i' := 14) (L' := [some (.int x0), some (.int x1)]) (st' := [.int (nI 11), .int x0]) rfl ?_
    refine wp_ic_le hT rfl ⟨fun c => ?_, fun c => ?_⟩
    · have h := h.1 c
      refine wp_s hT 1 (i' := 21) (L' := [some (.int x0), some (.int x1)]) (st' := [.int (nI 0)]) rfl ?_
      exact wp_rz hT rfl rfl ⟨Or.inl rfl, ⟨_, rfl, h⟩⟩
    · have h := h.2 c
      refine wp_s hT 2 (i' := 17) (L' := [some (.int x0), some (.int x1)]) (st' := [.int (nI 3), .int x1]) rfl ?_
      refine wp_ic_ge hT rfl ⟨fun c => ?_, fun c => ?_⟩
      · have h := h.1 c
        refine wp_s hT 1 (i' := 21) (L' := [some (.int x0), some (.int x1)]) (st' := [.int (nI 0)]) rfl ?_
        exact wp_rz hT rfl rfl ⟨Or.inl rfl, ⟨_, rfl, h⟩⟩
      · have h := h.2 c
        refine wp_s hT 2 (i' := 21) (L' := [some (.int x0), some (.int x1)]) (st' := [.int (nI 1)]) rfl ?_
        exact wp_rz hT rfl rfl ⟨Or.inr rfl, ⟨_, rfl, h⟩⟩
  · have h := h.2 c
    refine wp_s hT 2 (i' := 11) (L' := [some (.int x0), some (.int x1)]) (st' := [.int (nI 11), .int x1]) rfl ?_
    refine wp_ic_gt hT rfl ⟨fun c => ?_, fun c => ?_⟩
    · have h := h.1 c
      refine wp_s hT 2 (i' := 21) (L' := [some (.int x0), some (.int x1)]) (st' := [.int (nI 1)]) rfl ?_
      exact wp_rz hT rfl rfl ⟨Or.inr rfl, ⟨_, rfl, h⟩⟩
    · have h := h.2 c
      refine wp_s hT 2 (i' := 14) (L' := [some (.int x0), some (.int x1)]) (st' := [.int (nI 11), .int x0]) rfl ?_
      refine wp_ic_le hT rfl ⟨fun c => ?_, fun c => ?_⟩
      · have h := h.1 c
        refine wp_s hT 1 (i' := 21) (L' := [some (.int x0), some (.int x1)]) (st' := [.int (nI 0)]) rfl ?_
        exact wp_rz hT rfl rfl ⟨Or.inl rfl, ⟨_, rfl, h⟩⟩
      · have h := h.2 c
        refine wp_s hT 2 (i' := 17) (L' := [some (.int x0), some (.int x1)]) (st' := [.int (nI 3), .int x1]) rfl ?_
        refine wp_ic_ge hT rfl ⟨fun c => ?_, fun c => ?_⟩
        · have h := h.1 c
          refine wp_s hT 1 (i' := 21) (L' := [some (.int x0), some (.int x1)]) (st' := [.int (nI 0)]) rfl ?_
          exact wp_rz hT rfl rfl ⟨Or.inl rfl, ⟨_, rfl, h⟩⟩
        · have h := h.2 c
          refine wp_s hT 2 (i' := 21) (L' := [some (.int x0), some (.int x1)]) (st' := [.int (nI 1)]) rfl ?_
          exact wp_rz hT rfl rfl ⟨Or.inr rfl, ⟨_, rfl, h⟩⟩

theorem mk_X11_isEye {X : Nat × (Nat → Int32)} {x0 : Int32} {x1 : Int32} {iv : IV} {P : Int32 → IV → Prop}
    (h : (((nI 3) ≤ x0 → wp X (0, 0) 154 6 [some (.int x0), some (.int x1)] [] iv (Ri P)) ∧ (¬ ((nI 3) ≤ x0) → ((x1 < (nI 3) → P (nI 1) iv) ∧ (¬ (x1 < (nI 3)) → wp X (0, 0) 154 6 [some (.int x0), some (.int x1)] [] iv (Ri P)))))) :
    wc X 154 [.int x0, .int x1] iv (Ri P) := by
  have hT := tb_154
  show wp X (0, 0) 154 0 [some (.int x0), some (.int x1)] [] iv (Ri P)
  refine wp_s hT 2 (i' := 2) (L' := [some (.int x0), some (.int x1)]) (st' := [.int (nI 3), .int x0]) rfl ?_
  refine wp_ic_ge hT rfl ⟨fun c => ?_, fun c => ?_⟩
  · have h := h.1 c
    exact h
  · have h := h.2 c
    refine wp_s hT 2 (i' := 5) (L' := [some (.int x0), some (.int x1)]) (st' := [.int (nI 3), .int x1]) rfl ?_
    refine wp_ic_lt hT rfl ⟨fun c => ?_, fun c => ?_⟩
    · have h := h.1 c
      refine wp_s hT 2 (i' := 21) (L' := [some (.int x0), some (.int x1)]) (st' := [.int (nI 1)]) rfl ?_
      exact wp_rz hT rfl rfl ⟨Or.inr rfl, ⟨_, rfl, h⟩⟩
    · have h := h.2 c
      exact h

theorem mk_X11_eye {X : Nat × (Nat → Int32)} {x0 : Int32} {x1 : Int32} {iv : IV} {P : Int32 → IV → Prop}
    (h : ((x0 = (nI 1) → ((x1 = (nI 1) → P (nI 0) iv) ∧ (¬ (x1 = (nI 1)) → ((x1 = (nI 13) → P (nI 0) iv) ∧ (¬ (x1 = (nI 13)) → P (nI 1) iv))))) ∧ (¬ (x0 = (nI 1)) → ((x0 = (nI 13) → ((x1 = (nI 1) → P (nI 0) iv) ∧ (¬ (x1 = (nI 1)) → ((x1 = (nI 13) → P (nI 0) iv) ∧ (¬ (x1 = (nI 13)) → P (nI 1) iv))))) ∧ (¬ (x0 = (nI 13)) → P (nI 1) iv))))) :
    wc X 155 [.int x0, .int x1] iv (Ri P) := by
  have hT := tb_155
  show wp X (0, 0) 155 0 [some (.int x0), some (.int x1)] [] iv (Ri P)
  refine wp_s hT 2 (i' := 2) (L' := [some (.int x0), some (.int x1)]) (st' := [.int (nI 1), .int x0]) rfl ?_
  refine wp_ic_eq hT rfl ⟨fun c => ?_, fun c => ?_⟩
  · have h := h.1 c
    refine wp_s hT 2 (i' := 8) (L' := [some (.int x0), some (.int x1)]) (st' := [.int (nI 1), .int x1]) rfl ?_
    refine wp_ic_eq hT rfl ⟨fun c => ?_, fun c => ?_⟩
    · have h := h.1 c
      refine wp_s hT 2 (i' := 15) (L' := [some (.int x0), some (.int x1)]) (st' := [.int (nI 0)]) rfl ?_
      exact wp_ri hT rfl rfl ⟨_, rfl, h⟩
    · have h := h.2 c
      refine wp_s hT 2 (i' := 11) (L' := [some (.int x0), some (.int x1)]) (st' := [.int (nI 13), .int x1]) rfl ?_
      refine wp_ic_ne hT rfl ⟨fun c => ?_, fun c => ?_⟩
      · have h := h.1 c
        refine wp_s hT 2 (i' := 15) (L' := [some (.int x0), some (.int x1)]) (st' := [.int (nI 0)]) rfl ?_
        exact wp_ri hT rfl rfl ⟨_, rfl, h⟩
      · have h := h.2 c
        refine wp_s hT 1 (i' := 15) (L' := [some (.int x0), some (.int x1)]) (st' := [.int (nI 1)]) rfl ?_
        exact wp_ri hT rfl rfl ⟨_, rfl, h⟩
  · have h := h.2 c
    refine wp_s hT 2 (i' := 5) (L' := [some (.int x0), some (.int x1)]) (st' := [.int (nI 13), .int x0]) rfl ?_
    refine wp_ic_ne hT rfl ⟨fun c => ?_, fun c => ?_⟩
    · have h := h.1 c
      refine wp_s hT 2 (i' := 8) (L' := [some (.int x0), some (.int x1)]) (st' := [.int (nI 1), .int x1]) rfl ?_
      refine wp_ic_eq hT rfl ⟨fun c => ?_, fun c => ?_⟩
      · have h := h.1 c
        refine wp_s hT 2 (i' := 15) (L' := [some (.int x0), some (.int x1)]) (st' := [.int (nI 0)]) rfl ?_
        exact wp_ri hT rfl rfl ⟨_, rfl, h⟩
      · have h := h.2 c
        refine wp_s hT 2 (i' := 11) (L' := [some (.int x0), some (.int x1)]) (st' := [.int (nI 13), .int x1]) rfl ?_
        refine wp_ic_ne hT rfl ⟨fun c => ?_, fun c => ?_⟩
        · have h := h.1 c
          refine wp_s hT 2 (i' := 15) (L' := [some (.int x0), some (.int x1)]) (st' := [.int (nI 0)]) rfl ?_
          exact wp_ri hT rfl rfl ⟨_, rfl, h⟩
        · have h := h.2 c
          refine wp_s hT 1 (i' := 15) (L' := [some (.int x0), some (.int x1)]) (st' := [.int (nI 1)]) rfl ?_
          exact wp_ri hT rfl rfl ⟨_, rfl, h⟩
    · have h := h.2 c
      refine wp_s hT 1 (i' := 15) (L' := [some (.int x0), some (.int x1)]) (st' := [.int (nI 1)]) rfl ?_
      exact wp_ri hT rfl rfl ⟨_, rfl, h⟩

theorem mk_X11_formatBit_6 {X : Nat × (Nat → Int32)} {x0 : Int32} {x1 : Int32} {iv : IV} {P : Int32 → IV → Prop}
    (h : ((x0 = (nI 11) → (((nI 4) ≤ x1 → ((x0 = (nI 3) → ((x1 ≤ (nI 10) → P (nI 4294967295) iv) ∧ (¬ (x1 ≤ (nI 10)) → P ((nI 14) - x1) iv))) ∧ (¬ (x0 = (nI 3)) → P (nI 4294967295) iv))) ∧ (¬ ((nI 4) ≤ x1) → P ((nI 3) - x1) iv))) ∧ (¬ (x0 = (nI 11)) → ((x0 = (nI 3) → ((x1 ≤ (nI 10) → P (nI 4294967295) iv) ∧ (¬ (x1 ≤ (nI 10)) → P ((nI 14) - x1) iv))) ∧ (¬ (x0 = (nI 3)) → P (nI 4294967295) iv))))) :
    wp X (0, 0) 156 6 [some (.int x0), some (.int x1)] [] iv (Ri P) := by
  have hT := tb_156
  refine wp_s hT 2 (i' := 8) (L' := [some (.int x0), some (.int x1)]) (st' := [.int (nI 11), .int x0]) rfl ?_
  refine wp_ic_ne hT rfl ⟨fun c => ?_, fun c => ?_⟩
  · have h := h.1 c
    refine wp_s hT 2 (i' := 11) (L' := [some (.int x0), some (.int x1)]) (st' := [.int (nI 4), .int x1]) rfl ?_
    refine wp_ic_ge hT rfl ⟨fun c => ?_, fun c => ?_⟩
    · have h := h.1 c
      refine wp_s hT 2 (i' := 18) (L' := [some (.int x0), some (.int x1)]) (st' := [.int (nI 3), .int x0]) rfl ?_
      refine wp_ic_ne hT rfl ⟨fun c => ?_, fun c => ?_⟩
      · have h := h.1 c
        refine wp_s hT 2 (i' := 21) (L' := [some (.int x0), some (.int x1)]) (st' := [.int (nI 10), .int x1]) rfl ?_
        refine wp_ic_le hT rfl ⟨fun c => ?_, fun c => ?_⟩
        · have h := h.1 c
          refine wp_s hT 1 (i' := 27) (L' := [some (.int x0), some (.int x1)]) (st' := [.int (nI 4294967295)]) rfl ?_
          exact wp_ri hT rfl rfl ⟨_, rfl, h⟩
        · have h := h.2 c
          refine wp_s hT 4 (i' := 27) (L' := [some (.int x0), some (.int x1)]) (st' := [.int ((nI 14) - x1)]) rfl ?_
          exact wp_ri hT rfl rfl ⟨_, rfl, h⟩
      · have h := h.2 c
        refine wp_s hT 1 (i' := 27) (L' := [some (.int x0), some (.int x1)]) (st' := [.int (nI 4294967295)]) rfl ?_
        exact wp_ri hT rfl rfl ⟨_, rfl, h⟩
    · have h := h.2 c
      refine wp_s hT 3 (i' := 15) (L' := [some (.int x0), some (.int x1)]) (st' := [.int ((nI 3) - x1)]) rfl ?_
      exact wp_ri hT rfl rfl ⟨_, rfl, h⟩
  · have h := h.2 c
    refine wp_s hT 2 (i' := 18) (L' := [some (.int x0), some (.int x1)]) (st' := [.int (nI 3), .int x0]) rfl ?_
    refine wp_ic_ne hT rfl ⟨fun c => ?_, fun c => ?_⟩
    · have h := h.1 c
      refine wp_s hT 2 (i' := 21) (L' := [some (.int x0), some (.int x1)]) (st' := [.int (nI 10), .int x1]) rfl ?_
      refine wp_ic_le hT rfl ⟨fun c => ?_, fun c => ?_⟩
      · have h := h.1 c
        refine wp_s hT 1 (i' := 27) (L' := [some (.int x0), some (.int x1)]) (st' := [.int (nI 4294967295)]) rfl ?_
        exact wp_ri hT rfl rfl ⟨_, rfl, h⟩
      · have h := h.2 c
        refine wp_s hT 4 (i' := 27) (L' := [some (.int x0), some (.int x1)]) (st' := [.int ((nI 14) - x1)]) rfl ?_
        exact wp_ri hT rfl rfl ⟨_, rfl, h⟩
    · have h := h.2 c
      refine wp_s hT 1 (i' := 27) (L' := [some (.int x0), some (.int x1)]) (st' := [.int (nI 4294967295)]) rfl ?_
      exact wp_ri hT rfl rfl ⟨_, rfl, h⟩

theorem mk_X11_formatBit {X : Nat × (Nat → Int32)} {x0 : Int32} {x1 : Int32} {iv : IV} {P : Int32 → IV → Prop}
    (h : ((x0 = (nI 3) → ((x1 < (nI 4) → P ((nI 3) - x1) iv) ∧ (¬ (x1 < (nI 4)) → wp X (0, 0) 156 6 [some (.int x0), some (.int x1)] [] iv (Ri P)))) ∧ (¬ (x0 = (nI 3)) → wp X (0, 0) 156 6 [some (.int x0), some (.int x1)] [] iv (Ri P)))) :
    wc X 156 [.int x0, .int x1] iv (Ri P) := by
  have hT := tb_156
  show wp X (0, 0) 156 0 [some (.int x0), some (.int x1)] [] iv (Ri P)
  refine wp_s hT 2 (i' := 2) (L' := [some (.int x0), some (.int x1)]) (st' := [.int (nI 3), .int x0]) rfl ?_
  refine wp_ic_ne hT rfl ⟨fun c => ?_, fun c => ?_⟩
  · have h := h.1 c
    refine wp_s hT 2 (i' := 5) (L' := [some (.int x0), some (.int x1)]) (st' := [.int (nI 4), .int x1]) rfl ?_
    refine wp_ic_lt hT rfl ⟨fun c => ?_, fun c => ?_⟩
    · have h := h.1 c
      refine wp_s hT 3 (i' := 15) (L' := [some (.int x0), some (.int x1)]) (st' := [.int ((nI 3) - x1)]) rfl ?_
      exact wp_ri hT rfl rfl ⟨_, rfl, h⟩
    · have h := h.2 c
      exact h
  · have h := h.2 c
    exact h

theorem mk_X11_frees_113 {X : Nat × (Nat → Int32)} {x1 : Int32} {x2 : Int32} {x3 : Int32} {x4 : Int32} {x5 : Int32} {s0 : Int32} {s1 : Int32} {iv : IV} {P : IV → Prop}
    (h : vp_in s1 225 ∧ (∀ iv1 : IV, iv1 = mm_up2 iv 87 s1.toNatClampNeg s0 → ((x5 = 0 → wp X (0, 0) 157 72 [some (.ref 74), some (.int x1), some (.int x2), some (.int (x3 + nI 1)), none, none] [] iv1 (Rv P)) ∧ (¬ (x5 = 0) → vp_in x1 171 ∧ (∀ iv2 : IV, iv2 = mm_up2 iv1 88 x1.toNatClampNeg (((nI 15) * x2) + x4) → wp X (0, 0) 157 72 [some (.ref 74), some (.int (x1 + nI 1)), some (.int x2), some (.int (x3 + nI 1)), none, none] [] iv2 (Rv P)))))) :
    wp X (0, 0) 157 113 [some (.ref 74), some (.int x1), some (.int x2), some (.int x3), some (.int x4), some (.int x5)] [.int s0, .int s1, .ref 87] iv (Rv P) := by
  have hT := tb_157
  refine wp_iast hT rfl rfl ⟨h.1, ?_⟩
  have h := h.2
  have h := h _ rfl
  refine wp_s hT 1 (i' := 115) (L' := [some (.ref 74), some (.int x1), some (.int x2), some (.int x3), some (.int x4), some (.int x5)]) (st' := [.int x5]) rfl ?_
  refine wp_if_eq hT rfl ⟨fun c => ?_, fun c => ?_⟩
  · have h := h.1 c
    refine wp_s hT 2 (i' := 72) (L' := [some (.ref 74), some (.int x1), some (.int x2), some (.int (x3 + nI 1)), some (.int x4), some (.int x5)]) (st' := []) rfl ?_
    refine wp_le (L := [some (.ref 74), some (.int x1), some (.int x2), some (.int (x3 + nI 1)), none, none]) ⟨Or.inl rfl, Or.inl rfl, Or.inl rfl, Or.inl rfl, Or.inr ⟨rfl, rfl⟩, Or.inr ⟨rfl, rfl⟩, trivial⟩ ?_
    exact h
  · have h := h.2 c
    refine wp_s hT 8 (i' := 124) (L' := [some (.ref 74), some (.int x1), some (.int x2), some (.int x3), some (.int x4), some (.int x5)]) (st' := [.int (((nI 15) * x2) + x4), .int x1, .ref 88]) rfl ?_
    refine wp_iast hT rfl rfl ⟨h.1, ?_⟩
    have h := h.2
    have h := h _ rfl
    refine wp_s hT 3 (i' := 72) (L' := [some (.ref 74), some (.int (x1 + nI 1)), some (.int x2), some (.int (x3 + nI 1)), some (.int x4), some (.int x5)]) (st' := []) rfl ?_
    refine wp_le (L := [some (.ref 74), some (.int (x1 + nI 1)), some (.int x2), some (.int (x3 + nI 1)), none, none]) ⟨Or.inl rfl, Or.inl rfl, Or.inl rfl, Or.inl rfl, Or.inr ⟨rfl, rfl⟩, Or.inr ⟨rfl, rfl⟩, trivial⟩ ?_
    exact h

theorem mk_X11_frees_100 {X : Nat × (Nat → Int32)} {x1 : Int32} {x2 : Int32} {x3 : Int32} {x4 : Int32} {s0 : Int32} {iv : IV} {P : IV → Prop}
    (h : ((s0 = 0 → wp X (0, 0) 157 113 [some (.ref 74), some (.int x1), some (.int x2), some (.int x3), some (.int x4), some (.int s0)] [.int (nI 4294967295), .int (((nI 15) * x2) + x4), .ref 87] iv (Rv P)) ∧ (¬ (s0 = 0) → wp X (0, 0) 157 113 [some (.ref 74), some (.int x1), some (.int x2), some (.int x3), some (.int x4), some (.int s0)] [.int x1, .int (((nI 15) * x2) + x4), .ref 87] iv (Rv P)))) :
    wp X (0, 0) 157 100 [some (.ref 74), some (.int x1), some (.int x2), some (.int x3), some (.int x4), none] [.int s0] iv (Rv P) := by
  have hT := tb_157
  refine wp_s hT 9 (i' := 109) (L' := [some (.ref 74), some (.int x1), some (.int x2), some (.int x3), some (.int x4), some (.int s0)]) (st' := [.int s0, .int (((nI 15) * x2) + x4), .ref 87]) rfl ?_
  refine wp_if_eq hT rfl ⟨fun c => ?_, fun c => ?_⟩
  · have h := h.1 c
    refine wp_s hT 1 (i' := 113) (L' := [some (.ref 74), some (.int x1), some (.int x2), some (.int x3), some (.int x4), some (.int s0)]) (st' := [.int (nI 4294967295), .int (((nI 15) * x2) + x4), .ref 87]) rfl ?_
    exact h
  · have h := h.2 c
    refine wp_s hT 2 (i' := 113) (L' := [some (.ref 74), some (.int x1), some (.int x2), some (.int x3), some (.int x4), some (.int s0)]) (st' := [.int x1, .int (((nI 15) * x2) + x4), .ref 87]) rfl ?_
    exact h

theorem mk_X11_frees_84 {X : Nat × (Nat → Int32)} {x1 : Int32} {x2 : Int32} {x3 : Int32} {s0 : Int32} {iv : IV} {P : IV → Prop}
    (h : wc X 154 [.int x2, .int s0] iv (Ri (fun r2 iv1 => ((r2 = 0 → ((x2 = (nI 7) → wp X (0, 0) 157 100 [some (.ref 74), some (.int x1), some (.int x2), some (.int x3), some (.int s0), none] [.int (nI 0)] iv1 (Rv P)) ∧ (¬ (x2 = (nI 7)) → wc X 156 [.int x2, .int s0] iv1 (Ri (fun r4 iv3 => ((r4 = (nI 4294967295) → wp X (0, 0) 157 100 [some (.ref 74), some (.int x1), some (.int x2), some (.int x3), some (.int s0), none] [.int (nI 1)] iv3 (Rv P)) ∧ (¬ (r4 = (nI 4294967295)) → wp X (0, 0) 157 100 [some (.ref 74), some (.int x1), some (.int x2), some (.int x3), some (.int s0), none] [.int (nI 0)] iv3 (Rv P)))))))) ∧ (¬ (r2 = 0) → wp X (0, 0) 157 100 [some (.ref 74), some (.int x1), some (.int x2), some (.int x3), some (.int s0), none] [.int (nI 0)] iv1 (Rv P)))))) :
    wp X (0, 0) 157 84 [some (.ref 74), some (.int x1), some (.int x2), some (.int x3), none, none] [.int s0] iv (Rv P) := by
  have hT := tb_157
  refine wp_s hT 3 (i' := 87) (L' := [some (.ref 74), some (.int x1), some (.int x2), some (.int x3), some (.int s0), none]) (st' := [.int s0, .int x2]) rfl ?_
  refine wp_calli hT rfl rfl h (fun r2 iv1 h => ?_)
  refine wp_if_ne hT rfl ⟨fun c => ?_, fun c => ?_⟩
  · have h := h.1 c
    refine wp_s hT 2 (i' := 91) (L' := [some (.ref 74), some (.int x1), some (.int x2), some (.int x3), some (.int s0), none]) (st' := [.int (nI 7), .int x2]) rfl ?_
    refine wp_ic_eq hT rfl ⟨fun c => ?_, fun c => ?_⟩
    · have h := h.1 c
      refine wp_s hT 1 (i' := 100) (L' := [some (.ref 74), some (.int x1), some (.int x2), some (.int x3), some (.int s0), none]) (st' := [.int (nI 0)]) rfl ?_
      exact h
    · have h := h.2 c
      refine wp_s hT 2 (i' := 94) (L' := [some (.ref 74), some (.int x1), some (.int x2), some (.int x3), some (.int s0), none]) (st' := [.int s0, .int x2]) rfl ?_
      refine wp_calli hT rfl rfl h (fun r4 iv3 h => ?_)
      refine wp_s hT 1 (i' := 96) (L' := [some (.ref 74), some (.int x1), some (.int x2), some (.int x3), some (.int s0), none]) (st' := [.int (nI 4294967295), .int r4]) rfl ?_
      refine wp_ic_ne hT rfl ⟨fun c => ?_, fun c => ?_⟩
      · have h := h.1 c
        refine wp_s hT 2 (i' := 100) (L' := [some (.ref 74), some (.int x1), some (.int x2), some (.int x3), some (.int s0), none]) (st' := [.int (nI 1)]) rfl ?_
        exact h
      · have h := h.2 c
        refine wp_s hT 1 (i' := 100) (L' := [some (.ref 74), some (.int x1), some (.int x2), some (.int x3), some (.int s0), none]) (st' := [.int (nI 0)]) rfl ?_
        exact h
  · have h := h.2 c
    refine wp_s hT 1 (i' := 100) (L' := [some (.ref 74), some (.int x1), some (.int x2), some (.int x3), some (.int s0), none]) (st' := [.int (nI 0)]) rfl ?_
    exact h

theorem mk_X11_frees_72 {X : Nat × (Nat → Int32)} {x1 : Int32} {x2 : Int32} {x3 : Int32} {iv : IV} {P : IV → Prop}
    (h : (((nI 15) ≤ x3 → wp X (0, 0) 157 67 [some (.ref 74), some (.int x1), some (.int (x2 + nI 1)), none, none, none] [] iv (Rv P)) ∧ (¬ ((nI 15) ≤ x3) → ((x2 - x2 / (nI 2) * (nI 2) = 0 → wp X (0, 0) 157 84 [some (.ref 74), some (.int x1), some (.int x2), some (.int x3), none, none] [.int x3] iv (Rv P)) ∧ (¬ (x2 - x2 / (nI 2) * (nI 2) = 0) → wp X (0, 0) 157 84 [some (.ref 74), some (.int x1), some (.int x2), some (.int x3), none, none] [.int ((nI 14) - x3)] iv (Rv P)))))) :
    wp X (0, 0) 157 72 [some (.ref 74), some (.int x1), some (.int x2), some (.int x3), none, none] [] iv (Rv P) := by
  have hT := tb_157
  refine wp_s hT 2 (i' := 74) (L' := [some (.ref 74), some (.int x1), some (.int x2), some (.int x3), none, none]) (st' := [.int (nI 15), .int x3]) rfl ?_
  refine wp_ic_ge hT rfl ⟨fun c => ?_, fun c => ?_⟩
  · have h := h.1 c
    refine wp_s hT 2 (i' := 67) (L' := [some (.ref 74), some (.int x1), some (.int (x2 + nI 1)), some (.int x3), none, none]) (st' := []) rfl ?_
    refine wp_le (L := [some (.ref 74), some (.int x1), some (.int (x2 + nI 1)), none, none, none]) ⟨Or.inl rfl, Or.inl rfl, Or.inl rfl, Or.inr ⟨rfl, rfl⟩, Or.inl rfl, Or.inl rfl, trivial⟩ ?_
    exact h
  · have h := h.2 c
    refine wp_s hT 3 (i' := 78) (L' := [some (.ref 74), some (.int x1), some (.int x2), some (.int x3), none, none]) (st' := [.int (x2 - x2 / (nI 2) * (nI 2))]) rfl ?_
    refine wp_if_ne hT rfl ⟨fun c => ?_, fun c => ?_⟩
    · have h := h.1 c
      refine wp_s hT 2 (i' := 84) (L' := [some (.ref 74), some (.int x1), some (.int x2), some (.int x3), none, none]) (st' := [.int x3]) rfl ?_
      exact h
    · have h := h.2 c
      refine wp_s hT 3 (i' := 84) (L' := [some (.ref 74), some (.int x1), some (.int x2), some (.int x3), none, none]) (st' := [.int ((nI 14) - x3)]) rfl ?_
      exact h

theorem mk_X11_frees_67 {X : Nat × (Nat → Int32)} {x1 : Int32} {x2 : Int32} {iv : IV} {P : IV → Prop}
    (h : (((nI 15) ≤ x2 → P iv) ∧ (¬ ((nI 15) ≤ x2) → wp X (0, 0) 157 72 [some (.ref 74), some (.int x1), some (.int x2), some (.int (nI 0)), none, none] [] iv (Rv P)))) :
    wp X (0, 0) 157 67 [some (.ref 74), some (.int x1), some (.int x2), none, none, none] [] iv (Rv P) := by
  have hT := tb_157
  refine wp_s hT 2 (i' := 69) (L' := [some (.ref 74), some (.int x1), some (.int x2), none, none, none]) (st' := [.int (nI 15), .int x2]) rfl ?_
  refine wp_ic_ge hT rfl ⟨fun c => ?_, fun c => ?_⟩
  · have h := h.1 c
    exact wp_rv hT rfl rfl ⟨rfl, h⟩
  · have h := h.2 c
    refine wp_s hT 2 (i' := 72) (L' := [some (.ref 74), some (.int x1), some (.int x2), some (.int (nI 0)), none, none]) (st' := []) rfl ?_
    exact h

theorem mk_X11_frees_43 {X : Nat × (Nat → Int32)} {x1 : Int32} {iv : IV} {P : IV → Prop}
    (h : (((nI 15) ≤ x1 → wp X (0, 0) 157 67 [some (.ref 74), some (.int (nI 0)), some (.int (nI 0)), none, none, none] [] iv (Rv P)) ∧ (¬ ((nI 15) ≤ x1) → vp_in x1 15 ∧ vp_in (((nI 15) - x1) - ((nI 15) - x1) / (nI 15) * (nI 15)) 15 ∧ vp_in (iv 79 x1.toNatClampNeg) 16 ∧ (∀ iv1 : IV, iv1 = mm_up2 iv 80 (iv 79 x1.toNatClampNeg).toNatClampNeg (iv 79 (((nI 15) - x1) - ((nI 15) - x1) / (nI 15) * (nI 15)).toNatClampNeg) → wp X (0, 0) 157 43 [some (.ref 74), some (.int (x1 + nI 1)), none, none, none, none] [] iv1 (Rv P))))) :
    wp X (0, 0) 157 43 [some (.ref 74), some (.int x1), none, none, none, none] [] iv (Rv P) := by
  have hT := tb_157
  refine wp_s hT 2 (i' := 45) (L' := [some (.ref 74), some (.int x1), none, none, none, none]) (st' := [.int (nI 15), .int x1]) rfl ?_
  refine wp_ic_ge hT rfl ⟨fun c => ?_, fun c => ?_⟩
  · have h := h.1 c
    refine wp_s hT 4 (i' := 67) (L' := [some (.ref 74), some (.int (nI 0)), some (.int (nI 0)), none, none, none]) (st' := []) rfl ?_
    exact h
  · have h := h.2 c
    refine wp_s hT 5 (i' := 51) (L' := [some (.ref 74), some (.int x1), none, none, none, none]) (st' := [.int x1, .ref 79, .ref 80]) rfl ?_
    refine wp_iald hT rfl rfl ⟨h.1, ?_⟩
    have h := h.2
    refine wp_s hT 7 (i' := 59) (L' := [some (.ref 74), some (.int x1), none, none, none, none]) (st' := [.int (((nI 15) - x1) - ((nI 15) - x1) / (nI 15) * (nI 15)), .ref 79, .int (iv 79 x1.toNatClampNeg), .ref 80]) rfl ?_
    refine wp_iald hT rfl rfl ⟨h.1, ?_⟩
    have h := h.2
    refine wp_iast hT rfl rfl ⟨h.1, ?_⟩
    have h := h.2
    have h := h _ rfl
    refine wp_s hT 2 (i' := 43) (L' := [some (.ref 74), some (.int (x1 + nI 1)), none, none, none, none]) (st' := []) rfl ?_
    exact h

theorem mk_X11_frees_25 {X : Nat × (Nat → Int32)} {x1 : Int32} {iv : IV} {P : IV → Prop}
    (h : (((nI 15) ≤ x1 → wp X (0, 0) 157 43 [some (.ref 74), some (.int (nI 0)), none, none, none, none] [] iv (Rv P)) ∧ (¬ ((nI 15) ≤ x1) → vp_in (x1 - (nI 1)) 15 ∧ wc X 135 [.int (iv 79 (x1 - (nI 1)).toNatClampNeg)] iv (Ri (fun r2 iv1 => vp_in x1 15 ∧ (∀ iv3 : IV, iv3 = mm_up2 iv1 79 x1.toNatClampNeg r2 → wp X (0, 0) 157 25 [some (.ref 74), some (.int (x1 + nI 1)), none, none, none, none] [] iv3 (Rv P))))))) :
    wp X (0, 0) 157 25 [some (.ref 74), some (.int x1), none, none, none, none] [] iv (Rv P) := by
  have hT := tb_157
  refine wp_s hT 2 (i' := 27) (L' := [some (.ref 74), some (.int x1), none, none, none, none]) (st' := [.int (nI 15), .int x1]) rfl ?_
  refine wp_ic_ge hT rfl ⟨fun c => ?_, fun c => ?_⟩
  · have h := h.1 c
    refine wp_s hT 2 (i' := 43) (L' := [some (.ref 74), some (.int (nI 0)), none, none, none, none]) (st' := []) rfl ?_
    exact h
  · have h := h.2 c
    refine wp_s hT 8 (i' := 36) (L' := [some (.ref 74), some (.int x1), none, none, none, none]) (st' := [.int (x1 - (nI 1)), .ref 79, .int x1, .ref 79]) rfl ?_
    refine wp_iald hT rfl rfl ⟨h.1, ?_⟩
    have h := h.2
    refine wp_calli hT rfl rfl h (fun r2 iv1 h => ?_)
    refine wp_iast hT rfl rfl ⟨h.1, ?_⟩
    have h := h.2
    have h := h _ rfl
    refine wp_s hT 2 (i' := 25) (L' := [some (.ref 74), some (.int (x1 + nI 1)), none, none, none, none]) (st' := []) rfl ?_
    exact h

theorem mk_X11_frees_2 {X : Nat × (Nat → Int32)} {x1 : Int32} {iv : IV} {P : IV → Prop}
    (h : (((nI 256) ≤ x1 → vp_in (nI 0) 15 ∧ (∀ iv1 : IV, iv1 = mm_up2 iv 79 (nI 0).toNatClampNeg (nI 1) → wp X (0, 0) 157 25 [some (.ref 74), some (.int (nI 1)), none, none, none, none] [] iv1 (Rv P))) ∧ (¬ ((nI 256) ≤ x1) → wc X 136 [.int (x1 / (nI 16)), .int (x1 - x1 / (nI 16) * (nI 16))] iv (Ri (fun r3 iv2 => vp_in x1 256 ∧ (∀ iv4 : IV, iv4 = mm_up2 iv2 81 x1.toNatClampNeg r3 → wp X (0, 0) 157 2 [some (.ref 74), some (.int (x1 + nI 1)), none, none, none, none] [] iv4 (Rv P))))))) :
    wp X (0, 0) 157 2 [some (.ref 74), some (.int x1), none, none, none, none] [] iv (Rv P) := by
  have hT := tb_157
  refine wp_s hT 2 (i' := 4) (L' := [some (.ref 74), some (.int x1), none, none, none, none]) (st' := [.int (nI 256), .int x1]) rfl ?_
  refine wp_ic_ge hT rfl ⟨fun c => ?_, fun c => ?_⟩
  · have h := h.1 c
    refine wp_s hT 4 (i' := 22) (L' := [some (.ref 74), some (.int x1), none, none, none, none]) (st' := [.int (nI 1), .int (nI 0), .ref 79]) rfl ?_
    refine wp_iast hT rfl rfl ⟨h.1, ?_⟩
    have h := h.2
    have h := h _ rfl
    refine wp_s hT 2 (i' := 25) (L' := [some (.ref 74), some (.int (nI 1)), none, none, none, none]) (st' := []) rfl ?_
    exact h
  · have h := h.2 c
    refine wp_s hT 9 (i' := 14) (L' := [some (.ref 74), some (.int x1), none, none, none, none]) (st' := [.int (x1 - x1 / (nI 16) * (nI 16)), .int (x1 / (nI 16)), .int x1, .ref 81]) rfl ?_
    refine wp_calli hT rfl rfl h (fun r3 iv2 h => ?_)
    refine wp_iast hT rfl rfl ⟨h.1, ?_⟩
    have h := h.2
    have h := h _ rfl
    refine wp_s hT 2 (i' := 2) (L' := [some (.ref 74), some (.int (x1 + nI 1)), none, none, none, none]) (st' := []) rfl ?_
    exact h

theorem mk_X11_frees {X : Nat × (Nat → Int32)}  {iv : IV} {P : IV → Prop}
    (h : wp X (0, 0) 157 2 [some (.ref 74), some (.int (nI 0)), none, none, none, none] [] iv (Rv P)) :
    wc X 157 [.ref 74] iv (Rv P) := by
  have hT := tb_157
  show wp X (0, 0) 157 0 [some (.ref 74), none, none, none, none, none] [] iv (Rv P)
  refine wp_s hT 2 (i' := 2) (L' := [some (.ref 74), some (.int (nI 0)), none, none, none, none]) (st' := []) rfl ?_
  exact h

theorem mk_X11_itemAt_22 {X : Nat × (Nat → Int32)} {x1 : Int32} {s0 : Int32} {iv : IV} {P : Int32 → IV → Prop}
    (h : ((x1 = 0 → vp_in (nI 0) 2 ∧ P (iv 84 (nI 0).toNatClampNeg) iv) ∧ (¬ (x1 = 0) → (((x1 - (nI 1)) - (x1 - (nI 1)) / (nI 2) * (nI 2) = 0 → P (s0 / (nI 16)) iv) ∧ (¬ ((x1 - (nI 1)) - (x1 - (nI 1)) / (nI 2) * (nI 2) = 0) → P (s0 - s0 / (nI 16) * (nI 16)) iv))))) :
    wp X (0, 0) 158 22 [some (.ref 74), some (.int x1), none] [.int s0] iv (Ri P) := by
  have hT := tb_158
  refine wp_s hT 2 (i' := 24) (L' := [some (.ref 74), some (.int x1), some (.int s0)]) (st' := [.int x1]) rfl ?_
  refine wp_if_ne hT rfl ⟨fun c => ?_, fun c => ?_⟩
  · have h := h.1 c
    refine wp_s hT 3 (i' := 28) (L' := [some (.ref 74), some (.int x1), some (.int s0)]) (st' := [.int (nI 0), .ref 84]) rfl ?_
    refine wp_iald hT rfl rfl ⟨h.1, ?_⟩
    have h := h.2
    refine wp_s hT 1 (i' := 43) (L' := [some (.ref 74), some (.int x1), some (.int s0)]) (st' := [.int (iv 84 (nI 0).toNatClampNeg)]) rfl ?_
    exact wp_ri hT rfl rfl ⟨_, rfl, h⟩
  · have h := h.2 c
    refine wp_s hT 5 (i' := 35) (L' := [some (.ref 74), some (.int x1), some (.int s0)]) (st' := [.int ((x1 - (nI 1)) - (x1 - (nI 1)) / (nI 2) * (nI 2))]) rfl ?_
    refine wp_if_ne hT rfl ⟨fun c => ?_, fun c => ?_⟩
    · have h := h.1 c
      refine wp_s hT 4 (i' := 43) (L' := [some (.ref 74), some (.int x1), some (.int s0)]) (st' := [.int (s0 / (nI 16))]) rfl ?_
      exact wp_ri hT rfl rfl ⟨_, rfl, h⟩
    · have h := h.2 c
      refine wp_s hT 3 (i' := 43) (L' := [some (.ref 74), some (.int x1), some (.int s0)]) (st' := [.int (s0 - s0 / (nI 16) * (nI 16))]) rfl ?_
      exact wp_ri hT rfl rfl ⟨_, rfl, h⟩

theorem mk_X11_itemAt {X : Nat × (Nat → Int32)} {x1 : Int32} {iv : IV} {P : Int32 → IV → Prop}
    (h : ((x1 ≤ 0 → wp X (0, 0) 158 22 [some (.ref 74), some (.int x1), none] [.int (nI 0)] iv (Ri P)) ∧ (¬ (x1 ≤ 0) → vp_in (nI 0) 2 ∧ (((iv 84 (nI 0).toNatClampNeg) ≤ ((x1 - (nI 1)) / (nI 2)) → wp X (0, 0) 158 22 [some (.ref 74), some (.int x1), none] [.int (nI 0)] iv (Ri P)) ∧ (¬ ((iv 84 (nI 0).toNatClampNeg) ≤ ((x1 - (nI 1)) / (nI 2))) → vp_in ((x1 - (nI 1)) / (nI 2)) 14 ∧ wp X (0, 0) 158 22 [some (.ref 74), some (.int x1), none] [.int (iv 82 ((x1 - (nI 1)) / (nI 2)).toNatClampNeg)] iv (Ri P)))))) :
    wc X 158 [.ref 74, .int x1] iv (Ri P) := by
  have hT := tb_158
  show wp X (0, 0) 158 0 [some (.ref 74), some (.int x1), none] [] iv (Ri P)
  refine wp_s hT 1 (i' := 1) (L' := [some (.ref 74), some (.int x1), none]) (st' := [.int x1]) rfl ?_
  refine wp_if_le hT rfl ⟨fun c => ?_, fun c => ?_⟩
  · have h := h.1 c
    refine wp_s hT 1 (i' := 22) (L' := [some (.ref 74), some (.int x1), none]) (st' := [.int (nI 0)]) rfl ?_
    exact h
  · have h := h.2 c
    refine wp_s hT 8 (i' := 10) (L' := [some (.ref 74), some (.int x1), none]) (st' := [.int (nI 0), .ref 84, .int ((x1 - (nI 1)) / (nI 2))]) rfl ?_
    refine wp_iald hT rfl rfl ⟨h.1, ?_⟩
    have h := h.2
    refine wp_ic_ge hT rfl ⟨fun c => ?_, fun c => ?_⟩
    · have h := h.1 c
      refine wp_s hT 1 (i' := 22) (L' := [some (.ref 74), some (.int x1), none]) (st' := [.int (nI 0)]) rfl ?_
      exact h
    · have h := h.2 c
      refine wp_s hT 7 (i' := 19) (L' := [some (.ref 74), some (.int x1), none]) (st' := [.int ((x1 - (nI 1)) / (nI 2)), .ref 82]) rfl ?_
      refine wp_iald hT rfl rfl ⟨h.1, ?_⟩
      have h := h.2
      refine wp_s hT 1 (i' := 22) (L' := [some (.ref 74), some (.int x1), none]) (st' := [.int (iv 82 ((x1 - (nI 1)) / (nI 2)).toNatClampNeg)]) rfl ?_
      exact h

theorem mk_X11_bases_26 {X : Nat × (Nat → Int32)} {x1 : Int32} {x2 : Int32} {x3 : Int32} {iv : IV} {P : IV → Prop}
    (h : ((x3 ≤ 0 → wp X (0, 0) 159 19 [some (.ref 74), some (.int x1), some (.int (x2 + nI 1)), none] [] iv (Rv P)) ∧ (¬ (x3 ≤ 0) → vp_in x3 7 ∧ vp_in (x3 - (nI 1)) 7 ∧ wc X 140 [.ref 74, .int x2] iv (Ri (fun r2 iv1 => wc X 139 [.ref 74, .int (iv 90 (x3 - (nI 1)).toNatClampNeg), .int r2] iv1 (Ri (fun r4 iv3 => vp_in x3 7 ∧ (∀ iv5 : IV, iv5 = mm_up2 iv3 90 x3.toNatClampNeg ((iv 90 x3.toNatClampNeg) ^^^ r4) → ∀ v6 : Int32, v6 = x3 + nI 4294967295 → wp X (0, 0) 159 26 [some (.ref 74), some (.int x1), some (.int x2), some (.int v6)] [] iv5 (Rv P))))))))) :
    wp X (0, 0) 159 26 [some (.ref 74), some (.int x1), some (.int x2), some (.int x3)] [] iv (Rv P) := by
  have hT := tb_159
  refine wp_s hT 1 (i' := 27) (L' := [some (.ref 74), some (.int x1), some (.int x2), some (.int x3)]) (st' := [.int x3]) rfl ?_
  refine wp_if_le hT rfl ⟨fun c => ?_, fun c => ?_⟩
  · have h := h.1 c
    refine wp_s hT 2 (i' := 19) (L' := [some (.ref 74), some (.int x1), some (.int (x2 + nI 1)), some (.int x3)]) (st' := []) rfl ?_
    refine wp_le (L := [some (.ref 74), some (.int x1), some (.int (x2 + nI 1)), none]) ⟨Or.inl rfl, Or.inl rfl, Or.inl rfl, Or.inr ⟨rfl, rfl⟩, trivial⟩ ?_
    exact h
  · have h := h.2 c
    refine wp_s hT 4 (i' := 32) (L' := [some (.ref 74), some (.int x1), some (.int x2), some (.int x3)]) (st' := [.int x3, .ref 90, .int x3, .ref 90]) rfl ?_
    refine wp_iald hT rfl rfl ⟨h.1, ?_⟩
    have h := h.2
    refine wp_s hT 6 (i' := 39) (L' := [some (.ref 74), some (.int x1), some (.int x2), some (.int x3)]) (st' := [.int (x3 - (nI 1)), .ref 90, .ref 74, .int (iv 90 x3.toNatClampNeg), .int x3, .ref 90]) rfl ?_
    refine wp_iald hT rfl rfl ⟨h.1, ?_⟩
    have h := h.2
    refine wp_s hT 2 (i' := 42) (L' := [some (.ref 74), some (.int x1), some (.int x2), some (.int x3)]) (st' := [.int x2, .ref 74, .int (iv 90 (x3 - (nI 1)).toNatClampNeg), .ref 74, .int (iv 90 x3.toNatClampNeg), .int x3, .ref 90]) rfl ?_
    refine wp_calli hT rfl rfl h (fun r2 iv1 h => ?_)
    refine wp_calli hT rfl rfl h (fun r4 iv3 h => ?_)
    refine wp_s hT 1 (i' := 45) (L' := [some (.ref 74), some (.int x1), some (.int x2), some (.int x3)]) (st' := [.int ((iv 90 x3.toNatClampNeg) ^^^ r4), .int x3, .ref 90]) rfl ?_
    refine wp_iast hT rfl rfl ⟨h.1, ?_⟩
    have h := h.2
    have h := h _ rfl
    refine wp_s hT 1 (i' := 47) (L' := [some (.ref 74), some (.int x1), some (.int x2), some (.int (x3 + nI 4294967295))]) (st' := []) rfl ?_
    have h := h _ rfl
    refine wp_s hT 1 (i' := 26) (L' := [some (.ref 74), some (.int x1), some (.int x2), some (.int (x3 + nI 4294967295))]) (st' := []) rfl ?_
    exact h

theorem mk_X11_bases_19 {X : Nat × (Nat → Int32)} {x1 : Int32} {x2 : Int32} {iv : IV} {P : IV → Prop}
    (h : ((x1 ≤ x2 → P iv) ∧ (¬ (x1 ≤ x2) → wp X (0, 0) 159 26 [some (.ref 74), some (.int x1), some (.int x2), some (.int (x2 + (nI 1)))] [] iv (Rv P)))) :
    wp X (0, 0) 159 19 [some (.ref 74), some (.int x1), some (.int x2), none] [] iv (Rv P) := by
  have hT := tb_159
  refine wp_s hT 2 (i' := 21) (L' := [some (.ref 74), some (.int x1), some (.int x2), none]) (st' := [.int x1, .int x2]) rfl ?_
  refine wp_ic_ge hT rfl ⟨fun c => ?_, fun c => ?_⟩
  · have h := h.1 c
    exact wp_rv hT rfl rfl ⟨rfl, h⟩
  · have h := h.2 c
    refine wp_s hT 4 (i' := 26) (L' := [some (.ref 74), some (.int x1), some (.int x2), some (.int (x2 + (nI 1)))]) (st' := []) rfl ?_
    exact h

theorem mk_X11_bases_7 {X : Nat × (Nat → Int32)} {x1 : Int32} {x2 : Int32} {iv : IV} {P : IV → Prop}
    (h : (((nI 7) ≤ x2 → wp X (0, 0) 159 19 [some (.ref 74), some (.int x1), some (.int (nI 0)), none] [] iv (Rv P)) ∧ (¬ ((nI 7) ≤ x2) → vp_in x2 7 ∧ (∀ iv1 : IV, iv1 = mm_up2 iv 90 x2.toNatClampNeg (nI 0) → wp X (0, 0) 159 7 [some (.ref 74), some (.int x1), some (.int (x2 + nI 1)), none] [] iv1 (Rv P))))) :
    wp X (0, 0) 159 7 [some (.ref 74), some (.int x1), some (.int x2), none] [] iv (Rv P) := by
  have hT := tb_159
  refine wp_s hT 2 (i' := 9) (L' := [some (.ref 74), some (.int x1), some (.int x2), none]) (st' := [.int (nI 7), .int x2]) rfl ?_
  refine wp_ic_ge hT rfl ⟨fun c => ?_, fun c => ?_⟩
  · have h := h.1 c
    refine wp_s hT 2 (i' := 19) (L' := [some (.ref 74), some (.int x1), some (.int (nI 0)), none]) (st' := []) rfl ?_
    exact h
  · have h := h.2 c
    refine wp_s hT 4 (i' := 14) (L' := [some (.ref 74), some (.int x1), some (.int x2), none]) (st' := [.int (nI 0), .int x2, .ref 90]) rfl ?_
    refine wp_iast hT rfl rfl ⟨h.1, ?_⟩
    have h := h.2
    have h := h _ rfl
    refine wp_s hT 2 (i' := 7) (L' := [some (.ref 74), some (.int x1), some (.int (x2 + nI 1)), none]) (st' := []) rfl ?_
    exact h

theorem mk_X11_bases {X : Nat × (Nat → Int32)} {x1 : Int32} {iv : IV} {P : IV → Prop}
    (h : vp_in (nI 0) 7 ∧ (∀ iv1 : IV, iv1 = mm_up2 iv 90 (nI 0).toNatClampNeg (nI 1) → wp X (0, 0) 159 7 [some (.ref 74), some (.int x1), some (.int (nI 1)), none] [] iv1 (Rv P))) :
    wc X 159 [.ref 74, .int x1] iv (Rv P) := by
  have hT := tb_159
  show wp X (0, 0) 159 0 [some (.ref 74), some (.int x1), none, none] [] iv (Rv P)
  refine wp_s hT 4 (i' := 4) (L' := [some (.ref 74), some (.int x1), none, none]) (st' := [.int (nI 1), .int (nI 0), .ref 90]) rfl ?_
  refine wp_iast hT rfl rfl ⟨h.1, ?_⟩
  have h := h.2
  have h := h _ rfl
  refine wp_s hT 2 (i' := 7) (L' := [some (.ref 74), some (.int x1), some (.int (nI 1)), none]) (st' := []) rfl ?_
  exact h

theorem mk_X11_checks_75 {X : Nat × (Nat → Int32)} {x1 : Int32} {x2 : Int32} {x3 : Int32} {iv : IV} {P : IV → Prop}
    (h : ((x2 ≤ x3 → P iv) ∧ (¬ (x2 ≤ x3) → vp_in x3 7 ∧ vp_in (((((nI 14) * x1) + (nI 14)) - x2) + x3) 42 ∧ (∀ iv1 : IV, iv1 = mm_up2 iv 85 (((((nI 14) * x1) + (nI 14)) - x2) + x3).toNatClampNeg (iv 89 x3.toNatClampNeg) → wp X (0, 0) 160 75 [some (.ref 74), some (.int x1), some (.int x2), some (.int (x3 + nI 1)), none, none] [] iv1 (Rv P))))) :
    wp X (0, 0) 160 75 [some (.ref 74), some (.int x1), some (.int x2), some (.int x3), none, none] [] iv (Rv P) := by
  have hT := tb_160
  refine wp_s hT 2 (i' := 77) (L' := [some (.ref 74), some (.int x1), some (.int x2), some (.int x3), none, none]) (st' := [.int x2, .int x3]) rfl ?_
  refine wp_ic_ge hT rfl ⟨fun c => ?_, fun c => ?_⟩
  · have h := h.1 c
    exact wp_rv hT rfl rfl ⟨rfl, h⟩
  · have h := h.2 c
    refine wp_s hT 14 (i' := 92) (L' := [some (.ref 74), some (.int x1), some (.int x2), some (.int x3), none, none]) (st' := [.int x3, .ref 89, .int (((((nI 14) * x1) + (nI 14)) - x2) + x3), .ref 85]) rfl ?_
    refine wp_iald hT rfl rfl ⟨h.1, ?_⟩
    have h := h.2
    refine wp_iast hT rfl rfl ⟨h.1, ?_⟩
    have h := h.2
    have h := h _ rfl
    refine wp_s hT 2 (i' := 75) (L' := [some (.ref 74), some (.int x1), some (.int x2), some (.int (x3 + nI 1)), none, none]) (st' := []) rfl ?_
    exact h

theorem mk_X11_checks_58 {X : Nat × (Nat → Int32)} {x1 : Int32} {x2 : Int32} {x3 : Int32} {x4 : Int32} {x5 : Int32} {s0 : Int32} {s1 : Int32} {iv : IV} {P : IV → Prop}
    (h : vp_in (x5 + (nI 1)) 7 ∧ wc X 139 [.ref 74, .int x4, .int (iv 90 (x5 + (nI 1)).toNatClampNeg)] iv (Ri (fun r2 iv1 => vp_in s1 7 ∧ (∀ iv3 : IV, iv3 = mm_up2 iv1 89 s1.toNatClampNeg (s0 ^^^ r2) → wp X (0, 0) 160 39 [some (.ref 74), some (.int x1), some (.int x2), some (.int x3), some (.int x4), some (.int (x5 + nI 1))] [] iv3 (Rv P))))) :
    wp X (0, 0) 160 58 [some (.ref 74), some (.int x1), some (.int x2), some (.int x3), some (.int x4), some (.int x5)] [.int s0, .int s1, .ref 89] iv (Rv P) := by
  have hT := tb_160
  refine wp_s hT 7 (i' := 65) (L' := [some (.ref 74), some (.int x1), some (.int x2), some (.int x3), some (.int x4), some (.int x5)]) (st' := [.int (x5 + (nI 1)), .ref 90, .int x4, .ref 74, .int s0, .int s1, .ref 89]) rfl ?_
  refine wp_iald hT rfl rfl ⟨h.1, ?_⟩
  have h := h.2
  refine wp_calli hT rfl rfl h (fun r2 iv1 h => ?_)
  refine wp_s hT 1 (i' := 68) (L' := [some (.ref 74), some (.int x1), some (.int x2), some (.int x3), some (.int x4), some (.int x5)]) (st' := [.int (s0 ^^^ r2), .int s1, .ref 89]) rfl ?_
  refine wp_iast hT rfl rfl ⟨h.1, ?_⟩
  have h := h.2
  have h := h _ rfl
  refine wp_s hT 2 (i' := 39) (L' := [some (.ref 74), some (.int x1), some (.int x2), some (.int x3), some (.int x4), some (.int (x5 + nI 1))]) (st' := []) rfl ?_
  exact h

theorem mk_X11_checks_39 {X : Nat × (Nat → Int32)} {x1 : Int32} {x2 : Int32} {x3 : Int32} {x4 : Int32} {x5 : Int32} {iv : IV} {P : IV → Prop}
    (h : ((x2 ≤ x5 → wp X (0, 0) 160 18 [some (.ref 74), some (.int x1), some (.int x2), some (.int (x3 + nI 1)), none, none] [] iv (Rv P)) ∧ (¬ (x2 ≤ x5) → ((x2 ≤ (x5 + (nI 1)) → wp X (0, 0) 160 58 [some (.ref 74), some (.int x1), some (.int x2), some (.int x3), some (.int x4), some (.int x5)] [.int (nI 0), .int x5, .ref 89] iv (Rv P)) ∧ (¬ (x2 ≤ (x5 + (nI 1))) → vp_in (x5 + (nI 1)) 7 ∧ wp X (0, 0) 160 58 [some (.ref 74), some (.int x1), some (.int x2), some (.int x3), some (.int x4), some (.int x5)] [.int (iv 89 (x5 + (nI 1)).toNatClampNeg), .int x5, .ref 89] iv (Rv P)))))) :
    wp X (0, 0) 160 39 [some (.ref 74), some (.int x1), some (.int x2), some (.int x3), some (.int x4), some (.int x5)] [] iv (Rv P) := by
  have hT := tb_160
  refine wp_s hT 2 (i' := 41) (L' := [some (.ref 74), some (.int x1), some (.int x2), some (.int x3), some (.int x4), some (.int x5)]) (st' := [.int x2, .int x5]) rfl ?_
  refine wp_ic_ge hT rfl ⟨fun c => ?_, fun c => ?_⟩
  · have h := h.1 c
    refine wp_s hT 2 (i' := 18) (L' := [some (.ref 74), some (.int x1), some (.int x2), some (.int (x3 + nI 1)), some (.int x4), some (.int x5)]) (st' := []) rfl ?_
    refine wp_le (L := [some (.ref 74), some (.int x1), some (.int x2), some (.int (x3 + nI 1)), none, none]) ⟨Or.inl rfl, Or.inl rfl, Or.inl rfl, Or.inl rfl, Or.inr ⟨rfl, rfl⟩, Or.inr ⟨rfl, rfl⟩, trivial⟩ ?_
    exact h
  · have h := h.2 c
    refine wp_s hT 7 (i' := 49) (L' := [some (.ref 74), some (.int x1), some (.int x2), some (.int x3), some (.int x4), some (.int x5)]) (st' := [.int x2, .int (x5 + (nI 1)), .int x5, .ref 89]) rfl ?_
    refine wp_ic_ge hT rfl ⟨fun c => ?_, fun c => ?_⟩
    · have h := h.1 c
      refine wp_s hT 1 (i' := 58) (L' := [some (.ref 74), some (.int x1), some (.int x2), some (.int x3), some (.int x4), some (.int x5)]) (st' := [.int (nI 0), .int x5, .ref 89]) rfl ?_
      exact h
    · have h := h.2 c
      refine wp_s hT 5 (i' := 55) (L' := [some (.ref 74), some (.int x1), some (.int x2), some (.int x3), some (.int x4), some (.int x5)]) (st' := [.int (x5 + (nI 1)), .ref 89, .int x5, .ref 89]) rfl ?_
      refine wp_iald hT rfl rfl ⟨h.1, ?_⟩
      have h := h.2
      refine wp_s hT 1 (i' := 58) (L' := [some (.ref 74), some (.int x1), some (.int x2), some (.int x3), some (.int x4), some (.int x5)]) (st' := [.int (iv 89 (x5 + (nI 1)).toNatClampNeg), .int x5, .ref 89]) rfl ?_
      exact h

theorem mk_X11_checks_18 {X : Nat × (Nat → Int32)} {x1 : Int32} {x2 : Int32} {x3 : Int32} {iv : IV} {P : IV → Prop}
    (h : ((((nI 14) - x2) ≤ x3 → wp X (0, 0) 160 75 [some (.ref 74), some (.int x1), some (.int x2), some (.int (nI 0)), none, none] [] iv (Rv P)) ∧ (¬ (((nI 14) - x2) ≤ x3) → vp_in (((nI 14) * x1) + x3) 42 ∧ vp_in (nI 0) 7 ∧ ∀ v1 : Int32, v1 = (iv 85 (((nI 14) * x1) + x3).toNatClampNeg) ^^^ (iv 89 (nI 0).toNatClampNeg) → wp X (0, 0) 160 39 [some (.ref 74), some (.int x1), some (.int x2), some (.int x3), some (.int v1), some (.int (nI 0))] [] iv (Rv P)))) :
    wp X (0, 0) 160 18 [some (.ref 74), some (.int x1), some (.int x2), some (.int x3), none, none] [] iv (Rv P) := by
  have hT := tb_160
  refine wp_s hT 4 (i' := 22) (L' := [some (.ref 74), some (.int x1), some (.int x2), some (.int x3), none, none]) (st' := [.int ((nI 14) - x2), .int x3]) rfl ?_
  refine wp_ic_ge hT rfl ⟨fun c => ?_, fun c => ?_⟩
  · have h := h.1 c
    refine wp_s hT 2 (i' := 75) (L' := [some (.ref 74), some (.int x1), some (.int x2), some (.int (nI 0)), none, none]) (st' := []) rfl ?_
    exact h
  · have h := h.2 c
    refine wp_s hT 7 (i' := 30) (L' := [some (.ref 74), some (.int x1), some (.int x2), some (.int x3), none, none]) (st' := [.int (((nI 14) * x1) + x3), .ref 85]) rfl ?_
    refine wp_iald hT rfl rfl ⟨h.1, ?_⟩
    have h := h.2
    refine wp_s hT 3 (i' := 34) (L' := [some (.ref 74), some (.int x1), some (.int x2), some (.int x3), none, none]) (st' := [.int (nI 0), .ref 89, .int (iv 85 (((nI 14) * x1) + x3).toNatClampNeg)]) rfl ?_
    refine wp_iald hT rfl rfl ⟨h.1, ?_⟩
    have h := h.2
    refine wp_s hT 2 (i' := 37) (L' := [some (.ref 74), some (.int x1), some (.int x2), some (.int x3), some (.int ((iv 85 (((nI 14) * x1) + x3).toNatClampNeg) ^^^ (iv 89 (nI 0).toNatClampNeg))), none]) (st' := []) rfl ?_
    have h := h _ rfl
    refine wp_s hT 2 (i' := 39) (L' := [some (.ref 74), some (.int x1), some (.int x2), some (.int x3), some (.int ((iv 85 (((nI 14) * x1) + x3).toNatClampNeg) ^^^ (iv 89 (nI 0).toNatClampNeg))), some (.int (nI 0))]) (st' := []) rfl ?_
    exact h

theorem mk_X11_checks_6 {X : Nat × (Nat → Int32)} {x1 : Int32} {x2 : Int32} {x3 : Int32} {iv : IV} {P : IV → Prop}
    (h : (((nI 7) ≤ x3 → wp X (0, 0) 160 18 [some (.ref 74), some (.int x1), some (.int x2), some (.int (nI 0)), none, none] [] iv (Rv P)) ∧ (¬ ((nI 7) ≤ x3) → vp_in x3 7 ∧ (∀ iv1 : IV, iv1 = mm_up2 iv 89 x3.toNatClampNeg (nI 0) → wp X (0, 0) 160 6 [some (.ref 74), some (.int x1), some (.int x2), some (.int (x3 + nI 1)), none, none] [] iv1 (Rv P))))) :
    wp X (0, 0) 160 6 [some (.ref 74), some (.int x1), some (.int x2), some (.int x3), none, none] [] iv (Rv P) := by
  have hT := tb_160
  refine wp_s hT 2 (i' := 8) (L' := [some (.ref 74), some (.int x1), some (.int x2), some (.int x3), none, none]) (st' := [.int (nI 7), .int x3]) rfl ?_
  refine wp_ic_ge hT rfl ⟨fun c => ?_, fun c => ?_⟩
  · have h := h.1 c
    refine wp_s hT 2 (i' := 18) (L' := [some (.ref 74), some (.int x1), some (.int x2), some (.int (nI 0)), none, none]) (st' := []) rfl ?_
    exact h
  · have h := h.2 c
    refine wp_s hT 4 (i' := 13) (L' := [some (.ref 74), some (.int x1), some (.int x2), some (.int x3), none, none]) (st' := [.int (nI 0), .int x3, .ref 89]) rfl ?_
    refine wp_iast hT rfl rfl ⟨h.1, ?_⟩
    have h := h.2
    have h := h _ rfl
    refine wp_s hT 2 (i' := 6) (L' := [some (.ref 74), some (.int x1), some (.int x2), some (.int (x3 + nI 1)), none, none]) (st' := []) rfl ?_
    exact h

theorem mk_X11_checks {X : Nat × (Nat → Int32)} {x1 : Int32} {iv : IV} {P : IV → Prop}
    (h : wc X 152 [.int (iv 74 12)] iv (Ri (fun r2 iv1 => wp X (0, 0) 160 6 [some (.ref 74), some (.int x1), some (.int r2), some (.int (nI 0)), none, none] [] iv1 (Rv P)))) :
    wc X 160 [.ref 74, .int x1] iv (Rv P) := by
  have hT := tb_160
  show wp X (0, 0) 160 0 [some (.ref 74), some (.int x1), none, none, none, none] [] iv (Rv P)
  refine wp_s hT 2 (i' := 2) (L' := [some (.ref 74), some (.int x1), none, none, none, none]) (st' := [.int (iv 74 12)]) rfl ?_
  refine wp_calli hT rfl rfl h (fun r2 iv1 h => ?_)
  refine wp_s hT 3 (i' := 6) (L' := [some (.ref 74), some (.int x1), some (.int r2), some (.int (nI 0)), none, none]) (st' := []) rfl ?_
  exact h

theorem mk_X11_maskBit {X : Nat × (Nat → Int32)} {x0 : Int32} {x1 : Int32} {x2 : Int32} {iv : IV} {P : Int32 → IV → Prop}
    (h : ((x0 = nI 0 → (((x1 + x2) - (x1 + x2) / (nI 2) * (nI 2) = 0 → P (nI 1) iv) ∧ (¬ ((x1 + x2) - (x1 + x2) / (nI 2) * (nI 2) = 0) → P (nI 0) iv))) ∧ (x0 = nI 1 → ((x1 - x1 / (nI 2) * (nI 2) = 0 → P (nI 1) iv) ∧ (¬ (x1 - x1 / (nI 2) * (nI 2) = 0) → P (nI 0) iv))) ∧ (x0 = nI 2 → ((x2 - x2 / (nI 3) * (nI 3) = 0 → P (nI 1) iv) ∧ (¬ (x2 - x2 / (nI 3) * (nI 3) = 0) → P (nI 0) iv))) ∧ (x0 = nI 3 → (((((x1 * x2) + x1) + x2) - (((x1 * x2) + x1) + x2) / (nI 2) * (nI 2) = 0 → P (nI 1) iv) ∧ (¬ ((((x1 * x2) + x1) + x2) - (((x1 * x2) + x1) + x2) / (nI 2) * (nI 2) = 0) → P (nI 0) iv))) ∧ (¬ vp_in x0 4 → P (nI 0) iv))) :
    wc X 161 [.int x0, .int x1, .int x2] iv (Ri P) := by
  have hT := tb_161
  show wp X (0, 0) 161 0 [some (.int x0), some (.int x1), some (.int x2)] [] iv (Ri P)
  refine wp_s hT 1 (i' := 1) (L' := [some (.int x0), some (.int x1), some (.int x2)]) (st' := [.int x0]) rfl ?_
  by_cases hx : vp_in x0 4
  · obtain ⟨k, hk, ek⟩ := vp_in_of hx (by decide)
    match k, hk, ek with
    | 0, _, ek =>
      refine wp_sw hT rfl (i' := 2) (st' := []) (by rw [ek]; rfl) ?_
      have h := h.1 ek
      refine wp_s hT 5 (i' := 7) (L' := [some (.int x0), some (.int x1), some (.int x2)]) (st' := [.int ((x1 + x2) - (x1 + x2) / (nI 2) * (nI 2))]) rfl ?_
      refine wp_if_ne hT rfl ⟨fun c => ?_, fun c => ?_⟩
      · have h := h.1 c
        refine wp_s hT 2 (i' := 11) (L' := [some (.int x0), some (.int x1), some (.int x2)]) (st' := [.int (nI 1)]) rfl ?_
        exact wp_ri hT rfl rfl ⟨_, rfl, h⟩
      · have h := h.2 c
        refine wp_s hT 1 (i' := 11) (L' := [some (.int x0), some (.int x1), some (.int x2)]) (st' := [.int (nI 0)]) rfl ?_
        exact wp_ri hT rfl rfl ⟨_, rfl, h⟩
    | 1, _, ek =>
      refine wp_sw hT rfl (i' := 12) (st' := []) (by rw [ek]; rfl) ?_
      have h := h.2.1 ek
      refine wp_s hT 3 (i' := 15) (L' := [some (.int x0), some (.int x1), some (.int x2)]) (st' := [.int (x1 - x1 / (nI 2) * (nI 2))]) rfl ?_
      refine wp_if_ne hT rfl ⟨fun c => ?_, fun c => ?_⟩
      · have h := h.1 c
        refine wp_s hT 2 (i' := 19) (L' := [some (.int x0), some (.int x1), some (.int x2)]) (st' := [.int (nI 1)]) rfl ?_
        exact wp_ri hT rfl rfl ⟨_, rfl, h⟩
      · have h := h.2 c
        refine wp_s hT 1 (i' := 19) (L' := [some (.int x0), some (.int x1), some (.int x2)]) (st' := [.int (nI 0)]) rfl ?_
        exact wp_ri hT rfl rfl ⟨_, rfl, h⟩
    | 2, _, ek =>
      refine wp_sw hT rfl (i' := 20) (st' := []) (by rw [ek]; rfl) ?_
      have h := h.2.2.1 ek
      refine wp_s hT 3 (i' := 23) (L' := [some (.int x0), some (.int x1), some (.int x2)]) (st' := [.int (x2 - x2 / (nI 3) * (nI 3))]) rfl ?_
      refine wp_if_ne hT rfl ⟨fun c => ?_, fun c => ?_⟩
      · have h := h.1 c
        refine wp_s hT 2 (i' := 27) (L' := [some (.int x0), some (.int x1), some (.int x2)]) (st' := [.int (nI 1)]) rfl ?_
        exact wp_ri hT rfl rfl ⟨_, rfl, h⟩
      · have h := h.2 c
        refine wp_s hT 1 (i' := 27) (L' := [some (.int x0), some (.int x1), some (.int x2)]) (st' := [.int (nI 0)]) rfl ?_
        exact wp_ri hT rfl rfl ⟨_, rfl, h⟩
    | 3, _, ek =>
      refine wp_sw hT rfl (i' := 28) (st' := []) (by rw [ek]; rfl) ?_
      have h := h.2.2.2.1 ek
      refine wp_s hT 9 (i' := 37) (L' := [some (.int x0), some (.int x1), some (.int x2)]) (st' := [.int ((((x1 * x2) + x1) + x2) - (((x1 * x2) + x1) + x2) / (nI 2) * (nI 2))]) rfl ?_
      refine wp_if_ne hT rfl ⟨fun c => ?_, fun c => ?_⟩
      · have h := h.1 c
        refine wp_s hT 2 (i' := 41) (L' := [some (.int x0), some (.int x1), some (.int x2)]) (st' := [.int (nI 1)]) rfl ?_
        exact wp_ri hT rfl rfl ⟨_, rfl, h⟩
      · have h := h.2 c
        refine wp_s hT 1 (i' := 41) (L' := [some (.int x0), some (.int x1), some (.int x2)]) (st' := [.int (nI 0)]) rfl ?_
        exact wp_ri hT rfl rfl ⟨_, rfl, h⟩
    | k + 4, hk, _ => exact absurd hk (by omega)
  · refine wp_sw hT rfl (i' := 42) (st' := []) (mm_sw_d hx rfl rfl) ?_
    have h := h.2.2.2.2 hx
    refine wp_s hT 1 (i' := 43) (L' := [some (.int x0), some (.int x1), some (.int x2)]) (st' := [.int (nI 0)]) rfl ?_
    exact wp_ri hT rfl rfl ⟨_, rfl, h⟩

theorem mk_X11_dotAt_46 {X : Nat × (Nat → Int32)} {x4 : Int32} {x5 : Int32} {s0 : Int32} {s1 : Int32} {iv : IV} {P : Int32 → IV → Prop}
    (h : ((x5 = (nI 4294967295) → ((x4 - x4 / (nI 2) * (nI 2) = 0 → P (nI 1) iv) ∧ (¬ (x4 - x4 / (nI 2) * (nI 2) = 0) → P (nI 0) iv))) ∧ (¬ (x5 = (nI 4294967295)) → P (((s1 + s0) >>> (x5 &&& 31)) &&& (nI 1)) iv))) :
    wp X (0, 0) 162 46 [none, none, none, none, some (.int x4), some (.int x5), none] [.int s0, .int s1] iv (Ri P) := by
  have hT := tb_162
  refine wp_s hT 4 (i' := 50) (L' := [none, none, none, none, some (.int x4), some (.int x5), some (.int (s1 + s0))]) (st' := [.int (nI 4294967295), .int x5]) rfl ?_
  refine wp_ic_ne hT rfl ⟨fun c => ?_, fun c => ?_⟩
  · have h := h.1 c
    refine wp_s hT 3 (i' := 54) (L' := [none, none, none, none, some (.int x4), some (.int x5), some (.int (s1 + s0))]) (st' := [.int (x4 - x4 / (nI 2) * (nI 2))]) rfl ?_
    refine wp_if_ne hT rfl ⟨fun c => ?_, fun c => ?_⟩
    · have h := h.1 c
      refine wp_s hT 2 (i' := 64) (L' := [none, none, none, none, some (.int x4), some (.int x5), some (.int (s1 + s0))]) (st' := [.int (nI 1)]) rfl ?_
      exact wp_ri hT rfl rfl ⟨_, rfl, h⟩
    · have h := h.2 c
      refine wp_s hT 2 (i' := 64) (L' := [none, none, none, none, some (.int x4), some (.int x5), some (.int (s1 + s0))]) (st' := [.int (nI 0)]) rfl ?_
      exact wp_ri hT rfl rfl ⟨_, rfl, h⟩
  · have h := h.2 c
    refine wp_s hT 5 (i' := 64) (L' := [none, none, none, none, some (.int x4), some (.int x5), some (.int (s1 + s0))]) (st' := [.int (((s1 + s0) >>> (x5 &&& 31)) &&& (nI 1))]) rfl ?_
    exact wp_ri hT rfl rfl ⟨_, rfl, h⟩

theorem mk_X11_dotAt {X : Nat × (Nat → Int32)} {x1 : Int32} {x2 : Int32} {iv : IV} {P : Int32 → IV → Prop}
    (h : ∀ v1 : Int32, v1 = x2 - x2 / (nI 15) * (nI 15) → vp_in x2 225 ∧ (((iv 87 x2.toNatClampNeg) = (nI 4294967295) → wc X 154 [.int (x2 / (nI 15)), .int v1] iv (Ri (fun r3 iv2 => ((r3 = 0 → wc X 156 [.int (x2 / (nI 15)), .int v1] iv2 (Ri (fun r5 iv4 => ((x1 = (nI 4294967295) → wp X (0, 0) 162 46 [none, none, none, none, some (.int v1), some (.int r5), none] [.int (nI 0), .int ((nI 4) * (iv4 74 12))] iv4 (Ri P)) ∧ (¬ (x1 = (nI 4294967295)) → wp X (0, 0) 162 46 [none, none, none, none, some (.int v1), some (.int r5), none] [.int x1, .int ((nI 4) * (iv4 74 12))] iv4 (Ri P)))))) ∧ (¬ (r3 = 0) → wc X 155 [.int (x2 / (nI 15)), .int v1] iv2 (Ri (fun r7 iv6 => P r7 iv6))))))) ∧ (¬ ((iv 87 x2.toNatClampNeg) = (nI 4294967295)) → vp_in x2 225 ∧ wc X 161 [.int x1, .int (x2 / (nI 15)), .int v1] iv (Ri (fun r9 iv8 => P ((iv 86 x2.toNatClampNeg) ^^^ r9) iv8))))) :
    wc X 162 [.ref 74, .int x1, .int x2] iv (Ri P) := by
  have hT := tb_162
  show wp X (0, 0) 162 0 [some (.ref 74), some (.int x1), some (.int x2), none, none, none, none] [] iv (Ri P)
  refine wp_s hT 8 (i' := 8) (L' := [some (.ref 74), some (.int x1), some (.int x2), some (.int (x2 / (nI 15))), some (.int (x2 - x2 / (nI 15) * (nI 15))), none, none]) (st' := []) rfl ?_
  have h := h _ rfl
  refine wp_s hT 3 (i' := 11) (L' := [some (.ref 74), some (.int x1), some (.int x2), some (.int (x2 / (nI 15))), some (.int (x2 - x2 / (nI 15) * (nI 15))), none, none]) (st' := [.int x2, .ref 87]) rfl ?_
  refine wp_iald hT rfl rfl ⟨h.1, ?_⟩
  have h := h.2
  refine wp_s hT 1 (i' := 13) (L' := [some (.ref 74), some (.int x1), some (.int x2), some (.int (x2 / (nI 15))), some (.int (x2 - x2 / (nI 15) * (nI 15))), none, none]) (st' := [.int (nI 4294967295), .int (iv 87 x2.toNatClampNeg)]) rfl ?_
  refine wp_ic_eq hT rfl ⟨fun c => ?_, fun c => ?_⟩
  · have h := h.1 c
    refine wp_s hT 2 (i' := 26) (L' := [some (.ref 74), some (.int x1), some (.int x2), some (.int (x2 / (nI 15))), some (.int (x2 - x2 / (nI 15) * (nI 15))), none, none]) (st' := [.int (x2 - x2 / (nI 15) * (nI 15)), .int (x2 / (nI 15))]) rfl ?_
    refine wp_calli hT rfl rfl h (fun r3 iv2 h => ?_)
    refine wp_if_eq hT rfl ⟨fun c => ?_, fun c => ?_⟩
    · have h := h.1 c
      refine wp_s hT 2 (i' := 34) (L' := [some (.ref 74), some (.int x1), some (.int x2), some (.int (x2 / (nI 15))), some (.int (x2 - x2 / (nI 15) * (nI 15))), none, none]) (st' := [.int (x2 - x2 / (nI 15) * (nI 15)), .int (x2 / (nI 15))]) rfl ?_
      refine wp_calli hT rfl rfl h (fun r5 iv4 h => ?_)
      refine wp_s hT 7 (i' := 42) (L' := [some (.ref 74), some (.int x1), some (.int x2), some (.int (x2 / (nI 15))), some (.int (x2 - x2 / (nI 15) * (nI 15))), some (.int r5), none]) (st' := [.int (nI 4294967295), .int x1, .int ((nI 4) * (iv4 74 12))]) rfl ?_
      refine wp_ic_ne hT rfl ⟨fun c => ?_, fun c => ?_⟩
      · have h := h.1 c
        refine wp_s hT 2 (i' := 46) (L' := [some (.ref 74), some (.int x1), some (.int x2), some (.int (x2 / (nI 15))), some (.int (x2 - x2 / (nI 15) * (nI 15))), some (.int r5), none]) (st' := [.int (nI 0), .int ((nI 4) * (iv4 74 12))]) rfl ?_
        refine wp_le (L := [none, none, none, none, some (.int (x2 - x2 / (nI 15) * (nI 15))), some (.int r5), none]) ⟨Or.inr ⟨rfl, rfl⟩, Or.inr ⟨rfl, rfl⟩, Or.inr ⟨rfl, rfl⟩, Or.inr ⟨rfl, rfl⟩, Or.inl rfl, Or.inl rfl, Or.inl rfl, trivial⟩ ?_
        exact h
      · have h := h.2 c
        refine wp_s hT 1 (i' := 46) (L' := [some (.ref 74), some (.int x1), some (.int x2), some (.int (x2 / (nI 15))), some (.int (x2 - x2 / (nI 15) * (nI 15))), some (.int r5), none]) (st' := [.int x1, .int ((nI 4) * (iv4 74 12))]) rfl ?_
        refine wp_le (L := [none, none, none, none, some (.int (x2 - x2 / (nI 15) * (nI 15))), some (.int r5), none]) ⟨Or.inr ⟨rfl, rfl⟩, Or.inr ⟨rfl, rfl⟩, Or.inr ⟨rfl, rfl⟩, Or.inr ⟨rfl, rfl⟩, Or.inl rfl, Or.inl rfl, Or.inl rfl, trivial⟩ ?_
        exact h
    · have h := h.2 c
      refine wp_s hT 2 (i' := 30) (L' := [some (.ref 74), some (.int x1), some (.int x2), some (.int (x2 / (nI 15))), some (.int (x2 - x2 / (nI 15) * (nI 15))), none, none]) (st' := [.int (x2 - x2 / (nI 15) * (nI 15)), .int (x2 / (nI 15))]) rfl ?_
      refine wp_calli hT rfl rfl h (fun r7 iv6 h => ?_)
      exact wp_ri hT rfl rfl ⟨_, rfl, h⟩
  · have h := h.2 c
    refine wp_s hT 3 (i' := 17) (L' := [some (.ref 74), some (.int x1), some (.int x2), some (.int (x2 / (nI 15))), some (.int (x2 - x2 / (nI 15) * (nI 15))), none, none]) (st' := [.int x2, .ref 86]) rfl ?_
    refine wp_iald hT rfl rfl ⟨h.1, ?_⟩
    have h := h.2
    refine wp_s hT 3 (i' := 21) (L' := [some (.ref 74), some (.int x1), some (.int x2), some (.int (x2 / (nI 15))), some (.int (x2 - x2 / (nI 15) * (nI 15))), none, none]) (st' := [.int (x2 - x2 / (nI 15) * (nI 15)), .int (x2 / (nI 15)), .int x1, .int (iv 86 x2.toNatClampNeg)]) rfl ?_
    refine wp_calli hT rfl rfl h (fun r9 iv8 h => ?_)
    refine wp_s hT 1 (i' := 23) (L' := [some (.ref 74), some (.int x1), some (.int x2), some (.int (x2 / (nI 15))), some (.int (x2 - x2 / (nI 15) * (nI 15))), none, none]) (st' := [.int ((iv 86 x2.toNatClampNeg) ^^^ r9)]) rfl ?_
    exact wp_ri hT rfl rfl ⟨_, rfl, h⟩

theorem mk_X11_runs_37 {X : Nat × (Nat → Int32)} {x1 : Int32} {x2 : Int32} {x3 : Int32} {x5 : Int32} {x6 : Int32} {x7 : Int32} {x8 : Int32} {s0 : Int32} {s1 : Int32} {iv : IV} {P : Int32 → IV → Prop}
    (h : ((x8 = x6 → wp X (0, 0) 163 8 [some (.ref 74), some (.int x1), some (.int x2), some (.int x3), some (.int (s1 + s0)), some (.int (x5 + (nI 1))), some (.int x8), some (.int (x7 + nI 1)), none] [] iv (Ri P)) ∧ (¬ (x8 = x6) → wp X (0, 0) 163 8 [some (.ref 74), some (.int x1), some (.int x2), some (.int x3), some (.int (s1 + s0)), some (.int (nI 1)), some (.int x8), some (.int (x7 + nI 1)), none] [] iv (Ri P)))) :
    wp X (0, 0) 163 37 [some (.ref 74), some (.int x1), some (.int x2), some (.int x3), none, some (.int x5), some (.int x6), some (.int x7), some (.int x8)] [.int s0, .int s1] iv (Ri P) := by
  have hT := tb_163
  refine wp_s hT 4 (i' := 41) (L' := [some (.ref 74), some (.int x1), some (.int x2), some (.int x3), some (.int (s1 + s0)), some (.int x5), some (.int x6), some (.int x7), some (.int x8)]) (st' := [.int x6, .int x8]) rfl ?_
  refine wp_ic_ne hT rfl ⟨fun c => ?_, fun c => ?_⟩
  · have h := h.1 c
    refine wp_s hT 9 (i' := 8) (L' := [some (.ref 74), some (.int x1), some (.int x2), some (.int x3), some (.int (s1 + s0)), some (.int (x5 + (nI 1))), some (.int x8), some (.int (x7 + nI 1)), some (.int x8)]) (st' := []) rfl ?_
    refine wp_le (L := [some (.ref 74), some (.int x1), some (.int x2), some (.int x3), some (.int (s1 + s0)), some (.int (x5 + (nI 1))), some (.int x8), some (.int (x7 + nI 1)), none]) ⟨Or.inl rfl, Or.inl rfl, Or.inl rfl, Or.inl rfl, Or.inl rfl, Or.inl rfl, Or.inl rfl, Or.inl rfl, Or.inr ⟨rfl, rfl⟩, trivial⟩ ?_
    exact h
  · have h := h.2 c
    refine wp_s hT 6 (i' := 8) (L' := [some (.ref 74), some (.int x1), some (.int x2), some (.int x3), some (.int (s1 + s0)), some (.int (nI 1)), some (.int x8), some (.int (x7 + nI 1)), some (.int x8)]) (st' := []) rfl ?_
    refine wp_le (L := [some (.ref 74), some (.int x1), some (.int x2), some (.int x3), some (.int (s1 + s0)), some (.int (nI 1)), some (.int x8), some (.int (x7 + nI 1)), none]) ⟨Or.inl rfl, Or.inl rfl, Or.inl rfl, Or.inl rfl, Or.inl rfl, Or.inl rfl, Or.inl rfl, Or.inl rfl, Or.inr ⟨rfl, rfl⟩, trivial⟩ ?_
    exact h

theorem mk_X11_runs_24 {X : Nat × (Nat → Int32)} {x1 : Int32} {x2 : Int32} {x3 : Int32} {x4 : Int32} {x5 : Int32} {x6 : Int32} {x7 : Int32} {s0 : Int32} {iv : IV} {P : Int32 → IV → Prop}
    (h : ((s0 = x6 → wp X (0, 0) 163 37 [some (.ref 74), some (.int x1), some (.int x2), some (.int x3), none, some (.int x5), some (.int x6), some (.int x7), some (.int s0)] [.int (nI 0), .int x4] iv (Ri P)) ∧ (¬ (s0 = x6) → ((x5 ≤ (nI 4) → wp X (0, 0) 163 37 [some (.ref 74), some (.int x1), some (.int x2), some (.int x3), none, some (.int x5), some (.int x6), some (.int x7), some (.int s0)] [.int (nI 0), .int x4] iv (Ri P)) ∧ (¬ (x5 ≤ (nI 4)) → wp X (0, 0) 163 37 [some (.ref 74), some (.int x1), some (.int x2), some (.int x3), none, some (.int x5), some (.int x6), some (.int x7), some (.int s0)] [.int (x5 - (nI 2)), .int x4] iv (Ri P)))))) :
    wp X (0, 0) 163 24 [some (.ref 74), some (.int x1), some (.int x2), some (.int x3), some (.int x4), some (.int x5), some (.int x6), some (.int x7), none] [.int s0] iv (Ri P) := by
  have hT := tb_163
  refine wp_s hT 4 (i' := 28) (L' := [some (.ref 74), some (.int x1), some (.int x2), some (.int x3), some (.int x4), some (.int x5), some (.int x6), some (.int x7), some (.int s0)]) (st' := [.int x6, .int s0, .int x4]) rfl ?_
  refine wp_ic_eq hT rfl ⟨fun c => ?_, fun c => ?_⟩
  · have h := h.1 c
    refine wp_s hT 1 (i' := 37) (L' := [some (.ref 74), some (.int x1), some (.int x2), some (.int x3), some (.int x4), some (.int x5), some (.int x6), some (.int x7), some (.int s0)]) (st' := [.int (nI 0), .int x4]) rfl ?_
    refine wp_le (L := [some (.ref 74), some (.int x1), some (.int x2), some (.int x3), none, some (.int x5), some (.int x6), some (.int x7), some (.int s0)]) ⟨Or.inl rfl, Or.inl rfl, Or.inl rfl, Or.inl rfl, Or.inr ⟨rfl, rfl⟩, Or.inl rfl, Or.inl rfl, Or.inl rfl, Or.inl rfl, trivial⟩ ?_
    exact h
  · have h := h.2 c
    refine wp_s hT 2 (i' := 31) (L' := [some (.ref 74), some (.int x1), some (.int x2), some (.int x3), some (.int x4), some (.int x5), some (.int x6), some (.int x7), some (.int s0)]) (st' := [.int (nI 4), .int x5, .int x4]) rfl ?_
    refine wp_ic_le hT rfl ⟨fun c => ?_, fun c => ?_⟩
    · have h := h.1 c
      refine wp_s hT 1 (i' := 37) (L' := [some (.ref 74), some (.int x1), some (.int x2), some (.int x3), some (.int x4), some (.int x5), some (.int x6), some (.int x7), some (.int s0)]) (st' := [.int (nI 0), .int x4]) rfl ?_
      refine wp_le (L := [some (.ref 74), some (.int x1), some (.int x2), some (.int x3), none, some (.int x5), some (.int x6), some (.int x7), some (.int s0)]) ⟨Or.inl rfl, Or.inl rfl, Or.inl rfl, Or.inl rfl, Or.inr ⟨rfl, rfl⟩, Or.inl rfl, Or.inl rfl, Or.inl rfl, Or.inl rfl, trivial⟩ ?_
      exact h
    · have h := h.2 c
      refine wp_s hT 4 (i' := 37) (L' := [some (.ref 74), some (.int x1), some (.int x2), some (.int x3), some (.int x4), some (.int x5), some (.int x6), some (.int x7), some (.int s0)]) (st' := [.int (x5 - (nI 2)), .int x4]) rfl ?_
      refine wp_le (L := [some (.ref 74), some (.int x1), some (.int x2), some (.int x3), none, some (.int x5), some (.int x6), some (.int x7), some (.int s0)]) ⟨Or.inl rfl, Or.inl rfl, Or.inl rfl, Or.inl rfl, Or.inr ⟨rfl, rfl⟩, Or.inl rfl, Or.inl rfl, Or.inl rfl, Or.inl rfl, trivial⟩ ?_
      exact h

theorem mk_X11_runs_8 {X : Nat × (Nat → Int32)} {x1 : Int32} {x2 : Int32} {x3 : Int32} {x4 : Int32} {x5 : Int32} {x6 : Int32} {x7 : Int32} {iv : IV} {P : Int32 → IV → Prop}
    (h : (((nI 15) < x7 → P x4 iv) ∧ (¬ ((nI 15) < x7) → (((nI 15) ≤ x7 → wp X (0, 0) 163 24 [some (.ref 74), some (.int x1), some (.int x2), some (.int x3), some (.int x4), some (.int x5), some (.int x6), some (.int x7), none] [.int (nI 4294967295)] iv (Ri P)) ∧ (¬ ((nI 15) ≤ x7) → wc X 162 [.ref 74, .int x1, .int (x3 + (x7 * x2))] iv (Ri (fun r2 iv1 => wp X (0, 0) 163 24 [some (.ref 74), some (.int x1), some (.int x2), some (.int x3), some (.int x4), some (.int x5), some (.int x6), some (.int x7), none] [.int r2] iv1 (Ri P)))))))) :
    wp X (0, 0) 163 8 [some (.ref 74), some (.int x1), some (.int x2), some (.int x3), some (.int x4), some (.int x5), some (.int x6), some (.int x7), none] [] iv (Ri P) := by
  have hT := tb_163
  refine wp_s hT 2 (i' := 10) (L' := [some (.ref 74), some (.int x1), some (.int x2), some (.int x3), some (.int x4), some (.int x5), some (.int x6), some (.int x7), none]) (st' := [.int (nI 15), .int x7]) rfl ?_
  refine wp_ic_gt hT rfl ⟨fun c => ?_, fun c => ?_⟩
  · have h := h.1 c
    refine wp_s hT 1 (i' := 53) (L' := [some (.ref 74), some (.int x1), some (.int x2), some (.int x3), some (.int x4), some (.int x5), some (.int x6), some (.int x7), none]) (st' := [.int x4]) rfl ?_
    exact wp_ri hT rfl rfl ⟨_, rfl, h⟩
  · have h := h.2 c
    refine wp_s hT 2 (i' := 13) (L' := [some (.ref 74), some (.int x1), some (.int x2), some (.int x3), some (.int x4), some (.int x5), some (.int x6), some (.int x7), none]) (st' := [.int (nI 15), .int x7]) rfl ?_
    refine wp_ic_ge hT rfl ⟨fun c => ?_, fun c => ?_⟩
    · have h := h.1 c
      refine wp_s hT 1 (i' := 24) (L' := [some (.ref 74), some (.int x1), some (.int x2), some (.int x3), some (.int x4), some (.int x5), some (.int x6), some (.int x7), none]) (st' := [.int (nI 4294967295)]) rfl ?_
      exact h
    · have h := h.2 c
      refine wp_s hT 7 (i' := 21) (L' := [some (.ref 74), some (.int x1), some (.int x2), some (.int x3), some (.int x4), some (.int x5), some (.int x6), some (.int x7), none]) (st' := [.int (x3 + (x7 * x2)), .int x1, .ref 74]) rfl ?_
      refine wp_calli hT rfl rfl h (fun r2 iv1 h => ?_)
      refine wp_s hT 1 (i' := 24) (L' := [some (.ref 74), some (.int x1), some (.int x2), some (.int x3), some (.int x4), some (.int x5), some (.int x6), some (.int x7), none]) (st' := [.int r2]) rfl ?_
      exact h

theorem mk_X11_runs {X : Nat × (Nat → Int32)} {x1 : Int32} {x2 : Int32} {x3 : Int32} {iv : IV} {P : Int32 → IV → Prop}
    (h : wp X (0, 0) 163 8 [some (.ref 74), some (.int x1), some (.int x2), some (.int x3), some (.int (nI 0)), some (.int (nI 0)), some (.int (nI 4294967295)), some (.int (nI 0)), none] [] iv (Ri P)) :
    wc X 163 [.ref 74, .int x1, .int x2, .int x3] iv (Ri P) := by
  have hT := tb_163
  show wp X (0, 0) 163 0 [some (.ref 74), some (.int x1), some (.int x2), some (.int x3), none, none, none, none, none] [] iv (Ri P)
  refine wp_s hT 8 (i' := 8) (L' := [some (.ref 74), some (.int x1), some (.int x2), some (.int x3), some (.int (nI 0)), some (.int (nI 0)), some (.int (nI 4294967295)), some (.int (nI 0)), none]) (st' := []) rfl ?_
  exact h

theorem mk_X11_darkOf_4 {X : Nat × (Nat → Int32)} {x1 : Int32} {x2 : Int32} {x3 : Int32} {iv : IV} {P : Int32 → IV → Prop}
    (h : (((nI 225) ≤ x3 → P x2 iv) ∧ (¬ ((nI 225) ≤ x3) → wc X 162 [.ref 74, .int x1, .int x3] iv (Ri (fun r2 iv1 => wp X (0, 0) 164 4 [some (.ref 74), some (.int x1), some (.int (x2 + r2)), some (.int (x3 + nI 1))] [] iv1 (Ri P)))))) :
    wp X (0, 0) 164 4 [some (.ref 74), some (.int x1), some (.int x2), some (.int x3)] [] iv (Ri P) := by
  have hT := tb_164
  refine wp_s hT 2 (i' := 6) (L' := [some (.ref 74), some (.int x1), some (.int x2), some (.int x3)]) (st' := [.int (nI 225), .int x3]) rfl ?_
  refine wp_ic_ge hT rfl ⟨fun c => ?_, fun c => ?_⟩
  · have h := h.1 c
    refine wp_s hT 1 (i' := 17) (L' := [some (.ref 74), some (.int x1), some (.int x2), some (.int x3)]) (st' := [.int x2]) rfl ?_
    exact wp_ri hT rfl rfl ⟨_, rfl, h⟩
  · have h := h.2 c
    refine wp_s hT 4 (i' := 11) (L' := [some (.ref 74), some (.int x1), some (.int x2), some (.int x3)]) (st' := [.int x3, .int x1, .ref 74, .int x2]) rfl ?_
    refine wp_calli hT rfl rfl h (fun r2 iv1 h => ?_)
    refine wp_s hT 4 (i' := 4) (L' := [some (.ref 74), some (.int x1), some (.int (x2 + r2)), some (.int (x3 + nI 1))]) (st' := []) rfl ?_
    exact h

theorem mk_X11_darkOf {X : Nat × (Nat → Int32)} {x1 : Int32} {iv : IV} {P : Int32 → IV → Prop}
    (h : wp X (0, 0) 164 4 [some (.ref 74), some (.int x1), some (.int (nI 0)), some (.int (nI 0))] [] iv (Ri P)) :
    wc X 164 [.ref 74, .int x1] iv (Ri P) := by
  have hT := tb_164
  show wp X (0, 0) 164 0 [some (.ref 74), some (.int x1), none, none] [] iv (Ri P)
  refine wp_s hT 4 (i' := 4) (L' := [some (.ref 74), some (.int x1), some (.int (nI 0)), some (.int (nI 0))]) (st' := []) rfl ?_
  exact h

theorem mk_X11_penaltyOf_27 {X : Nat × (Nat → Int32)} {x1 : Int32} {x2 : Int32} {x3 : Int32} {iv : IV} {P : Int32 → IV → Prop}
    (h : (((nI 210) ≤ x3 → wc X 164 [.ref 74, .int x1] iv (Ri (fun r2 iv1 => ∀ v3 : Int32, v3 = r2 - (nI 112) → ((0 ≤ v3 → P (x2 + (v3 / (nI 5))) iv1) ∧ (¬ (0 ≤ v3) → P (x2 + ((-v3) / (nI 5))) iv1))))) ∧ (¬ ((nI 210) ≤ x3) → (((nI 14) ≤ (x3 - x3 / (nI 15) * (nI 15)) → wp X (0, 0) 165 27 [some (.ref 74), some (.int x1), some (.int x2), some (.int (x3 + nI 1)), none] [] iv (Ri P)) ∧ (¬ ((nI 14) ≤ (x3 - x3 / (nI 15) * (nI 15))) → wc X 162 [.ref 74, .int x1, .int x3] iv (Ri (fun r5 iv4 => wc X 162 [.ref 74, .int x1, .int (x3 + (nI 1))] iv4 (Ri (fun r7 iv6 => wc X 162 [.ref 74, .int x1, .int (x3 + (nI 15))] iv6 (Ri (fun r9 iv8 => wc X 162 [.ref 74, .int x1, .int (x3 + (nI 16))] iv8 (Ri (fun r11 iv10 => ∀ v12 : Int32, v12 = ((r5 + r7) + r9) + r11 → ((v12 = 0 → wp X (0, 0) 165 27 [some (.ref 74), some (.int x1), some (.int (x2 + (nI 3))), some (.int (x3 + nI 1)), none] [] iv10 (Ri P)) ∧ (¬ (v12 = 0) → ((v12 = (nI 4) → wp X (0, 0) 165 27 [some (.ref 74), some (.int x1), some (.int (x2 + (nI 3))), some (.int (x3 + nI 1)), none] [] iv10 (Ri P)) ∧ (¬ (v12 = (nI 4)) → wp X (0, 0) 165 27 [some (.ref 74), some (.int x1), some (.int (x2 + (nI 0))), some (.int (x3 + nI 1)), none] [] iv10 (Ri P)))))))))))))))))) :
    wp X (0, 0) 165 27 [some (.ref 74), some (.int x1), some (.int x2), some (.int x3), none] [] iv (Ri P) := by
  have hT := tb_165
  refine wp_s hT 2 (i' := 29) (L' := [some (.ref 74), some (.int x1), some (.int x2), some (.int x3), none]) (st' := [.int (nI 210), .int x3]) rfl ?_
  refine wp_ic_ge hT rfl ⟨fun c => ?_, fun c => ?_⟩
  · have h := h.1 c
    refine wp_s hT 2 (i' := 76) (L' := [some (.ref 74), some (.int x1), some (.int x2), some (.int x3), none]) (st' := [.int x1, .ref 74]) rfl ?_
    refine wp_calli hT rfl rfl h (fun r2 iv1 h => ?_)
    refine wp_s hT 3 (i' := 80) (L' := [some (.ref 74), some (.int x1), some (.int x2), some (.int (r2 - (nI 112))), none]) (st' := []) rfl ?_
    have h := h _ rfl
    refine wp_s hT 2 (i' := 82) (L' := [some (.ref 74), some (.int x1), some (.int x2), some (.int (r2 - (nI 112))), none]) (st' := [.int (r2 - (nI 112)), .int x2]) rfl ?_
    refine wp_if_ge hT rfl ⟨fun c => ?_, fun c => ?_⟩
    · have h := h.1 c
      refine wp_s hT 4 (i' := 90) (L' := [some (.ref 74), some (.int x1), some (.int x2), some (.int (r2 - (nI 112))), none]) (st' := [.int (x2 + ((r2 - (nI 112)) / (nI 5)))]) rfl ?_
      exact wp_ri hT rfl rfl ⟨_, rfl, h⟩
    · have h := h.2 c
      refine wp_s hT 6 (i' := 90) (L' := [some (.ref 74), some (.int x1), some (.int x2), some (.int (r2 - (nI 112))), none]) (st' := [.int (x2 + ((-(r2 - (nI 112))) / (nI 5)))]) rfl ?_
      exact wp_ri hT rfl rfl ⟨_, rfl, h⟩
  · have h := h.2 c
    refine wp_s hT 4 (i' := 34) (L' := [some (.ref 74), some (.int x1), some (.int x2), some (.int x3), none]) (st' := [.int (nI 14), .int (x3 - x3 / (nI 15) * (nI 15))]) rfl ?_
    refine wp_ic_ge hT rfl ⟨fun c => ?_, fun c => ?_⟩
    · have h := h.1 c
      refine wp_s hT 2 (i' := 27) (L' := [some (.ref 74), some (.int x1), some (.int x2), some (.int (x3 + nI 1)), none]) (st' := []) rfl ?_
      exact h
    · have h := h.2 c
      refine wp_s hT 3 (i' := 38) (L' := [some (.ref 74), some (.int x1), some (.int x2), some (.int x3), none]) (st' := [.int x3, .int x1, .ref 74]) rfl ?_
      refine wp_calli hT rfl rfl h (fun r5 iv4 h => ?_)
      refine wp_s hT 5 (i' := 44) (L' := [some (.ref 74), some (.int x1), some (.int x2), some (.int x3), none]) (st' := [.int (x3 + (nI 1)), .int x1, .ref 74, .int r5]) rfl ?_
      refine wp_calli hT rfl rfl h (fun r7 iv6 h => ?_)
      refine wp_s hT 6 (i' := 51) (L' := [some (.ref 74), some (.int x1), some (.int x2), some (.int x3), none]) (st' := [.int (x3 + (nI 15)), .int x1, .ref 74, .int (r5 + r7)]) rfl ?_
      refine wp_calli hT rfl rfl h (fun r9 iv8 h => ?_)
      refine wp_s hT 6 (i' := 58) (L' := [some (.ref 74), some (.int x1), some (.int x2), some (.int x3), none]) (st' := [.int (x3 + (nI 16)), .int x1, .ref 74, .int ((r5 + r7) + r9)]) rfl ?_
      refine wp_calli hT rfl rfl h (fun r11 iv10 h => ?_)
      refine wp_s hT 2 (i' := 61) (L' := [some (.ref 74), some (.int x1), some (.int x2), some (.int x3), some (.int (((r5 + r7) + r9) + r11))]) (st' := []) rfl ?_
      have h := h _ rfl
      refine wp_s hT 2 (i' := 63) (L' := [some (.ref 74), some (.int x1), some (.int x2), some (.int x3), some (.int (((r5 + r7) + r9) + r11))]) (st' := [.int (((r5 + r7) + r9) + r11), .int x2]) rfl ?_
      refine wp_if_eq hT rfl ⟨fun c => ?_, fun c => ?_⟩
      · have h := h.1 c
        refine wp_s hT 6 (i' := 27) (L' := [some (.ref 74), some (.int x1), some (.int (x2 + (nI 3))), some (.int (x3 + nI 1)), some (.int (((r5 + r7) + r9) + r11))]) (st' := []) rfl ?_
        refine wp_le (L := [some (.ref 74), some (.int x1), some (.int (x2 + (nI 3))), some (.int (x3 + nI 1)), none]) ⟨Or.inl rfl, Or.inl rfl, Or.inl rfl, Or.inl rfl, Or.inr ⟨rfl, rfl⟩, trivial⟩ ?_
        exact h
      · have h := h.2 c
        refine wp_s hT 2 (i' := 66) (L' := [some (.ref 74), some (.int x1), some (.int x2), some (.int x3), some (.int (((r5 + r7) + r9) + r11))]) (st' := [.int (nI 4), .int (((r5 + r7) + r9) + r11), .int x2]) rfl ?_
        refine wp_ic_ne hT rfl ⟨fun c => ?_, fun c => ?_⟩
        · have h := h.1 c
          refine wp_s hT 6 (i' := 27) (L' := [some (.ref 74), some (.int x1), some (.int (x2 + (nI 3))), some (.int (x3 + nI 1)), some (.int (((r5 + r7) + r9) + r11))]) (st' := []) rfl ?_
          refine wp_le (L := [some (.ref 74), some (.int x1), some (.int (x2 + (nI 3))), some (.int (x3 + nI 1)), none]) ⟨Or.inl rfl, Or.inl rfl, Or.inl rfl, Or.inl rfl, Or.inr ⟨rfl, rfl⟩, trivial⟩ ?_
          exact h
        · have h := h.2 c
          refine wp_s hT 5 (i' := 27) (L' := [some (.ref 74), some (.int x1), some (.int (x2 + (nI 0))), some (.int (x3 + nI 1)), some (.int (((r5 + r7) + r9) + r11))]) (st' := []) rfl ?_
          refine wp_le (L := [some (.ref 74), some (.int x1), some (.int (x2 + (nI 0))), some (.int (x3 + nI 1)), none]) ⟨Or.inl rfl, Or.inl rfl, Or.inl rfl, Or.inl rfl, Or.inr ⟨rfl, rfl⟩, trivial⟩ ?_
          exact h

theorem mk_X11_penaltyOf_4 {X : Nat × (Nat → Int32)} {x1 : Int32} {x2 : Int32} {x3 : Int32} {iv : IV} {P : Int32 → IV → Prop}
    (h : (((nI 15) ≤ x3 → wp X (0, 0) 165 27 [some (.ref 74), some (.int x1), some (.int x2), some (.int (nI 0)), none] [] iv (Ri P)) ∧ (¬ ((nI 15) ≤ x3) → wc X 163 [.ref 74, .int x1, .int (nI 1), .int ((nI 15) * x3)] iv (Ri (fun r2 iv1 => wc X 163 [.ref 74, .int x1, .int (nI 15), .int x3] iv1 (Ri (fun r4 iv3 => ∀ v5 : Int32, v5 = x2 + (r2 + r4) → wp X (0, 0) 165 4 [some (.ref 74), some (.int x1), some (.int v5), some (.int (x3 + nI 1)), none] [] iv3 (Ri P)))))))) :
    wp X (0, 0) 165 4 [some (.ref 74), some (.int x1), some (.int x2), some (.int x3), none] [] iv (Ri P) := by
  have hT := tb_165
  refine wp_s hT 2 (i' := 6) (L' := [some (.ref 74), some (.int x1), some (.int x2), some (.int x3), none]) (st' := [.int (nI 15), .int x3]) rfl ?_
  refine wp_ic_ge hT rfl ⟨fun c => ?_, fun c => ?_⟩
  · have h := h.1 c
    refine wp_s hT 2 (i' := 27) (L' := [some (.ref 74), some (.int x1), some (.int x2), some (.int (nI 0)), none]) (st' := []) rfl ?_
    exact h
  · have h := h.2 c
    refine wp_s hT 7 (i' := 14) (L' := [some (.ref 74), some (.int x1), some (.int x2), some (.int x3), none]) (st' := [.int ((nI 15) * x3), .int (nI 1), .int x1, .ref 74, .int x2]) rfl ?_
    refine wp_calli hT rfl rfl h (fun r2 iv1 h => ?_)
    refine wp_s hT 4 (i' := 19) (L' := [some (.ref 74), some (.int x1), some (.int x2), some (.int x3), none]) (st' := [.int x3, .int (nI 15), .int x1, .ref 74, .int r2, .int x2]) rfl ?_
    refine wp_calli hT rfl rfl h (fun r4 iv3 h => ?_)
    refine wp_s hT 3 (i' := 23) (L' := [some (.ref 74), some (.int x1), some (.int (x2 + (r2 + r4))), some (.int x3), none]) (st' := []) rfl ?_
    have h := h _ rfl
    refine wp_s hT 2 (i' := 4) (L' := [some (.ref 74), some (.int x1), some (.int (x2 + (r2 + r4))), some (.int (x3 + nI 1)), none]) (st' := []) rfl ?_
    exact h

theorem mk_X11_penaltyOf {X : Nat × (Nat → Int32)} {x1 : Int32} {iv : IV} {P : Int32 → IV → Prop}
    (h : wp X (0, 0) 165 4 [some (.ref 74), some (.int x1), some (.int (nI 0)), some (.int (nI 0)), none] [] iv (Ri P)) :
    wc X 165 [.ref 74, .int x1] iv (Ri P) := by
  have hT := tb_165
  show wp X (0, 0) 165 0 [some (.ref 74), some (.int x1), none, none, none] [] iv (Ri P)
  refine wp_s hT 4 (i' := 4) (L' := [some (.ref 74), some (.int x1), some (.int (nI 0)), some (.int (nI 0)), none]) (st' := []) rfl ?_
  exact h

theorem mk_X11_makes_116 {X : Nat × (Nat → Int32)} {x1 : Int32} {x2 : Int32} {iv : IV} {P : IV → Prop}
    (h : (((nI 4) ≤ x2 → P iv) ∧ (¬ ((nI 4) ≤ x2) → wc X 165 [.ref 74, .int x2] iv (Ri (fun r2 iv1 => ((x1 ≤ r2 → ∀ iv3 : IV, iv3 = mm_up2 iv1 74 13 (iv1 74 13) → wc X 124 [.int r2, .int x1] iv3 (Ri (fun r5 iv4 => wp X (0, 0) 166 116 [some (.ref 74), some (.int r5), some (.int (x2 + nI 1)), none] [] iv4 (Rv P)))) ∧ (¬ (x1 ≤ r2) → ∀ iv6 : IV, iv6 = mm_up2 iv1 74 13 x2 → wc X 124 [.int r2, .int x1] iv6 (Ri (fun r8 iv7 => wp X (0, 0) 166 116 [some (.ref 74), some (.int r8), some (.int (x2 + nI 1)), none] [] iv7 (Rv P)))))))))) :
    wp X (0, 0) 166 116 [some (.ref 74), some (.int x1), some (.int x2), none] [] iv (Rv P) := by
  have hT := tb_166
  refine wp_s hT 2 (i' := 118) (L' := [some (.ref 74), some (.int x1), some (.int x2), none]) (st' := [.int (nI 4), .int x2]) rfl ?_
  refine wp_ic_ge hT rfl ⟨fun c => ?_, fun c => ?_⟩
  · have h := h.1 c
    exact wp_rv hT rfl rfl ⟨rfl, h⟩
  · have h := h.2 c
    refine wp_s hT 2 (i' := 121) (L' := [some (.ref 74), some (.int x1), some (.int x2), none]) (st' := [.int x2, .ref 74]) rfl ?_
    refine wp_calli hT rfl rfl h (fun r2 iv1 h => ?_)
    refine wp_s hT 4 (i' := 126) (L' := [some (.ref 74), some (.int x1), some (.int x2), some (.int r2)]) (st' := [.int x1, .int r2, .ref 74]) rfl ?_
    refine wp_ic_ge hT rfl ⟨fun c => ?_, fun c => ?_⟩
    · have h := h.1 c
      refine wp_s hT 2 (i' := 131) (L' := [some (.ref 74), some (.int x1), some (.int x2), some (.int r2)]) (st' := [.int (iv1 74 13), .ref 74]) rfl ?_
      refine wp_puti hT rfl rfl ⟨by decide, by decide⟩ ?_
      have h := h _ rfl
      refine wp_s hT 2 (i' := 134) (L' := [some (.ref 74), some (.int x1), some (.int x2), some (.int r2)]) (st' := [.int x1, .int r2]) rfl ?_
      refine wp_calli hT rfl rfl h (fun r5 iv4 h => ?_)
      refine wp_s hT 3 (i' := 116) (L' := [some (.ref 74), some (.int r5), some (.int (x2 + nI 1)), some (.int r2)]) (st' := []) rfl ?_
      refine wp_le (L := [some (.ref 74), some (.int r5), some (.int (x2 + nI 1)), none]) ⟨Or.inl rfl, Or.inl rfl, Or.inl rfl, Or.inr ⟨rfl, rfl⟩, trivial⟩ ?_
      exact h
    · have h := h.2 c
      refine wp_s hT 2 (i' := 131) (L' := [some (.ref 74), some (.int x1), some (.int x2), some (.int r2)]) (st' := [.int x2, .ref 74]) rfl ?_
      refine wp_puti hT rfl rfl ⟨by decide, by decide⟩ ?_
      have h := h _ rfl
      refine wp_s hT 2 (i' := 134) (L' := [some (.ref 74), some (.int x1), some (.int x2), some (.int r2)]) (st' := [.int x1, .int r2]) rfl ?_
      refine wp_calli hT rfl rfl h (fun r8 iv7 h => ?_)
      refine wp_s hT 3 (i' := 116) (L' := [some (.ref 74), some (.int r8), some (.int (x2 + nI 1)), some (.int r2)]) (st' := []) rfl ?_
      refine wp_le (L := [some (.ref 74), some (.int r8), some (.int (x2 + nI 1)), none]) ⟨Or.inl rfl, Or.inl rfl, Or.inl rfl, Or.inr ⟨rfl, rfl⟩, trivial⟩ ?_
      exact h

theorem mk_X11_makes_71 {X : Nat × (Nat → Int32)} {x1 : Int32} {iv : IV} {P : IV → Prop}
    (h : (((nI 171) ≤ x1 → wp X (0, 0) 166 116 [some (.ref 74), some (.int (nI 999999)), some (.int (nI 0)), none] [] iv (Rv P)) ∧ (¬ ((nI 171) ≤ x1) → vp_in x1 171 ∧ (((nI 168) ≤ x1 → vp_in (iv 88 x1.toNatClampNeg) 225 ∧ (∀ iv1 : IV, iv1 = mm_up2 iv 86 (iv 88 x1.toNatClampNeg).toNatClampNeg (nI 0) → wp X (0, 0) 166 71 [some (.ref 74), some (.int (x1 + nI 1)), none, none] [] iv1 (Rv P))) ∧ (¬ ((nI 168) ≤ x1) → vp_in (((nI 14) * ((x1 / (nI 4)) - (x1 / (nI 4)) / (nI 3) * (nI 3))) + ((x1 / (nI 4)) / (nI 3))) 42 ∧ vp_in (iv 88 x1.toNatClampNeg) 225 ∧ (∀ iv2 : IV, iv2 = mm_up2 iv 86 (iv 88 x1.toNatClampNeg).toNatClampNeg (((iv 85 (((nI 14) * ((x1 / (nI 4)) - (x1 / (nI 4)) / (nI 3) * (nI 3))) + ((x1 / (nI 4)) / (nI 3))).toNatClampNeg) >>> (((nI 3) - (x1 - x1 / (nI 4) * (nI 4))) &&& 31)) &&& (nI 1)) → wp X (0, 0) 166 71 [some (.ref 74), some (.int (x1 + nI 1)), none, none] [] iv2 (Rv P))))))) :
    wp X (0, 0) 166 71 [some (.ref 74), some (.int x1), none, none] [] iv (Rv P) := by
  have hT := tb_166
  refine wp_s hT 2 (i' := 73) (L' := [some (.ref 74), some (.int x1), none, none]) (st' := [.int (nI 171), .int x1]) rfl ?_
  refine wp_ic_ge hT rfl ⟨fun c => ?_, fun c => ?_⟩
  · have h := h.1 c
    refine wp_s hT 4 (i' := 116) (L' := [some (.ref 74), some (.int (nI 999999)), some (.int (nI 0)), none]) (st' := []) rfl ?_
    exact h
  · have h := h.2 c
    refine wp_s hT 9 (i' := 83) (L' := [some (.ref 74), some (.int x1), some (.int (x1 / (nI 4))), none]) (st' := [.int x1, .ref 88, .ref 86]) rfl ?_
    refine wp_iald hT rfl rfl ⟨h.1, ?_⟩
    have h := h.2
    refine wp_s hT 2 (i' := 86) (L' := [some (.ref 74), some (.int x1), some (.int (x1 / (nI 4))), none]) (st' := [.int (nI 168), .int x1, .int (iv 88 x1.toNatClampNeg), .ref 86]) rfl ?_
    refine wp_ic_ge hT rfl ⟨fun c => ?_, fun c => ?_⟩
    · have h := h.1 c
      refine wp_s hT 1 (i' := 109) (L' := [some (.ref 74), some (.int x1), some (.int (x1 / (nI 4))), none]) (st' := [.int (nI 0), .int (iv 88 x1.toNatClampNeg), .ref 86]) rfl ?_
      refine wp_iast hT rfl rfl ⟨h.1, ?_⟩
      have h := h.2
      have h := h _ rfl
      refine wp_s hT 2 (i' := 71) (L' := [some (.ref 74), some (.int (x1 + nI 1)), some (.int (x1 / (nI 4))), none]) (st' := []) rfl ?_
      refine wp_le (L := [some (.ref 74), some (.int (x1 + nI 1)), none, none]) ⟨Or.inl rfl, Or.inl rfl, Or.inr ⟨rfl, rfl⟩, Or.inl rfl, trivial⟩ ?_
      exact h
    · have h := h.2 c
      refine wp_s hT 11 (i' := 98) (L' := [some (.ref 74), some (.int x1), some (.int (x1 / (nI 4))), none]) (st' := [.int (((nI 14) * ((x1 / (nI 4)) - (x1 / (nI 4)) / (nI 3) * (nI 3))) + ((x1 / (nI 4)) / (nI 3))), .ref 85, .int (iv 88 x1.toNatClampNeg), .ref 86]) rfl ?_
      refine wp_iald hT rfl rfl ⟨h.1, ?_⟩
      have h := h.2
      refine wp_s hT 9 (i' := 109) (L' := [some (.ref 74), some (.int x1), some (.int (x1 / (nI 4))), none]) (st' := [.int (((iv 85 (((nI 14) * ((x1 / (nI 4)) - (x1 / (nI 4)) / (nI 3) * (nI 3))) + ((x1 / (nI 4)) / (nI 3))).toNatClampNeg) >>> (((nI 3) - (x1 - x1 / (nI 4) * (nI 4))) &&& 31)) &&& (nI 1)), .int (iv 88 x1.toNatClampNeg), .ref 86]) rfl ?_
      refine wp_iast hT rfl rfl ⟨h.1, ?_⟩
      have h := h.2
      have h := h _ rfl
      refine wp_s hT 2 (i' := 71) (L' := [some (.ref 74), some (.int (x1 + nI 1)), some (.int (x1 / (nI 4))), none]) (st' := []) rfl ?_
      refine wp_le (L := [some (.ref 74), some (.int (x1 + nI 1)), none, none]) ⟨Or.inl rfl, Or.inl rfl, Or.inr ⟨rfl, rfl⟩, Or.inl rfl, trivial⟩ ?_
      exact h

theorem mk_X11_makes_61 {X : Nat × (Nat → Int32)} {x1 : Int32} {iv : IV} {P : IV → Prop}
    (h : (((nI 3) ≤ x1 → wp X (0, 0) 166 71 [some (.ref 74), some (.int (nI 0)), none, none] [] iv (Rv P)) ∧ (¬ ((nI 3) ≤ x1) → wc X 160 [.ref 74, .int x1] iv (Rv (fun iv1 => wp X (0, 0) 166 61 [some (.ref 74), some (.int (x1 + nI 1)), none, none] [] iv1 (Rv P)))))) :
    wp X (0, 0) 166 61 [some (.ref 74), some (.int x1), none, none] [] iv (Rv P) := by
  have hT := tb_166
  refine wp_s hT 2 (i' := 63) (L' := [some (.ref 74), some (.int x1), none, none]) (st' := [.int (nI 3), .int x1]) rfl ?_
  refine wp_ic_ge hT rfl ⟨fun c => ?_, fun c => ?_⟩
  · have h := h.1 c
    refine wp_s hT 2 (i' := 71) (L' := [some (.ref 74), some (.int (nI 0)), none, none]) (st' := []) rfl ?_
    exact h
  · have h := h.2 c
    refine wp_s hT 2 (i' := 66) (L' := [some (.ref 74), some (.int x1), none, none]) (st' := [.int x1, .ref 74]) rfl ?_
    refine wp_callv hT rfl rfl h (fun iv1 h => ?_)
    refine wp_s hT 2 (i' := 61) (L' := [some (.ref 74), some (.int (x1 + nI 1)), none, none]) (st' := []) rfl ?_
    exact h

theorem mk_X11_makes_37 {X : Nat × (Nat → Int32)} {x1 : Int32} {iv : IV} {P : IV → Prop}
    (h : wc X 153 [.int (iv 74 12)] iv (Ri (fun r2 iv1 => ((r2 ≤ x1 → wp X (0, 0) 166 61 [some (.ref 74), some (.int (nI 0)), none, none] [] iv1 (Rv P)) ∧ (¬ (r2 ≤ x1) → wc X 158 [.ref 74, .int x1] iv1 (Ri (fun r4 iv3 => vp_in (((nI 14) * (x1 - x1 / (nI 3) * (nI 3))) + (x1 / (nI 3))) 42 ∧ (∀ iv5 : IV, iv5 = mm_up2 iv3 85 (((nI 14) * (x1 - x1 / (nI 3) * (nI 3))) + (x1 / (nI 3))).toNatClampNeg r4 → wp X (0, 0) 166 37 [some (.ref 74), some (.int (x1 + nI 1)), none, none] [] iv5 (Rv P))))))))) :
    wp X (0, 0) 166 37 [some (.ref 74), some (.int x1), none, none] [] iv (Rv P) := by
  have hT := tb_166
  refine wp_s hT 3 (i' := 40) (L' := [some (.ref 74), some (.int x1), none, none]) (st' := [.int (iv 74 12), .int x1]) rfl ?_
  refine wp_calli hT rfl rfl h (fun r2 iv1 h => ?_)
  refine wp_ic_ge hT rfl ⟨fun c => ?_, fun c => ?_⟩
  · have h := h.1 c
    refine wp_s hT 2 (i' := 61) (L' := [some (.ref 74), some (.int (nI 0)), none, none]) (st' := []) rfl ?_
    exact h
  · have h := h.2 c
    refine wp_s hT 13 (i' := 55) (L' := [some (.ref 74), some (.int x1), none, none]) (st' := [.int x1, .ref 74, .int (((nI 14) * (x1 - x1 / (nI 3) * (nI 3))) + (x1 / (nI 3))), .ref 85]) rfl ?_
    refine wp_calli hT rfl rfl h (fun r4 iv3 h => ?_)
    refine wp_iast hT rfl rfl ⟨h.1, ?_⟩
    have h := h.2
    have h := h _ rfl
    refine wp_s hT 2 (i' := 37) (L' := [some (.ref 74), some (.int (x1 + nI 1)), none, none]) (st' := []) rfl ?_
    exact h

theorem mk_X11_makes {X : Nat × (Nat → Int32)}  {iv : IV} {P : IV → Prop}
    (h : wc X 157 [.ref 74] iv (Rv (fun iv1 => wc X 151 [.ref 74] iv1 (Ri (fun r3 iv2 => ∀ iv4 : IV, iv4 = mm_up2 iv2 74 12 r3 → ∀ iv5 : IV, iv5 = mm_up2 iv4 74 13 (nI 4294967295) → vp_in (nI 0) 2 ∧ wc X 153 [.int (iv5 74 12)] iv5 (Ri (fun r7 iv6 => ((r7 < ((nI 1) + ((nI 2) * (iv5 84 (nI 0).toNatClampNeg))) → ∀ iv8 : IV, iv8 = mm_up2 iv6 74 11 (nI 0) → ((iv8 74 11 = 0 → P iv8) ∧ (¬ (iv8 74 11 = 0) → wc X 152 [.int (iv8 74 12)] iv8 (Ri (fun r10 iv9 => wc X 159 [.ref 74, .int r10] iv9 (Rv (fun iv11 => wp X (0, 0) 166 37 [some (.ref 74), some (.int (nI 0)), none, none] [] iv11 (Rv P)))))))) ∧ (¬ (r7 < ((nI 1) + ((nI 2) * (iv5 84 (nI 0).toNatClampNeg)))) → ∀ iv12 : IV, iv12 = mm_up2 iv6 74 11 (nI 1) → ((iv12 74 11 = 0 → P iv12) ∧ (¬ (iv12 74 11 = 0) → wc X 152 [.int (iv12 74 12)] iv12 (Ri (fun r14 iv13 => wc X 159 [.ref 74, .int r14] iv13 (Rv (fun iv15 => wp X (0, 0) 166 37 [some (.ref 74), some (.int (nI 0)), none, none] [] iv15 (Rv P)))))))))))))))) :
    wc X 166 [.ref 74] iv (Rv P) := by
  have hT := tb_166
  show wp X (0, 0) 166 0 [some (.ref 74), none, none, none] [] iv (Rv P)
  refine wp_s hT 1 (i' := 1) (L' := [some (.ref 74), none, none, none]) (st' := [.ref 74]) rfl ?_
  refine wp_callv hT rfl rfl h (fun iv1 h => ?_)
  refine wp_s hT 2 (i' := 4) (L' := [some (.ref 74), none, none, none]) (st' := [.ref 74, .ref 74]) rfl ?_
  refine wp_calli hT rfl rfl h (fun r3 iv2 h => ?_)
  refine wp_puti hT rfl rfl ⟨by decide, by decide⟩ ?_
  have h := h _ rfl
  refine wp_s hT 2 (i' := 8) (L' := [some (.ref 74), none, none, none]) (st' := [.int (nI 4294967295), .ref 74]) rfl ?_
  refine wp_puti hT rfl rfl ⟨by decide, by decide⟩ ?_
  have h := h _ rfl
  refine wp_s hT 6 (i' := 15) (L' := [some (.ref 74), none, none, none]) (st' := [.int (nI 0), .ref 84, .int (nI 2), .int (nI 1), .ref 74]) rfl ?_
  refine wp_iald hT rfl rfl ⟨h.1, ?_⟩
  have h := h.2
  refine wp_s hT 4 (i' := 20) (L' := [some (.ref 74), none, none, none]) (st' := [.int ((mm_up2 (mm_up2 iv2 74 12 r3) 74 13 (nI 4294967295)) 74 12), .int ((nI 1) + ((nI 2) * ((mm_up2 (mm_up2 iv2 74 12 r3) 74 13 (nI 4294967295)) 84 (nI 0).toNatClampNeg))), .ref 74]) rfl ?_
  refine wp_calli hT rfl rfl h (fun r7 iv6 h => ?_)
  refine wp_ic_gt hT rfl ⟨fun c => ?_, fun c => ?_⟩
  · have h := h.1 c
    refine wp_s hT 1 (i' := 25) (L' := [some (.ref 74), none, none, none]) (st' := [.int (nI 0), .ref 74]) rfl ?_
    refine wp_putz hT rfl rfl ⟨by decide, by decide⟩ ⟨Or.inl rfl, ?_⟩
    have h := h _ rfl
    refine wp_s hT 2 (i' := 28) (L' := [some (.ref 74), none, none, none]) (st' := [.int ((mm_up2 iv6 74 11 (nI 0)) 74 11)]) rfl ?_
    refine wp_if_ne hT rfl ⟨fun c => ?_, fun c => ?_⟩
    · have h := h.1 c
      exact wp_rv hT rfl rfl ⟨rfl, h⟩
    · have h := h.2 c
      refine wp_s hT 3 (i' := 33) (L' := [some (.ref 74), none, none, none]) (st' := [.int ((mm_up2 iv6 74 11 (nI 0)) 74 12), .ref 74]) rfl ?_
      refine wp_calli hT rfl rfl h (fun r10 iv9 h => ?_)
      refine wp_callv hT rfl rfl h (fun iv11 h => ?_)
      refine wp_s hT 2 (i' := 37) (L' := [some (.ref 74), some (.int (nI 0)), none, none]) (st' := []) rfl ?_
      exact h
  · have h := h.2 c
    refine wp_s hT 2 (i' := 25) (L' := [some (.ref 74), none, none, none]) (st' := [.int (nI 1), .ref 74]) rfl ?_
    refine wp_putz hT rfl rfl ⟨by decide, by decide⟩ ⟨Or.inr rfl, ?_⟩
    have h := h _ rfl
    refine wp_s hT 2 (i' := 28) (L' := [some (.ref 74), none, none, none]) (st' := [.int ((mm_up2 iv6 74 11 (nI 1)) 74 11)]) rfl ?_
    refine wp_if_ne hT rfl ⟨fun c => ?_, fun c => ?_⟩
    · have h := h.1 c
      exact wp_rv hT rfl rfl ⟨rfl, h⟩
    · have h := h.2 c
      refine wp_s hT 3 (i' := 33) (L' := [some (.ref 74), none, none, none]) (st' := [.int ((mm_up2 iv6 74 11 (nI 1)) 74 12), .ref 74]) rfl ?_
      refine wp_calli hT rfl rfl h (fun r14 iv13 h => ?_)
      refine wp_callv hT rfl rfl h (fun iv15 h => ?_)
      refine wp_s hT 2 (i' := 37) (L' := [some (.ref 74), some (.int (nI 0)), none, none]) (st' := []) rfl ?_
      exact h

theorem mk_X11_markBy {X : Nat × (Nat → Int32)} {x1 : Int32} {iv : IV} {P : Int32 → IV → Prop}
    (h : ((x1 = 0 → P (iv 74 12) iv) ∧ (¬ (x1 = 0) → ((x1 = (nI 1) → P (iv 74 13) iv) ∧ (¬ (x1 = (nI 1)) → ((x1 = (nI 2) → wc X 153 [.int (iv 74 12)] iv (Ri (fun r2 iv1 => P (r2 / (nI 3)) iv1))) ∧ (¬ (x1 = (nI 2)) → ((iv 74 11 = 0 → P (nI 1) iv) ∧ (¬ (iv 74 11 = 0) → P (nI 0) iv))))))))) :
    wc X 167 [.ref 74, .int x1] iv (Ri P) := by
  have hT := tb_167
  show wp X (0, 0) 167 0 [some (.ref 74), some (.int x1)] [] iv (Ri P)
  refine wp_s hT 1 (i' := 1) (L' := [some (.ref 74), some (.int x1)]) (st' := [.int x1]) rfl ?_
  refine wp_if_ne hT rfl ⟨fun c => ?_, fun c => ?_⟩
  · have h := h.1 c
    refine wp_s hT 3 (i' := 26) (L' := [some (.ref 74), some (.int x1)]) (st' := [.int (iv 74 12)]) rfl ?_
    exact wp_ri hT rfl rfl ⟨_, rfl, h⟩
  · have h := h.2 c
    refine wp_s hT 2 (i' := 7) (L' := [some (.ref 74), some (.int x1)]) (st' := [.int (nI 1), .int x1]) rfl ?_
    refine wp_ic_ne hT rfl ⟨fun c => ?_, fun c => ?_⟩
    · have h := h.1 c
      refine wp_s hT 3 (i' := 26) (L' := [some (.ref 74), some (.int x1)]) (st' := [.int (iv 74 13)]) rfl ?_
      exact wp_ri hT rfl rfl ⟨_, rfl, h⟩
    · have h := h.2 c
      refine wp_s hT 2 (i' := 13) (L' := [some (.ref 74), some (.int x1)]) (st' := [.int (nI 2), .int x1]) rfl ?_
      refine wp_ic_ne hT rfl ⟨fun c => ?_, fun c => ?_⟩
      · have h := h.1 c
        refine wp_s hT 2 (i' := 16) (L' := [some (.ref 74), some (.int x1)]) (st' := [.int (iv 74 12)]) rfl ?_
        refine wp_calli hT rfl rfl h (fun r2 iv1 h => ?_)
        refine wp_s hT 3 (i' := 26) (L' := [some (.ref 74), some (.int x1)]) (st' := [.int (r2 / (nI 3))]) rfl ?_
        exact wp_ri hT rfl rfl ⟨_, rfl, h⟩
      · have h := h.2 c
        refine wp_s hT 2 (i' := 22) (L' := [some (.ref 74), some (.int x1)]) (st' := [.int (iv 74 11)]) rfl ?_
        refine wp_if_eq hT rfl ⟨fun c => ?_, fun c => ?_⟩
        · have h := h.1 c
          refine wp_s hT 1 (i' := 26) (L' := [some (.ref 74), some (.int x1)]) (st' := [.int (nI 1)]) rfl ?_
          exact wp_ri hT rfl rfl ⟨_, rfl, h⟩
        · have h := h.2 c
          refine wp_s hT 2 (i' := 26) (L' := [some (.ref 74), some (.int x1)]) (st' := [.int (nI 0)]) rfl ?_
          exact wp_ri hT rfl rfl ⟨_, rfl, h⟩

theorem mk_X11_mark {X : Nat × (Nat → Int32)} {x1 : Int32} {iv : IV} {P : Int32 → IV → Prop}
    (h : wc X 166 [.ref 74] iv (Rv (fun iv1 => wc X 122 [.long x1.toInt64, .long (lN 0), .long (lN 3)] iv1 (Ri (fun r3 iv2 => ((r3 = 0 → P (nI 4294967294) iv2) ∧ (¬ (r3 = 0) → wc X 167 [.ref 74, .int x1] iv2 (Ri (fun r5 iv4 => P r5 iv4))))))))) :
    wc X 168 [.ref 74, .int x1] iv (Ri P) := by
  have hT := tb_168
  show wp X (0, 0) 168 0 [some (.ref 74), some (.int x1)] [] iv (Ri P)
  refine wp_s hT 1 (i' := 1) (L' := [some (.ref 74), some (.int x1)]) (st' := [.ref 74]) rfl ?_
  refine wp_callv hT rfl rfl h (fun iv1 h => ?_)
  refine wp_s hT 4 (i' := 6) (L' := [some (.ref 74), some (.int x1)]) (st' := [.long (lN 3), .long (lN 0), .long x1.toInt64]) rfl ?_
  refine wp_calli hT rfl rfl h (fun r3 iv2 h => ?_)
  refine wp_if_eq hT rfl ⟨fun c => ?_, fun c => ?_⟩
  · have h := h.1 c
    refine wp_s hT 1 (i' := 13) (L' := [some (.ref 74), some (.int x1)]) (st' := [.int (nI 4294967294)]) rfl ?_
    exact wp_ri hT rfl rfl ⟨_, rfl, h⟩
  · have h := h.2 c
    refine wp_s hT 2 (i' := 10) (L' := [some (.ref 74), some (.int x1)]) (st' := [.int x1, .ref 74]) rfl ?_
    refine wp_calli hT rfl rfl h (fun r5 iv4 h => ?_)
    refine wp_s hT 1 (i' := 13) (L' := [some (.ref 74), some (.int x1)]) (st' := [.int r5]) rfl ?_
    exact wp_ri hT rfl rfl ⟨_, rfl, h⟩

theorem mk_X11_symbolBy {X : Nat × (Nat → Int32)} {x1 : Int32} {x2 : Int32} {iv : IV} {P : Int32 → IV → Prop}
    (h : ((iv 74 11 = 0 → P (nI 4294967295) iv) ∧ (¬ (iv 74 11 = 0) → vp_in (((nI 14) * x1) + x2) 42 ∧ P (iv 85 (((nI 14) * x1) + x2).toNatClampNeg) iv))) :
    wc X 169 [.ref 74, .int x1, .int x2] iv (Ri P) := by
  have hT := tb_169
  show wp X (0, 0) 169 0 [some (.ref 74), some (.int x1), some (.int x2)] [] iv (Ri P)
  refine wp_s hT 2 (i' := 2) (L' := [some (.ref 74), some (.int x1), some (.int x2)]) (st' := [.int (iv 74 11)]) rfl ?_
  refine wp_if_eq hT rfl ⟨fun c => ?_, fun c => ?_⟩
  · have h := h.1 c
    refine wp_s hT 1 (i' := 13) (L' := [some (.ref 74), some (.int x1), some (.int x2)]) (st' := [.int (nI 4294967295)]) rfl ?_
    exact wp_ri hT rfl rfl ⟨_, rfl, h⟩
  · have h := h.2 c
    refine wp_s hT 7 (i' := 10) (L' := [some (.ref 74), some (.int x1), some (.int x2)]) (st' := [.int (((nI 14) * x1) + x2), .ref 85]) rfl ?_
    refine wp_iald hT rfl rfl ⟨h.1, ?_⟩
    have h := h.2
    refine wp_s hT 1 (i' := 13) (L' := [some (.ref 74), some (.int x1), some (.int x2)]) (st' := [.int (iv 85 (((nI 14) * x1) + x2).toNatClampNeg)]) rfl ?_
    exact wp_ri hT rfl rfl ⟨_, rfl, h⟩

theorem mk_X11_symbol {X : Nat × (Nat → Int32)} {x1 : Int32} {x2 : Int32} {iv : IV} {P : Int32 → IV → Prop}
    (h : wc X 166 [.ref 74] iv (Rv (fun iv1 => wc X 122 [.long x1.toInt64, .long (lN 0), .long (lN 2)] iv1 (Ri (fun r3 iv2 => ((r3 = 0 → P (nI 4294967294) iv2) ∧ (¬ (r3 = 0) → wc X 122 [.long x2.toInt64, .long (lN 0), .long (lN 13)] iv2 (Ri (fun r5 iv4 => ((r5 = 0 → P (nI 4294967294) iv4) ∧ (¬ (r5 = 0) → wc X 169 [.ref 74, .int x1, .int x2] iv4 (Ri (fun r7 iv6 => P r7 iv6))))))))))))) :
    wc X 170 [.ref 74, .int x1, .int x2] iv (Ri P) := by
  have hT := tb_170
  show wp X (0, 0) 170 0 [some (.ref 74), some (.int x1), some (.int x2)] [] iv (Ri P)
  refine wp_s hT 1 (i' := 1) (L' := [some (.ref 74), some (.int x1), some (.int x2)]) (st' := [.ref 74]) rfl ?_
  refine wp_callv hT rfl rfl h (fun iv1 h => ?_)
  refine wp_s hT 4 (i' := 6) (L' := [some (.ref 74), some (.int x1), some (.int x2)]) (st' := [.long (lN 2), .long (lN 0), .long x1.toInt64]) rfl ?_
  refine wp_calli hT rfl rfl h (fun r3 iv2 h => ?_)
  refine wp_if_eq hT rfl ⟨fun c => ?_, fun c => ?_⟩
  · have h := h.1 c
    refine wp_s hT 1 (i' := 20) (L' := [some (.ref 74), some (.int x1), some (.int x2)]) (st' := [.int (nI 4294967294)]) rfl ?_
    exact wp_ri hT rfl rfl ⟨_, rfl, h⟩
  · have h := h.2 c
    refine wp_s hT 4 (i' := 12) (L' := [some (.ref 74), some (.int x1), some (.int x2)]) (st' := [.long (lN 13), .long (lN 0), .long x2.toInt64]) rfl ?_
    refine wp_calli hT rfl rfl h (fun r5 iv4 h => ?_)
    refine wp_if_eq hT rfl ⟨fun c => ?_, fun c => ?_⟩
    · have h := h.1 c
      refine wp_s hT 1 (i' := 20) (L' := [some (.ref 74), some (.int x1), some (.int x2)]) (st' := [.int (nI 4294967294)]) rfl ?_
      exact wp_ri hT rfl rfl ⟨_, rfl, h⟩
    · have h := h.2 c
      refine wp_s hT 3 (i' := 17) (L' := [some (.ref 74), some (.int x1), some (.int x2)]) (st' := [.int x2, .int x1, .ref 74]) rfl ?_
      refine wp_calli hT rfl rfl h (fun r7 iv6 h => ?_)
      refine wp_s hT 1 (i' := 20) (L' := [some (.ref 74), some (.int x1), some (.int x2)]) (st' := [.int r7]) rfl ?_
      exact wp_ri hT rfl rfl ⟨_, rfl, h⟩

theorem mk_X11_dotsBy_4 {X : Nat × (Nat → Int32)} {x1 : Int32} {x2 : Int32} {x3 : Int32} {x4 : Int32} {iv : IV} {P : Int32 → IV → Prop}
    (h : (((nI 15) ≤ x4 → ((iv 74 11 = 0 → P (nI 4294967293) iv) ∧ (¬ (iv 74 11 = 0) → P x3 iv))) ∧ (¬ ((nI 15) ≤ x4) → wc X 162 [.ref 74, .int x1, .int (((nI 15) * x2) + x4)] iv (Ri (fun r2 iv1 => ∀ v3 : Int32, v3 = x3 ||| (r2 <<< (x4 &&& 31)) → wp X (0, 0) 171 4 [some (.ref 74), some (.int x1), some (.int x2), some (.int v3), some (.int (x4 + nI 1))] [] iv1 (Ri P)))))) :
    wp X (0, 0) 171 4 [some (.ref 74), some (.int x1), some (.int x2), some (.int x3), some (.int x4)] [] iv (Ri P) := by
  have hT := tb_171
  refine wp_s hT 2 (i' := 6) (L' := [some (.ref 74), some (.int x1), some (.int x2), some (.int x3), some (.int x4)]) (st' := [.int (nI 15), .int x4]) rfl ?_
  refine wp_ic_ge hT rfl ⟨fun c => ?_, fun c => ?_⟩
  · have h := h.1 c
    refine wp_s hT 2 (i' := 24) (L' := [some (.ref 74), some (.int x1), some (.int x2), some (.int x3), some (.int x4)]) (st' := [.int (iv 74 11)]) rfl ?_
    refine wp_if_eq hT rfl ⟨fun c => ?_, fun c => ?_⟩
    · have h := h.1 c
      refine wp_s hT 1 (i' := 28) (L' := [some (.ref 74), some (.int x1), some (.int x2), some (.int x3), some (.int x4)]) (st' := [.int (nI 4294967293)]) rfl ?_
      exact wp_ri hT rfl rfl ⟨_, rfl, h⟩
    · have h := h.2 c
      refine wp_s hT 2 (i' := 28) (L' := [some (.ref 74), some (.int x1), some (.int x2), some (.int x3), some (.int x4)]) (st' := [.int x3]) rfl ?_
      exact wp_ri hT rfl rfl ⟨_, rfl, h⟩
  · have h := h.2 c
    refine wp_s hT 8 (i' := 15) (L' := [some (.ref 74), some (.int x1), some (.int x2), some (.int x3), some (.int x4)]) (st' := [.int (((nI 15) * x2) + x4), .int x1, .ref 74, .int x3]) rfl ?_
    refine wp_calli hT rfl rfl h (fun r2 iv1 h => ?_)
    refine wp_s hT 4 (i' := 20) (L' := [some (.ref 74), some (.int x1), some (.int x2), some (.int (x3 ||| (r2 <<< (x4 &&& 31)))), some (.int x4)]) (st' := []) rfl ?_
    have h := h _ rfl
    refine wp_s hT 2 (i' := 4) (L' := [some (.ref 74), some (.int x1), some (.int x2), some (.int (x3 ||| (r2 <<< (x4 &&& 31)))), some (.int (x4 + nI 1))]) (st' := []) rfl ?_
    exact h

theorem mk_X11_dotsBy {X : Nat × (Nat → Int32)} {x1 : Int32} {x2 : Int32} {iv : IV} {P : Int32 → IV → Prop}
    (h : wp X (0, 0) 171 4 [some (.ref 74), some (.int x1), some (.int x2), some (.int (nI 0)), some (.int (nI 0))] [] iv (Ri P)) :
    wc X 171 [.ref 74, .int x1, .int x2] iv (Ri P) := by
  have hT := tb_171
  show wp X (0, 0) 171 0 [some (.ref 74), some (.int x1), some (.int x2), none, none] [] iv (Ri P)
  refine wp_s hT 4 (i' := 4) (L' := [some (.ref 74), some (.int x1), some (.int x2), some (.int (nI 0)), some (.int (nI 0))]) (st' := []) rfl ?_
  exact h

theorem mk_X11_isPlace {X : Nat × (Nat → Int32)} {x0 : Int32} {iv : IV} {P : Int32 → IV → Prop}
    (h : wc X 122 [.long x0.toInt64, .long (lN 0), .long (lN 14)] iv (Ri (fun r2 iv1 => (r2 = 0 ∨ r2 = 1) ∧ P r2 iv1))) :
    wc X 172 [.int x0] iv (Ri P) := by
  have hT := tb_172
  show wp X (0, 0) 172 0 [some (.int x0)] [] iv (Ri P)
  refine wp_s hT 4 (i' := 4) (L' := [some (.int x0)]) (st' := [.long (lN 14), .long (lN 0), .long x0.toInt64]) rfl ?_
  refine wp_calli hT rfl rfl h (fun r2 iv1 h => ?_)
  exact wp_rz hT rfl rfl ⟨h.1, ⟨_, rfl, h.2⟩⟩

theorem mk_X11_dots {X : Nat × (Nat → Int32)} {x1 : Int32} {x2 : Int32} {iv : IV} {P : Int32 → IV → Prop}
    (h : wc X 166 [.ref 74] iv (Rv (fun iv1 => wc X 122 [.long x1.toInt64, .long (lN 18446744073709551615), .long (lN 3)] iv1 (Ri (fun r3 iv2 => ((r3 = 0 → P (nI 4294967294) iv2) ∧ (¬ (r3 = 0) → wc X 172 [.int x2] iv2 (Ri (fun r5 iv4 => ((r5 = 0 → P (nI 4294967294) iv4) ∧ (¬ (r5 = 0) → wc X 171 [.ref 74, .int x1, .int x2] iv4 (Ri (fun r7 iv6 => P r7 iv6))))))))))))) :
    wc X 173 [.ref 74, .int x1, .int x2] iv (Ri P) := by
  have hT := tb_173
  show wp X (0, 0) 173 0 [some (.ref 74), some (.int x1), some (.int x2)] [] iv (Ri P)
  refine wp_s hT 1 (i' := 1) (L' := [some (.ref 74), some (.int x1), some (.int x2)]) (st' := [.ref 74]) rfl ?_
  refine wp_callv hT rfl rfl h (fun iv1 h => ?_)
  refine wp_s hT 4 (i' := 6) (L' := [some (.ref 74), some (.int x1), some (.int x2)]) (st' := [.long (lN 3), .long (lN 18446744073709551615), .long x1.toInt64]) rfl ?_
  refine wp_calli hT rfl rfl h (fun r3 iv2 h => ?_)
  refine wp_if_eq hT rfl ⟨fun c => ?_, fun c => ?_⟩
  · have h := h.1 c
    refine wp_s hT 1 (i' := 17) (L' := [some (.ref 74), some (.int x1), some (.int x2)]) (st' := [.int (nI 4294967294)]) rfl ?_
    exact wp_ri hT rfl rfl ⟨_, rfl, h⟩
  · have h := h.2 c
    refine wp_s hT 1 (i' := 9) (L' := [some (.ref 74), some (.int x1), some (.int x2)]) (st' := [.int x2]) rfl ?_
    refine wp_calli hT rfl rfl h (fun r5 iv4 h => ?_)
    refine wp_if_eq hT rfl ⟨fun c => ?_, fun c => ?_⟩
    · have h := h.1 c
      refine wp_s hT 1 (i' := 17) (L' := [some (.ref 74), some (.int x1), some (.int x2)]) (st' := [.int (nI 4294967294)]) rfl ?_
      exact wp_ri hT rfl rfl ⟨_, rfl, h⟩
    · have h := h.2 c
      refine wp_s hT 3 (i' := 14) (L' := [some (.ref 74), some (.int x1), some (.int x2)]) (st' := [.int x2, .int x1, .ref 74]) rfl ?_
      refine wp_calli hT rfl rfl h (fun r7 iv6 h => ?_)
      refine wp_s hT 1 (i' := 17) (L' := [some (.ref 74), some (.int x1), some (.int x2)]) (st' := [.int r7]) rfl ?_
      exact wp_ri hT rfl rfl ⟨_, rfl, h⟩

theorem mk_X11_penaltyBy {X : Nat × (Nat → Int32)} {x1 : Int32} {iv : IV} {P : Int32 → IV → Prop}
    (h : ((iv 74 11 = 0 → P (nI 4294967293) iv) ∧ (¬ (iv 74 11 = 0) → wc X 165 [.ref 74, .int x1] iv (Ri (fun r2 iv1 => P r2 iv1))))) :
    wc X 174 [.ref 74, .int x1] iv (Ri P) := by
  have hT := tb_174
  show wp X (0, 0) 174 0 [some (.ref 74), some (.int x1)] [] iv (Ri P)
  refine wp_s hT 2 (i' := 2) (L' := [some (.ref 74), some (.int x1)]) (st' := [.int (iv 74 11)]) rfl ?_
  refine wp_if_eq hT rfl ⟨fun c => ?_, fun c => ?_⟩
  · have h := h.1 c
    refine wp_s hT 1 (i' := 8) (L' := [some (.ref 74), some (.int x1)]) (st' := [.int (nI 4294967293)]) rfl ?_
    exact wp_ri hT rfl rfl ⟨_, rfl, h⟩
  · have h := h.2 c
    refine wp_s hT 2 (i' := 5) (L' := [some (.ref 74), some (.int x1)]) (st' := [.int x1, .ref 74]) rfl ?_
    refine wp_calli hT rfl rfl h (fun r2 iv1 h => ?_)
    refine wp_s hT 1 (i' := 8) (L' := [some (.ref 74), some (.int x1)]) (st' := [.int r2]) rfl ?_
    exact wp_ri hT rfl rfl ⟨_, rfl, h⟩

theorem mk_X11_penalty {X : Nat × (Nat → Int32)} {x1 : Int32} {iv : IV} {P : Int32 → IV → Prop}
    (h : wc X 166 [.ref 74] iv (Rv (fun iv1 => wc X 122 [.long x1.toInt64, .long (lN 0), .long (lN 3)] iv1 (Ri (fun r3 iv2 => ((r3 = 0 → P (nI 4294967294) iv2) ∧ (¬ (r3 = 0) → wc X 174 [.ref 74, .int x1] iv2 (Ri (fun r5 iv4 => P r5 iv4))))))))) :
    wc X 175 [.ref 74, .int x1] iv (Ri P) := by
  have hT := tb_175
  show wp X (0, 0) 175 0 [some (.ref 74), some (.int x1)] [] iv (Ri P)
  refine wp_s hT 1 (i' := 1) (L' := [some (.ref 74), some (.int x1)]) (st' := [.ref 74]) rfl ?_
  refine wp_callv hT rfl rfl h (fun iv1 h => ?_)
  refine wp_s hT 4 (i' := 6) (L' := [some (.ref 74), some (.int x1)]) (st' := [.long (lN 3), .long (lN 0), .long x1.toInt64]) rfl ?_
  refine wp_calli hT rfl rfl h (fun r3 iv2 h => ?_)
  refine wp_if_eq hT rfl ⟨fun c => ?_, fun c => ?_⟩
  · have h := h.1 c
    refine wp_s hT 1 (i' := 13) (L' := [some (.ref 74), some (.int x1)]) (st' := [.int (nI 4294967294)]) rfl ?_
    exact wp_ri hT rfl rfl ⟨_, rfl, h⟩
  · have h := h.2 c
    refine wp_s hT 2 (i' := 10) (L' := [some (.ref 74), some (.int x1)]) (st' := [.int x1, .ref 74]) rfl ?_
    refine wp_calli hT rfl rfl h (fun r5 iv4 h => ?_)
    refine wp_s hT 1 (i' := 13) (L' := [some (.ref 74), some (.int x1)]) (st' := [.int r5]) rfl ?_
    exact wp_ri hT rfl rfl ⟨_, rfl, h⟩

theorem mk_X11_placeBy_17 {X : Nat × (Nat → Int32)} {x1 : Int32} {x2 : Int32} {iv : IV} {P : Int32 → IV → Prop}
    (h : ((x2 = 0 → vp_in x1 225 ∧ P (iv 87 x1.toNatClampNeg) iv) ∧ (¬ (x2 = 0) → vp_in x1 225 ∧ P ((iv 87 x1.toNatClampNeg) / (nI 4)) iv))) :
    wp X (0, 0) 176 17 [some (.ref 74), some (.int x1), some (.int x2)] [] iv (Ri P) := by
  have hT := tb_176
  refine wp_s hT 1 (i' := 18) (L' := [some (.ref 74), some (.int x1), some (.int x2)]) (st' := [.int x2]) rfl ?_
  refine wp_if_ne hT rfl ⟨fun c => ?_, fun c => ?_⟩
  · have h := h.1 c
    refine wp_s hT 3 (i' := 22) (L' := [some (.ref 74), some (.int x1), some (.int x2)]) (st' := [.int x1, .ref 87]) rfl ?_
    refine wp_iald hT rfl rfl ⟨h.1, ?_⟩
    have h := h.2
    refine wp_s hT 1 (i' := 30) (L' := [some (.ref 74), some (.int x1), some (.int x2)]) (st' := [.int (iv 87 x1.toNatClampNeg)]) rfl ?_
    exact wp_ri hT rfl rfl ⟨_, rfl, h⟩
  · have h := h.2 c
    refine wp_s hT 3 (i' := 27) (L' := [some (.ref 74), some (.int x1), some (.int x2)]) (st' := [.int x1, .ref 87]) rfl ?_
    refine wp_iald hT rfl rfl ⟨h.1, ?_⟩
    have h := h.2
    refine wp_s hT 2 (i' := 30) (L' := [some (.ref 74), some (.int x1), some (.int x2)]) (st' := [.int ((iv 87 x1.toNatClampNeg) / (nI 4))]) rfl ?_
    exact wp_ri hT rfl rfl ⟨_, rfl, h⟩

theorem mk_X11_placeBy {X : Nat × (Nat → Int32)} {x1 : Int32} {x2 : Int32} {iv : IV} {P : Int32 → IV → Prop}
    (h : vp_in x1 225 ∧ (((iv 87 x1.toNatClampNeg) = (nI 4294967295) → P (nI 4294967295) iv) ∧ (¬ ((iv 87 x1.toNatClampNeg) = (nI 4294967295)) → ((x2 = (nI 1) → vp_in x1 225 ∧ (((iv 87 x1.toNatClampNeg) ≤ (nI 167) → wp X (0, 0) 176 17 [some (.ref 74), some (.int x1), some (.int x2)] [] iv (Ri P)) ∧ (¬ ((iv 87 x1.toNatClampNeg) ≤ (nI 167)) → P (nI 4294967295) iv))) ∧ (¬ (x2 = (nI 1)) → wp X (0, 0) 176 17 [some (.ref 74), some (.int x1), some (.int x2)] [] iv (Ri P)))))) :
    wc X 176 [.ref 74, .int x1, .int x2] iv (Ri P) := by
  have hT := tb_176
  show wp X (0, 0) 176 0 [some (.ref 74), some (.int x1), some (.int x2)] [] iv (Ri P)
  refine wp_s hT 3 (i' := 3) (L' := [some (.ref 74), some (.int x1), some (.int x2)]) (st' := [.int x1, .ref 87]) rfl ?_
  refine wp_iald hT rfl rfl ⟨h.1, ?_⟩
  have h := h.2
  refine wp_s hT 1 (i' := 5) (L' := [some (.ref 74), some (.int x1), some (.int x2)]) (st' := [.int (nI 4294967295), .int (iv 87 x1.toNatClampNeg)]) rfl ?_
  refine wp_ic_eq hT rfl ⟨fun c => ?_, fun c => ?_⟩
  · have h := h.1 c
    refine wp_s hT 2 (i' := 30) (L' := [some (.ref 74), some (.int x1), some (.int x2)]) (st' := [.int (nI 4294967295)]) rfl ?_
    exact wp_ri hT rfl rfl ⟨_, rfl, h⟩
  · have h := h.2 c
    refine wp_s hT 2 (i' := 8) (L' := [some (.ref 74), some (.int x1), some (.int x2)]) (st' := [.int (nI 1), .int x2]) rfl ?_
    refine wp_ic_ne hT rfl ⟨fun c => ?_, fun c => ?_⟩
    · have h := h.1 c
      refine wp_s hT 3 (i' := 12) (L' := [some (.ref 74), some (.int x1), some (.int x2)]) (st' := [.int x1, .ref 87]) rfl ?_
      refine wp_iald hT rfl rfl ⟨h.1, ?_⟩
      have h := h.2
      refine wp_s hT 1 (i' := 14) (L' := [some (.ref 74), some (.int x1), some (.int x2)]) (st' := [.int (nI 167), .int (iv 87 x1.toNatClampNeg)]) rfl ?_
      refine wp_ic_le hT rfl ⟨fun c => ?_, fun c => ?_⟩
      · have h := h.1 c
        exact h
      · have h := h.2 c
        refine wp_s hT 2 (i' := 30) (L' := [some (.ref 74), some (.int x1), some (.int x2)]) (st' := [.int (nI 4294967295)]) rfl ?_
        exact wp_ri hT rfl rfl ⟨_, rfl, h⟩
    · have h := h.2 c
      exact h

theorem mk_X11_place {X : Nat × (Nat → Int32)} {x1 : Int32} {x2 : Int32} {x3 : Int32} {iv : IV} {P : Int32 → IV → Prop}
    (h : wc X 166 [.ref 74] iv (Rv (fun iv1 => wc X 172 [.int x1] iv1 (Ri (fun r3 iv2 => ((r3 = 0 → P (nI 4294967294) iv2) ∧ (¬ (r3 = 0) → wc X 172 [.int x2] iv2 (Ri (fun r5 iv4 => ((r5 = 0 → P (nI 4294967294) iv4) ∧ (¬ (r5 = 0) → wc X 123 [.int x3] iv4 (Ri (fun r7 iv6 => ((r7 = 0 → P (nI 4294967294) iv6) ∧ (¬ (r7 = 0) → wc X 176 [.ref 74, .int (((nI 15) * x1) + x2), .int x3] iv6 (Ri (fun r9 iv8 => P r9 iv8))))))))))))))))) :
    wc X 177 [.ref 74, .int x1, .int x2, .int x3] iv (Ri P) := by
  have hT := tb_177
  show wp X (0, 0) 177 0 [some (.ref 74), some (.int x1), some (.int x2), some (.int x3)] [] iv (Ri P)
  refine wp_s hT 1 (i' := 1) (L' := [some (.ref 74), some (.int x1), some (.int x2), some (.int x3)]) (st' := [.ref 74]) rfl ?_
  refine wp_callv hT rfl rfl h (fun iv1 h => ?_)
  refine wp_s hT 1 (i' := 3) (L' := [some (.ref 74), some (.int x1), some (.int x2), some (.int x3)]) (st' := [.int x1]) rfl ?_
  refine wp_calli hT rfl rfl h (fun r3 iv2 h => ?_)
  refine wp_if_eq hT rfl ⟨fun c => ?_, fun c => ?_⟩
  · have h := h.1 c
    refine wp_s hT 1 (i' := 21) (L' := [some (.ref 74), some (.int x1), some (.int x2), some (.int x3)]) (st' := [.int (nI 4294967294)]) rfl ?_
    exact wp_ri hT rfl rfl ⟨_, rfl, h⟩
  · have h := h.2 c
    refine wp_s hT 1 (i' := 6) (L' := [some (.ref 74), some (.int x1), some (.int x2), some (.int x3)]) (st' := [.int x2]) rfl ?_
    refine wp_calli hT rfl rfl h (fun r5 iv4 h => ?_)
    refine wp_if_eq hT rfl ⟨fun c => ?_, fun c => ?_⟩
    · have h := h.1 c
      refine wp_s hT 1 (i' := 21) (L' := [some (.ref 74), some (.int x1), some (.int x2), some (.int x3)]) (st' := [.int (nI 4294967294)]) rfl ?_
      exact wp_ri hT rfl rfl ⟨_, rfl, h⟩
    · have h := h.2 c
      refine wp_s hT 1 (i' := 9) (L' := [some (.ref 74), some (.int x1), some (.int x2), some (.int x3)]) (st' := [.int x3]) rfl ?_
      refine wp_calli hT rfl rfl h (fun r7 iv6 h => ?_)
      refine wp_if_eq hT rfl ⟨fun c => ?_, fun c => ?_⟩
      · have h := h.1 c
        refine wp_s hT 1 (i' := 21) (L' := [some (.ref 74), some (.int x1), some (.int x2), some (.int x3)]) (st' := [.int (nI 4294967294)]) rfl ?_
        exact wp_ri hT rfl rfl ⟨_, rfl, h⟩
      · have h := h.2 c
        refine wp_s hT 7 (i' := 18) (L' := [some (.ref 74), some (.int x1), some (.int x2), some (.int x3)]) (st' := [.int x3, .int (((nI 15) * x1) + x2), .ref 74]) rfl ?_
        refine wp_calli hT rfl rfl h (fun r9 iv8 h => ?_)
        refine wp_s hT 1 (i' := 21) (L' := [some (.ref 74), some (.int x1), some (.int x2), some (.int x3)]) (st' := [.int r9]) rfl ?_
        exact wp_ri hT rfl rfl ⟨_, rfl, h⟩

theorem mk_X11_sumOf_4 {X : Nat × (Nat → Int32)} {r0 : Nat} {x1 : Int32} {x2 : Int32} {iv : IV} {P : Int32 → IV → Prop} (k0 : kdT r0 = (1, 225))
    (h : (((nI 225) ≤ x2 → P x1 iv) ∧ (¬ ((nI 225) ≤ x2) → vp_in x2 225 ∧ ∀ v1 : Int32, v1 = x1 + (iv r0 x2.toNatClampNeg) → wp X (0, 0) 178 4 [some (.ref r0), some (.int v1), some (.int (x2 + nI 1))] [] iv (Ri P)))) :
    wp X (0, 0) 178 4 [some (.ref r0), some (.int x1), some (.int x2)] [] iv (Ri P) := by
  have hT := tb_178
  refine wp_s hT 2 (i' := 6) (L' := [some (.ref r0), some (.int x1), some (.int x2)]) (st' := [.int (nI 225), .int x2]) rfl ?_
  refine wp_ic_ge hT rfl ⟨fun c => ?_, fun c => ?_⟩
  · have h := h.1 c
    refine wp_s hT 1 (i' := 16) (L' := [some (.ref r0), some (.int x1), some (.int x2)]) (st' := [.int x1]) rfl ?_
    exact wp_ri hT rfl rfl ⟨_, rfl, h⟩
  · have h := h.2 c
    refine wp_s hT 3 (i' := 10) (L' := [some (.ref r0), some (.int x1), some (.int x2)]) (st' := [.int x2, .ref r0, .int x1]) rfl ?_
    refine wp_iald hT rfl k0 ⟨h.1, ?_⟩
    have h := h.2
    refine wp_s hT 2 (i' := 13) (L' := [some (.ref r0), some (.int (x1 + (iv r0 x2.toNatClampNeg))), some (.int x2)]) (st' := []) rfl ?_
    have h := h _ rfl
    refine wp_s hT 2 (i' := 4) (L' := [some (.ref r0), some (.int (x1 + (iv r0 x2.toNatClampNeg))), some (.int (x2 + nI 1))]) (st' := []) rfl ?_
    exact h

theorem mk_X11_sumOf {X : Nat × (Nat → Int32)} {r0 : Nat} {iv : IV} {P : Int32 → IV → Prop}
    (h : wp X (0, 0) 178 4 [some (.ref r0), some (.int (nI 0)), some (.int (nI 0))] [] iv (Ri P)) :
    wc X 178 [.ref r0] iv (Ri P) := by
  have hT := tb_178
  show wp X (0, 0) 178 0 [some (.ref r0), none, none] [] iv (Ri P)
  refine wp_s hT 4 (i' := 4) (L' := [some (.ref r0), some (.int (nI 0)), some (.int (nI 0))]) (st' := []) rfl ?_
  exact h

theorem mk_X11_does {X : Nat × (Nat → Int32)} {x1 : Int32} {iv : IV} {P : IV → Prop}
    (h : (((nI 225) ≤ x1 → vp_in (x1 - (nI 225)) 225 ∧ vp_in (x1 - (nI 225)) 225 ∧ (∀ iv1 : IV, iv1 = mm_up2 iv 92 (x1 - (nI 225)).toNatClampNeg ((nI 1) - (iv 92 (x1 - (nI 225)).toNatClampNeg)) → P iv1)) ∧ (¬ ((nI 225) ≤ x1) → vp_in x1 225 ∧ vp_in x1 225 ∧ (∀ iv2 : IV, iv2 = mm_up2 iv 91 x1.toNatClampNeg ((nI 1) - (iv 91 x1.toNatClampNeg)) → P iv2)))) :
    wc X 179 [.ref 74, .int x1] iv (Rv P) := by
  have hT := tb_179
  show wp X (0, 0) 179 0 [some (.ref 74), some (.int x1)] [] iv (Rv P)
  refine wp_s hT 2 (i' := 2) (L' := [some (.ref 74), some (.int x1)]) (st' := [.int (nI 225), .int x1]) rfl ?_
  refine wp_ic_ge hT rfl ⟨fun c => ?_, fun c => ?_⟩
  · have h := h.1 c
    refine wp_s hT 11 (i' := 25) (L' := [some (.ref 74), some (.int x1)]) (st' := [.int (x1 - (nI 225)), .ref 92, .int (nI 1), .int (x1 - (nI 225)), .ref 92]) rfl ?_
    refine wp_iald hT rfl rfl ⟨h.1, ?_⟩
    have h := h.2
    refine wp_s hT 1 (i' := 27) (L' := [some (.ref 74), some (.int x1)]) (st' := [.int ((nI 1) - (iv 92 (x1 - (nI 225)).toNatClampNeg)), .int (x1 - (nI 225)), .ref 92]) rfl ?_
    refine wp_iast hT rfl rfl ⟨h.1, ?_⟩
    have h := h.2
    have h := h _ rfl
    exact wp_rv hT rfl rfl ⟨rfl, h⟩
  · have h := h.2 c
    refine wp_s hT 7 (i' := 10) (L' := [some (.ref 74), some (.int x1)]) (st' := [.int x1, .ref 91, .int (nI 1), .int x1, .ref 91]) rfl ?_
    refine wp_iald hT rfl rfl ⟨h.1, ?_⟩
    have h := h.2
    refine wp_s hT 1 (i' := 12) (L' := [some (.ref 74), some (.int x1)]) (st' := [.int ((nI 1) - (iv 91 x1.toNatClampNeg)), .int x1, .ref 91]) rfl ?_
    refine wp_iast hT rfl rfl ⟨h.1, ?_⟩
    have h := h.2
    have h := h _ rfl
    refine wp_s hT 1 (i' := 28) (L' := [some (.ref 74), some (.int x1)]) (st' := []) rfl ?_
    exact wp_rv hT rfl rfl ⟨rfl, h⟩

theorem mk_X11_notes_30 {X : Nat × (Nat → Int32)} {x1 : Int32} {iv : IV} {P : IV → Prop}
    (h : vp_in (iv 74 23) 60 ∧ (∀ iv1 : IV, iv1 = mm_up2 iv 93 (iv 74 23).toNatClampNeg x1 → ∀ iv2 : IV, iv2 = mm_up2 iv1 74 23 ((iv1 74 23) + (nI 1)) → P iv2)) :
    wp X (0, 0) 180 30 [some (.ref 74), some (.int x1), none] [] iv (Rv P) := by
  have hT := tb_180
  refine wp_s hT 5 (i' := 35) (L' := [some (.ref 74), some (.int x1), none]) (st' := [.int x1, .int (iv 74 23), .ref 93]) rfl ?_
  refine wp_iast hT rfl rfl ⟨h.1, ?_⟩
  have h := h.2
  have h := h _ rfl
  refine wp_s hT 5 (i' := 41) (L' := [some (.ref 74), some (.int x1), none]) (st' := [.int (((mm_up2 iv 93 (iv 74 23).toNatClampNeg x1) 74 23) + (nI 1)), .ref 74]) rfl ?_
  refine wp_puti hT rfl rfl ⟨by decide, by decide⟩ ?_
  have h := h _ rfl
  exact wp_rv hT rfl rfl ⟨rfl, h⟩

theorem mk_X11_notes_9 {X : Nat × (Nat → Int32)} {x1 : Int32} {x2 : Int32} {iv : IV} {P : IV → Prop}
    (h : (((nI 60) ≤ x2 → ∀ iv1 : IV, iv1 = mm_up2 iv 74 23 ((iv 74 23) - (nI 1)) → wp X (0, 0) 180 30 [some (.ref 74), some (.int x1), none] [] iv1 (Rv P)) ∧ (¬ ((nI 60) ≤ x2) → vp_in x2 60 ∧ vp_in (x2 - (nI 1)) 60 ∧ (∀ iv2 : IV, iv2 = mm_up2 iv 93 (x2 - (nI 1)).toNatClampNeg (iv 93 x2.toNatClampNeg) → wp X (0, 0) 180 9 [some (.ref 74), some (.int x1), some (.int (x2 + nI 1))] [] iv2 (Rv P))))) :
    wp X (0, 0) 180 9 [some (.ref 74), some (.int x1), some (.int x2)] [] iv (Rv P) := by
  have hT := tb_180
  refine wp_s hT 2 (i' := 11) (L' := [some (.ref 74), some (.int x1), some (.int x2)]) (st' := [.int (nI 60), .int x2]) rfl ?_
  refine wp_ic_ge hT rfl ⟨fun c => ?_, fun c => ?_⟩
  · have h := h.1 c
    refine wp_s hT 5 (i' := 29) (L' := [some (.ref 74), some (.int x1), some (.int x2)]) (st' := [.int ((iv 74 23) - (nI 1)), .ref 74]) rfl ?_
    refine wp_puti hT rfl rfl ⟨by decide, by decide⟩ ?_
    have h := h _ rfl
    refine wp_le (L := [some (.ref 74), some (.int x1), none]) ⟨Or.inl rfl, Or.inl rfl, Or.inr ⟨rfl, rfl⟩, trivial⟩ ?_
    exact h
  · have h := h.2 c
    refine wp_s hT 8 (i' := 20) (L' := [some (.ref 74), some (.int x1), some (.int x2)]) (st' := [.int x2, .ref 93, .int (x2 - (nI 1)), .ref 93]) rfl ?_
    refine wp_iald hT rfl rfl ⟨h.1, ?_⟩
    have h := h.2
    refine wp_iast hT rfl rfl ⟨h.1, ?_⟩
    have h := h.2
    have h := h _ rfl
    refine wp_s hT 2 (i' := 9) (L' := [some (.ref 74), some (.int x1), some (.int (x2 + nI 1))]) (st' := []) rfl ?_
    exact h

theorem mk_X11_notes {X : Nat × (Nat → Int32)} {x1 : Int32} {iv : IV} {P : IV → Prop}
    (h : wc X 179 [.ref 74, .int x1] iv (Rv (fun iv1 => (((iv1 74 23) = (nI 60) → wp X (0, 0) 180 9 [some (.ref 74), some (.int x1), some (.int (nI 1))] [] iv1 (Rv P)) ∧ (¬ ((iv1 74 23) = (nI 60)) → wp X (0, 0) 180 30 [some (.ref 74), some (.int x1), none] [] iv1 (Rv P)))))) :
    wc X 180 [.ref 74, .int x1] iv (Rv P) := by
  have hT := tb_180
  show wp X (0, 0) 180 0 [some (.ref 74), some (.int x1), none] [] iv (Rv P)
  refine wp_s hT 2 (i' := 2) (L' := [some (.ref 74), some (.int x1), none]) (st' := [.int x1, .ref 74]) rfl ?_
  refine wp_callv hT rfl rfl h (fun iv1 h => ?_)
  refine wp_s hT 3 (i' := 6) (L' := [some (.ref 74), some (.int x1), none]) (st' := [.int (nI 60), .int (iv1 74 23)]) rfl ?_
  refine wp_ic_ne hT rfl ⟨fun c => ?_, fun c => ?_⟩
  · have h := h.1 c
    refine wp_s hT 2 (i' := 9) (L' := [some (.ref 74), some (.int x1), some (.int (nI 1))]) (st' := []) rfl ?_
    exact h
  · have h := h.2 c
    exact h

theorem mk_X11_turn {X : Nat × (Nat → Int32)} {x1 : Int32} {x2 : Int32} {iv : IV} {P : Int32 → IV → Prop}
    (h : wc X 172 [.int x1] iv (Ri (fun r2 iv1 => ((r2 = 0 → P (nI 4294967294) iv1) ∧ (¬ (r2 = 0) → wc X 172 [.int x2] iv1 (Ri (fun r4 iv3 => ((r4 = 0 → P (nI 4294967294) iv3) ∧ (¬ (r4 = 0) → wc X 180 [.ref 74, .int (((nI 15) * x1) + x2)] iv3 (Rv (fun iv5 => wc X 178 [.ref 91] iv5 (Ri (fun r7 iv6 => P r7 iv6))))))))))))) :
    wc X 181 [.ref 74, .int x1, .int x2] iv (Ri P) := by
  have hT := tb_181
  show wp X (0, 0) 181 0 [some (.ref 74), some (.int x1), some (.int x2)] [] iv (Ri P)
  refine wp_s hT 1 (i' := 1) (L' := [some (.ref 74), some (.int x1), some (.int x2)]) (st' := [.int x1]) rfl ?_
  refine wp_calli hT rfl rfl h (fun r2 iv1 h => ?_)
  refine wp_if_eq hT rfl ⟨fun c => ?_, fun c => ?_⟩
  · have h := h.1 c
    refine wp_s hT 1 (i' := 7) (L' := [some (.ref 74), some (.int x1), some (.int x2)]) (st' := [.int (nI 4294967294)]) rfl ?_
    exact wp_ri hT rfl rfl ⟨_, rfl, h⟩
  · have h := h.2 c
    refine wp_s hT 1 (i' := 4) (L' := [some (.ref 74), some (.int x1), some (.int x2)]) (st' := [.int x2]) rfl ?_
    refine wp_calli hT rfl rfl h (fun r4 iv3 h => ?_)
    refine wp_if_ne hT rfl ⟨fun c => ?_, fun c => ?_⟩
    · have h := h.1 c
      refine wp_s hT 1 (i' := 7) (L' := [some (.ref 74), some (.int x1), some (.int x2)]) (st' := [.int (nI 4294967294)]) rfl ?_
      exact wp_ri hT rfl rfl ⟨_, rfl, h⟩
    · have h := h.2 c
      refine wp_s hT 6 (i' := 14) (L' := [some (.ref 74), some (.int x1), some (.int x2)]) (st' := [.int (((nI 15) * x1) + x2), .ref 74]) rfl ?_
      refine wp_callv hT rfl rfl h (fun iv5 h => ?_)
      refine wp_s hT 2 (i' := 17) (L' := [some (.ref 74), some (.int x1), some (.int x2)]) (st' := [.ref 91]) rfl ?_
      refine wp_calli hT rfl rfl h (fun r7 iv6 h => ?_)
      exact wp_ri hT rfl rfl ⟨_, rfl, h⟩

theorem mk_X11_lost {X : Nat × (Nat → Int32)} {x1 : Int32} {x2 : Int32} {iv : IV} {P : Int32 → IV → Prop}
    (h : wc X 172 [.int x1] iv (Ri (fun r2 iv1 => ((r2 = 0 → P (nI 4294967294) iv1) ∧ (¬ (r2 = 0) → wc X 172 [.int x2] iv1 (Ri (fun r4 iv3 => ((r4 = 0 → P (nI 4294967294) iv3) ∧ (¬ (r4 = 0) → wc X 180 [.ref 74, .int (((nI 225) + ((nI 15) * x1)) + x2)] iv3 (Rv (fun iv5 => wc X 178 [.ref 92] iv5 (Ri (fun r7 iv6 => P r7 iv6))))))))))))) :
    wc X 182 [.ref 74, .int x1, .int x2] iv (Ri P) := by
  have hT := tb_182
  show wp X (0, 0) 182 0 [some (.ref 74), some (.int x1), some (.int x2)] [] iv (Ri P)
  refine wp_s hT 1 (i' := 1) (L' := [some (.ref 74), some (.int x1), some (.int x2)]) (st' := [.int x1]) rfl ?_
  refine wp_calli hT rfl rfl h (fun r2 iv1 h => ?_)
  refine wp_if_eq hT rfl ⟨fun c => ?_, fun c => ?_⟩
  · have h := h.1 c
    refine wp_s hT 1 (i' := 7) (L' := [some (.ref 74), some (.int x1), some (.int x2)]) (st' := [.int (nI 4294967294)]) rfl ?_
    exact wp_ri hT rfl rfl ⟨_, rfl, h⟩
  · have h := h.2 c
    refine wp_s hT 1 (i' := 4) (L' := [some (.ref 74), some (.int x1), some (.int x2)]) (st' := [.int x2]) rfl ?_
    refine wp_calli hT rfl rfl h (fun r4 iv3 h => ?_)
    refine wp_if_ne hT rfl ⟨fun c => ?_, fun c => ?_⟩
    · have h := h.1 c
      refine wp_s hT 1 (i' := 7) (L' := [some (.ref 74), some (.int x1), some (.int x2)]) (st' := [.int (nI 4294967294)]) rfl ?_
      exact wp_ri hT rfl rfl ⟨_, rfl, h⟩
    · have h := h.2 c
      refine wp_s hT 8 (i' := 16) (L' := [some (.ref 74), some (.int x1), some (.int x2)]) (st' := [.int (((nI 225) + ((nI 15) * x1)) + x2), .ref 74]) rfl ?_
      refine wp_callv hT rfl rfl h (fun iv5 h => ?_)
      refine wp_s hT 2 (i' := 19) (L' := [some (.ref 74), some (.int x1), some (.int x2)]) (st' := [.ref 92]) rfl ?_
      refine wp_calli hT rfl rfl h (fun r7 iv6 h => ?_)
      exact wp_ri hT rfl rfl ⟨_, rfl, h⟩

theorem mk_X11_back {X : Nat × (Nat → Int32)}  {iv : IV} {P : Int32 → IV → Prop}
    (h : ((iv 74 23 = 0 → P (nI 4294967293) iv) ∧ (¬ (iv 74 23 = 0) → ∀ iv1 : IV, iv1 = mm_up2 iv 74 23 ((iv 74 23) - (nI 1)) → vp_in (iv1 74 23) 60 ∧ wc X 179 [.ref 74, .int (iv1 93 (iv1 74 23).toNatClampNeg)] iv1 (Rv (fun iv2 => P (iv2 74 23) iv2))))) :
    wc X 183 [.ref 74] iv (Ri P) := by
  have hT := tb_183
  show wp X (0, 0) 183 0 [some (.ref 74)] [] iv (Ri P)
  refine wp_s hT 2 (i' := 2) (L' := [some (.ref 74)]) (st' := [.int (iv 74 23)]) rfl ?_
  refine wp_if_ne hT rfl ⟨fun c => ?_, fun c => ?_⟩
  · have h := h.1 c
    refine wp_s hT 1 (i' := 4) (L' := [some (.ref 74)]) (st' := [.int (nI 4294967293)]) rfl ?_
    exact wp_ri hT rfl rfl ⟨_, rfl, h⟩
  · have h := h.2 c
    refine wp_s hT 5 (i' := 10) (L' := [some (.ref 74)]) (st' := [.int ((iv 74 23) - (nI 1)), .ref 74]) rfl ?_
    refine wp_puti hT rfl rfl ⟨by decide, by decide⟩ ?_
    have h := h _ rfl
    refine wp_s hT 5 (i' := 16) (L' := [some (.ref 74)]) (st' := [.int ((mm_up2 iv 74 23 ((iv 74 23) - (nI 1))) 74 23), .ref 93, .ref 74]) rfl ?_
    refine wp_iald hT rfl rfl ⟨h.1, ?_⟩
    have h := h.2
    refine wp_callv hT rfl rfl h (fun iv2 h => ?_)
    refine wp_s hT 2 (i' := 20) (L' := [some (.ref 74)]) (st' := [.int (iv2 74 23)]) rfl ?_
    exact wp_ri hT rfl rfl ⟨_, rfl, h⟩

theorem mk_X11_heal_21 {X : Nat × (Nat → Int32)} {x2 : Int32} {s0 : Int32} {s1 : Int32} {iv : IV} {P : Int32 → IV → Prop}
    (h : vp_in x2 225 ∧ (∀ iv1 : IV, iv1 = mm_up2 iv 91 x2.toNatClampNeg (nI 0) → vp_in x2 225 ∧ (∀ iv2 : IV, iv2 = mm_up2 iv1 92 x2.toNatClampNeg (nI 0) → wp X (0, 0) 184 4 [some (.ref 74), some (.int (s1 + s0)), some (.int (x2 + nI 1))] [] iv2 (Ri P)))) :
    wp X (0, 0) 184 21 [some (.ref 74), none, some (.int x2)] [.int s0, .int s1] iv (Ri P) := by
  have hT := tb_184
  refine wp_s hT 6 (i' := 27) (L' := [some (.ref 74), some (.int (s1 + s0)), some (.int x2)]) (st' := [.int (nI 0), .int x2, .ref 91]) rfl ?_
  refine wp_iast hT rfl rfl ⟨h.1, ?_⟩
  have h := h.2
  have h := h _ rfl
  refine wp_s hT 4 (i' := 32) (L' := [some (.ref 74), some (.int (s1 + s0)), some (.int x2)]) (st' := [.int (nI 0), .int x2, .ref 92]) rfl ?_
  refine wp_iast hT rfl rfl ⟨h.1, ?_⟩
  have h := h.2
  have h := h _ rfl
  refine wp_s hT 2 (i' := 4) (L' := [some (.ref 74), some (.int (s1 + s0)), some (.int (x2 + nI 1))]) (st' := []) rfl ?_
  exact h

theorem mk_X11_heal_4 {X : Nat × (Nat → Int32)} {x1 : Int32} {x2 : Int32} {iv : IV} {P : Int32 → IV → Prop}
    (h : (((nI 225) ≤ x2 → ∀ iv1 : IV, iv1 = mm_up2 iv 74 23 (nI 0) → P x1 iv1) ∧ (¬ ((nI 225) ≤ x2) → vp_in x2 225 ∧ vp_in x2 225 ∧ (((iv 91 x2.toNatClampNeg) + (iv 92 x2.toNatClampNeg) ≤ 0 → wp X (0, 0) 184 21 [some (.ref 74), none, some (.int x2)] [.int (nI 0), .int x1] iv (Ri P)) ∧ (¬ ((iv 91 x2.toNatClampNeg) + (iv 92 x2.toNatClampNeg) ≤ 0) → wp X (0, 0) 184 21 [some (.ref 74), none, some (.int x2)] [.int (nI 1), .int x1] iv (Ri P)))))) :
    wp X (0, 0) 184 4 [some (.ref 74), some (.int x1), some (.int x2)] [] iv (Ri P) := by
  have hT := tb_184
  refine wp_s hT 2 (i' := 6) (L' := [some (.ref 74), some (.int x1), some (.int x2)]) (st' := [.int (nI 225), .int x2]) rfl ?_
  refine wp_ic_ge hT rfl ⟨fun c => ?_, fun c => ?_⟩
  · have h := h.1 c
    refine wp_s hT 2 (i' := 37) (L' := [some (.ref 74), some (.int x1), some (.int x2)]) (st' := [.int (nI 0), .ref 74]) rfl ?_
    refine wp_puti hT rfl rfl ⟨by decide, by decide⟩ ?_
    have h := h _ rfl
    refine wp_s hT 1 (i' := 39) (L' := [some (.ref 74), some (.int x1), some (.int x2)]) (st' := [.int x1]) rfl ?_
    exact wp_ri hT rfl rfl ⟨_, rfl, h⟩
  · have h := h.2 c
    refine wp_s hT 4 (i' := 11) (L' := [some (.ref 74), some (.int x1), some (.int x2)]) (st' := [.int x2, .ref 91, .int x1]) rfl ?_
    refine wp_iald hT rfl rfl ⟨h.1, ?_⟩
    have h := h.2
    refine wp_s hT 3 (i' := 15) (L' := [some (.ref 74), some (.int x1), some (.int x2)]) (st' := [.int x2, .ref 92, .int (iv 91 x2.toNatClampNeg), .int x1]) rfl ?_
    refine wp_iald hT rfl rfl ⟨h.1, ?_⟩
    have h := h.2
    refine wp_s hT 1 (i' := 17) (L' := [some (.ref 74), some (.int x1), some (.int x2)]) (st' := [.int ((iv 91 x2.toNatClampNeg) + (iv 92 x2.toNatClampNeg)), .int x1]) rfl ?_
    refine wp_if_le hT rfl ⟨fun c => ?_, fun c => ?_⟩
    · have h := h.1 c
      refine wp_s hT 1 (i' := 21) (L' := [some (.ref 74), some (.int x1), some (.int x2)]) (st' := [.int (nI 0), .int x1]) rfl ?_
      refine wp_le (L := [some (.ref 74), none, some (.int x2)]) ⟨Or.inl rfl, Or.inr ⟨rfl, rfl⟩, Or.inl rfl, trivial⟩ ?_
      exact h
    · have h := h.2 c
      refine wp_s hT 2 (i' := 21) (L' := [some (.ref 74), some (.int x1), some (.int x2)]) (st' := [.int (nI 1), .int x1]) rfl ?_
      refine wp_le (L := [some (.ref 74), none, some (.int x2)]) ⟨Or.inl rfl, Or.inr ⟨rfl, rfl⟩, Or.inl rfl, trivial⟩ ?_
      exact h

theorem mk_X11_heal {X : Nat × (Nat → Int32)}  {iv : IV} {P : Int32 → IV → Prop}
    (h : wp X (0, 0) 184 4 [some (.ref 74), some (.int (nI 0)), some (.int (nI 0))] [] iv (Ri P)) :
    wc X 184 [.ref 74] iv (Ri P) := by
  have hT := tb_184
  show wp X (0, 0) 184 0 [some (.ref 74), none, none] [] iv (Ri P)
  refine wp_s hT 4 (i' := 4) (L' := [some (.ref 74), some (.int (nI 0)), some (.int (nI 0))]) (st' := []) rfl ?_
  exact h

theorem mk_X11_seenAt {X : Nat × (Nat → Int32)} {x1 : Int32} {iv : IV} {P : Int32 → IV → Prop}
    (h : vp_in x1 225 ∧ (((iv 92 x1.toNatClampNeg) = (nI 1) → P (nI 2) iv) ∧ (¬ ((iv 92 x1.toNatClampNeg) = (nI 1)) → wc X 162 [.ref 74, .int (iv 74 13), .int x1] iv (Ri (fun r2 iv1 => vp_in x1 225 ∧ P (r2 ^^^ (iv1 91 x1.toNatClampNeg)) iv1))))) :
    wc X 185 [.ref 74, .int x1] iv (Ri P) := by
  have hT := tb_185
  show wp X (0, 0) 185 0 [some (.ref 74), some (.int x1)] [] iv (Ri P)
  refine wp_s hT 3 (i' := 3) (L' := [some (.ref 74), some (.int x1)]) (st' := [.int x1, .ref 92]) rfl ?_
  refine wp_iald hT rfl rfl ⟨h.1, ?_⟩
  have h := h.2
  refine wp_s hT 1 (i' := 5) (L' := [some (.ref 74), some (.int x1)]) (st' := [.int (nI 1), .int (iv 92 x1.toNatClampNeg)]) rfl ?_
  refine wp_ic_ne hT rfl ⟨fun c => ?_, fun c => ?_⟩
  · have h := h.1 c
    refine wp_s hT 2 (i' := 18) (L' := [some (.ref 74), some (.int x1)]) (st' := [.int (nI 2)]) rfl ?_
    exact wp_ri hT rfl rfl ⟨_, rfl, h⟩
  · have h := h.2 c
    refine wp_s hT 4 (i' := 12) (L' := [some (.ref 74), some (.int x1)]) (st' := [.int x1, .int (iv 74 13), .ref 74]) rfl ?_
    refine wp_calli hT rfl rfl h (fun r2 iv1 h => ?_)
    refine wp_s hT 3 (i' := 16) (L' := [some (.ref 74), some (.int x1)]) (st' := [.int x1, .ref 91, .int r2]) rfl ?_
    refine wp_iald hT rfl rfl ⟨h.1, ?_⟩
    have h := h.2
    refine wp_s hT 1 (i' := 18) (L' := [some (.ref 74), some (.int x1)]) (st' := [.int (r2 ^^^ (iv1 91 x1.toNatClampNeg))]) rfl ?_
    exact wp_ri hT rfl rfl ⟨_, rfl, h⟩

theorem mk_X11_seen {X : Nat × (Nat → Int32)} {x1 : Int32} {x2 : Int32} {iv : IV} {P : Int32 → IV → Prop}
    (h : wc X 166 [.ref 74] iv (Rv (fun iv1 => wc X 172 [.int x1] iv1 (Ri (fun r3 iv2 => ((r3 = 0 → P (nI 4294967294) iv2) ∧ (¬ (r3 = 0) → wc X 172 [.int x2] iv2 (Ri (fun r5 iv4 => ((r5 = 0 → P (nI 4294967294) iv4) ∧ (¬ (r5 = 0) → ((iv4 74 11 = 0 → P (nI 4294967293) iv4) ∧ (¬ (iv4 74 11 = 0) → wc X 185 [.ref 74, .int (((nI 15) * x1) + x2)] iv4 (Ri (fun r7 iv6 => P r7 iv6))))))))))))))) :
    wc X 186 [.ref 74, .int x1, .int x2] iv (Ri P) := by
  have hT := tb_186
  show wp X (0, 0) 186 0 [some (.ref 74), some (.int x1), some (.int x2)] [] iv (Ri P)
  refine wp_s hT 1 (i' := 1) (L' := [some (.ref 74), some (.int x1), some (.int x2)]) (st' := [.ref 74]) rfl ?_
  refine wp_callv hT rfl rfl h (fun iv1 h => ?_)
  refine wp_s hT 1 (i' := 3) (L' := [some (.ref 74), some (.int x1), some (.int x2)]) (st' := [.int x1]) rfl ?_
  refine wp_calli hT rfl rfl h (fun r3 iv2 h => ?_)
  refine wp_if_eq hT rfl ⟨fun c => ?_, fun c => ?_⟩
  · have h := h.1 c
    refine wp_s hT 1 (i' := 9) (L' := [some (.ref 74), some (.int x1), some (.int x2)]) (st' := [.int (nI 4294967294)]) rfl ?_
    exact wp_ri hT rfl rfl ⟨_, rfl, h⟩
  · have h := h.2 c
    refine wp_s hT 1 (i' := 6) (L' := [some (.ref 74), some (.int x1), some (.int x2)]) (st' := [.int x2]) rfl ?_
    refine wp_calli hT rfl rfl h (fun r5 iv4 h => ?_)
    refine wp_if_ne hT rfl ⟨fun c => ?_, fun c => ?_⟩
    · have h := h.1 c
      refine wp_s hT 1 (i' := 9) (L' := [some (.ref 74), some (.int x1), some (.int x2)]) (st' := [.int (nI 4294967294)]) rfl ?_
      exact wp_ri hT rfl rfl ⟨_, rfl, h⟩
    · have h := h.2 c
      refine wp_s hT 2 (i' := 12) (L' := [some (.ref 74), some (.int x1), some (.int x2)]) (st' := [.int (iv4 74 11)]) rfl ?_
      refine wp_if_eq hT rfl ⟨fun c => ?_, fun c => ?_⟩
      · have h := h.1 c
        refine wp_s hT 1 (i' := 22) (L' := [some (.ref 74), some (.int x1), some (.int x2)]) (st' := [.int (nI 4294967293)]) rfl ?_
        exact wp_ri hT rfl rfl ⟨_, rfl, h⟩
      · have h := h.2 c
        refine wp_s hT 6 (i' := 19) (L' := [some (.ref 74), some (.int x1), some (.int x2)]) (st' := [.int (((nI 15) * x1) + x2), .ref 74]) rfl ?_
        refine wp_calli hT rfl rfl h (fun r7 iv6 h => ?_)
        refine wp_s hT 1 (i' := 22) (L' := [some (.ref 74), some (.int x1), some (.int x2)]) (st' := [.int r7]) rfl ?_
        exact wp_ri hT rfl rfl ⟨_, rfl, h⟩

theorem mk_X11_formatNow_27 {X : Nat × (Nat → Int32)} {x1 : Int32} {x2 : Int32} {x3 : Int32} {x4 : Int32} {s0 : Int32} {iv : IV} {P : Int32 → IV → Prop}
    (h : ((s0 = (nI 1) → wp X (0, 0) 187 10 [some (.ref 74), some (.int x1), some (.int x2), some (.int (x3 + (nI 1))), some (.int (x4 + nI 1)), none] [] iv (Ri P)) ∧ (¬ (s0 = (nI 1)) → ((s0 = 0 → ∀ v1 : Int32, v1 = x3 + (nI 4294967295) → wp X (0, 0) 187 10 [some (.ref 74), some (.int x1), some (.int x2), some (.int v1), some (.int (x4 + nI 1)), none] [] iv (Ri P)) ∧ (¬ (s0 = 0) → wp X (0, 0) 187 10 [some (.ref 74), some (.int x1), some (.int x2), some (.int (x3 + (nI 0))), some (.int (x4 + nI 1)), none] [] iv (Ri P)))))) :
    wp X (0, 0) 187 27 [some (.ref 74), some (.int x1), some (.int x2), some (.int x3), some (.int x4), none] [.int s0] iv (Ri P) := by
  have hT := tb_187
  refine wp_s hT 4 (i' := 31) (L' := [some (.ref 74), some (.int x1), some (.int x2), some (.int x3), some (.int x4), some (.int s0)]) (st' := [.int (nI 1), .int s0, .int x3]) rfl ?_
  refine wp_ic_ne hT rfl ⟨fun c => ?_, fun c => ?_⟩
  · have h := h.1 c
    refine wp_s hT 6 (i' := 10) (L' := [some (.ref 74), some (.int x1), some (.int x2), some (.int (x3 + (nI 1))), some (.int (x4 + nI 1)), some (.int s0)]) (st' := []) rfl ?_
    refine wp_le (L := [some (.ref 74), some (.int x1), some (.int x2), some (.int (x3 + (nI 1))), some (.int (x4 + nI 1)), none]) ⟨Or.inl rfl, Or.inl rfl, Or.inl rfl, Or.inl rfl, Or.inl rfl, Or.inr ⟨rfl, rfl⟩, trivial⟩ ?_
    exact h
  · have h := h.2 c
    refine wp_s hT 1 (i' := 35) (L' := [some (.ref 74), some (.int x1), some (.int x2), some (.int x3), some (.int x4), some (.int s0)]) (st' := [.int s0, .int x3]) rfl ?_
    refine wp_if_ne hT rfl ⟨fun c => ?_, fun c => ?_⟩
    · have h := h.1 c
      refine wp_s hT 4 (i' := 41) (L' := [some (.ref 74), some (.int x1), some (.int x2), some (.int (x3 + (nI 4294967295))), some (.int x4), some (.int s0)]) (st' := []) rfl ?_
      have h := h _ rfl
      refine wp_s hT 2 (i' := 10) (L' := [some (.ref 74), some (.int x1), some (.int x2), some (.int (x3 + (nI 4294967295))), some (.int (x4 + nI 1)), some (.int s0)]) (st' := []) rfl ?_
      refine wp_le (L := [some (.ref 74), some (.int x1), some (.int x2), some (.int (x3 + (nI 4294967295))), some (.int (x4 + nI 1)), none]) ⟨Or.inl rfl, Or.inl rfl, Or.inl rfl, Or.inl rfl, Or.inl rfl, Or.inr ⟨rfl, rfl⟩, trivial⟩ ?_
      exact h
    · have h := h.2 c
      refine wp_s hT 5 (i' := 10) (L' := [some (.ref 74), some (.int x1), some (.int x2), some (.int (x3 + (nI 0))), some (.int (x4 + nI 1)), some (.int s0)]) (st' := []) rfl ?_
      refine wp_le (L := [some (.ref 74), some (.int x1), some (.int x2), some (.int (x3 + (nI 0))), some (.int (x4 + nI 1)), none]) ⟨Or.inl rfl, Or.inl rfl, Or.inl rfl, Or.inl rfl, Or.inl rfl, Or.inr ⟨rfl, rfl⟩, trivial⟩ ?_
      exact h

theorem mk_X11_formatNow_10 {X : Nat × (Nat → Int32)} {x1 : Int32} {x2 : Int32} {x3 : Int32} {x4 : Int32} {iv : IV} {P : Int32 → IV → Prop}
    (h : (((nI 180) ≤ x4 → ((x3 = 0 → P (nI 4294967295) iv) ∧ (¬ (x3 = 0) → ((x3 ≤ 0 → ∀ v1 : Int32, v1 = ((nI 2) * x1) + (nI 0) → ∀ v2 : Int32, v2 = x2 + nI 4294967295 → wp X (0, 0) 187 4 [some (.ref 74), some (.int v1), some (.int v2), none, none, none] [] iv (Ri P)) ∧ (¬ (x3 ≤ 0) → ∀ v3 : Int32, v3 = ((nI 2) * x1) + (nI 1) → ∀ v4 : Int32, v4 = x2 + nI 4294967295 → wp X (0, 0) 187 4 [some (.ref 74), some (.int v3), some (.int v4), none, none, none] [] iv (Ri P)))))) ∧ (¬ ((nI 180) ≤ x4) → wc X 156 [.int (x4 / (nI 15)), .int (x4 - x4 / (nI 15) * (nI 15))] iv (Ri (fun r6 iv5 => ((r6 = x2 → wc X 185 [.ref 74, .int x4] iv5 (Ri (fun r8 iv7 => wp X (0, 0) 187 27 [some (.ref 74), some (.int x1), some (.int x2), some (.int x3), some (.int x4), none] [.int r8] iv7 (Ri P)))) ∧ (¬ (r6 = x2) → wp X (0, 0) 187 27 [some (.ref 74), some (.int x1), some (.int x2), some (.int x3), some (.int x4), none] [.int (nI 2)] iv5 (Ri P)))))))) :
    wp X (0, 0) 187 10 [some (.ref 74), some (.int x1), some (.int x2), some (.int x3), some (.int x4), none] [] iv (Ri P) := by
  have hT := tb_187
  refine wp_s hT 2 (i' := 12) (L' := [some (.ref 74), some (.int x1), some (.int x2), some (.int x3), some (.int x4), none]) (st' := [.int (nI 180), .int x4]) rfl ?_
  refine wp_ic_ge hT rfl ⟨fun c => ?_, fun c => ?_⟩
  · have h := h.1 c
    refine wp_s hT 1 (i' := 44) (L' := [some (.ref 74), some (.int x1), some (.int x2), some (.int x3), some (.int x4), none]) (st' := [.int x3]) rfl ?_
    refine wp_if_ne hT rfl ⟨fun c => ?_, fun c => ?_⟩
    · have h := h.1 c
      refine wp_s hT 1 (i' := 46) (L' := [some (.ref 74), some (.int x1), some (.int x2), some (.int x3), some (.int x4), none]) (st' := [.int (nI 4294967295)]) rfl ?_
      exact wp_ri hT rfl rfl ⟨_, rfl, h⟩
    · have h := h.2 c
      refine wp_s hT 4 (i' := 51) (L' := [some (.ref 74), some (.int x1), some (.int x2), some (.int x3), some (.int x4), none]) (st' := [.int x3, .int ((nI 2) * x1)]) rfl ?_
      refine wp_if_le hT rfl ⟨fun c => ?_, fun c => ?_⟩
      · have h := h.1 c
        refine wp_s hT 3 (i' := 57) (L' := [some (.ref 74), some (.int (((nI 2) * x1) + (nI 0))), some (.int x2), some (.int x3), some (.int x4), none]) (st' := []) rfl ?_
        have h := h _ rfl
        refine wp_s hT 1 (i' := 58) (L' := [some (.ref 74), some (.int (((nI 2) * x1) + (nI 0))), some (.int (x2 + nI 4294967295)), some (.int x3), some (.int x4), none]) (st' := []) rfl ?_
        have h := h _ rfl
        refine wp_s hT 1 (i' := 4) (L' := [some (.ref 74), some (.int (((nI 2) * x1) + (nI 0))), some (.int (x2 + nI 4294967295)), some (.int x3), some (.int x4), none]) (st' := []) rfl ?_
        refine wp_le (L := [some (.ref 74), some (.int (((nI 2) * x1) + (nI 0))), some (.int (x2 + nI 4294967295)), none, none, none]) ⟨Or.inl rfl, Or.inl rfl, Or.inl rfl, Or.inr ⟨rfl, rfl⟩, Or.inr ⟨rfl, rfl⟩, Or.inl rfl, trivial⟩ ?_
        exact h
      · have h := h.2 c
        refine wp_s hT 4 (i' := 57) (L' := [some (.ref 74), some (.int (((nI 2) * x1) + (nI 1))), some (.int x2), some (.int x3), some (.int x4), none]) (st' := []) rfl ?_
        have h := h _ rfl
        refine wp_s hT 1 (i' := 58) (L' := [some (.ref 74), some (.int (((nI 2) * x1) + (nI 1))), some (.int (x2 + nI 4294967295)), some (.int x3), some (.int x4), none]) (st' := []) rfl ?_
        have h := h _ rfl
        refine wp_s hT 1 (i' := 4) (L' := [some (.ref 74), some (.int (((nI 2) * x1) + (nI 1))), some (.int (x2 + nI 4294967295)), some (.int x3), some (.int x4), none]) (st' := []) rfl ?_
        refine wp_le (L := [some (.ref 74), some (.int (((nI 2) * x1) + (nI 1))), some (.int (x2 + nI 4294967295)), none, none, none]) ⟨Or.inl rfl, Or.inl rfl, Or.inl rfl, Or.inr ⟨rfl, rfl⟩, Or.inr ⟨rfl, rfl⟩, Or.inl rfl, trivial⟩ ?_
        exact h
  · have h := h.2 c
    refine wp_s hT 6 (i' := 19) (L' := [some (.ref 74), some (.int x1), some (.int x2), some (.int x3), some (.int x4), none]) (st' := [.int (x4 - x4 / (nI 15) * (nI 15)), .int (x4 / (nI 15))]) rfl ?_
    refine wp_calli hT rfl rfl h (fun r6 iv5 h => ?_)
    refine wp_s hT 1 (i' := 21) (L' := [some (.ref 74), some (.int x1), some (.int x2), some (.int x3), some (.int x4), none]) (st' := [.int x2, .int r6]) rfl ?_
    refine wp_ic_ne hT rfl ⟨fun c => ?_, fun c => ?_⟩
    · have h := h.1 c
      refine wp_s hT 2 (i' := 24) (L' := [some (.ref 74), some (.int x1), some (.int x2), some (.int x3), some (.int x4), none]) (st' := [.int x4, .ref 74]) rfl ?_
      refine wp_calli hT rfl rfl h (fun r8 iv7 h => ?_)
      refine wp_s hT 1 (i' := 27) (L' := [some (.ref 74), some (.int x1), some (.int x2), some (.int x3), some (.int x4), none]) (st' := [.int r8]) rfl ?_
      exact h
    · have h := h.2 c
      refine wp_s hT 1 (i' := 27) (L' := [some (.ref 74), some (.int x1), some (.int x2), some (.int x3), some (.int x4), none]) (st' := [.int (nI 2)]) rfl ?_
      exact h

theorem mk_X11_formatNow_4 {X : Nat × (Nat → Int32)} {x1 : Int32} {x2 : Int32} {iv : IV} {P : Int32 → IV → Prop}
    (h : ((x2 < 0 → ((x1 ≤ (nI 11) → P x1 iv) ∧ (¬ (x1 ≤ (nI 11)) → P (nI 4294967295) iv))) ∧ (¬ (x2 < 0) → wp X (0, 0) 187 10 [some (.ref 74), some (.int x1), some (.int x2), some (.int (nI 0)), some (.int (nI 45)), none] [] iv (Ri P)))) :
    wp X (0, 0) 187 4 [some (.ref 74), some (.int x1), some (.int x2), none, none, none] [] iv (Ri P) := by
  have hT := tb_187
  refine wp_s hT 1 (i' := 5) (L' := [some (.ref 74), some (.int x1), some (.int x2), none, none, none]) (st' := [.int x2]) rfl ?_
  refine wp_if_lt hT rfl ⟨fun c => ?_, fun c => ?_⟩
  · have h := h.1 c
    refine wp_s hT 2 (i' := 61) (L' := [some (.ref 74), some (.int x1), some (.int x2), none, none, none]) (st' := [.int (nI 11), .int x1]) rfl ?_
    refine wp_ic_le hT rfl ⟨fun c => ?_, fun c => ?_⟩
    · have h := h.1 c
      refine wp_s hT 1 (i' := 65) (L' := [some (.ref 74), some (.int x1), some (.int x2), none, none, none]) (st' := [.int x1]) rfl ?_
      exact wp_ri hT rfl rfl ⟨_, rfl, h⟩
    · have h := h.2 c
      refine wp_s hT 2 (i' := 65) (L' := [some (.ref 74), some (.int x1), some (.int x2), none, none, none]) (st' := [.int (nI 4294967295)]) rfl ?_
      exact wp_ri hT rfl rfl ⟨_, rfl, h⟩
  · have h := h.2 c
    refine wp_s hT 4 (i' := 10) (L' := [some (.ref 74), some (.int x1), some (.int x2), some (.int (nI 0)), some (.int (nI 45)), none]) (st' := []) rfl ?_
    exact h

theorem mk_X11_formatNow {X : Nat × (Nat → Int32)}  {iv : IV} {P : Int32 → IV → Prop}
    (h : wp X (0, 0) 187 4 [some (.ref 74), some (.int (nI 0)), some (.int (nI 3)), none, none, none] [] iv (Ri P)) :
    wc X 187 [.ref 74] iv (Ri P) := by
  have hT := tb_187
  show wp X (0, 0) 187 0 [some (.ref 74), none, none, none, none, none] [] iv (Ri P)
  refine wp_s hT 4 (i' := 4) (L' := [some (.ref 74), some (.int (nI 0)), some (.int (nI 3)), none, none, none]) (st' := []) rfl ?_
  exact h

theorem mk_X11_symbolSeen_32 {X : Nat × (Nat → Int32)} {x1 : Int32} {x2 : Int32} {x4 : Int32} {x5 : Int32} {x6 : Int32} {s0 : Int32} {iv : IV} {P : Int32 → IV → Prop}
    (h : wc X 161 [.int (iv 74 26), .int (x5 / (nI 15)), .int (x5 - x5 / (nI 15) * (nI 15))] iv (Ri (fun r2 iv1 => ∀ v3 : Int32, v3 = ((nI 2) * x2) + ((x6 &&& (nI 1)) ^^^ r2) → wp X (0, 0) 188 8 [some (.ref 74), some (.int x1), some (.int v3), some (.int s0), some (.int (x4 + nI 1)), none, none] [] iv1 (Ri P)))) :
    wp X (0, 0) 188 32 [some (.ref 74), some (.int x1), some (.int x2), none, some (.int x4), some (.int x5), some (.int x6)] [.int s0] iv (Ri P) := by
  have hT := tb_188
  refine wp_s hT 15 (i' := 47) (L' := [some (.ref 74), some (.int x1), some (.int x2), some (.int s0), some (.int x4), some (.int x5), some (.int x6)]) (st' := [.int (x5 - x5 / (nI 15) * (nI 15)), .int (x5 / (nI 15)), .int (iv 74 26), .int (x6 &&& (nI 1)), .int ((nI 2) * x2)]) rfl ?_
  refine wp_calli hT rfl rfl h (fun r2 iv1 h => ?_)
  refine wp_s hT 3 (i' := 51) (L' := [some (.ref 74), some (.int x1), some (.int (((nI 2) * x2) + ((x6 &&& (nI 1)) ^^^ r2))), some (.int s0), some (.int x4), some (.int x5), some (.int x6)]) (st' := []) rfl ?_
  have h := h _ rfl
  refine wp_s hT 2 (i' := 8) (L' := [some (.ref 74), some (.int x1), some (.int (((nI 2) * x2) + ((x6 &&& (nI 1)) ^^^ r2))), some (.int s0), some (.int (x4 + nI 1)), some (.int x5), some (.int x6)]) (st' := []) rfl ?_
  refine wp_le (L := [some (.ref 74), some (.int x1), some (.int (((nI 2) * x2) + ((x6 &&& (nI 1)) ^^^ r2))), some (.int s0), some (.int (x4 + nI 1)), none, none]) ⟨Or.inl rfl, Or.inl rfl, Or.inl rfl, Or.inl rfl, Or.inl rfl, Or.inr ⟨rfl, rfl⟩, Or.inr ⟨rfl, rfl⟩, trivial⟩ ?_
  exact h

theorem mk_X11_symbolSeen_8 {X : Nat × (Nat → Int32)} {x1 : Int32} {x2 : Int32} {x3 : Int32} {x4 : Int32} {iv : IV} {P : Int32 → IV → Prop}
    (h : (((((nI 4) * x1) + (nI 4)) ≤ x4 → ((x3 = 0 → P (nI 4294967295) iv) ∧ (¬ (x3 = 0) → P x2 iv))) ∧ (¬ ((((nI 4) * x1) + (nI 4)) ≤ x4) → vp_in x4 171 ∧ ∀ v1 : Int32, v1 = iv 88 x4.toNatClampNeg → wc X 185 [.ref 74, .int v1] iv (Ri (fun r3 iv2 => ((x3 = 0 → wp X (0, 0) 188 32 [some (.ref 74), some (.int x1), some (.int x2), none, some (.int x4), some (.int v1), some (.int r3)] [.int (nI 0)] iv2 (Ri P)) ∧ (¬ (x3 = 0) → (((nI 2) ≤ r3 → wp X (0, 0) 188 32 [some (.ref 74), some (.int x1), some (.int x2), none, some (.int x4), some (.int v1), some (.int r3)] [.int (nI 0)] iv2 (Ri P)) ∧ (¬ ((nI 2) ≤ r3) → wp X (0, 0) 188 32 [some (.ref 74), some (.int x1), some (.int x2), none, some (.int x4), some (.int v1), some (.int r3)] [.int (nI 1)] iv2 (Ri P)))))))))) :
    wp X (0, 0) 188 8 [some (.ref 74), some (.int x1), some (.int x2), some (.int x3), some (.int x4), none, none] [] iv (Ri P) := by
  have hT := tb_188
  refine wp_s hT 6 (i' := 14) (L' := [some (.ref 74), some (.int x1), some (.int x2), some (.int x3), some (.int x4), none, none]) (st' := [.int (((nI 4) * x1) + (nI 4)), .int x4]) rfl ?_
  refine wp_ic_ge hT rfl ⟨fun c => ?_, fun c => ?_⟩
  · have h := h.1 c
    refine wp_s hT 1 (i' := 54) (L' := [some (.ref 74), some (.int x1), some (.int x2), some (.int x3), some (.int x4), none, none]) (st' := [.int x3]) rfl ?_
    refine wp_if_eq hT rfl ⟨fun c => ?_, fun c => ?_⟩
    · have h := h.1 c
      refine wp_s hT 1 (i' := 58) (L' := [some (.ref 74), some (.int x1), some (.int x2), some (.int x3), some (.int x4), none, none]) (st' := [.int (nI 4294967295)]) rfl ?_
      exact wp_ri hT rfl rfl ⟨_, rfl, h⟩
    · have h := h.2 c
      refine wp_s hT 2 (i' := 58) (L' := [some (.ref 74), some (.int x1), some (.int x2), some (.int x3), some (.int x4), none, none]) (st' := [.int x2]) rfl ?_
      exact wp_ri hT rfl rfl ⟨_, rfl, h⟩
  · have h := h.2 c
    refine wp_s hT 3 (i' := 18) (L' := [some (.ref 74), some (.int x1), some (.int x2), some (.int x3), some (.int x4), none, none]) (st' := [.int x4, .ref 88]) rfl ?_
    refine wp_iald hT rfl rfl ⟨h.1, ?_⟩
    have h := h.2
    refine wp_s hT 1 (i' := 20) (L' := [some (.ref 74), some (.int x1), some (.int x2), some (.int x3), some (.int x4), some (.int (iv 88 x4.toNatClampNeg)), none]) (st' := []) rfl ?_
    have h := h _ rfl
    refine wp_s hT 2 (i' := 22) (L' := [some (.ref 74), some (.int x1), some (.int x2), some (.int x3), some (.int x4), some (.int (iv 88 x4.toNatClampNeg)), none]) (st' := [.int (iv 88 x4.toNatClampNeg), .ref 74]) rfl ?_
    refine wp_calli hT rfl rfl h (fun r3 iv2 h => ?_)
    refine wp_s hT 2 (i' := 25) (L' := [some (.ref 74), some (.int x1), some (.int x2), some (.int x3), some (.int x4), some (.int (iv 88 x4.toNatClampNeg)), some (.int r3)]) (st' := [.int x3]) rfl ?_
    refine wp_if_eq hT rfl ⟨fun c => ?_, fun c => ?_⟩
    · have h := h.1 c
      refine wp_s hT 1 (i' := 32) (L' := [some (.ref 74), some (.int x1), some (.int x2), some (.int x3), some (.int x4), some (.int (iv 88 x4.toNatClampNeg)), some (.int r3)]) (st' := [.int (nI 0)]) rfl ?_
      refine wp_le (L := [some (.ref 74), some (.int x1), some (.int x2), none, some (.int x4), some (.int (iv 88 x4.toNatClampNeg)), some (.int r3)]) ⟨Or.inl rfl, Or.inl rfl, Or.inl rfl, Or.inr ⟨rfl, rfl⟩, Or.inl rfl, Or.inl rfl, Or.inl rfl, trivial⟩ ?_
      exact h
    · have h := h.2 c
      refine wp_s hT 2 (i' := 28) (L' := [some (.ref 74), some (.int x1), some (.int x2), some (.int x3), some (.int x4), some (.int (iv 88 x4.toNatClampNeg)), some (.int r3)]) (st' := [.int (nI 2), .int r3]) rfl ?_
      refine wp_ic_ge hT rfl ⟨fun c => ?_, fun c => ?_⟩
      · have h := h.1 c
        refine wp_s hT 1 (i' := 32) (L' := [some (.ref 74), some (.int x1), some (.int x2), some (.int x3), some (.int x4), some (.int (iv 88 x4.toNatClampNeg)), some (.int r3)]) (st' := [.int (nI 0)]) rfl ?_
        refine wp_le (L := [some (.ref 74), some (.int x1), some (.int x2), none, some (.int x4), some (.int (iv 88 x4.toNatClampNeg)), some (.int r3)]) ⟨Or.inl rfl, Or.inl rfl, Or.inl rfl, Or.inr ⟨rfl, rfl⟩, Or.inl rfl, Or.inl rfl, Or.inl rfl, trivial⟩ ?_
        exact h
      · have h := h.2 c
        refine wp_s hT 2 (i' := 32) (L' := [some (.ref 74), some (.int x1), some (.int x2), some (.int x3), some (.int x4), some (.int (iv 88 x4.toNatClampNeg)), some (.int r3)]) (st' := [.int (nI 1)]) rfl ?_
        refine wp_le (L := [some (.ref 74), some (.int x1), some (.int x2), none, some (.int x4), some (.int (iv 88 x4.toNatClampNeg)), some (.int r3)]) ⟨Or.inl rfl, Or.inl rfl, Or.inl rfl, Or.inr ⟨rfl, rfl⟩, Or.inl rfl, Or.inl rfl, Or.inl rfl, trivial⟩ ?_
        exact h

theorem mk_X11_symbolSeen {X : Nat × (Nat → Int32)} {x1 : Int32} {iv : IV} {P : Int32 → IV → Prop}
    (h : wp X (0, 0) 188 8 [some (.ref 74), some (.int x1), some (.int (nI 0)), some (.int (nI 1)), some (.int ((nI 4) * x1)), none, none] [] iv (Ri P)) :
    wc X 188 [.ref 74, .int x1] iv (Ri P) := by
  have hT := tb_188
  show wp X (0, 0) 188 0 [some (.ref 74), some (.int x1), none, none, none, none, none] [] iv (Ri P)
  refine wp_s hT 8 (i' := 8) (L' := [some (.ref 74), some (.int x1), some (.int (nI 0)), some (.int (nI 1)), some (.int ((nI 4) * x1)), none, none]) (st' := []) rfl ?_
  exact h

theorem mk_X11_equations_7 {X : Nat × (Nat → Int32)} {x1 : Int32} {x2 : Int32} {x3 : Int32} {x4 : Int32} {iv : IV} {P : IV → Prop}
    (h : ((x2 ≤ x4 → vp_in x3 6 ∧ vp_in (((nI 7) * x3) + x2) 42 ∧ (∀ iv1 : IV, iv1 = mm_up2 iv 98 (((nI 7) * x3) + x2).toNatClampNeg (iv 97 x3.toNatClampNeg) → wp X (0, 0) 189 2 [some (.ref 74), some (.int x1), some (.int x2), some (.int (x3 + nI 1)), none] [] iv1 (Rv P))) ∧ (¬ (x2 ≤ x4) → vp_in x4 14 ∧ wc X 140 [.ref 74, .int (x3 * ((nI 13) - (iv 99 x4.toNatClampNeg)))] iv (Ri (fun r3 iv2 => vp_in (((nI 7) * x3) + x4) 42 ∧ (∀ iv4 : IV, iv4 = mm_up2 iv2 98 (((nI 7) * x3) + x4).toNatClampNeg r3 → wp X (0, 0) 189 7 [some (.ref 74), some (.int x1), some (.int x2), some (.int x3), some (.int (x4 + nI 1))] [] iv4 (Rv P))))))) :
    wp X (0, 0) 189 7 [some (.ref 74), some (.int x1), some (.int x2), some (.int x3), some (.int x4)] [] iv (Rv P) := by
  have hT := tb_189
  refine wp_s hT 2 (i' := 9) (L' := [some (.ref 74), some (.int x1), some (.int x2), some (.int x3), some (.int x4)]) (st' := [.int x2, .int x4]) rfl ?_
  refine wp_ic_ge hT rfl ⟨fun c => ?_, fun c => ?_⟩
  · have h := h.1 c
    refine wp_s hT 10 (i' := 40) (L' := [some (.ref 74), some (.int x1), some (.int x2), some (.int x3), some (.int x4)]) (st' := [.int x3, .ref 97, .int (((nI 7) * x3) + x2), .ref 98]) rfl ?_
    refine wp_iald hT rfl rfl ⟨h.1, ?_⟩
    have h := h.2
    refine wp_iast hT rfl rfl ⟨h.1, ?_⟩
    have h := h.2
    have h := h _ rfl
    refine wp_s hT 2 (i' := 2) (L' := [some (.ref 74), some (.int x1), some (.int x2), some (.int (x3 + nI 1)), some (.int x4)]) (st' := []) rfl ?_
    refine wp_le (L := [some (.ref 74), some (.int x1), some (.int x2), some (.int (x3 + nI 1)), none]) ⟨Or.inl rfl, Or.inl rfl, Or.inl rfl, Or.inl rfl, Or.inr ⟨rfl, rfl⟩, trivial⟩ ?_
    exact h
  · have h := h.2 c
    refine wp_s hT 13 (i' := 23) (L' := [some (.ref 74), some (.int x1), some (.int x2), some (.int x3), some (.int x4)]) (st' := [.int x4, .ref 99, .int (nI 13), .int x3, .ref 74, .int (((nI 7) * x3) + x4), .ref 98]) rfl ?_
    refine wp_iald hT rfl rfl ⟨h.1, ?_⟩
    have h := h.2
    refine wp_s hT 2 (i' := 26) (L' := [some (.ref 74), some (.int x1), some (.int x2), some (.int x3), some (.int x4)]) (st' := [.int (x3 * ((nI 13) - (iv 99 x4.toNatClampNeg))), .ref 74, .int (((nI 7) * x3) + x4), .ref 98]) rfl ?_
    refine wp_calli hT rfl rfl h (fun r3 iv2 h => ?_)
    refine wp_iast hT rfl rfl ⟨h.1, ?_⟩
    have h := h.2
    have h := h _ rfl
    refine wp_s hT 2 (i' := 7) (L' := [some (.ref 74), some (.int x1), some (.int x2), some (.int x3), some (.int (x4 + nI 1))]) (st' := []) rfl ?_
    exact h

theorem mk_X11_equations_2 {X : Nat × (Nat → Int32)} {x1 : Int32} {x2 : Int32} {x3 : Int32} {iv : IV} {P : IV → Prop}
    (h : ((x1 ≤ x3 → P iv) ∧ (¬ (x1 ≤ x3) → wp X (0, 0) 189 7 [some (.ref 74), some (.int x1), some (.int x2), some (.int x3), some (.int (nI 0))] [] iv (Rv P)))) :
    wp X (0, 0) 189 2 [some (.ref 74), some (.int x1), some (.int x2), some (.int x3), none] [] iv (Rv P) := by
  have hT := tb_189
  refine wp_s hT 2 (i' := 4) (L' := [some (.ref 74), some (.int x1), some (.int x2), some (.int x3), none]) (st' := [.int x1, .int x3]) rfl ?_
  refine wp_ic_ge hT rfl ⟨fun c => ?_, fun c => ?_⟩
  · have h := h.1 c
    exact wp_rv hT rfl rfl ⟨rfl, h⟩
  · have h := h.2 c
    refine wp_s hT 2 (i' := 7) (L' := [some (.ref 74), some (.int x1), some (.int x2), some (.int x3), some (.int (nI 0))]) (st' := []) rfl ?_
    exact h

theorem mk_X11_equations {X : Nat × (Nat → Int32)} {x1 : Int32} {x2 : Int32} {iv : IV} {P : IV → Prop}
    (h : wp X (0, 0) 189 2 [some (.ref 74), some (.int x1), some (.int x2), some (.int (nI 0)), none] [] iv (Rv P)) :
    wc X 189 [.ref 74, .int x1, .int x2] iv (Rv P) := by
  have hT := tb_189
  show wp X (0, 0) 189 0 [some (.ref 74), some (.int x1), some (.int x2), none, none] [] iv (Rv P)
  refine wp_s hT 2 (i' := 2) (L' := [some (.ref 74), some (.int x1), some (.int x2), some (.int (nI 0)), none]) (st' := []) rfl ?_
  exact h

theorem mk_X11_swaps_2 {X : Nat × (Nat → Int32)} {x1 : Int32} {x2 : Int32} {x3 : Int32} {iv : IV} {P : IV → Prop}
    (h : (((nI 7) ≤ x3 → P iv) ∧ (¬ ((nI 7) ≤ x3) → vp_in (((nI 7) * x1) + x3) 42 ∧ ∀ v1 : Int32, v1 = iv 98 (((nI 7) * x1) + x3).toNatClampNeg → vp_in (((nI 7) * x2) + x3) 42 ∧ vp_in (((nI 7) * x1) + x3) 42 ∧ (∀ iv2 : IV, iv2 = mm_up2 iv 98 (((nI 7) * x1) + x3).toNatClampNeg (iv 98 (((nI 7) * x2) + x3).toNatClampNeg) → vp_in (((nI 7) * x2) + x3) 42 ∧ (∀ iv3 : IV, iv3 = mm_up2 iv2 98 (((nI 7) * x2) + x3).toNatClampNeg v1 → wp X (0, 0) 190 2 [some (.ref 74), some (.int x1), some (.int x2), some (.int (x3 + nI 1)), none] [] iv3 (Rv P)))))) :
    wp X (0, 0) 190 2 [some (.ref 74), some (.int x1), some (.int x2), some (.int x3), none] [] iv (Rv P) := by
  have hT := tb_190
  refine wp_s hT 2 (i' := 4) (L' := [some (.ref 74), some (.int x1), some (.int x2), some (.int x3), none]) (st' := [.int (nI 7), .int x3]) rfl ?_
  refine wp_ic_ge hT rfl ⟨fun c => ?_, fun c => ?_⟩
  · have h := h.1 c
    exact wp_rv hT rfl rfl ⟨rfl, h⟩
  · have h := h.2 c
    refine wp_s hT 7 (i' := 12) (L' := [some (.ref 74), some (.int x1), some (.int x2), some (.int x3), none]) (st' := [.int (((nI 7) * x1) + x3), .ref 98]) rfl ?_
    refine wp_iald hT rfl rfl ⟨h.1, ?_⟩
    have h := h.2
    refine wp_s hT 1 (i' := 14) (L' := [some (.ref 74), some (.int x1), some (.int x2), some (.int x3), some (.int (iv 98 (((nI 7) * x1) + x3).toNatClampNeg))]) (st' := []) rfl ?_
    have h := h _ rfl
    refine wp_s hT 14 (i' := 28) (L' := [some (.ref 74), some (.int x1), some (.int x2), some (.int x3), some (.int (iv 98 (((nI 7) * x1) + x3).toNatClampNeg))]) (st' := [.int (((nI 7) * x2) + x3), .ref 98, .int (((nI 7) * x1) + x3), .ref 98]) rfl ?_
    refine wp_iald hT rfl rfl ⟨h.1, ?_⟩
    have h := h.2
    refine wp_iast hT rfl rfl ⟨h.1, ?_⟩
    have h := h.2
    have h := h _ rfl
    refine wp_s hT 8 (i' := 38) (L' := [some (.ref 74), some (.int x1), some (.int x2), some (.int x3), some (.int (iv 98 (((nI 7) * x1) + x3).toNatClampNeg))]) (st' := [.int (iv 98 (((nI 7) * x1) + x3).toNatClampNeg), .int (((nI 7) * x2) + x3), .ref 98]) rfl ?_
    refine wp_iast hT rfl rfl ⟨h.1, ?_⟩
    have h := h.2
    have h := h _ rfl
    refine wp_s hT 2 (i' := 2) (L' := [some (.ref 74), some (.int x1), some (.int x2), some (.int (x3 + nI 1)), some (.int (iv 98 (((nI 7) * x1) + x3).toNatClampNeg))]) (st' := []) rfl ?_
    refine wp_le (L := [some (.ref 74), some (.int x1), some (.int x2), some (.int (x3 + nI 1)), none]) ⟨Or.inl rfl, Or.inl rfl, Or.inl rfl, Or.inl rfl, Or.inr ⟨rfl, rfl⟩, trivial⟩ ?_
    exact h

theorem mk_X11_swaps {X : Nat × (Nat → Int32)} {x1 : Int32} {x2 : Int32} {iv : IV} {P : IV → Prop}
    (h : wp X (0, 0) 190 2 [some (.ref 74), some (.int x1), some (.int x2), some (.int (nI 0)), none] [] iv (Rv P)) :
    wc X 190 [.ref 74, .int x1, .int x2] iv (Rv P) := by
  have hT := tb_190
  show wp X (0, 0) 190 0 [some (.ref 74), some (.int x1), some (.int x2), none, none] [] iv (Rv P)
  refine wp_s hT 2 (i' := 2) (L' := [some (.ref 74), some (.int x1), some (.int x2), some (.int (nI 0)), none]) (st' := []) rfl ?_
  exact h

theorem mk_X11_solves_152 {X : Nat × (Nat → Int32)} {x2 : Int32} {x3 : Int32} {x4 : Int32} {iv : IV} {P : Int32 → IV → Prop}
    (h : ((x2 ≤ x4 → (x3 = 0 ∨ x3 = 1) ∧ P x3 iv) ∧ (¬ (x2 ≤ x4) → ((x3 = 0 → (x3 = 0 ∨ x3 = 1) ∧ P x3 iv) ∧ (¬ (x3 = 0) → vp_in (((nI 7) * x4) + x2) 42 ∧ vp_in x4 7 ∧ (∀ iv1 : IV, iv1 = mm_up2 iv 100 x4.toNatClampNeg (iv 98 (((nI 7) * x4) + x2).toNatClampNeg) → wp X (0, 0) 191 152 [some (.ref 74), none, some (.int x2), some (.int x3), some (.int (x4 + nI 1)), none, none, none, none] [] iv1 (Ri P))))))) :
    wp X (0, 0) 191 152 [some (.ref 74), none, some (.int x2), some (.int x3), some (.int x4), none, none, none, none] [] iv (Ri P) := by
  have hT := tb_191
  refine wp_s hT 2 (i' := 154) (L' := [some (.ref 74), none, some (.int x2), some (.int x3), some (.int x4), none, none, none, none]) (st' := [.int x2, .int x4]) rfl ?_
  refine wp_ic_ge hT rfl ⟨fun c => ?_, fun c => ?_⟩
  · have h := h.1 c
    refine wp_s hT 1 (i' := 172) (L' := [some (.ref 74), none, some (.int x2), some (.int x3), some (.int x4), none, none, none, none]) (st' := [.int x3]) rfl ?_
    exact wp_rz hT rfl rfl ⟨h.1, ⟨_, rfl, h.2⟩⟩
  · have h := h.2 c
    refine wp_s hT 1 (i' := 156) (L' := [some (.ref 74), none, some (.int x2), some (.int x3), some (.int x4), none, none, none, none]) (st' := [.int x3]) rfl ?_
    refine wp_if_eq hT rfl ⟨fun c => ?_, fun c => ?_⟩
    · have h := h.1 c
      refine wp_s hT 1 (i' := 172) (L' := [some (.ref 74), none, some (.int x2), some (.int x3), some (.int x4), none, none, none, none]) (st' := [.int x3]) rfl ?_
      exact wp_rz hT rfl rfl ⟨h.1, ⟨_, rfl, h.2⟩⟩
    · have h := h.2 c
      refine wp_s hT 10 (i' := 167) (L' := [some (.ref 74), none, some (.int x2), some (.int x3), some (.int x4), none, none, none, none]) (st' := [.int (((nI 7) * x4) + x2), .ref 98, .int x4, .ref 100]) rfl ?_
      refine wp_iald hT rfl rfl ⟨h.1, ?_⟩
      have h := h.2
      refine wp_iast hT rfl rfl ⟨h.1, ?_⟩
      have h := h.2
      have h := h _ rfl
      refine wp_s hT 2 (i' := 152) (L' := [some (.ref 74), none, some (.int x2), some (.int x3), some (.int (x4 + nI 1)), none, none, none, none]) (st' := []) rfl ?_
      exact h

theorem mk_X11_solves_130 {X : Nat × (Nat → Int32)} {x1 : Int32} {x2 : Int32} {x3 : Int32} {x4 : Int32} {iv : IV} {P : Int32 → IV → Prop}
    (h : ((x1 ≤ x4 → wp X (0, 0) 191 152 [some (.ref 74), none, some (.int x2), some (.int x3), some (.int (nI 0)), none, none, none, none] [] iv (Ri P)) ∧ (¬ (x1 ≤ x4) → ((x3 = 0 → wp X (0, 0) 191 130 [some (.ref 74), some (.int x1), some (.int x2), some (.int (nI 0)), some (.int (x4 + nI 1)), none, none, none, none] [] iv (Ri P)) ∧ (¬ (x3 = 0) → vp_in (((nI 7) * x4) + x2) 42 ∧ ((iv 98 (((nI 7) * x4) + x2).toNatClampNeg = 0 → wp X (0, 0) 191 130 [some (.ref 74), some (.int x1), some (.int x2), some (.int (nI 1)), some (.int (x4 + nI 1)), none, none, none, none] [] iv (Ri P)) ∧ (¬ (iv 98 (((nI 7) * x4) + x2).toNatClampNeg = 0) → wp X (0, 0) 191 130 [some (.ref 74), some (.int x1), some (.int x2), some (.int (nI 0)), some (.int (x4 + nI 1)), none, none, none, none] [] iv (Ri P)))))))) :
    wp X (0, 0) 191 130 [some (.ref 74), some (.int x1), some (.int x2), some (.int x3), some (.int x4), none, none, none, none] [] iv (Ri P) := by
  have hT := tb_191
  refine wp_s hT 2 (i' := 132) (L' := [some (.ref 74), some (.int x1), some (.int x2), some (.int x3), some (.int x4), none, none, none, none]) (st' := [.int x1, .int x4]) rfl ?_
  refine wp_ic_ge hT rfl ⟨fun c => ?_, fun c => ?_⟩
  · have h := h.1 c
    refine wp_s hT 2 (i' := 152) (L' := [some (.ref 74), some (.int x1), some (.int x2), some (.int x3), some (.int (nI 0)), none, none, none, none]) (st' := []) rfl ?_
    refine wp_le (L := [some (.ref 74), none, some (.int x2), some (.int x3), some (.int (nI 0)), none, none, none, none]) ⟨Or.inl rfl, Or.inr ⟨rfl, rfl⟩, Or.inl rfl, Or.inl rfl, Or.inl rfl, Or.inl rfl, Or.inl rfl, Or.inl rfl, Or.inl rfl, trivial⟩ ?_
    exact h
  · have h := h.2 c
    refine wp_s hT 1 (i' := 134) (L' := [some (.ref 74), some (.int x1), some (.int x2), some (.int x3), some (.int x4), none, none, none, none]) (st' := [.int x3]) rfl ?_
    refine wp_if_eq hT rfl ⟨fun c => ?_, fun c => ?_⟩
    · have h := h.1 c
      refine wp_s hT 4 (i' := 130) (L' := [some (.ref 74), some (.int x1), some (.int x2), some (.int (nI 0)), some (.int (x4 + nI 1)), none, none, none, none]) (st' := []) rfl ?_
      exact h
    · have h := h.2 c
      refine wp_s hT 7 (i' := 142) (L' := [some (.ref 74), some (.int x1), some (.int x2), some (.int x3), some (.int x4), none, none, none, none]) (st' := [.int (((nI 7) * x4) + x2), .ref 98]) rfl ?_
      refine wp_iald hT rfl rfl ⟨h.1, ?_⟩
      have h := h.2
      refine wp_if_ne hT rfl ⟨fun c => ?_, fun c => ?_⟩
      · have h := h.1 c
        refine wp_s hT 5 (i' := 130) (L' := [some (.ref 74), some (.int x1), some (.int x2), some (.int (nI 1)), some (.int (x4 + nI 1)), none, none, none, none]) (st' := []) rfl ?_
        exact h
      · have h := h.2 c
        refine wp_s hT 4 (i' := 130) (L' := [some (.ref 74), some (.int x1), some (.int x2), some (.int (nI 0)), some (.int (x4 + nI 1)), none, none, none, none]) (st' := []) rfl ?_
        exact h

theorem mk_X11_solves_93 {X : Nat × (Nat → Int32)} {x1 : Int32} {x2 : Int32} {x3 : Int32} {x6 : Int32} {x7 : Int32} {x8 : Int32} {iv : IV} {P : Int32 → IV → Prop}
    (h : ((x2 < x8 → wp X (0, 0) 191 74 [some (.ref 74), some (.int x1), some (.int x2), some (.int x3), none, none, some (.int (x6 + nI 1)), none, none] [] iv (Ri P)) ∧ (¬ (x2 < x8) → ((x7 = 0 → wp X (0, 0) 191 74 [some (.ref 74), some (.int x1), some (.int x2), some (.int x3), none, none, some (.int (x6 + nI 1)), none, none] [] iv (Ri P)) ∧ (¬ (x7 = 0) → vp_in (((nI 7) * x6) + x8) 42 ∧ vp_in (((nI 7) * x3) + x8) 42 ∧ wc X 139 [.ref 74, .int x7, .int (iv 98 (((nI 7) * x3) + x8).toNatClampNeg)] iv (Ri (fun r2 iv1 => vp_in (((nI 7) * x6) + x8) 42 ∧ (∀ iv3 : IV, iv3 = mm_up2 iv1 98 (((nI 7) * x6) + x8).toNatClampNeg ((iv 98 (((nI 7) * x6) + x8).toNatClampNeg) ^^^ r2) → wp X (0, 0) 191 93 [some (.ref 74), some (.int x1), some (.int x2), some (.int x3), none, none, some (.int x6), some (.int x7), some (.int (x8 + nI 1))] [] iv3 (Ri P))))))))) :
    wp X (0, 0) 191 93 [some (.ref 74), some (.int x1), some (.int x2), some (.int x3), none, none, some (.int x6), some (.int x7), some (.int x8)] [] iv (Ri P) := by
  have hT := tb_191
  refine wp_s hT 2 (i' := 95) (L' := [some (.ref 74), some (.int x1), some (.int x2), some (.int x3), none, none, some (.int x6), some (.int x7), some (.int x8)]) (st' := [.int x2, .int x8]) rfl ?_
  refine wp_ic_gt hT rfl ⟨fun c => ?_, fun c => ?_⟩
  · have h := h.1 c
    refine wp_s hT 2 (i' := 74) (L' := [some (.ref 74), some (.int x1), some (.int x2), some (.int x3), none, none, some (.int (x6 + nI 1)), some (.int x7), some (.int x8)]) (st' := []) rfl ?_
    refine wp_le (L := [some (.ref 74), some (.int x1), some (.int x2), some (.int x3), none, none, some (.int (x6 + nI 1)), none, none]) ⟨Or.inl rfl, Or.inl rfl, Or.inl rfl, Or.inl rfl, Or.inl rfl, Or.inl rfl, Or.inl rfl, Or.inr ⟨rfl, rfl⟩, Or.inr ⟨rfl, rfl⟩, trivial⟩ ?_
    exact h
  · have h := h.2 c
    refine wp_s hT 1 (i' := 97) (L' := [some (.ref 74), some (.int x1), some (.int x2), some (.int x3), none, none, some (.int x6), some (.int x7), some (.int x8)]) (st' := [.int x7]) rfl ?_
    refine wp_if_eq hT rfl ⟨fun c => ?_, fun c => ?_⟩
    · have h := h.1 c
      refine wp_s hT 2 (i' := 74) (L' := [some (.ref 74), some (.int x1), some (.int x2), some (.int x3), none, none, some (.int (x6 + nI 1)), some (.int x7), some (.int x8)]) (st' := []) rfl ?_
      refine wp_le (L := [some (.ref 74), some (.int x1), some (.int x2), some (.int x3), none, none, some (.int (x6 + nI 1)), none, none]) ⟨Or.inl rfl, Or.inl rfl, Or.inl rfl, Or.inl rfl, Or.inl rfl, Or.inl rfl, Or.inl rfl, Or.inr ⟨rfl, rfl⟩, Or.inr ⟨rfl, rfl⟩, trivial⟩ ?_
      exact h
    · have h := h.2 c
      refine wp_s hT 8 (i' := 106) (L' := [some (.ref 74), some (.int x1), some (.int x2), some (.int x3), none, none, some (.int x6), some (.int x7), some (.int x8)]) (st' := [.int (((nI 7) * x6) + x8), .ref 98, .int (((nI 7) * x6) + x8), .ref 98]) rfl ?_
      refine wp_iald hT rfl rfl ⟨h.1, ?_⟩
      have h := h.2
      refine wp_s hT 9 (i' := 116) (L' := [some (.ref 74), some (.int x1), some (.int x2), some (.int x3), none, none, some (.int x6), some (.int x7), some (.int x8)]) (st' := [.int (((nI 7) * x3) + x8), .ref 98, .int x7, .ref 74, .int (iv 98 (((nI 7) * x6) + x8).toNatClampNeg), .int (((nI 7) * x6) + x8), .ref 98]) rfl ?_
      refine wp_iald hT rfl rfl ⟨h.1, ?_⟩
      have h := h.2
      refine wp_calli hT rfl rfl h (fun r2 iv1 h => ?_)
      refine wp_s hT 1 (i' := 119) (L' := [some (.ref 74), some (.int x1), some (.int x2), some (.int x3), none, none, some (.int x6), some (.int x7), some (.int x8)]) (st' := [.int ((iv 98 (((nI 7) * x6) + x8).toNatClampNeg) ^^^ r2), .int (((nI 7) * x6) + x8), .ref 98]) rfl ?_
      refine wp_iast hT rfl rfl ⟨h.1, ?_⟩
      have h := h.2
      have h := h _ rfl
      refine wp_s hT 2 (i' := 93) (L' := [some (.ref 74), some (.int x1), some (.int x2), some (.int x3), none, none, some (.int x6), some (.int x7), some (.int (x8 + nI 1))]) (st' := []) rfl ?_
      exact h

theorem mk_X11_solves_74 {X : Nat × (Nat → Int32)} {x1 : Int32} {x2 : Int32} {x3 : Int32} {x6 : Int32} {iv : IV} {P : Int32 → IV → Prop}
    (h : ((x1 ≤ x6 → wp X (0, 0) 191 6 [some (.ref 74), some (.int x1), some (.int x2), some (.int (x3 + nI 1)), none, none, none, none, none] [] iv (Ri P)) ∧ (¬ (x1 ≤ x6) → ((x6 = x3 → wp X (0, 0) 191 93 [some (.ref 74), some (.int x1), some (.int x2), some (.int x3), none, none, some (.int x6), some (.int (nI 0)), some (.int x3)] [] iv (Ri P)) ∧ (¬ (x6 = x3) → vp_in (((nI 7) * x6) + x3) 42 ∧ ∀ v1 : Int32, v1 = iv 98 (((nI 7) * x6) + x3).toNatClampNeg → wp X (0, 0) 191 93 [some (.ref 74), some (.int x1), some (.int x2), some (.int x3), none, none, some (.int x6), some (.int v1), some (.int x3)] [] iv (Ri P)))))) :
    wp X (0, 0) 191 74 [some (.ref 74), some (.int x1), some (.int x2), some (.int x3), none, none, some (.int x6), none, none] [] iv (Ri P) := by
  have hT := tb_191
  refine wp_s hT 2 (i' := 76) (L' := [some (.ref 74), some (.int x1), some (.int x2), some (.int x3), none, none, some (.int x6), none, none]) (st' := [.int x1, .int x6]) rfl ?_
  refine wp_ic_ge hT rfl ⟨fun c => ?_, fun c => ?_⟩
  · have h := h.1 c
    refine wp_s hT 2 (i' := 6) (L' := [some (.ref 74), some (.int x1), some (.int x2), some (.int (x3 + nI 1)), none, none, some (.int x6), none, none]) (st' := []) rfl ?_
    refine wp_le (L := [some (.ref 74), some (.int x1), some (.int x2), some (.int (x3 + nI 1)), none, none, none, none, none]) ⟨Or.inl rfl, Or.inl rfl, Or.inl rfl, Or.inl rfl, Or.inl rfl, Or.inl rfl, Or.inr ⟨rfl, rfl⟩, Or.inl rfl, Or.inl rfl, trivial⟩ ?_
    exact h
  · have h := h.2 c
    refine wp_s hT 2 (i' := 79) (L' := [some (.ref 74), some (.int x1), some (.int x2), some (.int x3), none, none, some (.int x6), none, none]) (st' := [.int x3, .int x6]) rfl ?_
    refine wp_ic_ne hT rfl ⟨fun c => ?_, fun c => ?_⟩
    · have h := h.1 c
      refine wp_s hT 5 (i' := 93) (L' := [some (.ref 74), some (.int x1), some (.int x2), some (.int x3), none, none, some (.int x6), some (.int (nI 0)), some (.int x3)]) (st' := []) rfl ?_
      exact h
    · have h := h.2 c
      refine wp_s hT 7 (i' := 89) (L' := [some (.ref 74), some (.int x1), some (.int x2), some (.int x3), none, none, some (.int x6), none, none]) (st' := [.int (((nI 7) * x6) + x3), .ref 98]) rfl ?_
      refine wp_iald hT rfl rfl ⟨h.1, ?_⟩
      have h := h.2
      refine wp_s hT 1 (i' := 91) (L' := [some (.ref 74), some (.int x1), some (.int x2), some (.int x3), none, none, some (.int x6), some (.int (iv 98 (((nI 7) * x6) + x3).toNatClampNeg)), none]) (st' := []) rfl ?_
      have h := h _ rfl
      refine wp_s hT 2 (i' := 93) (L' := [some (.ref 74), some (.int x1), some (.int x2), some (.int x3), none, none, some (.int x6), some (.int (iv 98 (((nI 7) * x6) + x3).toNatClampNeg)), some (.int x3)]) (st' := []) rfl ?_
      exact h

theorem mk_X11_solves_48 {X : Nat × (Nat → Int32)} {x1 : Int32} {x2 : Int32} {x3 : Int32} {x5 : Int32} {x6 : Int32} {iv : IV} {P : Int32 → IV → Prop}
    (h : ((x2 < x6 → wp X (0, 0) 191 74 [some (.ref 74), some (.int x1), some (.int x2), some (.int x3), none, none, some (.int (nI 0)), none, none] [] iv (Ri P)) ∧ (¬ (x2 < x6) → vp_in (((nI 7) * x3) + x6) 42 ∧ wc X 139 [.ref 74, .int (iv 98 (((nI 7) * x3) + x6).toNatClampNeg), .int x5] iv (Ri (fun r2 iv1 => vp_in (((nI 7) * x3) + x6) 42 ∧ (∀ iv3 : IV, iv3 = mm_up2 iv1 98 (((nI 7) * x3) + x6).toNatClampNeg r2 → wp X (0, 0) 191 48 [some (.ref 74), some (.int x1), some (.int x2), some (.int x3), none, some (.int x5), some (.int (x6 + nI 1)), none, none] [] iv3 (Ri P))))))) :
    wp X (0, 0) 191 48 [some (.ref 74), some (.int x1), some (.int x2), some (.int x3), none, some (.int x5), some (.int x6), none, none] [] iv (Ri P) := by
  have hT := tb_191
  refine wp_s hT 2 (i' := 50) (L' := [some (.ref 74), some (.int x1), some (.int x2), some (.int x3), none, some (.int x5), some (.int x6), none, none]) (st' := [.int x2, .int x6]) rfl ?_
  refine wp_ic_gt hT rfl ⟨fun c => ?_, fun c => ?_⟩
  · have h := h.1 c
    refine wp_s hT 2 (i' := 74) (L' := [some (.ref 74), some (.int x1), some (.int x2), some (.int x3), none, some (.int x5), some (.int (nI 0)), none, none]) (st' := []) rfl ?_
    refine wp_le (L := [some (.ref 74), some (.int x1), some (.int x2), some (.int x3), none, none, some (.int (nI 0)), none, none]) ⟨Or.inl rfl, Or.inl rfl, Or.inl rfl, Or.inl rfl, Or.inl rfl, Or.inr ⟨rfl, rfl⟩, Or.inl rfl, Or.inl rfl, Or.inl rfl, trivial⟩ ?_
    exact h
  · have h := h.2 c
    refine wp_s hT 15 (i' := 66) (L' := [some (.ref 74), some (.int x1), some (.int x2), some (.int x3), none, some (.int x5), some (.int x6), none, none]) (st' := [.int (((nI 7) * x3) + x6), .ref 98, .ref 74, .int (((nI 7) * x3) + x6), .ref 98]) rfl ?_
    refine wp_iald hT rfl rfl ⟨h.1, ?_⟩
    have h := h.2
    refine wp_s hT 1 (i' := 68) (L' := [some (.ref 74), some (.int x1), some (.int x2), some (.int x3), none, some (.int x5), some (.int x6), none, none]) (st' := [.int x5, .int (iv 98 (((nI 7) * x3) + x6).toNatClampNeg), .ref 74, .int (((nI 7) * x3) + x6), .ref 98]) rfl ?_
    refine wp_calli hT rfl rfl h (fun r2 iv1 h => ?_)
    refine wp_iast hT rfl rfl ⟨h.1, ?_⟩
    have h := h.2
    have h := h _ rfl
    refine wp_s hT 2 (i' := 48) (L' := [some (.ref 74), some (.int x1), some (.int x2), some (.int x3), none, some (.int x5), some (.int (x6 + nI 1)), none, none]) (st' := []) rfl ?_
    exact h

theorem mk_X11_solves_25 {X : Nat × (Nat → Int32)} {x1 : Int32} {x2 : Int32} {x3 : Int32} {x4 : Int32} {iv : IV} {P : Int32 → IV → Prop}
    (h : ((x4 = x1 → P (nI 0) iv) ∧ (¬ (x4 = x1) → wc X 190 [.ref 74, .int x4, .int x3] iv (Rv (fun iv1 => vp_in (((nI 7) * x3) + x3) 42 ∧ vp_in (iv1 98 (((nI 7) * x3) + x3).toNatClampNeg) 16 ∧ ∀ v2 : Int32, v2 = iv1 80 (iv1 98 (((nI 7) * x3) + x3).toNatClampNeg).toNatClampNeg → wp X (0, 0) 191 48 [some (.ref 74), some (.int x1), some (.int x2), some (.int x3), none, some (.int v2), some (.int x3), none, none] [] iv1 (Ri P)))))) :
    wp X (0, 0) 191 25 [some (.ref 74), some (.int x1), some (.int x2), some (.int x3), some (.int x4), none, none, none, none] [] iv (Ri P) := by
  have hT := tb_191
  refine wp_s hT 2 (i' := 27) (L' := [some (.ref 74), some (.int x1), some (.int x2), some (.int x3), some (.int x4), none, none, none, none]) (st' := [.int x1, .int x4]) rfl ?_
  refine wp_ic_ne hT rfl ⟨fun c => ?_, fun c => ?_⟩
  · have h := h.1 c
    refine wp_s hT 1 (i' := 29) (L' := [some (.ref 74), some (.int x1), some (.int x2), some (.int x3), some (.int x4), none, none, none, none]) (st' := [.int (nI 0)]) rfl ?_
    exact wp_rz hT rfl rfl ⟨Or.inl rfl, ⟨_, rfl, h⟩⟩
  · have h := h.2 c
    refine wp_s hT 3 (i' := 33) (L' := [some (.ref 74), some (.int x1), some (.int x2), some (.int x3), some (.int x4), none, none, none, none]) (st' := [.int x3, .int x4, .ref 74]) rfl ?_
    refine wp_callv hT rfl rfl h (fun iv1 h => ?_)
    refine wp_s hT 9 (i' := 43) (L' := [some (.ref 74), some (.int x1), some (.int x2), some (.int x3), some (.int x4), none, none, none, none]) (st' := [.int (((nI 7) * x3) + x3), .ref 98, .ref 80]) rfl ?_
    refine wp_iald hT rfl rfl ⟨h.1, ?_⟩
    have h := h.2
    refine wp_iald hT rfl rfl ⟨h.1, ?_⟩
    have h := h.2
    refine wp_s hT 1 (i' := 46) (L' := [some (.ref 74), some (.int x1), some (.int x2), some (.int x3), some (.int x4), some (.int (iv1 80 (iv1 98 (((nI 7) * x3) + x3).toNatClampNeg).toNatClampNeg)), none, none, none]) (st' := []) rfl ?_
    have h := h _ rfl
    refine wp_s hT 2 (i' := 48) (L' := [some (.ref 74), some (.int x1), some (.int x2), some (.int x3), some (.int x4), some (.int (iv1 80 (iv1 98 (((nI 7) * x3) + x3).toNatClampNeg).toNatClampNeg)), some (.int x3), none, none]) (st' := []) rfl ?_
    refine wp_le (L := [some (.ref 74), some (.int x1), some (.int x2), some (.int x3), none, some (.int (iv1 80 (iv1 98 (((nI 7) * x3) + x3).toNatClampNeg).toNatClampNeg)), some (.int x3), none, none]) ⟨Or.inl rfl, Or.inl rfl, Or.inl rfl, Or.inl rfl, Or.inr ⟨rfl, rfl⟩, Or.inl rfl, Or.inl rfl, Or.inl rfl, Or.inl rfl, trivial⟩ ?_
    exact h

theorem mk_X11_solves_11 {X : Nat × (Nat → Int32)} {x1 : Int32} {x2 : Int32} {x3 : Int32} {x4 : Int32} {iv : IV} {P : Int32 → IV → Prop}
    (h : ((x1 ≤ x4 → wp X (0, 0) 191 25 [some (.ref 74), some (.int x1), some (.int x2), some (.int x3), some (.int x4), none, none, none, none] [] iv (Ri P)) ∧ (¬ (x1 ≤ x4) → vp_in (((nI 7) * x4) + x3) 42 ∧ ((iv 98 (((nI 7) * x4) + x3).toNatClampNeg = 0 → wp X (0, 0) 191 11 [some (.ref 74), some (.int x1), some (.int x2), some (.int x3), some (.int (x4 + nI 1)), none, none, none, none] [] iv (Ri P)) ∧ (¬ (iv 98 (((nI 7) * x4) + x3).toNatClampNeg = 0) → wp X (0, 0) 191 25 [some (.ref 74), some (.int x1), some (.int x2), some (.int x3), some (.int x4), none, none, none, none] [] iv (Ri P)))))) :
    wp X (0, 0) 191 11 [some (.ref 74), some (.int x1), some (.int x2), some (.int x3), some (.int x4), none, none, none, none] [] iv (Ri P) := by
  have hT := tb_191
  refine wp_s hT 2 (i' := 13) (L' := [some (.ref 74), some (.int x1), some (.int x2), some (.int x3), some (.int x4), none, none, none, none]) (st' := [.int x1, .int x4]) rfl ?_
  refine wp_ic_ge hT rfl ⟨fun c => ?_, fun c => ?_⟩
  · have h := h.1 c
    exact h
  · have h := h.2 c
    refine wp_s hT 7 (i' := 21) (L' := [some (.ref 74), some (.int x1), some (.int x2), some (.int x3), some (.int x4), none, none, none, none]) (st' := [.int (((nI 7) * x4) + x3), .ref 98]) rfl ?_
    refine wp_iald hT rfl rfl ⟨h.1, ?_⟩
    have h := h.2
    refine wp_if_ne hT rfl ⟨fun c => ?_, fun c => ?_⟩
    · have h := h.1 c
      refine wp_s hT 2 (i' := 11) (L' := [some (.ref 74), some (.int x1), some (.int x2), some (.int x3), some (.int (x4 + nI 1)), none, none, none, none]) (st' := []) rfl ?_
      exact h
    · have h := h.2 c
      exact h

theorem mk_X11_solves_6 {X : Nat × (Nat → Int32)} {x1 : Int32} {x2 : Int32} {x3 : Int32} {iv : IV} {P : Int32 → IV → Prop}
    (h : ((x2 ≤ x3 → wp X (0, 0) 191 130 [some (.ref 74), some (.int x1), some (.int x2), some (.int (nI 1)), some (.int x2), none, none, none, none] [] iv (Ri P)) ∧ (¬ (x2 ≤ x3) → wp X (0, 0) 191 11 [some (.ref 74), some (.int x1), some (.int x2), some (.int x3), some (.int x3), none, none, none, none] [] iv (Ri P)))) :
    wp X (0, 0) 191 6 [some (.ref 74), some (.int x1), some (.int x2), some (.int x3), none, none, none, none, none] [] iv (Ri P) := by
  have hT := tb_191
  refine wp_s hT 2 (i' := 8) (L' := [some (.ref 74), some (.int x1), some (.int x2), some (.int x3), none, none, none, none, none]) (st' := [.int x2, .int x3]) rfl ?_
  refine wp_ic_ge hT rfl ⟨fun c => ?_, fun c => ?_⟩
  · have h := h.1 c
    refine wp_s hT 4 (i' := 130) (L' := [some (.ref 74), some (.int x1), some (.int x2), some (.int (nI 1)), some (.int x2), none, none, none, none]) (st' := []) rfl ?_
    exact h
  · have h := h.2 c
    refine wp_s hT 2 (i' := 11) (L' := [some (.ref 74), some (.int x1), some (.int x2), some (.int x3), some (.int x3), none, none, none, none]) (st' := []) rfl ?_
    exact h

theorem mk_X11_solves {X : Nat × (Nat → Int32)} {x1 : Int32} {x2 : Int32} {iv : IV} {P : Int32 → IV → Prop}
    (h : wc X 189 [.ref 74, .int x1, .int x2] iv (Rv (fun iv1 => wp X (0, 0) 191 6 [some (.ref 74), some (.int x1), some (.int x2), some (.int (nI 0)), none, none, none, none, none] [] iv1 (Ri P)))) :
    wc X 191 [.ref 74, .int x1, .int x2] iv (Ri P) := by
  have hT := tb_191
  show wp X (0, 0) 191 0 [some (.ref 74), some (.int x1), some (.int x2), none, none, none, none, none, none] [] iv (Ri P)
  refine wp_s hT 3 (i' := 3) (L' := [some (.ref 74), some (.int x1), some (.int x2), none, none, none, none, none, none]) (st' := [.int x2, .int x1, .ref 74]) rfl ?_
  refine wp_callv hT rfl rfl h (fun iv1 h => ?_)
  refine wp_s hT 2 (i' := 6) (L' := [some (.ref 74), some (.int x1), some (.int x2), some (.int (nI 0)), none, none, none, none, none]) (st' := []) rfl ?_
  exact h

theorem mk_X11_isGone_4 {X : Nat × (Nat → Int32)} {x1 : Int32} {x2 : Int32} {x3 : Int32} {x4 : Int32} {iv : IV} {P : Int32 → IV → Prop}
    (h : ((x1 ≤ x4 → (x3 = 0 ∨ x3 = 1) ∧ P x3 iv) ∧ (¬ (x1 ≤ x4) → ((x3 = 0 → vp_in x4 14 ∧ (((iv 99 x4.toNatClampNeg) = x2 → wp X (0, 0) 192 4 [some (.ref 74), some (.int x1), some (.int x2), some (.int (nI 1)), some (.int (x4 + nI 1))] [] iv (Ri P)) ∧ (¬ ((iv 99 x4.toNatClampNeg) = x2) → wp X (0, 0) 192 4 [some (.ref 74), some (.int x1), some (.int x2), some (.int (nI 0)), some (.int (x4 + nI 1))] [] iv (Ri P)))) ∧ (¬ (x3 = 0) → wp X (0, 0) 192 4 [some (.ref 74), some (.int x1), some (.int x2), some (.int (nI 1)), some (.int (x4 + nI 1))] [] iv (Ri P)))))) :
    wp X (0, 0) 192 4 [some (.ref 74), some (.int x1), some (.int x2), some (.int x3), some (.int x4)] [] iv (Ri P) := by
  have hT := tb_192
  refine wp_s hT 2 (i' := 6) (L' := [some (.ref 74), some (.int x1), some (.int x2), some (.int x3), some (.int x4)]) (st' := [.int x1, .int x4]) rfl ?_
  refine wp_ic_ge hT rfl ⟨fun c => ?_, fun c => ?_⟩
  · have h := h.1 c
    refine wp_s hT 1 (i' := 22) (L' := [some (.ref 74), some (.int x1), some (.int x2), some (.int x3), some (.int x4)]) (st' := [.int x3]) rfl ?_
    exact wp_rz hT rfl rfl ⟨h.1, ⟨_, rfl, h.2⟩⟩
  · have h := h.2 c
    refine wp_s hT 1 (i' := 8) (L' := [some (.ref 74), some (.int x1), some (.int x2), some (.int x3), some (.int x4)]) (st' := [.int x3]) rfl ?_
    refine wp_if_ne hT rfl ⟨fun c => ?_, fun c => ?_⟩
    · have h := h.1 c
      refine wp_s hT 3 (i' := 12) (L' := [some (.ref 74), some (.int x1), some (.int x2), some (.int x3), some (.int x4)]) (st' := [.int x4, .ref 99]) rfl ?_
      refine wp_iald hT rfl rfl ⟨h.1, ?_⟩
      have h := h.2
      refine wp_s hT 1 (i' := 14) (L' := [some (.ref 74), some (.int x1), some (.int x2), some (.int x3), some (.int x4)]) (st' := [.int x2, .int (iv 99 x4.toNatClampNeg)]) rfl ?_
      refine wp_ic_ne hT rfl ⟨fun c => ?_, fun c => ?_⟩
      · have h := h.1 c
        refine wp_s hT 5 (i' := 4) (L' := [some (.ref 74), some (.int x1), some (.int x2), some (.int (nI 1)), some (.int (x4 + nI 1))]) (st' := []) rfl ?_
        exact h
      · have h := h.2 c
        refine wp_s hT 4 (i' := 4) (L' := [some (.ref 74), some (.int x1), some (.int x2), some (.int (nI 0)), some (.int (x4 + nI 1))]) (st' := []) rfl ?_
        exact h
    · have h := h.2 c
      refine wp_s hT 5 (i' := 4) (L' := [some (.ref 74), some (.int x1), some (.int x2), some (.int (nI 1)), some (.int (x4 + nI 1))]) (st' := []) rfl ?_
      exact h

theorem mk_X11_isGone {X : Nat × (Nat → Int32)} {x1 : Int32} {x2 : Int32} {iv : IV} {P : Int32 → IV → Prop}
    (h : wp X (0, 0) 192 4 [some (.ref 74), some (.int x1), some (.int x2), some (.int (nI 0)), some (.int (nI 0))] [] iv (Ri P)) :
    wc X 192 [.ref 74, .int x1, .int x2] iv (Ri P) := by
  have hT := tb_192
  show wp X (0, 0) 192 0 [some (.ref 74), some (.int x1), some (.int x2), none, none] [] iv (Ri P)
  refine wp_s hT 4 (i' := 4) (L' := [some (.ref 74), some (.int x1), some (.int x2), some (.int (nI 0)), some (.int (nI 0))]) (st' := []) rfl ?_
  exact h

theorem mk_X11_triesOne_4 {X : Nat × (Nat → Int32)} {x1 : Int32} {x2 : Int32} {x3 : Int32} {x4 : Int32} {iv : IV} {P : Int32 → IV → Prop}
    (h : (((nI 14) ≤ x4 → (x3 = 0 ∨ x3 = 1) ∧ P x3 iv) ∧ (¬ ((nI 14) ≤ x4) → ((x3 = 0 → vp_in x2 14 ∧ (∀ iv1 : IV, iv1 = mm_up2 iv 99 x2.toNatClampNeg x4 → wc X 192 [.ref 74, .int x2, .int x4] iv1 (Ri (fun r3 iv2 => ((r3 = 0 → wc X 191 [.ref 74, .int x1, .int (x2 + (nI 1))] iv2 (Ri (fun r5 iv4 => ((r5 = 0 → wp X (0, 0) 193 4 [some (.ref 74), some (.int x1), some (.int x2), some (.int (nI 0)), some (.int (x4 + nI 1))] [] iv4 (Ri P)) ∧ (¬ (r5 = 0) → wp X (0, 0) 193 4 [some (.ref 74), some (.int x1), some (.int x2), some (.int (nI 1)), some (.int (x4 + nI 1))] [] iv4 (Ri P)))))) ∧ (¬ (r3 = 0) → wp X (0, 0) 193 4 [some (.ref 74), some (.int x1), some (.int x2), some (.int (nI 0)), some (.int (x4 + nI 1))] [] iv2 (Ri P))))))) ∧ (¬ (x3 = 0) → (x3 = 0 ∨ x3 = 1) ∧ P x3 iv))))) :
    wp X (0, 0) 193 4 [some (.ref 74), some (.int x1), some (.int x2), some (.int x3), some (.int x4)] [] iv (Ri P) := by
  have hT := tb_193
  refine wp_s hT 2 (i' := 6) (L' := [some (.ref 74), some (.int x1), some (.int x2), some (.int x3), some (.int x4)]) (st' := [.int (nI 14), .int x4]) rfl ?_
  refine wp_ic_ge hT rfl ⟨fun c => ?_, fun c => ?_⟩
  · have h := h.1 c
    refine wp_s hT 1 (i' := 33) (L' := [some (.ref 74), some (.int x1), some (.int x2), some (.int x3), some (.int x4)]) (st' := [.int x3]) rfl ?_
    exact wp_rz hT rfl rfl ⟨h.1, ⟨_, rfl, h.2⟩⟩
  · have h := h.2 c
    refine wp_s hT 1 (i' := 8) (L' := [some (.ref 74), some (.int x1), some (.int x2), some (.int x3), some (.int x4)]) (st' := [.int x3]) rfl ?_
    refine wp_if_ne hT rfl ⟨fun c => ?_, fun c => ?_⟩
    · have h := h.1 c
      refine wp_s hT 4 (i' := 13) (L' := [some (.ref 74), some (.int x1), some (.int x2), some (.int x3), some (.int x4)]) (st' := [.int x4, .int x2, .ref 99]) rfl ?_
      refine wp_iast hT rfl rfl ⟨h.1, ?_⟩
      have h := h.2
      have h := h _ rfl
      refine wp_s hT 3 (i' := 17) (L' := [some (.ref 74), some (.int x1), some (.int x2), some (.int x3), some (.int x4)]) (st' := [.int x4, .int x2, .ref 74]) rfl ?_
      refine wp_calli hT rfl rfl h (fun r3 iv2 h => ?_)
      refine wp_if_ne hT rfl ⟨fun c => ?_, fun c => ?_⟩
      · have h := h.1 c
        refine wp_s hT 5 (i' := 24) (L' := [some (.ref 74), some (.int x1), some (.int x2), some (.int x3), some (.int x4)]) (st' := [.int (x2 + (nI 1)), .int x1, .ref 74]) rfl ?_
        refine wp_calli hT rfl rfl h (fun r5 iv4 h => ?_)
        refine wp_if_eq hT rfl ⟨fun c => ?_, fun c => ?_⟩
        · have h := h.1 c
          refine wp_s hT 4 (i' := 4) (L' := [some (.ref 74), some (.int x1), some (.int x2), some (.int (nI 0)), some (.int (x4 + nI 1))]) (st' := []) rfl ?_
          exact h
        · have h := h.2 c
          refine wp_s hT 5 (i' := 4) (L' := [some (.ref 74), some (.int x1), some (.int x2), some (.int (nI 1)), some (.int (x4 + nI 1))]) (st' := []) rfl ?_
          exact h
      · have h := h.2 c
        refine wp_s hT 4 (i' := 4) (L' := [some (.ref 74), some (.int x1), some (.int x2), some (.int (nI 0)), some (.int (x4 + nI 1))]) (st' := []) rfl ?_
        exact h
    · have h := h.2 c
      refine wp_s hT 1 (i' := 33) (L' := [some (.ref 74), some (.int x1), some (.int x2), some (.int x3), some (.int x4)]) (st' := [.int x3]) rfl ?_
      exact wp_rz hT rfl rfl ⟨h.1, ⟨_, rfl, h.2⟩⟩

theorem mk_X11_triesOne {X : Nat × (Nat → Int32)} {x1 : Int32} {x2 : Int32} {iv : IV} {P : Int32 → IV → Prop}
    (h : wp X (0, 0) 193 4 [some (.ref 74), some (.int x1), some (.int x2), some (.int (nI 0)), some (.int (nI 0))] [] iv (Ri P)) :
    wc X 193 [.ref 74, .int x1, .int x2] iv (Ri P) := by
  have hT := tb_193
  show wp X (0, 0) 193 0 [some (.ref 74), some (.int x1), some (.int x2), none, none] [] iv (Ri P)
  refine wp_s hT 4 (i' := 4) (L' := [some (.ref 74), some (.int x1), some (.int x2), some (.int (nI 0)), some (.int (nI 0))]) (st' := []) rfl ?_
  exact h

theorem mk_X11_triesTwo_18 {X : Nat × (Nat → Int32)} {x1 : Int32} {x2 : Int32} {x3 : Int32} {x4 : Int32} {x5 : Int32} {iv : IV} {P : Int32 → IV → Prop}
    (h : (((nI 14) ≤ x5 → wp X (0, 0) 194 4 [some (.ref 74), some (.int x1), some (.int x2), some (.int x3), some (.int (x4 + nI 1)), none] [] iv (Ri P)) ∧ (¬ ((nI 14) ≤ x5) → ((x3 = 0 → wc X 192 [.ref 74, .int x2, .int x4] iv (Ri (fun r2 iv1 => ((r2 = 0 → vp_in (x2 + (nI 1)) 14 ∧ (∀ iv3 : IV, iv3 = mm_up2 iv1 99 (x2 + (nI 1)).toNatClampNeg x5 → wc X 192 [.ref 74, .int x2, .int x5] iv3 (Ri (fun r5 iv4 => ((r5 = 0 → wc X 191 [.ref 74, .int x1, .int (x2 + (nI 2))] iv4 (Ri (fun r7 iv6 => ((r7 = 0 → wp X (0, 0) 194 18 [some (.ref 74), some (.int x1), some (.int x2), some (.int (nI 0)), some (.int x4), some (.int (x5 + nI 1))] [] iv6 (Ri P)) ∧ (¬ (r7 = 0) → wp X (0, 0) 194 18 [some (.ref 74), some (.int x1), some (.int x2), some (.int (nI 1)), some (.int x4), some (.int (x5 + nI 1))] [] iv6 (Ri P)))))) ∧ (¬ (r5 = 0) → wp X (0, 0) 194 18 [some (.ref 74), some (.int x1), some (.int x2), some (.int (nI 0)), some (.int x4), some (.int (x5 + nI 1))] [] iv4 (Ri P))))))) ∧ (¬ (r2 = 0) → wp X (0, 0) 194 4 [some (.ref 74), some (.int x1), some (.int x2), some (.int x3), some (.int (x4 + nI 1)), none] [] iv1 (Ri P)))))) ∧ (¬ (x3 = 0) → wp X (0, 0) 194 4 [some (.ref 74), some (.int x1), some (.int x2), some (.int x3), some (.int (x4 + nI 1)), none] [] iv (Ri P)))))) :
    wp X (0, 0) 194 18 [some (.ref 74), some (.int x1), some (.int x2), some (.int x3), some (.int x4), some (.int x5)] [] iv (Ri P) := by
  have hT := tb_194
  refine wp_s hT 2 (i' := 20) (L' := [some (.ref 74), some (.int x1), some (.int x2), some (.int x3), some (.int x4), some (.int x5)]) (st' := [.int (nI 14), .int x5]) rfl ?_
  refine wp_ic_ge hT rfl ⟨fun c => ?_, fun c => ?_⟩
  · have h := h.1 c
    refine wp_s hT 2 (i' := 4) (L' := [some (.ref 74), some (.int x1), some (.int x2), some (.int x3), some (.int (x4 + nI 1)), some (.int x5)]) (st' := []) rfl ?_
    refine wp_le (L := [some (.ref 74), some (.int x1), some (.int x2), some (.int x3), some (.int (x4 + nI 1)), none]) ⟨Or.inl rfl, Or.inl rfl, Or.inl rfl, Or.inl rfl, Or.inl rfl, Or.inr ⟨rfl, rfl⟩, trivial⟩ ?_
    exact h
  · have h := h.2 c
    refine wp_s hT 1 (i' := 22) (L' := [some (.ref 74), some (.int x1), some (.int x2), some (.int x3), some (.int x4), some (.int x5)]) (st' := [.int x3]) rfl ?_
    refine wp_if_ne hT rfl ⟨fun c => ?_, fun c => ?_⟩
    · have h := h.1 c
      refine wp_s hT 3 (i' := 26) (L' := [some (.ref 74), some (.int x1), some (.int x2), some (.int x3), some (.int x4), some (.int x5)]) (st' := [.int x4, .int x2, .ref 74]) rfl ?_
      refine wp_calli hT rfl rfl h (fun r2 iv1 h => ?_)
      refine wp_if_ne hT rfl ⟨fun c => ?_, fun c => ?_⟩
      · have h := h.1 c
        refine wp_s hT 6 (i' := 34) (L' := [some (.ref 74), some (.int x1), some (.int x2), some (.int x3), some (.int x4), some (.int x5)]) (st' := [.int x5, .int (x2 + (nI 1)), .ref 99]) rfl ?_
        refine wp_iast hT rfl rfl ⟨h.1, ?_⟩
        have h := h.2
        have h := h _ rfl
        refine wp_s hT 3 (i' := 38) (L' := [some (.ref 74), some (.int x1), some (.int x2), some (.int x3), some (.int x4), some (.int x5)]) (st' := [.int x5, .int x2, .ref 74]) rfl ?_
        refine wp_calli hT rfl rfl h (fun r5 iv4 h => ?_)
        refine wp_if_ne hT rfl ⟨fun c => ?_, fun c => ?_⟩
        · have h := h.1 c
          refine wp_s hT 5 (i' := 45) (L' := [some (.ref 74), some (.int x1), some (.int x2), some (.int x3), some (.int x4), some (.int x5)]) (st' := [.int (x2 + (nI 2)), .int x1, .ref 74]) rfl ?_
          refine wp_calli hT rfl rfl h (fun r7 iv6 h => ?_)
          refine wp_if_eq hT rfl ⟨fun c => ?_, fun c => ?_⟩
          · have h := h.1 c
            refine wp_s hT 4 (i' := 18) (L' := [some (.ref 74), some (.int x1), some (.int x2), some (.int (nI 0)), some (.int x4), some (.int (x5 + nI 1))]) (st' := []) rfl ?_
            exact h
          · have h := h.2 c
            refine wp_s hT 5 (i' := 18) (L' := [some (.ref 74), some (.int x1), some (.int x2), some (.int (nI 1)), some (.int x4), some (.int (x5 + nI 1))]) (st' := []) rfl ?_
            exact h
        · have h := h.2 c
          refine wp_s hT 4 (i' := 18) (L' := [some (.ref 74), some (.int x1), some (.int x2), some (.int (nI 0)), some (.int x4), some (.int (x5 + nI 1))]) (st' := []) rfl ?_
          exact h
      · have h := h.2 c
        refine wp_s hT 2 (i' := 4) (L' := [some (.ref 74), some (.int x1), some (.int x2), some (.int x3), some (.int (x4 + nI 1)), some (.int x5)]) (st' := []) rfl ?_
        refine wp_le (L := [some (.ref 74), some (.int x1), some (.int x2), some (.int x3), some (.int (x4 + nI 1)), none]) ⟨Or.inl rfl, Or.inl rfl, Or.inl rfl, Or.inl rfl, Or.inl rfl, Or.inr ⟨rfl, rfl⟩, trivial⟩ ?_
        exact h
    · have h := h.2 c
      refine wp_s hT 2 (i' := 4) (L' := [some (.ref 74), some (.int x1), some (.int x2), some (.int x3), some (.int (x4 + nI 1)), some (.int x5)]) (st' := []) rfl ?_
      refine wp_le (L := [some (.ref 74), some (.int x1), some (.int x2), some (.int x3), some (.int (x4 + nI 1)), none]) ⟨Or.inl rfl, Or.inl rfl, Or.inl rfl, Or.inl rfl, Or.inl rfl, Or.inr ⟨rfl, rfl⟩, trivial⟩ ?_
      exact h

theorem mk_X11_triesTwo_4 {X : Nat × (Nat → Int32)} {x1 : Int32} {x2 : Int32} {x3 : Int32} {x4 : Int32} {iv : IV} {P : Int32 → IV → Prop}
    (h : (((nI 14) ≤ x4 → (x3 = 0 ∨ x3 = 1) ∧ P x3 iv) ∧ (¬ ((nI 14) ≤ x4) → ((x3 = 0 → vp_in x2 14 ∧ (∀ iv1 : IV, iv1 = mm_up2 iv 99 x2.toNatClampNeg x4 → wp X (0, 0) 194 18 [some (.ref 74), some (.int x1), some (.int x2), some (.int x3), some (.int x4), some (.int (x4 + (nI 1)))] [] iv1 (Ri P))) ∧ (¬ (x3 = 0) → (x3 = 0 ∨ x3 = 1) ∧ P x3 iv))))) :
    wp X (0, 0) 194 4 [some (.ref 74), some (.int x1), some (.int x2), some (.int x3), some (.int x4), none] [] iv (Ri P) := by
  have hT := tb_194
  refine wp_s hT 2 (i' := 6) (L' := [some (.ref 74), some (.int x1), some (.int x2), some (.int x3), some (.int x4), none]) (st' := [.int (nI 14), .int x4]) rfl ?_
  refine wp_ic_ge hT rfl ⟨fun c => ?_, fun c => ?_⟩
  · have h := h.1 c
    refine wp_s hT 1 (i' := 56) (L' := [some (.ref 74), some (.int x1), some (.int x2), some (.int x3), some (.int x4), none]) (st' := [.int x3]) rfl ?_
    exact wp_rz hT rfl rfl ⟨h.1, ⟨_, rfl, h.2⟩⟩
  · have h := h.2 c
    refine wp_s hT 1 (i' := 8) (L' := [some (.ref 74), some (.int x1), some (.int x2), some (.int x3), some (.int x4), none]) (st' := [.int x3]) rfl ?_
    refine wp_if_ne hT rfl ⟨fun c => ?_, fun c => ?_⟩
    · have h := h.1 c
      refine wp_s hT 4 (i' := 13) (L' := [some (.ref 74), some (.int x1), some (.int x2), some (.int x3), some (.int x4), none]) (st' := [.int x4, .int x2, .ref 99]) rfl ?_
      refine wp_iast hT rfl rfl ⟨h.1, ?_⟩
      have h := h.2
      have h := h _ rfl
      refine wp_s hT 4 (i' := 18) (L' := [some (.ref 74), some (.int x1), some (.int x2), some (.int x3), some (.int x4), some (.int (x4 + (nI 1)))]) (st' := []) rfl ?_
      exact h
    · have h := h.2 c
      refine wp_s hT 1 (i' := 56) (L' := [some (.ref 74), some (.int x1), some (.int x2), some (.int x3), some (.int x4), none]) (st' := [.int x3]) rfl ?_
      exact wp_rz hT rfl rfl ⟨h.1, ⟨_, rfl, h.2⟩⟩

theorem mk_X11_triesTwo {X : Nat × (Nat → Int32)} {x1 : Int32} {x2 : Int32} {iv : IV} {P : Int32 → IV → Prop}
    (h : wp X (0, 0) 194 4 [some (.ref 74), some (.int x1), some (.int x2), some (.int (nI 0)), some (.int (nI 0)), none] [] iv (Ri P)) :
    wc X 194 [.ref 74, .int x1, .int x2] iv (Ri P) := by
  have hT := tb_194
  show wp X (0, 0) 194 0 [some (.ref 74), some (.int x1), some (.int x2), none, none, none] [] iv (Ri P)
  refine wp_s hT 4 (i' := 4) (L' := [some (.ref 74), some (.int x1), some (.int x2), some (.int (nI 0)), some (.int (nI 0)), none]) (st' := []) rfl ?_
  exact h

theorem mk_X11_triesThree_39 {X : Nat × (Nat → Int32)} {x1 : Int32} {x2 : Int32} {x3 : Int32} {x4 : Int32} {x5 : Int32} {x6 : Int32} {iv : IV} {P : Int32 → IV → Prop}
    (h : (((nI 14) ≤ x6 → wp X (0, 0) 195 18 [some (.ref 74), some (.int x1), some (.int x2), some (.int x3), some (.int x4), some (.int (x5 + nI 1)), none] [] iv (Ri P)) ∧ (¬ ((nI 14) ≤ x6) → ((x3 = 0 → wc X 192 [.ref 74, .int x2, .int x5] iv (Ri (fun r2 iv1 => ((r2 = 0 → vp_in (x2 + (nI 2)) 14 ∧ (∀ iv3 : IV, iv3 = mm_up2 iv1 99 (x2 + (nI 2)).toNatClampNeg x6 → wc X 192 [.ref 74, .int x2, .int x6] iv3 (Ri (fun r5 iv4 => ((r5 = 0 → wc X 191 [.ref 74, .int x1, .int (x2 + (nI 3))] iv4 (Ri (fun r7 iv6 => ((r7 = 0 → wp X (0, 0) 195 39 [some (.ref 74), some (.int x1), some (.int x2), some (.int (nI 0)), some (.int x4), some (.int x5), some (.int (x6 + nI 1))] [] iv6 (Ri P)) ∧ (¬ (r7 = 0) → wp X (0, 0) 195 39 [some (.ref 74), some (.int x1), some (.int x2), some (.int (nI 1)), some (.int x4), some (.int x5), some (.int (x6 + nI 1))] [] iv6 (Ri P)))))) ∧ (¬ (r5 = 0) → wp X (0, 0) 195 39 [some (.ref 74), some (.int x1), some (.int x2), some (.int (nI 0)), some (.int x4), some (.int x5), some (.int (x6 + nI 1))] [] iv4 (Ri P))))))) ∧ (¬ (r2 = 0) → wp X (0, 0) 195 18 [some (.ref 74), some (.int x1), some (.int x2), some (.int x3), some (.int x4), some (.int (x5 + nI 1)), none] [] iv1 (Ri P)))))) ∧ (¬ (x3 = 0) → wp X (0, 0) 195 18 [some (.ref 74), some (.int x1), some (.int x2), some (.int x3), some (.int x4), some (.int (x5 + nI 1)), none] [] iv (Ri P)))))) :
    wp X (0, 0) 195 39 [some (.ref 74), some (.int x1), some (.int x2), some (.int x3), some (.int x4), some (.int x5), some (.int x6)] [] iv (Ri P) := by
  have hT := tb_195
  refine wp_s hT 2 (i' := 41) (L' := [some (.ref 74), some (.int x1), some (.int x2), some (.int x3), some (.int x4), some (.int x5), some (.int x6)]) (st' := [.int (nI 14), .int x6]) rfl ?_
  refine wp_ic_ge hT rfl ⟨fun c => ?_, fun c => ?_⟩
  · have h := h.1 c
    refine wp_s hT 2 (i' := 18) (L' := [some (.ref 74), some (.int x1), some (.int x2), some (.int x3), some (.int x4), some (.int (x5 + nI 1)), some (.int x6)]) (st' := []) rfl ?_
    refine wp_le (L := [some (.ref 74), some (.int x1), some (.int x2), some (.int x3), some (.int x4), some (.int (x5 + nI 1)), none]) ⟨Or.inl rfl, Or.inl rfl, Or.inl rfl, Or.inl rfl, Or.inl rfl, Or.inl rfl, Or.inr ⟨rfl, rfl⟩, trivial⟩ ?_
    exact h
  · have h := h.2 c
    refine wp_s hT 1 (i' := 43) (L' := [some (.ref 74), some (.int x1), some (.int x2), some (.int x3), some (.int x4), some (.int x5), some (.int x6)]) (st' := [.int x3]) rfl ?_
    refine wp_if_ne hT rfl ⟨fun c => ?_, fun c => ?_⟩
    · have h := h.1 c
      refine wp_s hT 3 (i' := 47) (L' := [some (.ref 74), some (.int x1), some (.int x2), some (.int x3), some (.int x4), some (.int x5), some (.int x6)]) (st' := [.int x5, .int x2, .ref 74]) rfl ?_
      refine wp_calli hT rfl rfl h (fun r2 iv1 h => ?_)
      refine wp_if_ne hT rfl ⟨fun c => ?_, fun c => ?_⟩
      · have h := h.1 c
        refine wp_s hT 6 (i' := 55) (L' := [some (.ref 74), some (.int x1), some (.int x2), some (.int x3), some (.int x4), some (.int x5), some (.int x6)]) (st' := [.int x6, .int (x2 + (nI 2)), .ref 99]) rfl ?_
        refine wp_iast hT rfl rfl ⟨h.1, ?_⟩
        have h := h.2
        have h := h _ rfl
        refine wp_s hT 3 (i' := 59) (L' := [some (.ref 74), some (.int x1), some (.int x2), some (.int x3), some (.int x4), some (.int x5), some (.int x6)]) (st' := [.int x6, .int x2, .ref 74]) rfl ?_
        refine wp_calli hT rfl rfl h (fun r5 iv4 h => ?_)
        refine wp_if_ne hT rfl ⟨fun c => ?_, fun c => ?_⟩
        · have h := h.1 c
          refine wp_s hT 5 (i' := 66) (L' := [some (.ref 74), some (.int x1), some (.int x2), some (.int x3), some (.int x4), some (.int x5), some (.int x6)]) (st' := [.int (x2 + (nI 3)), .int x1, .ref 74]) rfl ?_
          refine wp_calli hT rfl rfl h (fun r7 iv6 h => ?_)
          refine wp_if_eq hT rfl ⟨fun c => ?_, fun c => ?_⟩
          · have h := h.1 c
            refine wp_s hT 4 (i' := 39) (L' := [some (.ref 74), some (.int x1), some (.int x2), some (.int (nI 0)), some (.int x4), some (.int x5), some (.int (x6 + nI 1))]) (st' := []) rfl ?_
            exact h
          · have h := h.2 c
            refine wp_s hT 5 (i' := 39) (L' := [some (.ref 74), some (.int x1), some (.int x2), some (.int (nI 1)), some (.int x4), some (.int x5), some (.int (x6 + nI 1))]) (st' := []) rfl ?_
            exact h
        · have h := h.2 c
          refine wp_s hT 4 (i' := 39) (L' := [some (.ref 74), some (.int x1), some (.int x2), some (.int (nI 0)), some (.int x4), some (.int x5), some (.int (x6 + nI 1))]) (st' := []) rfl ?_
          exact h
      · have h := h.2 c
        refine wp_s hT 2 (i' := 18) (L' := [some (.ref 74), some (.int x1), some (.int x2), some (.int x3), some (.int x4), some (.int (x5 + nI 1)), some (.int x6)]) (st' := []) rfl ?_
        refine wp_le (L := [some (.ref 74), some (.int x1), some (.int x2), some (.int x3), some (.int x4), some (.int (x5 + nI 1)), none]) ⟨Or.inl rfl, Or.inl rfl, Or.inl rfl, Or.inl rfl, Or.inl rfl, Or.inl rfl, Or.inr ⟨rfl, rfl⟩, trivial⟩ ?_
        exact h
    · have h := h.2 c
      refine wp_s hT 2 (i' := 18) (L' := [some (.ref 74), some (.int x1), some (.int x2), some (.int x3), some (.int x4), some (.int (x5 + nI 1)), some (.int x6)]) (st' := []) rfl ?_
      refine wp_le (L := [some (.ref 74), some (.int x1), some (.int x2), some (.int x3), some (.int x4), some (.int (x5 + nI 1)), none]) ⟨Or.inl rfl, Or.inl rfl, Or.inl rfl, Or.inl rfl, Or.inl rfl, Or.inl rfl, Or.inr ⟨rfl, rfl⟩, trivial⟩ ?_
      exact h

theorem mk_X11_triesThree_18 {X : Nat × (Nat → Int32)} {x1 : Int32} {x2 : Int32} {x3 : Int32} {x4 : Int32} {x5 : Int32} {iv : IV} {P : Int32 → IV → Prop}
    (h : (((nI 14) ≤ x5 → wp X (0, 0) 195 4 [some (.ref 74), some (.int x1), some (.int x2), some (.int x3), some (.int (x4 + nI 1)), none, none] [] iv (Ri P)) ∧ (¬ ((nI 14) ≤ x5) → ((x3 = 0 → wc X 192 [.ref 74, .int x2, .int x4] iv (Ri (fun r2 iv1 => ((r2 = 0 → vp_in (x2 + (nI 1)) 14 ∧ (∀ iv3 : IV, iv3 = mm_up2 iv1 99 (x2 + (nI 1)).toNatClampNeg x5 → wp X (0, 0) 195 39 [some (.ref 74), some (.int x1), some (.int x2), some (.int x3), some (.int x4), some (.int x5), some (.int (x5 + (nI 1)))] [] iv3 (Ri P))) ∧ (¬ (r2 = 0) → wp X (0, 0) 195 4 [some (.ref 74), some (.int x1), some (.int x2), some (.int x3), some (.int (x4 + nI 1)), none, none] [] iv1 (Ri P)))))) ∧ (¬ (x3 = 0) → wp X (0, 0) 195 4 [some (.ref 74), some (.int x1), some (.int x2), some (.int x3), some (.int (x4 + nI 1)), none, none] [] iv (Ri P)))))) :
    wp X (0, 0) 195 18 [some (.ref 74), some (.int x1), some (.int x2), some (.int x3), some (.int x4), some (.int x5), none] [] iv (Ri P) := by
  have hT := tb_195
  refine wp_s hT 2 (i' := 20) (L' := [some (.ref 74), some (.int x1), some (.int x2), some (.int x3), some (.int x4), some (.int x5), none]) (st' := [.int (nI 14), .int x5]) rfl ?_
  refine wp_ic_ge hT rfl ⟨fun c => ?_, fun c => ?_⟩
  · have h := h.1 c
    refine wp_s hT 2 (i' := 4) (L' := [some (.ref 74), some (.int x1), some (.int x2), some (.int x3), some (.int (x4 + nI 1)), some (.int x5), none]) (st' := []) rfl ?_
    refine wp_le (L := [some (.ref 74), some (.int x1), some (.int x2), some (.int x3), some (.int (x4 + nI 1)), none, none]) ⟨Or.inl rfl, Or.inl rfl, Or.inl rfl, Or.inl rfl, Or.inl rfl, Or.inr ⟨rfl, rfl⟩, Or.inl rfl, trivial⟩ ?_
    exact h
  · have h := h.2 c
    refine wp_s hT 1 (i' := 22) (L' := [some (.ref 74), some (.int x1), some (.int x2), some (.int x3), some (.int x4), some (.int x5), none]) (st' := [.int x3]) rfl ?_
    refine wp_if_ne hT rfl ⟨fun c => ?_, fun c => ?_⟩
    · have h := h.1 c
      refine wp_s hT 3 (i' := 26) (L' := [some (.ref 74), some (.int x1), some (.int x2), some (.int x3), some (.int x4), some (.int x5), none]) (st' := [.int x4, .int x2, .ref 74]) rfl ?_
      refine wp_calli hT rfl rfl h (fun r2 iv1 h => ?_)
      refine wp_if_ne hT rfl ⟨fun c => ?_, fun c => ?_⟩
      · have h := h.1 c
        refine wp_s hT 6 (i' := 34) (L' := [some (.ref 74), some (.int x1), some (.int x2), some (.int x3), some (.int x4), some (.int x5), none]) (st' := [.int x5, .int (x2 + (nI 1)), .ref 99]) rfl ?_
        refine wp_iast hT rfl rfl ⟨h.1, ?_⟩
        have h := h.2
        have h := h _ rfl
        refine wp_s hT 4 (i' := 39) (L' := [some (.ref 74), some (.int x1), some (.int x2), some (.int x3), some (.int x4), some (.int x5), some (.int (x5 + (nI 1)))]) (st' := []) rfl ?_
        exact h
      · have h := h.2 c
        refine wp_s hT 2 (i' := 4) (L' := [some (.ref 74), some (.int x1), some (.int x2), some (.int x3), some (.int (x4 + nI 1)), some (.int x5), none]) (st' := []) rfl ?_
        refine wp_le (L := [some (.ref 74), some (.int x1), some (.int x2), some (.int x3), some (.int (x4 + nI 1)), none, none]) ⟨Or.inl rfl, Or.inl rfl, Or.inl rfl, Or.inl rfl, Or.inl rfl, Or.inr ⟨rfl, rfl⟩, Or.inl rfl, trivial⟩ ?_
        exact h
    · have h := h.2 c
      refine wp_s hT 2 (i' := 4) (L' := [some (.ref 74), some (.int x1), some (.int x2), some (.int x3), some (.int (x4 + nI 1)), some (.int x5), none]) (st' := []) rfl ?_
      refine wp_le (L := [some (.ref 74), some (.int x1), some (.int x2), some (.int x3), some (.int (x4 + nI 1)), none, none]) ⟨Or.inl rfl, Or.inl rfl, Or.inl rfl, Or.inl rfl, Or.inl rfl, Or.inr ⟨rfl, rfl⟩, Or.inl rfl, trivial⟩ ?_
      exact h

theorem mk_X11_triesThree_4 {X : Nat × (Nat → Int32)} {x1 : Int32} {x2 : Int32} {x3 : Int32} {x4 : Int32} {iv : IV} {P : Int32 → IV → Prop}
    (h : (((nI 14) ≤ x4 → (x3 = 0 ∨ x3 = 1) ∧ P x3 iv) ∧ (¬ ((nI 14) ≤ x4) → ((x3 = 0 → vp_in x2 14 ∧ (∀ iv1 : IV, iv1 = mm_up2 iv 99 x2.toNatClampNeg x4 → wp X (0, 0) 195 18 [some (.ref 74), some (.int x1), some (.int x2), some (.int x3), some (.int x4), some (.int (x4 + (nI 1))), none] [] iv1 (Ri P))) ∧ (¬ (x3 = 0) → (x3 = 0 ∨ x3 = 1) ∧ P x3 iv))))) :
    wp X (0, 0) 195 4 [some (.ref 74), some (.int x1), some (.int x2), some (.int x3), some (.int x4), none, none] [] iv (Ri P) := by
  have hT := tb_195
  refine wp_s hT 2 (i' := 6) (L' := [some (.ref 74), some (.int x1), some (.int x2), some (.int x3), some (.int x4), none, none]) (st' := [.int (nI 14), .int x4]) rfl ?_
  refine wp_ic_ge hT rfl ⟨fun c => ?_, fun c => ?_⟩
  · have h := h.1 c
    refine wp_s hT 1 (i' := 79) (L' := [some (.ref 74), some (.int x1), some (.int x2), some (.int x3), some (.int x4), none, none]) (st' := [.int x3]) rfl ?_
    exact wp_rz hT rfl rfl ⟨h.1, ⟨_, rfl, h.2⟩⟩
  · have h := h.2 c
    refine wp_s hT 1 (i' := 8) (L' := [some (.ref 74), some (.int x1), some (.int x2), some (.int x3), some (.int x4), none, none]) (st' := [.int x3]) rfl ?_
    refine wp_if_ne hT rfl ⟨fun c => ?_, fun c => ?_⟩
    · have h := h.1 c
      refine wp_s hT 4 (i' := 13) (L' := [some (.ref 74), some (.int x1), some (.int x2), some (.int x3), some (.int x4), none, none]) (st' := [.int x4, .int x2, .ref 99]) rfl ?_
      refine wp_iast hT rfl rfl ⟨h.1, ?_⟩
      have h := h.2
      have h := h _ rfl
      refine wp_s hT 4 (i' := 18) (L' := [some (.ref 74), some (.int x1), some (.int x2), some (.int x3), some (.int x4), some (.int (x4 + (nI 1))), none]) (st' := []) rfl ?_
      exact h
    · have h := h.2 c
      refine wp_s hT 1 (i' := 79) (L' := [some (.ref 74), some (.int x1), some (.int x2), some (.int x3), some (.int x4), none, none]) (st' := [.int x3]) rfl ?_
      exact wp_rz hT rfl rfl ⟨h.1, ⟨_, rfl, h.2⟩⟩

theorem mk_X11_triesThree {X : Nat × (Nat → Int32)} {x1 : Int32} {x2 : Int32} {iv : IV} {P : Int32 → IV → Prop}
    (h : wp X (0, 0) 195 4 [some (.ref 74), some (.int x1), some (.int x2), some (.int (nI 0)), some (.int (nI 0)), none, none] [] iv (Ri P)) :
    wc X 195 [.ref 74, .int x1, .int x2] iv (Ri P) := by
  have hT := tb_195
  show wp X (0, 0) 195 0 [some (.ref 74), some (.int x1), some (.int x2), none, none, none, none] [] iv (Ri P)
  refine wp_s hT 4 (i' := 4) (L' := [some (.ref 74), some (.int x1), some (.int x2), some (.int (nI 0)), some (.int (nI 0)), none, none]) (st' := []) rfl ?_
  exact h

theorem mk_X11_tries {X : Nat × (Nat → Int32)} {x1 : Int32} {x2 : Int32} {x3 : Int32} {iv : IV} {P : Int32 → IV → Prop}
    (h : ((x3 = 0 → wc X 191 [.ref 74, .int x1, .int x2] iv (Ri (fun r2 iv1 => (r2 = 0 ∨ r2 = 1) ∧ P r2 iv1))) ∧ (¬ (x3 = 0) → ((x3 = (nI 1) → wc X 193 [.ref 74, .int x1, .int x2] iv (Ri (fun r4 iv3 => (r4 = 0 ∨ r4 = 1) ∧ P r4 iv3))) ∧ (¬ (x3 = (nI 1)) → ((x3 = (nI 2) → wc X 194 [.ref 74, .int x1, .int x2] iv (Ri (fun r6 iv5 => (r6 = 0 ∨ r6 = 1) ∧ P r6 iv5))) ∧ (¬ (x3 = (nI 2)) → wc X 195 [.ref 74, .int x1, .int x2] iv (Ri (fun r8 iv7 => (r8 = 0 ∨ r8 = 1) ∧ P r8 iv7))))))))) :
    wc X 196 [.ref 74, .int x1, .int x2, .int x3] iv (Ri P) := by
  have hT := tb_196
  show wp X (0, 0) 196 0 [some (.ref 74), some (.int x1), some (.int x2), some (.int x3)] [] iv (Ri P)
  refine wp_s hT 1 (i' := 1) (L' := [some (.ref 74), some (.int x1), some (.int x2), some (.int x3)]) (st' := [.int x3]) rfl ?_
  refine wp_if_ne hT rfl ⟨fun c => ?_, fun c => ?_⟩
  · have h := h.1 c
    refine wp_s hT 3 (i' := 5) (L' := [some (.ref 74), some (.int x1), some (.int x2), some (.int x3)]) (st' := [.int x2, .int x1, .ref 74]) rfl ?_
    refine wp_calli hT rfl rfl h (fun r2 iv1 h => ?_)
    refine wp_s hT 1 (i' := 27) (L' := [some (.ref 74), some (.int x1), some (.int x2), some (.int x3)]) (st' := [.int r2]) rfl ?_
    exact wp_rz hT rfl rfl ⟨h.1, ⟨_, rfl, h.2⟩⟩
  · have h := h.2 c
    refine wp_s hT 2 (i' := 9) (L' := [some (.ref 74), some (.int x1), some (.int x2), some (.int x3)]) (st' := [.int (nI 1), .int x3]) rfl ?_
    refine wp_ic_ne hT rfl ⟨fun c => ?_, fun c => ?_⟩
    · have h := h.1 c
      refine wp_s hT 3 (i' := 13) (L' := [some (.ref 74), some (.int x1), some (.int x2), some (.int x3)]) (st' := [.int x2, .int x1, .ref 74]) rfl ?_
      refine wp_calli hT rfl rfl h (fun r4 iv3 h => ?_)
      refine wp_s hT 1 (i' := 27) (L' := [some (.ref 74), some (.int x1), some (.int x2), some (.int x3)]) (st' := [.int r4]) rfl ?_
      exact wp_rz hT rfl rfl ⟨h.1, ⟨_, rfl, h.2⟩⟩
    · have h := h.2 c
      refine wp_s hT 2 (i' := 17) (L' := [some (.ref 74), some (.int x1), some (.int x2), some (.int x3)]) (st' := [.int (nI 2), .int x3]) rfl ?_
      refine wp_ic_ne hT rfl ⟨fun c => ?_, fun c => ?_⟩
      · have h := h.1 c
        refine wp_s hT 3 (i' := 21) (L' := [some (.ref 74), some (.int x1), some (.int x2), some (.int x3)]) (st' := [.int x2, .int x1, .ref 74]) rfl ?_
        refine wp_calli hT rfl rfl h (fun r6 iv5 h => ?_)
        refine wp_s hT 1 (i' := 27) (L' := [some (.ref 74), some (.int x1), some (.int x2), some (.int x3)]) (st' := [.int r6]) rfl ?_
        exact wp_rz hT rfl rfl ⟨h.1, ⟨_, rfl, h.2⟩⟩
      · have h := h.2 c
        refine wp_s hT 3 (i' := 26) (L' := [some (.ref 74), some (.int x1), some (.int x2), some (.int x3)]) (st' := [.int x2, .int x1, .ref 74]) rfl ?_
        refine wp_calli hT rfl rfl h (fun r8 iv7 h => ?_)
        exact wp_rz hT rfl rfl ⟨h.1, ⟨_, rfl, h.2⟩⟩

theorem mk_X11_mends_127 {X : Nat × (Nat → Int32)} {x1 : Int32} {x3 : Int32} {x4 : Int32} {iv : IV} {P : IV → Prop}
    (h : vp_in x1 3 ∧ (((iv 96 x1.toNatClampNeg) = (nI 4294967295) → P iv) ∧ (¬ ((iv 96 x1.toNatClampNeg) = (nI 4294967295)) → vp_in x1 3 ∧ (((x3 + (iv 96 x1.toNatClampNeg)) ≤ x4 → P iv) ∧ (¬ ((x3 + (iv 96 x1.toNatClampNeg)) ≤ x4) → vp_in x4 14 ∧ vp_in (((nI 14) * x1) + (iv 99 x4.toNatClampNeg)) 42 ∧ vp_in x4 7 ∧ vp_in (((nI 14) * x1) + (iv 99 x4.toNatClampNeg)) 42 ∧ (∀ iv1 : IV, iv1 = mm_up2 iv 94 (((nI 14) * x1) + (iv 99 x4.toNatClampNeg)).toNatClampNeg ((iv 94 (((nI 14) * x1) + (iv 99 x4.toNatClampNeg)).toNatClampNeg) ^^^ (iv 100 x4.toNatClampNeg)) → wp X (0, 0) 197 127 [some (.ref 74), some (.int x1), none, some (.int x3), some (.int (x4 + nI 1)), none, none] [] iv1 (Rv P))))))) :
    wp X (0, 0) 197 127 [some (.ref 74), some (.int x1), none, some (.int x3), some (.int x4), none, none] [] iv (Rv P) := by
  have hT := tb_197
  refine wp_s hT 3 (i' := 130) (L' := [some (.ref 74), some (.int x1), none, some (.int x3), some (.int x4), none, none]) (st' := [.int x1, .ref 96]) rfl ?_
  refine wp_iald hT rfl rfl ⟨h.1, ?_⟩
  have h := h.2
  refine wp_s hT 1 (i' := 132) (L' := [some (.ref 74), some (.int x1), none, some (.int x3), some (.int x4), none, none]) (st' := [.int (nI 4294967295), .int (iv 96 x1.toNatClampNeg)]) rfl ?_
  refine wp_ic_eq hT rfl ⟨fun c => ?_, fun c => ?_⟩
  · have h := h.1 c
    exact wp_rv hT rfl rfl ⟨rfl, h⟩
  · have h := h.2 c
    refine wp_s hT 5 (i' := 138) (L' := [some (.ref 74), some (.int x1), none, some (.int x3), some (.int x4), none, none]) (st' := [.int x1, .ref 96, .int x3, .int x4]) rfl ?_
    refine wp_iald hT rfl rfl ⟨h.1, ?_⟩
    have h := h.2
    refine wp_s hT 1 (i' := 140) (L' := [some (.ref 74), some (.int x1), none, some (.int x3), some (.int x4), none, none]) (st' := [.int (x3 + (iv 96 x1.toNatClampNeg)), .int x4]) rfl ?_
    refine wp_ic_ge hT rfl ⟨fun c => ?_, fun c => ?_⟩
    · have h := h.1 c
      exact wp_rv hT rfl rfl ⟨rfl, h⟩
    · have h := h.2 c
      refine wp_s hT 8 (i' := 149) (L' := [some (.ref 74), some (.int x1), none, some (.int x3), some (.int x4), none, none]) (st' := [.int x4, .ref 99, .int ((nI 14) * x1), .ref 94]) rfl ?_
      refine wp_iald hT rfl rfl ⟨h.1, ?_⟩
      have h := h.2
      refine wp_s hT 2 (i' := 152) (L' := [some (.ref 74), some (.int x1), none, some (.int x3), some (.int x4), none, none]) (st' := [.int (((nI 14) * x1) + (iv 99 x4.toNatClampNeg)), .ref 94, .int (((nI 14) * x1) + (iv 99 x4.toNatClampNeg)), .ref 94]) rfl ?_
      refine wp_iald hT rfl rfl ⟨h.1, ?_⟩
      have h := h.2
      refine wp_s hT 3 (i' := 156) (L' := [some (.ref 74), some (.int x1), none, some (.int x3), some (.int x4), none, none]) (st' := [.int x4, .ref 100, .int (iv 94 (((nI 14) * x1) + (iv 99 x4.toNatClampNeg)).toNatClampNeg), .int (((nI 14) * x1) + (iv 99 x4.toNatClampNeg)), .ref 94]) rfl ?_
      refine wp_iald hT rfl rfl ⟨h.1, ?_⟩
      have h := h.2
      refine wp_s hT 1 (i' := 158) (L' := [some (.ref 74), some (.int x1), none, some (.int x3), some (.int x4), none, none]) (st' := [.int ((iv 94 (((nI 14) * x1) + (iv 99 x4.toNatClampNeg)).toNatClampNeg) ^^^ (iv 100 x4.toNatClampNeg)), .int (((nI 14) * x1) + (iv 99 x4.toNatClampNeg)), .ref 94]) rfl ?_
      refine wp_iast hT rfl rfl ⟨h.1, ?_⟩
      have h := h.2
      have h := h _ rfl
      refine wp_s hT 2 (i' := 127) (L' := [some (.ref 74), some (.int x1), none, some (.int x3), some (.int (x4 + nI 1)), none, none]) (st' := []) rfl ?_
      exact h

theorem mk_X11_mends_97 {X : Nat × (Nat → Int32)} {x1 : Int32} {x2 : Int32} {x3 : Int32} {x4 : Int32} {iv : IV} {P : IV → Prop}
    (h : ((x2 < (x3 + ((nI 2) * x4)) → wp X (0, 0) 197 127 [some (.ref 74), some (.int x1), none, some (.int x3), some (.int (nI 0)), none, none] [] iv (Rv P)) ∧ (¬ (x2 < (x3 + ((nI 2) * x4))) → vp_in x1 3 ∧ (((iv 96 x1.toNatClampNeg) = (nI 4294967295) → wc X 196 [.ref 74, .int x2, .int x3, .int x4] iv (Ri (fun r2 iv1 => ((r2 = 0 → vp_in x1 3 ∧ (∀ iv3 : IV, iv3 = mm_up2 iv1 96 x1.toNatClampNeg (nI 4294967295) → wp X (0, 0) 197 97 [some (.ref 74), some (.int x1), some (.int x2), some (.int x3), some (.int (x4 + nI 1)), none, none] [] iv3 (Rv P))) ∧ (¬ (r2 = 0) → vp_in x1 3 ∧ (∀ iv4 : IV, iv4 = mm_up2 iv1 96 x1.toNatClampNeg x4 → wp X (0, 0) 197 97 [some (.ref 74), some (.int x1), some (.int x2), some (.int x3), some (.int (x4 + nI 1)), none, none] [] iv4 (Rv P))))))) ∧ (¬ ((iv 96 x1.toNatClampNeg) = (nI 4294967295)) → wp X (0, 0) 197 127 [some (.ref 74), some (.int x1), none, some (.int x3), some (.int (nI 0)), none, none] [] iv (Rv P)))))) :
    wp X (0, 0) 197 97 [some (.ref 74), some (.int x1), some (.int x2), some (.int x3), some (.int x4), none, none] [] iv (Rv P) := by
  have hT := tb_197
  refine wp_s hT 6 (i' := 103) (L' := [some (.ref 74), some (.int x1), some (.int x2), some (.int x3), some (.int x4), none, none]) (st' := [.int x2, .int (x3 + ((nI 2) * x4))]) rfl ?_
  refine wp_ic_gt hT rfl ⟨fun c => ?_, fun c => ?_⟩
  · have h := h.1 c
    refine wp_s hT 2 (i' := 127) (L' := [some (.ref 74), some (.int x1), some (.int x2), some (.int x3), some (.int (nI 0)), none, none]) (st' := []) rfl ?_
    refine wp_le (L := [some (.ref 74), some (.int x1), none, some (.int x3), some (.int (nI 0)), none, none]) ⟨Or.inl rfl, Or.inl rfl, Or.inr ⟨rfl, rfl⟩, Or.inl rfl, Or.inl rfl, Or.inl rfl, Or.inl rfl, trivial⟩ ?_
    exact h
  · have h := h.2 c
    refine wp_s hT 3 (i' := 107) (L' := [some (.ref 74), some (.int x1), some (.int x2), some (.int x3), some (.int x4), none, none]) (st' := [.int x1, .ref 96]) rfl ?_
    refine wp_iald hT rfl rfl ⟨h.1, ?_⟩
    have h := h.2
    refine wp_s hT 1 (i' := 109) (L' := [some (.ref 74), some (.int x1), some (.int x2), some (.int x3), some (.int x4), none, none]) (st' := [.int (nI 4294967295), .int (iv 96 x1.toNatClampNeg)]) rfl ?_
    refine wp_ic_ne hT rfl ⟨fun c => ?_, fun c => ?_⟩
    · have h := h.1 c
      refine wp_s hT 7 (i' := 117) (L' := [some (.ref 74), some (.int x1), some (.int x2), some (.int x3), some (.int x4), none, none]) (st' := [.int x4, .int x3, .int x2, .ref 74, .int x1, .ref 96]) rfl ?_
      refine wp_calli hT rfl rfl h (fun r2 iv1 h => ?_)
      refine wp_if_eq hT rfl ⟨fun c => ?_, fun c => ?_⟩
      · have h := h.1 c
        refine wp_s hT 1 (i' := 122) (L' := [some (.ref 74), some (.int x1), some (.int x2), some (.int x3), some (.int x4), none, none]) (st' := [.int (nI 4294967295), .int x1, .ref 96]) rfl ?_
        refine wp_iast hT rfl rfl ⟨h.1, ?_⟩
        have h := h.2
        have h := h _ rfl
        refine wp_s hT 2 (i' := 97) (L' := [some (.ref 74), some (.int x1), some (.int x2), some (.int x3), some (.int (x4 + nI 1)), none, none]) (st' := []) rfl ?_
        exact h
      · have h := h.2 c
        refine wp_s hT 2 (i' := 122) (L' := [some (.ref 74), some (.int x1), some (.int x2), some (.int x3), some (.int x4), none, none]) (st' := [.int x4, .int x1, .ref 96]) rfl ?_
        refine wp_iast hT rfl rfl ⟨h.1, ?_⟩
        have h := h.2
        have h := h _ rfl
        refine wp_s hT 2 (i' := 97) (L' := [some (.ref 74), some (.int x1), some (.int x2), some (.int x3), some (.int (x4 + nI 1)), none, none]) (st' := []) rfl ?_
        exact h
    · have h := h.2 c
      refine wp_s hT 2 (i' := 127) (L' := [some (.ref 74), some (.int x1), some (.int x2), some (.int x3), some (.int (nI 0)), none, none]) (st' := []) rfl ?_
      refine wp_le (L := [some (.ref 74), some (.int x1), none, some (.int x3), some (.int (nI 0)), none, none]) ⟨Or.inl rfl, Or.inl rfl, Or.inr ⟨rfl, rfl⟩, Or.inl rfl, Or.inl rfl, Or.inl rfl, Or.inl rfl, trivial⟩ ?_
      exact h

theorem mk_X11_mends_56 {X : Nat × (Nat → Int32)} {x1 : Int32} {x2 : Int32} {x3 : Int32} {x4 : Int32} {x5 : Int32} {x6 : Int32} {iv : IV} {P : IV → Prop}
    (h : ((x2 ≤ x6 → wp X (0, 0) 197 20 [some (.ref 74), some (.int x1), some (.int x2), some (.int x3), some (.int (x4 + nI 1)), none, none] [] iv (Rv P)) ∧ (¬ (x2 ≤ x6) → vp_in x6 6 ∧ ((x5 = (nI 4294967295) → vp_in x6 6 ∧ (∀ iv1 : IV, iv1 = mm_up2 iv 97 x6.toNatClampNeg ((iv 97 x6.toNatClampNeg) ^^^ (nI 0)) → wp X (0, 0) 197 56 [some (.ref 74), some (.int x1), some (.int x2), some (.int x3), some (.int x4), some (.int x5), some (.int (x6 + nI 1))] [] iv1 (Rv P))) ∧ (¬ (x5 = (nI 4294967295)) → wc X 140 [.ref 74, .int (x6 * ((nI 13) - x4))] iv (Ri (fun r3 iv2 => wc X 139 [.ref 74, .int x5, .int r3] iv2 (Ri (fun r5 iv4 => vp_in x6 6 ∧ (∀ iv6 : IV, iv6 = mm_up2 iv4 97 x6.toNatClampNeg ((iv 97 x6.toNatClampNeg) ^^^ r5) → wp X (0, 0) 197 56 [some (.ref 74), some (.int x1), some (.int x2), some (.int x3), some (.int x4), some (.int x5), some (.int (x6 + nI 1))] [] iv6 (Rv P))))))))))) :
    wp X (0, 0) 197 56 [some (.ref 74), some (.int x1), some (.int x2), some (.int x3), some (.int x4), some (.int x5), some (.int x6)] [] iv (Rv P) := by
  have hT := tb_197
  refine wp_s hT 2 (i' := 58) (L' := [some (.ref 74), some (.int x1), some (.int x2), some (.int x3), some (.int x4), some (.int x5), some (.int x6)]) (st' := [.int x2, .int x6]) rfl ?_
  refine wp_ic_ge hT rfl ⟨fun c => ?_, fun c => ?_⟩
  · have h := h.1 c
    refine wp_s hT 2 (i' := 20) (L' := [some (.ref 74), some (.int x1), some (.int x2), some (.int x3), some (.int (x4 + nI 1)), some (.int x5), some (.int x6)]) (st' := []) rfl ?_
    refine wp_le (L := [some (.ref 74), some (.int x1), some (.int x2), some (.int x3), some (.int (x4 + nI 1)), none, none]) ⟨Or.inl rfl, Or.inl rfl, Or.inl rfl, Or.inl rfl, Or.inl rfl, Or.inr ⟨rfl, rfl⟩, Or.inr ⟨rfl, rfl⟩, trivial⟩ ?_
    exact h
  · have h := h.2 c
    refine wp_s hT 4 (i' := 63) (L' := [some (.ref 74), some (.int x1), some (.int x2), some (.int x3), some (.int x4), some (.int x5), some (.int x6)]) (st' := [.int x6, .ref 97, .int x6, .ref 97]) rfl ?_
    refine wp_iald hT rfl rfl ⟨h.1, ?_⟩
    have h := h.2
    refine wp_s hT 2 (i' := 66) (L' := [some (.ref 74), some (.int x1), some (.int x2), some (.int x3), some (.int x4), some (.int x5), some (.int x6)]) (st' := [.int (nI 4294967295), .int x5, .int (iv 97 x6.toNatClampNeg), .int x6, .ref 97]) rfl ?_
    refine wp_ic_ne hT rfl ⟨fun c => ?_, fun c => ?_⟩
    · have h := h.1 c
      refine wp_s hT 3 (i' := 80) (L' := [some (.ref 74), some (.int x1), some (.int x2), some (.int x3), some (.int x4), some (.int x5), some (.int x6)]) (st' := [.int ((iv 97 x6.toNatClampNeg) ^^^ (nI 0)), .int x6, .ref 97]) rfl ?_
      refine wp_iast hT rfl rfl ⟨h.1, ?_⟩
      have h := h.2
      have h := h _ rfl
      refine wp_s hT 2 (i' := 56) (L' := [some (.ref 74), some (.int x1), some (.int x2), some (.int x3), some (.int x4), some (.int x5), some (.int (x6 + nI 1))]) (st' := []) rfl ?_
      exact h
    · have h := h.2 c
      refine wp_s hT 8 (i' := 77) (L' := [some (.ref 74), some (.int x1), some (.int x2), some (.int x3), some (.int x4), some (.int x5), some (.int x6)]) (st' := [.int (x6 * ((nI 13) - x4)), .ref 74, .int x5, .ref 74, .int (iv 97 x6.toNatClampNeg), .int x6, .ref 97]) rfl ?_
      refine wp_calli hT rfl rfl h (fun r3 iv2 h => ?_)
      refine wp_calli hT rfl rfl h (fun r5 iv4 h => ?_)
      refine wp_s hT 1 (i' := 80) (L' := [some (.ref 74), some (.int x1), some (.int x2), some (.int x3), some (.int x4), some (.int x5), some (.int x6)]) (st' := [.int ((iv 97 x6.toNatClampNeg) ^^^ r5), .int x6, .ref 97]) rfl ?_
      refine wp_iast hT rfl rfl ⟨h.1, ?_⟩
      have h := h.2
      have h := h _ rfl
      refine wp_s hT 2 (i' := 56) (L' := [some (.ref 74), some (.int x1), some (.int x2), some (.int x3), some (.int x4), some (.int x5), some (.int (x6 + nI 1))]) (st' := []) rfl ?_
      exact h

theorem mk_X11_mends_20 {X : Nat × (Nat → Int32)} {x1 : Int32} {x2 : Int32} {x3 : Int32} {x4 : Int32} {iv : IV} {P : IV → Prop}
    (h : (((nI 14) ≤ x4 → vp_in x1 3 ∧ (∀ iv1 : IV, iv1 = mm_up2 iv 95 x1.toNatClampNeg x3 → vp_in x1 3 ∧ (∀ iv2 : IV, iv2 = mm_up2 iv1 96 x1.toNatClampNeg (nI 4294967295) → wp X (0, 0) 197 97 [some (.ref 74), some (.int x1), some (.int x2), some (.int x3), some (.int (nI 0)), none, none] [] iv2 (Rv P)))) ∧ (¬ ((nI 14) ≤ x4) → wc X 188 [.ref 74, .int (((nI 3) * x4) + x1)] iv (Ri (fun r4 iv3 => ((r4 = (nI 4294967295) → vp_in (((nI 14) * x1) + x4) 42 ∧ (∀ iv5 : IV, iv5 = mm_up2 iv3 94 (((nI 14) * x1) + x4).toNatClampNeg (nI 0) → ((r4 = (nI 4294967295) → vp_in x3 14 ∧ (∀ iv6 : IV, iv6 = mm_up2 iv5 99 x3.toNatClampNeg x4 → wp X (0, 0) 197 56 [some (.ref 74), some (.int x1), some (.int x2), some (.int (x3 + nI 1)), some (.int x4), some (.int r4), some (.int (nI 0))] [] iv6 (Rv P))) ∧ (¬ (r4 = (nI 4294967295)) → wp X (0, 0) 197 56 [some (.ref 74), some (.int x1), some (.int x2), some (.int x3), some (.int x4), some (.int r4), some (.int (nI 0))] [] iv5 (Rv P))))) ∧ (¬ (r4 = (nI 4294967295)) → vp_in (((nI 14) * x1) + x4) 42 ∧ (∀ iv7 : IV, iv7 = mm_up2 iv3 94 (((nI 14) * x1) + x4).toNatClampNeg r4 → ((r4 = (nI 4294967295) → vp_in x3 14 ∧ (∀ iv8 : IV, iv8 = mm_up2 iv7 99 x3.toNatClampNeg x4 → wp X (0, 0) 197 56 [some (.ref 74), some (.int x1), some (.int x2), some (.int (x3 + nI 1)), some (.int x4), some (.int r4), some (.int (nI 0))] [] iv8 (Rv P))) ∧ (¬ (r4 = (nI 4294967295)) → wp X (0, 0) 197 56 [some (.ref 74), some (.int x1), some (.int x2), some (.int x3), some (.int x4), some (.int r4), some (.int (nI 0))] [] iv7 (Rv P))))))))))) :
    wp X (0, 0) 197 20 [some (.ref 74), some (.int x1), some (.int x2), some (.int x3), some (.int x4), none, none] [] iv (Rv P) := by
  have hT := tb_197
  refine wp_s hT 2 (i' := 22) (L' := [some (.ref 74), some (.int x1), some (.int x2), some (.int x3), some (.int x4), none, none]) (st' := [.int (nI 14), .int x4]) rfl ?_
  refine wp_ic_ge hT rfl ⟨fun c => ?_, fun c => ?_⟩
  · have h := h.1 c
    refine wp_s hT 4 (i' := 89) (L' := [some (.ref 74), some (.int x1), some (.int x2), some (.int x3), some (.int x4), none, none]) (st' := [.int x3, .int x1, .ref 95]) rfl ?_
    refine wp_iast hT rfl rfl ⟨h.1, ?_⟩
    have h := h.2
    have h := h _ rfl
    refine wp_s hT 4 (i' := 94) (L' := [some (.ref 74), some (.int x1), some (.int x2), some (.int x3), some (.int x4), none, none]) (st' := [.int (nI 4294967295), .int x1, .ref 96]) rfl ?_
    refine wp_iast hT rfl rfl ⟨h.1, ?_⟩
    have h := h.2
    have h := h _ rfl
    refine wp_s hT 2 (i' := 97) (L' := [some (.ref 74), some (.int x1), some (.int x2), some (.int x3), some (.int (nI 0)), none, none]) (st' := []) rfl ?_
    exact h
  · have h := h.2 c
    refine wp_s hT 6 (i' := 29) (L' := [some (.ref 74), some (.int x1), some (.int x2), some (.int x3), some (.int x4), none, none]) (st' := [.int (((nI 3) * x4) + x1), .ref 74]) rfl ?_
    refine wp_calli hT rfl rfl h (fun r4 iv3 h => ?_)
    refine wp_s hT 10 (i' := 40) (L' := [some (.ref 74), some (.int x1), some (.int x2), some (.int x3), some (.int x4), some (.int r4), none]) (st' := [.int (nI 4294967295), .int r4, .int (((nI 14) * x1) + x4), .ref 94]) rfl ?_
    refine wp_ic_ne hT rfl ⟨fun c => ?_, fun c => ?_⟩
    · have h := h.1 c
      refine wp_s hT 2 (i' := 44) (L' := [some (.ref 74), some (.int x1), some (.int x2), some (.int x3), some (.int x4), some (.int r4), none]) (st' := [.int (nI 0), .int (((nI 14) * x1) + x4), .ref 94]) rfl ?_
      refine wp_iast hT rfl rfl ⟨h.1, ?_⟩
      have h := h.2
      have h := h _ rfl
      refine wp_s hT 2 (i' := 47) (L' := [some (.ref 74), some (.int x1), some (.int x2), some (.int x3), some (.int x4), some (.int r4), none]) (st' := [.int (nI 4294967295), .int r4]) rfl ?_
      refine wp_ic_ne hT rfl ⟨fun c => ?_, fun c => ?_⟩
      · have h := h.1 c
        refine wp_s hT 4 (i' := 52) (L' := [some (.ref 74), some (.int x1), some (.int x2), some (.int x3), some (.int x4), some (.int r4), none]) (st' := [.int x4, .int x3, .ref 99]) rfl ?_
        refine wp_iast hT rfl rfl ⟨h.1, ?_⟩
        have h := h.2
        have h := h _ rfl
        refine wp_s hT 3 (i' := 56) (L' := [some (.ref 74), some (.int x1), some (.int x2), some (.int (x3 + nI 1)), some (.int x4), some (.int r4), some (.int (nI 0))]) (st' := []) rfl ?_
        exact h
      · have h := h.2 c
        refine wp_s hT 2 (i' := 56) (L' := [some (.ref 74), some (.int x1), some (.int x2), some (.int x3), some (.int x4), some (.int r4), some (.int (nI 0))]) (st' := []) rfl ?_
        exact h
    · have h := h.2 c
      refine wp_s hT 1 (i' := 44) (L' := [some (.ref 74), some (.int x1), some (.int x2), some (.int x3), some (.int x4), some (.int r4), none]) (st' := [.int r4, .int (((nI 14) * x1) + x4), .ref 94]) rfl ?_
      refine wp_iast hT rfl rfl ⟨h.1, ?_⟩
      have h := h.2
      have h := h _ rfl
      refine wp_s hT 2 (i' := 47) (L' := [some (.ref 74), some (.int x1), some (.int x2), some (.int x3), some (.int x4), some (.int r4), none]) (st' := [.int (nI 4294967295), .int r4]) rfl ?_
      refine wp_ic_ne hT rfl ⟨fun c => ?_, fun c => ?_⟩
      · have h := h.1 c
        refine wp_s hT 4 (i' := 52) (L' := [some (.ref 74), some (.int x1), some (.int x2), some (.int x3), some (.int x4), some (.int r4), none]) (st' := [.int x4, .int x3, .ref 99]) rfl ?_
        refine wp_iast hT rfl rfl ⟨h.1, ?_⟩
        have h := h.2
        have h := h _ rfl
        refine wp_s hT 3 (i' := 56) (L' := [some (.ref 74), some (.int x1), some (.int x2), some (.int (x3 + nI 1)), some (.int x4), some (.int r4), some (.int (nI 0))]) (st' := []) rfl ?_
        exact h
      · have h := h.2 c
        refine wp_s hT 2 (i' := 56) (L' := [some (.ref 74), some (.int x1), some (.int x2), some (.int x3), some (.int x4), some (.int r4), some (.int (nI 0))]) (st' := []) rfl ?_
        exact h

theorem mk_X11_mends_8 {X : Nat × (Nat → Int32)} {x1 : Int32} {x2 : Int32} {x3 : Int32} {x4 : Int32} {iv : IV} {P : IV → Prop}
    (h : (((nI 6) ≤ x4 → wp X (0, 0) 197 20 [some (.ref 74), some (.int x1), some (.int x2), some (.int x3), some (.int (nI 0)), none, none] [] iv (Rv P)) ∧ (¬ ((nI 6) ≤ x4) → vp_in x4 6 ∧ (∀ iv1 : IV, iv1 = mm_up2 iv 97 x4.toNatClampNeg (nI 0) → wp X (0, 0) 197 8 [some (.ref 74), some (.int x1), some (.int x2), some (.int x3), some (.int (x4 + nI 1)), none, none] [] iv1 (Rv P))))) :
    wp X (0, 0) 197 8 [some (.ref 74), some (.int x1), some (.int x2), some (.int x3), some (.int x4), none, none] [] iv (Rv P) := by
  have hT := tb_197
  refine wp_s hT 2 (i' := 10) (L' := [some (.ref 74), some (.int x1), some (.int x2), some (.int x3), some (.int x4), none, none]) (st' := [.int (nI 6), .int x4]) rfl ?_
  refine wp_ic_ge hT rfl ⟨fun c => ?_, fun c => ?_⟩
  · have h := h.1 c
    refine wp_s hT 2 (i' := 20) (L' := [some (.ref 74), some (.int x1), some (.int x2), some (.int x3), some (.int (nI 0)), none, none]) (st' := []) rfl ?_
    exact h
  · have h := h.2 c
    refine wp_s hT 4 (i' := 15) (L' := [some (.ref 74), some (.int x1), some (.int x2), some (.int x3), some (.int x4), none, none]) (st' := [.int (nI 0), .int x4, .ref 97]) rfl ?_
    refine wp_iast hT rfl rfl ⟨h.1, ?_⟩
    have h := h.2
    have h := h _ rfl
    refine wp_s hT 2 (i' := 8) (L' := [some (.ref 74), some (.int x1), some (.int x2), some (.int x3), some (.int (x4 + nI 1)), none, none]) (st' := []) rfl ?_
    exact h

theorem mk_X11_mends {X : Nat × (Nat → Int32)} {x1 : Int32} {iv : IV} {P : IV → Prop}
    (h : wc X 152 [.int (iv 74 25)] iv (Ri (fun r2 iv1 => wp X (0, 0) 197 8 [some (.ref 74), some (.int x1), some (.int r2), some (.int (nI 0)), some (.int (nI 0)), none, none] [] iv1 (Rv P)))) :
    wc X 197 [.ref 74, .int x1] iv (Rv P) := by
  have hT := tb_197
  show wp X (0, 0) 197 0 [some (.ref 74), some (.int x1), none, none, none, none, none] [] iv (Rv P)
  refine wp_s hT 2 (i' := 2) (L' := [some (.ref 74), some (.int x1), none, none, none, none, none]) (st' := [.int (iv 74 25)]) rfl ?_
  refine wp_calli hT rfl rfl h (fun r2 iv1 h => ?_)
  refine wp_s hT 5 (i' := 8) (L' := [some (.ref 74), some (.int x1), some (.int r2), some (.int (nI 0)), some (.int (nI 0)), none, none]) (st' := []) rfl ?_
  exact h

theorem mk_X11_reading_47 {X : Nat × (Nat → Int32)} {x2 : Int32} {iv : IV} {P : IV → Prop}
    (h : (((nI 3) ≤ x2 → ((iv 74 24 = 0 → wc X 211 [.ref 74] iv (Ri (fun r2 iv1 => ((r2 = 0 → P iv1) ∧ (¬ (r2 = 0) → ∀ iv3 : IV, iv3 = mm_up2 iv1 74 24 (nI 3) → P iv3))))) ∧ (¬ (iv 74 24 = 0) → P iv))) ∧ (¬ ((nI 3) ≤ x2) → wc X 197 [.ref 74, .int x2] iv (Rv (fun iv4 => vp_in x2 3 ∧ (((iv4 96 x2.toNatClampNeg) = (nI 4294967295) → ∀ iv5 : IV, iv5 = mm_up2 iv4 74 24 (nI 2) → wp X (0, 0) 198 47 [some (.ref 74), none, some (.int (x2 + nI 1))] [] iv5 (Rv P)) ∧ (¬ ((iv4 96 x2.toNatClampNeg) = (nI 4294967295)) → ∀ iv6 : IV, iv6 = mm_up2 iv4 74 24 (iv4 74 24) → wp X (0, 0) 198 47 [some (.ref 74), none, some (.int (x2 + nI 1))] [] iv6 (Rv P)))))))) :
    wp X (0, 0) 198 47 [some (.ref 74), none, some (.int x2)] [] iv (Rv P) := by
  have hT := tb_198
  refine wp_s hT 2 (i' := 49) (L' := [some (.ref 74), none, some (.int x2)]) (st' := [.int (nI 3), .int x2]) rfl ?_
  refine wp_ic_ge hT rfl ⟨fun c => ?_, fun c => ?_⟩
  · have h := h.1 c
    refine wp_s hT 2 (i' := 69) (L' := [some (.ref 74), none, some (.int x2)]) (st' := [.int (iv 74 24)]) rfl ?_
    refine wp_if_ne hT rfl ⟨fun c => ?_, fun c => ?_⟩
    · have h := h.1 c
      refine wp_s hT 1 (i' := 71) (L' := [some (.ref 74), none, some (.int x2)]) (st' := [.ref 74]) rfl ?_
      refine wp_calli hT rfl rfl h (fun r2 iv1 h => ?_)
      refine wp_if_eq hT rfl ⟨fun c => ?_, fun c => ?_⟩
      · have h := h.1 c
        exact wp_rv hT rfl rfl ⟨rfl, h⟩
      · have h := h.2 c
        refine wp_s hT 2 (i' := 75) (L' := [some (.ref 74), none, some (.int x2)]) (st' := [.int (nI 3), .ref 74]) rfl ?_
        refine wp_puti hT rfl rfl ⟨by decide, by decide⟩ ?_
        have h := h _ rfl
        exact wp_rv hT rfl rfl ⟨rfl, h⟩
    · have h := h.2 c
      exact wp_rv hT rfl rfl ⟨rfl, h⟩
  · have h := h.2 c
    refine wp_s hT 2 (i' := 52) (L' := [some (.ref 74), none, some (.int x2)]) (st' := [.int x2, .ref 74]) rfl ?_
    refine wp_callv hT rfl rfl h (fun iv4 h => ?_)
    refine wp_s hT 4 (i' := 57) (L' := [some (.ref 74), none, some (.int x2)]) (st' := [.int x2, .ref 96, .ref 74]) rfl ?_
    refine wp_iald hT rfl rfl ⟨h.1, ?_⟩
    have h := h.2
    refine wp_s hT 1 (i' := 59) (L' := [some (.ref 74), none, some (.int x2)]) (st' := [.int (nI 4294967295), .int (iv4 96 x2.toNatClampNeg), .ref 74]) rfl ?_
    refine wp_ic_ne hT rfl ⟨fun c => ?_, fun c => ?_⟩
    · have h := h.1 c
      refine wp_s hT 2 (i' := 64) (L' := [some (.ref 74), none, some (.int x2)]) (st' := [.int (nI 2), .ref 74]) rfl ?_
      refine wp_puti hT rfl rfl ⟨by decide, by decide⟩ ?_
      have h := h _ rfl
      refine wp_s hT 2 (i' := 47) (L' := [some (.ref 74), none, some (.int (x2 + nI 1))]) (st' := []) rfl ?_
      exact h
    · have h := h.2 c
      refine wp_s hT 2 (i' := 64) (L' := [some (.ref 74), none, some (.int x2)]) (st' := [.int (iv4 74 24), .ref 74]) rfl ?_
      refine wp_puti hT rfl rfl ⟨by decide, by decide⟩ ?_
      have h := h _ rfl
      refine wp_s hT 2 (i' := 47) (L' := [some (.ref 74), none, some (.int (x2 + nI 1))]) (st' := []) rfl ?_
      exact h

theorem mk_X11_reading_27 {X : Nat × (Nat → Int32)} {x1 : Int32} {s0 : Int32} {iv : IV} {P : IV → Prop}
    (h : ∀ iv1 : IV, iv1 = mm_up2 iv 74 26 s0 → ((iv1 74 11 = 0 → ∀ iv2 : IV, iv2 = mm_up2 iv1 74 24 (nI 4) → ((iv2 74 24 ≤ 0 → wp X (0, 0) 198 47 [some (.ref 74), none, some (.int (nI 0))] [] iv2 (Rv P)) ∧ (¬ (iv2 74 24 ≤ 0) → P iv2))) ∧ (¬ (iv1 74 11 = 0) → ((x1 = (nI 4294967295) → ∀ iv3 : IV, iv3 = mm_up2 iv1 74 24 (nI 1) → ((iv3 74 24 ≤ 0 → wp X (0, 0) 198 47 [some (.ref 74), none, some (.int (nI 0))] [] iv3 (Rv P)) ∧ (¬ (iv3 74 24 ≤ 0) → P iv3))) ∧ (¬ (x1 = (nI 4294967295)) → ∀ iv4 : IV, iv4 = mm_up2 iv1 74 24 (nI 0) → ((iv4 74 24 ≤ 0 → wp X (0, 0) 198 47 [some (.ref 74), none, some (.int (nI 0))] [] iv4 (Rv P)) ∧ (¬ (iv4 74 24 ≤ 0) → P iv4))))))) :
    wp X (0, 0) 198 27 [some (.ref 74), some (.int x1), none] [.int s0, .ref 74] iv (Rv P) := by
  have hT := tb_198
  refine wp_puti hT rfl rfl ⟨by decide, by decide⟩ ?_
  have h := h _ rfl
  refine wp_s hT 3 (i' := 31) (L' := [some (.ref 74), some (.int x1), none]) (st' := [.int ((mm_up2 iv 74 26 s0) 74 11), .ref 74]) rfl ?_
  refine wp_if_ne hT rfl ⟨fun c => ?_, fun c => ?_⟩
  · have h := h.1 c
    refine wp_s hT 2 (i' := 40) (L' := [some (.ref 74), some (.int x1), none]) (st' := [.int (nI 4), .ref 74]) rfl ?_
    refine wp_puti hT rfl rfl ⟨by decide, by decide⟩ ?_
    have h := h _ rfl
    refine wp_s hT 2 (i' := 43) (L' := [some (.ref 74), some (.int x1), none]) (st' := [.int ((mm_up2 (mm_up2 iv 74 26 s0) 74 24 (nI 4)) 74 24)]) rfl ?_
    refine wp_if_le hT rfl ⟨fun c => ?_, fun c => ?_⟩
    · have h := h.1 c
      refine wp_s hT 2 (i' := 47) (L' := [some (.ref 74), some (.int x1), some (.int (nI 0))]) (st' := []) rfl ?_
      refine wp_le (L := [some (.ref 74), none, some (.int (nI 0))]) ⟨Or.inl rfl, Or.inr ⟨rfl, rfl⟩, Or.inl rfl, trivial⟩ ?_
      exact h
    · have h := h.2 c
      exact wp_rv hT rfl rfl ⟨rfl, h⟩
  · have h := h.2 c
    refine wp_s hT 2 (i' := 36) (L' := [some (.ref 74), some (.int x1), none]) (st' := [.int (nI 4294967295), .int x1, .ref 74]) rfl ?_
    refine wp_ic_ne hT rfl ⟨fun c => ?_, fun c => ?_⟩
    · have h := h.1 c
      refine wp_s hT 2 (i' := 40) (L' := [some (.ref 74), some (.int x1), none]) (st' := [.int (nI 1), .ref 74]) rfl ?_
      refine wp_puti hT rfl rfl ⟨by decide, by decide⟩ ?_
      have h := h _ rfl
      refine wp_s hT 2 (i' := 43) (L' := [some (.ref 74), some (.int x1), none]) (st' := [.int ((mm_up2 (mm_up2 iv 74 26 s0) 74 24 (nI 1)) 74 24)]) rfl ?_
      refine wp_if_le hT rfl ⟨fun c => ?_, fun c => ?_⟩
      · have h := h.1 c
        refine wp_s hT 2 (i' := 47) (L' := [some (.ref 74), some (.int x1), some (.int (nI 0))]) (st' := []) rfl ?_
        refine wp_le (L := [some (.ref 74), none, some (.int (nI 0))]) ⟨Or.inl rfl, Or.inr ⟨rfl, rfl⟩, Or.inl rfl, trivial⟩ ?_
        exact h
      · have h := h.2 c
        exact wp_rv hT rfl rfl ⟨rfl, h⟩
    · have h := h.2 c
      refine wp_s hT 1 (i' := 40) (L' := [some (.ref 74), some (.int x1), none]) (st' := [.int (nI 0), .ref 74]) rfl ?_
      refine wp_puti hT rfl rfl ⟨by decide, by decide⟩ ?_
      have h := h _ rfl
      refine wp_s hT 2 (i' := 43) (L' := [some (.ref 74), some (.int x1), none]) (st' := [.int ((mm_up2 (mm_up2 iv 74 26 s0) 74 24 (nI 0)) 74 24)]) rfl ?_
      refine wp_if_le hT rfl ⟨fun c => ?_, fun c => ?_⟩
      · have h := h.1 c
        refine wp_s hT 2 (i' := 47) (L' := [some (.ref 74), some (.int x1), some (.int (nI 0))]) (st' := []) rfl ?_
        refine wp_le (L := [some (.ref 74), none, some (.int (nI 0))]) ⟨Or.inl rfl, Or.inr ⟨rfl, rfl⟩, Or.inl rfl, trivial⟩ ?_
        exact h
      · have h := h.2 c
        exact wp_rv hT rfl rfl ⟨rfl, h⟩

theorem mk_X11_reading_7 {X : Nat × (Nat → Int32)} {s0 : Int32} {iv : IV} {P : IV → Prop}
    (h : ((s0 = (nI 4294967295) → ∀ iv1 : IV, iv1 = mm_up2 iv 74 25 (nI 4294967295) → ((s0 = (nI 4294967295) → wp X (0, 0) 198 27 [some (.ref 74), some (.int s0), none] [.int (nI 4294967295), .ref 74] iv1 (Rv P)) ∧ (¬ (s0 = (nI 4294967295)) → wp X (0, 0) 198 27 [some (.ref 74), some (.int s0), none] [.int (s0 - s0 / (nI 4) * (nI 4)), .ref 74] iv1 (Rv P)))) ∧ (¬ (s0 = (nI 4294967295)) → ∀ iv2 : IV, iv2 = mm_up2 iv 74 25 (s0 / (nI 4)) → ((s0 = (nI 4294967295) → wp X (0, 0) 198 27 [some (.ref 74), some (.int s0), none] [.int (nI 4294967295), .ref 74] iv2 (Rv P)) ∧ (¬ (s0 = (nI 4294967295)) → wp X (0, 0) 198 27 [some (.ref 74), some (.int s0), none] [.int (s0 - s0 / (nI 4) * (nI 4)), .ref 74] iv2 (Rv P)))))) :
    wp X (0, 0) 198 7 [some (.ref 74), none, none] [.int s0] iv (Rv P) := by
  have hT := tb_198
  refine wp_s hT 4 (i' := 11) (L' := [some (.ref 74), some (.int s0), none]) (st' := [.int (nI 4294967295), .int s0, .ref 74]) rfl ?_
  refine wp_ic_ne hT rfl ⟨fun c => ?_, fun c => ?_⟩
  · have h := h.1 c
    refine wp_s hT 2 (i' := 17) (L' := [some (.ref 74), some (.int s0), none]) (st' := [.int (nI 4294967295), .ref 74]) rfl ?_
    refine wp_puti hT rfl rfl ⟨by decide, by decide⟩ ?_
    have h := h _ rfl
    refine wp_s hT 3 (i' := 21) (L' := [some (.ref 74), some (.int s0), none]) (st' := [.int (nI 4294967295), .int s0, .ref 74]) rfl ?_
    refine wp_ic_ne hT rfl ⟨fun c => ?_, fun c => ?_⟩
    · have h := h.1 c
      refine wp_s hT 2 (i' := 27) (L' := [some (.ref 74), some (.int s0), none]) (st' := [.int (nI 4294967295), .ref 74]) rfl ?_
      exact h
    · have h := h.2 c
      refine wp_s hT 3 (i' := 27) (L' := [some (.ref 74), some (.int s0), none]) (st' := [.int (s0 - s0 / (nI 4) * (nI 4)), .ref 74]) rfl ?_
      exact h
  · have h := h.2 c
    refine wp_s hT 3 (i' := 17) (L' := [some (.ref 74), some (.int s0), none]) (st' := [.int (s0 / (nI 4)), .ref 74]) rfl ?_
    refine wp_puti hT rfl rfl ⟨by decide, by decide⟩ ?_
    have h := h _ rfl
    refine wp_s hT 3 (i' := 21) (L' := [some (.ref 74), some (.int s0), none]) (st' := [.int (nI 4294967295), .int s0, .ref 74]) rfl ?_
    refine wp_ic_ne hT rfl ⟨fun c => ?_, fun c => ?_⟩
    · have h := h.1 c
      refine wp_s hT 2 (i' := 27) (L' := [some (.ref 74), some (.int s0), none]) (st' := [.int (nI 4294967295), .ref 74]) rfl ?_
      exact h
    · have h := h.2 c
      refine wp_s hT 3 (i' := 27) (L' := [some (.ref 74), some (.int s0), none]) (st' := [.int (s0 - s0 / (nI 4) * (nI 4)), .ref 74]) rfl ?_
      exact h

theorem mk_X11_reading {X : Nat × (Nat → Int32)}  {iv : IV} {P : IV → Prop}
    (h : ((iv 74 11 = 0 → wp X (0, 0) 198 7 [some (.ref 74), none, none] [.int (nI 4294967295)] iv (Rv P)) ∧ (¬ (iv 74 11 = 0) → wc X 187 [.ref 74] iv (Ri (fun r2 iv1 => wp X (0, 0) 198 7 [some (.ref 74), none, none] [.int r2] iv1 (Rv P)))))) :
    wc X 198 [.ref 74] iv (Rv P) := by
  have hT := tb_198
  show wp X (0, 0) 198 0 [some (.ref 74), none, none] [] iv (Rv P)
  refine wp_s hT 2 (i' := 2) (L' := [some (.ref 74), none, none]) (st' := [.int (iv 74 11)]) rfl ?_
  refine wp_if_eq hT rfl ⟨fun c => ?_, fun c => ?_⟩
  · have h := h.1 c
    refine wp_s hT 1 (i' := 7) (L' := [some (.ref 74), none, none]) (st' := [.int (nI 4294967295)]) rfl ?_
    exact h
  · have h := h.2 c
    refine wp_s hT 1 (i' := 4) (L' := [some (.ref 74), none, none]) (st' := [.ref 74]) rfl ?_
    refine wp_calli hT rfl rfl h (fun r2 iv1 h => ?_)
    refine wp_s hT 1 (i' := 7) (L' := [some (.ref 74), none, none]) (st' := [.int r2]) rfl ?_
    exact h

theorem mk_X11_reads {X : Nat × (Nat → Int32)}  {iv : IV} {P : IV → Prop}
    (h : wc X 166 [.ref 74] iv (Rv (fun iv1 => wc X 198 [.ref 74] iv1 (Rv (fun iv2 => P iv2))))) :
    wc X 199 [.ref 74] iv (Rv P) := by
  have hT := tb_199
  show wp X (0, 0) 199 0 [some (.ref 74)] [] iv (Rv P)
  refine wp_s hT 1 (i' := 1) (L' := [some (.ref 74)]) (st' := [.ref 74]) rfl ?_
  refine wp_callv hT rfl rfl h (fun iv1 h => ?_)
  refine wp_s hT 1 (i' := 3) (L' := [some (.ref 74)]) (st' := [.ref 74]) rfl ?_
  refine wp_callv hT rfl rfl h (fun iv2 h => ?_)
  exact wp_rv hT rfl rfl ⟨rfl, h⟩

theorem mk_X11_why {X : Nat × (Nat → Int32)}  {iv : IV} {P : Int32 → IV → Prop}
    (h : wc X 199 [.ref 74] iv (Rv (fun iv1 => P (iv1 74 24) iv1))) :
    wc X 200 [.ref 74] iv (Ri P) := by
  have hT := tb_200
  show wp X (0, 0) 200 0 [some (.ref 74)] [] iv (Ri P)
  refine wp_s hT 1 (i' := 1) (L' := [some (.ref 74)]) (st' := [.ref 74]) rfl ?_
  refine wp_callv hT rfl rfl h (fun iv1 h => ?_)
  refine wp_s hT 2 (i' := 4) (L' := [some (.ref 74)]) (st' := [.int (iv1 74 24)]) rfl ?_
  exact wp_ri hT rfl rfl ⟨_, rfl, h⟩

theorem mk_X11_itemRead {X : Nat × (Nat → Int32)} {x1 : Int32} {iv : IV} {P : Int32 → IV → Prop}
    (h : vp_in (((nI 14) * (x1 - x1 / (nI 3) * (nI 3))) + (x1 / (nI 3))) 42 ∧ P (iv 94 (((nI 14) * (x1 - x1 / (nI 3) * (nI 3))) + (x1 / (nI 3))).toNatClampNeg) iv) :
    wc X 201 [.ref 74, .int x1] iv (Ri P) := by
  have hT := tb_201
  show wp X (0, 0) 201 0 [some (.ref 74), some (.int x1)] [] iv (Ri P)
  refine wp_s hT 11 (i' := 11) (L' := [some (.ref 74), some (.int x1)]) (st' := [.int (((nI 14) * (x1 - x1 / (nI 3) * (nI 3))) + (x1 / (nI 3))), .ref 94]) rfl ?_
  refine wp_iald hT rfl rfl ⟨h.1, ?_⟩
  have h := h.2
  exact wp_ri hT rfl rfl ⟨_, rfl, h⟩

theorem mk_X11_toldBy {X : Nat × (Nat → Int32)} {x1 : Int32} {iv : IV} {P : Int32 → IV → Prop}
    (h : ((iv 74 24 ≤ 0 → ((x1 = (nI 4294967295) → vp_in (nI 0) 42 ∧ P (iv 94 (nI 0).toNatClampNeg) iv) ∧ (¬ (x1 = (nI 4294967295)) → vp_in (nI 0) 42 ∧ (((iv 94 (nI 0).toNatClampNeg) ≤ x1 → P (nI 4294967295) iv) ∧ (¬ ((iv 94 (nI 0).toNatClampNeg) ≤ x1) → wc X 201 [.ref 74, .int ((nI 1) + ((nI 2) * x1))] iv (Ri (fun r2 iv1 => wc X 201 [.ref 74, .int ((nI 2) + ((nI 2) * x1))] iv1 (Ri (fun r4 iv3 => P (((nI 16) * r2) + r4) iv3))))))))) ∧ (¬ (iv 74 24 ≤ 0) → P (nI 4294967293) iv))) :
    wc X 202 [.ref 74, .int x1] iv (Ri P) := by
  have hT := tb_202
  show wp X (0, 0) 202 0 [some (.ref 74), some (.int x1)] [] iv (Ri P)
  refine wp_s hT 2 (i' := 2) (L' := [some (.ref 74), some (.int x1)]) (st' := [.int (iv 74 24)]) rfl ?_
  refine wp_if_le hT rfl ⟨fun c => ?_, fun c => ?_⟩
  · have h := h.1 c
    refine wp_s hT 2 (i' := 7) (L' := [some (.ref 74), some (.int x1)]) (st' := [.int (nI 4294967295), .int x1]) rfl ?_
    refine wp_ic_ne hT rfl ⟨fun c => ?_, fun c => ?_⟩
    · have h := h.1 c
      refine wp_s hT 3 (i' := 11) (L' := [some (.ref 74), some (.int x1)]) (st' := [.int (nI 0), .ref 94]) rfl ?_
      refine wp_iald hT rfl rfl ⟨h.1, ?_⟩
      have h := h.2
      refine wp_s hT 1 (i' := 38) (L' := [some (.ref 74), some (.int x1)]) (st' := [.int (iv 94 (nI 0).toNatClampNeg)]) rfl ?_
      exact wp_ri hT rfl rfl ⟨_, rfl, h⟩
    · have h := h.2 c
      refine wp_s hT 4 (i' := 17) (L' := [some (.ref 74), some (.int x1)]) (st' := [.int (nI 0), .ref 94, .int x1]) rfl ?_
      refine wp_iald hT rfl rfl ⟨h.1, ?_⟩
      have h := h.2
      refine wp_ic_ge hT rfl ⟨fun c => ?_, fun c => ?_⟩
      · have h := h.1 c
        refine wp_s hT 1 (i' := 38) (L' := [some (.ref 74), some (.int x1)]) (st' := [.int (nI 4294967295)]) rfl ?_
        exact wp_ri hT rfl rfl ⟨_, rfl, h⟩
      · have h := h.2 c
        refine wp_s hT 7 (i' := 26) (L' := [some (.ref 74), some (.int x1)]) (st' := [.int ((nI 1) + ((nI 2) * x1)), .ref 74, .int (nI 16)]) rfl ?_
        refine wp_calli hT rfl rfl h (fun r2 iv1 h => ?_)
        refine wp_s hT 7 (i' := 34) (L' := [some (.ref 74), some (.int x1)]) (st' := [.int ((nI 2) + ((nI 2) * x1)), .ref 74, .int ((nI 16) * r2)]) rfl ?_
        refine wp_calli hT rfl rfl h (fun r4 iv3 h => ?_)
        refine wp_s hT 2 (i' := 38) (L' := [some (.ref 74), some (.int x1)]) (st' := [.int (((nI 16) * r2) + r4)]) rfl ?_
        exact wp_ri hT rfl rfl ⟨_, rfl, h⟩
  · have h := h.2 c
    refine wp_s hT 1 (i' := 4) (L' := [some (.ref 74), some (.int x1)]) (st' := [.int (nI 4294967293)]) rfl ?_
    exact wp_ri hT rfl rfl ⟨_, rfl, h⟩

theorem mk_X11_told {X : Nat × (Nat → Int32)} {x1 : Int32} {iv : IV} {P : Int32 → IV → Prop}
    (h : wc X 199 [.ref 74] iv (Rv (fun iv1 => wc X 122 [.long x1.toInt64, .long (lN 18446744073709551615), .long (lN 13)] iv1 (Ri (fun r3 iv2 => ((r3 = 0 → P (nI 4294967294) iv2) ∧ (¬ (r3 = 0) → wc X 202 [.ref 74, .int x1] iv2 (Ri (fun r5 iv4 => P r5 iv4))))))))) :
    wc X 203 [.ref 74, .int x1] iv (Ri P) := by
  have hT := tb_203
  show wp X (0, 0) 203 0 [some (.ref 74), some (.int x1)] [] iv (Ri P)
  refine wp_s hT 1 (i' := 1) (L' := [some (.ref 74), some (.int x1)]) (st' := [.ref 74]) rfl ?_
  refine wp_callv hT rfl rfl h (fun iv1 h => ?_)
  refine wp_s hT 4 (i' := 6) (L' := [some (.ref 74), some (.int x1)]) (st' := [.long (lN 13), .long (lN 18446744073709551615), .long x1.toInt64]) rfl ?_
  refine wp_calli hT rfl rfl h (fun r3 iv2 h => ?_)
  refine wp_if_eq hT rfl ⟨fun c => ?_, fun c => ?_⟩
  · have h := h.1 c
    refine wp_s hT 1 (i' := 13) (L' := [some (.ref 74), some (.int x1)]) (st' := [.int (nI 4294967294)]) rfl ?_
    exact wp_ri hT rfl rfl ⟨_, rfl, h⟩
  · have h := h.2 c
    refine wp_s hT 2 (i' := 10) (L' := [some (.ref 74), some (.int x1)]) (st' := [.int x1, .ref 74]) rfl ?_
    refine wp_calli hT rfl rfl h (fun r5 iv4 h => ?_)
    refine wp_s hT 1 (i' := 13) (L' := [some (.ref 74), some (.int x1)]) (st' := [.int r5]) rfl ?_
    exact wp_ri hT rfl rfl ⟨_, rfl, h⟩

theorem mk_X11_formatBy {X : Nat × (Nat → Int32)} {x1 : Int32} {iv : IV} {P : Int32 → IV → Prop}
    (h : ((x1 = 0 → P (iv 74 25) iv) ∧ (¬ (x1 = 0) → P (iv 74 26) iv))) :
    wc X 204 [.ref 74, .int x1] iv (Ri P) := by
  have hT := tb_204
  show wp X (0, 0) 204 0 [some (.ref 74), some (.int x1)] [] iv (Ri P)
  refine wp_s hT 1 (i' := 1) (L' := [some (.ref 74), some (.int x1)]) (st' := [.int x1]) rfl ?_
  refine wp_if_ne hT rfl ⟨fun c => ?_, fun c => ?_⟩
  · have h := h.1 c
    refine wp_s hT 3 (i' := 7) (L' := [some (.ref 74), some (.int x1)]) (st' := [.int (iv 74 25)]) rfl ?_
    exact wp_ri hT rfl rfl ⟨_, rfl, h⟩
  · have h := h.2 c
    refine wp_s hT 2 (i' := 7) (L' := [some (.ref 74), some (.int x1)]) (st' := [.int (iv 74 26)]) rfl ?_
    exact wp_ri hT rfl rfl ⟨_, rfl, h⟩

theorem mk_X11_format {X : Nat × (Nat → Int32)} {x1 : Int32} {iv : IV} {P : Int32 → IV → Prop}
    (h : wc X 199 [.ref 74] iv (Rv (fun iv1 => wc X 123 [.int x1] iv1 (Ri (fun r3 iv2 => ((r3 = 0 → P (nI 4294967294) iv2) ∧ (¬ (r3 = 0) → wc X 204 [.ref 74, .int x1] iv2 (Ri (fun r5 iv4 => P r5 iv4))))))))) :
    wc X 205 [.ref 74, .int x1] iv (Ri P) := by
  have hT := tb_205
  show wp X (0, 0) 205 0 [some (.ref 74), some (.int x1)] [] iv (Ri P)
  refine wp_s hT 1 (i' := 1) (L' := [some (.ref 74), some (.int x1)]) (st' := [.ref 74]) rfl ?_
  refine wp_callv hT rfl rfl h (fun iv1 h => ?_)
  refine wp_s hT 1 (i' := 3) (L' := [some (.ref 74), some (.int x1)]) (st' := [.int x1]) rfl ?_
  refine wp_calli hT rfl rfl h (fun r3 iv2 h => ?_)
  refine wp_if_eq hT rfl ⟨fun c => ?_, fun c => ?_⟩
  · have h := h.1 c
    refine wp_s hT 1 (i' := 10) (L' := [some (.ref 74), some (.int x1)]) (st' := [.int (nI 4294967294)]) rfl ?_
    exact wp_ri hT rfl rfl ⟨_, rfl, h⟩
  · have h := h.2 c
    refine wp_s hT 2 (i' := 7) (L' := [some (.ref 74), some (.int x1)]) (st' := [.int x1, .ref 74]) rfl ?_
    refine wp_calli hT rfl rfl h (fun r5 iv4 h => ?_)
    refine wp_s hT 1 (i' := 10) (L' := [some (.ref 74), some (.int x1)]) (st' := [.int r5]) rfl ?_
    exact wp_ri hT rfl rfl ⟨_, rfl, h⟩

theorem mk_X11_isBlind {X : Nat × (Nat → Int32)}  {iv : IV} {P : Int32 → IV → Prop}
    (h : (((iv 74 24) = (nI 4) → P (nI 1) iv) ∧ (¬ ((iv 74 24) = (nI 4)) → (((iv 74 24) = (nI 1) → P (nI 1) iv) ∧ (¬ ((iv 74 24) = (nI 1)) → P (nI 0) iv))))) :
    wc X 206 [.ref 74] iv (Ri P) := by
  have hT := tb_206
  show wp X (0, 0) 206 0 [some (.ref 74)] [] iv (Ri P)
  refine wp_s hT 3 (i' := 3) (L' := [some (.ref 74)]) (st' := [.int (nI 4), .int (iv 74 24)]) rfl ?_
  refine wp_ic_eq hT rfl ⟨fun c => ?_, fun c => ?_⟩
  · have h := h.1 c
    refine wp_s hT 2 (i' := 11) (L' := [some (.ref 74)]) (st' := [.int (nI 1)]) rfl ?_
    exact wp_rz hT rfl rfl ⟨Or.inr rfl, ⟨_, rfl, h⟩⟩
  · have h := h.2 c
    refine wp_s hT 3 (i' := 7) (L' := [some (.ref 74)]) (st' := [.int (nI 1), .int (iv 74 24)]) rfl ?_
    refine wp_ic_ne hT rfl ⟨fun c => ?_, fun c => ?_⟩
    · have h := h.1 c
      refine wp_s hT 2 (i' := 11) (L' := [some (.ref 74)]) (st' := [.int (nI 1)]) rfl ?_
      exact wp_rz hT rfl rfl ⟨Or.inr rfl, ⟨_, rfl, h⟩⟩
    · have h := h.2 c
      refine wp_s hT 1 (i' := 11) (L' := [some (.ref 74)]) (st' := [.int (nI 0)]) rfl ?_
      exact wp_rz hT rfl rfl ⟨Or.inl rfl, ⟨_, rfl, h⟩⟩

theorem mk_X11_blockBy {X : Nat × (Nat → Int32)} {x1 : Int32} {x2 : Int32} {iv : IV} {P : Int32 → IV → Prop}
    (h : wc X 206 [.ref 74] iv (Ri (fun r2 iv1 => ((r2 = 0 → vp_in x1 3 ∧ ∀ v3 : Int32, v3 = iv1 96 x1.toNatClampNeg → ((x2 = 0 → vp_in x1 3 ∧ P (iv1 95 x1.toNatClampNeg) iv1) ∧ (¬ (x2 = 0) → ((x2 = (nI 1) → P v3 iv1) ∧ (¬ (x2 = (nI 1)) → ((v3 = (nI 4294967295) → P v3 iv1) ∧ (¬ (v3 = (nI 4294967295)) → wc X 152 [.int (iv1 74 25)] iv1 (Ri (fun r5 iv4 => vp_in x1 3 ∧ P ((r5 - (iv4 95 x1.toNatClampNeg)) - ((nI 2) * v3)) iv4))))))))) ∧ (¬ (r2 = 0) → P (nI 4294967293) iv1))))) :
    wc X 207 [.ref 74, .int x1, .int x2] iv (Ri P) := by
  have hT := tb_207
  show wp X (0, 0) 207 0 [some (.ref 74), some (.int x1), some (.int x2), none] [] iv (Ri P)
  refine wp_s hT 1 (i' := 1) (L' := [some (.ref 74), some (.int x1), some (.int x2), none]) (st' := [.ref 74]) rfl ?_
  refine wp_calli hT rfl rfl h (fun r2 iv1 h => ?_)
  refine wp_if_eq hT rfl ⟨fun c => ?_, fun c => ?_⟩
  · have h := h.1 c
    refine wp_s hT 3 (i' := 8) (L' := [some (.ref 74), some (.int x1), some (.int x2), none]) (st' := [.int x1, .ref 96]) rfl ?_
    refine wp_iald hT rfl rfl ⟨h.1, ?_⟩
    have h := h.2
    refine wp_s hT 1 (i' := 10) (L' := [some (.ref 74), some (.int x1), some (.int x2), some (.int (iv1 96 x1.toNatClampNeg))]) (st' := []) rfl ?_
    have h := h _ rfl
    refine wp_s hT 1 (i' := 11) (L' := [some (.ref 74), some (.int x1), some (.int x2), some (.int (iv1 96 x1.toNatClampNeg))]) (st' := [.int x2]) rfl ?_
    refine wp_if_ne hT rfl ⟨fun c => ?_, fun c => ?_⟩
    · have h := h.1 c
      refine wp_s hT 3 (i' := 15) (L' := [some (.ref 74), some (.int x1), some (.int x2), some (.int (iv1 96 x1.toNatClampNeg))]) (st' := [.int x1, .ref 95]) rfl ?_
      refine wp_iald hT rfl rfl ⟨h.1, ?_⟩
      have h := h.2
      refine wp_s hT 1 (i' := 37) (L' := [some (.ref 74), some (.int x1), some (.int x2), some (.int (iv1 96 x1.toNatClampNeg))]) (st' := [.int (iv1 95 x1.toNatClampNeg)]) rfl ?_
      exact wp_ri hT rfl rfl ⟨_, rfl, h⟩
    · have h := h.2 c
      refine wp_s hT 2 (i' := 19) (L' := [some (.ref 74), some (.int x1), some (.int x2), some (.int (iv1 96 x1.toNatClampNeg))]) (st' := [.int (nI 1), .int x2]) rfl ?_
      refine wp_ic_eq hT rfl ⟨fun c => ?_, fun c => ?_⟩
      · have h := h.1 c
        refine wp_s hT 2 (i' := 37) (L' := [some (.ref 74), some (.int x1), some (.int x2), some (.int (iv1 96 x1.toNatClampNeg))]) (st' := [.int (iv1 96 x1.toNatClampNeg)]) rfl ?_
        exact wp_ri hT rfl rfl ⟨_, rfl, h⟩
      · have h := h.2 c
        refine wp_s hT 2 (i' := 22) (L' := [some (.ref 74), some (.int x1), some (.int x2), some (.int (iv1 96 x1.toNatClampNeg))]) (st' := [.int (nI 4294967295), .int (iv1 96 x1.toNatClampNeg)]) rfl ?_
        refine wp_ic_ne hT rfl ⟨fun c => ?_, fun c => ?_⟩
        · have h := h.1 c
          refine wp_s hT 2 (i' := 37) (L' := [some (.ref 74), some (.int x1), some (.int x2), some (.int (iv1 96 x1.toNatClampNeg))]) (st' := [.int (iv1 96 x1.toNatClampNeg)]) rfl ?_
          exact wp_ri hT rfl rfl ⟨_, rfl, h⟩
        · have h := h.2 c
          refine wp_s hT 2 (i' := 27) (L' := [some (.ref 74), some (.int x1), some (.int x2), some (.int (iv1 96 x1.toNatClampNeg))]) (st' := [.int (iv1 74 25)]) rfl ?_
          refine wp_calli hT rfl rfl h (fun r5 iv4 h => ?_)
          refine wp_s hT 3 (i' := 31) (L' := [some (.ref 74), some (.int x1), some (.int x2), some (.int (iv1 96 x1.toNatClampNeg))]) (st' := [.int x1, .ref 95, .int r5]) rfl ?_
          refine wp_iald hT rfl rfl ⟨h.1, ?_⟩
          have h := h.2
          refine wp_s hT 5 (i' := 37) (L' := [some (.ref 74), some (.int x1), some (.int x2), some (.int (iv1 96 x1.toNatClampNeg))]) (st' := [.int ((r5 - (iv4 95 x1.toNatClampNeg)) - ((nI 2) * (iv1 96 x1.toNatClampNeg)))]) rfl ?_
          exact wp_ri hT rfl rfl ⟨_, rfl, h⟩
  · have h := h.2 c
    refine wp_s hT 1 (i' := 4) (L' := [some (.ref 74), some (.int x1), some (.int x2), none]) (st' := [.int (nI 4294967293)]) rfl ?_
    exact wp_ri hT rfl rfl ⟨_, rfl, h⟩

theorem mk_X11_block {X : Nat × (Nat → Int32)} {x1 : Int32} {x2 : Int32} {iv : IV} {P : Int32 → IV → Prop}
    (h : wc X 199 [.ref 74] iv (Rv (fun iv1 => wc X 122 [.long x1.toInt64, .long (lN 0), .long (lN 2)] iv1 (Ri (fun r3 iv2 => ((r3 = 0 → P (nI 4294967294) iv2) ∧ (¬ (r3 = 0) → wc X 122 [.long x2.toInt64, .long (lN 0), .long (lN 2)] iv2 (Ri (fun r5 iv4 => ((r5 = 0 → P (nI 4294967294) iv4) ∧ (¬ (r5 = 0) → wc X 207 [.ref 74, .int x1, .int x2] iv4 (Ri (fun r7 iv6 => P r7 iv6))))))))))))) :
    wc X 208 [.ref 74, .int x1, .int x2] iv (Ri P) := by
  have hT := tb_208
  show wp X (0, 0) 208 0 [some (.ref 74), some (.int x1), some (.int x2)] [] iv (Ri P)
  refine wp_s hT 1 (i' := 1) (L' := [some (.ref 74), some (.int x1), some (.int x2)]) (st' := [.ref 74]) rfl ?_
  refine wp_callv hT rfl rfl h (fun iv1 h => ?_)
  refine wp_s hT 4 (i' := 6) (L' := [some (.ref 74), some (.int x1), some (.int x2)]) (st' := [.long (lN 2), .long (lN 0), .long x1.toInt64]) rfl ?_
  refine wp_calli hT rfl rfl h (fun r3 iv2 h => ?_)
  refine wp_if_eq hT rfl ⟨fun c => ?_, fun c => ?_⟩
  · have h := h.1 c
    refine wp_s hT 1 (i' := 20) (L' := [some (.ref 74), some (.int x1), some (.int x2)]) (st' := [.int (nI 4294967294)]) rfl ?_
    exact wp_ri hT rfl rfl ⟨_, rfl, h⟩
  · have h := h.2 c
    refine wp_s hT 4 (i' := 12) (L' := [some (.ref 74), some (.int x1), some (.int x2)]) (st' := [.long (lN 2), .long (lN 0), .long x2.toInt64]) rfl ?_
    refine wp_calli hT rfl rfl h (fun r5 iv4 h => ?_)
    refine wp_if_eq hT rfl ⟨fun c => ?_, fun c => ?_⟩
    · have h := h.1 c
      refine wp_s hT 1 (i' := 20) (L' := [some (.ref 74), some (.int x1), some (.int x2)]) (st' := [.int (nI 4294967294)]) rfl ?_
      exact wp_ri hT rfl rfl ⟨_, rfl, h⟩
    · have h := h.2 c
      refine wp_s hT 3 (i' := 17) (L' := [some (.ref 74), some (.int x1), some (.int x2)]) (st' := [.int x2, .int x1, .ref 74]) rfl ?_
      refine wp_calli hT rfl rfl h (fun r7 iv6 h => ?_)
      refine wp_s hT 1 (i' := 20) (L' := [some (.ref 74), some (.int x1), some (.int x2)]) (st' := [.int r7]) rfl ?_
      exact wp_ri hT rfl rfl ⟨_, rfl, h⟩

theorem mk_X11_mendedBy {X : Nat × (Nat → Int32)} {x1 : Int32} {x2 : Int32} {iv : IV} {P : Int32 → IV → Prop}
    (h : wc X 206 [.ref 74] iv (Ri (fun r2 iv1 => ((r2 = 0 → vp_in x1 3 ∧ (((iv1 96 x1.toNatClampNeg) = (nI 4294967295) → P (nI 4294967295) iv1) ∧ (¬ ((iv1 96 x1.toNatClampNeg) = (nI 4294967295)) → vp_in (((nI 14) * x1) + x2) 42 ∧ P (iv1 94 (((nI 14) * x1) + x2).toNatClampNeg) iv1))) ∧ (¬ (r2 = 0) → P (nI 4294967293) iv1))))) :
    wc X 209 [.ref 74, .int x1, .int x2] iv (Ri P) := by
  have hT := tb_209
  show wp X (0, 0) 209 0 [some (.ref 74), some (.int x1), some (.int x2)] [] iv (Ri P)
  refine wp_s hT 1 (i' := 1) (L' := [some (.ref 74), some (.int x1), some (.int x2)]) (st' := [.ref 74]) rfl ?_
  refine wp_calli hT rfl rfl h (fun r2 iv1 h => ?_)
  refine wp_if_eq hT rfl ⟨fun c => ?_, fun c => ?_⟩
  · have h := h.1 c
    refine wp_s hT 3 (i' := 8) (L' := [some (.ref 74), some (.int x1), some (.int x2)]) (st' := [.int x1, .ref 96]) rfl ?_
    refine wp_iald hT rfl rfl ⟨h.1, ?_⟩
    have h := h.2
    refine wp_s hT 1 (i' := 10) (L' := [some (.ref 74), some (.int x1), some (.int x2)]) (st' := [.int (nI 4294967295), .int (iv1 96 x1.toNatClampNeg)]) rfl ?_
    refine wp_ic_ne hT rfl ⟨fun c => ?_, fun c => ?_⟩
    · have h := h.1 c
      refine wp_s hT 2 (i' := 21) (L' := [some (.ref 74), some (.int x1), some (.int x2)]) (st' := [.int (nI 4294967295)]) rfl ?_
      exact wp_ri hT rfl rfl ⟨_, rfl, h⟩
    · have h := h.2 c
      refine wp_s hT 7 (i' := 20) (L' := [some (.ref 74), some (.int x1), some (.int x2)]) (st' := [.int (((nI 14) * x1) + x2), .ref 94]) rfl ?_
      refine wp_iald hT rfl rfl ⟨h.1, ?_⟩
      have h := h.2
      exact wp_ri hT rfl rfl ⟨_, rfl, h⟩
  · have h := h.2 c
    refine wp_s hT 1 (i' := 4) (L' := [some (.ref 74), some (.int x1), some (.int x2)]) (st' := [.int (nI 4294967293)]) rfl ?_
    exact wp_ri hT rfl rfl ⟨_, rfl, h⟩

theorem mk_X11_mended {X : Nat × (Nat → Int32)} {x1 : Int32} {x2 : Int32} {iv : IV} {P : Int32 → IV → Prop}
    (h : wc X 199 [.ref 74] iv (Rv (fun iv1 => wc X 122 [.long x1.toInt64, .long (lN 0), .long (lN 2)] iv1 (Ri (fun r3 iv2 => ((r3 = 0 → P (nI 4294967294) iv2) ∧ (¬ (r3 = 0) → wc X 122 [.long x2.toInt64, .long (lN 0), .long (lN 13)] iv2 (Ri (fun r5 iv4 => ((r5 = 0 → P (nI 4294967294) iv4) ∧ (¬ (r5 = 0) → wc X 209 [.ref 74, .int x1, .int x2] iv4 (Ri (fun r7 iv6 => P r7 iv6))))))))))))) :
    wc X 210 [.ref 74, .int x1, .int x2] iv (Ri P) := by
  have hT := tb_210
  show wp X (0, 0) 210 0 [some (.ref 74), some (.int x1), some (.int x2)] [] iv (Ri P)
  refine wp_s hT 1 (i' := 1) (L' := [some (.ref 74), some (.int x1), some (.int x2)]) (st' := [.ref 74]) rfl ?_
  refine wp_callv hT rfl rfl h (fun iv1 h => ?_)
  refine wp_s hT 4 (i' := 6) (L' := [some (.ref 74), some (.int x1), some (.int x2)]) (st' := [.long (lN 2), .long (lN 0), .long x1.toInt64]) rfl ?_
  refine wp_calli hT rfl rfl h (fun r3 iv2 h => ?_)
  refine wp_if_eq hT rfl ⟨fun c => ?_, fun c => ?_⟩
  · have h := h.1 c
    refine wp_s hT 1 (i' := 20) (L' := [some (.ref 74), some (.int x1), some (.int x2)]) (st' := [.int (nI 4294967294)]) rfl ?_
    exact wp_ri hT rfl rfl ⟨_, rfl, h⟩
  · have h := h.2 c
    refine wp_s hT 4 (i' := 12) (L' := [some (.ref 74), some (.int x1), some (.int x2)]) (st' := [.long (lN 13), .long (lN 0), .long x2.toInt64]) rfl ?_
    refine wp_calli hT rfl rfl h (fun r5 iv4 h => ?_)
    refine wp_if_eq hT rfl ⟨fun c => ?_, fun c => ?_⟩
    · have h := h.1 c
      refine wp_s hT 1 (i' := 20) (L' := [some (.ref 74), some (.int x1), some (.int x2)]) (st' := [.int (nI 4294967294)]) rfl ?_
      exact wp_ri hT rfl rfl ⟨_, rfl, h⟩
    · have h := h.2 c
      refine wp_s hT 3 (i' := 17) (L' := [some (.ref 74), some (.int x1), some (.int x2)]) (st' := [.int x2, .int x1, .ref 74]) rfl ?_
      refine wp_calli hT rfl rfl h (fun r7 iv6 h => ?_)
      refine wp_s hT 1 (i' := 20) (L' := [some (.ref 74), some (.int x1), some (.int x2)]) (st' := [.int r7]) rfl ?_
      exact wp_ri hT rfl rfl ⟨_, rfl, h⟩

theorem mk_X11_isWrong {X : Nat × (Nat → Int32)}  {iv : IV} {P : Int32 → IV → Prop}
    (h : vp_in (nI 0) 42 ∧ (((iv 94 (nI 0).toNatClampNeg) = (nI 15) → P (nI 1) iv) ∧ (¬ ((iv 94 (nI 0).toNatClampNeg) = (nI 15)) → vp_in (nI 0) 42 ∧ wc X 153 [.int (iv 74 25)] iv (Ri (fun r2 iv1 => ((((nI 1) + ((nI 2) * (iv 94 (nI 0).toNatClampNeg))) ≤ r2 → P (nI 0) iv1) ∧ (¬ (((nI 1) + ((nI 2) * (iv 94 (nI 0).toNatClampNeg))) ≤ r2) → P (nI 1) iv1))))))) :
    wc X 211 [.ref 74] iv (Ri P) := by
  have hT := tb_211
  show wp X (0, 0) 211 0 [some (.ref 74)] [] iv (Ri P)
  refine wp_s hT 3 (i' := 3) (L' := [some (.ref 74)]) (st' := [.int (nI 0), .ref 94]) rfl ?_
  refine wp_iald hT rfl rfl ⟨h.1, ?_⟩
  have h := h.2
  refine wp_s hT 1 (i' := 5) (L' := [some (.ref 74)]) (st' := [.int (nI 15), .int (iv 94 (nI 0).toNatClampNeg)]) rfl ?_
  refine wp_ic_eq hT rfl ⟨fun c => ?_, fun c => ?_⟩
  · have h := h.1 c
    refine wp_s hT 2 (i' := 21) (L' := [some (.ref 74)]) (st' := [.int (nI 1)]) rfl ?_
    exact wp_rz hT rfl rfl ⟨Or.inr rfl, ⟨_, rfl, h⟩⟩
  · have h := h.2 c
    refine wp_s hT 5 (i' := 11) (L' := [some (.ref 74)]) (st' := [.int (nI 0), .ref 94, .int (nI 2), .int (nI 1)]) rfl ?_
    refine wp_iald hT rfl rfl ⟨h.1, ?_⟩
    have h := h.2
    refine wp_s hT 4 (i' := 16) (L' := [some (.ref 74)]) (st' := [.int (iv 74 25), .int ((nI 1) + ((nI 2) * (iv 94 (nI 0).toNatClampNeg)))]) rfl ?_
    refine wp_calli hT rfl rfl h (fun r2 iv1 h => ?_)
    refine wp_ic_le hT rfl ⟨fun c => ?_, fun c => ?_⟩
    · have h := h.1 c
      refine wp_s hT 1 (i' := 21) (L' := [some (.ref 74)]) (st' := [.int (nI 0)]) rfl ?_
      exact wp_rz hT rfl rfl ⟨Or.inl rfl, ⟨_, rfl, h⟩⟩
    · have h := h.2 c
      refine wp_s hT 2 (i' := 21) (L' := [some (.ref 74)]) (st' := [.int (nI 1)]) rfl ?_
      exact wp_rz hT rfl rfl ⟨Or.inr rfl, ⟨_, rfl, h⟩⟩

theorem mk_X11_fails {X : Nat × (Nat → Int32)} {x1 : Int32} {iv : IV} {P : Int32 → IV → Prop}
    (h : wc X 156 [.int (x1 / (nI 15)), .int (x1 - x1 / (nI 15) * (nI 15))] iv (Ri (fun r2 iv1 => ((r2 = (nI 4294967295) → vp_in x1 225 ∧ (((iv1 87 x1.toNatClampNeg) = (nI 4294967295) → P (nI 0) iv1) ∧ (¬ ((iv1 87 x1.toNatClampNeg) = (nI 4294967295)) → vp_in x1 225 ∧ (((iv1 87 x1.toNatClampNeg) ≤ (nI 167) → vp_in x1 225 ∧ ∀ v3 : Int32, v3 = ((iv1 87 x1.toNatClampNeg) / (nI 4)) - ((iv1 87 x1.toNatClampNeg) / (nI 4)) / (nI 3) * (nI 3) → wc X 197 [.ref 74, .int v3] iv1 (Rv (fun iv4 => vp_in v3 3 ∧ (((iv4 96 v3.toNatClampNeg) = (nI 4294967295) → P (nI 1) iv4) ∧ (¬ ((iv4 96 v3.toNatClampNeg) = (nI 4294967295)) → ((v3 = 0 → wc X 211 [.ref 74] iv4 (Ri (fun r6 iv5 => ((r6 = 0 → P (nI 0) iv5) ∧ (¬ (r6 = 0) → P (nI 1) iv5))))) ∧ (¬ (v3 = 0) → P (nI 0) iv4))))))) ∧ (¬ ((iv1 87 x1.toNatClampNeg) ≤ (nI 167)) → P (nI 0) iv1))))) ∧ (¬ (r2 = (nI 4294967295)) → wc X 198 [.ref 74] iv1 (Rv (fun iv7 => ((iv7 74 24 ≤ 0 → P (nI 0) iv7) ∧ (¬ (iv7 74 24 ≤ 0) → P (nI 1) iv7))))))))) :
    wc X 212 [.ref 74, .int x1] iv (Ri P) := by
  have hT := tb_212
  show wp X (0, 0) 212 0 [some (.ref 74), some (.int x1), none] [] iv (Ri P)
  refine wp_s hT 6 (i' := 6) (L' := [some (.ref 74), some (.int x1), none]) (st' := [.int (x1 - x1 / (nI 15) * (nI 15)), .int (x1 / (nI 15))]) rfl ?_
  refine wp_calli hT rfl rfl h (fun r2 iv1 h => ?_)
  refine wp_s hT 1 (i' := 8) (L' := [some (.ref 74), some (.int x1), none]) (st' := [.int (nI 4294967295), .int r2]) rfl ?_
  refine wp_ic_eq hT rfl ⟨fun c => ?_, fun c => ?_⟩
  · have h := h.1 c
    refine wp_s hT 3 (i' := 21) (L' := [some (.ref 74), some (.int x1), none]) (st' := [.int x1, .ref 87]) rfl ?_
    refine wp_iald hT rfl rfl ⟨h.1, ?_⟩
    have h := h.2
    refine wp_s hT 1 (i' := 23) (L' := [some (.ref 74), some (.int x1), none]) (st' := [.int (nI 4294967295), .int (iv1 87 x1.toNatClampNeg)]) rfl ?_
    refine wp_ic_eq hT rfl ⟨fun c => ?_, fun c => ?_⟩
    · have h := h.1 c
      refine wp_s hT 1 (i' := 31) (L' := [some (.ref 74), some (.int x1), none]) (st' := [.int (nI 0)]) rfl ?_
      exact wp_rz hT rfl rfl ⟨Or.inl rfl, ⟨_, rfl, h⟩⟩
    · have h := h.2 c
      refine wp_s hT 3 (i' := 27) (L' := [some (.ref 74), some (.int x1), none]) (st' := [.int x1, .ref 87]) rfl ?_
      refine wp_iald hT rfl rfl ⟨h.1, ?_⟩
      have h := h.2
      refine wp_s hT 1 (i' := 29) (L' := [some (.ref 74), some (.int x1), none]) (st' := [.int (nI 167), .int (iv1 87 x1.toNatClampNeg)]) rfl ?_
      refine wp_ic_le hT rfl ⟨fun c => ?_, fun c => ?_⟩
      · have h := h.1 c
        refine wp_s hT 3 (i' := 35) (L' := [some (.ref 74), some (.int x1), none]) (st' := [.int x1, .ref 87]) rfl ?_
        refine wp_iald hT rfl rfl ⟨h.1, ?_⟩
        have h := h.2
        refine wp_s hT 5 (i' := 41) (L' := [some (.ref 74), some (.int x1), some (.int (((iv1 87 x1.toNatClampNeg) / (nI 4)) - ((iv1 87 x1.toNatClampNeg) / (nI 4)) / (nI 3) * (nI 3)))]) (st' := []) rfl ?_
        have h := h _ rfl
        refine wp_s hT 2 (i' := 43) (L' := [some (.ref 74), some (.int x1), some (.int (((iv1 87 x1.toNatClampNeg) / (nI 4)) - ((iv1 87 x1.toNatClampNeg) / (nI 4)) / (nI 3) * (nI 3)))]) (st' := [.int (((iv1 87 x1.toNatClampNeg) / (nI 4)) - ((iv1 87 x1.toNatClampNeg) / (nI 4)) / (nI 3) * (nI 3)), .ref 74]) rfl ?_
        refine wp_callv hT rfl rfl h (fun iv4 h => ?_)
        refine wp_s hT 3 (i' := 47) (L' := [some (.ref 74), some (.int x1), some (.int (((iv1 87 x1.toNatClampNeg) / (nI 4)) - ((iv1 87 x1.toNatClampNeg) / (nI 4)) / (nI 3) * (nI 3)))]) (st' := [.int (((iv1 87 x1.toNatClampNeg) / (nI 4)) - ((iv1 87 x1.toNatClampNeg) / (nI 4)) / (nI 3) * (nI 3)), .ref 96]) rfl ?_
        refine wp_iald hT rfl rfl ⟨h.1, ?_⟩
        have h := h.2
        refine wp_s hT 1 (i' := 49) (L' := [some (.ref 74), some (.int x1), some (.int (((iv1 87 x1.toNatClampNeg) / (nI 4)) - ((iv1 87 x1.toNatClampNeg) / (nI 4)) / (nI 3) * (nI 3)))]) (st' := [.int (nI 4294967295), .int (iv4 96 (((iv1 87 x1.toNatClampNeg) / (nI 4)) - ((iv1 87 x1.toNatClampNeg) / (nI 4)) / (nI 3) * (nI 3)).toNatClampNeg)]) rfl ?_
        refine wp_ic_eq hT rfl ⟨fun c => ?_, fun c => ?_⟩
        · have h := h.1 c
          refine wp_s hT 2 (i' := 58) (L' := [some (.ref 74), some (.int x1), some (.int (((iv1 87 x1.toNatClampNeg) / (nI 4)) - ((iv1 87 x1.toNatClampNeg) / (nI 4)) / (nI 3) * (nI 3)))]) (st' := [.int (nI 1)]) rfl ?_
          exact wp_rz hT rfl rfl ⟨Or.inr rfl, ⟨_, rfl, h⟩⟩
        · have h := h.2 c
          refine wp_s hT 1 (i' := 51) (L' := [some (.ref 74), some (.int x1), some (.int (((iv1 87 x1.toNatClampNeg) / (nI 4)) - ((iv1 87 x1.toNatClampNeg) / (nI 4)) / (nI 3) * (nI 3)))]) (st' := [.int (((iv1 87 x1.toNatClampNeg) / (nI 4)) - ((iv1 87 x1.toNatClampNeg) / (nI 4)) / (nI 3) * (nI 3))]) rfl ?_
          refine wp_if_ne hT rfl ⟨fun c => ?_, fun c => ?_⟩
          · have h := h.1 c
            refine wp_s hT 1 (i' := 53) (L' := [some (.ref 74), some (.int x1), some (.int (((iv1 87 x1.toNatClampNeg) / (nI 4)) - ((iv1 87 x1.toNatClampNeg) / (nI 4)) / (nI 3) * (nI 3)))]) (st' := [.ref 74]) rfl ?_
            refine wp_calli hT rfl rfl h (fun r6 iv5 h => ?_)
            refine wp_if_eq hT rfl ⟨fun c => ?_, fun c => ?_⟩
            · have h := h.1 c
              refine wp_s hT 1 (i' := 58) (L' := [some (.ref 74), some (.int x1), some (.int (((iv1 87 x1.toNatClampNeg) / (nI 4)) - ((iv1 87 x1.toNatClampNeg) / (nI 4)) / (nI 3) * (nI 3)))]) (st' := [.int (nI 0)]) rfl ?_
              exact wp_rz hT rfl rfl ⟨Or.inl rfl, ⟨_, rfl, h⟩⟩
            · have h := h.2 c
              refine wp_s hT 2 (i' := 58) (L' := [some (.ref 74), some (.int x1), some (.int (((iv1 87 x1.toNatClampNeg) / (nI 4)) - ((iv1 87 x1.toNatClampNeg) / (nI 4)) / (nI 3) * (nI 3)))]) (st' := [.int (nI 1)]) rfl ?_
              exact wp_rz hT rfl rfl ⟨Or.inr rfl, ⟨_, rfl, h⟩⟩
          · have h := h.2 c
            refine wp_s hT 1 (i' := 58) (L' := [some (.ref 74), some (.int x1), some (.int (((iv1 87 x1.toNatClampNeg) / (nI 4)) - ((iv1 87 x1.toNatClampNeg) / (nI 4)) / (nI 3) * (nI 3)))]) (st' := [.int (nI 0)]) rfl ?_
            exact wp_rz hT rfl rfl ⟨Or.inl rfl, ⟨_, rfl, h⟩⟩
      · have h := h.2 c
        refine wp_s hT 1 (i' := 31) (L' := [some (.ref 74), some (.int x1), none]) (st' := [.int (nI 0)]) rfl ?_
        exact wp_rz hT rfl rfl ⟨Or.inl rfl, ⟨_, rfl, h⟩⟩
  · have h := h.2 c
    refine wp_s hT 1 (i' := 10) (L' := [some (.ref 74), some (.int x1), none]) (st' := [.ref 74]) rfl ?_
    refine wp_callv hT rfl rfl h (fun iv7 h => ?_)
    refine wp_s hT 2 (i' := 13) (L' := [some (.ref 74), some (.int x1), none]) (st' := [.int (iv7 74 24)]) rfl ?_
    refine wp_if_le hT rfl ⟨fun c => ?_, fun c => ?_⟩
    · have h := h.1 c
      refine wp_s hT 1 (i' := 17) (L' := [some (.ref 74), some (.int x1), none]) (st' := [.int (nI 0)]) rfl ?_
      exact wp_rz hT rfl rfl ⟨Or.inl rfl, ⟨_, rfl, h⟩⟩
    · have h := h.2 c
      refine wp_s hT 2 (i' := 17) (L' := [some (.ref 74), some (.int x1), none]) (st' := [.int (nI 1)]) rfl ?_
      exact wp_rz hT rfl rfl ⟨Or.inr rfl, ⟨_, rfl, h⟩⟩

theorem mk_X11_strawNow_37 {X : Nat × (Nat → Int32)} {x2 : Int32} {s0 : Int32} {iv : IV} {P : Int32 → IV → Prop}
    (h : vp_in x2 225 ∧ vp_in x2 225 ∧ (∀ iv1 : IV, iv1 = mm_up2 iv 91 x2.toNatClampNeg ((nI 1) - (iv 91 x2.toNatClampNeg)) → wc X 156 [.int (x2 / (nI 15)), .int (x2 - x2 / (nI 15) * (nI 15))] iv1 (Ri (fun r3 iv2 => ((r3 = (nI 4294967295) → wp X (0, 0) 213 9 [some (.ref 74), some (.int s0), some (.int (x2 + nI 1))] [] iv2 (Ri P)) ∧ (¬ (r3 = (nI 4294967295)) → wc X 198 [.ref 74] iv2 (Rv (fun iv4 => wp X (0, 0) 213 9 [some (.ref 74), some (.int s0), some (.int (x2 + nI 1))] [] iv4 (Ri P))))))))) :
    wp X (0, 0) 213 37 [some (.ref 74), none, some (.int x2)] [.int s0] iv (Ri P) := by
  have hT := tb_213
  refine wp_s hT 8 (i' := 45) (L' := [some (.ref 74), some (.int s0), some (.int x2)]) (st' := [.int x2, .ref 91, .int (nI 1), .int x2, .ref 91]) rfl ?_
  refine wp_iald hT rfl rfl ⟨h.1, ?_⟩
  have h := h.2
  refine wp_s hT 1 (i' := 47) (L' := [some (.ref 74), some (.int s0), some (.int x2)]) (st' := [.int ((nI 1) - (iv 91 x2.toNatClampNeg)), .int x2, .ref 91]) rfl ?_
  refine wp_iast hT rfl rfl ⟨h.1, ?_⟩
  have h := h.2
  have h := h _ rfl
  refine wp_s hT 6 (i' := 54) (L' := [some (.ref 74), some (.int s0), some (.int x2)]) (st' := [.int (x2 - x2 / (nI 15) * (nI 15)), .int (x2 / (nI 15))]) rfl ?_
  refine wp_calli hT rfl rfl h (fun r3 iv2 h => ?_)
  refine wp_s hT 1 (i' := 56) (L' := [some (.ref 74), some (.int s0), some (.int x2)]) (st' := [.int (nI 4294967295), .int r3]) rfl ?_
  refine wp_ic_eq hT rfl ⟨fun c => ?_, fun c => ?_⟩
  · have h := h.1 c
    refine wp_s hT 2 (i' := 9) (L' := [some (.ref 74), some (.int s0), some (.int (x2 + nI 1))]) (st' := []) rfl ?_
    exact h
  · have h := h.2 c
    refine wp_s hT 1 (i' := 58) (L' := [some (.ref 74), some (.int s0), some (.int x2)]) (st' := [.ref 74]) rfl ?_
    refine wp_callv hT rfl rfl h (fun iv4 h => ?_)
    refine wp_s hT 2 (i' := 9) (L' := [some (.ref 74), some (.int s0), some (.int (x2 + nI 1))]) (st' := []) rfl ?_
    exact h

theorem mk_X11_strawNow_9 {X : Nat × (Nat → Int32)} {x1 : Int32} {x2 : Int32} {iv : IV} {P : Int32 → IV → Prop}
    (h : (((nI 225) ≤ x2 → wc X 198 [.ref 74] iv (Rv (fun iv1 => P x1 iv1))) ∧ (¬ ((nI 225) ≤ x2) → ((x1 = (nI 4294967295) → vp_in x2 225 ∧ ((iv 92 x2.toNatClampNeg = 0 → vp_in x2 225 ∧ vp_in x2 225 ∧ (∀ iv2 : IV, iv2 = mm_up2 iv 91 x2.toNatClampNeg ((nI 1) - (iv 91 x2.toNatClampNeg)) → wc X 212 [.ref 74, .int x2] iv2 (Ri (fun r4 iv3 => ((r4 = 0 → wp X (0, 0) 213 37 [some (.ref 74), none, some (.int x2)] [.int (nI 4294967295)] iv3 (Ri P)) ∧ (¬ (r4 = 0) → wp X (0, 0) 213 37 [some (.ref 74), none, some (.int x2)] [.int x2] iv3 (Ri P))))))) ∧ (¬ (iv 92 x2.toNatClampNeg = 0) → wp X (0, 0) 213 9 [some (.ref 74), some (.int x1), some (.int (x2 + nI 1))] [] iv (Ri P)))) ∧ (¬ (x1 = (nI 4294967295)) → wc X 198 [.ref 74] iv (Rv (fun iv5 => P x1 iv5))))))) :
    wp X (0, 0) 213 9 [some (.ref 74), some (.int x1), some (.int x2)] [] iv (Ri P) := by
  have hT := tb_213
  refine wp_s hT 2 (i' := 11) (L' := [some (.ref 74), some (.int x1), some (.int x2)]) (st' := [.int (nI 225), .int x2]) rfl ?_
  refine wp_ic_ge hT rfl ⟨fun c => ?_, fun c => ?_⟩
  · have h := h.1 c
    refine wp_s hT 1 (i' := 62) (L' := [some (.ref 74), some (.int x1), some (.int x2)]) (st' := [.ref 74]) rfl ?_
    refine wp_callv hT rfl rfl h (fun iv1 h => ?_)
    refine wp_s hT 1 (i' := 64) (L' := [some (.ref 74), some (.int x1), some (.int x2)]) (st' := [.int x1]) rfl ?_
    exact wp_ri hT rfl rfl ⟨_, rfl, h⟩
  · have h := h.2 c
    refine wp_s hT 2 (i' := 14) (L' := [some (.ref 74), some (.int x1), some (.int x2)]) (st' := [.int (nI 4294967295), .int x1]) rfl ?_
    refine wp_ic_ne hT rfl ⟨fun c => ?_, fun c => ?_⟩
    · have h := h.1 c
      refine wp_s hT 3 (i' := 18) (L' := [some (.ref 74), some (.int x1), some (.int x2)]) (st' := [.int x2, .ref 92]) rfl ?_
      refine wp_iald hT rfl rfl ⟨h.1, ?_⟩
      have h := h.2
      refine wp_if_ne hT rfl ⟨fun c => ?_, fun c => ?_⟩
      · have h := h.1 c
        refine wp_s hT 7 (i' := 27) (L' := [some (.ref 74), some (.int x1), some (.int x2)]) (st' := [.int x2, .ref 91, .int (nI 1), .int x2, .ref 91]) rfl ?_
        refine wp_iald hT rfl rfl ⟨h.1, ?_⟩
        have h := h.2
        refine wp_s hT 1 (i' := 29) (L' := [some (.ref 74), some (.int x1), some (.int x2)]) (st' := [.int ((nI 1) - (iv 91 x2.toNatClampNeg)), .int x2, .ref 91]) rfl ?_
        refine wp_iast hT rfl rfl ⟨h.1, ?_⟩
        have h := h.2
        have h := h _ rfl
        refine wp_s hT 2 (i' := 32) (L' := [some (.ref 74), some (.int x1), some (.int x2)]) (st' := [.int x2, .ref 74]) rfl ?_
        refine wp_calli hT rfl rfl h (fun r4 iv3 h => ?_)
        refine wp_if_eq hT rfl ⟨fun c => ?_, fun c => ?_⟩
        · have h := h.1 c
          refine wp_s hT 1 (i' := 37) (L' := [some (.ref 74), some (.int x1), some (.int x2)]) (st' := [.int (nI 4294967295)]) rfl ?_
          refine wp_le (L := [some (.ref 74), none, some (.int x2)]) ⟨Or.inl rfl, Or.inr ⟨rfl, rfl⟩, Or.inl rfl, trivial⟩ ?_
          exact h
        · have h := h.2 c
          refine wp_s hT 2 (i' := 37) (L' := [some (.ref 74), some (.int x1), some (.int x2)]) (st' := [.int x2]) rfl ?_
          refine wp_le (L := [some (.ref 74), none, some (.int x2)]) ⟨Or.inl rfl, Or.inr ⟨rfl, rfl⟩, Or.inl rfl, trivial⟩ ?_
          exact h
      · have h := h.2 c
        refine wp_s hT 2 (i' := 9) (L' := [some (.ref 74), some (.int x1), some (.int (x2 + nI 1))]) (st' := []) rfl ?_
        exact h
    · have h := h.2 c
      refine wp_s hT 1 (i' := 62) (L' := [some (.ref 74), some (.int x1), some (.int x2)]) (st' := [.ref 74]) rfl ?_
      refine wp_callv hT rfl rfl h (fun iv5 h => ?_)
      refine wp_s hT 1 (i' := 64) (L' := [some (.ref 74), some (.int x1), some (.int x2)]) (st' := [.int x1]) rfl ?_
      exact wp_ri hT rfl rfl ⟨_, rfl, h⟩

theorem mk_X11_strawNow {X : Nat × (Nat → Int32)}  {iv : IV} {P : Int32 → IV → Prop}
    (h : ((iv 74 24 ≤ 0 → wp X (0, 0) 213 9 [some (.ref 74), some (.int (nI 4294967295)), some (.int (nI 0))] [] iv (Ri P)) ∧ (¬ (iv 74 24 ≤ 0) → P (nI 4294967295) iv))) :
    wc X 213 [.ref 74] iv (Ri P) := by
  have hT := tb_213
  show wp X (0, 0) 213 0 [some (.ref 74), none, none] [] iv (Ri P)
  refine wp_s hT 2 (i' := 2) (L' := [some (.ref 74), none, none]) (st' := [.int (iv 74 24)]) rfl ?_
  refine wp_if_le hT rfl ⟨fun c => ?_, fun c => ?_⟩
  · have h := h.1 c
    refine wp_s hT 4 (i' := 9) (L' := [some (.ref 74), some (.int (nI 4294967295)), some (.int (nI 0))]) (st' := []) rfl ?_
    exact h
  · have h := h.2 c
    refine wp_s hT 1 (i' := 4) (L' := [some (.ref 74), none, none]) (st' := [.int (nI 4294967295)]) rfl ?_
    exact wp_ri hT rfl rfl ⟨_, rfl, h⟩

theorem mk_X11_lineOf {X : Nat × (Nat → Int32)} {x0 : Int32} {x1 : Int32} {iv : IV} {P : Int32 → IV → Prop}
    (h : ((x0 = (nI 4294967295) → P (nI 4294967295) iv) ∧ (¬ (x0 = (nI 4294967295)) → ((x1 = 0 → P (x0 / (nI 15)) iv) ∧ (¬ (x1 = 0) → P (x0 - x0 / (nI 15) * (nI 15)) iv))))) :
    wc X 214 [.int x0, .int x1] iv (Ri P) := by
  have hT := tb_214
  show wp X (0, 0) 214 0 [some (.int x0), some (.int x1)] [] iv (Ri P)
  refine wp_s hT 2 (i' := 2) (L' := [some (.int x0), some (.int x1)]) (st' := [.int (nI 4294967295), .int x0]) rfl ?_
  refine wp_ic_ne hT rfl ⟨fun c => ?_, fun c => ?_⟩
  · have h := h.1 c
    refine wp_s hT 2 (i' := 14) (L' := [some (.int x0), some (.int x1)]) (st' := [.int (nI 4294967295)]) rfl ?_
    exact wp_ri hT rfl rfl ⟨_, rfl, h⟩
  · have h := h.2 c
    refine wp_s hT 1 (i' := 6) (L' := [some (.int x0), some (.int x1)]) (st' := [.int x1]) rfl ?_
    refine wp_if_ne hT rfl ⟨fun c => ?_, fun c => ?_⟩
    · have h := h.1 c
      refine wp_s hT 4 (i' := 14) (L' := [some (.int x0), some (.int x1)]) (st' := [.int (x0 / (nI 15))]) rfl ?_
      exact wp_ri hT rfl rfl ⟨_, rfl, h⟩
    · have h := h.2 c
      refine wp_s hT 3 (i' := 14) (L' := [some (.int x0), some (.int x1)]) (st' := [.int (x0 - x0 / (nI 15) * (nI 15))]) rfl ?_
      exact wp_ri hT rfl rfl ⟨_, rfl, h⟩

theorem mk_X11_straw {X : Nat × (Nat → Int32)} {x1 : Int32} {iv : IV} {P : Int32 → IV → Prop}
    (h : wc X 199 [.ref 74] iv (Rv (fun iv1 => wc X 123 [.int x1] iv1 (Ri (fun r3 iv2 => ((r3 = 0 → P (nI 4294967294) iv2) ∧ (¬ (r3 = 0) → wc X 213 [.ref 74] iv2 (Ri (fun r5 iv4 => wc X 214 [.int r5, .int x1] iv4 (Ri (fun r7 iv6 => P r7 iv6))))))))))) :
    wc X 215 [.ref 74, .int x1] iv (Ri P) := by
  have hT := tb_215
  show wp X (0, 0) 215 0 [some (.ref 74), some (.int x1)] [] iv (Ri P)
  refine wp_s hT 1 (i' := 1) (L' := [some (.ref 74), some (.int x1)]) (st' := [.ref 74]) rfl ?_
  refine wp_callv hT rfl rfl h (fun iv1 h => ?_)
  refine wp_s hT 1 (i' := 3) (L' := [some (.ref 74), some (.int x1)]) (st' := [.int x1]) rfl ?_
  refine wp_calli hT rfl rfl h (fun r3 iv2 h => ?_)
  refine wp_if_eq hT rfl ⟨fun c => ?_, fun c => ?_⟩
  · have h := h.1 c
    refine wp_s hT 1 (i' := 11) (L' := [some (.ref 74), some (.int x1)]) (st' := [.int (nI 4294967294)]) rfl ?_
    exact wp_ri hT rfl rfl ⟨_, rfl, h⟩
  · have h := h.2 c
    refine wp_s hT 1 (i' := 6) (L' := [some (.ref 74), some (.int x1)]) (st' := [.ref 74]) rfl ?_
    refine wp_calli hT rfl rfl h (fun r5 iv4 h => ?_)
    refine wp_s hT 1 (i' := 8) (L' := [some (.ref 74), some (.int x1)]) (st' := [.int x1, .int r5]) rfl ?_
    refine wp_calli hT rfl rfl h (fun r7 iv6 h => ?_)
    refine wp_s hT 1 (i' := 11) (L' := [some (.ref 74), some (.int x1)]) (st' := [.int r7]) rfl ?_
    exact wp_ri hT rfl rfl ⟨_, rfl, h⟩

theorem mk_X11_write_33 {X : Nat × (Nat → Int32)} {x1 : Int32} {x2 : Int32} {x3 : Int32} {x4 : Int32} {iv : IV} {P : Int32 → IV → Prop}
    (h : ((x3 ≤ x4 → P x3 iv) ∧ (¬ (x3 ≤ x4) → vp_in x2 4 ∧ wc X 185 [.ref 74, .int (((nI 15) * x1) + x4)] iv (Ri (fun r2 iv1 => wc X 131 [.int (iv 75 x2.toNatClampNeg), .int r2] iv1 (Ri (fun r4 iv3 => vp_in (((nI 60) * x2) + x4) 240 ∧ (∀ iv5 : IV, iv5 = mm_up2 iv3 77 (((nI 60) * x2) + x4).toNatClampNeg r4 → wp X (0, 0) 216 33 [some (.ref 74), some (.int x1), some (.int x2), some (.int x3), some (.int (x4 + nI 1))] [] iv5 (Ri P))))))))) :
    wp X (0, 0) 216 33 [some (.ref 74), some (.int x1), some (.int x2), some (.int x3), some (.int x4)] [] iv (Ri P) := by
  have hT := tb_216
  refine wp_s hT 2 (i' := 35) (L' := [some (.ref 74), some (.int x1), some (.int x2), some (.int x3), some (.int x4)]) (st' := [.int x3, .int x4]) rfl ?_
  refine wp_ic_ge hT rfl ⟨fun c => ?_, fun c => ?_⟩
  · have h := h.1 c
    refine wp_s hT 1 (i' := 59) (L' := [some (.ref 74), some (.int x1), some (.int x2), some (.int x3), some (.int x4)]) (st' := [.int x3]) rfl ?_
    exact wp_ri hT rfl rfl ⟨_, rfl, h⟩
  · have h := h.2 c
    refine wp_s hT 10 (i' := 46) (L' := [some (.ref 74), some (.int x1), some (.int x2), some (.int x3), some (.int x4)]) (st' := [.int x2, .ref 75, .int (((nI 60) * x2) + x4), .ref 77]) rfl ?_
    refine wp_iald hT rfl rfl ⟨h.1, ?_⟩
    have h := h.2
    refine wp_s hT 6 (i' := 53) (L' := [some (.ref 74), some (.int x1), some (.int x2), some (.int x3), some (.int x4)]) (st' := [.int (((nI 15) * x1) + x4), .ref 74, .int (iv 75 x2.toNatClampNeg), .int (((nI 60) * x2) + x4), .ref 77]) rfl ?_
    refine wp_calli hT rfl rfl h (fun r2 iv1 h => ?_)
    refine wp_calli hT rfl rfl h (fun r4 iv3 h => ?_)
    refine wp_iast hT rfl rfl ⟨h.1, ?_⟩
    have h := h.2
    have h := h _ rfl
    refine wp_s hT 2 (i' := 33) (L' := [some (.ref 74), some (.int x1), some (.int x2), some (.int x3), some (.int (x4 + nI 1))]) (st' := []) rfl ?_
    exact h

theorem mk_X11_write {X : Nat × (Nat → Int32)} {x1 : Int32} {x2 : Int32} {iv : IV} {P : Int32 → IV → Prop}
    (h : wc X 172 [.int x1] iv (Ri (fun r2 iv1 => ((r2 = 0 → P (nI 4294967294) iv1) ∧ (¬ (r2 = 0) → wc X 127 [.int x2] iv1 (Ri (fun r4 iv3 => ((r4 = 0 → P (nI 4294967294) iv3) ∧ (¬ (r4 = 0) → vp_in x2 4 ∧ ((0 ≤ iv3 75 x2.toNatClampNeg → wc X 166 [.ref 74] iv3 (Rv (fun iv5 => ((iv5 74 11 = 0 → P (nI 4294967293) iv5) ∧ (¬ (iv5 74 11 = 0) → vp_in x2 4 ∧ wc X 124 [.int (iv5 76 x2.toNatClampNeg), .int (nI 15)] iv5 (Ri (fun r7 iv6 => wp X (0, 0) 216 33 [some (.ref 74), some (.int x1), some (.int x2), some (.int r7), some (.int (nI 0))] [] iv6 (Ri P)))))))) ∧ (¬ (0 ≤ iv3 75 x2.toNatClampNeg) → wc X 126 [.ref 74, .int (nI 1)] iv3 (Ri (fun r9 iv8 => P r9 iv8))))))))))))) :
    wc X 216 [.ref 74, .int x1, .int x2] iv (Ri P) := by
  have hT := tb_216
  show wp X (0, 0) 216 0 [some (.ref 74), some (.int x1), some (.int x2), none, none] [] iv (Ri P)
  refine wp_s hT 1 (i' := 1) (L' := [some (.ref 74), some (.int x1), some (.int x2), none, none]) (st' := [.int x1]) rfl ?_
  refine wp_calli hT rfl rfl h (fun r2 iv1 h => ?_)
  refine wp_if_eq hT rfl ⟨fun c => ?_, fun c => ?_⟩
  · have h := h.1 c
    refine wp_s hT 1 (i' := 7) (L' := [some (.ref 74), some (.int x1), some (.int x2), none, none]) (st' := [.int (nI 4294967294)]) rfl ?_
    exact wp_ri hT rfl rfl ⟨_, rfl, h⟩
  · have h := h.2 c
    refine wp_s hT 1 (i' := 4) (L' := [some (.ref 74), some (.int x1), some (.int x2), none, none]) (st' := [.int x2]) rfl ?_
    refine wp_calli hT rfl rfl h (fun r4 iv3 h => ?_)
    refine wp_if_ne hT rfl ⟨fun c => ?_, fun c => ?_⟩
    · have h := h.1 c
      refine wp_s hT 1 (i' := 7) (L' := [some (.ref 74), some (.int x1), some (.int x2), none, none]) (st' := [.int (nI 4294967294)]) rfl ?_
      exact wp_ri hT rfl rfl ⟨_, rfl, h⟩
    · have h := h.2 c
      refine wp_s hT 3 (i' := 11) (L' := [some (.ref 74), some (.int x1), some (.int x2), none, none]) (st' := [.int x2, .ref 75]) rfl ?_
      refine wp_iald hT rfl rfl ⟨h.1, ?_⟩
      have h := h.2
      refine wp_if_ge hT rfl ⟨fun c => ?_, fun c => ?_⟩
      · have h := h.1 c
        refine wp_s hT 1 (i' := 18) (L' := [some (.ref 74), some (.int x1), some (.int x2), none, none]) (st' := [.ref 74]) rfl ?_
        refine wp_callv hT rfl rfl h (fun iv5 h => ?_)
        refine wp_s hT 2 (i' := 21) (L' := [some (.ref 74), some (.int x1), some (.int x2), none, none]) (st' := [.int (iv5 74 11)]) rfl ?_
        refine wp_if_ne hT rfl ⟨fun c => ?_, fun c => ?_⟩
        · have h := h.1 c
          refine wp_s hT 1 (i' := 23) (L' := [some (.ref 74), some (.int x1), some (.int x2), none, none]) (st' := [.int (nI 4294967293)]) rfl ?_
          exact wp_ri hT rfl rfl ⟨_, rfl, h⟩
        · have h := h.2 c
          refine wp_s hT 3 (i' := 27) (L' := [some (.ref 74), some (.int x1), some (.int x2), none, none]) (st' := [.int x2, .ref 76]) rfl ?_
          refine wp_iald hT rfl rfl ⟨h.1, ?_⟩
          have h := h.2
          refine wp_s hT 1 (i' := 29) (L' := [some (.ref 74), some (.int x1), some (.int x2), none, none]) (st' := [.int (nI 15), .int (iv5 76 x2.toNatClampNeg)]) rfl ?_
          refine wp_calli hT rfl rfl h (fun r7 iv6 h => ?_)
          refine wp_s hT 3 (i' := 33) (L' := [some (.ref 74), some (.int x1), some (.int x2), some (.int r7), some (.int (nI 0))]) (st' := []) rfl ?_
          exact h
      · have h := h.2 c
        refine wp_s hT 2 (i' := 15) (L' := [some (.ref 74), some (.int x1), some (.int x2), none, none]) (st' := [.int (nI 1), .ref 74]) rfl ?_
        refine wp_calli hT rfl rfl h (fun r9 iv8 h => ?_)
        exact wp_ri hT rfl rfl ⟨_, rfl, h⟩

theorem mk_X11_count {X : Nat × (Nat → Int32)} {x1 : Int32} {iv : IV} {P : Int32 → IV → Prop}
    (h : wc X 199 [.ref 74] iv (Rv (fun iv1 => ((x1 = nI 0 → vp_in (nI 0) 2 ∧ P (iv1 84 (nI 0).toNatClampNeg) iv1) ∧ (x1 = nI 1 → P (iv1 74 12) iv1) ∧ (x1 = nI 2 → P (iv1 74 13) iv1) ∧ (x1 = nI 3 → P (iv1 74 24) iv1) ∧ (x1 = nI 4 → wc X 178 [.ref 91] iv1 (Ri (fun r3 iv2 => P r3 iv2))) ∧ (x1 = nI 5 → wc X 178 [.ref 92] iv1 (Ri (fun r5 iv4 => P r5 iv4))) ∧ (x1 = nI 6 → P (iv1 74 23) iv1) ∧ (x1 = nI 7 → ((iv1 74 11 = 0 → P (nI 0) iv1) ∧ (¬ (iv1 74 11 = 0) → wc X 164 [.ref 74, .int (iv1 74 13)] iv1 (Ri (fun r7 iv6 => P r7 iv6))))) ∧ (x1 = nI 8 → P (iv1 74 4) iv1) ∧ (¬ vp_in x1 9 → P (nI 4294967294) iv1))))) :
    wc X 217 [.ref 74, .int x1] iv (Ri P) := by
  have hT := tb_217
  show wp X (0, 0) 217 0 [some (.ref 74), some (.int x1)] [] iv (Ri P)
  refine wp_s hT 1 (i' := 1) (L' := [some (.ref 74), some (.int x1)]) (st' := [.ref 74]) rfl ?_
  refine wp_callv hT rfl rfl h (fun iv1 h => ?_)
  refine wp_s hT 1 (i' := 3) (L' := [some (.ref 74), some (.int x1)]) (st' := [.int x1]) rfl ?_
  by_cases hx : vp_in x1 9
  · obtain ⟨k, hk, ek⟩ := vp_in_of hx (by decide)
    match k, hk, ek with
    | 0, _, ek =>
      refine wp_sw hT rfl (i' := 4) (st' := []) (by rw [ek]; rfl) ?_
      have h := h.1 ek
      refine wp_s hT 3 (i' := 7) (L' := [some (.ref 74), some (.int x1)]) (st' := [.int (nI 0), .ref 84]) rfl ?_
      refine wp_iald hT rfl rfl ⟨h.1, ?_⟩
      have h := h.2
      exact wp_ri hT rfl rfl ⟨_, rfl, h⟩
    | 1, _, ek =>
      refine wp_sw hT rfl (i' := 9) (st' := []) (by rw [ek]; rfl) ?_
      have h := h.2.1 ek
      refine wp_s hT 2 (i' := 11) (L' := [some (.ref 74), some (.int x1)]) (st' := [.int (iv1 74 12)]) rfl ?_
      exact wp_ri hT rfl rfl ⟨_, rfl, h⟩
    | 2, _, ek =>
      refine wp_sw hT rfl (i' := 12) (st' := []) (by rw [ek]; rfl) ?_
      have h := h.2.2.1 ek
      refine wp_s hT 2 (i' := 14) (L' := [some (.ref 74), some (.int x1)]) (st' := [.int (iv1 74 13)]) rfl ?_
      exact wp_ri hT rfl rfl ⟨_, rfl, h⟩
    | 3, _, ek =>
      refine wp_sw hT rfl (i' := 15) (st' := []) (by rw [ek]; rfl) ?_
      have h := h.2.2.2.1 ek
      refine wp_s hT 2 (i' := 17) (L' := [some (.ref 74), some (.int x1)]) (st' := [.int (iv1 74 24)]) rfl ?_
      exact wp_ri hT rfl rfl ⟨_, rfl, h⟩
    | 4, _, ek =>
      refine wp_sw hT rfl (i' := 18) (st' := []) (by rw [ek]; rfl) ?_
      have h := h.2.2.2.2.1 ek
      refine wp_s hT 2 (i' := 20) (L' := [some (.ref 74), some (.int x1)]) (st' := [.ref 91]) rfl ?_
      refine wp_calli hT rfl rfl h (fun r3 iv2 h => ?_)
      exact wp_ri hT rfl rfl ⟨_, rfl, h⟩
    | 5, _, ek =>
      refine wp_sw hT rfl (i' := 22) (st' := []) (by rw [ek]; rfl) ?_
      have h := h.2.2.2.2.2.1 ek
      refine wp_s hT 2 (i' := 24) (L' := [some (.ref 74), some (.int x1)]) (st' := [.ref 92]) rfl ?_
      refine wp_calli hT rfl rfl h (fun r5 iv4 h => ?_)
      exact wp_ri hT rfl rfl ⟨_, rfl, h⟩
    | 6, _, ek =>
      refine wp_sw hT rfl (i' := 26) (st' := []) (by rw [ek]; rfl) ?_
      have h := h.2.2.2.2.2.2.1 ek
      refine wp_s hT 2 (i' := 28) (L' := [some (.ref 74), some (.int x1)]) (st' := [.int (iv1 74 23)]) rfl ?_
      exact wp_ri hT rfl rfl ⟨_, rfl, h⟩
    | 7, _, ek =>
      refine wp_sw hT rfl (i' := 29) (st' := []) (by rw [ek]; rfl) ?_
      have h := h.2.2.2.2.2.2.2.1 ek
      refine wp_s hT 2 (i' := 31) (L' := [some (.ref 74), some (.int x1)]) (st' := [.int (iv1 74 11)]) rfl ?_
      refine wp_if_eq hT rfl ⟨fun c => ?_, fun c => ?_⟩
      · have h := h.1 c
        refine wp_s hT 1 (i' := 38) (L' := [some (.ref 74), some (.int x1)]) (st' := [.int (nI 0)]) rfl ?_
        exact wp_ri hT rfl rfl ⟨_, rfl, h⟩
      · have h := h.2 c
        refine wp_s hT 3 (i' := 35) (L' := [some (.ref 74), some (.int x1)]) (st' := [.int (iv1 74 13), .ref 74]) rfl ?_
        refine wp_calli hT rfl rfl h (fun r7 iv6 h => ?_)
        refine wp_s hT 1 (i' := 38) (L' := [some (.ref 74), some (.int x1)]) (st' := [.int r7]) rfl ?_
        exact wp_ri hT rfl rfl ⟨_, rfl, h⟩
    | 8, _, ek =>
      refine wp_sw hT rfl (i' := 39) (st' := []) (by rw [ek]; rfl) ?_
      have h := h.2.2.2.2.2.2.2.2.1 ek
      refine wp_s hT 2 (i' := 41) (L' := [some (.ref 74), some (.int x1)]) (st' := [.int (iv1 74 4)]) rfl ?_
      exact wp_ri hT rfl rfl ⟨_, rfl, h⟩
    | k + 9, hk, _ => exact absurd hk (by omega)
  · refine wp_sw hT rfl (i' := 42) (st' := []) (mm_sw_d hx rfl rfl) ?_
    have h := h.2.2.2.2.2.2.2.2.2 hx
    refine wp_s hT 1 (i' := 43) (L' := [some (.ref 74), some (.int x1)]) (st' := [.int (nI 4294967294)]) rfl ?_
    exact wp_ri hT rfl rfl ⟨_, rfl, h⟩

theorem mk_X11_tellsBlock_31 {X : Nat × (Nat → Int32)} {x1 : Int64} {x3 : Int32} {x4 : Int64} {x6 : Int32} {iv : IV} {P : Int64 → IV → Prop}
    (h : (((nI 3) ≤ x6 → P x4 iv) ∧ (¬ ((nI 3) ≤ x6) → wc X 207 [.ref 74, .int x3, .int x6] iv (Ri (fun r2 iv1 => ∀ v3 : Int64, v3 = ((lN 31) * x4) + r2.toInt64 → wp X (0, 0) 218 31 [some (.ref 74), some (.long x1), none, some (.int x3), some (.long v3), none, some (.int (x6 + nI 1))] [] iv1 (Rl P)))))) :
    wp X (0, 0) 218 31 [some (.ref 74), some (.long x1), none, some (.int x3), some (.long x4), none, some (.int x6)] [] iv (Rl P) := by
  have hT := tb_218
  refine wp_s hT 2 (i' := 33) (L' := [some (.ref 74), some (.long x1), none, some (.int x3), some (.long x4), none, some (.int x6)]) (st' := [.int (nI 3), .int x6]) rfl ?_
  refine wp_ic_ge hT rfl ⟨fun c => ?_, fun c => ?_⟩
  · have h := h.1 c
    refine wp_s hT 1 (i' := 47) (L' := [some (.ref 74), some (.long x1), none, some (.int x3), some (.long x4), none, some (.int x6)]) (st' := [.long x4]) rfl ?_
    exact wp_rl hT rfl rfl ⟨_, rfl, h⟩
  · have h := h.2 c
    refine wp_s hT 6 (i' := 40) (L' := [some (.ref 74), some (.long x1), none, some (.int x3), some (.long x4), none, some (.int x6)]) (st' := [.int x6, .int x3, .ref 74, .long ((lN 31) * x4)]) rfl ?_
    refine wp_calli hT rfl rfl h (fun r2 iv1 h => ?_)
    refine wp_s hT 3 (i' := 44) (L' := [some (.ref 74), some (.long x1), none, some (.int x3), some (.long (((lN 31) * x4) + r2.toInt64)), none, some (.int x6)]) (st' := []) rfl ?_
    have h := h _ rfl
    refine wp_s hT 2 (i' := 31) (L' := [some (.ref 74), some (.long x1), none, some (.int x3), some (.long (((lN 31) * x4) + r2.toInt64)), none, some (.int (x6 + nI 1))]) (st' := []) rfl ?_
    exact h

theorem mk_X11_tellsBlock_4 {X : Nat × (Nat → Int32)} {x1 : Int64} {x3 : Int32} {x4 : Int64} {x6 : Int32} {iv : IV} {P : Int64 → IV → Prop}
    (h : (((nI 14) ≤ x6 → wp X (0, 0) 218 31 [some (.ref 74), some (.long x1), none, some (.int x3), some (.long x4), none, some (.int (nI 0))] [] iv (Rl P)) ∧ (¬ ((nI 14) ≤ x6) → wc X 169 [.ref 74, .int x3, .int x6] iv (Ri (fun r2 iv1 => ∀ v3 : Int64, v3 = ((lN 31) * x4) + r2.toInt64 → wc X 209 [.ref 74, .int x3, .int x6] iv1 (Ri (fun r5 iv4 => ∀ v6 : Int64, v6 = ((lN 31) * v3) + r5.toInt64 → wp X (0, 0) 218 4 [some (.ref 74), some (.long x1), none, some (.int x3), some (.long v6), none, some (.int (x6 + nI 1))] [] iv4 (Rl P)))))))) :
    wp X (0, 0) 218 4 [some (.ref 74), some (.long x1), none, some (.int x3), some (.long x4), none, some (.int x6)] [] iv (Rl P) := by
  have hT := tb_218
  refine wp_s hT 2 (i' := 6) (L' := [some (.ref 74), some (.long x1), none, some (.int x3), some (.long x4), none, some (.int x6)]) (st' := [.int (nI 14), .int x6]) rfl ?_
  refine wp_ic_ge hT rfl ⟨fun c => ?_, fun c => ?_⟩
  · have h := h.1 c
    refine wp_s hT 2 (i' := 31) (L' := [some (.ref 74), some (.long x1), none, some (.int x3), some (.long x4), none, some (.int (nI 0))]) (st' := []) rfl ?_
    exact h
  · have h := h.2 c
    refine wp_s hT 6 (i' := 13) (L' := [some (.ref 74), some (.long x1), none, some (.int x3), some (.long x4), none, some (.int x6)]) (st' := [.int x6, .int x3, .ref 74, .long ((lN 31) * x4)]) rfl ?_
    refine wp_calli hT rfl rfl h (fun r2 iv1 h => ?_)
    refine wp_s hT 3 (i' := 17) (L' := [some (.ref 74), some (.long x1), none, some (.int x3), some (.long (((lN 31) * x4) + r2.toInt64)), none, some (.int x6)]) (st' := []) rfl ?_
    have h := h _ rfl
    refine wp_s hT 6 (i' := 23) (L' := [some (.ref 74), some (.long x1), none, some (.int x3), some (.long (((lN 31) * x4) + r2.toInt64)), none, some (.int x6)]) (st' := [.int x6, .int x3, .ref 74, .long ((lN 31) * (((lN 31) * x4) + r2.toInt64))]) rfl ?_
    refine wp_calli hT rfl rfl h (fun r5 iv4 h => ?_)
    refine wp_s hT 3 (i' := 27) (L' := [some (.ref 74), some (.long x1), none, some (.int x3), some (.long (((lN 31) * (((lN 31) * x4) + r2.toInt64)) + r5.toInt64)), none, some (.int x6)]) (st' := []) rfl ?_
    have h := h _ rfl
    refine wp_s hT 2 (i' := 4) (L' := [some (.ref 74), some (.long x1), none, some (.int x3), some (.long (((lN 31) * (((lN 31) * x4) + r2.toInt64)) + r5.toInt64)), none, some (.int (x6 + nI 1))]) (st' := []) rfl ?_
    exact h

theorem mk_X11_tellsBlock {X : Nat × (Nat → Int32)} {x1 : Int64} {x3 : Int32} {iv : IV} {P : Int64 → IV → Prop}
    (h : wp X (0, 0) 218 4 [some (.ref 74), some (.long x1), none, some (.int x3), some (.long x1), none, some (.int (nI 0))] [] iv (Rl P)) :
    wc X 218 [.ref 74, .long x1, .int x3] iv (Rl P) := by
  have hT := tb_218
  show wp X (0, 0) 218 0 [some (.ref 74), some (.long x1), none, some (.int x3), none, none, none] [] iv (Rl P)
  refine wp_s hT 4 (i' := 4) (L' := [some (.ref 74), some (.long x1), none, some (.int x3), some (.long x1), none, some (.int (nI 0))]) (st' := []) rfl ?_
  exact h

theorem mk_X11_digest_141 {X : Nat × (Nat → Int32)} {x1 : Int64} {x3 : Int32} {iv : IV} {P : Int64 → IV → Prop}
    (h : (((nI 2) ≤ x3 → wc X 213 [.ref 74] iv (Ri (fun r2 iv1 => wc X 214 [.int r2, .int (nI 0)] iv1 (Ri (fun r4 iv3 => ∀ v5 : Int64, v5 = ((lN 31) * x1) + r4.toInt64 → wc X 214 [.int r2, .int (nI 1)] iv3 (Ri (fun r7 iv6 => P (((lN 31) * v5) + r7.toInt64) iv6))))))) ∧ (¬ ((nI 2) ≤ x3) → wc X 204 [.ref 74, .int x3] iv (Ri (fun r9 iv8 => ∀ v10 : Int64, v10 = ((lN 31) * x1) + r9.toInt64 → wp X (0, 0) 219 141 [some (.ref 74), some (.long v10), none, some (.int (x3 + nI 1)), none] [] iv8 (Rl P)))))) :
    wp X (0, 0) 219 141 [some (.ref 74), some (.long x1), none, some (.int x3), none] [] iv (Rl P) := by
  have hT := tb_219
  refine wp_s hT 2 (i' := 143) (L' := [some (.ref 74), some (.long x1), none, some (.int x3), none]) (st' := [.int (nI 2), .int x3]) rfl ?_
  refine wp_ic_ge hT rfl ⟨fun c => ?_, fun c => ?_⟩
  · have h := h.1 c
    refine wp_s hT 1 (i' := 156) (L' := [some (.ref 74), some (.long x1), none, some (.int x3), none]) (st' := [.ref 74]) rfl ?_
    refine wp_calli hT rfl rfl h (fun r2 iv1 h => ?_)
    refine wp_s hT 6 (i' := 163) (L' := [some (.ref 74), some (.long x1), none, some (.int r2), none]) (st' := [.int (nI 0), .int r2, .long ((lN 31) * x1)]) rfl ?_
    refine wp_calli hT rfl rfl h (fun r4 iv3 h => ?_)
    refine wp_s hT 3 (i' := 167) (L' := [some (.ref 74), some (.long (((lN 31) * x1) + r4.toInt64)), none, some (.int r2), none]) (st' := []) rfl ?_
    have h := h _ rfl
    refine wp_s hT 5 (i' := 172) (L' := [some (.ref 74), some (.long (((lN 31) * x1) + r4.toInt64)), none, some (.int r2), none]) (st' := [.int (nI 1), .int r2, .long ((lN 31) * (((lN 31) * x1) + r4.toInt64))]) rfl ?_
    refine wp_calli hT rfl rfl h (fun r7 iv6 h => ?_)
    refine wp_s hT 2 (i' := 175) (L' := [some (.ref 74), some (.long (((lN 31) * x1) + r4.toInt64)), none, some (.int r2), none]) (st' := [.long (((lN 31) * (((lN 31) * x1) + r4.toInt64)) + r7.toInt64)]) rfl ?_
    exact wp_rl hT rfl rfl ⟨_, rfl, h⟩
  · have h := h.2 c
    refine wp_s hT 5 (i' := 149) (L' := [some (.ref 74), some (.long x1), none, some (.int x3), none]) (st' := [.int x3, .ref 74, .long ((lN 31) * x1)]) rfl ?_
    refine wp_calli hT rfl rfl h (fun r9 iv8 h => ?_)
    refine wp_s hT 3 (i' := 153) (L' := [some (.ref 74), some (.long (((lN 31) * x1) + r9.toInt64)), none, some (.int x3), none]) (st' := []) rfl ?_
    have h := h _ rfl
    refine wp_s hT 2 (i' := 141) (L' := [some (.ref 74), some (.long (((lN 31) * x1) + r9.toInt64)), none, some (.int (x3 + nI 1)), none]) (st' := []) rfl ?_
    exact h

theorem mk_X11_digest_125 {X : Nat × (Nat → Int32)} {x1 : Int64} {x3 : Int32} {iv : IV} {P : Int64 → IV → Prop}
    (h : (((nI 14) ≤ x3 → wp X (0, 0) 219 141 [some (.ref 74), some (.long x1), none, some (.int (nI 0)), none] [] iv (Rl P)) ∧ (¬ ((nI 14) ≤ x3) → wc X 202 [.ref 74, .int x3] iv (Ri (fun r2 iv1 => ∀ v3 : Int64, v3 = ((lN 31) * x1) + r2.toInt64 → wp X (0, 0) 219 125 [some (.ref 74), some (.long v3), none, some (.int (x3 + nI 1)), none] [] iv1 (Rl P)))))) :
    wp X (0, 0) 219 125 [some (.ref 74), some (.long x1), none, some (.int x3), none] [] iv (Rl P) := by
  have hT := tb_219
  refine wp_s hT 2 (i' := 127) (L' := [some (.ref 74), some (.long x1), none, some (.int x3), none]) (st' := [.int (nI 14), .int x3]) rfl ?_
  refine wp_ic_ge hT rfl ⟨fun c => ?_, fun c => ?_⟩
  · have h := h.1 c
    refine wp_s hT 2 (i' := 141) (L' := [some (.ref 74), some (.long x1), none, some (.int (nI 0)), none]) (st' := []) rfl ?_
    exact h
  · have h := h.2 c
    refine wp_s hT 5 (i' := 133) (L' := [some (.ref 74), some (.long x1), none, some (.int x3), none]) (st' := [.int x3, .ref 74, .long ((lN 31) * x1)]) rfl ?_
    refine wp_calli hT rfl rfl h (fun r2 iv1 h => ?_)
    refine wp_s hT 3 (i' := 137) (L' := [some (.ref 74), some (.long (((lN 31) * x1) + r2.toInt64)), none, some (.int x3), none]) (st' := []) rfl ?_
    have h := h _ rfl
    refine wp_s hT 2 (i' := 125) (L' := [some (.ref 74), some (.long (((lN 31) * x1) + r2.toInt64)), none, some (.int (x3 + nI 1)), none]) (st' := []) rfl ?_
    exact h

theorem mk_X11_digest_96 {X : Nat × (Nat → Int32)} {x1 : Int64} {x3 : Int32} {iv : IV} {P : Int64 → IV → Prop}
    (h : (((nI 225) ≤ x3 → ∀ v1 : Int64, v1 = ((lN 31) * x1) + ((iv 74 24).toInt64) → wp X (0, 0) 219 125 [some (.ref 74), some (.long v1), none, some (.int (nI 4294967295)), none] [] iv (Rl P)) ∧ (¬ ((nI 225) ≤ x3) → ((iv 74 11 = 0 → ∀ v2 : Int64, v2 = ((lN 31) * x1) + ((nI 4294967293).toInt64) → wp X (0, 0) 219 96 [some (.ref 74), some (.long v2), none, some (.int (x3 + nI 1)), none] [] iv (Rl P)) ∧ (¬ (iv 74 11 = 0) → wc X 185 [.ref 74, .int x3] iv (Ri (fun r4 iv3 => ∀ v5 : Int64, v5 = ((lN 31) * x1) + r4.toInt64 → wp X (0, 0) 219 96 [some (.ref 74), some (.long v5), none, some (.int (x3 + nI 1)), none] [] iv3 (Rl P)))))))) :
    wp X (0, 0) 219 96 [some (.ref 74), some (.long x1), none, some (.int x3), none] [] iv (Rl P) := by
  have hT := tb_219
  refine wp_s hT 2 (i' := 98) (L' := [some (.ref 74), some (.long x1), none, some (.int x3), none]) (st' := [.int (nI 225), .int x3]) rfl ?_
  refine wp_ic_ge hT rfl ⟨fun c => ?_, fun c => ?_⟩
  · have h := h.1 c
    refine wp_s hT 8 (i' := 123) (L' := [some (.ref 74), some (.long (((lN 31) * x1) + ((iv 74 24).toInt64))), none, some (.int x3), none]) (st' := []) rfl ?_
    have h := h _ rfl
    refine wp_s hT 2 (i' := 125) (L' := [some (.ref 74), some (.long (((lN 31) * x1) + ((iv 74 24).toInt64))), none, some (.int (nI 4294967295)), none]) (st' := []) rfl ?_
    exact h
  · have h := h.2 c
    refine wp_s hT 5 (i' := 104) (L' := [some (.ref 74), some (.long x1), none, some (.int x3), none]) (st' := [.int (iv 74 11), .long ((lN 31) * x1)]) rfl ?_
    refine wp_if_eq hT rfl ⟨fun c => ?_, fun c => ?_⟩
    · have h := h.1 c
      refine wp_s hT 4 (i' := 113) (L' := [some (.ref 74), some (.long (((lN 31) * x1) + ((nI 4294967293).toInt64))), none, some (.int x3), none]) (st' := []) rfl ?_
      have h := h _ rfl
      refine wp_s hT 2 (i' := 96) (L' := [some (.ref 74), some (.long (((lN 31) * x1) + ((nI 4294967293).toInt64))), none, some (.int (x3 + nI 1)), none]) (st' := []) rfl ?_
      exact h
    · have h := h.2 c
      refine wp_s hT 2 (i' := 107) (L' := [some (.ref 74), some (.long x1), none, some (.int x3), none]) (st' := [.int x3, .ref 74, .long ((lN 31) * x1)]) rfl ?_
      refine wp_calli hT rfl rfl h (fun r4 iv3 h => ?_)
      refine wp_s hT 4 (i' := 113) (L' := [some (.ref 74), some (.long (((lN 31) * x1) + r4.toInt64)), none, some (.int x3), none]) (st' := []) rfl ?_
      have h := h _ rfl
      refine wp_s hT 2 (i' := 96) (L' := [some (.ref 74), some (.long (((lN 31) * x1) + r4.toInt64)), none, some (.int (x3 + nI 1)), none]) (st' := []) rfl ?_
      exact h

theorem mk_X11_digest_80 {X : Nat × (Nat → Int32)} {x1 : Int64} {x3 : Int32} {iv : IV} {P : Int64 → IV → Prop}
    (h : (((nI 4) ≤ x3 → wp X (0, 0) 219 96 [some (.ref 74), some (.long x1), none, some (.int (nI 0)), none] [] iv (Rl P)) ∧ (¬ ((nI 4) ≤ x3) → wc X 174 [.ref 74, .int x3] iv (Ri (fun r2 iv1 => ∀ v3 : Int64, v3 = ((lN 31) * x1) + r2.toInt64 → wp X (0, 0) 219 80 [some (.ref 74), some (.long v3), none, some (.int (x3 + nI 1)), none] [] iv1 (Rl P)))))) :
    wp X (0, 0) 219 80 [some (.ref 74), some (.long x1), none, some (.int x3), none] [] iv (Rl P) := by
  have hT := tb_219
  refine wp_s hT 2 (i' := 82) (L' := [some (.ref 74), some (.long x1), none, some (.int x3), none]) (st' := [.int (nI 4), .int x3]) rfl ?_
  refine wp_ic_ge hT rfl ⟨fun c => ?_, fun c => ?_⟩
  · have h := h.1 c
    refine wp_s hT 2 (i' := 96) (L' := [some (.ref 74), some (.long x1), none, some (.int (nI 0)), none]) (st' := []) rfl ?_
    exact h
  · have h := h.2 c
    refine wp_s hT 5 (i' := 88) (L' := [some (.ref 74), some (.long x1), none, some (.int x3), none]) (st' := [.int x3, .ref 74, .long ((lN 31) * x1)]) rfl ?_
    refine wp_calli hT rfl rfl h (fun r2 iv1 h => ?_)
    refine wp_s hT 3 (i' := 92) (L' := [some (.ref 74), some (.long (((lN 31) * x1) + r2.toInt64)), none, some (.int x3), none]) (st' := []) rfl ?_
    have h := h _ rfl
    refine wp_s hT 2 (i' := 80) (L' := [some (.ref 74), some (.long (((lN 31) * x1) + r2.toInt64)), none, some (.int (x3 + nI 1)), none]) (st' := []) rfl ?_
    exact h

theorem mk_X11_digest_61 {X : Nat × (Nat → Int32)} {x1 : Int64} {x3 : Int32} {x4 : Int32} {iv : IV} {P : Int64 → IV → Prop}
    (h : (((nI 15) ≤ x4 → wp X (0, 0) 219 56 [some (.ref 74), some (.long x1), none, some (.int (x3 + nI 1)), none] [] iv (Rl P)) ∧ (¬ ((nI 15) ≤ x4) → wc X 171 [.ref 74, .int x3, .int x4] iv (Ri (fun r2 iv1 => ∀ v3 : Int64, v3 = ((lN 31) * x1) + r2.toInt64 → wp X (0, 0) 219 61 [some (.ref 74), some (.long v3), none, some (.int x3), some (.int (x4 + nI 1))] [] iv1 (Rl P)))))) :
    wp X (0, 0) 219 61 [some (.ref 74), some (.long x1), none, some (.int x3), some (.int x4)] [] iv (Rl P) := by
  have hT := tb_219
  refine wp_s hT 2 (i' := 63) (L' := [some (.ref 74), some (.long x1), none, some (.int x3), some (.int x4)]) (st' := [.int (nI 15), .int x4]) rfl ?_
  refine wp_ic_ge hT rfl ⟨fun c => ?_, fun c => ?_⟩
  · have h := h.1 c
    refine wp_s hT 2 (i' := 56) (L' := [some (.ref 74), some (.long x1), none, some (.int (x3 + nI 1)), some (.int x4)]) (st' := []) rfl ?_
    refine wp_le (L := [some (.ref 74), some (.long x1), none, some (.int (x3 + nI 1)), none]) ⟨Or.inl rfl, Or.inl rfl, Or.inl rfl, Or.inl rfl, Or.inr ⟨rfl, rfl⟩, trivial⟩ ?_
    exact h
  · have h := h.2 c
    refine wp_s hT 6 (i' := 70) (L' := [some (.ref 74), some (.long x1), none, some (.int x3), some (.int x4)]) (st' := [.int x4, .int x3, .ref 74, .long ((lN 31) * x1)]) rfl ?_
    refine wp_calli hT rfl rfl h (fun r2 iv1 h => ?_)
    refine wp_s hT 3 (i' := 74) (L' := [some (.ref 74), some (.long (((lN 31) * x1) + r2.toInt64)), none, some (.int x3), some (.int x4)]) (st' := []) rfl ?_
    have h := h _ rfl
    refine wp_s hT 2 (i' := 61) (L' := [some (.ref 74), some (.long (((lN 31) * x1) + r2.toInt64)), none, some (.int x3), some (.int (x4 + nI 1))]) (st' := []) rfl ?_
    exact h

theorem mk_X11_digest_56 {X : Nat × (Nat → Int32)} {x1 : Int64} {x3 : Int32} {iv : IV} {P : Int64 → IV → Prop}
    (h : (((nI 4) ≤ x3 → wp X (0, 0) 219 80 [some (.ref 74), some (.long x1), none, some (.int (nI 0)), none] [] iv (Rl P)) ∧ (¬ ((nI 4) ≤ x3) → wp X (0, 0) 219 61 [some (.ref 74), some (.long x1), none, some (.int x3), some (.int (nI 0))] [] iv (Rl P)))) :
    wp X (0, 0) 219 56 [some (.ref 74), some (.long x1), none, some (.int x3), none] [] iv (Rl P) := by
  have hT := tb_219
  refine wp_s hT 2 (i' := 58) (L' := [some (.ref 74), some (.long x1), none, some (.int x3), none]) (st' := [.int (nI 4), .int x3]) rfl ?_
  refine wp_ic_ge hT rfl ⟨fun c => ?_, fun c => ?_⟩
  · have h := h.1 c
    refine wp_s hT 2 (i' := 80) (L' := [some (.ref 74), some (.long x1), none, some (.int (nI 0)), none]) (st' := []) rfl ?_
    exact h
  · have h := h.2 c
    refine wp_s hT 2 (i' := 61) (L' := [some (.ref 74), some (.long x1), none, some (.int x3), some (.int (nI 0))]) (st' := []) rfl ?_
    exact h

theorem mk_X11_digest_44 {X : Nat × (Nat → Int32)} {x1 : Int64} {x3 : Int32} {iv : IV} {P : Int64 → IV → Prop}
    (h : (((nI 3) ≤ x3 → wp X (0, 0) 219 56 [some (.ref 74), some (.long x1), none, some (.int (nI 4294967295)), none] [] iv (Rl P)) ∧ (¬ ((nI 3) ≤ x3) → wc X 218 [.ref 74, .long x1, .int x3] iv (Rl (fun r2 iv1 => wp X (0, 0) 219 44 [some (.ref 74), some (.long r2), none, some (.int (x3 + nI 1)), none] [] iv1 (Rl P)))))) :
    wp X (0, 0) 219 44 [some (.ref 74), some (.long x1), none, some (.int x3), none] [] iv (Rl P) := by
  have hT := tb_219
  refine wp_s hT 2 (i' := 46) (L' := [some (.ref 74), some (.long x1), none, some (.int x3), none]) (st' := [.int (nI 3), .int x3]) rfl ?_
  refine wp_ic_ge hT rfl ⟨fun c => ?_, fun c => ?_⟩
  · have h := h.1 c
    refine wp_s hT 2 (i' := 56) (L' := [some (.ref 74), some (.long x1), none, some (.int (nI 4294967295)), none]) (st' := []) rfl ?_
    exact h
  · have h := h.2 c
    refine wp_s hT 3 (i' := 50) (L' := [some (.ref 74), some (.long x1), none, some (.int x3), none]) (st' := [.int x3, .long x1, .ref 74]) rfl ?_
    refine wp_calll hT rfl rfl h (fun r2 iv1 h => ?_)
    refine wp_s hT 3 (i' := 44) (L' := [some (.ref 74), some (.long r2), none, some (.int (x3 + nI 1)), none]) (st' := []) rfl ?_
    exact h

theorem mk_X11_digest_28 {X : Nat × (Nat → Int32)} {x1 : Int64} {x3 : Int32} {iv : IV} {P : Int64 → IV → Prop}
    (h : (((nI 4) ≤ x3 → wp X (0, 0) 219 44 [some (.ref 74), some (.long x1), none, some (.int (nI 0)), none] [] iv (Rl P)) ∧ (¬ ((nI 4) ≤ x3) → wc X 167 [.ref 74, .int x3] iv (Ri (fun r2 iv1 => ∀ v3 : Int64, v3 = ((lN 31) * x1) + r2.toInt64 → wp X (0, 0) 219 28 [some (.ref 74), some (.long v3), none, some (.int (x3 + nI 1)), none] [] iv1 (Rl P)))))) :
    wp X (0, 0) 219 28 [some (.ref 74), some (.long x1), none, some (.int x3), none] [] iv (Rl P) := by
  have hT := tb_219
  refine wp_s hT 2 (i' := 30) (L' := [some (.ref 74), some (.long x1), none, some (.int x3), none]) (st' := [.int (nI 4), .int x3]) rfl ?_
  refine wp_ic_ge hT rfl ⟨fun c => ?_, fun c => ?_⟩
  · have h := h.1 c
    refine wp_s hT 2 (i' := 44) (L' := [some (.ref 74), some (.long x1), none, some (.int (nI 0)), none]) (st' := []) rfl ?_
    exact h
  · have h := h.2 c
    refine wp_s hT 5 (i' := 36) (L' := [some (.ref 74), some (.long x1), none, some (.int x3), none]) (st' := [.int x3, .ref 74, .long ((lN 31) * x1)]) rfl ?_
    refine wp_calli hT rfl rfl h (fun r2 iv1 h => ?_)
    refine wp_s hT 3 (i' := 40) (L' := [some (.ref 74), some (.long (((lN 31) * x1) + r2.toInt64)), none, some (.int x3), none]) (st' := []) rfl ?_
    have h := h _ rfl
    refine wp_s hT 2 (i' := 28) (L' := [some (.ref 74), some (.long (((lN 31) * x1) + r2.toInt64)), none, some (.int (x3 + nI 1)), none]) (st' := []) rfl ?_
    exact h

theorem mk_X11_digest_4 {X : Nat × (Nat → Int32)} {x1 : Int64} {x3 : Int32} {iv : IV} {P : Int64 → IV → Prop}
    (h : (((nI 8) ≤ x3 → wc X 149 [.ref 74] iv (Ri (fun r2 iv1 => ∀ v3 : Int64, v3 = ((lN 31) * x1) + r2.toInt64 → wp X (0, 0) 219 28 [some (.ref 74), some (.long v3), none, some (.int (nI 0)), none] [] iv1 (Rl P)))) ∧ (¬ ((nI 8) ≤ x3) → wc X 217 [.ref 74, .int x3] iv (Ri (fun r5 iv4 => ∀ v6 : Int64, v6 = ((lN 31) * x1) + r5.toInt64 → wp X (0, 0) 219 4 [some (.ref 74), some (.long v6), none, some (.int (x3 + nI 1)), none] [] iv4 (Rl P)))))) :
    wp X (0, 0) 219 4 [some (.ref 74), some (.long x1), none, some (.int x3), none] [] iv (Rl P) := by
  have hT := tb_219
  refine wp_s hT 2 (i' := 6) (L' := [some (.ref 74), some (.long x1), none, some (.int x3), none]) (st' := [.int (nI 8), .int x3]) rfl ?_
  refine wp_ic_ge hT rfl ⟨fun c => ?_, fun c => ?_⟩
  · have h := h.1 c
    refine wp_s hT 4 (i' := 22) (L' := [some (.ref 74), some (.long x1), none, some (.int x3), none]) (st' := [.ref 74, .long ((lN 31) * x1)]) rfl ?_
    refine wp_calli hT rfl rfl h (fun r2 iv1 h => ?_)
    refine wp_s hT 3 (i' := 26) (L' := [some (.ref 74), some (.long (((lN 31) * x1) + r2.toInt64)), none, some (.int x3), none]) (st' := []) rfl ?_
    have h := h _ rfl
    refine wp_s hT 2 (i' := 28) (L' := [some (.ref 74), some (.long (((lN 31) * x1) + r2.toInt64)), none, some (.int (nI 0)), none]) (st' := []) rfl ?_
    exact h
  · have h := h.2 c
    refine wp_s hT 5 (i' := 12) (L' := [some (.ref 74), some (.long x1), none, some (.int x3), none]) (st' := [.int x3, .ref 74, .long ((lN 31) * x1)]) rfl ?_
    refine wp_calli hT rfl rfl h (fun r5 iv4 h => ?_)
    refine wp_s hT 3 (i' := 16) (L' := [some (.ref 74), some (.long (((lN 31) * x1) + r5.toInt64)), none, some (.int x3), none]) (st' := []) rfl ?_
    have h := h _ rfl
    refine wp_s hT 2 (i' := 4) (L' := [some (.ref 74), some (.long (((lN 31) * x1) + r5.toInt64)), none, some (.int (x3 + nI 1)), none]) (st' := []) rfl ?_
    exact h

theorem mk_X11_digest {X : Nat × (Nat → Int32)}  {iv : IV} {P : Int64 → IV → Prop}
    (h : wp X (0, 0) 219 4 [some (.ref 74), some (.long (lN 17)), none, some (.int (nI 0)), none] [] iv (Rl P)) :
    wc X 219 [.ref 74] iv (Rl P) := by
  have hT := tb_219
  show wp X (0, 0) 219 0 [some (.ref 74), none, none, none, none] [] iv (Rl P)
  refine wp_s hT 4 (i' := 4) (L' := [some (.ref 74), some (.long (lN 17)), none, some (.int (nI 0)), none]) (st' := []) rfl ?_
  exact h
