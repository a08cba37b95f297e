/-! what each method comes to, printed by wip/gen/mech.py -/
theorem mk_X10_type {X : Nat × (Nat → Int32)} {x1 : Int32} {x2 : Int32} {iv : IV} {P : Int32 → IV → Prop}
    (h : wc X 113 [.int x1, .int (nI 2)] iv (Ri (fun r2 iv1 => ((r2 = 0 → P (nI 4294967294) iv1) ∧ (¬ (r2 = 0) → wc X 113 [.int x2, .int (nI 256)] iv1 (Ri (fun r4 iv3 => ((r4 = 0 → P (nI 4294967294) iv3) ∧ (¬ (r4 = 0) → wc X 111 [.ref 1, .int x1] iv3 (Rr (fun r6 iv5 => kdT r6 = (17, 0) ∧ wc X 56 [.ref r6] iv5 (Ri (fun r8 iv7 => ((r8 = 0 → kdT r6 = (17, 0) ∧ wc X 57 [.ref r6, .int x2] iv7 (Rv (fun iv9 => ∀ iv10 : IV, iv10 = mm_up2 iv9 1 10 (nI 0) → kdT r6 = (17, 0) ∧ P (iv10 r6 2) iv10))) ∧ (¬ (r8 = 0) → P (nI 4294967292) iv7))))))))))))))) :
    wc X 65 [.ref 1, .int x1, .int x2] iv (Ri P) := by
  have hT := tb_65
  show wp X (0, 0) 65 0 [some (.ref 1), some (.int x1), some (.int x2), none] [] iv (Ri P)
  refine wp_s hT 2 (i' := 2) (L' := [some (.ref 1), some (.int x1), some (.int x2), none]) (st' := [.int (nI 2), .int x1]) rfl ?_
  refine wp_calli hT rfl rfl h (fun r2 iv1 h => ?_)
  refine wp_if_eq hT rfl ⟨fun c => ?_, fun c => ?_⟩
  · have h := h.1 c
    refine wp_s hT 1 (i' := 9) (L' := [some (.ref 1), some (.int x1), some (.int x2), none]) (st' := [.int (nI 4294967294)]) rfl ?_
    exact wp_ri hT rfl rfl ⟨_, rfl, h⟩
  · have h := h.2 c
    refine wp_s hT 2 (i' := 6) (L' := [some (.ref 1), some (.int x1), some (.int x2), none]) (st' := [.int (nI 256), .int x2]) rfl ?_
    refine wp_calli hT rfl rfl h (fun r4 iv3 h => ?_)
    refine wp_if_ne hT rfl ⟨fun c => ?_, fun c => ?_⟩
    · have h := h.1 c
      refine wp_s hT 1 (i' := 9) (L' := [some (.ref 1), some (.int x1), some (.int x2), none]) (st' := [.int (nI 4294967294)]) rfl ?_
      exact wp_ri hT rfl rfl ⟨_, rfl, h⟩
    · have h := h.2 c
      refine wp_s hT 2 (i' := 12) (L' := [some (.ref 1), some (.int x1), some (.int x2), none]) (st' := [.int x1, .ref 1]) rfl ?_
      refine wp_callr hT rfl rfl h (fun r6 iv5 h => ?_)
      refine wp_s hT 2 (i' := 15) (L' := [some (.ref 1), some (.int x1), some (.int x2), some (.ref r6)]) (st' := [.ref r6]) rfl ?_
      refine wp_calli hT rfl (mm_cl_of (c6 := 0) (c7 := 0) (f5 := 0) (f6 := 0) rfl rfl rfl rfl rfl rfl h.1 rfl rfl (Nat.le_of_ble_eq_true rfl) (Nat.le_of_ble_eq_true rfl) (Nat.le_of_ble_eq_true rfl) (Nat.zero_le _) (Nat.zero_le _)) h.2 (fun r8 iv7 h => ?_)
      refine wp_if_eq hT rfl ⟨fun c => ?_, fun c => ?_⟩
      · have h := h.1 c
        refine wp_s hT 2 (i' := 21) (L' := [some (.ref 1), some (.int x1), some (.int x2), some (.ref r6)]) (st' := [.int x2, .ref r6]) rfl ?_
        refine wp_callv hT rfl (mm_cl_of (c6 := 0) (c7 := 0) (f5 := 0) (f6 := 0) rfl rfl rfl rfl rfl rfl h.1 rfl rfl (Nat.le_of_ble_eq_true rfl) (Nat.le_of_ble_eq_true rfl) (Nat.le_of_ble_eq_true rfl) (Nat.zero_le _) (Nat.zero_le _)) h.2 (fun iv9 h => ?_)
        refine wp_s hT 2 (i' := 24) (L' := [some (.ref 1), some (.int x1), some (.int x2), some (.ref r6)]) (st' := [.int (nI 0), .ref 1]) rfl ?_
        refine wp_puti hT rfl rfl ⟨by decide, by decide⟩ ?_
        have h := h _ rfl
        refine wp_s hT 1 (i' := 26) (L' := [some (.ref 1), some (.int x1), some (.int x2), some (.ref r6)]) (st' := [.ref r6]) rfl ?_
        refine wp_geti hT rfl h.1 ⟨by decide, by decide⟩ ?_
        have h := h.2
        exact wp_ri hT rfl rfl ⟨_, rfl, h⟩
      · have h := h.2 c
        refine wp_s hT 1 (i' := 18) (L' := [some (.ref 1), some (.int x1), some (.int x2), some (.ref r6)]) (st' := [.int (nI 4294967292)]) rfl ?_
        exact wp_ri hT rfl rfl ⟨_, rfl, h⟩

theorem mk_X10_wipe {X : Nat × (Nat → Int32)} {x1 : Int32} {iv : IV} {P : Int32 → IV → Prop}
    (h : wc X 113 [.int x1, .int (nI 2)] iv (Ri (fun r2 iv1 => ((r2 = 0 → P (nI 4294967294) iv1) ∧ (¬ (r2 = 0) → wc X 111 [.ref 1, .int x1] iv1 (Rr (fun r4 iv3 => kdT r4 = (17, 0) ∧ kdT r4 = (17, 0) ∧ (∀ iv5 : IV, iv5 = mm_up2 iv3 r4 2 (nI 0) → ∀ iv6 : IV, iv6 = mm_up2 iv5 1 10 (nI 0) → P (iv3 r4 2) iv6)))))))) :
    wc X 66 [.ref 1, .int x1] iv (Ri P) := by
  have hT := tb_66
  show wp X (0, 0) 66 0 [some (.ref 1), some (.int x1), none, none] [] iv (Ri P)
  refine wp_s hT 2 (i' := 2) (L' := [some (.ref 1), some (.int x1), none, none]) (st' := [.int (nI 2), .int x1]) rfl ?_
  refine wp_calli hT rfl rfl h (fun r2 iv1 h => ?_)
  refine wp_if_ne hT rfl ⟨fun c => ?_, fun c => ?_⟩
  · have h := h.1 c
    refine wp_s hT 1 (i' := 5) (L' := [some (.ref 1), some (.int x1), none, none]) (st' := [.int (nI 4294967294)]) rfl ?_
    exact wp_ri hT rfl rfl ⟨_, rfl, h⟩
  · have h := h.2 c
    refine wp_s hT 2 (i' := 8) (L' := [some (.ref 1), some (.int x1), none, none]) (st' := [.int x1, .ref 1]) rfl ?_
    refine wp_callr hT rfl rfl h (fun r4 iv3 h => ?_)
    refine wp_s hT 2 (i' := 11) (L' := [some (.ref 1), some (.int x1), some (.ref r4), none]) (st' := [.ref r4]) rfl ?_
    refine wp_geti hT rfl h.1 ⟨by decide, by decide⟩ ?_
    have h := h.2
    refine wp_s hT 3 (i' := 15) (L' := [some (.ref 1), some (.int x1), some (.ref r4), some (.int (iv3 r4 2))]) (st' := [.int (nI 0), .ref r4]) rfl ?_
    refine wp_puti hT rfl h.1 ⟨by decide, by decide⟩ ?_
    have h := h.2
    have h := h _ rfl
    refine wp_s hT 2 (i' := 18) (L' := [some (.ref 1), some (.int x1), some (.ref r4), some (.int (iv3 r4 2))]) (st' := [.int (nI 0), .ref 1]) rfl ?_
    refine wp_puti hT rfl rfl ⟨by decide, by decide⟩ ?_
    have h := h _ rfl
    refine wp_s hT 1 (i' := 20) (L' := [some (.ref 1), some (.int x1), some (.ref r4), some (.int (iv3 r4 2))]) (st' := [.int (iv3 r4 2)]) rfl ?_
    exact wp_ri hT rfl rfl ⟨_, rfl, h⟩

theorem mk_X10_undo {X : Nat × (Nat → Int32)} {x1 : Int32} {iv : IV} {P : Int32 → IV → Prop}
    (h : wc X 113 [.int x1, .int (nI 2)] iv (Ri (fun r2 iv1 => ((r2 = 0 → P (nI 4294967294) iv1) ∧ (¬ (r2 = 0) → wc X 111 [.ref 1, .int x1] iv1 (Rr (fun r4 iv3 => kdT r4 = (17, 0) ∧ ((iv3 r4 2 = 0 → P (nI 4294967293) iv3) ∧ (¬ (iv3 r4 2 = 0) → kdT r4 = (17, 0) ∧ kdT r4 = (17, 0) ∧ (∀ iv5 : IV, iv5 = mm_up2 iv3 r4 2 ((iv3 r4 2) - (nI 1)) → ∀ iv6 : IV, iv6 = mm_up2 iv5 1 10 (nI 0) → kdT r4 = (17, 0) ∧ P (iv6 r4 2) iv6)))))))))) :
    wc X 67 [.ref 1, .int x1] iv (Ri P) := by
  have hT := tb_67
  show wp X (0, 0) 67 0 [some (.ref 1), some (.int x1), none] [] iv (Ri P)
  refine wp_s hT 2 (i' := 2) (L' := [some (.ref 1), some (.int x1), none]) (st' := [.int (nI 2), .int x1]) rfl ?_
  refine wp_calli hT rfl rfl h (fun r2 iv1 h => ?_)
  refine wp_if_ne hT rfl ⟨fun c => ?_, fun c => ?_⟩
  · have h := h.1 c
    refine wp_s hT 1 (i' := 5) (L' := [some (.ref 1), some (.int x1), none]) (st' := [.int (nI 4294967294)]) rfl ?_
    exact wp_ri hT rfl rfl ⟨_, rfl, h⟩
  · have h := h.2 c
    refine wp_s hT 2 (i' := 8) (L' := [some (.ref 1), some (.int x1), none]) (st' := [.int x1, .ref 1]) rfl ?_
    refine wp_callr hT rfl rfl h (fun r4 iv3 h => ?_)
    refine wp_s hT 2 (i' := 11) (L' := [some (.ref 1), some (.int x1), some (.ref r4)]) (st' := [.ref r4]) rfl ?_
    refine wp_geti hT rfl h.1 ⟨by decide, by decide⟩ ?_
    have h := h.2
    refine wp_if_ne hT rfl ⟨fun c => ?_, fun c => ?_⟩
    · have h := h.1 c
      refine wp_s hT 1 (i' := 14) (L' := [some (.ref 1), some (.int x1), some (.ref r4)]) (st' := [.int (nI 4294967293)]) rfl ?_
      exact wp_ri hT rfl rfl ⟨_, rfl, h⟩
    · have h := h.2 c
      refine wp_s hT 2 (i' := 17) (L' := [some (.ref 1), some (.int x1), some (.ref r4)]) (st' := [.ref r4, .ref r4]) rfl ?_
      refine wp_geti hT rfl h.1 ⟨by decide, by decide⟩ ?_
      have h := h.2
      refine wp_s hT 2 (i' := 20) (L' := [some (.ref 1), some (.int x1), some (.ref r4)]) (st' := [.int ((iv3 r4 2) - (nI 1)), .ref r4]) rfl ?_
      refine wp_puti hT rfl h.1 ⟨by decide, by decide⟩ ?_
      have h := h.2
      have h := h _ rfl
      refine wp_s hT 2 (i' := 23) (L' := [some (.ref 1), some (.int x1), some (.ref r4)]) (st' := [.int (nI 0), .ref 1]) rfl ?_
      refine wp_puti hT rfl rfl ⟨by decide, by decide⟩ ?_
      have h := h _ rfl
      refine wp_s hT 1 (i' := 25) (L' := [some (.ref 1), some (.int x1), some (.ref r4)]) (st' := [.ref r4]) rfl ?_
      refine wp_geti hT rfl h.1 ⟨by decide, by decide⟩ ?_
      have h := h.2
      exact wp_ri hT rfl rfl ⟨_, rfl, h⟩

theorem mk_X10_fault {X : Nat × (Nat → Int32)}  {iv : IV} {P : Int32 → IV → Prop}
    (h : wc X 59 [.ref 4] iv (Ri (fun r2 iv1 => P r2 iv1))) :
    wc X 68 [.ref 1] iv (Ri P) := by
  have hT := tb_68
  show wp X (0, 0) 68 0 [some (.ref 1)] [] iv (Ri P)
  refine wp_s hT 2 (i' := 2) (L' := [some (.ref 1)]) (st' := [.ref 4]) rfl ?_
  refine wp_calli hT rfl rfl h (fun r2 iv1 h => ?_)
  exact wp_ri hT rfl rfl ⟨_, rfl, h⟩

theorem mk_X10_read_20 {X : Nat × (Nat → Int32)} {a2_ : Nat} {x3 : Int32} {iv : IV} {P : Int32 → IV → Prop}
    (h : kdT a2_ = (15, 0) ∧ (((iv a2_ 2) ≤ x3 → ∀ iv1 : IV, iv1 = mm_up2 iv 1 10 (nI 0) → P x3 iv1) ∧ (¬ ((iv a2_ 2) ≤ x3) → kdT a2_ = (15, 0) ∧ kdT (rvT a2_ 3) = (1, 60) ∧ vp_in x3 60 ∧ wc X 113 [.int (iv (rvT a2_ 3) x3.toNatClampNeg), .int (nI 256)] iv (Ri (fun r3 iv2 => ((r3 = 0 → ∀ iv4 : IV, iv4 = mm_up2 iv2 1 10 (nI 0) → P x3 iv4) ∧ (¬ (r3 = 0) → wc X 56 [.ref 2] iv2 (Ri (fun r6 iv5 => ((r6 = 0 → kdT a2_ = (15, 0) ∧ kdT (rvT a2_ 3) = (1, 60) ∧ vp_in x3 60 ∧ wc X 57 [.ref 2, .int (iv5 (rvT a2_ 3) x3.toNatClampNeg)] iv5 (Rv (fun iv7 => wp X (0, 0) 69 20 [some (.ref 1), none, some (.ref a2_), some (.int (x3 + nI 1))] [] iv7 (Ri P)))) ∧ (¬ (r6 = 0) → ∀ iv8 : IV, iv8 = mm_up2 iv5 1 10 (nI 0) → P x3 iv8))))))))))) :
    wp X (0, 0) 69 20 [some (.ref 1), none, some (.ref a2_), some (.int x3)] [] iv (Ri P) := by
  have hT := tb_69
  refine wp_s hT 2 (i' := 22) (L' := [some (.ref 1), none, some (.ref a2_), some (.int x3)]) (st' := [.ref a2_, .int x3]) rfl ?_
  refine wp_geti hT rfl h.1 ⟨by decide, by decide⟩ ?_
  have h := h.2
  refine wp_ic_ge hT rfl ⟨fun c => ?_, fun c => ?_⟩
  · have h := h.1 c
    refine wp_s hT 2 (i' := 46) (L' := [some (.ref 1), none, some (.ref a2_), some (.int x3)]) (st' := [.int (nI 0), .ref 1]) rfl ?_
    refine wp_puti hT rfl rfl ⟨by decide, by decide⟩ ?_
    have h := h _ rfl
    refine wp_s hT 1 (i' := 48) (L' := [some (.ref 1), none, some (.ref a2_), some (.int x3)]) (st' := [.int x3]) rfl ?_
    exact wp_ri hT rfl rfl ⟨_, rfl, h⟩
  · have h := h.2 c
    refine wp_s hT 1 (i' := 25) (L' := [some (.ref 1), none, some (.ref a2_), some (.int x3)]) (st' := [.ref a2_]) rfl ?_
    refine wp_getr hT rfl h.1 ⟨by decide, by decide⟩ ?_
    have h := h.2
    refine wp_s hT 1 (i' := 27) (L' := [some (.ref 1), none, some (.ref a2_), some (.int x3)]) (st' := [.int x3, .ref (rvT a2_ 3)]) rfl ?_
    refine wp_iald hT rfl h.1 ⟨h.2.1, ?_⟩
    have h := h.2.2
    refine wp_s hT 1 (i' := 29) (L' := [some (.ref 1), none, some (.ref a2_), some (.int x3)]) (st' := [.int (nI 256), .int (iv (rvT a2_ 3) x3.toNatClampNeg)]) rfl ?_
    refine wp_calli hT rfl rfl h (fun r3 iv2 h => ?_)
    refine wp_if_eq hT rfl ⟨fun c => ?_, fun c => ?_⟩
    · have h := h.1 c
      refine wp_s hT 2 (i' := 46) (L' := [some (.ref 1), none, some (.ref a2_), some (.int x3)]) (st' := [.int (nI 0), .ref 1]) rfl ?_
      refine wp_puti hT rfl rfl ⟨by decide, by decide⟩ ?_
      have h := h _ rfl
      refine wp_s hT 1 (i' := 48) (L' := [some (.ref 1), none, some (.ref a2_), some (.int x3)]) (st' := [.int x3]) rfl ?_
      exact wp_ri hT rfl rfl ⟨_, rfl, h⟩
    · have h := h.2 c
      refine wp_s hT 2 (i' := 33) (L' := [some (.ref 1), none, some (.ref a2_), some (.int x3)]) (st' := [.ref 2]) rfl ?_
      refine wp_calli hT rfl rfl h (fun r6 iv5 h => ?_)
      refine wp_if_ne hT rfl ⟨fun c => ?_, fun c => ?_⟩
      · have h := h.1 c
        refine wp_s hT 3 (i' := 38) (L' := [some (.ref 1), none, some (.ref a2_), some (.int x3)]) (st' := [.ref a2_, .ref 2]) rfl ?_
        refine wp_getr hT rfl h.1 ⟨by decide, by decide⟩ ?_
        have h := h.2
        refine wp_s hT 1 (i' := 40) (L' := [some (.ref 1), none, some (.ref a2_), some (.int x3)]) (st' := [.int x3, .ref (rvT a2_ 3), .ref 2]) rfl ?_
        refine wp_iald hT rfl h.1 ⟨h.2.1, ?_⟩
        have h := h.2.2
        refine wp_callv hT rfl rfl h (fun iv7 h => ?_)
        refine wp_s hT 2 (i' := 20) (L' := [some (.ref 1), none, some (.ref a2_), some (.int (x3 + nI 1))]) (st' := []) rfl ?_
        exact h
      · have h := h.2 c
        refine wp_s hT 2 (i' := 46) (L' := [some (.ref 1), none, some (.ref a2_), some (.int x3)]) (st' := [.int (nI 0), .ref 1]) rfl ?_
        refine wp_puti hT rfl rfl ⟨by decide, by decide⟩ ?_
        have h := h _ rfl
        refine wp_s hT 1 (i' := 48) (L' := [some (.ref 1), none, some (.ref a2_), some (.int x3)]) (st' := [.int x3]) rfl ?_
        exact wp_ri hT rfl rfl ⟨_, rfl, h⟩

theorem mk_X10_read {X : Nat × (Nat → Int32)} {x1 : Int32} {iv : IV} {P : Int32 → IV → Prop}
    (h : wc X 113 [.int x1, .int (nI 4)] iv (Ri (fun r2 iv1 => ((r2 = 0 → P (nI 4294967294) iv1) ∧ (¬ (r2 = 0) → vp_in x1 4 ∧ ∀ a3 : Nat, a3 = rvT 65 x1.toNatClampNeg → kdT a3 = (15, 0) ∧ ((iv1 a3 0 = 0 → wc X 112 [.ref 1, .int (nI 1)] iv1 (Ri (fun r5 iv4 => P r5 iv4))) ∧ (¬ (iv1 a3 0 = 0) → wp X (0, 0) 69 20 [some (.ref 1), none, some (.ref a3), some (.int (nI 0))] [] iv1 (Ri P)))))))) :
    wc X 69 [.ref 1, .int x1] iv (Ri P) := by
  have hT := tb_69
  show wp X (0, 0) 69 0 [some (.ref 1), some (.int x1), none, none] [] iv (Ri P)
  refine wp_s hT 2 (i' := 2) (L' := [some (.ref 1), some (.int x1), none, none]) (st' := [.int (nI 4), .int x1]) rfl ?_
  refine wp_calli hT rfl rfl h (fun r2 iv1 h => ?_)
  refine wp_if_ne hT rfl ⟨fun c => ?_, fun c => ?_⟩
  · have h := h.1 c
    refine wp_s hT 1 (i' := 5) (L' := [some (.ref 1), some (.int x1), none, none]) (st' := [.int (nI 4294967294)]) rfl ?_
    exact wp_ri hT rfl rfl ⟨_, rfl, h⟩
  · have h := h.2 c
    refine wp_s hT 3 (i' := 9) (L' := [some (.ref 1), some (.int x1), none, none]) (st' := [.int x1, .ref 65]) rfl ?_
    refine wp_aald hT rfl rfl ⟨by decide, by decide⟩ ⟨h.1, ?_⟩
    have h := h.2
    have h := h _ rfl
    refine wp_s hT 2 (i' := 12) (L' := [some (.ref 1), some (.int x1), some (.ref (rvT 65 x1.toNatClampNeg)), none]) (st' := [.ref (rvT 65 x1.toNatClampNeg)]) rfl ?_
    refine wp_geti hT rfl h.1 ⟨by decide, by decide⟩ ?_
    have h := h.2
    refine wp_if_ne hT rfl ⟨fun c => ?_, fun c => ?_⟩
    · have h := h.1 c
      refine wp_s hT 2 (i' := 16) (L' := [some (.ref 1), some (.int x1), some (.ref (rvT 65 x1.toNatClampNeg)), none]) (st' := [.int (nI 1), .ref 1]) rfl ?_
      refine wp_calli hT rfl rfl h (fun r5 iv4 h => ?_)
      exact wp_ri hT rfl rfl ⟨_, rfl, h⟩
    · have h := h.2 c
      refine wp_s hT 2 (i' := 20) (L' := [some (.ref 1), some (.int x1), some (.ref (rvT 65 x1.toNatClampNeg)), some (.int (nI 0))]) (st' := []) rfl ?_
      refine wp_le (L := [some (.ref 1), none, some (.ref (rvT 65 x1.toNatClampNeg)), some (.int (nI 0))]) ⟨Or.inl rfl, Or.inr ⟨rfl, rfl⟩, Or.inl rfl, Or.inl rfl, trivial⟩ ?_
      exact h

theorem mk_X10_field {X : Nat × (Nat → Int32)} {x1 : Int32} {x2 : Int32} {x3 : Int32} {iv : IV} {P : Int32 → IV → Prop}
    (h : wc X 113 [.int x1, .int (nI 16)] iv (Ri (fun r2 iv1 => ((r2 = 0 → P (nI 4294967294) iv1) ∧ (¬ (r2 = 0) → wc X 113 [.int x2, .int (nI 16)] iv1 (Ri (fun r4 iv3 => ((r4 = 0 → P (nI 4294967294) iv3) ∧ (¬ (r4 = 0) → wc X 113 [.int x3, .int (nI 3)] iv3 (Ri (fun r6 iv5 => ((r6 = 0 → P (nI 4294967294) iv5) ∧ (¬ (r6 = 0) → ((x3 = 0 → wc X 8 [.int x1, .int x2] iv5 (Ri (fun r8 iv7 => P r8 iv7))) ∧ (¬ (x3 = 0) → ((x3 = (nI 1) → wc X 9 [.int x1, .int x2] iv5 (Ri (fun r10 iv9 => P r10 iv9))) ∧ (¬ (x3 = (nI 1)) → wc X 10 [.int x1, .int x2] iv5 (Ri (fun r12 iv11 => P r12 iv11))))))))))))))))))) :
    wc X 70 [.ref 1, .int x1, .int x2, .int x3] iv (Ri P) := by
  have hT := tb_70
  show wp X (0, 0) 70 0 [some (.ref 1), some (.int x1), some (.int x2), some (.int x3)] [] iv (Ri P)
  refine wp_s hT 2 (i' := 2) (L' := [some (.ref 1), some (.int x1), some (.int x2), some (.int x3)]) (st' := [.int (nI 16), .int x1]) rfl ?_
  refine wp_calli hT rfl rfl h (fun r2 iv1 h => ?_)
  refine wp_if_eq hT rfl ⟨fun c => ?_, fun c => ?_⟩
  · have h := h.1 c
    refine wp_s hT 1 (i' := 13) (L' := [some (.ref 1), some (.int x1), some (.int x2), some (.int x3)]) (st' := [.int (nI 4294967294)]) rfl ?_
    exact wp_ri hT rfl rfl ⟨_, rfl, h⟩
  · have h := h.2 c
    refine wp_s hT 2 (i' := 6) (L' := [some (.ref 1), some (.int x1), some (.int x2), some (.int x3)]) (st' := [.int (nI 16), .int x2]) rfl ?_
    refine wp_calli hT rfl rfl h (fun r4 iv3 h => ?_)
    refine wp_if_eq hT rfl ⟨fun c => ?_, fun c => ?_⟩
    · have h := h.1 c
      refine wp_s hT 1 (i' := 13) (L' := [some (.ref 1), some (.int x1), some (.int x2), some (.int x3)]) (st' := [.int (nI 4294967294)]) rfl ?_
      exact wp_ri hT rfl rfl ⟨_, rfl, h⟩
    · have h := h.2 c
      refine wp_s hT 2 (i' := 10) (L' := [some (.ref 1), some (.int x1), some (.int x2), some (.int x3)]) (st' := [.int (nI 3), .int x3]) rfl ?_
      refine wp_calli hT rfl rfl h (fun r6 iv5 h => ?_)
      refine wp_if_ne hT rfl ⟨fun c => ?_, fun c => ?_⟩
      · have h := h.1 c
        refine wp_s hT 1 (i' := 13) (L' := [some (.ref 1), some (.int x1), some (.int x2), some (.int x3)]) (st' := [.int (nI 4294967294)]) rfl ?_
        exact wp_ri hT rfl rfl ⟨_, rfl, h⟩
      · have h := h.2 c
        refine wp_s hT 1 (i' := 15) (L' := [some (.ref 1), some (.int x1), some (.int x2), some (.int x3)]) (st' := [.int x3]) rfl ?_
        refine wp_if_ne hT rfl ⟨fun c => ?_, fun c => ?_⟩
        · have h := h.1 c
          refine wp_s hT 2 (i' := 18) (L' := [some (.ref 1), some (.int x1), some (.int x2), some (.int x3)]) (st' := [.int x2, .int x1]) rfl ?_
          refine wp_calli hT rfl rfl h (fun r8 iv7 h => ?_)
          exact wp_ri hT rfl rfl ⟨_, rfl, h⟩
        · have h := h.2 c
          refine wp_s hT 2 (i' := 22) (L' := [some (.ref 1), some (.int x1), some (.int x2), some (.int x3)]) (st' := [.int (nI 1), .int x3]) rfl ?_
          refine wp_ic_ne hT rfl ⟨fun c => ?_, fun c => ?_⟩
          · have h := h.1 c
            refine wp_s hT 2 (i' := 25) (L' := [some (.ref 1), some (.int x1), some (.int x2), some (.int x3)]) (st' := [.int x2, .int x1]) rfl ?_
            refine wp_calli hT rfl rfl h (fun r10 iv9 h => ?_)
            refine wp_s hT 1 (i' := 30) (L' := [some (.ref 1), some (.int x1), some (.int x2), some (.int x3)]) (st' := [.int r10]) rfl ?_
            exact wp_ri hT rfl rfl ⟨_, rfl, h⟩
          · have h := h.2 c
            refine wp_s hT 2 (i' := 29) (L' := [some (.ref 1), some (.int x1), some (.int x2), some (.int x3)]) (st' := [.int x2, .int x1]) rfl ?_
            refine wp_calli hT rfl rfl h (fun r12 iv11 h => ?_)
            exact wp_ri hT rfl rfl ⟨_, rfl, h⟩

theorem mk_X10_mark {X : Nat × (Nat → Int32)} {x1 : Int32} {iv : IV} {P : Int32 → IV → Prop}
    (h : wc X 113 [.int x1, .int (nI 4)] iv (Ri (fun r2 iv1 => ((r2 = 0 → P (nI 4294967294) iv1) ∧ (¬ (r2 = 0) → wc X 109 [.ref 1, .int (nI 0)] iv1 (Rv (fun iv3 => wc X 98 [.ref 1, .int x1] iv3 (Ri (fun r5 iv4 => P r5 iv4))))))))) :
    wc X 71 [.ref 1, .int x1] iv (Ri P) := by
  have hT := tb_71
  show wp X (0, 0) 71 0 [some (.ref 1), some (.int x1)] [] iv (Ri P)
  refine wp_s hT 2 (i' := 2) (L' := [some (.ref 1), some (.int x1)]) (st' := [.int (nI 4), .int x1]) rfl ?_
  refine wp_calli hT rfl rfl h (fun r2 iv1 h => ?_)
  refine wp_if_ne hT rfl ⟨fun c => ?_, fun c => ?_⟩
  · have h := h.1 c
    refine wp_s hT 1 (i' := 5) (L' := [some (.ref 1), some (.int x1)]) (st' := [.int (nI 4294967294)]) rfl ?_
    exact wp_ri hT rfl rfl ⟨_, rfl, h⟩
  · have h := h.2 c
    refine wp_s hT 2 (i' := 8) (L' := [some (.ref 1), some (.int x1)]) (st' := [.int (nI 0), .ref 1]) rfl ?_
    refine wp_callv hT rfl rfl h (fun iv3 h => ?_)
    refine wp_s hT 2 (i' := 11) (L' := [some (.ref 1), some (.int x1)]) (st' := [.int x1, .ref 1]) rfl ?_
    refine wp_calli hT rfl rfl h (fun r5 iv4 h => ?_)
    exact wp_ri hT rfl rfl ⟨_, rfl, h⟩

theorem mk_X10_symbol {X : Nat × (Nat → Int32)} {x1 : Int32} {x2 : Int32} {iv : IV} {P : Int32 → IV → Prop}
    (h : wc X 113 [.int x1, .int (nI 3)] iv (Ri (fun r2 iv1 => ((r2 = 0 → P (nI 4294967294) iv1) ∧ (¬ (r2 = 0) → wc X 113 [.int x2, .int (nI 14)] iv1 (Ri (fun r4 iv3 => ((r4 = 0 → P (nI 4294967294) iv3) ∧ (¬ (r4 = 0) → wc X 109 [.ref 1, .int (nI 0)] iv3 (Rv (fun iv5 => wc X 99 [.ref 1, .int x1, .int x2] iv5 (Ri (fun r7 iv6 => P r7 iv6))))))))))))) :
    wc X 72 [.ref 1, .int x1, .int x2] iv (Ri P) := by
  have hT := tb_72
  show wp X (0, 0) 72 0 [some (.ref 1), some (.int x1), some (.int x2)] [] iv (Ri P)
  refine wp_s hT 2 (i' := 2) (L' := [some (.ref 1), some (.int x1), some (.int x2)]) (st' := [.int (nI 3), .int x1]) rfl ?_
  refine wp_calli hT rfl rfl h (fun r2 iv1 h => ?_)
  refine wp_if_eq hT rfl ⟨fun c => ?_, fun c => ?_⟩
  · have h := h.1 c
    refine wp_s hT 1 (i' := 9) (L' := [some (.ref 1), some (.int x1), some (.int x2)]) (st' := [.int (nI 4294967294)]) rfl ?_
    exact wp_ri hT rfl rfl ⟨_, rfl, h⟩
  · have h := h.2 c
    refine wp_s hT 2 (i' := 6) (L' := [some (.ref 1), some (.int x1), some (.int x2)]) (st' := [.int (nI 14), .int x2]) rfl ?_
    refine wp_calli hT rfl rfl h (fun r4 iv3 h => ?_)
    refine wp_if_ne hT rfl ⟨fun c => ?_, fun c => ?_⟩
    · have h := h.1 c
      refine wp_s hT 1 (i' := 9) (L' := [some (.ref 1), some (.int x1), some (.int x2)]) (st' := [.int (nI 4294967294)]) rfl ?_
      exact wp_ri hT rfl rfl ⟨_, rfl, h⟩
    · have h := h.2 c
      refine wp_s hT 2 (i' := 12) (L' := [some (.ref 1), some (.int x1), some (.int x2)]) (st' := [.int (nI 0), .ref 1]) rfl ?_
      refine wp_callv hT rfl rfl h (fun iv5 h => ?_)
      refine wp_s hT 3 (i' := 16) (L' := [some (.ref 1), some (.int x1), some (.int x2)]) (st' := [.int x2, .int x1, .ref 1]) rfl ?_
      refine wp_calli hT rfl rfl h (fun r7 iv6 h => ?_)
      exact wp_ri hT rfl rfl ⟨_, rfl, h⟩

theorem mk_X10_dots_7 {X : Nat × (Nat → Int32)} {x1 : Int32} {x2 : Int32} {iv : IV} {P : Int32 → IV → Prop}
    (h : wc X 113 [.int x2, .int (nI 15)] iv (Ri (fun r2 iv1 => ((r2 = 0 → P (nI 4294967294) iv1) ∧ (¬ (r2 = 0) → wc X 109 [.ref 1, .int (nI 0)] iv1 (Rv (fun iv3 => wc X 100 [.ref 1, .int x1, .int x2] iv3 (Ri (fun r5 iv4 => P r5 iv4))))))))) :
    wp X (0, 0) 73 7 [some (.ref 1), some (.int x1), some (.int x2)] [] iv (Ri P) := by
  have hT := tb_73
  refine wp_s hT 2 (i' := 9) (L' := [some (.ref 1), some (.int x1), some (.int x2)]) (st' := [.int (nI 15), .int x2]) rfl ?_
  refine wp_calli hT rfl rfl h (fun r2 iv1 h => ?_)
  refine wp_if_ne hT rfl ⟨fun c => ?_, fun c => ?_⟩
  · have h := h.1 c
    refine wp_s hT 1 (i' := 12) (L' := [some (.ref 1), some (.int x1), some (.int x2)]) (st' := [.int (nI 4294967294)]) rfl ?_
    exact wp_ri hT rfl rfl ⟨_, rfl, h⟩
  · have h := h.2 c
    refine wp_s hT 2 (i' := 15) (L' := [some (.ref 1), some (.int x1), some (.int x2)]) (st' := [.int (nI 0), .ref 1]) rfl ?_
    refine wp_callv hT rfl rfl h (fun iv3 h => ?_)
    refine wp_s hT 3 (i' := 19) (L' := [some (.ref 1), some (.int x1), some (.int x2)]) (st' := [.int x2, .int x1, .ref 1]) rfl ?_
    refine wp_calli hT rfl rfl h (fun r5 iv4 h => ?_)
    exact wp_ri hT rfl rfl ⟨_, rfl, h⟩

theorem mk_X10_dots {X : Nat × (Nat → Int32)} {x1 : Int32} {x2 : Int32} {iv : IV} {P : Int32 → IV → Prop}
    (h : ((x1 = (nI 4294967295) → wp X (0, 0) 73 7 [some (.ref 1), some (.int x1), some (.int x2)] [] iv (Ri P)) ∧ (¬ (x1 = (nI 4294967295)) → wc X 113 [.int x1, .int (nI 4)] iv (Ri (fun r2 iv1 => ((r2 = 0 → P (nI 4294967294) iv1) ∧ (¬ (r2 = 0) → wp X (0, 0) 73 7 [some (.ref 1), some (.int x1), some (.int x2)] [] iv1 (Ri P)))))))) :
    wc X 73 [.ref 1, .int x1, .int x2] iv (Ri P) := by
  have hT := tb_73
  show wp X (0, 0) 73 0 [some (.ref 1), some (.int x1), some (.int x2)] [] iv (Ri P)
  refine wp_s hT 2 (i' := 2) (L' := [some (.ref 1), some (.int x1), some (.int x2)]) (st' := [.int (nI 4294967295), .int x1]) rfl ?_
  refine wp_ic_eq hT rfl ⟨fun c => ?_, fun c => ?_⟩
  · have h := h.1 c
    exact h
  · have h := h.2 c
    refine wp_s hT 2 (i' := 5) (L' := [some (.ref 1), some (.int x1), some (.int x2)]) (st' := [.int (nI 4), .int x1]) rfl ?_
    refine wp_calli hT rfl rfl h (fun r2 iv1 h => ?_)
    refine wp_if_eq hT rfl ⟨fun c => ?_, fun c => ?_⟩
    · have h := h.1 c
      refine wp_s hT 1 (i' := 12) (L' := [some (.ref 1), some (.int x1), some (.int x2)]) (st' := [.int (nI 4294967294)]) rfl ?_
      exact wp_ri hT rfl rfl ⟨_, rfl, h⟩
    · have h := h.2 c
      exact h

theorem mk_X10_penalty {X : Nat × (Nat → Int32)} {x1 : Int32} {iv : IV} {P : Int32 → IV → Prop}
    (h : wc X 113 [.int x1, .int (nI 4)] iv (Ri (fun r2 iv1 => ((r2 = 0 → P (nI 4294967294) iv1) ∧ (¬ (r2 = 0) → wc X 109 [.ref 1, .int (nI 0)] iv1 (Rv (fun iv3 => wc X 101 [.ref 1, .int x1] iv3 (Ri (fun r5 iv4 => P r5 iv4))))))))) :
    wc X 74 [.ref 1, .int x1] iv (Ri P) := by
  have hT := tb_74
  show wp X (0, 0) 74 0 [some (.ref 1), some (.int x1)] [] iv (Ri P)
  refine wp_s hT 2 (i' := 2) (L' := [some (.ref 1), some (.int x1)]) (st' := [.int (nI 4), .int x1]) rfl ?_
  refine wp_calli hT rfl rfl h (fun r2 iv1 h => ?_)
  refine wp_if_ne hT rfl ⟨fun c => ?_, fun c => ?_⟩
  · have h := h.1 c
    refine wp_s hT 1 (i' := 5) (L' := [some (.ref 1), some (.int x1)]) (st' := [.int (nI 4294967294)]) rfl ?_
    exact wp_ri hT rfl rfl ⟨_, rfl, h⟩
  · have h := h.2 c
    refine wp_s hT 2 (i' := 8) (L' := [some (.ref 1), some (.int x1)]) (st' := [.int (nI 0), .ref 1]) rfl ?_
    refine wp_callv hT rfl rfl h (fun iv3 h => ?_)
    refine wp_s hT 2 (i' := 11) (L' := [some (.ref 1), some (.int x1)]) (st' := [.int x1, .ref 1]) rfl ?_
    refine wp_calli hT rfl rfl h (fun r5 iv4 h => ?_)
    exact wp_ri hT rfl rfl ⟨_, rfl, h⟩

theorem mk_X10_place {X : Nat × (Nat → Int32)} {x1 : Int32} {x2 : Int32} {x3 : Int32} {iv : IV} {P : Int32 → IV → Prop}
    (h : wc X 114 [.int x1, .int x2] iv (Ri (fun r2 iv1 => ((r2 = 0 → P (nI 4294967294) iv1) ∧ (¬ (r2 = 0) → wc X 113 [.int x3, .int (nI 2)] iv1 (Ri (fun r4 iv3 => ((r4 = 0 → P (nI 4294967294) iv3) ∧ (¬ (r4 = 0) → ∀ v5 : Int32, v5 = ((nI 15) * x1) + x2 → ((x3 = 0 → vp_in v5 225 ∧ P (iv3 11 v5.toNatClampNeg) iv3) ∧ (¬ (x3 = 0) → wc X 63 [.ref 10, .int v5] iv3 (Ri (fun r7 iv6 => P r7 iv6))))))))))))) :
    wc X 75 [.ref 1, .int x1, .int x2, .int x3] iv (Ri P) := by
  have hT := tb_75
  show wp X (0, 0) 75 0 [some (.ref 1), some (.int x1), some (.int x2), some (.int x3), none] [] iv (Ri P)
  refine wp_s hT 2 (i' := 2) (L' := [some (.ref 1), some (.int x1), some (.int x2), some (.int x3), none]) (st' := [.int x2, .int x1]) rfl ?_
  refine wp_calli hT rfl rfl h (fun r2 iv1 h => ?_)
  refine wp_if_eq hT rfl ⟨fun c => ?_, fun c => ?_⟩
  · have h := h.1 c
    refine wp_s hT 1 (i' := 9) (L' := [some (.ref 1), some (.int x1), some (.int x2), some (.int x3), none]) (st' := [.int (nI 4294967294)]) rfl ?_
    exact wp_ri hT rfl rfl ⟨_, rfl, h⟩
  · have h := h.2 c
    refine wp_s hT 2 (i' := 6) (L' := [some (.ref 1), some (.int x1), some (.int x2), some (.int x3), none]) (st' := [.int (nI 2), .int x3]) rfl ?_
    refine wp_calli hT rfl rfl h (fun r4 iv3 h => ?_)
    refine wp_if_ne hT rfl ⟨fun c => ?_, fun c => ?_⟩
    · have h := h.1 c
      refine wp_s hT 1 (i' := 9) (L' := [some (.ref 1), some (.int x1), some (.int x2), some (.int x3), none]) (st' := [.int (nI 4294967294)]) rfl ?_
      exact wp_ri hT rfl rfl ⟨_, rfl, h⟩
    · have h := h.2 c
      refine wp_s hT 6 (i' := 16) (L' := [some (.ref 1), some (.int x1), some (.int x2), some (.int x3), some (.int (((nI 15) * x1) + x2))]) (st' := []) rfl ?_
      have h := h _ rfl
      refine wp_s hT 1 (i' := 17) (L' := [some (.ref 1), some (.int x1), some (.int x2), some (.int x3), some (.int (((nI 15) * x1) + x2))]) (st' := [.int x3]) rfl ?_
      refine wp_if_ne hT rfl ⟨fun c => ?_, fun c => ?_⟩
      · have h := h.1 c
        refine wp_s hT 4 (i' := 22) (L' := [some (.ref 1), some (.int x1), some (.int x2), some (.int x3), some (.int (((nI 15) * x1) + x2))]) (st' := [.int (((nI 15) * x1) + x2), .ref 11]) rfl ?_
        refine wp_iald hT rfl rfl ⟨h.1, ?_⟩
        have h := h.2
        refine wp_s hT 1 (i' := 28) (L' := [some (.ref 1), some (.int x1), some (.int x2), some (.int x3), some (.int (((nI 15) * x1) + x2))]) (st' := [.int (iv3 11 (((nI 15) * x1) + x2).toNatClampNeg)]) rfl ?_
        exact wp_ri hT rfl rfl ⟨_, rfl, h⟩
      · have h := h.2 c
        refine wp_s hT 3 (i' := 27) (L' := [some (.ref 1), some (.int x1), some (.int x2), some (.int x3), some (.int (((nI 15) * x1) + x2))]) (st' := [.int (((nI 15) * x1) + x2), .ref 10]) rfl ?_
        refine wp_calli hT rfl rfl h (fun r7 iv6 h => ?_)
        exact wp_ri hT rfl rfl ⟨_, rfl, h⟩

theorem mk_X10_turn {X : Nat × (Nat → Int32)} {x1 : Int32} {x2 : Int32} {iv : IV} {P : Int32 → IV → Prop}
    (h : wc X 114 [.int x1, .int x2] iv (Ri (fun r2 iv1 => ((r2 = 0 → P (nI 4294967294) iv1) ∧ (¬ (r2 = 0) → wc X 3 [.ref 6, .int (((nI 15) * x1) + x2)] iv1 (Rv (fun iv3 => wc X 110 [.ref 1] iv3 (Rv (fun iv4 => wc X 116 [.ref 7] iv4 (Ri (fun r6 iv5 => P r6 iv5))))))))))) :
    wc X 76 [.ref 1, .int x1, .int x2] iv (Ri P) := by
  have hT := tb_76
  show wp X (0, 0) 76 0 [some (.ref 1), some (.int x1), some (.int x2)] [] iv (Ri P)
  refine wp_s hT 2 (i' := 2) (L' := [some (.ref 1), some (.int x1), some (.int x2)]) (st' := [.int x2, .int x1]) rfl ?_
  refine wp_calli hT rfl rfl h (fun r2 iv1 h => ?_)
  refine wp_if_ne hT rfl ⟨fun c => ?_, fun c => ?_⟩
  · have h := h.1 c
    refine wp_s hT 1 (i' := 5) (L' := [some (.ref 1), some (.int x1), some (.int x2)]) (st' := [.int (nI 4294967294)]) rfl ?_
    exact wp_ri hT rfl rfl ⟨_, rfl, h⟩
  · have h := h.2 c
    refine wp_s hT 7 (i' := 13) (L' := [some (.ref 1), some (.int x1), some (.int x2)]) (st' := [.int (((nI 15) * x1) + x2), .ref 6]) rfl ?_
    refine wp_callv hT rfl rfl h (fun iv3 h => ?_)
    refine wp_s hT 1 (i' := 15) (L' := [some (.ref 1), some (.int x1), some (.int x2)]) (st' := [.ref 1]) rfl ?_
    refine wp_callv hT rfl rfl h (fun iv4 h => ?_)
    refine wp_s hT 3 (i' := 19) (L' := [some (.ref 1), some (.int x1), some (.int x2)]) (st' := [.ref 7]) rfl ?_
    refine wp_calli hT rfl rfl h (fun r6 iv5 h => ?_)
    exact wp_ri hT rfl rfl ⟨_, rfl, h⟩

theorem mk_X10_lost {X : Nat × (Nat → Int32)} {x1 : Int32} {x2 : Int32} {iv : IV} {P : Int32 → IV → Prop}
    (h : wc X 114 [.int x1, .int x2] iv (Ri (fun r2 iv1 => ((r2 = 0 → P (nI 4294967294) iv1) ∧ (¬ (r2 = 0) → wc X 3 [.ref 6, .int (((nI 225) + ((nI 15) * x1)) + x2)] iv1 (Rv (fun iv3 => wc X 110 [.ref 1] iv3 (Rv (fun iv4 => wc X 116 [.ref 8] iv4 (Ri (fun r6 iv5 => P r6 iv5))))))))))) :
    wc X 77 [.ref 1, .int x1, .int x2] iv (Ri P) := by
  have hT := tb_77
  show wp X (0, 0) 77 0 [some (.ref 1), some (.int x1), some (.int x2)] [] iv (Ri P)
  refine wp_s hT 2 (i' := 2) (L' := [some (.ref 1), some (.int x1), some (.int x2)]) (st' := [.int x2, .int x1]) rfl ?_
  refine wp_calli hT rfl rfl h (fun r2 iv1 h => ?_)
  refine wp_if_ne hT rfl ⟨fun c => ?_, fun c => ?_⟩
  · have h := h.1 c
    refine wp_s hT 1 (i' := 5) (L' := [some (.ref 1), some (.int x1), some (.int x2)]) (st' := [.int (nI 4294967294)]) rfl ?_
    exact wp_ri hT rfl rfl ⟨_, rfl, h⟩
  · have h := h.2 c
    refine wp_s hT 9 (i' := 15) (L' := [some (.ref 1), some (.int x1), some (.int x2)]) (st' := [.int (((nI 225) + ((nI 15) * x1)) + x2), .ref 6]) rfl ?_
    refine wp_callv hT rfl rfl h (fun iv3 h => ?_)
    refine wp_s hT 1 (i' := 17) (L' := [some (.ref 1), some (.int x1), some (.int x2)]) (st' := [.ref 1]) rfl ?_
    refine wp_callv hT rfl rfl h (fun iv4 h => ?_)
    refine wp_s hT 3 (i' := 21) (L' := [some (.ref 1), some (.int x1), some (.int x2)]) (st' := [.ref 8]) rfl ?_
    refine wp_calli hT rfl rfl h (fun r6 iv5 h => ?_)
    exact wp_ri hT rfl rfl ⟨_, rfl, h⟩

theorem mk_X10_back {X : Nat × (Nat → Int32)}  {iv : IV} {P : Int32 → IV → Prop}
    (h : ((iv 6 2 = 0 → P (nI 4294967293) iv) ∧ (¬ (iv 6 2 = 0) → wc X 4 [.ref 6] iv (Rv (fun iv1 => wc X 110 [.ref 1] iv1 (Rv (fun iv2 => P (iv2 6 2) iv2))))))) :
    wc X 78 [.ref 1] iv (Ri P) := by
  have hT := tb_78
  show wp X (0, 0) 78 0 [some (.ref 1)] [] iv (Ri P)
  refine wp_s hT 3 (i' := 3) (L' := [some (.ref 1)]) (st' := [.int (iv 6 2)]) rfl ?_
  refine wp_if_ne hT rfl ⟨fun c => ?_, fun c => ?_⟩
  · have h := h.1 c
    refine wp_s hT 1 (i' := 5) (L' := [some (.ref 1)]) (st' := [.int (nI 4294967293)]) rfl ?_
    exact wp_ri hT rfl rfl ⟨_, rfl, h⟩
  · have h := h.2 c
    refine wp_s hT 2 (i' := 8) (L' := [some (.ref 1)]) (st' := [.ref 6]) rfl ?_
    refine wp_callv hT rfl rfl h (fun iv1 h => ?_)
    refine wp_s hT 1 (i' := 10) (L' := [some (.ref 1)]) (st' := [.ref 1]) rfl ?_
    refine wp_callv hT rfl rfl h (fun iv2 h => ?_)
    refine wp_s hT 3 (i' := 14) (L' := [some (.ref 1)]) (st' := [.int (iv2 6 2)]) rfl ?_
    exact wp_ri hT rfl rfl ⟨_, rfl, h⟩

theorem mk_X10_heal {X : Nat × (Nat → Int32)}  {iv : IV} {P : Int32 → IV → Prop}
    (h : wc X 6 [.ref 6] iv (Ri (fun r2 iv1 => wc X 5 [.ref 6] iv1 (Rv (fun iv3 => wc X 110 [.ref 1] iv3 (Rv (fun iv4 => P r2 iv4))))))) :
    wc X 79 [.ref 1] iv (Ri P) := by
  have hT := tb_79
  show wp X (0, 0) 79 0 [some (.ref 1), none] [] iv (Ri P)
  refine wp_s hT 2 (i' := 2) (L' := [some (.ref 1), none]) (st' := [.ref 6]) rfl ?_
  refine wp_calli hT rfl rfl h (fun r2 iv1 h => ?_)
  refine wp_s hT 3 (i' := 6) (L' := [some (.ref 1), some (.int r2)]) (st' := [.ref 6]) rfl ?_
  refine wp_callv hT rfl rfl h (fun iv3 h => ?_)
  refine wp_s hT 1 (i' := 8) (L' := [some (.ref 1), some (.int r2)]) (st' := [.ref 1]) rfl ?_
  refine wp_callv hT rfl rfl h (fun iv4 h => ?_)
  refine wp_s hT 1 (i' := 10) (L' := [some (.ref 1), some (.int r2)]) (st' := [.int r2]) rfl ?_
  exact wp_ri hT rfl rfl ⟨_, rfl, h⟩

theorem mk_X10_seen {X : Nat × (Nat → Int32)} {x1 : Int32} {x2 : Int32} {iv : IV} {P : Int32 → IV → Prop}
    (h : wc X 114 [.int x1, .int x2] iv (Ri (fun r2 iv1 => ((r2 = 0 → P (nI 4294967294) iv1) ∧ (¬ (r2 = 0) → wc X 109 [.ref 1, .int (nI 0)] iv1 (Rv (fun iv3 => wc X 102 [.ref 1, .int x1, .int x2] iv3 (Ri (fun r5 iv4 => P r5 iv4))))))))) :
    wc X 80 [.ref 1, .int x1, .int x2] iv (Ri P) := by
  have hT := tb_80
  show wp X (0, 0) 80 0 [some (.ref 1), some (.int x1), some (.int x2)] [] iv (Ri P)
  refine wp_s hT 2 (i' := 2) (L' := [some (.ref 1), some (.int x1), some (.int x2)]) (st' := [.int x2, .int x1]) rfl ?_
  refine wp_calli hT rfl rfl h (fun r2 iv1 h => ?_)
  refine wp_if_ne hT rfl ⟨fun c => ?_, fun c => ?_⟩
  · have h := h.1 c
    refine wp_s hT 1 (i' := 5) (L' := [some (.ref 1), some (.int x1), some (.int x2)]) (st' := [.int (nI 4294967294)]) rfl ?_
    exact wp_ri hT rfl rfl ⟨_, rfl, h⟩
  · have h := h.2 c
    refine wp_s hT 2 (i' := 8) (L' := [some (.ref 1), some (.int x1), some (.int x2)]) (st' := [.int (nI 0), .ref 1]) rfl ?_
    refine wp_callv hT rfl rfl h (fun iv3 h => ?_)
    refine wp_s hT 3 (i' := 12) (L' := [some (.ref 1), some (.int x1), some (.int x2)]) (st' := [.int x2, .int x1, .ref 1]) rfl ?_
    refine wp_calli hT rfl rfl h (fun r5 iv4 h => ?_)
    exact wp_ri hT rfl rfl ⟨_, rfl, h⟩

theorem mk_X10_why {X : Nat × (Nat → Int32)}  {iv : IV} {P : Int32 → IV → Prop}
    (h : wc X 109 [.ref 1, .int (nI 1)] iv (Rv (fun iv1 => P (iv1 34 0) iv1))) :
    wc X 81 [.ref 1] iv (Ri P) := by
  have hT := tb_81
  show wp X (0, 0) 81 0 [some (.ref 1)] [] iv (Ri P)
  refine wp_s hT 2 (i' := 2) (L' := [some (.ref 1)]) (st' := [.int (nI 1), .ref 1]) rfl ?_
  refine wp_callv hT rfl rfl h (fun iv1 h => ?_)
  refine wp_s hT 3 (i' := 6) (L' := [some (.ref 1)]) (st' := [.int (iv1 34 0)]) rfl ?_
  exact wp_ri hT rfl rfl ⟨_, rfl, h⟩

theorem mk_X10_told {X : Nat × (Nat → Int32)} {x1 : Int32} {iv : IV} {P : Int32 → IV → Prop}
    (h : ((x1 = (nI 4294967295) → wc X 109 [.ref 1, .int (nI 1)] iv (Rv (fun iv1 => wc X 103 [.ref 1, .int x1] iv1 (Ri (fun r3 iv2 => P r3 iv2))))) ∧ (¬ (x1 = (nI 4294967295)) → wc X 113 [.int x1, .int (nI 14)] iv (Ri (fun r5 iv4 => ((r5 = 0 → P (nI 4294967294) iv4) ∧ (¬ (r5 = 0) → wc X 109 [.ref 1, .int (nI 1)] iv4 (Rv (fun iv6 => wc X 103 [.ref 1, .int x1] iv6 (Ri (fun r8 iv7 => P r8 iv7))))))))))) :
    wc X 82 [.ref 1, .int x1] iv (Ri P) := by
  have hT := tb_82
  show wp X (0, 0) 82 0 [some (.ref 1), some (.int x1)] [] iv (Ri P)
  refine wp_s hT 2 (i' := 2) (L' := [some (.ref 1), some (.int x1)]) (st' := [.int (nI 4294967295), .int x1]) rfl ?_
  refine wp_ic_eq hT rfl ⟨fun c => ?_, fun c => ?_⟩
  · have h := h.1 c
    refine wp_s hT 2 (i' := 11) (L' := [some (.ref 1), some (.int x1)]) (st' := [.int (nI 1), .ref 1]) rfl ?_
    refine wp_callv hT rfl rfl h (fun iv1 h => ?_)
    refine wp_s hT 2 (i' := 14) (L' := [some (.ref 1), some (.int x1)]) (st' := [.int x1, .ref 1]) rfl ?_
    refine wp_calli hT rfl rfl h (fun r3 iv2 h => ?_)
    exact wp_ri hT rfl rfl ⟨_, rfl, h⟩
  · have h := h.2 c
    refine wp_s hT 2 (i' := 5) (L' := [some (.ref 1), some (.int x1)]) (st' := [.int (nI 14), .int x1]) rfl ?_
    refine wp_calli hT rfl rfl h (fun r5 iv4 h => ?_)
    refine wp_if_ne hT rfl ⟨fun c => ?_, fun c => ?_⟩
    · have h := h.1 c
      refine wp_s hT 1 (i' := 8) (L' := [some (.ref 1), some (.int x1)]) (st' := [.int (nI 4294967294)]) rfl ?_
      exact wp_ri hT rfl rfl ⟨_, rfl, h⟩
    · have h := h.2 c
      refine wp_s hT 2 (i' := 11) (L' := [some (.ref 1), some (.int x1)]) (st' := [.int (nI 1), .ref 1]) rfl ?_
      refine wp_callv hT rfl rfl h (fun iv6 h => ?_)
      refine wp_s hT 2 (i' := 14) (L' := [some (.ref 1), some (.int x1)]) (st' := [.int x1, .ref 1]) rfl ?_
      refine wp_calli hT rfl rfl h (fun r8 iv7 h => ?_)
      exact wp_ri hT rfl rfl ⟨_, rfl, h⟩

theorem mk_X10_format {X : Nat × (Nat → Int32)} {x1 : Int32} {iv : IV} {P : Int32 → IV → Prop}
    (h : wc X 113 [.int x1, .int (nI 2)] iv (Ri (fun r2 iv1 => ((r2 = 0 → P (nI 4294967294) iv1) ∧ (¬ (r2 = 0) → wc X 109 [.ref 1, .int (nI 1)] iv1 (Rv (fun iv3 => wc X 104 [.ref 1, .int x1] iv3 (Ri (fun r5 iv4 => P r5 iv4))))))))) :
    wc X 83 [.ref 1, .int x1] iv (Ri P) := by
  have hT := tb_83
  show wp X (0, 0) 83 0 [some (.ref 1), some (.int x1)] [] iv (Ri P)
  refine wp_s hT 2 (i' := 2) (L' := [some (.ref 1), some (.int x1)]) (st' := [.int (nI 2), .int x1]) rfl ?_
  refine wp_calli hT rfl rfl h (fun r2 iv1 h => ?_)
  refine wp_if_ne hT rfl ⟨fun c => ?_, fun c => ?_⟩
  · have h := h.1 c
    refine wp_s hT 1 (i' := 5) (L' := [some (.ref 1), some (.int x1)]) (st' := [.int (nI 4294967294)]) rfl ?_
    exact wp_ri hT rfl rfl ⟨_, rfl, h⟩
  · have h := h.2 c
    refine wp_s hT 2 (i' := 8) (L' := [some (.ref 1), some (.int x1)]) (st' := [.int (nI 1), .ref 1]) rfl ?_
    refine wp_callv hT rfl rfl h (fun iv3 h => ?_)
    refine wp_s hT 2 (i' := 11) (L' := [some (.ref 1), some (.int x1)]) (st' := [.int x1, .ref 1]) rfl ?_
    refine wp_calli hT rfl rfl h (fun r5 iv4 h => ?_)
    exact wp_ri hT rfl rfl ⟨_, rfl, h⟩

theorem mk_X10_block {X : Nat × (Nat → Int32)} {x1 : Int32} {x2 : Int32} {iv : IV} {P : Int32 → IV → Prop}
    (h : wc X 113 [.int x1, .int (nI 3)] iv (Ri (fun r2 iv1 => ((r2 = 0 → P (nI 4294967294) iv1) ∧ (¬ (r2 = 0) → wc X 113 [.int x2, .int (nI 3)] iv1 (Ri (fun r4 iv3 => ((r4 = 0 → P (nI 4294967294) iv3) ∧ (¬ (r4 = 0) → wc X 109 [.ref 1, .int (nI 1)] iv3 (Rv (fun iv5 => wc X 105 [.ref 1, .int x1, .int x2] iv5 (Ri (fun r7 iv6 => P r7 iv6))))))))))))) :
    wc X 84 [.ref 1, .int x1, .int x2] iv (Ri P) := by
  have hT := tb_84
  show wp X (0, 0) 84 0 [some (.ref 1), some (.int x1), some (.int x2)] [] iv (Ri P)
  refine wp_s hT 2 (i' := 2) (L' := [some (.ref 1), some (.int x1), some (.int x2)]) (st' := [.int (nI 3), .int x1]) rfl ?_
  refine wp_calli hT rfl rfl h (fun r2 iv1 h => ?_)
  refine wp_if_eq hT rfl ⟨fun c => ?_, fun c => ?_⟩
  · have h := h.1 c
    refine wp_s hT 1 (i' := 9) (L' := [some (.ref 1), some (.int x1), some (.int x2)]) (st' := [.int (nI 4294967294)]) rfl ?_
    exact wp_ri hT rfl rfl ⟨_, rfl, h⟩
  · have h := h.2 c
    refine wp_s hT 2 (i' := 6) (L' := [some (.ref 1), some (.int x1), some (.int x2)]) (st' := [.int (nI 3), .int x2]) rfl ?_
    refine wp_calli hT rfl rfl h (fun r4 iv3 h => ?_)
    refine wp_if_ne hT rfl ⟨fun c => ?_, fun c => ?_⟩
    · have h := h.1 c
      refine wp_s hT 1 (i' := 9) (L' := [some (.ref 1), some (.int x1), some (.int x2)]) (st' := [.int (nI 4294967294)]) rfl ?_
      exact wp_ri hT rfl rfl ⟨_, rfl, h⟩
    · have h := h.2 c
      refine wp_s hT 2 (i' := 12) (L' := [some (.ref 1), some (.int x1), some (.int x2)]) (st' := [.int (nI 1), .ref 1]) rfl ?_
      refine wp_callv hT rfl rfl h (fun iv5 h => ?_)
      refine wp_s hT 3 (i' := 16) (L' := [some (.ref 1), some (.int x1), some (.int x2)]) (st' := [.int x2, .int x1, .ref 1]) rfl ?_
      refine wp_calli hT rfl rfl h (fun r7 iv6 h => ?_)
      exact wp_ri hT rfl rfl ⟨_, rfl, h⟩

theorem mk_X10_mended {X : Nat × (Nat → Int32)} {x1 : Int32} {x2 : Int32} {iv : IV} {P : Int32 → IV → Prop}
    (h : wc X 113 [.int x1, .int (nI 3)] iv (Ri (fun r2 iv1 => ((r2 = 0 → P (nI 4294967294) iv1) ∧ (¬ (r2 = 0) → wc X 113 [.int x2, .int (nI 14)] iv1 (Ri (fun r4 iv3 => ((r4 = 0 → P (nI 4294967294) iv3) ∧ (¬ (r4 = 0) → wc X 109 [.ref 1, .int (nI 1)] iv3 (Rv (fun iv5 => wc X 106 [.ref 1, .int x1, .int x2] iv5 (Ri (fun r7 iv6 => P r7 iv6))))))))))))) :
    wc X 85 [.ref 1, .int x1, .int x2] iv (Ri P) := by
  have hT := tb_85
  show wp X (0, 0) 85 0 [some (.ref 1), some (.int x1), some (.int x2)] [] iv (Ri P)
  refine wp_s hT 2 (i' := 2) (L' := [some (.ref 1), some (.int x1), some (.int x2)]) (st' := [.int (nI 3), .int x1]) rfl ?_
  refine wp_calli hT rfl rfl h (fun r2 iv1 h => ?_)
  refine wp_if_eq hT rfl ⟨fun c => ?_, fun c => ?_⟩
  · have h := h.1 c
    refine wp_s hT 1 (i' := 9) (L' := [some (.ref 1), some (.int x1), some (.int x2)]) (st' := [.int (nI 4294967294)]) rfl ?_
    exact wp_ri hT rfl rfl ⟨_, rfl, h⟩
  · have h := h.2 c
    refine wp_s hT 2 (i' := 6) (L' := [some (.ref 1), some (.int x1), some (.int x2)]) (st' := [.int (nI 14), .int x2]) rfl ?_
    refine wp_calli hT rfl rfl h (fun r4 iv3 h => ?_)
    refine wp_if_ne hT rfl ⟨fun c => ?_, fun c => ?_⟩
    · have h := h.1 c
      refine wp_s hT 1 (i' := 9) (L' := [some (.ref 1), some (.int x1), some (.int x2)]) (st' := [.int (nI 4294967294)]) rfl ?_
      exact wp_ri hT rfl rfl ⟨_, rfl, h⟩
    · have h := h.2 c
      refine wp_s hT 2 (i' := 12) (L' := [some (.ref 1), some (.int x1), some (.int x2)]) (st' := [.int (nI 1), .ref 1]) rfl ?_
      refine wp_callv hT rfl rfl h (fun iv5 h => ?_)
      refine wp_s hT 3 (i' := 16) (L' := [some (.ref 1), some (.int x1), some (.int x2)]) (st' := [.int x2, .int x1, .ref 1]) rfl ?_
      refine wp_calli hT rfl rfl h (fun r7 iv6 h => ?_)
      exact wp_ri hT rfl rfl ⟨_, rfl, h⟩

theorem mk_X10_straw {X : Nat × (Nat → Int32)} {x1 : Int32} {iv : IV} {P : Int32 → IV → Prop}
    (h : wc X 113 [.int x1, .int (nI 2)] iv (Ri (fun r2 iv1 => ((r2 = 0 → P (nI 4294967294) iv1) ∧ (¬ (r2 = 0) → wc X 109 [.ref 1, .int (nI 2)] iv1 (Rv (fun iv3 => wc X 107 [.ref 1, .int x1] iv3 (Ri (fun r5 iv4 => P r5 iv4))))))))) :
    wc X 86 [.ref 1, .int x1] iv (Ri P) := by
  have hT := tb_86
  show wp X (0, 0) 86 0 [some (.ref 1), some (.int x1)] [] iv (Ri P)
  refine wp_s hT 2 (i' := 2) (L' := [some (.ref 1), some (.int x1)]) (st' := [.int (nI 2), .int x1]) rfl ?_
  refine wp_calli hT rfl rfl h (fun r2 iv1 h => ?_)
  refine wp_if_ne hT rfl ⟨fun c => ?_, fun c => ?_⟩
  · have h := h.1 c
    refine wp_s hT 1 (i' := 5) (L' := [some (.ref 1), some (.int x1)]) (st' := [.int (nI 4294967294)]) rfl ?_
    exact wp_ri hT rfl rfl ⟨_, rfl, h⟩
  · have h := h.2 c
    refine wp_s hT 2 (i' := 8) (L' := [some (.ref 1), some (.int x1)]) (st' := [.int (nI 2), .ref 1]) rfl ?_
    refine wp_callv hT rfl rfl h (fun iv3 h => ?_)
    refine wp_s hT 2 (i' := 11) (L' := [some (.ref 1), some (.int x1)]) (st' := [.int x1, .ref 1]) rfl ?_
    refine wp_calli hT rfl rfl h (fun r5 iv4 h => ?_)
    exact wp_ri hT rfl rfl ⟨_, rfl, h⟩

theorem mk_X10_sheet {X : Nat × (Nat → Int32)} {x1 : Int32} {x2 : Int32} {x3 : Int32} {iv : IV} {P : Int32 → IV → Prop}
    (h : wc X 113 [.int x1, .int (nI 4)] iv (Ri (fun r2 iv1 => ((r2 = 0 → P (nI 4294967294) iv1) ∧ (¬ (r2 = 0) → wc X 113 [.int x2, .int (nI 3)] iv1 (Ri (fun r4 iv3 => ((r4 = 0 → P (nI 4294967294) iv3) ∧ (¬ (r4 = 0) → ((x3 ≤ (nI 60) → ((0 ≤ x3 → vp_in x1 4 ∧ ∀ a5 : Nat, a5 = rvT 65 x1.toNatClampNeg → kdT a5 = (15, 0) ∧ wc X 46 [.ref a5, .int x2, .int x3] iv3 (Rv (fun iv6 => P x3 iv6))) ∧ (¬ (0 ≤ x3) → wc X 112 [.ref 1, .int (nI 5)] iv3 (Ri (fun r8 iv7 => P r8 iv7))))) ∧ (¬ (x3 ≤ (nI 60)) → P (nI 4294967294) iv3))))))))))) :
    wc X 87 [.ref 1, .int x1, .int x2, .int x3] iv (Ri P) := by
  have hT := tb_87
  show wp X (0, 0) 87 0 [some (.ref 1), some (.int x1), some (.int x2), some (.int x3)] [] iv (Ri P)
  refine wp_s hT 2 (i' := 2) (L' := [some (.ref 1), some (.int x1), some (.int x2), some (.int x3)]) (st' := [.int (nI 4), .int x1]) rfl ?_
  refine wp_calli hT rfl rfl h (fun r2 iv1 h => ?_)
  refine wp_if_eq hT rfl ⟨fun c => ?_, fun c => ?_⟩
  · have h := h.1 c
    refine wp_s hT 1 (i' := 12) (L' := [some (.ref 1), some (.int x1), some (.int x2), some (.int x3)]) (st' := [.int (nI 4294967294)]) rfl ?_
    exact wp_ri hT rfl rfl ⟨_, rfl, h⟩
  · have h := h.2 c
    refine wp_s hT 2 (i' := 6) (L' := [some (.ref 1), some (.int x1), some (.int x2), some (.int x3)]) (st' := [.int (nI 3), .int x2]) rfl ?_
    refine wp_calli hT rfl rfl h (fun r4 iv3 h => ?_)
    refine wp_if_eq hT rfl ⟨fun c => ?_, fun c => ?_⟩
    · have h := h.1 c
      refine wp_s hT 1 (i' := 12) (L' := [some (.ref 1), some (.int x1), some (.int x2), some (.int x3)]) (st' := [.int (nI 4294967294)]) rfl ?_
      exact wp_ri hT rfl rfl ⟨_, rfl, h⟩
    · have h := h.2 c
      refine wp_s hT 2 (i' := 10) (L' := [some (.ref 1), some (.int x1), some (.int x2), some (.int x3)]) (st' := [.int (nI 60), .int x3]) rfl ?_
      refine wp_ic_le hT rfl ⟨fun c => ?_, fun c => ?_⟩
      · have h := h.1 c
        refine wp_s hT 1 (i' := 14) (L' := [some (.ref 1), some (.int x1), some (.int x2), some (.int x3)]) (st' := [.int x3]) rfl ?_
        refine wp_if_ge hT rfl ⟨fun c => ?_, fun c => ?_⟩
        · have h := h.1 c
          refine wp_s hT 3 (i' := 22) (L' := [some (.ref 1), some (.int x1), some (.int x2), some (.int x3)]) (st' := [.int x1, .ref 65]) rfl ?_
          refine wp_aald hT rfl rfl ⟨by decide, by decide⟩ ⟨h.1, ?_⟩
          have h := h.2
          have h := h _ rfl
          refine wp_s hT 2 (i' := 25) (L' := [some (.ref 1), some (.int x1), some (.int x2), some (.int x3)]) (st' := [.int x3, .int x2, .ref (rvT 65 x1.toNatClampNeg)]) rfl ?_
          refine wp_callv hT rfl (mm_cl_of (c6 := 0) (c7 := 0) (f5 := 0) (f6 := 0) rfl rfl rfl rfl rfl rfl h.1 rfl rfl (Nat.le_of_ble_eq_true rfl) (Nat.le_of_ble_eq_true rfl) (Nat.le_of_ble_eq_true rfl) (Nat.zero_le _) (Nat.zero_le _)) h.2 (fun iv6 h => ?_)
          refine wp_s hT 1 (i' := 27) (L' := [some (.ref 1), some (.int x1), some (.int x2), some (.int x3)]) (st' := [.int x3]) rfl ?_
          exact wp_ri hT rfl rfl ⟨_, rfl, h⟩
        · have h := h.2 c
          refine wp_s hT 2 (i' := 17) (L' := [some (.ref 1), some (.int x1), some (.int x2), some (.int x3)]) (st' := [.int (nI 5), .ref 1]) rfl ?_
          refine wp_calli hT rfl rfl h (fun r8 iv7 h => ?_)
          exact wp_ri hT rfl rfl ⟨_, rfl, h⟩
      · have h := h.2 c
        refine wp_s hT 1 (i' := 12) (L' := [some (.ref 1), some (.int x1), some (.int x2), some (.int x3)]) (st' := [.int (nI 4294967294)]) rfl ?_
        exact wp_ri hT rfl rfl ⟨_, rfl, h⟩

theorem mk_X10_lose {X : Nat × (Nat → Int32)} {x1 : Int32} {iv : IV} {P : Int32 → IV → Prop}
    (h : wc X 113 [.int x1, .int (nI 4)] iv (Ri (fun r2 iv1 => ((r2 = 0 → P (nI 4294967294) iv1) ∧ (¬ (r2 = 0) → vp_in x1 4 ∧ ∀ a3 : Nat, a3 = rvT 65 x1.toNatClampNeg → kdT a3 = (15, 0) ∧ ((iv1 a3 0 = 0 → wc X 112 [.ref 1, .int (nI 1)] iv1 (Ri (fun r5 iv4 => P r5 iv4))) ∧ (¬ (iv1 a3 0 = 0) → vp_in x1 4 ∧ ∀ a6 : Nat, a6 = rvT 65 x1.toNatClampNeg → kdT a6 = (15, 0) ∧ (∀ iv7 : IV, iv7 = mm_up2 iv1 a6 0 (nI 0) → vp_in x1 4 ∧ ∀ a8 : Nat, a8 = rvT 65 x1.toNatClampNeg → kdT a8 = (15, 0) ∧ P (iv7 a8 2) iv7)))))))) :
    wc X 88 [.ref 1, .int x1] iv (Ri P) := by
  have hT := tb_88
  show wp X (0, 0) 88 0 [some (.ref 1), some (.int x1)] [] iv (Ri P)
  refine wp_s hT 2 (i' := 2) (L' := [some (.ref 1), some (.int x1)]) (st' := [.int (nI 4), .int x1]) rfl ?_
  refine wp_calli hT rfl rfl h (fun r2 iv1 h => ?_)
  refine wp_if_ne hT rfl ⟨fun c => ?_, fun c => ?_⟩
  · have h := h.1 c
    refine wp_s hT 1 (i' := 5) (L' := [some (.ref 1), some (.int x1)]) (st' := [.int (nI 4294967294)]) rfl ?_
    exact wp_ri hT rfl rfl ⟨_, rfl, h⟩
  · have h := h.2 c
    refine wp_s hT 3 (i' := 9) (L' := [some (.ref 1), some (.int x1)]) (st' := [.int x1, .ref 65]) rfl ?_
    refine wp_aald hT rfl rfl ⟨by decide, by decide⟩ ⟨h.1, ?_⟩
    have h := h.2
    have h := h _ rfl
    refine wp_geti hT rfl h.1 ⟨by decide, by decide⟩ ?_
    have h := h.2
    refine wp_if_ne hT rfl ⟨fun c => ?_, fun c => ?_⟩
    · have h := h.1 c
      refine wp_s hT 2 (i' := 14) (L' := [some (.ref 1), some (.int x1)]) (st' := [.int (nI 1), .ref 1]) rfl ?_
      refine wp_calli hT rfl rfl h (fun r5 iv4 h => ?_)
      exact wp_ri hT rfl rfl ⟨_, rfl, h⟩
    · have h := h.2 c
      refine wp_s hT 3 (i' := 19) (L' := [some (.ref 1), some (.int x1)]) (st' := [.int x1, .ref 65]) rfl ?_
      refine wp_aald hT rfl rfl ⟨by decide, by decide⟩ ⟨h.1, ?_⟩
      have h := h.2
      have h := h _ rfl
      refine wp_s hT 1 (i' := 21) (L' := [some (.ref 1), some (.int x1)]) (st' := [.int (nI 0), .ref (rvT 65 x1.toNatClampNeg)]) rfl ?_
      refine wp_putz hT rfl h.1 ⟨by decide, by decide⟩ ⟨Or.inl rfl, ?_⟩
      have h := h.2
      have h := h _ rfl
      refine wp_s hT 3 (i' := 25) (L' := [some (.ref 1), some (.int x1)]) (st' := [.int x1, .ref 65]) rfl ?_
      refine wp_aald hT rfl rfl ⟨by decide, by decide⟩ ⟨h.1, ?_⟩
      have h := h.2
      have h := h _ rfl
      refine wp_geti hT rfl h.1 ⟨by decide, by decide⟩ ?_
      have h := h.2
      exact wp_ri hT rfl rfl ⟨_, rfl, h⟩

theorem mk_X10_lay {X : Nat × (Nat → Int32)} {x1 : Int32} {x2 : Int32} {x3 : Int32} {x4 : Int32} {iv : IV} {P : Int32 → IV → Prop}
    (h : wc X 113 [.int x1, .int (nI 4)] iv (Ri (fun r2 iv1 => ((r2 = 0 → P (nI 4294967294) iv1) ∧ (¬ (r2 = 0) → wc X 113 [.int x2, .int (nI 3)] iv1 (Ri (fun r4 iv3 => ((r4 = 0 → P (nI 4294967294) iv3) ∧ (¬ (r4 = 0) → vp_in x1 4 ∧ ∀ a5 : Nat, a5 = rvT 65 x1.toNatClampNeg → kdT a5 = (15, 0) ∧ wc X 47 [.ref a5, .int x2, .int x3] iv3 (Ri (fun r7 iv6 => ((r7 = 0 → vp_in x1 4 ∧ ∀ a8 : Nat, a8 = rvT 65 x1.toNatClampNeg → kdT a8 = (15, 0) ∧ wc X 48 [.ref a8, .int x3, .int x4] iv6 (Rv (fun iv9 => P (nI 1) iv9))) ∧ (¬ (r7 = 0) → wc X 112 [.ref 1, .int r7] iv6 (Ri (fun r11 iv10 => P r11 iv10))))))))))))))) :
    wc X 89 [.ref 1, .int x1, .int x2, .int x3, .int x4] iv (Ri P) := by
  have hT := tb_89
  show wp X (0, 0) 89 0 [some (.ref 1), some (.int x1), some (.int x2), some (.int x3), some (.int x4), none] [] iv (Ri P)
  refine wp_s hT 2 (i' := 2) (L' := [some (.ref 1), some (.int x1), some (.int x2), some (.int x3), some (.int x4), none]) (st' := [.int (nI 4), .int x1]) rfl ?_
  refine wp_calli hT rfl rfl h (fun r2 iv1 h => ?_)
  refine wp_if_eq hT rfl ⟨fun c => ?_, fun c => ?_⟩
  · have h := h.1 c
    refine wp_s hT 1 (i' := 9) (L' := [some (.ref 1), some (.int x1), some (.int x2), some (.int x3), some (.int x4), none]) (st' := [.int (nI 4294967294)]) rfl ?_
    exact wp_ri hT rfl rfl ⟨_, rfl, h⟩
  · have h := h.2 c
    refine wp_s hT 2 (i' := 6) (L' := [some (.ref 1), some (.int x1), some (.int x2), some (.int x3), some (.int x4), none]) (st' := [.int (nI 3), .int x2]) rfl ?_
    refine wp_calli hT rfl rfl h (fun r4 iv3 h => ?_)
    refine wp_if_ne hT rfl ⟨fun c => ?_, fun c => ?_⟩
    · have h := h.1 c
      refine wp_s hT 1 (i' := 9) (L' := [some (.ref 1), some (.int x1), some (.int x2), some (.int x3), some (.int x4), none]) (st' := [.int (nI 4294967294)]) rfl ?_
      exact wp_ri hT rfl rfl ⟨_, rfl, h⟩
    · have h := h.2 c
      refine wp_s hT 3 (i' := 13) (L' := [some (.ref 1), some (.int x1), some (.int x2), some (.int x3), some (.int x4), none]) (st' := [.int x1, .ref 65]) rfl ?_
      refine wp_aald hT rfl rfl ⟨by decide, by decide⟩ ⟨h.1, ?_⟩
      have h := h.2
      have h := h _ rfl
      refine wp_s hT 2 (i' := 16) (L' := [some (.ref 1), some (.int x1), some (.int x2), some (.int x3), some (.int x4), none]) (st' := [.int x3, .int x2, .ref (rvT 65 x1.toNatClampNeg)]) rfl ?_
      refine wp_calli hT rfl (mm_cl_of (c6 := 0) (c7 := 0) (f5 := 0) (f6 := 0) rfl rfl rfl rfl rfl rfl h.1 rfl rfl (Nat.le_of_ble_eq_true rfl) (Nat.le_of_ble_eq_true rfl) (Nat.le_of_ble_eq_true rfl) (Nat.zero_le _) (Nat.zero_le _)) h.2 (fun r7 iv6 h => ?_)
      refine wp_s hT 2 (i' := 19) (L' := [some (.ref 1), some (.int x1), some (.int x2), some (.int x3), some (.int x4), some (.int r7)]) (st' := [.int r7]) rfl ?_
      refine wp_if_eq hT rfl ⟨fun c => ?_, fun c => ?_⟩
      · have h := h.1 c
        refine wp_s hT 3 (i' := 27) (L' := [some (.ref 1), some (.int x1), some (.int x2), some (.int x3), some (.int x4), some (.int r7)]) (st' := [.int x1, .ref 65]) rfl ?_
        refine wp_aald hT rfl rfl ⟨by decide, by decide⟩ ⟨h.1, ?_⟩
        have h := h.2
        have h := h _ rfl
        refine wp_s hT 2 (i' := 30) (L' := [some (.ref 1), some (.int x1), some (.int x2), some (.int x3), some (.int x4), some (.int r7)]) (st' := [.int x4, .int x3, .ref (rvT 65 x1.toNatClampNeg)]) rfl ?_
        refine wp_callv hT rfl (mm_cl_of (c6 := 0) (c7 := 0) (f5 := 0) (f6 := 0) rfl rfl rfl rfl rfl rfl h.1 rfl rfl (Nat.le_of_ble_eq_true rfl) (Nat.le_of_ble_eq_true rfl) (Nat.le_of_ble_eq_true rfl) (Nat.zero_le _) (Nat.zero_le _)) h.2 (fun iv9 h => ?_)
        refine wp_s hT 1 (i' := 32) (L' := [some (.ref 1), some (.int x1), some (.int x2), some (.int x3), some (.int x4), some (.int r7)]) (st' := [.int (nI 1)]) rfl ?_
        exact wp_ri hT rfl rfl ⟨_, rfl, h⟩
      · have h := h.2 c
        refine wp_s hT 2 (i' := 22) (L' := [some (.ref 1), some (.int x1), some (.int x2), some (.int x3), some (.int x4), some (.int r7)]) (st' := [.int r7, .ref 1]) rfl ?_
        refine wp_calli hT rfl rfl h (fun r11 iv10 h => ?_)
        exact wp_ri hT rfl rfl ⟨_, rfl, h⟩

theorem mk_X10_get {X : Nat × (Nat → Int32)} {x1 : Int32} {x2 : Int32} {x3 : Int32} {iv : IV} {P : Int32 → IV → Prop}
    (h : wc X 113 [.int x1, .int (nI 4)] iv (Ri (fun r2 iv1 => ((r2 = 0 → P (nI 2147483648) iv1) ∧ (¬ (r2 = 0) → wc X 113 [.int x2, .int (nI 3)] iv1 (Ri (fun r4 iv3 => ((r4 = 0 → P (nI 2147483648) iv3) ∧ (¬ (r4 = 0) → vp_in x1 4 ∧ ∀ a5 : Nat, a5 = rvT 65 x1.toNatClampNeg → kdT a5 = (15, 0) ∧ wc X 47 [.ref a5, .int x2, .int x3] iv3 (Ri (fun r7 iv6 => ((r7 = 0 → vp_in x1 4 ∧ ∀ a8 : Nat, a8 = rvT 65 x1.toNatClampNeg → kdT a8 = (15, 0) ∧ kdT (rvT a8 3) = (1, 60) ∧ vp_in x3 60 ∧ P (iv6 (rvT a8 3) x3.toNatClampNeg) iv6) ∧ (¬ (r7 = 0) → wc X 112 [.ref 1, .int r7] iv6 (Ri (fun r10 iv9 => P (nI 2147483648) iv9))))))))))))))) :
    wc X 90 [.ref 1, .int x1, .int x2, .int x3] iv (Ri P) := by
  have hT := tb_90
  show wp X (0, 0) 90 0 [some (.ref 1), some (.int x1), some (.int x2), some (.int x3), none] [] iv (Ri P)
  refine wp_s hT 2 (i' := 2) (L' := [some (.ref 1), some (.int x1), some (.int x2), some (.int x3), none]) (st' := [.int (nI 4), .int x1]) rfl ?_
  refine wp_calli hT rfl rfl h (fun r2 iv1 h => ?_)
  refine wp_if_eq hT rfl ⟨fun c => ?_, fun c => ?_⟩
  · have h := h.1 c
    refine wp_s hT 1 (i' := 9) (L' := [some (.ref 1), some (.int x1), some (.int x2), some (.int x3), none]) (st' := [.int (nI 2147483648)]) rfl ?_
    exact wp_ri hT rfl rfl ⟨_, rfl, h⟩
  · have h := h.2 c
    refine wp_s hT 2 (i' := 6) (L' := [some (.ref 1), some (.int x1), some (.int x2), some (.int x3), none]) (st' := [.int (nI 3), .int x2]) rfl ?_
    refine wp_calli hT rfl rfl h (fun r4 iv3 h => ?_)
    refine wp_if_ne hT rfl ⟨fun c => ?_, fun c => ?_⟩
    · have h := h.1 c
      refine wp_s hT 1 (i' := 9) (L' := [some (.ref 1), some (.int x1), some (.int x2), some (.int x3), none]) (st' := [.int (nI 2147483648)]) rfl ?_
      exact wp_ri hT rfl rfl ⟨_, rfl, h⟩
    · have h := h.2 c
      refine wp_s hT 3 (i' := 13) (L' := [some (.ref 1), some (.int x1), some (.int x2), some (.int x3), none]) (st' := [.int x1, .ref 65]) rfl ?_
      refine wp_aald hT rfl rfl ⟨by decide, by decide⟩ ⟨h.1, ?_⟩
      have h := h.2
      have h := h _ rfl
      refine wp_s hT 2 (i' := 16) (L' := [some (.ref 1), some (.int x1), some (.int x2), some (.int x3), none]) (st' := [.int x3, .int x2, .ref (rvT 65 x1.toNatClampNeg)]) rfl ?_
      refine wp_calli hT rfl (mm_cl_of (c6 := 0) (c7 := 0) (f5 := 0) (f6 := 0) rfl rfl rfl rfl rfl rfl h.1 rfl rfl (Nat.le_of_ble_eq_true rfl) (Nat.le_of_ble_eq_true rfl) (Nat.le_of_ble_eq_true rfl) (Nat.zero_le _) (Nat.zero_le _)) h.2 (fun r7 iv6 h => ?_)
      refine wp_s hT 2 (i' := 19) (L' := [some (.ref 1), some (.int x1), some (.int x2), some (.int x3), some (.int r7)]) (st' := [.int r7]) rfl ?_
      refine wp_if_eq hT rfl ⟨fun c => ?_, fun c => ?_⟩
      · have h := h.1 c
        refine wp_s hT 3 (i' := 29) (L' := [some (.ref 1), some (.int x1), some (.int x2), some (.int x3), some (.int r7)]) (st' := [.int x1, .ref 65]) rfl ?_
        refine wp_aald hT rfl rfl ⟨by decide, by decide⟩ ⟨h.1, ?_⟩
        have h := h.2
        have h := h _ rfl
        refine wp_getr hT rfl h.1 ⟨by decide, by decide⟩ ?_
        have h := h.2
        refine wp_s hT 1 (i' := 32) (L' := [some (.ref 1), some (.int x1), some (.int x2), some (.int x3), some (.int r7)]) (st' := [.int x3, .ref (rvT (rvT 65 x1.toNatClampNeg) 3)]) rfl ?_
        refine wp_iald hT rfl h.1 ⟨h.2.1, ?_⟩
        have h := h.2.2
        exact wp_ri hT rfl rfl ⟨_, rfl, h⟩
      · have h := h.2 c
        refine wp_s hT 2 (i' := 22) (L' := [some (.ref 1), some (.int x1), some (.int x2), some (.int x3), some (.int r7)]) (st' := [.int r7, .ref 1]) rfl ?_
        refine wp_calli hT rfl rfl h (fun r10 iv9 h => ?_)
        refine wp_s hT 2 (i' := 25) (L' := [some (.ref 1), some (.int x1), some (.int x2), some (.int x3), some (.int r7)]) (st' := [.int (nI 2147483648)]) rfl ?_
        exact wp_ri hT rfl rfl ⟨_, rfl, h⟩

theorem mk_X10_copy {X : Nat × (Nat → Int32)} {x1 : Int32} {x2 : Int32} {x3 : Int32} {x4 : Int32} {x5 : Int32} {iv : IV} {P : Int32 → IV → Prop}
    (h : wc X 113 [.int x1, .int (nI 4)] iv (Ri (fun r2 iv1 => ((r2 = 0 → P (nI 4294967294) iv1) ∧ (¬ (r2 = 0) → wc X 113 [.int x3, .int (nI 4)] iv1 (Ri (fun r4 iv3 => ((r4 = 0 → P (nI 4294967294) iv3) ∧ (¬ (r4 = 0) → vp_in x1 4 ∧ ∀ a5 : Nat, a5 = rvT 65 x1.toNatClampNeg → vp_in x3 4 ∧ ∀ a6 : Nat, a6 = rvT 65 x3.toNatClampNeg → kdT a5 = (15, 0) ∧ ((iv3 a5 0 = 0 → wc X 112 [.ref 1, .int (nI 1)] iv3 (Ri (fun r8 iv7 => P r8 iv7))) ∧ (¬ (iv3 a5 0 = 0) → kdT a6 = (15, 0) ∧ ((iv3 a6 0 = 0 → wc X 112 [.ref 1, .int (nI 1)] iv3 (Ri (fun r10 iv9 => P r10 iv9))) ∧ (¬ (iv3 a6 0 = 0) → kdT a5 = (15, 0) ∧ kdT a6 = (15, 0) ∧ (((iv3 a5 1) = (iv3 a6 1) → kdT a5 = (15, 0) ∧ wc X 49 [.ref a5, .int x2, .int x5] iv3 (Ri (fun r12 iv11 => ((r12 = 0 → wc X 112 [.ref 1, .int (nI 2)] iv11 (Ri (fun r14 iv13 => P r14 iv13))) ∧ (¬ (r12 = 0) → kdT a6 = (15, 0) ∧ wc X 49 [.ref a6, .int x4, .int x5] iv11 (Ri (fun r16 iv15 => ((r16 = 0 → wc X 112 [.ref 1, .int (nI 2)] iv15 (Ri (fun r18 iv17 => P r18 iv17))) ∧ (¬ (r16 = 0) → kdT a5 = (15, 0) ∧ kdT a6 = (15, 0) ∧ kdT (rvT a6 3) = (1, 60) ∧ kdT (rvT a5 3) = (1, 60) ∧ (¬ x2 < 0 ∧ ¬ x4 < 0 ∧ ¬ x5 < 0 ∧ x2.toNatClampNeg + x5.toNatClampNeg ≤ 60 ∧ x4.toNatClampNeg + x5.toNatClampNeg ≤ 60) ∧ (∀ iv19 : IV, iv19 = mm_row iv15 (rvT a6 3) (va_cpy (iv15 (rvT a5 3)) (iv15 (rvT a6 3)) x2.toNatClampNeg x4.toNatClampNeg x5.toNatClampNeg) → P (nI 1) iv19)))))))))) ∧ (¬ ((iv3 a5 1) = (iv3 a6 1)) → wc X 112 [.ref 1, .int (nI 4)] iv3 (Ri (fun r21 iv20 => P r21 iv20))))))))))))))))) :
    wc X 91 [.ref 1, .int x1, .int x2, .int x3, .int x4, .int x5] iv (Ri P) := by
  have hT := tb_91
  show wp X (0, 0) 91 0 [some (.ref 1), some (.int x1), some (.int x2), some (.int x3), some (.int x4), some (.int x5), none, none] [] iv (Ri P)
  refine wp_s hT 2 (i' := 2) (L' := [some (.ref 1), some (.int x1), some (.int x2), some (.int x3), some (.int x4), some (.int x5), none, none]) (st' := [.int (nI 4), .int x1]) rfl ?_
  refine wp_calli hT rfl rfl h (fun r2 iv1 h => ?_)
  refine wp_if_eq hT rfl ⟨fun c => ?_, fun c => ?_⟩
  · have h := h.1 c
    refine wp_s hT 1 (i' := 9) (L' := [some (.ref 1), some (.int x1), some (.int x2), some (.int x3), some (.int x4), some (.int x5), none, none]) (st' := [.int (nI 4294967294)]) rfl ?_
    exact wp_ri hT rfl rfl ⟨_, rfl, h⟩
  · have h := h.2 c
    refine wp_s hT 2 (i' := 6) (L' := [some (.ref 1), some (.int x1), some (.int x2), some (.int x3), some (.int x4), some (.int x5), none, none]) (st' := [.int (nI 4), .int x3]) rfl ?_
    refine wp_calli hT rfl rfl h (fun r4 iv3 h => ?_)
    refine wp_if_ne hT rfl ⟨fun c => ?_, fun c => ?_⟩
    · have h := h.1 c
      refine wp_s hT 1 (i' := 9) (L' := [some (.ref 1), some (.int x1), some (.int x2), some (.int x3), some (.int x4), some (.int x5), none, none]) (st' := [.int (nI 4294967294)]) rfl ?_
      exact wp_ri hT rfl rfl ⟨_, rfl, h⟩
    · have h := h.2 c
      refine wp_s hT 3 (i' := 13) (L' := [some (.ref 1), some (.int x1), some (.int x2), some (.int x3), some (.int x4), some (.int x5), none, none]) (st' := [.int x1, .ref 65]) rfl ?_
      refine wp_aald hT rfl rfl ⟨by decide, by decide⟩ ⟨h.1, ?_⟩
      have h := h.2
      have h := h _ rfl
      refine wp_s hT 4 (i' := 18) (L' := [some (.ref 1), some (.int x1), some (.int x2), some (.int x3), some (.int x4), some (.int x5), some (.ref (rvT 65 x1.toNatClampNeg)), none]) (st' := [.int x3, .ref 65]) rfl ?_
      refine wp_aald hT rfl rfl ⟨by decide, by decide⟩ ⟨h.1, ?_⟩
      have h := h.2
      have h := h _ rfl
      refine wp_s hT 2 (i' := 21) (L' := [some (.ref 1), some (.int x1), some (.int x2), some (.int x3), some (.int x4), some (.int x5), some (.ref (rvT 65 x1.toNatClampNeg)), some (.ref (rvT 65 x3.toNatClampNeg))]) (st' := [.ref (rvT 65 x1.toNatClampNeg)]) rfl ?_
      refine wp_geti hT rfl h.1 ⟨by decide, by decide⟩ ?_
      have h := h.2
      refine wp_if_eq hT rfl ⟨fun c => ?_, fun c => ?_⟩
      · have h := h.1 c
        refine wp_s hT 2 (i' := 28) (L' := [some (.ref 1), some (.int x1), some (.int x2), some (.int x3), some (.int x4), some (.int x5), some (.ref (rvT 65 x1.toNatClampNeg)), some (.ref (rvT 65 x3.toNatClampNeg))]) (st' := [.int (nI 1), .ref 1]) rfl ?_
        refine wp_calli hT rfl rfl h (fun r8 iv7 h => ?_)
        exact wp_ri hT rfl rfl ⟨_, rfl, h⟩
      · have h := h.2 c
        refine wp_s hT 1 (i' := 24) (L' := [some (.ref 1), some (.int x1), some (.int x2), some (.int x3), some (.int x4), some (.int x5), some (.ref (rvT 65 x1.toNatClampNeg)), some (.ref (rvT 65 x3.toNatClampNeg))]) (st' := [.ref (rvT 65 x3.toNatClampNeg)]) rfl ?_
        refine wp_geti hT rfl h.1 ⟨by decide, by decide⟩ ?_
        have h := h.2
        refine wp_if_ne hT rfl ⟨fun c => ?_, fun c => ?_⟩
        · have h := h.1 c
          refine wp_s hT 2 (i' := 28) (L' := [some (.ref 1), some (.int x1), some (.int x2), some (.int x3), some (.int x4), some (.int x5), some (.ref (rvT 65 x1.toNatClampNeg)), some (.ref (rvT 65 x3.toNatClampNeg))]) (st' := [.int (nI 1), .ref 1]) rfl ?_
          refine wp_calli hT rfl rfl h (fun r10 iv9 h => ?_)
          exact wp_ri hT rfl rfl ⟨_, rfl, h⟩
        · have h := h.2 c
          refine wp_s hT 1 (i' := 31) (L' := [some (.ref 1), some (.int x1), some (.int x2), some (.int x3), some (.int x4), some (.int x5), some (.ref (rvT 65 x1.toNatClampNeg)), some (.ref (rvT 65 x3.toNatClampNeg))]) (st' := [.ref (rvT 65 x1.toNatClampNeg)]) rfl ?_
          refine wp_geti hT rfl h.1 ⟨by decide, by decide⟩ ?_
          have h := h.2
          refine wp_s hT 1 (i' := 33) (L' := [some (.ref 1), some (.int x1), some (.int x2), some (.int x3), some (.int x4), some (.int x5), some (.ref (rvT 65 x1.toNatClampNeg)), some (.ref (rvT 65 x3.toNatClampNeg))]) (st' := [.ref (rvT 65 x3.toNatClampNeg), .int (iv3 (rvT 65 x1.toNatClampNeg) 1)]) rfl ?_
          refine wp_geti hT rfl h.1 ⟨by decide, by decide⟩ ?_
          have h := h.2
          refine wp_ic_eq hT rfl ⟨fun c => ?_, fun c => ?_⟩
          · have h := h.1 c
            refine wp_s hT 3 (i' := 42) (L' := [some (.ref 1), some (.int x1), some (.int x2), some (.int x3), some (.int x4), some (.int x5), some (.ref (rvT 65 x1.toNatClampNeg)), some (.ref (rvT 65 x3.toNatClampNeg))]) (st' := [.int x5, .int x2, .ref (rvT 65 x1.toNatClampNeg)]) rfl ?_
            refine wp_calli hT rfl (mm_cl_of (c6 := 0) (c7 := 0) (f5 := 0) (f6 := 0) rfl rfl rfl rfl rfl rfl h.1 rfl rfl (Nat.le_of_ble_eq_true rfl) (Nat.le_of_ble_eq_true rfl) (Nat.le_of_ble_eq_true rfl) (Nat.zero_le _) (Nat.zero_le _)) h.2 (fun r12 iv11 h => ?_)
            refine wp_if_eq hT rfl ⟨fun c => ?_, fun c => ?_⟩
            · have h := h.1 c
              refine wp_s hT 2 (i' := 51) (L' := [some (.ref 1), some (.int x1), some (.int x2), some (.int x3), some (.int x4), some (.int x5), some (.ref (rvT 65 x1.toNatClampNeg)), some (.ref (rvT 65 x3.toNatClampNeg))]) (st' := [.int (nI 2), .ref 1]) rfl ?_
              refine wp_calli hT rfl rfl h (fun r14 iv13 h => ?_)
              exact wp_ri hT rfl rfl ⟨_, rfl, h⟩
            · have h := h.2 c
              refine wp_s hT 3 (i' := 47) (L' := [some (.ref 1), some (.int x1), some (.int x2), some (.int x3), some (.int x4), some (.int x5), some (.ref (rvT 65 x1.toNatClampNeg)), some (.ref (rvT 65 x3.toNatClampNeg))]) (st' := [.int x5, .int x4, .ref (rvT 65 x3.toNatClampNeg)]) rfl ?_
              refine wp_calli hT rfl (mm_cl_of (c6 := 0) (c7 := 0) (f5 := 0) (f6 := 0) rfl rfl rfl rfl rfl rfl h.1 rfl rfl (Nat.le_of_ble_eq_true rfl) (Nat.le_of_ble_eq_true rfl) (Nat.le_of_ble_eq_true rfl) (Nat.zero_le _) (Nat.zero_le _)) h.2 (fun r16 iv15 h => ?_)
              refine wp_if_ne hT rfl ⟨fun c => ?_, fun c => ?_⟩
              · have h := h.1 c
                refine wp_s hT 2 (i' := 51) (L' := [some (.ref 1), some (.int x1), some (.int x2), some (.int x3), some (.int x4), some (.int x5), some (.ref (rvT 65 x1.toNatClampNeg)), some (.ref (rvT 65 x3.toNatClampNeg))]) (st' := [.int (nI 2), .ref 1]) rfl ?_
                refine wp_calli hT rfl rfl h (fun r18 iv17 h => ?_)
                exact wp_ri hT rfl rfl ⟨_, rfl, h⟩
              · have h := h.2 c
                refine wp_s hT 1 (i' := 54) (L' := [some (.ref 1), some (.int x1), some (.int x2), some (.int x3), some (.int x4), some (.int x5), some (.ref (rvT 65 x1.toNatClampNeg)), some (.ref (rvT 65 x3.toNatClampNeg))]) (st' := [.ref (rvT 65 x1.toNatClampNeg)]) rfl ?_
                refine wp_getr hT rfl h.1 ⟨by decide, by decide⟩ ?_
                have h := h.2
                refine wp_s hT 2 (i' := 57) (L' := [some (.ref 1), some (.int x1), some (.int x2), some (.int x3), some (.int x4), some (.int x5), some (.ref (rvT 65 x1.toNatClampNeg)), some (.ref (rvT 65 x3.toNatClampNeg))]) (st' := [.ref (rvT 65 x3.toNatClampNeg), .int x2, .ref (rvT (rvT 65 x1.toNatClampNeg) 3)]) rfl ?_
                refine wp_getr hT rfl h.1 ⟨by decide, by decide⟩ ?_
                have h := h.2
                refine wp_s hT 2 (i' := 60) (L' := [some (.ref 1), some (.int x1), some (.int x2), some (.int x3), some (.int x4), some (.int x5), some (.ref (rvT 65 x1.toNatClampNeg)), some (.ref (rvT 65 x3.toNatClampNeg))]) (st' := [.int x5, .int x4, .ref (rvT (rvT 65 x3.toNatClampNeg) 3), .int x2, .ref (rvT (rvT 65 x1.toNatClampNeg) 3)]) rfl ?_
                refine wp_copy hT rfl h.1 h.2.1 (Nat.le_of_ble_eq_true rfl) ⟨h.2.2.1, ?_⟩
                have h := h.2.2.2
                have h := h _ rfl
                refine wp_s hT 1 (i' := 62) (L' := [some (.ref 1), some (.int x1), some (.int x2), some (.int x3), some (.int x4), some (.int x5), some (.ref (rvT 65 x1.toNatClampNeg)), some (.ref (rvT 65 x3.toNatClampNeg))]) (st' := [.int (nI 1)]) rfl ?_
                exact wp_ri hT rfl rfl ⟨_, rfl, h⟩
          · have h := h.2 c
            refine wp_s hT 2 (i' := 37) (L' := [some (.ref 1), some (.int x1), some (.int x2), some (.int x3), some (.int x4), some (.int x5), some (.ref (rvT 65 x1.toNatClampNeg)), some (.ref (rvT 65 x3.toNatClampNeg))]) (st' := [.int (nI 4), .ref 1]) rfl ?_
            refine wp_calli hT rfl rfl h (fun r21 iv20 h => ?_)
            exact wp_ri hT rfl rfl ⟨_, rfl, h⟩

theorem mk_X10_write_38 {X : Nat × (Nat → Int32)} {x1 : Int32} {a3_ : Nat} {x4 : Int32} {x5 : Int32} {iv : IV} {P : Int32 → IV → Prop}
    (h : ((x4 ≤ x5 → P x4 iv) ∧ (¬ (x4 ≤ x5) → wc X 102 [.ref 1, .int x1, .int x5] iv (Ri (fun r2 iv1 => kdT a3_ = (15, 0) ∧ wc X 48 [.ref a3_, .int x5, .int r2] iv1 (Rv (fun iv3 => wp X (0, 0) 92 38 [some (.ref 1), some (.int x1), none, some (.ref a3_), some (.int x4), some (.int (x5 + nI 1))] [] iv3 (Ri P)))))))) :
    wp X (0, 0) 92 38 [some (.ref 1), some (.int x1), none, some (.ref a3_), some (.int x4), some (.int x5)] [] iv (Ri P) := by
  have hT := tb_92
  refine wp_s hT 2 (i' := 40) (L' := [some (.ref 1), some (.int x1), none, some (.ref a3_), some (.int x4), some (.int x5)]) (st' := [.int x4, .int x5]) rfl ?_
  refine wp_ic_ge hT rfl ⟨fun c => ?_, fun c => ?_⟩
  · have h := h.1 c
    refine wp_s hT 1 (i' := 51) (L' := [some (.ref 1), some (.int x1), none, some (.ref a3_), some (.int x4), some (.int x5)]) (st' := [.int x4]) rfl ?_
    exact wp_ri hT rfl rfl ⟨_, rfl, h⟩
  · have h := h.2 c
    refine wp_s hT 5 (i' := 46) (L' := [some (.ref 1), some (.int x1), none, some (.ref a3_), some (.int x4), some (.int x5)]) (st' := [.int x5, .int x1, .ref 1, .int x5, .ref a3_]) rfl ?_
    refine wp_calli hT rfl rfl h (fun r2 iv1 h => ?_)
    refine wp_callv hT rfl (mm_cl_of (c6 := 0) (c7 := 0) (f5 := 0) (f6 := 0) rfl rfl rfl rfl rfl rfl h.1 rfl rfl (Nat.le_of_ble_eq_true rfl) (Nat.le_of_ble_eq_true rfl) (Nat.le_of_ble_eq_true rfl) (Nat.zero_le _) (Nat.zero_le _)) h.2 (fun iv3 h => ?_)
    refine wp_s hT 2 (i' := 38) (L' := [some (.ref 1), some (.int x1), none, some (.ref a3_), some (.int x4), some (.int (x5 + nI 1))]) (st' := []) rfl ?_
    exact h

theorem mk_X10_write {X : Nat × (Nat → Int32)} {x1 : Int32} {x2 : Int32} {iv : IV} {P : Int32 → IV → Prop}
    (h : wc X 113 [.int x1, .int (nI 15)] iv (Ri (fun r2 iv1 => ((r2 = 0 → P (nI 4294967294) iv1) ∧ (¬ (r2 = 0) → wc X 113 [.int x2, .int (nI 4)] iv1 (Ri (fun r4 iv3 => ((r4 = 0 → P (nI 4294967294) iv3) ∧ (¬ (r4 = 0) → vp_in x2 4 ∧ ∀ a5 : Nat, a5 = rvT 65 x2.toNatClampNeg → kdT a5 = (15, 0) ∧ ((iv3 a5 0 = 0 → wc X 112 [.ref 1, .int (nI 1)] iv3 (Ri (fun r7 iv6 => P r7 iv6))) ∧ (¬ (iv3 a5 0 = 0) → wc X 109 [.ref 1, .int (nI 0)] iv3 (Rv (fun iv8 => ((iv8 21 1 = 0 → P (nI 4294967293) iv8) ∧ (¬ (iv8 21 1 = 0) → kdT a5 = (15, 0) ∧ wc X 224 [.int (iv8 a5 2), .int (nI 15)] iv8 (Ri (fun r10 iv9 => wp X (0, 0) 92 38 [some (.ref 1), some (.int x1), none, some (.ref a5), some (.int r10), some (.int (nI 0))] [] iv9 (Ri P)))))))))))))))))) :
    wc X 92 [.ref 1, .int x1, .int x2] iv (Ri P) := by
  have hT := tb_92
  show wp X (0, 0) 92 0 [some (.ref 1), some (.int x1), some (.int x2), none, none, none] [] iv (Ri P)
  refine wp_s hT 2 (i' := 2) (L' := [some (.ref 1), some (.int x1), some (.int x2), none, none, none]) (st' := [.int (nI 15), .int x1]) rfl ?_
  refine wp_calli hT rfl rfl h (fun r2 iv1 h => ?_)
  refine wp_if_eq hT rfl ⟨fun c => ?_, fun c => ?_⟩
  · have h := h.1 c
    refine wp_s hT 1 (i' := 9) (L' := [some (.ref 1), some (.int x1), some (.int x2), none, none, none]) (st' := [.int (nI 4294967294)]) rfl ?_
    exact wp_ri hT rfl rfl ⟨_, rfl, h⟩
  · have h := h.2 c
    refine wp_s hT 2 (i' := 6) (L' := [some (.ref 1), some (.int x1), some (.int x2), none, none, none]) (st' := [.int (nI 4), .int x2]) rfl ?_
    refine wp_calli hT rfl rfl h (fun r4 iv3 h => ?_)
    refine wp_if_ne hT rfl ⟨fun c => ?_, fun c => ?_⟩
    · have h := h.1 c
      refine wp_s hT 1 (i' := 9) (L' := [some (.ref 1), some (.int x1), some (.int x2), none, none, none]) (st' := [.int (nI 4294967294)]) rfl ?_
      exact wp_ri hT rfl rfl ⟨_, rfl, h⟩
    · have h := h.2 c
      refine wp_s hT 3 (i' := 13) (L' := [some (.ref 1), some (.int x1), some (.int x2), none, none, none]) (st' := [.int x2, .ref 65]) rfl ?_
      refine wp_aald hT rfl rfl ⟨by decide, by decide⟩ ⟨h.1, ?_⟩
      have h := h.2
      have h := h _ rfl
      refine wp_s hT 2 (i' := 16) (L' := [some (.ref 1), some (.int x1), some (.int x2), some (.ref (rvT 65 x2.toNatClampNeg)), none, none]) (st' := [.ref (rvT 65 x2.toNatClampNeg)]) rfl ?_
      refine wp_geti hT rfl h.1 ⟨by decide, by decide⟩ ?_
      have h := h.2
      refine wp_if_ne hT rfl ⟨fun c => ?_, fun c => ?_⟩
      · have h := h.1 c
        refine wp_s hT 2 (i' := 20) (L' := [some (.ref 1), some (.int x1), some (.int x2), some (.ref (rvT 65 x2.toNatClampNeg)), none, none]) (st' := [.int (nI 1), .ref 1]) rfl ?_
        refine wp_calli hT rfl rfl h (fun r7 iv6 h => ?_)
        exact wp_ri hT rfl rfl ⟨_, rfl, h⟩
      · have h := h.2 c
        refine wp_s hT 2 (i' := 24) (L' := [some (.ref 1), some (.int x1), some (.int x2), some (.ref (rvT 65 x2.toNatClampNeg)), none, none]) (st' := [.int (nI 0), .ref 1]) rfl ?_
        refine wp_callv hT rfl rfl h (fun iv8 h => ?_)
        refine wp_s hT 3 (i' := 28) (L' := [some (.ref 1), some (.int x1), some (.int x2), some (.ref (rvT 65 x2.toNatClampNeg)), none, none]) (st' := [.int (iv8 21 1)]) rfl ?_
        refine wp_if_ne hT rfl ⟨fun c => ?_, fun c => ?_⟩
        · have h := h.1 c
          refine wp_s hT 1 (i' := 30) (L' := [some (.ref 1), some (.int x1), some (.int x2), some (.ref (rvT 65 x2.toNatClampNeg)), none, none]) (st' := [.int (nI 4294967293)]) rfl ?_
          exact wp_ri hT rfl rfl ⟨_, rfl, h⟩
        · have h := h.2 c
          refine wp_s hT 1 (i' := 32) (L' := [some (.ref 1), some (.int x1), some (.int x2), some (.ref (rvT 65 x2.toNatClampNeg)), none, none]) (st' := [.ref (rvT 65 x2.toNatClampNeg)]) rfl ?_
          refine wp_geti hT rfl h.1 ⟨by decide, by decide⟩ ?_
          have h := h.2
          refine wp_s hT 1 (i' := 34) (L' := [some (.ref 1), some (.int x1), some (.int x2), some (.ref (rvT 65 x2.toNatClampNeg)), none, none]) (st' := [.int (nI 15), .int (iv8 (rvT 65 x2.toNatClampNeg) 2)]) rfl ?_
          refine wp_calli hT rfl rfl h (fun r10 iv9 h => ?_)
          refine wp_s hT 3 (i' := 38) (L' := [some (.ref 1), some (.int x1), some (.int x2), some (.ref (rvT 65 x2.toNatClampNeg)), some (.int r10), some (.int (nI 0))]) (st' := []) rfl ?_
          refine wp_le (L := [some (.ref 1), some (.int x1), none, some (.ref (rvT 65 x2.toNatClampNeg)), some (.int r10), some (.int (nI 0))]) ⟨Or.inl rfl, Or.inl rfl, Or.inr ⟨rfl, rfl⟩, Or.inl rfl, Or.inl rfl, Or.inl rfl, trivial⟩ ?_
          exact h

theorem mk_X10_count {X : Nat × (Nat → Int32)} {x1 : Int32} {iv : IV} {P : Int32 → IV → Prop}
    (h : wc X 113 [.int x1, .int (nI 9)] iv (Ri (fun r2 iv1 => ((r2 = 0 → P (nI 4294967294) iv1) ∧ (¬ (r2 = 0) → ((x1 = (nI 3) → wc X 109 [.ref 1, .int (nI 1)] iv1 (Rv (fun iv3 => wc X 108 [.ref 1, .int x1] iv3 (Ri (fun r5 iv4 => P r5 iv4))))) ∧ (¬ (x1 = (nI 3)) → wc X 109 [.ref 1, .int (nI 0)] iv1 (Rv (fun iv6 => wc X 108 [.ref 1, .int x1] iv6 (Ri (fun r8 iv7 => P r8 iv7))))))))))) :
    wc X 93 [.ref 1, .int x1] iv (Ri P) := by
  have hT := tb_93
  show wp X (0, 0) 93 0 [some (.ref 1), some (.int x1)] [] iv (Ri P)
  refine wp_s hT 2 (i' := 2) (L' := [some (.ref 1), some (.int x1)]) (st' := [.int (nI 9), .int x1]) rfl ?_
  refine wp_calli hT rfl rfl h (fun r2 iv1 h => ?_)
  refine wp_if_ne hT rfl ⟨fun c => ?_, fun c => ?_⟩
  · have h := h.1 c
    refine wp_s hT 1 (i' := 5) (L' := [some (.ref 1), some (.int x1)]) (st' := [.int (nI 4294967294)]) rfl ?_
    exact wp_ri hT rfl rfl ⟨_, rfl, h⟩
  · have h := h.2 c
    refine wp_s hT 3 (i' := 9) (L' := [some (.ref 1), some (.int x1)]) (st' := [.int (nI 3), .int x1, .ref 1]) rfl ?_
    refine wp_ic_ne hT rfl ⟨fun c => ?_, fun c => ?_⟩
    · have h := h.1 c
      refine wp_s hT 2 (i' := 13) (L' := [some (.ref 1), some (.int x1)]) (st' := [.int (nI 1), .ref 1]) rfl ?_
      refine wp_callv hT rfl rfl h (fun iv3 h => ?_)
      refine wp_s hT 2 (i' := 16) (L' := [some (.ref 1), some (.int x1)]) (st' := [.int x1, .ref 1]) rfl ?_
      refine wp_calli hT rfl rfl h (fun r5 iv4 h => ?_)
      exact wp_ri hT rfl rfl ⟨_, rfl, h⟩
    · have h := h.2 c
      refine wp_s hT 1 (i' := 13) (L' := [some (.ref 1), some (.int x1)]) (st' := [.int (nI 0), .ref 1]) rfl ?_
      refine wp_callv hT rfl rfl h (fun iv6 h => ?_)
      refine wp_s hT 2 (i' := 16) (L' := [some (.ref 1), some (.int x1)]) (st' := [.int x1, .ref 1]) rfl ?_
      refine wp_calli hT rfl rfl h (fun r8 iv7 h => ?_)
      exact wp_ri hT rfl rfl ⟨_, rfl, h⟩

theorem mk_X10_digest_32 {X : Nat × (Nat → Int32)} {x1 : Int64} {x3 : Int32} {iv : IV} {P : Int64 → IV → Prop}
    (h : (((nI 4) ≤ x3 → wc X 95 [.ref 1, .long x1] iv (Rl (fun r2 iv1 => wc X 96 [.ref 1, .long r2] iv1 (Rl (fun r4 iv3 => wc X 97 [.ref 1, .long r4] iv3 (Rl (fun r6 iv5 => P r6 iv5))))))) ∧ (¬ ((nI 4) ≤ x3) → wc X 98 [.ref 1, .int x3] iv (Ri (fun r8 iv7 => ∀ v9 : Int64, v9 = ((lN 31) * x1) + r8.toInt64 → wp X (0, 0) 94 32 [some (.ref 1), some (.long v9), none, some (.int (x3 + nI 1))] [] iv7 (Rl P)))))) :
    wp X (0, 0) 94 32 [some (.ref 1), some (.long x1), none, some (.int x3)] [] iv (Rl P) := by
  have hT := tb_94
  refine wp_s hT 2 (i' := 34) (L' := [some (.ref 1), some (.long x1), none, some (.int x3)]) (st' := [.int (nI 4), .int x3]) rfl ?_
  refine wp_ic_ge hT rfl ⟨fun c => ?_, fun c => ?_⟩
  · have h := h.1 c
    refine wp_s hT 2 (i' := 48) (L' := [some (.ref 1), some (.long x1), none, some (.int x3)]) (st' := [.long x1, .ref 1]) rfl ?_
    refine wp_calll hT rfl rfl h (fun r2 iv1 h => ?_)
    refine wp_s hT 3 (i' := 52) (L' := [some (.ref 1), some (.long r2), none, some (.int x3)]) (st' := [.long r2, .ref 1]) rfl ?_
    refine wp_calll hT rfl rfl h (fun r4 iv3 h => ?_)
    refine wp_s hT 3 (i' := 56) (L' := [some (.ref 1), some (.long r4), none, some (.int x3)]) (st' := [.long r4, .ref 1]) rfl ?_
    refine wp_calll hT rfl rfl h (fun r6 iv5 h => ?_)
    exact wp_rl hT rfl rfl ⟨_, rfl, h⟩
  · have h := h.2 c
    refine wp_s hT 5 (i' := 40) (L' := [some (.ref 1), some (.long x1), none, some (.int x3)]) (st' := [.int x3, .ref 1, .long ((lN 31) * x1)]) rfl ?_
    refine wp_calli hT rfl rfl h (fun r8 iv7 h => ?_)
    refine wp_s hT 3 (i' := 44) (L' := [some (.ref 1), some (.long (((lN 31) * x1) + r8.toInt64)), none, some (.int x3)]) (st' := []) rfl ?_
    have h := h _ rfl
    refine wp_s hT 2 (i' := 32) (L' := [some (.ref 1), some (.long (((lN 31) * x1) + r8.toInt64)), none, some (.int (x3 + nI 1))]) (st' := []) rfl ?_
    exact h

theorem mk_X10_digest_7 {X : Nat × (Nat → Int32)} {x1 : Int64} {x3 : Int32} {iv : IV} {P : Int64 → IV → Prop}
    (h : (((nI 8) ≤ x3 → wc X 59 [.ref 4] iv (Ri (fun r2 iv1 => ∀ v3 : Int64, v3 = ((lN 31) * x1) + r2.toInt64 → wp X (0, 0) 94 32 [some (.ref 1), some (.long v3), none, some (.int (nI 0))] [] iv1 (Rl P)))) ∧ (¬ ((nI 8) ≤ x3) → wc X 108 [.ref 1, .int x3] iv (Ri (fun r5 iv4 => ∀ v6 : Int64, v6 = ((lN 31) * x1) + r5.toInt64 → wp X (0, 0) 94 7 [some (.ref 1), some (.long v6), none, some (.int (x3 + nI 1))] [] iv4 (Rl P)))))) :
    wp X (0, 0) 94 7 [some (.ref 1), some (.long x1), none, some (.int x3)] [] iv (Rl P) := by
  have hT := tb_94
  refine wp_s hT 2 (i' := 9) (L' := [some (.ref 1), some (.long x1), none, some (.int x3)]) (st' := [.int (nI 8), .int x3]) rfl ?_
  refine wp_ic_ge hT rfl ⟨fun c => ?_, fun c => ?_⟩
  · have h := h.1 c
    refine wp_s hT 5 (i' := 26) (L' := [some (.ref 1), some (.long x1), none, some (.int x3)]) (st' := [.ref 4, .long ((lN 31) * x1)]) rfl ?_
    refine wp_calli hT rfl rfl h (fun r2 iv1 h => ?_)
    refine wp_s hT 3 (i' := 30) (L' := [some (.ref 1), some (.long (((lN 31) * x1) + r2.toInt64)), none, some (.int x3)]) (st' := []) rfl ?_
    have h := h _ rfl
    refine wp_s hT 2 (i' := 32) (L' := [some (.ref 1), some (.long (((lN 31) * x1) + r2.toInt64)), none, some (.int (nI 0))]) (st' := []) rfl ?_
    exact h
  · have h := h.2 c
    refine wp_s hT 5 (i' := 15) (L' := [some (.ref 1), some (.long x1), none, some (.int x3)]) (st' := [.int x3, .ref 1, .long ((lN 31) * x1)]) rfl ?_
    refine wp_calli hT rfl rfl h (fun r5 iv4 h => ?_)
    refine wp_s hT 3 (i' := 19) (L' := [some (.ref 1), some (.long (((lN 31) * x1) + r5.toInt64)), none, some (.int x3)]) (st' := []) rfl ?_
    have h := h _ rfl
    refine wp_s hT 2 (i' := 7) (L' := [some (.ref 1), some (.long (((lN 31) * x1) + r5.toInt64)), none, some (.int (x3 + nI 1))]) (st' := []) rfl ?_
    exact h

theorem mk_X10_digest {X : Nat × (Nat → Int32)}  {iv : IV} {P : Int64 → IV → Prop}
    (h : wc X 109 [.ref 1, .int (nI 2)] iv (Rv (fun iv1 => wp X (0, 0) 94 7 [some (.ref 1), some (.long (lN 17)), none, some (.int (nI 0))] [] iv1 (Rl P)))) :
    wc X 94 [.ref 1] iv (Rl P) := by
  have hT := tb_94
  show wp X (0, 0) 94 0 [some (.ref 1), none, none, none] [] iv (Rl P)
  refine wp_s hT 2 (i' := 2) (L' := [some (.ref 1), none, none, none]) (st' := [.int (nI 2), .ref 1]) rfl ?_
  refine wp_callv hT rfl rfl h (fun iv1 h => ?_)
  refine wp_s hT 4 (i' := 7) (L' := [some (.ref 1), some (.long (lN 17)), none, some (.int (nI 0))]) (st' := []) rfl ?_
  exact h

theorem mk_X10_withBlocks_36 {X : Nat × (Nat → Int32)} {x1 : Int64} {x3 : Int64} {x5 : Int32} {x6 : Int32} {iv : IV} {P : Int64 → IV → Prop}
    (h : (((nI 3) ≤ x6 → wp X (0, 0) 95 4 [some (.ref 1), some (.long x1), none, some (.long x3), none, some (.int (x5 + nI 1)), none] [] iv (Rl P)) ∧ (¬ ((nI 3) ≤ x6) → wc X 105 [.ref 1, .int x5, .int x6] iv (Ri (fun r2 iv1 => ∀ v3 : Int64, v3 = ((lN 31) * x3) + r2.toInt64 → wp X (0, 0) 95 36 [some (.ref 1), some (.long x1), none, some (.long v3), none, some (.int x5), some (.int (x6 + nI 1))] [] iv1 (Rl P)))))) :
    wp X (0, 0) 95 36 [some (.ref 1), some (.long x1), none, some (.long x3), none, some (.int x5), some (.int x6)] [] iv (Rl P) := by
  have hT := tb_95
  refine wp_s hT 2 (i' := 38) (L' := [some (.ref 1), some (.long x1), none, some (.long x3), none, some (.int x5), some (.int x6)]) (st' := [.int (nI 3), .int x6]) rfl ?_
  refine wp_ic_ge hT rfl ⟨fun c => ?_, fun c => ?_⟩
  · have h := h.1 c
    refine wp_s hT 2 (i' := 4) (L' := [some (.ref 1), some (.long x1), none, some (.long x3), none, some (.int (x5 + nI 1)), some (.int x6)]) (st' := []) rfl ?_
    refine wp_le (L := [some (.ref 1), some (.long x1), none, some (.long x3), none, some (.int (x5 + nI 1)), none]) ⟨Or.inl rfl, Or.inl rfl, Or.inl rfl, Or.inl rfl, Or.inl rfl, Or.inl rfl, Or.inr ⟨rfl, rfl⟩, trivial⟩ ?_
    exact h
  · have h := h.2 c
    refine wp_s hT 6 (i' := 45) (L' := [some (.ref 1), some (.long x1), none, some (.long x3), none, some (.int x5), some (.int x6)]) (st' := [.int x6, .int x5, .ref 1, .long ((lN 31) * x3)]) rfl ?_
    refine wp_calli hT rfl rfl h (fun r2 iv1 h => ?_)
    refine wp_s hT 3 (i' := 49) (L' := [some (.ref 1), some (.long x1), none, some (.long (((lN 31) * x3) + r2.toInt64)), none, some (.int x5), some (.int x6)]) (st' := []) rfl ?_
    have h := h _ rfl
    refine wp_s hT 2 (i' := 36) (L' := [some (.ref 1), some (.long x1), none, some (.long (((lN 31) * x3) + r2.toInt64)), none, some (.int x5), some (.int (x6 + nI 1))]) (st' := []) rfl ?_
    exact h

theorem mk_X10_withBlocks_9 {X : Nat × (Nat → Int32)} {x1 : Int64} {x3 : Int64} {x5 : Int32} {x6 : Int32} {iv : IV} {P : Int64 → IV → Prop}
    (h : (((nI 14) ≤ x6 → wp X (0, 0) 95 36 [some (.ref 1), some (.long x1), none, some (.long x3), none, some (.int x5), some (.int (nI 0))] [] iv (Rl P)) ∧ (¬ ((nI 14) ≤ x6) → wc X 99 [.ref 1, .int x5, .int x6] iv (Ri (fun r2 iv1 => ∀ v3 : Int64, v3 = ((lN 31) * x3) + r2.toInt64 → wc X 106 [.ref 1, .int x5, .int x6] iv1 (Ri (fun r5 iv4 => ∀ v6 : Int64, v6 = ((lN 31) * v3) + r5.toInt64 → wp X (0, 0) 95 9 [some (.ref 1), some (.long x1), none, some (.long v6), none, some (.int x5), some (.int (x6 + nI 1))] [] iv4 (Rl P)))))))) :
    wp X (0, 0) 95 9 [some (.ref 1), some (.long x1), none, some (.long x3), none, some (.int x5), some (.int x6)] [] iv (Rl P) := by
  have hT := tb_95
  refine wp_s hT 2 (i' := 11) (L' := [some (.ref 1), some (.long x1), none, some (.long x3), none, some (.int x5), some (.int x6)]) (st' := [.int (nI 14), .int x6]) rfl ?_
  refine wp_ic_ge hT rfl ⟨fun c => ?_, fun c => ?_⟩
  · have h := h.1 c
    refine wp_s hT 2 (i' := 36) (L' := [some (.ref 1), some (.long x1), none, some (.long x3), none, some (.int x5), some (.int (nI 0))]) (st' := []) rfl ?_
    exact h
  · have h := h.2 c
    refine wp_s hT 6 (i' := 18) (L' := [some (.ref 1), some (.long x1), none, some (.long x3), none, some (.int x5), some (.int x6)]) (st' := [.int x6, .int x5, .ref 1, .long ((lN 31) * x3)]) rfl ?_
    refine wp_calli hT rfl rfl h (fun r2 iv1 h => ?_)
    refine wp_s hT 3 (i' := 22) (L' := [some (.ref 1), some (.long x1), none, some (.long (((lN 31) * x3) + r2.toInt64)), none, some (.int x5), some (.int x6)]) (st' := []) rfl ?_
    have h := h _ rfl
    refine wp_s hT 6 (i' := 28) (L' := [some (.ref 1), some (.long x1), none, some (.long (((lN 31) * x3) + r2.toInt64)), none, some (.int x5), some (.int x6)]) (st' := [.int x6, .int x5, .ref 1, .long ((lN 31) * (((lN 31) * x3) + r2.toInt64))]) rfl ?_
    refine wp_calli hT rfl rfl h (fun r5 iv4 h => ?_)
    refine wp_s hT 3 (i' := 32) (L' := [some (.ref 1), some (.long x1), none, some (.long (((lN 31) * (((lN 31) * x3) + r2.toInt64)) + r5.toInt64)), none, some (.int x5), some (.int x6)]) (st' := []) rfl ?_
    have h := h _ rfl
    refine wp_s hT 2 (i' := 9) (L' := [some (.ref 1), some (.long x1), none, some (.long (((lN 31) * (((lN 31) * x3) + r2.toInt64)) + r5.toInt64)), none, some (.int x5), some (.int (x6 + nI 1))]) (st' := []) rfl ?_
    exact h

theorem mk_X10_withBlocks_4 {X : Nat × (Nat → Int32)} {x1 : Int64} {x3 : Int64} {x5 : Int32} {iv : IV} {P : Int64 → IV → Prop}
    (h : (((nI 3) ≤ x5 → P x3 iv) ∧ (¬ ((nI 3) ≤ x5) → wp X (0, 0) 95 9 [some (.ref 1), some (.long x1), none, some (.long x3), none, some (.int x5), some (.int (nI 0))] [] iv (Rl P)))) :
    wp X (0, 0) 95 4 [some (.ref 1), some (.long x1), none, some (.long x3), none, some (.int x5), none] [] iv (Rl P) := by
  have hT := tb_95
  refine wp_s hT 2 (i' := 6) (L' := [some (.ref 1), some (.long x1), none, some (.long x3), none, some (.int x5), none]) (st' := [.int (nI 3), .int x5]) rfl ?_
  refine wp_ic_ge hT rfl ⟨fun c => ?_, fun c => ?_⟩
  · have h := h.1 c
    refine wp_s hT 1 (i' := 54) (L' := [some (.ref 1), some (.long x1), none, some (.long x3), none, some (.int x5), none]) (st' := [.long x3]) rfl ?_
    exact wp_rl hT rfl rfl ⟨_, rfl, h⟩
  · have h := h.2 c
    refine wp_s hT 2 (i' := 9) (L' := [some (.ref 1), some (.long x1), none, some (.long x3), none, some (.int x5), some (.int (nI 0))]) (st' := []) rfl ?_
    exact h

theorem mk_X10_withBlocks {X : Nat × (Nat → Int32)} {x1 : Int64} {iv : IV} {P : Int64 → IV → Prop}
    (h : wp X (0, 0) 95 4 [some (.ref 1), some (.long x1), none, some (.long x1), none, some (.int (nI 0)), none] [] iv (Rl P)) :
    wc X 95 [.ref 1, .long x1] iv (Rl P) := by
  have hT := tb_95
  show wp X (0, 0) 95 0 [some (.ref 1), some (.long x1), none, none, none, none, none] [] iv (Rl P)
  refine wp_s hT 4 (i' := 4) (L' := [some (.ref 1), some (.long x1), none, some (.long x1), none, some (.int (nI 0)), none]) (st' := []) rfl ?_
  exact h

theorem mk_X10_withSquares_49 {X : Nat × (Nat → Int32)} {x1 : Int64} {x3 : Int64} {x5 : Int32} {x6 : Int32} {iv : IV} {P : Int64 → IV → Prop}
    (h : (((nI 15) ≤ x6 → wp X (0, 0) 96 44 [some (.ref 1), some (.long x1), none, some (.long x3), none, some (.int (x5 + nI 1)), none] [] iv (Rl P)) ∧ (¬ ((nI 15) ≤ x6) → wc X 102 [.ref 1, .int x5, .int x6] iv (Ri (fun r2 iv1 => ∀ v3 : Int64, v3 = ((lN 31) * x3) + r2.toInt64 → wp X (0, 0) 96 49 [some (.ref 1), some (.long x1), none, some (.long v3), none, some (.int x5), some (.int (x6 + nI 1))] [] iv1 (Rl P)))))) :
    wp X (0, 0) 96 49 [some (.ref 1), some (.long x1), none, some (.long x3), none, some (.int x5), some (.int x6)] [] iv (Rl P) := by
  have hT := tb_96
  refine wp_s hT 2 (i' := 51) (L' := [some (.ref 1), some (.long x1), none, some (.long x3), none, some (.int x5), some (.int x6)]) (st' := [.int (nI 15), .int x6]) rfl ?_
  refine wp_ic_ge hT rfl ⟨fun c => ?_, fun c => ?_⟩
  · have h := h.1 c
    refine wp_s hT 2 (i' := 44) (L' := [some (.ref 1), some (.long x1), none, some (.long x3), none, some (.int (x5 + nI 1)), some (.int x6)]) (st' := []) rfl ?_
    refine wp_le (L := [some (.ref 1), some (.long x1), none, some (.long x3), none, some (.int (x5 + nI 1)), none]) ⟨Or.inl rfl, Or.inl rfl, Or.inl rfl, Or.inl rfl, Or.inl rfl, Or.inl rfl, Or.inr ⟨rfl, rfl⟩, trivial⟩ ?_
    exact h
  · have h := h.2 c
    refine wp_s hT 6 (i' := 58) (L' := [some (.ref 1), some (.long x1), none, some (.long x3), none, some (.int x5), some (.int x6)]) (st' := [.int x6, .int x5, .ref 1, .long ((lN 31) * x3)]) rfl ?_
    refine wp_calli hT rfl rfl h (fun r2 iv1 h => ?_)
    refine wp_s hT 3 (i' := 62) (L' := [some (.ref 1), some (.long x1), none, some (.long (((lN 31) * x3) + r2.toInt64)), none, some (.int x5), some (.int x6)]) (st' := []) rfl ?_
    have h := h _ rfl
    refine wp_s hT 2 (i' := 49) (L' := [some (.ref 1), some (.long x1), none, some (.long (((lN 31) * x3) + r2.toInt64)), none, some (.int x5), some (.int (x6 + nI 1))]) (st' := []) rfl ?_
    exact h

theorem mk_X10_withSquares_44 {X : Nat × (Nat → Int32)} {x1 : Int64} {x3 : Int64} {x5 : Int32} {iv : IV} {P : Int64 → IV → Prop}
    (h : (((nI 15) ≤ x5 → P x3 iv) ∧ (¬ ((nI 15) ≤ x5) → wp X (0, 0) 96 49 [some (.ref 1), some (.long x1), none, some (.long x3), none, some (.int x5), some (.int (nI 0))] [] iv (Rl P)))) :
    wp X (0, 0) 96 44 [some (.ref 1), some (.long x1), none, some (.long x3), none, some (.int x5), none] [] iv (Rl P) := by
  have hT := tb_96
  refine wp_s hT 2 (i' := 46) (L' := [some (.ref 1), some (.long x1), none, some (.long x3), none, some (.int x5), none]) (st' := [.int (nI 15), .int x5]) rfl ?_
  refine wp_ic_ge hT rfl ⟨fun c => ?_, fun c => ?_⟩
  · have h := h.1 c
    refine wp_s hT 1 (i' := 67) (L' := [some (.ref 1), some (.long x1), none, some (.long x3), none, some (.int x5), none]) (st' := [.long x3]) rfl ?_
    exact wp_rl hT rfl rfl ⟨_, rfl, h⟩
  · have h := h.2 c
    refine wp_s hT 2 (i' := 49) (L' := [some (.ref 1), some (.long x1), none, some (.long x3), none, some (.int x5), some (.int (nI 0))]) (st' := []) rfl ?_
    exact h

theorem mk_X10_withSquares_28 {X : Nat × (Nat → Int32)} {x1 : Int64} {x3 : Int64} {x5 : Int32} {iv : IV} {P : Int64 → IV → Prop}
    (h : (((nI 4) ≤ x5 → wp X (0, 0) 96 44 [some (.ref 1), some (.long x1), none, some (.long x3), none, some (.int (nI 0)), none] [] iv (Rl P)) ∧ (¬ ((nI 4) ≤ x5) → wc X 101 [.ref 1, .int x5] iv (Ri (fun r2 iv1 => ∀ v3 : Int64, v3 = ((lN 31) * x3) + r2.toInt64 → wp X (0, 0) 96 28 [some (.ref 1), some (.long x1), none, some (.long v3), none, some (.int (x5 + nI 1)), none] [] iv1 (Rl P)))))) :
    wp X (0, 0) 96 28 [some (.ref 1), some (.long x1), none, some (.long x3), none, some (.int x5), none] [] iv (Rl P) := by
  have hT := tb_96
  refine wp_s hT 2 (i' := 30) (L' := [some (.ref 1), some (.long x1), none, some (.long x3), none, some (.int x5), none]) (st' := [.int (nI 4), .int x5]) rfl ?_
  refine wp_ic_ge hT rfl ⟨fun c => ?_, fun c => ?_⟩
  · have h := h.1 c
    refine wp_s hT 2 (i' := 44) (L' := [some (.ref 1), some (.long x1), none, some (.long x3), none, some (.int (nI 0)), none]) (st' := []) rfl ?_
    exact h
  · have h := h.2 c
    refine wp_s hT 5 (i' := 36) (L' := [some (.ref 1), some (.long x1), none, some (.long x3), none, some (.int x5), none]) (st' := [.int x5, .ref 1, .long ((lN 31) * x3)]) rfl ?_
    refine wp_calli hT rfl rfl h (fun r2 iv1 h => ?_)
    refine wp_s hT 3 (i' := 40) (L' := [some (.ref 1), some (.long x1), none, some (.long (((lN 31) * x3) + r2.toInt64)), none, some (.int x5), none]) (st' := []) rfl ?_
    have h := h _ rfl
    refine wp_s hT 2 (i' := 28) (L' := [some (.ref 1), some (.long x1), none, some (.long (((lN 31) * x3) + r2.toInt64)), none, some (.int (x5 + nI 1)), none]) (st' := []) rfl ?_
    exact h

theorem mk_X10_withSquares_9 {X : Nat × (Nat → Int32)} {x1 : Int64} {x3 : Int64} {x5 : Int32} {x6 : Int32} {iv : IV} {P : Int64 → IV → Prop}
    (h : (((nI 15) ≤ x6 → wp X (0, 0) 96 4 [some (.ref 1), some (.long x1), none, some (.long x3), none, some (.int (x5 + nI 1)), none] [] iv (Rl P)) ∧ (¬ ((nI 15) ≤ x6) → wc X 100 [.ref 1, .int x5, .int x6] iv (Ri (fun r2 iv1 => ∀ v3 : Int64, v3 = ((lN 31) * x3) + r2.toInt64 → wp X (0, 0) 96 9 [some (.ref 1), some (.long x1), none, some (.long v3), none, some (.int x5), some (.int (x6 + nI 1))] [] iv1 (Rl P)))))) :
    wp X (0, 0) 96 9 [some (.ref 1), some (.long x1), none, some (.long x3), none, some (.int x5), some (.int x6)] [] iv (Rl P) := by
  have hT := tb_96
  refine wp_s hT 2 (i' := 11) (L' := [some (.ref 1), some (.long x1), none, some (.long x3), none, some (.int x5), some (.int x6)]) (st' := [.int (nI 15), .int x6]) rfl ?_
  refine wp_ic_ge hT rfl ⟨fun c => ?_, fun c => ?_⟩
  · have h := h.1 c
    refine wp_s hT 2 (i' := 4) (L' := [some (.ref 1), some (.long x1), none, some (.long x3), none, some (.int (x5 + nI 1)), some (.int x6)]) (st' := []) rfl ?_
    refine wp_le (L := [some (.ref 1), some (.long x1), none, some (.long x3), none, some (.int (x5 + nI 1)), none]) ⟨Or.inl rfl, Or.inl rfl, Or.inl rfl, Or.inl rfl, Or.inl rfl, Or.inl rfl, Or.inr ⟨rfl, rfl⟩, trivial⟩ ?_
    exact h
  · have h := h.2 c
    refine wp_s hT 6 (i' := 18) (L' := [some (.ref 1), some (.long x1), none, some (.long x3), none, some (.int x5), some (.int x6)]) (st' := [.int x6, .int x5, .ref 1, .long ((lN 31) * x3)]) rfl ?_
    refine wp_calli hT rfl rfl h (fun r2 iv1 h => ?_)
    refine wp_s hT 3 (i' := 22) (L' := [some (.ref 1), some (.long x1), none, some (.long (((lN 31) * x3) + r2.toInt64)), none, some (.int x5), some (.int x6)]) (st' := []) rfl ?_
    have h := h _ rfl
    refine wp_s hT 2 (i' := 9) (L' := [some (.ref 1), some (.long x1), none, some (.long (((lN 31) * x3) + r2.toInt64)), none, some (.int x5), some (.int (x6 + nI 1))]) (st' := []) rfl ?_
    exact h

theorem mk_X10_withSquares_4 {X : Nat × (Nat → Int32)} {x1 : Int64} {x3 : Int64} {x5 : Int32} {iv : IV} {P : Int64 → IV → Prop}
    (h : (((nI 4) ≤ x5 → wp X (0, 0) 96 28 [some (.ref 1), some (.long x1), none, some (.long x3), none, some (.int (nI 0)), none] [] iv (Rl P)) ∧ (¬ ((nI 4) ≤ x5) → wp X (0, 0) 96 9 [some (.ref 1), some (.long x1), none, some (.long x3), none, some (.int x5), some (.int (nI 0))] [] iv (Rl P)))) :
    wp X (0, 0) 96 4 [some (.ref 1), some (.long x1), none, some (.long x3), none, some (.int x5), none] [] iv (Rl P) := by
  have hT := tb_96
  refine wp_s hT 2 (i' := 6) (L' := [some (.ref 1), some (.long x1), none, some (.long x3), none, some (.int x5), none]) (st' := [.int (nI 4), .int x5]) rfl ?_
  refine wp_ic_ge hT rfl ⟨fun c => ?_, fun c => ?_⟩
  · have h := h.1 c
    refine wp_s hT 2 (i' := 28) (L' := [some (.ref 1), some (.long x1), none, some (.long x3), none, some (.int (nI 0)), none]) (st' := []) rfl ?_
    exact h
  · have h := h.2 c
    refine wp_s hT 2 (i' := 9) (L' := [some (.ref 1), some (.long x1), none, some (.long x3), none, some (.int x5), some (.int (nI 0))]) (st' := []) rfl ?_
    exact h

theorem mk_X10_withSquares {X : Nat × (Nat → Int32)} {x1 : Int64} {iv : IV} {P : Int64 → IV → Prop}
    (h : wp X (0, 0) 96 4 [some (.ref 1), some (.long x1), none, some (.long x1), none, some (.int (nI 4294967295)), none] [] iv (Rl P)) :
    wc X 96 [.ref 1, .long x1] iv (Rl P) := by
  have hT := tb_96
  show wp X (0, 0) 96 0 [some (.ref 1), some (.long x1), none, none, none, none, none] [] iv (Rl P)
  refine wp_s hT 4 (i' := 4) (L' := [some (.ref 1), some (.long x1), none, some (.long x1), none, some (.int (nI 4294967295)), none]) (st' := []) rfl ?_
  exact h

theorem mk_X10_withReading_43 {X : Nat × (Nat → Int32)} {x1 : Int64} {x3 : Int64} {x5 : Int32} {iv : IV} {P : Int64 → IV → Prop}
    (h : (((nI 2) ≤ x5 → P x3 iv) ∧ (¬ ((nI 2) ≤ x5) → wc X 107 [.ref 1, .int x5] iv (Ri (fun r2 iv1 => ∀ v3 : Int64, v3 = ((lN 31) * x3) + r2.toInt64 → wp X (0, 0) 97 43 [some (.ref 1), some (.long x1), none, some (.long v3), none, some (.int (x5 + nI 1))] [] iv1 (Rl P)))))) :
    wp X (0, 0) 97 43 [some (.ref 1), some (.long x1), none, some (.long x3), none, some (.int x5)] [] iv (Rl P) := by
  have hT := tb_97
  refine wp_s hT 2 (i' := 45) (L' := [some (.ref 1), some (.long x1), none, some (.long x3), none, some (.int x5)]) (st' := [.int (nI 2), .int x5]) rfl ?_
  refine wp_ic_ge hT rfl ⟨fun c => ?_, fun c => ?_⟩
  · have h := h.1 c
    refine wp_s hT 1 (i' := 58) (L' := [some (.ref 1), some (.long x1), none, some (.long x3), none, some (.int x5)]) (st' := [.long x3]) rfl ?_
    exact wp_rl hT rfl rfl ⟨_, rfl, h⟩
  · have h := h.2 c
    refine wp_s hT 5 (i' := 51) (L' := [some (.ref 1), some (.long x1), none, some (.long x3), none, some (.int x5)]) (st' := [.int x5, .ref 1, .long ((lN 31) * x3)]) rfl ?_
    refine wp_calli hT rfl rfl h (fun r2 iv1 h => ?_)
    refine wp_s hT 3 (i' := 55) (L' := [some (.ref 1), some (.long x1), none, some (.long (((lN 31) * x3) + r2.toInt64)), none, some (.int x5)]) (st' := []) rfl ?_
    have h := h _ rfl
    refine wp_s hT 2 (i' := 43) (L' := [some (.ref 1), some (.long x1), none, some (.long (((lN 31) * x3) + r2.toInt64)), none, some (.int (x5 + nI 1))]) (st' := []) rfl ?_
    exact h

theorem mk_X10_withReading_27 {X : Nat × (Nat → Int32)} {x1 : Int64} {x3 : Int64} {x5 : Int32} {iv : IV} {P : Int64 → IV → Prop}
    (h : (((nI 2) ≤ x5 → wp X (0, 0) 97 43 [some (.ref 1), some (.long x1), none, some (.long x3), none, some (.int (nI 0))] [] iv (Rl P)) ∧ (¬ ((nI 2) ≤ x5) → wc X 104 [.ref 1, .int x5] iv (Ri (fun r2 iv1 => ∀ v3 : Int64, v3 = ((lN 31) * x3) + r2.toInt64 → wp X (0, 0) 97 27 [some (.ref 1), some (.long x1), none, some (.long v3), none, some (.int (x5 + nI 1))] [] iv1 (Rl P)))))) :
    wp X (0, 0) 97 27 [some (.ref 1), some (.long x1), none, some (.long x3), none, some (.int x5)] [] iv (Rl P) := by
  have hT := tb_97
  refine wp_s hT 2 (i' := 29) (L' := [some (.ref 1), some (.long x1), none, some (.long x3), none, some (.int x5)]) (st' := [.int (nI 2), .int x5]) rfl ?_
  refine wp_ic_ge hT rfl ⟨fun c => ?_, fun c => ?_⟩
  · have h := h.1 c
    refine wp_s hT 2 (i' := 43) (L' := [some (.ref 1), some (.long x1), none, some (.long x3), none, some (.int (nI 0))]) (st' := []) rfl ?_
    exact h
  · have h := h.2 c
    refine wp_s hT 5 (i' := 35) (L' := [some (.ref 1), some (.long x1), none, some (.long x3), none, some (.int x5)]) (st' := [.int x5, .ref 1, .long ((lN 31) * x3)]) rfl ?_
    refine wp_calli hT rfl rfl h (fun r2 iv1 h => ?_)
    refine wp_s hT 3 (i' := 39) (L' := [some (.ref 1), some (.long x1), none, some (.long (((lN 31) * x3) + r2.toInt64)), none, some (.int x5)]) (st' := []) rfl ?_
    have h := h _ rfl
    refine wp_s hT 2 (i' := 27) (L' := [some (.ref 1), some (.long x1), none, some (.long (((lN 31) * x3) + r2.toInt64)), none, some (.int (x5 + nI 1))]) (st' := []) rfl ?_
    exact h

theorem mk_X10_withReading_11 {X : Nat × (Nat → Int32)} {x1 : Int64} {x3 : Int64} {x5 : Int32} {iv : IV} {P : Int64 → IV → Prop}
    (h : (((nI 14) ≤ x5 → wp X (0, 0) 97 27 [some (.ref 1), some (.long x1), none, some (.long x3), none, some (.int (nI 0))] [] iv (Rl P)) ∧ (¬ ((nI 14) ≤ x5) → wc X 103 [.ref 1, .int x5] iv (Ri (fun r2 iv1 => ∀ v3 : Int64, v3 = ((lN 31) * x3) + r2.toInt64 → wp X (0, 0) 97 11 [some (.ref 1), some (.long x1), none, some (.long v3), none, some (.int (x5 + nI 1))] [] iv1 (Rl P)))))) :
    wp X (0, 0) 97 11 [some (.ref 1), some (.long x1), none, some (.long x3), none, some (.int x5)] [] iv (Rl P) := by
  have hT := tb_97
  refine wp_s hT 2 (i' := 13) (L' := [some (.ref 1), some (.long x1), none, some (.long x3), none, some (.int x5)]) (st' := [.int (nI 14), .int x5]) rfl ?_
  refine wp_ic_ge hT rfl ⟨fun c => ?_, fun c => ?_⟩
  · have h := h.1 c
    refine wp_s hT 2 (i' := 27) (L' := [some (.ref 1), some (.long x1), none, some (.long x3), none, some (.int (nI 0))]) (st' := []) rfl ?_
    exact h
  · have h := h.2 c
    refine wp_s hT 5 (i' := 19) (L' := [some (.ref 1), some (.long x1), none, some (.long x3), none, some (.int x5)]) (st' := [.int x5, .ref 1, .long ((lN 31) * x3)]) rfl ?_
    refine wp_calli hT rfl rfl h (fun r2 iv1 h => ?_)
    refine wp_s hT 3 (i' := 23) (L' := [some (.ref 1), some (.long x1), none, some (.long (((lN 31) * x3) + r2.toInt64)), none, some (.int x5)]) (st' := []) rfl ?_
    have h := h _ rfl
    refine wp_s hT 2 (i' := 11) (L' := [some (.ref 1), some (.long x1), none, some (.long (((lN 31) * x3) + r2.toInt64)), none, some (.int (x5 + nI 1))]) (st' := []) rfl ?_
    exact h

theorem mk_X10_withReading {X : Nat × (Nat → Int32)} {x1 : Int64} {iv : IV} {P : Int64 → IV → Prop}
    (h : ∀ v1 : Int64, v1 = ((lN 31) * x1) + ((iv 34 0).toInt64) → wp X (0, 0) 97 11 [some (.ref 1), some (.long x1), none, some (.long v1), none, some (.int (nI 4294967295))] [] iv (Rl P)) :
    wc X 97 [.ref 1, .long x1] iv (Rl P) := by
  have hT := tb_97
  show wp X (0, 0) 97 0 [some (.ref 1), some (.long x1), none, none, none, none] [] iv (Rl P)
  refine wp_s hT 9 (i' := 9) (L' := [some (.ref 1), some (.long x1), none, some (.long (((lN 31) * x1) + ((iv 34 0).toInt64))), none, none]) (st' := []) rfl ?_
  have h := h _ rfl
  refine wp_s hT 2 (i' := 11) (L' := [some (.ref 1), some (.long x1), none, some (.long (((lN 31) * x1) + ((iv 34 0).toInt64))), none, some (.int (nI 4294967295))]) (st' := []) rfl ?_
  exact h

theorem mk_X10_markNow {X : Nat × (Nat → Int32)} {x1 : Int32} {iv : IV} {P : Int32 → IV → Prop}
    (h : ((x1 = 0 → P (iv 21 0) iv) ∧ (¬ (x1 = 0) → ((x1 = (nI 1) → P (iv 21 2) iv) ∧ (¬ (x1 = (nI 1)) → ((x1 = (nI 2) → wc X 118 [.int (iv 21 0)] iv (Ri (fun r2 iv1 => P r2 iv1))) ∧ (¬ (x1 = (nI 2)) → ((iv 21 1 = 0 → P (nI 1) iv) ∧ (¬ (iv 21 1 = 0) → P (nI 0) iv))))))))) :
    wc X 98 [.ref 1, .int x1] iv (Ri P) := by
  have hT := tb_98
  show wp X (0, 0) 98 0 [some (.ref 1), some (.int x1)] [] iv (Ri P)
  refine wp_s hT 1 (i' := 1) (L' := [some (.ref 1), some (.int x1)]) (st' := [.int x1]) rfl ?_
  refine wp_if_ne hT rfl ⟨fun c => ?_, fun c => ?_⟩
  · have h := h.1 c
    refine wp_s hT 3 (i' := 5) (L' := [some (.ref 1), some (.int x1)]) (st' := [.int (iv 21 0)]) rfl ?_
    exact wp_ri hT rfl rfl ⟨_, rfl, h⟩
  · have h := h.2 c
    refine wp_s hT 2 (i' := 8) (L' := [some (.ref 1), some (.int x1)]) (st' := [.int (nI 1), .int x1]) rfl ?_
    refine wp_ic_ne hT rfl ⟨fun c => ?_, fun c => ?_⟩
    · have h := h.1 c
      refine wp_s hT 3 (i' := 12) (L' := [some (.ref 1), some (.int x1)]) (st' := [.int (iv 21 2)]) rfl ?_
      exact wp_ri hT rfl rfl ⟨_, rfl, h⟩
    · have h := h.2 c
      refine wp_s hT 2 (i' := 15) (L' := [some (.ref 1), some (.int x1)]) (st' := [.int (nI 2), .int x1]) rfl ?_
      refine wp_ic_ne hT rfl ⟨fun c => ?_, fun c => ?_⟩
      · have h := h.1 c
        refine wp_s hT 3 (i' := 19) (L' := [some (.ref 1), some (.int x1)]) (st' := [.int (iv 21 0)]) rfl ?_
        refine wp_calli hT rfl rfl h (fun r2 iv1 h => ?_)
        exact wp_ri hT rfl rfl ⟨_, rfl, h⟩
      · have h := h.2 c
        refine wp_s hT 3 (i' := 24) (L' := [some (.ref 1), some (.int x1)]) (st' := [.int (iv 21 1)]) rfl ?_
        refine wp_if_eq hT rfl ⟨fun c => ?_, fun c => ?_⟩
        · have h := h.1 c
          refine wp_s hT 1 (i' := 28) (L' := [some (.ref 1), some (.int x1)]) (st' := [.int (nI 1)]) rfl ?_
          exact wp_ri hT rfl rfl ⟨_, rfl, h⟩
        · have h := h.2 c
          refine wp_s hT 2 (i' := 28) (L' := [some (.ref 1), some (.int x1)]) (st' := [.int (nI 0)]) rfl ?_
          exact wp_ri hT rfl rfl ⟨_, rfl, h⟩

theorem mk_X10_symbolNow {X : Nat × (Nat → Int32)} {x1 : Int32} {x2 : Int32} {iv : IV} {P : Int32 → IV → Prop}
    (h : ((iv 21 1 = 0 → P (nI 4294967295) iv) ∧ (¬ (iv 21 1 = 0) → vp_in x1 3 ∧ ∀ a1 : Nat, a1 = rvT 22 x1.toNatClampNeg → kdT a1 = (1, 14) ∧ vp_in x2 14 ∧ P (iv a1 x2.toNatClampNeg) iv))) :
    wc X 99 [.ref 1, .int x1, .int x2] iv (Ri P) := by
  have hT := tb_99
  show wp X (0, 0) 99 0 [some (.ref 1), some (.int x1), some (.int x2)] [] iv (Ri P)
  refine wp_s hT 3 (i' := 3) (L' := [some (.ref 1), some (.int x1), some (.int x2)]) (st' := [.int (iv 21 1)]) rfl ?_
  refine wp_if_eq hT rfl ⟨fun c => ?_, fun c => ?_⟩
  · have h := h.1 c
    refine wp_s hT 1 (i' := 13) (L' := [some (.ref 1), some (.int x1), some (.int x2)]) (st' := [.int (nI 4294967295)]) rfl ?_
    exact wp_ri hT rfl rfl ⟨_, rfl, h⟩
  · have h := h.2 c
    refine wp_s hT 4 (i' := 8) (L' := [some (.ref 1), some (.int x1), some (.int x2)]) (st' := [.int x1, .ref 22]) rfl ?_
    refine wp_aald hT rfl rfl ⟨by decide, by decide⟩ ⟨h.1, ?_⟩
    have h := h.2
    have h := h _ rfl
    refine wp_s hT 1 (i' := 10) (L' := [some (.ref 1), some (.int x1), some (.int x2)]) (st' := [.int x2, .ref (rvT 22 x1.toNatClampNeg)]) rfl ?_
    refine wp_iald hT rfl h.1 ⟨h.2.1, ?_⟩
    have h := h.2.2
    refine wp_s hT 1 (i' := 13) (L' := [some (.ref 1), some (.int x1), some (.int x2)]) (st' := [.int (iv (rvT 22 x1.toNatClampNeg) x2.toNatClampNeg)]) rfl ?_
    exact wp_ri hT rfl rfl ⟨_, rfl, h⟩

theorem mk_X10_dotsNow {X : Nat × (Nat → Int32)} {x1 : Int32} {x2 : Int32} {iv : IV} {P : Int32 → IV → Prop}
    (h : ((iv 21 1 = 0 → P (nI 4294967293) iv) ∧ (¬ (iv 21 1 = 0) → ((x1 = (nI 4294967295) → vp_in x2 15 ∧ P (iv 26 x2.toNatClampNeg) iv) ∧ (¬ (x1 = (nI 4294967295)) → vp_in x1 4 ∧ ∀ a1 : Nat, a1 = rvT 27 x1.toNatClampNeg → kdT a1 = (1, 15) ∧ vp_in x2 15 ∧ P (iv a1 x2.toNatClampNeg) iv))))) :
    wc X 100 [.ref 1, .int x1, .int x2] iv (Ri P) := by
  have hT := tb_100
  show wp X (0, 0) 100 0 [some (.ref 1), some (.int x1), some (.int x2)] [] iv (Ri P)
  refine wp_s hT 3 (i' := 3) (L' := [some (.ref 1), some (.int x1), some (.int x2)]) (st' := [.int (iv 21 1)]) rfl ?_
  refine wp_if_ne hT rfl ⟨fun c => ?_, fun c => ?_⟩
  · have h := h.1 c
    refine wp_s hT 1 (i' := 5) (L' := [some (.ref 1), some (.int x1), some (.int x2)]) (st' := [.int (nI 4294967293)]) rfl ?_
    exact wp_ri hT rfl rfl ⟨_, rfl, h⟩
  · have h := h.2 c
    refine wp_s hT 2 (i' := 8) (L' := [some (.ref 1), some (.int x1), some (.int x2)]) (st' := [.int (nI 4294967295), .int x1]) rfl ?_
    refine wp_ic_ne hT rfl ⟨fun c => ?_, fun c => ?_⟩
    · have h := h.1 c
      refine wp_s hT 4 (i' := 13) (L' := [some (.ref 1), some (.int x1), some (.int x2)]) (st' := [.int x2, .ref 26]) rfl ?_
      refine wp_iald hT rfl rfl ⟨h.1, ?_⟩
      have h := h.2
      refine wp_s hT 1 (i' := 22) (L' := [some (.ref 1), some (.int x1), some (.int x2)]) (st' := [.int (iv 26 x2.toNatClampNeg)]) rfl ?_
      exact wp_ri hT rfl rfl ⟨_, rfl, h⟩
    · have h := h.2 c
      refine wp_s hT 4 (i' := 19) (L' := [some (.ref 1), some (.int x1), some (.int x2)]) (st' := [.int x1, .ref 27]) rfl ?_
      refine wp_aald hT rfl rfl ⟨by decide, by decide⟩ ⟨h.1, ?_⟩
      have h := h.2
      have h := h _ rfl
      refine wp_s hT 1 (i' := 21) (L' := [some (.ref 1), some (.int x1), some (.int x2)]) (st' := [.int x2, .ref (rvT 27 x1.toNatClampNeg)]) rfl ?_
      refine wp_iald hT rfl h.1 ⟨h.2.1, ?_⟩
      have h := h.2.2
      exact wp_ri hT rfl rfl ⟨_, rfl, h⟩

theorem mk_X10_penaltyNow {X : Nat × (Nat → Int32)} {x1 : Int32} {iv : IV} {P : Int32 → IV → Prop}
    (h : ((iv 21 1 = 0 → P (nI 4294967293) iv) ∧ (¬ (iv 21 1 = 0) → vp_in x1 4 ∧ P (iv 32 x1.toNatClampNeg) iv))) :
    wc X 101 [.ref 1, .int x1] iv (Ri P) := by
  have hT := tb_101
  show wp X (0, 0) 101 0 [some (.ref 1), some (.int x1)] [] iv (Ri P)
  refine wp_s hT 3 (i' := 3) (L' := [some (.ref 1), some (.int x1)]) (st' := [.int (iv 21 1)]) rfl ?_
  refine wp_if_eq hT rfl ⟨fun c => ?_, fun c => ?_⟩
  · have h := h.1 c
    refine wp_s hT 1 (i' := 11) (L' := [some (.ref 1), some (.int x1)]) (st' := [.int (nI 4294967293)]) rfl ?_
    exact wp_ri hT rfl rfl ⟨_, rfl, h⟩
  · have h := h.2 c
    refine wp_s hT 4 (i' := 8) (L' := [some (.ref 1), some (.int x1)]) (st' := [.int x1, .ref 32]) rfl ?_
    refine wp_iald hT rfl rfl ⟨h.1, ?_⟩
    have h := h.2
    refine wp_s hT 1 (i' := 11) (L' := [some (.ref 1), some (.int x1)]) (st' := [.int (iv 32 x1.toNatClampNeg)]) rfl ?_
    exact wp_ri hT rfl rfl ⟨_, rfl, h⟩

theorem mk_X10_seenNow {X : Nat × (Nat → Int32)} {x1 : Int32} {x2 : Int32} {iv : IV} {P : Int32 → IV → Prop}
    (h : ((iv 21 1 = 0 → P (nI 4294967293) iv) ∧ (¬ (iv 21 1 = 0) → vp_in x1 15 ∧ wc X 115 [.int (iv 8 x1.toNatClampNeg), .int x2] iv (Ri (fun r2 iv1 => ((r2 = (nI 1) → P (nI 2) iv1) ∧ (¬ (r2 = (nI 1)) → wc X 14 [.ref 21, .int x1] iv1 (Ri (fun r4 iv3 => vp_in x1 15 ∧ wc X 115 [.int (r4 ^^^ (iv3 7 x1.toNatClampNeg)), .int x2] iv3 (Ri (fun r6 iv5 => P r6 iv5))))))))))) :
    wc X 102 [.ref 1, .int x1, .int x2] iv (Ri P) := by
  have hT := tb_102
  show wp X (0, 0) 102 0 [some (.ref 1), some (.int x1), some (.int x2)] [] iv (Ri P)
  refine wp_s hT 3 (i' := 3) (L' := [some (.ref 1), some (.int x1), some (.int x2)]) (st' := [.int (iv 21 1)]) rfl ?_
  refine wp_if_ne hT rfl ⟨fun c => ?_, fun c => ?_⟩
  · have h := h.1 c
    refine wp_s hT 1 (i' := 5) (L' := [some (.ref 1), some (.int x1), some (.int x2)]) (st' := [.int (nI 4294967293)]) rfl ?_
    exact wp_ri hT rfl rfl ⟨_, rfl, h⟩
  · have h := h.2 c
    refine wp_s hT 4 (i' := 10) (L' := [some (.ref 1), some (.int x1), some (.int x2)]) (st' := [.int x1, .ref 8]) rfl ?_
    refine wp_iald hT rfl rfl ⟨h.1, ?_⟩
    have h := h.2
    refine wp_s hT 1 (i' := 12) (L' := [some (.ref 1), some (.int x1), some (.int x2)]) (st' := [.int x2, .int (iv 8 x1.toNatClampNeg)]) rfl ?_
    refine wp_calli hT rfl rfl h (fun r2 iv1 h => ?_)
    refine wp_s hT 1 (i' := 14) (L' := [some (.ref 1), some (.int x1), some (.int x2)]) (st' := [.int (nI 1), .int r2]) rfl ?_
    refine wp_ic_ne hT rfl ⟨fun c => ?_, fun c => ?_⟩
    · have h := h.1 c
      refine wp_s hT 1 (i' := 16) (L' := [some (.ref 1), some (.int x1), some (.int x2)]) (st' := [.int (nI 2)]) rfl ?_
      exact wp_ri hT rfl rfl ⟨_, rfl, h⟩
    · have h := h.2 c
      refine wp_s hT 3 (i' := 20) (L' := [some (.ref 1), some (.int x1), some (.int x2)]) (st' := [.int x1, .ref 21]) rfl ?_
      refine wp_calli hT rfl rfl h (fun r4 iv3 h => ?_)
      refine wp_s hT 4 (i' := 25) (L' := [some (.ref 1), some (.int x1), some (.int x2)]) (st' := [.int x1, .ref 7, .int r4]) rfl ?_
      refine wp_iald hT rfl rfl ⟨h.1, ?_⟩
      have h := h.2
      refine wp_s hT 2 (i' := 28) (L' := [some (.ref 1), some (.int x1), some (.int x2)]) (st' := [.int x2, .int (r4 ^^^ (iv3 7 x1.toNatClampNeg))]) rfl ?_
      refine wp_calli hT rfl rfl h (fun r6 iv5 h => ?_)
      exact wp_ri hT rfl rfl ⟨_, rfl, h⟩

theorem mk_X10_toldNow {X : Nat × (Nat → Int32)} {x1 : Int32} {iv : IV} {P : Int32 → IV → Prop}
    (h : ((iv 34 0 = 0 → wc X 42 [.ref 34, .int (nI 0)] iv (Ri (fun r2 iv1 => ((x1 = (nI 4294967295) → P r2 iv1) ∧ (¬ (x1 = (nI 4294967295)) → ((r2 ≤ x1 → P (nI 4294967295) iv1) ∧ (¬ (r2 ≤ x1) → wc X 42 [.ref 34, .int ((nI 1) + ((nI 2) * x1))] iv1 (Ri (fun r4 iv3 => wc X 42 [.ref 34, .int ((nI 2) + ((nI 2) * x1))] iv3 (Ri (fun r6 iv5 => P (((nI 16) * r4) + r6) iv5))))))))))) ∧ (¬ (iv 34 0 = 0) → P (nI 4294967293) iv))) :
    wc X 103 [.ref 1, .int x1] iv (Ri P) := by
  have hT := tb_103
  show wp X (0, 0) 103 0 [some (.ref 1), some (.int x1), none] [] iv (Ri P)
  refine wp_s hT 3 (i' := 3) (L' := [some (.ref 1), some (.int x1), none]) (st' := [.int (iv 34 0)]) rfl ?_
  refine wp_if_eq hT rfl ⟨fun c => ?_, fun c => ?_⟩
  · have h := h.1 c
    refine wp_s hT 3 (i' := 9) (L' := [some (.ref 1), some (.int x1), none]) (st' := [.int (nI 0), .ref 34]) rfl ?_
    refine wp_calli hT rfl rfl h (fun r2 iv1 h => ?_)
    refine wp_s hT 3 (i' := 13) (L' := [some (.ref 1), some (.int x1), some (.int r2)]) (st' := [.int (nI 4294967295), .int x1]) rfl ?_
    refine wp_ic_ne hT rfl ⟨fun c => ?_, fun c => ?_⟩
    · have h := h.1 c
      refine wp_s hT 1 (i' := 15) (L' := [some (.ref 1), some (.int x1), some (.int r2)]) (st' := [.int r2]) rfl ?_
      exact wp_ri hT rfl rfl ⟨_, rfl, h⟩
    · have h := h.2 c
      refine wp_s hT 2 (i' := 18) (L' := [some (.ref 1), some (.int x1), some (.int r2)]) (st' := [.int r2, .int x1]) rfl ?_
      refine wp_ic_ge hT rfl ⟨fun c => ?_, fun c => ?_⟩
      · have h := h.1 c
        refine wp_s hT 1 (i' := 40) (L' := [some (.ref 1), some (.int x1), some (.int r2)]) (st' := [.int (nI 4294967295)]) rfl ?_
        exact wp_ri hT rfl rfl ⟨_, rfl, h⟩
      · have h := h.2 c
        refine wp_s hT 8 (i' := 27) (L' := [some (.ref 1), some (.int x1), some (.int r2)]) (st' := [.int ((nI 1) + ((nI 2) * x1)), .ref 34, .int (nI 16)]) rfl ?_
        refine wp_calli hT rfl rfl h (fun r4 iv3 h => ?_)
        refine wp_s hT 8 (i' := 36) (L' := [some (.ref 1), some (.int x1), some (.int r2)]) (st' := [.int ((nI 2) + ((nI 2) * x1)), .ref 34, .int ((nI 16) * r4)]) rfl ?_
        refine wp_calli hT rfl rfl h (fun r6 iv5 h => ?_)
        refine wp_s hT 2 (i' := 40) (L' := [some (.ref 1), some (.int x1), some (.int r2)]) (st' := [.int (((nI 16) * r4) + r6)]) rfl ?_
        exact wp_ri hT rfl rfl ⟨_, rfl, h⟩
  · have h := h.2 c
    refine wp_s hT 1 (i' := 5) (L' := [some (.ref 1), some (.int x1), none]) (st' := [.int (nI 4294967293)]) rfl ?_
    exact wp_ri hT rfl rfl ⟨_, rfl, h⟩

theorem mk_X10_formatNow {X : Nat × (Nat → Int32)} {x1 : Int32} {iv : IV} {P : Int32 → IV → Prop}
    (h : wc X 39 [.ref 34] iv (Ri (fun r2 iv1 => ((r2 = 0 → P (nI 4294967295) iv1) ∧ (¬ (r2 = 0) → ((x1 = 0 → wc X 40 [.ref 34] iv1 (Ri (fun r4 iv3 => P r4 iv3))) ∧ (¬ (x1 = 0) → wc X 41 [.ref 34] iv1 (Ri (fun r6 iv5 => P r6 iv5))))))))) :
    wc X 104 [.ref 1, .int x1] iv (Ri P) := by
  have hT := tb_104
  show wp X (0, 0) 104 0 [some (.ref 1), some (.int x1)] [] iv (Ri P)
  refine wp_s hT 2 (i' := 2) (L' := [some (.ref 1), some (.int x1)]) (st' := [.ref 34]) rfl ?_
  refine wp_calli hT rfl rfl h (fun r2 iv1 h => ?_)
  refine wp_if_ne hT rfl ⟨fun c => ?_, fun c => ?_⟩
  · have h := h.1 c
    refine wp_s hT 1 (i' := 5) (L' := [some (.ref 1), some (.int x1)]) (st' := [.int (nI 4294967295)]) rfl ?_
    exact wp_ri hT rfl rfl ⟨_, rfl, h⟩
  · have h := h.2 c
    refine wp_s hT 1 (i' := 7) (L' := [some (.ref 1), some (.int x1)]) (st' := [.int x1]) rfl ?_
    refine wp_if_ne hT rfl ⟨fun c => ?_, fun c => ?_⟩
    · have h := h.1 c
      refine wp_s hT 2 (i' := 10) (L' := [some (.ref 1), some (.int x1)]) (st' := [.ref 34]) rfl ?_
      refine wp_calli hT rfl rfl h (fun r4 iv3 h => ?_)
      refine wp_s hT 1 (i' := 15) (L' := [some (.ref 1), some (.int x1)]) (st' := [.int r4]) rfl ?_
      exact wp_ri hT rfl rfl ⟨_, rfl, h⟩
    · have h := h.2 c
      refine wp_s hT 2 (i' := 14) (L' := [some (.ref 1), some (.int x1)]) (st' := [.ref 34]) rfl ?_
      refine wp_calli hT rfl rfl h (fun r6 iv5 h => ?_)
      exact wp_ri hT rfl rfl ⟨_, rfl, h⟩

theorem mk_X10_blockNow {X : Nat × (Nat → Int32)} {x1 : Int32} {x2 : Int32} {iv : IV} {P : Int32 → IV → Prop}
    (h : wc X 39 [.ref 34] iv (Ri (fun r2 iv1 => ((r2 = 0 → P (nI 4294967293) iv1) ∧ (¬ (r2 = 0) → vp_in x1 3 ∧ ∀ a3 : Nat, a3 = rvT 35 x1.toNatClampNeg → ((x2 = 0 → kdT a3 = (10, 0) ∧ wc X 220 [.int (iv1 a3 2)] iv1 (Ri (fun r5 iv4 => P r5 iv4))) ∧ (¬ (x2 = 0) → kdT a3 = (10, 0) ∧ (((iv1 a3 3) = (nI 4294967295) → P (nI 4294967295) iv1) ∧ (¬ ((iv1 a3 3) = (nI 4294967295)) → ((x2 = (nI 1) → kdT a3 = (10, 0) ∧ P (iv1 a3 3) iv1) ∧ (¬ (x2 = (nI 1)) → wc X 40 [.ref 34] iv1 (Ri (fun r7 iv6 => wc X 117 [.int r7] iv6 (Ri (fun r9 iv8 => kdT a3 = (10, 0) ∧ kdT a3 = (10, 0) ∧ wc X 1 [.ref a3, .int (iv8 a3 3)] iv8 (Ri (fun r11 iv10 => P (r9 - r11) iv10))))))))))))))))) :
    wc X 105 [.ref 1, .int x1, .int x2] iv (Ri P) := by
  have hT := tb_105
  show wp X (0, 0) 105 0 [some (.ref 1), some (.int x1), some (.int x2), none] [] iv (Ri P)
  refine wp_s hT 2 (i' := 2) (L' := [some (.ref 1), some (.int x1), some (.int x2), none]) (st' := [.ref 34]) rfl ?_
  refine wp_calli hT rfl rfl h (fun r2 iv1 h => ?_)
  refine wp_if_ne hT rfl ⟨fun c => ?_, fun c => ?_⟩
  · have h := h.1 c
    refine wp_s hT 1 (i' := 5) (L' := [some (.ref 1), some (.int x1), some (.int x2), none]) (st' := [.int (nI 4294967293)]) rfl ?_
    exact wp_ri hT rfl rfl ⟨_, rfl, h⟩
  · have h := h.2 c
    refine wp_s hT 4 (i' := 10) (L' := [some (.ref 1), some (.int x1), some (.int x2), none]) (st' := [.int x1, .ref 35]) rfl ?_
    refine wp_aald hT rfl rfl ⟨by decide, by decide⟩ ⟨h.1, ?_⟩
    have h := h.2
    have h := h _ rfl
    refine wp_s hT 2 (i' := 13) (L' := [some (.ref 1), some (.int x1), some (.int x2), some (.ref (rvT 35 x1.toNatClampNeg))]) (st' := [.int x2]) rfl ?_
    refine wp_if_ne hT rfl ⟨fun c => ?_, fun c => ?_⟩
    · have h := h.1 c
      refine wp_s hT 1 (i' := 15) (L' := [some (.ref 1), some (.int x1), some (.int x2), some (.ref (rvT 35 x1.toNatClampNeg))]) (st' := [.ref (rvT 35 x1.toNatClampNeg)]) rfl ?_
      refine wp_geti hT rfl h.1 ⟨by decide, by decide⟩ ?_
      have h := h.2
      refine wp_calli hT rfl rfl h (fun r5 iv4 h => ?_)
      exact wp_ri hT rfl rfl ⟨_, rfl, h⟩
    · have h := h.2 c
      refine wp_s hT 1 (i' := 19) (L' := [some (.ref 1), some (.int x1), some (.int x2), some (.ref (rvT 35 x1.toNatClampNeg))]) (st' := [.ref (rvT 35 x1.toNatClampNeg)]) rfl ?_
      refine wp_geti hT rfl h.1 ⟨by decide, by decide⟩ ?_
      have h := h.2
      refine wp_s hT 1 (i' := 21) (L' := [some (.ref 1), some (.int x1), some (.int x2), some (.ref (rvT 35 x1.toNatClampNeg))]) (st' := [.int (nI 4294967295), .int (iv1 (rvT 35 x1.toNatClampNeg) 3)]) rfl ?_
      refine wp_ic_ne hT rfl ⟨fun c => ?_, fun c => ?_⟩
      · have h := h.1 c
        refine wp_s hT 1 (i' := 23) (L' := [some (.ref 1), some (.int x1), some (.int x2), some (.ref (rvT 35 x1.toNatClampNeg))]) (st' := [.int (nI 4294967295)]) rfl ?_
        exact wp_ri hT rfl rfl ⟨_, rfl, h⟩
      · have h := h.2 c
        refine wp_s hT 2 (i' := 26) (L' := [some (.ref 1), some (.int x1), some (.int x2), some (.ref (rvT 35 x1.toNatClampNeg))]) (st' := [.int (nI 1), .int x2]) rfl ?_
        refine wp_ic_ne hT rfl ⟨fun c => ?_, fun c => ?_⟩
        · have h := h.1 c
          refine wp_s hT 1 (i' := 28) (L' := [some (.ref 1), some (.int x1), some (.int x2), some (.ref (rvT 35 x1.toNatClampNeg))]) (st' := [.ref (rvT 35 x1.toNatClampNeg)]) rfl ?_
          refine wp_geti hT rfl h.1 ⟨by decide, by decide⟩ ?_
          have h := h.2
          refine wp_s hT 1 (i' := 39) (L' := [some (.ref 1), some (.int x1), some (.int x2), some (.ref (rvT 35 x1.toNatClampNeg))]) (st' := [.int (iv1 (rvT 35 x1.toNatClampNeg) 3)]) rfl ?_
          exact wp_ri hT rfl rfl ⟨_, rfl, h⟩
        · have h := h.2 c
          refine wp_s hT 2 (i' := 32) (L' := [some (.ref 1), some (.int x1), some (.int x2), some (.ref (rvT 35 x1.toNatClampNeg))]) (st' := [.ref 34]) rfl ?_
          refine wp_calli hT rfl rfl h (fun r7 iv6 h => ?_)
          refine wp_calli hT rfl rfl h (fun r9 iv8 h => ?_)
          refine wp_s hT 2 (i' := 36) (L' := [some (.ref 1), some (.int x1), some (.int x2), some (.ref (rvT 35 x1.toNatClampNeg))]) (st' := [.ref (rvT 35 x1.toNatClampNeg), .ref (rvT 35 x1.toNatClampNeg), .int r9]) rfl ?_
          refine wp_geti hT rfl h.1 ⟨by decide, by decide⟩ ?_
          have h := h.2
          refine wp_calli hT rfl (mm_cl_of (c6 := 0) (c7 := 0) (f5 := 0) (f6 := 0) rfl rfl rfl rfl rfl rfl h.1 rfl rfl (Nat.le_of_ble_eq_true rfl) (Nat.le_of_ble_eq_true rfl) (Nat.le_of_ble_eq_true rfl) (Nat.zero_le _) (Nat.zero_le _)) h.2 (fun r11 iv10 h => ?_)
          refine wp_s hT 1 (i' := 39) (L' := [some (.ref 1), some (.int x1), some (.int x2), some (.ref (rvT 35 x1.toNatClampNeg))]) (st' := [.int (r9 - r11)]) rfl ?_
          exact wp_ri hT rfl rfl ⟨_, rfl, h⟩

theorem mk_X10_mendedNow {X : Nat × (Nat → Int32)} {x1 : Int32} {x2 : Int32} {iv : IV} {P : Int32 → IV → Prop}
    (h : wc X 39 [.ref 34] iv (Ri (fun r2 iv1 => ((r2 = 0 → P (nI 4294967293) iv1) ∧ (¬ (r2 = 0) → vp_in x1 3 ∧ ∀ a3 : Nat, a3 = rvT 35 x1.toNatClampNeg → kdT a3 = (10, 0) ∧ (((iv1 a3 3) = (nI 4294967295) → P (nI 4294967295) iv1) ∧ (¬ ((iv1 a3 3) = (nI 4294967295)) → kdT a3 = (10, 0) ∧ kdT (rvT a3 1) = (1, 14) ∧ vp_in x2 14 ∧ P (iv1 (rvT a3 1) x2.toNatClampNeg) iv1))))))) :
    wc X 106 [.ref 1, .int x1, .int x2] iv (Ri P) := by
  have hT := tb_106
  show wp X (0, 0) 106 0 [some (.ref 1), some (.int x1), some (.int x2), none] [] iv (Ri P)
  refine wp_s hT 2 (i' := 2) (L' := [some (.ref 1), some (.int x1), some (.int x2), none]) (st' := [.ref 34]) rfl ?_
  refine wp_calli hT rfl rfl h (fun r2 iv1 h => ?_)
  refine wp_if_ne hT rfl ⟨fun c => ?_, fun c => ?_⟩
  · have h := h.1 c
    refine wp_s hT 1 (i' := 5) (L' := [some (.ref 1), some (.int x1), some (.int x2), none]) (st' := [.int (nI 4294967293)]) rfl ?_
    exact wp_ri hT rfl rfl ⟨_, rfl, h⟩
  · have h := h.2 c
    refine wp_s hT 4 (i' := 10) (L' := [some (.ref 1), some (.int x1), some (.int x2), none]) (st' := [.int x1, .ref 35]) rfl ?_
    refine wp_aald hT rfl rfl ⟨by decide, by decide⟩ ⟨h.1, ?_⟩
    have h := h.2
    have h := h _ rfl
    refine wp_s hT 2 (i' := 13) (L' := [some (.ref 1), some (.int x1), some (.int x2), some (.ref (rvT 35 x1.toNatClampNeg))]) (st' := [.ref (rvT 35 x1.toNatClampNeg)]) rfl ?_
    refine wp_geti hT rfl h.1 ⟨by decide, by decide⟩ ?_
    have h := h.2
    refine wp_s hT 1 (i' := 15) (L' := [some (.ref 1), some (.int x1), some (.int x2), some (.ref (rvT 35 x1.toNatClampNeg))]) (st' := [.int (nI 4294967295), .int (iv1 (rvT 35 x1.toNatClampNeg) 3)]) rfl ?_
    refine wp_ic_ne hT rfl ⟨fun c => ?_, fun c => ?_⟩
    · have h := h.1 c
      refine wp_s hT 2 (i' := 22) (L' := [some (.ref 1), some (.int x1), some (.int x2), some (.ref (rvT 35 x1.toNatClampNeg))]) (st' := [.int (nI 4294967295)]) rfl ?_
      exact wp_ri hT rfl rfl ⟨_, rfl, h⟩
    · have h := h.2 c
      refine wp_s hT 1 (i' := 19) (L' := [some (.ref 1), some (.int x1), some (.int x2), some (.ref (rvT 35 x1.toNatClampNeg))]) (st' := [.ref (rvT 35 x1.toNatClampNeg)]) rfl ?_
      refine wp_getr hT rfl h.1 ⟨by decide, by decide⟩ ?_
      have h := h.2
      refine wp_s hT 1 (i' := 21) (L' := [some (.ref 1), some (.int x1), some (.int x2), some (.ref (rvT 35 x1.toNatClampNeg))]) (st' := [.int x2, .ref (rvT (rvT 35 x1.toNatClampNeg) 1)]) rfl ?_
      refine wp_iald hT rfl h.1 ⟨h.2.1, ?_⟩
      have h := h.2.2
      exact wp_ri hT rfl rfl ⟨_, rfl, h⟩

theorem mk_X10_strawNow {X : Nat × (Nat → Int32)} {x1 : Int32} {iv : IV} {P : Int32 → IV → Prop}
    (h : (((iv 48 0) = (nI 4294967295) → P (nI 4294967295) iv) ∧ (¬ ((iv 48 0) = (nI 4294967295)) → ((x1 = 0 → P ((iv 48 0) / (nI 15)) iv) ∧ (¬ (x1 = 0) → P ((iv 48 0) - (iv 48 0) / (nI 15) * (nI 15)) iv))))) :
    wc X 107 [.ref 1, .int x1] iv (Ri P) := by
  have hT := tb_107
  show wp X (0, 0) 107 0 [some (.ref 1), some (.int x1)] [] iv (Ri P)
  refine wp_s hT 4 (i' := 4) (L' := [some (.ref 1), some (.int x1)]) (st' := [.int (nI 4294967295), .int (iv 48 0)]) rfl ?_
  refine wp_ic_ne hT rfl ⟨fun c => ?_, fun c => ?_⟩
  · have h := h.1 c
    refine wp_s hT 1 (i' := 6) (L' := [some (.ref 1), some (.int x1)]) (st' := [.int (nI 4294967295)]) rfl ?_
    exact wp_ri hT rfl rfl ⟨_, rfl, h⟩
  · have h := h.2 c
    refine wp_s hT 1 (i' := 8) (L' := [some (.ref 1), some (.int x1)]) (st' := [.int x1]) rfl ?_
    refine wp_if_ne hT rfl ⟨fun c => ?_, fun c => ?_⟩
    · have h := h.1 c
      refine wp_s hT 6 (i' := 20) (L' := [some (.ref 1), some (.int x1)]) (st' := [.int ((iv 48 0) / (nI 15))]) rfl ?_
      exact wp_ri hT rfl rfl ⟨_, rfl, h⟩
    · have h := h.2 c
      refine wp_s hT 5 (i' := 20) (L' := [some (.ref 1), some (.int x1)]) (st' := [.int ((iv 48 0) - (iv 48 0) / (nI 15) * (nI 15))]) rfl ?_
      exact wp_ri hT rfl rfl ⟨_, rfl, h⟩

theorem mk_X10_countNow {X : Nat × (Nat → Int32)} {x1 : Int32} {iv : IV} {P : Int32 → IV → Prop}
    (h : ((x1 = nI 0 → P (iv 2 2) iv) ∧ (x1 = nI 1 → P (iv 21 0) iv) ∧ (x1 = nI 2 → P (iv 21 2) iv) ∧ (x1 = nI 3 → P (iv 34 0) iv) ∧ (x1 = nI 4 → wc X 116 [.ref 7] iv (Ri (fun r2 iv1 => P r2 iv1))) ∧ (x1 = nI 5 → wc X 116 [.ref 8] iv (Ri (fun r4 iv3 => P r4 iv3))) ∧ (x1 = nI 6 → P (iv 6 2) iv) ∧ (x1 = nI 7 → P (iv 21 3) iv) ∧ (¬ vp_in x1 8 → P (iv 1 9) iv))) :
    wc X 108 [.ref 1, .int x1] iv (Ri P) := by
  have hT := tb_108
  show wp X (0, 0) 108 0 [some (.ref 1), some (.int x1)] [] iv (Ri P)
  refine wp_s hT 1 (i' := 1) (L' := [some (.ref 1), some (.int x1)]) (st' := [.int x1]) rfl ?_
  by_cases hx : vp_in x1 8
  · obtain ⟨k, hk, ek⟩ := vp_in_of hx (by decide)
    match k, hk, ek with
    | 0, _, ek =>
      refine wp_sw hT rfl (i' := 2) (st' := []) (by rw [ek]; rfl) ?_
      have h := h.1 ek
      refine wp_s hT 3 (i' := 5) (L' := [some (.ref 1), some (.int x1)]) (st' := [.int (iv 2 2)]) rfl ?_
      exact wp_ri hT rfl rfl ⟨_, rfl, h⟩
    | 1, _, ek =>
      refine wp_sw hT rfl (i' := 6) (st' := []) (by rw [ek]; rfl) ?_
      have h := h.2.1 ek
      refine wp_s hT 3 (i' := 9) (L' := [some (.ref 1), some (.int x1)]) (st' := [.int (iv 21 0)]) rfl ?_
      exact wp_ri hT rfl rfl ⟨_, rfl, h⟩
    | 2, _, ek =>
      refine wp_sw hT rfl (i' := 10) (st' := []) (by rw [ek]; rfl) ?_
      have h := h.2.2.1 ek
      refine wp_s hT 3 (i' := 13) (L' := [some (.ref 1), some (.int x1)]) (st' := [.int (iv 21 2)]) rfl ?_
      exact wp_ri hT rfl rfl ⟨_, rfl, h⟩
    | 3, _, ek =>
      refine wp_sw hT rfl (i' := 14) (st' := []) (by rw [ek]; rfl) ?_
      have h := h.2.2.2.1 ek
      refine wp_s hT 3 (i' := 17) (L' := [some (.ref 1), some (.int x1)]) (st' := [.int (iv 34 0)]) rfl ?_
      exact wp_ri hT rfl rfl ⟨_, rfl, h⟩
    | 4, _, ek =>
      refine wp_sw hT rfl (i' := 18) (st' := []) (by rw [ek]; rfl) ?_
      have h := h.2.2.2.2.1 ek
      refine wp_s hT 3 (i' := 21) (L' := [some (.ref 1), some (.int x1)]) (st' := [.ref 7]) rfl ?_
      refine wp_calli hT rfl rfl h (fun r2 iv1 h => ?_)
      exact wp_ri hT rfl rfl ⟨_, rfl, h⟩
    | 5, _, ek =>
      refine wp_sw hT rfl (i' := 23) (st' := []) (by rw [ek]; rfl) ?_
      have h := h.2.2.2.2.2.1 ek
      refine wp_s hT 3 (i' := 26) (L' := [some (.ref 1), some (.int x1)]) (st' := [.ref 8]) rfl ?_
      refine wp_calli hT rfl rfl h (fun r4 iv3 h => ?_)
      exact wp_ri hT rfl rfl ⟨_, rfl, h⟩
    | 6, _, ek =>
      refine wp_sw hT rfl (i' := 28) (st' := []) (by rw [ek]; rfl) ?_
      have h := h.2.2.2.2.2.2.1 ek
      refine wp_s hT 3 (i' := 31) (L' := [some (.ref 1), some (.int x1)]) (st' := [.int (iv 6 2)]) rfl ?_
      exact wp_ri hT rfl rfl ⟨_, rfl, h⟩
    | 7, _, ek =>
      refine wp_sw hT rfl (i' := 32) (st' := []) (by rw [ek]; rfl) ?_
      have h := h.2.2.2.2.2.2.2.1 ek
      refine wp_s hT 3 (i' := 35) (L' := [some (.ref 1), some (.int x1)]) (st' := [.int (iv 21 3)]) rfl ?_
      exact wp_ri hT rfl rfl ⟨_, rfl, h⟩
    | k + 8, hk, _ => exact absurd hk (by omega)
  · refine wp_sw hT rfl (i' := 36) (st' := []) (mm_sw_d hx rfl rfl) ?_
    have h := h.2.2.2.2.2.2.2.2 hx
    refine wp_s hT 2 (i' := 38) (L' := [some (.ref 1), some (.int x1)]) (st' := [.int (iv 1 9)]) rfl ?_
    exact wp_ri hT rfl rfl ⟨_, rfl, h⟩

theorem mk_X10_bring_46 {X : Nat × (Nat → Int32)} {x1 : Int32} {iv : IV} {P : IV → Prop}
    (h : ((x1 < (nI 2) → P iv) ∧ (¬ (x1 < (nI 2)) → (((iv 1 10) = (nI 2) → wc X 51 [.ref 48, .ref 34, .ref 21, .ref 6, .ref 10, .ref 14] iv (Rv (fun iv1 => ∀ iv2 : IV, iv2 = mm_up2 iv1 1 10 (nI 3) → P iv2))) ∧ (¬ ((iv 1 10) = (nI 2)) → P iv))))) :
    wp X (0, 0) 109 46 [some (.ref 1), some (.int x1)] [] iv (Rv P) := by
  have hT := tb_109
  refine wp_s hT 2 (i' := 48) (L' := [some (.ref 1), some (.int x1)]) (st' := [.int (nI 2), .int x1]) rfl ?_
  refine wp_ic_lt hT rfl ⟨fun c => ?_, fun c => ?_⟩
  · have h := h.1 c
    exact wp_rv hT rfl rfl ⟨rfl, h⟩
  · have h := h.2 c
    refine wp_s hT 3 (i' := 52) (L' := [some (.ref 1), some (.int x1)]) (st' := [.int (nI 2), .int (iv 1 10)]) rfl ?_
    refine wp_ic_ne hT rfl ⟨fun c => ?_, fun c => ?_⟩
    · have h := h.1 c
      refine wp_s hT 12 (i' := 65) (L' := [some (.ref 1), some (.int x1)]) (st' := [.ref 14, .ref 10, .ref 6, .ref 21, .ref 34, .ref 48]) rfl ?_
      refine wp_callv hT rfl rfl h (fun iv1 h => ?_)
      refine wp_s hT 2 (i' := 68) (L' := [some (.ref 1), some (.int x1)]) (st' := [.int (nI 3), .ref 1]) rfl ?_
      refine wp_puti hT rfl rfl ⟨by decide, by decide⟩ ?_
      have h := h _ rfl
      exact wp_rv hT rfl rfl ⟨rfl, h⟩
    · have h := h.2 c
      exact wp_rv hT rfl rfl ⟨rfl, h⟩

theorem mk_X10_bring_18 {X : Nat × (Nat → Int32)} {x1 : Int32} {iv : IV} {P : IV → Prop}
    (h : ((x1 < (nI 1) → wp X (0, 0) 109 46 [some (.ref 1), some (.int x1)] [] iv (Rv P)) ∧ (¬ (x1 < (nI 1)) → (((iv 1 10) = (nI 1) → wc X 36 [.ref 34, .ref 21, .ref 6, .int (nI 4294967295)] iv (Rv (fun iv1 => wc X 37 [.ref 34] iv1 (Rv (fun iv2 => wc X 38 [.ref 34, .ref 10, .ref 14] iv2 (Rv (fun iv3 => ∀ iv4 : IV, iv4 = mm_up2 iv3 1 10 (nI 2) → wp X (0, 0) 109 46 [some (.ref 1), some (.int x1)] [] iv4 (Rv P)))))))) ∧ (¬ ((iv 1 10) = (nI 1)) → wp X (0, 0) 109 46 [some (.ref 1), some (.int x1)] [] iv (Rv P)))))) :
    wp X (0, 0) 109 18 [some (.ref 1), some (.int x1)] [] iv (Rv P) := by
  have hT := tb_109
  refine wp_s hT 2 (i' := 20) (L' := [some (.ref 1), some (.int x1)]) (st' := [.int (nI 1), .int x1]) rfl ?_
  refine wp_ic_lt hT rfl ⟨fun c => ?_, fun c => ?_⟩
  · have h := h.1 c
    exact h
  · have h := h.2 c
    refine wp_s hT 3 (i' := 24) (L' := [some (.ref 1), some (.int x1)]) (st' := [.int (nI 1), .int (iv 1 10)]) rfl ?_
    refine wp_ic_ne hT rfl ⟨fun c => ?_, fun c => ?_⟩
    · have h := h.1 c
      refine wp_s hT 7 (i' := 32) (L' := [some (.ref 1), some (.int x1)]) (st' := [.int (nI 4294967295), .ref 6, .ref 21, .ref 34]) rfl ?_
      refine wp_callv hT rfl rfl h (fun iv1 h => ?_)
      refine wp_s hT 2 (i' := 35) (L' := [some (.ref 1), some (.int x1)]) (st' := [.ref 34]) rfl ?_
      refine wp_callv hT rfl rfl h (fun iv2 h => ?_)
      refine wp_s hT 6 (i' := 42) (L' := [some (.ref 1), some (.int x1)]) (st' := [.ref 14, .ref 10, .ref 34]) rfl ?_
      refine wp_callv hT rfl rfl h (fun iv3 h => ?_)
      refine wp_s hT 2 (i' := 45) (L' := [some (.ref 1), some (.int x1)]) (st' := [.int (nI 2), .ref 1]) rfl ?_
      refine wp_puti hT rfl rfl ⟨by decide, by decide⟩ ?_
      have h := h _ rfl
      exact h
    · have h := h.2 c
      exact h

theorem mk_X10_bring {X : Nat × (Nat → Int32)} {x1 : Int32} {iv : IV} {P : IV → Prop}
    (h : ((iv 1 10 = 0 → wc X 60 [.ref 4] iv (Ri (fun r2 iv1 => wc X 13 [.ref 21, .ref 2, .int r2, .ref 10, .ref 14] iv1 (Rv (fun iv3 => ∀ iv4 : IV, iv4 = mm_up2 iv3 1 10 (nI 1) → wp X (0, 0) 109 18 [some (.ref 1), some (.int x1)] [] iv4 (Rv P)))))) ∧ (¬ (iv 1 10 = 0) → wp X (0, 0) 109 18 [some (.ref 1), some (.int x1)] [] iv (Rv P)))) :
    wc X 109 [.ref 1, .int x1] iv (Rv P) := by
  have hT := tb_109
  show wp X (0, 0) 109 0 [some (.ref 1), some (.int x1)] [] iv (Rv P)
  refine wp_s hT 2 (i' := 2) (L' := [some (.ref 1), some (.int x1)]) (st' := [.int (iv 1 10)]) rfl ?_
  refine wp_if_ne hT rfl ⟨fun c => ?_, fun c => ?_⟩
  · have h := h.1 c
    refine wp_s hT 6 (i' := 9) (L' := [some (.ref 1), some (.int x1)]) (st' := [.ref 4, .ref 2, .ref 21]) rfl ?_
    refine wp_calli hT rfl rfl h (fun r2 iv1 h => ?_)
    refine wp_s hT 4 (i' := 14) (L' := [some (.ref 1), some (.int x1)]) (st' := [.ref 14, .ref 10, .int r2, .ref 2, .ref 21]) rfl ?_
    refine wp_callv hT rfl rfl h (fun iv3 h => ?_)
    refine wp_s hT 2 (i' := 17) (L' := [some (.ref 1), some (.int x1)]) (st' := [.int (nI 1), .ref 1]) rfl ?_
    refine wp_puti hT rfl rfl ⟨by decide, by decide⟩ ?_
    have h := h _ rfl
    exact h
  · have h := h.2 c
    exact h

theorem mk_X10_damageChanged {X : Nat × (Nat → Int32)}  {iv : IV} {P : IV → Prop}
    (h : wc X 224 [.int (iv 1 10), .int (nI 1)] iv (Ri (fun r2 iv1 => ∀ iv3 : IV, iv3 = mm_up2 iv1 1 10 r2 → P iv3))) :
    wc X 110 [.ref 1] iv (Rv P) := by
  have hT := tb_110
  show wp X (0, 0) 110 0 [some (.ref 1)] [] iv (Rv P)
  refine wp_s hT 4 (i' := 4) (L' := [some (.ref 1)]) (st' := [.int (nI 1), .int (iv 1 10), .ref 1]) rfl ?_
  refine wp_calli hT rfl rfl h (fun r2 iv1 h => ?_)
  refine wp_puti hT rfl rfl ⟨by decide, by decide⟩ ?_
  have h := h _ rfl
  exact wp_rv hT rfl rfl ⟨rfl, h⟩

theorem mk_X10_typedBy {X : Nat × (Nat → Int32)} {x1 : Int32} {iv : IV} {P : Nat → IV → Prop}
    (h : ((x1 = 0 → P 2 iv) ∧ (¬ (x1 = 0) → P 4 iv))) :
    wc X 111 [.ref 1, .int x1] iv (Rr P) := by
  have hT := tb_111
  show wp X (0, 0) 111 0 [some (.ref 1), some (.int x1)] [] iv (Rr P)
  refine wp_s hT 1 (i' := 1) (L' := [some (.ref 1), some (.int x1)]) (st' := [.int x1]) rfl ?_
  refine wp_if_ne hT rfl ⟨fun c => ?_, fun c => ?_⟩
  · have h := h.1 c
    refine wp_s hT 3 (i' := 7) (L' := [some (.ref 1), some (.int x1)]) (st' := [.ref 2]) rfl ?_
    exact wp_ret hT rfl rfl ⟨_, rfl, h⟩
  · have h := h.2 c
    refine wp_s hT 2 (i' := 7) (L' := [some (.ref 1), some (.int x1)]) (st' := [.ref 4]) rfl ?_
    exact wp_ret hT rfl rfl ⟨_, rfl, h⟩

theorem mk_X10_found {X : Nat × (Nat → Int32)} {x1 : Int32} {iv : IV} {P : Int32 → IV → Prop}
    (h : ∀ iv1 : IV, iv1 = mm_up2 iv 1 9 x1 → P ((nI 4294967286) - x1) iv1) :
    wc X 112 [.ref 1, .int x1] iv (Ri P) := by
  have hT := tb_112
  show wp X (0, 0) 112 0 [some (.ref 1), some (.int x1)] [] iv (Ri P)
  refine wp_s hT 2 (i' := 2) (L' := [some (.ref 1), some (.int x1)]) (st' := [.int x1, .ref 1]) rfl ?_
  refine wp_puti hT rfl rfl ⟨by decide, by decide⟩ ?_
  have h := h _ rfl
  refine wp_s hT 3 (i' := 6) (L' := [some (.ref 1), some (.int x1)]) (st' := [.int ((nI 4294967286) - x1)]) rfl ?_
  exact wp_ri hT rfl rfl ⟨_, rfl, h⟩

theorem mk_X10_within {X : Nat × (Nat → Int32)} {x0 : Int32} {x1 : Int32} {iv : IV} {P : Int32 → IV → Prop}
    (h : ((x0 < 0 → P (nI 0) iv) ∧ (¬ (x0 < 0) → ((x1 ≤ x0 → P (nI 0) iv) ∧ (¬ (x1 ≤ x0) → P (nI 1) iv))))) :
    wc X 113 [.int x0, .int x1] iv (Ri P) := by
  have hT := tb_113
  show wp X (0, 0) 113 0 [some (.int x0), some (.int x1)] [] iv (Ri P)
  refine wp_s hT 1 (i' := 1) (L' := [some (.int x0), some (.int x1)]) (st' := [.int x0]) rfl ?_
  refine wp_if_lt hT rfl ⟨fun c => ?_, fun c => ?_⟩
  · have h := h.1 c
    refine wp_s hT 1 (i' := 8) (L' := [some (.int x0), some (.int x1)]) (st' := [.int (nI 0)]) rfl ?_
    exact wp_rz hT rfl rfl ⟨Or.inl rfl, ⟨_, rfl, h⟩⟩
  · have h := h.2 c
    refine wp_s hT 2 (i' := 4) (L' := [some (.int x0), some (.int x1)]) (st' := [.int x1, .int x0]) rfl ?_
    refine wp_ic_ge hT rfl ⟨fun c => ?_, fun c => ?_⟩
    · have h := h.1 c
      refine wp_s hT 1 (i' := 8) (L' := [some (.int x0), some (.int x1)]) (st' := [.int (nI 0)]) rfl ?_
      exact wp_rz hT rfl rfl ⟨Or.inl rfl, ⟨_, rfl, h⟩⟩
    · have h := h.2 c
      refine wp_s hT 2 (i' := 8) (L' := [some (.int x0), some (.int x1)]) (st' := [.int (nI 1)]) rfl ?_
      exact wp_rz hT rfl rfl ⟨Or.inr rfl, ⟨_, rfl, h⟩⟩

theorem mk_X10_isDot {X : Nat × (Nat → Int32)} {x0 : Int32} {x1 : Int32} {iv : IV} {P : Int32 → IV → Prop}
    (h : wc X 113 [.int x0, .int (nI 15)] iv (Ri (fun r2 iv1 => ((r2 = 0 → P (nI 0) iv1) ∧ (¬ (r2 = 0) → wc X 113 [.int x1, .int (nI 15)] iv1 (Ri (fun r4 iv3 => ((r4 = 0 → P (nI 0) iv3) ∧ (¬ (r4 = 0) → P (nI 1) iv3))))))))) :
    wc X 114 [.int x0, .int x1] iv (Ri P) := by
  have hT := tb_114
  show wp X (0, 0) 114 0 [some (.int x0), some (.int x1)] [] iv (Ri P)
  refine wp_s hT 2 (i' := 2) (L' := [some (.int x0), some (.int x1)]) (st' := [.int (nI 15), .int x0]) rfl ?_
  refine wp_calli hT rfl rfl h (fun r2 iv1 h => ?_)
  refine wp_if_eq hT rfl ⟨fun c => ?_, fun c => ?_⟩
  · have h := h.1 c
    refine wp_s hT 1 (i' := 11) (L' := [some (.int x0), some (.int x1)]) (st' := [.int (nI 0)]) rfl ?_
    exact wp_rz hT rfl rfl ⟨Or.inl rfl, ⟨_, rfl, h⟩⟩
  · have h := h.2 c
    refine wp_s hT 2 (i' := 6) (L' := [some (.int x0), some (.int x1)]) (st' := [.int (nI 15), .int x1]) rfl ?_
    refine wp_calli hT rfl rfl h (fun r4 iv3 h => ?_)
    refine wp_if_eq hT rfl ⟨fun c => ?_, fun c => ?_⟩
    · have h := h.1 c
      refine wp_s hT 1 (i' := 11) (L' := [some (.int x0), some (.int x1)]) (st' := [.int (nI 0)]) rfl ?_
      exact wp_rz hT rfl rfl ⟨Or.inl rfl, ⟨_, rfl, h⟩⟩
    · have h := h.2 c
      refine wp_s hT 2 (i' := 11) (L' := [some (.int x0), some (.int x1)]) (st' := [.int (nI 1)]) rfl ?_
      exact wp_rz hT rfl rfl ⟨Or.inr rfl, ⟨_, rfl, h⟩⟩

theorem mk_X10_bit {X : Nat × (Nat → Int32)} {x0 : Int32} {x1 : Int32} {iv : IV} {P : Int32 → IV → Prop}
    (h : P ((x0 >>> (x1 &&& 31)) &&& (nI 1)) iv) :
    wc X 115 [.int x0, .int x1] iv (Ri P) := by
  have hT := tb_115
  show wp X (0, 0) 115 0 [some (.int x0), some (.int x1)] [] iv (Ri P)
  refine wp_s hT 5 (i' := 5) (L' := [some (.int x0), some (.int x1)]) (st' := [.int ((x0 >>> (x1 &&& 31)) &&& (nI 1))]) rfl ?_
  exact wp_ri hT rfl rfl ⟨_, rfl, h⟩

theorem mk_X10_dotsIn_9 {X : Nat × (Nat → Int32)} {x1 : Int32} {r0 : Nat} {x3 : Int32} {x4 : Int32} {iv : IV} {P : Int32 → IV → Prop} (k0 : kdT r0 = (1, 15))
    (h : ((x3 ≤ x4 → P x1 iv) ∧ (¬ (x3 ≤ x4) → vp_in x4 15 ∧ ∀ v1 : Int32, v1 = iv r0 x4.toNatClampNeg → wc X 220 [.int v1] iv (Ri (fun r3 iv2 => wp X (0, 0) 116 9 [none, some (.int (x1 + r3)), some (.ref r0), some (.int x3), some (.int (x4 + nI 1)), none] [] iv2 (Ri P)))))) :
    wp X (0, 0) 116 9 [none, some (.int x1), some (.ref r0), some (.int x3), some (.int x4), none] [] iv (Ri P) := by
  have hT := tb_116
  refine wp_s hT 2 (i' := 11) (L' := [none, some (.int x1), some (.ref r0), some (.int x3), some (.int x4), none]) (st' := [.int x3, .int x4]) rfl ?_
  refine wp_ic_ge hT rfl ⟨fun c => ?_, fun c => ?_⟩
  · have h := h.1 c
    refine wp_s hT 1 (i' := 24) (L' := [none, some (.int x1), some (.ref r0), some (.int x3), some (.int x4), none]) (st' := [.int x1]) rfl ?_
    exact wp_ri hT rfl rfl ⟨_, rfl, h⟩
  · have h := h.2 c
    refine wp_s hT 2 (i' := 14) (L' := [none, some (.int x1), some (.ref r0), some (.int x3), some (.int x4), none]) (st' := [.int x4, .ref r0]) rfl ?_
    refine wp_iald hT rfl k0 ⟨h.1, ?_⟩
    have h := h.2
    refine wp_s hT 1 (i' := 16) (L' := [none, some (.int x1), some (.ref r0), some (.int x3), some (.int x4), some (.int (iv r0 x4.toNatClampNeg))]) (st' := []) rfl ?_
    have h := h _ rfl
    refine wp_s hT 2 (i' := 18) (L' := [none, some (.int x1), some (.ref r0), some (.int x3), some (.int x4), some (.int (iv r0 x4.toNatClampNeg))]) (st' := [.int (iv r0 x4.toNatClampNeg), .int x1]) rfl ?_
    refine wp_calli hT rfl rfl h (fun r3 iv2 h => ?_)
    refine wp_s hT 4 (i' := 9) (L' := [none, some (.int (x1 + r3)), some (.ref r0), some (.int x3), some (.int (x4 + nI 1)), some (.int (iv r0 x4.toNatClampNeg))]) (st' := []) rfl ?_
    refine wp_le (L := [none, some (.int (x1 + r3)), some (.ref r0), some (.int x3), some (.int (x4 + nI 1)), none]) ⟨Or.inl rfl, Or.inl rfl, Or.inl rfl, Or.inl rfl, Or.inl rfl, Or.inr ⟨rfl, rfl⟩, trivial⟩ ?_
    exact h

theorem mk_X10_dotsIn {X : Nat × (Nat → Int32)} {r0 : Nat} {iv : IV} {P : Int32 → IV → Prop} (k0 : kdT r0 = (1, 15))
    (h : wp X (0, 0) 116 9 [none, some (.int (nI 0)), some (.ref r0), some (.int (nI 15)), some (.int (nI 0)), none] [] iv (Ri P)) :
    wc X 116 [.ref r0] iv (Ri P) := by
  have hT := tb_116
  show wp X (0, 0) 116 0 [some (.ref r0), none, none, none, none, none] [] iv (Ri P)
  refine wp_s hT 5 (i' := 5) (L' := [some (.ref r0), some (.int (nI 0)), some (.ref r0), none, none, none]) (st' := [.ref r0]) rfl ?_
  refine wp_alen hT rfl k0 ⟨by decide, by decide⟩ ?_
  refine wp_s hT 3 (i' := 9) (L' := [some (.ref r0), some (.int (nI 0)), some (.ref r0), some (.int (nI 15)), some (.int (nI 0)), none]) (st' := []) rfl ?_
  refine wp_le (L := [none, some (.int (nI 0)), some (.ref r0), some (.int (nI 15)), some (.int (nI 0)), none]) ⟨Or.inr ⟨rfl, rfl⟩, Or.inl rfl, Or.inl rfl, Or.inl rfl, Or.inl rfl, Or.inl rfl, trivial⟩ ?_
  exact h

theorem mk_X10_checksOf {X : Nat × (Nat → Int32)} {x0 : Int32} {iv : IV} {P : Int32 → IV → Prop}
    (h : P ((nI 2) + ((nI 2) * x0)) iv) :
    wc X 117 [.int x0] iv (Ri P) := by
  have hT := tb_117
  show wp X (0, 0) 117 0 [some (.int x0)] [] iv (Ri P)
  refine wp_s hT 5 (i' := 5) (L' := [some (.int x0)]) (st' := [.int ((nI 2) + ((nI 2) * x0))]) rfl ?_
  exact wp_ri hT rfl rfl ⟨_, rfl, h⟩

theorem mk_X10_itemsOf {X : Nat × (Nat → Int32)} {x0 : Int32} {iv : IV} {P : Int32 → IV → Prop}
    (h : wc X 117 [.int x0] iv (Ri (fun r2 iv1 => P ((nI 14) - r2) iv1))) :
    wc X 118 [.int x0] iv (Ri P) := by
  have hT := tb_118
  show wp X (0, 0) 118 0 [some (.int x0)] [] iv (Ri P)
  refine wp_s hT 2 (i' := 2) (L' := [some (.int x0)]) (st' := [.int x0, .int (nI 14)]) rfl ?_
  refine wp_calli hT rfl rfl h (fun r2 iv1 h => ?_)
  refine wp_s hT 1 (i' := 4) (L' := [some (.int x0)]) (st' := [.int ((nI 14) - r2)]) rfl ?_
  exact wp_ri hT rfl rfl ⟨_, rfl, h⟩

theorem mk_X10_hasRoom {X : Nat × (Nat → Int32)} {x0 : Int32} {x1 : Int32} {iv : IV} {P : Int32 → IV → Prop}
    (h : (((nI 14) < x1 → P (nI 0) iv) ∧ (¬ ((nI 14) < x1) → wc X 118 [.int x0] iv (Ri (fun r2 iv1 => ((((nI 3) * r2) < ((nI 1) + ((nI 2) * x1)) → P (nI 0) iv1) ∧ (¬ (((nI 3) * r2) < ((nI 1) + ((nI 2) * x1))) → P (nI 1) iv1))))))) :
    wc X 119 [.int x0, .int x1] iv (Ri P) := by
  have hT := tb_119
  show wp X (0, 0) 119 0 [some (.int x0), some (.int x1)] [] iv (Ri P)
  refine wp_s hT 2 (i' := 2) (L' := [some (.int x0), some (.int x1)]) (st' := [.int (nI 14), .int x1]) rfl ?_
  refine wp_ic_gt hT rfl ⟨fun c => ?_, fun c => ?_⟩
  · have h := h.1 c
    refine wp_s hT 1 (i' := 16) (L' := [some (.int x0), some (.int x1)]) (st' := [.int (nI 0)]) rfl ?_
    exact wp_rz hT rfl rfl ⟨Or.inl rfl, ⟨_, rfl, h⟩⟩
  · have h := h.2 c
    refine wp_s hT 7 (i' := 10) (L' := [some (.int x0), some (.int x1)]) (st' := [.int x0, .int (nI 3), .int ((nI 1) + ((nI 2) * x1))]) rfl ?_
    refine wp_calli hT rfl rfl h (fun r2 iv1 h => ?_)
    refine wp_s hT 1 (i' := 12) (L' := [some (.int x0), some (.int x1)]) (st' := [.int ((nI 3) * r2), .int ((nI 1) + ((nI 2) * x1))]) rfl ?_
    refine wp_ic_gt hT rfl ⟨fun c => ?_, fun c => ?_⟩
    · have h := h.1 c
      refine wp_s hT 1 (i' := 16) (L' := [some (.int x0), some (.int x1)]) (st' := [.int (nI 0)]) rfl ?_
      exact wp_rz hT rfl rfl ⟨Or.inl rfl, ⟨_, rfl, h⟩⟩
    · have h := h.2 c
      refine wp_s hT 2 (i' := 16) (L' := [some (.int x0), some (.int x1)]) (st' := [.int (nI 1)]) rfl ?_
      exact wp_rz hT rfl rfl ⟨Or.inr rfl, ⟨_, rfl, h⟩⟩

theorem mk_X10_maskedDots_7 {X : Nat × (Nat → Int32)} {x0 : Int32} {x1 : Int32} {s0 : Int32} {iv : IV} {P : Int32 → IV → Prop}
    (h : ((x0 = nI 0 → vp_in x1 15 ∧ ((s0 = 0 → P (((mm_S X 0).2 x1.toNatClampNeg) &&& ((nI 21845) ^^^ (nI 4294967295))) iv) ∧ (¬ (s0 = 0) → P (((mm_S X 0).2 x1.toNatClampNeg) &&& (nI 21845)) iv))) ∧ (x0 = nI 1 → ((s0 = 0 → P (nI 0) iv) ∧ (¬ (s0 = 0) → vp_in x1 15 ∧ P ((mm_S X 0).2 x1.toNatClampNeg) iv))) ∧ (x0 = nI 2 → vp_in x1 15 ∧ P (((mm_S X 0).2 x1.toNatClampNeg) &&& (nI 4681)) iv) ∧ (¬ vp_in x0 3 → ((s0 = 0 → P (nI 0) iv) ∧ (¬ (s0 = 0) → vp_in x1 15 ∧ P (((mm_S X 0).2 x1.toNatClampNeg) &&& (nI 21845)) iv))))) :
    wp X (0, 0) 120 7 [some (.int x0), some (.int x1), none, none] [.int s0] iv (Ri P) := by
  have hT := tb_120
  refine wp_s hT 4 (i' := 11) (L' := [some (.int x0), some (.int x1), some (.int s0), some (.int (nI 21845))]) (st' := [.int x0]) rfl ?_
  by_cases hx : vp_in x0 3
  · obtain ⟨k, hk, ek⟩ := vp_in_of hx (by decide)
    match k, hk, ek with
    | 0, _, ek =>
      refine wp_sw hT rfl (i' := 12) (st' := []) (by rw [ek]; rfl) ?_
      have h := h.1 ek
      refine wp_s hT 2 (i' := 14) (L' := [some (.int x0), some (.int x1), some (.int s0), some (.int (nI 21845))]) (st' := [.int x1, .ref 1000000]) rfl ?_
      refine wp_tald (a := 0) hT rfl rfl (by decide) ⟨h.1, ?_⟩
      have h := h.2
      refine wp_s hT 1 (i' := 16) (L' := [some (.int x0), some (.int x1), some (.int s0), some (.int (nI 21845))]) (st' := [.int s0, .int ((mm_S X 0).2 x1.toNatClampNeg)]) rfl ?_
      refine wp_if_eq hT rfl ⟨fun c => ?_, fun c => ?_⟩
      · have h := h.1 c
        refine wp_s hT 4 (i' := 23) (L' := [some (.int x0), some (.int x1), some (.int s0), some (.int (nI 21845))]) (st' := [.int (((mm_S X 0).2 x1.toNatClampNeg) &&& ((nI 21845) ^^^ (nI 4294967295)))]) rfl ?_
        exact wp_ri hT rfl rfl ⟨_, rfl, h⟩
      · have h := h.2 c
        refine wp_s hT 3 (i' := 23) (L' := [some (.int x0), some (.int x1), some (.int s0), some (.int (nI 21845))]) (st' := [.int (((mm_S X 0).2 x1.toNatClampNeg) &&& (nI 21845))]) rfl ?_
        exact wp_ri hT rfl rfl ⟨_, rfl, h⟩
    | 1, _, ek =>
      refine wp_sw hT rfl (i' := 24) (st' := []) (by rw [ek]; rfl) ?_
      have h := h.2.1 ek
      refine wp_s hT 1 (i' := 25) (L' := [some (.int x0), some (.int x1), some (.int s0), some (.int (nI 21845))]) (st' := [.int s0]) rfl ?_
      refine wp_if_eq hT rfl ⟨fun c => ?_, fun c => ?_⟩
      · have h := h.1 c
        refine wp_s hT 1 (i' := 31) (L' := [some (.int x0), some (.int x1), some (.int s0), some (.int (nI 21845))]) (st' := [.int (nI 0)]) rfl ?_
        exact wp_ri hT rfl rfl ⟨_, rfl, h⟩
      · have h := h.2 c
        refine wp_s hT 2 (i' := 28) (L' := [some (.int x0), some (.int x1), some (.int s0), some (.int (nI 21845))]) (st' := [.int x1, .ref 1000000]) rfl ?_
        refine wp_tald (a := 0) hT rfl rfl (by decide) ⟨h.1, ?_⟩
        have h := h.2
        refine wp_s hT 1 (i' := 31) (L' := [some (.int x0), some (.int x1), some (.int s0), some (.int (nI 21845))]) (st' := [.int ((mm_S X 0).2 x1.toNatClampNeg)]) rfl ?_
        exact wp_ri hT rfl rfl ⟨_, rfl, h⟩
    | 2, _, ek =>
      refine wp_sw hT rfl (i' := 32) (st' := []) (by rw [ek]; rfl) ?_
      have h := h.2.2.1 ek
      refine wp_s hT 2 (i' := 34) (L' := [some (.int x0), some (.int x1), some (.int s0), some (.int (nI 21845))]) (st' := [.int x1, .ref 1000000]) rfl ?_
      refine wp_tald (a := 0) hT rfl rfl (by decide) ⟨h.1, ?_⟩
      have h := h.2
      refine wp_s hT 2 (i' := 37) (L' := [some (.int x0), some (.int x1), some (.int s0), some (.int (nI 21845))]) (st' := [.int (((mm_S X 0).2 x1.toNatClampNeg) &&& (nI 4681))]) rfl ?_
      exact wp_ri hT rfl rfl ⟨_, rfl, h⟩
    | k + 3, hk, _ => exact absurd hk (by omega)
  · refine wp_sw hT rfl (i' := 38) (st' := []) (mm_sw_d hx rfl rfl) ?_
    have h := h.2.2.2 hx
    refine wp_s hT 1 (i' := 39) (L' := [some (.int x0), some (.int x1), some (.int s0), some (.int (nI 21845))]) (st' := [.int s0]) rfl ?_
    refine wp_if_eq hT rfl ⟨fun c => ?_, fun c => ?_⟩
    · have h := h.1 c
      refine wp_s hT 1 (i' := 47) (L' := [some (.int x0), some (.int x1), some (.int s0), some (.int (nI 21845))]) (st' := [.int (nI 0)]) rfl ?_
      exact wp_ri hT rfl rfl ⟨_, rfl, h⟩
    · have h := h.2 c
      refine wp_s hT 2 (i' := 42) (L' := [some (.int x0), some (.int x1), some (.int s0), some (.int (nI 21845))]) (st' := [.int x1, .ref 1000000]) rfl ?_
      refine wp_tald (a := 0) hT rfl rfl (by decide) ⟨h.1, ?_⟩
      have h := h.2
      refine wp_s hT 3 (i' := 47) (L' := [some (.int x0), some (.int x1), some (.int s0), some (.int (nI 21845))]) (st' := [.int (((mm_S X 0).2 x1.toNatClampNeg) &&& (nI 21845))]) rfl ?_
      exact wp_ri hT rfl rfl ⟨_, rfl, h⟩

theorem mk_X10_maskedDots {X : Nat × (Nat → Int32)} {x0 : Int32} {x1 : Int32} {iv : IV} {P : Int32 → IV → Prop}
    (h : ((x1 - x1 / (nI 2) * (nI 2) = 0 → wp X (0, 0) 120 7 [some (.int x0), some (.int x1), none, none] [.int (nI 1)] iv (Ri P)) ∧ (¬ (x1 - x1 / (nI 2) * (nI 2) = 0) → wp X (0, 0) 120 7 [some (.int x0), some (.int x1), none, none] [.int (nI 0)] iv (Ri P)))) :
    wc X 120 [.int x0, .int x1] iv (Ri P) := by
  have hT := tb_120
  show wp X (0, 0) 120 0 [some (.int x0), some (.int x1), none, none] [] iv (Ri P)
  refine wp_s hT 3 (i' := 3) (L' := [some (.int x0), some (.int x1), none, none]) (st' := [.int (x1 - x1 / (nI 2) * (nI 2))]) rfl ?_
  refine wp_if_ne hT rfl ⟨fun c => ?_, fun c => ?_⟩
  · have h := h.1 c
    refine wp_s hT 2 (i' := 7) (L' := [some (.int x0), some (.int x1), none, none]) (st' := [.int (nI 1)]) rfl ?_
    exact h
  · have h := h.2 c
    refine wp_s hT 1 (i' := 7) (L' := [some (.int x0), some (.int x1), none, none]) (st' := [.int (nI 0)]) rfl ?_
    exact h
