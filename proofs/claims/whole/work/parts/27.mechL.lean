/-! what each method comes to, printed by wip/gen/mech.py -/
set_option maxRecDepth 100000 in
theorem mk_L_law_10 {X : Nat × (Nat → Int32)} {x3 : Int32} {iv : IV} {P : Int32 → IV → Prop}
    (h : ((((nI (mm_S X 4).1) - (nI 6)) < x3 → P (nI 1) iv) ∧ (¬ (((nI (mm_S X 4).1) - (nI 6)) < x3) → vp_in x3 (mm_S X 4).1 ∧ (((((mm_S X 4).2 x3.toNatClampNeg) &&& (nI 31)) = nI 0 → vp_in (x3 + (nI 1)) (mm_S X 4).1 ∧ vp_in (x3 + (nI 2)) (mm_S X 4).1 ∧ wc X 65 [.ref 1, .int ((mm_S X 4).2 (x3 + (nI 1)).toNatClampNeg), .int ((mm_S X 4).2 (x3 + (nI 2)).toNatClampNeg)] iv (Ri (fun r2 iv1 => vp_in (x3 + (nI 1)) (mm_S X 4).1 ∧ vp_in (x3 + (nI 2)) (mm_S X 4).1 ∧ wc X 143 [.ref 74, .int ((mm_S X 4).2 (x3 + (nI 1)).toNatClampNeg), .int ((mm_S X 4).2 (x3 + (nI 2)).toNatClampNeg)] iv1 (Ri (fun r4 iv3 => ((r2 = r4 → wp X (100, 3462) 225 10 [some (.ref 1000004), some (.ref 1), some (.ref 74), some (.int (x3 + nI 6))] [] iv3 (Ri P)) ∧ (¬ (r2 = r4) → P (nI 0) iv3))))))) ∧ ((((mm_S X 4).2 x3.toNatClampNeg) &&& (nI 31)) = nI 1 → vp_in (x3 + (nI 1)) (mm_S X 4).1 ∧ wc X 66 [.ref 1, .int ((mm_S X 4).2 (x3 + (nI 1)).toNatClampNeg)] iv (Ri (fun r6 iv5 => vp_in (x3 + (nI 1)) (mm_S X 4).1 ∧ wc X 144 [.ref 74, .int ((mm_S X 4).2 (x3 + (nI 1)).toNatClampNeg)] iv5 (Ri (fun r8 iv7 => ((r6 = r8 → wp X (100, 3462) 225 10 [some (.ref 1000004), some (.ref 1), some (.ref 74), some (.int (x3 + nI 6))] [] iv7 (Ri P)) ∧ (¬ (r6 = r8) → P (nI 0) iv7))))))) ∧ ((((mm_S X 4).2 x3.toNatClampNeg) &&& (nI 31)) = nI 2 → vp_in (x3 + (nI 1)) (mm_S X 4).1 ∧ wc X 67 [.ref 1, .int ((mm_S X 4).2 (x3 + (nI 1)).toNatClampNeg)] iv (Ri (fun r10 iv9 => vp_in (x3 + (nI 1)) (mm_S X 4).1 ∧ wc X 145 [.ref 74, .int ((mm_S X 4).2 (x3 + (nI 1)).toNatClampNeg)] iv9 (Ri (fun r12 iv11 => ((r10 = r12 → wp X (100, 3462) 225 10 [some (.ref 1000004), some (.ref 1), some (.ref 74), some (.int (x3 + nI 6))] [] iv11 (Ri P)) ∧ (¬ (r10 = r12) → P (nI 0) iv11))))))) ∧ ((((mm_S X 4).2 x3.toNatClampNeg) &&& (nI 31)) = nI 3 → wc X 68 [.ref 1] iv (Ri (fun r14 iv13 => wc X 150 [.ref 74] iv13 (Ri (fun r16 iv15 => ((r14 = r16 → wp X (100, 3462) 225 10 [some (.ref 1000004), some (.ref 1), some (.ref 74), some (.int (x3 + nI 6))] [] iv15 (Ri P)) ∧ (¬ (r14 = r16) → P (nI 0) iv15))))))) ∧ ((((mm_S X 4).2 x3.toNatClampNeg) &&& (nI 31)) = nI 4 → vp_in (x3 + (nI 1)) (mm_S X 4).1 ∧ wc X 69 [.ref 1, .int ((mm_S X 4).2 (x3 + (nI 1)).toNatClampNeg)] iv (Ri (fun r18 iv17 => vp_in (x3 + (nI 1)) (mm_S X 4).1 ∧ wc X 146 [.ref 74, .int ((mm_S X 4).2 (x3 + (nI 1)).toNatClampNeg)] iv17 (Ri (fun r20 iv19 => ((r18 = r20 → wp X (100, 3462) 225 10 [some (.ref 1000004), some (.ref 1), some (.ref 74), some (.int (x3 + nI 6))] [] iv19 (Ri P)) ∧ (¬ (r18 = r20) → P (nI 0) iv19))))))) ∧ ((((mm_S X 4).2 x3.toNatClampNeg) &&& (nI 31)) = nI 5 → vp_in (x3 + (nI 1)) (mm_S X 4).1 ∧ vp_in (x3 + (nI 2)) (mm_S X 4).1 ∧ vp_in (x3 + (nI 3)) (mm_S X 4).1 ∧ wc X 70 [.ref 1, .int ((mm_S X 4).2 (x3 + (nI 1)).toNatClampNeg), .int ((mm_S X 4).2 (x3 + (nI 2)).toNatClampNeg), .int ((mm_S X 4).2 (x3 + (nI 3)).toNatClampNeg)] iv (Ri (fun r22 iv21 => vp_in (x3 + (nI 1)) (mm_S X 4).1 ∧ vp_in (x3 + (nI 2)) (mm_S X 4).1 ∧ vp_in (x3 + (nI 3)) (mm_S X 4).1 ∧ wc X 142 [.ref 74, .int ((mm_S X 4).2 (x3 + (nI 1)).toNatClampNeg), .int ((mm_S X 4).2 (x3 + (nI 2)).toNatClampNeg), .int ((mm_S X 4).2 (x3 + (nI 3)).toNatClampNeg)] iv21 (Ri (fun r24 iv23 => ((r22 = r24 → wp X (100, 3462) 225 10 [some (.ref 1000004), some (.ref 1), some (.ref 74), some (.int (x3 + nI 6))] [] iv23 (Ri P)) ∧ (¬ (r22 = r24) → P (nI 0) iv23))))))) ∧ ((((mm_S X 4).2 x3.toNatClampNeg) &&& (nI 31)) = nI 6 → vp_in (x3 + (nI 1)) (mm_S X 4).1 ∧ wc X 71 [.ref 1, .int ((mm_S X 4).2 (x3 + (nI 1)).toNatClampNeg)] iv (Ri (fun r26 iv25 => vp_in (x3 + (nI 1)) (mm_S X 4).1 ∧ wc X 168 [.ref 74, .int ((mm_S X 4).2 (x3 + (nI 1)).toNatClampNeg)] iv25 (Ri (fun r28 iv27 => ((r26 = r28 → wp X (100, 3462) 225 10 [some (.ref 1000004), some (.ref 1), some (.ref 74), some (.int (x3 + nI 6))] [] iv27 (Ri P)) ∧ (¬ (r26 = r28) → P (nI 0) iv27))))))) ∧ ((((mm_S X 4).2 x3.toNatClampNeg) &&& (nI 31)) = nI 7 → vp_in (x3 + (nI 1)) (mm_S X 4).1 ∧ vp_in (x3 + (nI 2)) (mm_S X 4).1 ∧ wc X 72 [.ref 1, .int ((mm_S X 4).2 (x3 + (nI 1)).toNatClampNeg), .int ((mm_S X 4).2 (x3 + (nI 2)).toNatClampNeg)] iv (Ri (fun r30 iv29 => vp_in (x3 + (nI 1)) (mm_S X 4).1 ∧ vp_in (x3 + (nI 2)) (mm_S X 4).1 ∧ wc X 170 [.ref 74, .int ((mm_S X 4).2 (x3 + (nI 1)).toNatClampNeg), .int ((mm_S X 4).2 (x3 + (nI 2)).toNatClampNeg)] iv29 (Ri (fun r32 iv31 => ((r30 = r32 → wp X (100, 3462) 225 10 [some (.ref 1000004), some (.ref 1), some (.ref 74), some (.int (x3 + nI 6))] [] iv31 (Ri P)) ∧ (¬ (r30 = r32) → P (nI 0) iv31))))))) ∧ ((((mm_S X 4).2 x3.toNatClampNeg) &&& (nI 31)) = nI 8 → vp_in (x3 + (nI 1)) (mm_S X 4).1 ∧ vp_in (x3 + (nI 2)) (mm_S X 4).1 ∧ wc X 73 [.ref 1, .int ((mm_S X 4).2 (x3 + (nI 1)).toNatClampNeg), .int ((mm_S X 4).2 (x3 + (nI 2)).toNatClampNeg)] iv (Ri (fun r34 iv33 => vp_in (x3 + (nI 1)) (mm_S X 4).1 ∧ vp_in (x3 + (nI 2)) (mm_S X 4).1 ∧ wc X 173 [.ref 74, .int ((mm_S X 4).2 (x3 + (nI 1)).toNatClampNeg), .int ((mm_S X 4).2 (x3 + (nI 2)).toNatClampNeg)] iv33 (Ri (fun r36 iv35 => ((r34 = r36 → wp X (100, 3462) 225 10 [some (.ref 1000004), some (.ref 1), some (.ref 74), some (.int (x3 + nI 6))] [] iv35 (Ri P)) ∧ (¬ (r34 = r36) → P (nI 0) iv35))))))) ∧ ((((mm_S X 4).2 x3.toNatClampNeg) &&& (nI 31)) = nI 9 → vp_in (x3 + (nI 1)) (mm_S X 4).1 ∧ wc X 74 [.ref 1, .int ((mm_S X 4).2 (x3 + (nI 1)).toNatClampNeg)] iv (Ri (fun r38 iv37 => vp_in (x3 + (nI 1)) (mm_S X 4).1 ∧ wc X 175 [.ref 74, .int ((mm_S X 4).2 (x3 + (nI 1)).toNatClampNeg)] iv37 (Ri (fun r40 iv39 => ((r38 = r40 → wp X (100, 3462) 225 10 [some (.ref 1000004), some (.ref 1), some (.ref 74), some (.int (x3 + nI 6))] [] iv39 (Ri P)) ∧ (¬ (r38 = r40) → P (nI 0) iv39))))))) ∧ ((((mm_S X 4).2 x3.toNatClampNeg) &&& (nI 31)) = nI 10 → vp_in (x3 + (nI 1)) (mm_S X 4).1 ∧ vp_in (x3 + (nI 2)) (mm_S X 4).1 ∧ vp_in (x3 + (nI 3)) (mm_S X 4).1 ∧ wc X 75 [.ref 1, .int ((mm_S X 4).2 (x3 + (nI 1)).toNatClampNeg), .int ((mm_S X 4).2 (x3 + (nI 2)).toNatClampNeg), .int ((mm_S X 4).2 (x3 + (nI 3)).toNatClampNeg)] iv (Ri (fun r42 iv41 => vp_in (x3 + (nI 1)) (mm_S X 4).1 ∧ vp_in (x3 + (nI 2)) (mm_S X 4).1 ∧ vp_in (x3 + (nI 3)) (mm_S X 4).1 ∧ wc X 177 [.ref 74, .int ((mm_S X 4).2 (x3 + (nI 1)).toNatClampNeg), .int ((mm_S X 4).2 (x3 + (nI 2)).toNatClampNeg), .int ((mm_S X 4).2 (x3 + (nI 3)).toNatClampNeg)] iv41 (Ri (fun r44 iv43 => ((r42 = r44 → wp X (100, 3462) 225 10 [some (.ref 1000004), some (.ref 1), some (.ref 74), some (.int (x3 + nI 6))] [] iv43 (Ri P)) ∧ (¬ (r42 = r44) → P (nI 0) iv43))))))) ∧ ((((mm_S X 4).2 x3.toNatClampNeg) &&& (nI 31)) = nI 11 → vp_in (x3 + (nI 1)) (mm_S X 4).1 ∧ vp_in (x3 + (nI 2)) (mm_S X 4).1 ∧ wc X 76 [.ref 1, .int ((mm_S X 4).2 (x3 + (nI 1)).toNatClampNeg), .int ((mm_S X 4).2 (x3 + (nI 2)).toNatClampNeg)] iv (Ri (fun r46 iv45 => vp_in (x3 + (nI 1)) (mm_S X 4).1 ∧ vp_in (x3 + (nI 2)) (mm_S X 4).1 ∧ wc X 181 [.ref 74, .int ((mm_S X 4).2 (x3 + (nI 1)).toNatClampNeg), .int ((mm_S X 4).2 (x3 + (nI 2)).toNatClampNeg)] iv45 (Ri (fun r48 iv47 => ((r46 = r48 → wp X (100, 3462) 225 10 [some (.ref 1000004), some (.ref 1), some (.ref 74), some (.int (x3 + nI 6))] [] iv47 (Ri P)) ∧ (¬ (r46 = r48) → P (nI 0) iv47))))))) ∧ ((((mm_S X 4).2 x3.toNatClampNeg) &&& (nI 31)) = nI 12 → vp_in (x3 + (nI 1)) (mm_S X 4).1 ∧ vp_in (x3 + (nI 2)) (mm_S X 4).1 ∧ wc X 77 [.ref 1, .int ((mm_S X 4).2 (x3 + (nI 1)).toNatClampNeg), .int ((mm_S X 4).2 (x3 + (nI 2)).toNatClampNeg)] iv (Ri (fun r50 iv49 => vp_in (x3 + (nI 1)) (mm_S X 4).1 ∧ vp_in (x3 + (nI 2)) (mm_S X 4).1 ∧ wc X 182 [.ref 74, .int ((mm_S X 4).2 (x3 + (nI 1)).toNatClampNeg), .int ((mm_S X 4).2 (x3 + (nI 2)).toNatClampNeg)] iv49 (Ri (fun r52 iv51 => ((r50 = r52 → wp X (100, 3462) 225 10 [some (.ref 1000004), some (.ref 1), some (.ref 74), some (.int (x3 + nI 6))] [] iv51 (Ri P)) ∧ (¬ (r50 = r52) → P (nI 0) iv51))))))) ∧ ((((mm_S X 4).2 x3.toNatClampNeg) &&& (nI 31)) = nI 13 → wc X 78 [.ref 1] iv (Ri (fun r54 iv53 => wc X 183 [.ref 74] iv53 (Ri (fun r56 iv55 => ((r54 = r56 → wp X (100, 3462) 225 10 [some (.ref 1000004), some (.ref 1), some (.ref 74), some (.int (x3 + nI 6))] [] iv55 (Ri P)) ∧ (¬ (r54 = r56) → P (nI 0) iv55))))))) ∧ ((((mm_S X 4).2 x3.toNatClampNeg) &&& (nI 31)) = nI 14 → wc X 79 [.ref 1] iv (Ri (fun r58 iv57 => wc X 184 [.ref 74] iv57 (Ri (fun r60 iv59 => ((r58 = r60 → wp X (100, 3462) 225 10 [some (.ref 1000004), some (.ref 1), some (.ref 74), some (.int (x3 + nI 6))] [] iv59 (Ri P)) ∧ (¬ (r58 = r60) → P (nI 0) iv59))))))) ∧ ((((mm_S X 4).2 x3.toNatClampNeg) &&& (nI 31)) = nI 15 → vp_in (x3 + (nI 1)) (mm_S X 4).1 ∧ vp_in (x3 + (nI 2)) (mm_S X 4).1 ∧ wc X 80 [.ref 1, .int ((mm_S X 4).2 (x3 + (nI 1)).toNatClampNeg), .int ((mm_S X 4).2 (x3 + (nI 2)).toNatClampNeg)] iv (Ri (fun r62 iv61 => vp_in (x3 + (nI 1)) (mm_S X 4).1 ∧ vp_in (x3 + (nI 2)) (mm_S X 4).1 ∧ wc X 186 [.ref 74, .int ((mm_S X 4).2 (x3 + (nI 1)).toNatClampNeg), .int ((mm_S X 4).2 (x3 + (nI 2)).toNatClampNeg)] iv61 (Ri (fun r64 iv63 => ((r62 = r64 → wp X (100, 3462) 225 10 [some (.ref 1000004), some (.ref 1), some (.ref 74), some (.int (x3 + nI 6))] [] iv63 (Ri P)) ∧ (¬ (r62 = r64) → P (nI 0) iv63))))))) ∧ ((((mm_S X 4).2 x3.toNatClampNeg) &&& (nI 31)) = nI 16 → wc X 81 [.ref 1] iv (Ri (fun r66 iv65 => wc X 200 [.ref 74] iv65 (Ri (fun r68 iv67 => ((r66 = r68 → wp X (100, 3462) 225 10 [some (.ref 1000004), some (.ref 1), some (.ref 74), some (.int (x3 + nI 6))] [] iv67 (Ri P)) ∧ (¬ (r66 = r68) → P (nI 0) iv67))))))) ∧ ((((mm_S X 4).2 x3.toNatClampNeg) &&& (nI 31)) = nI 17 → vp_in (x3 + (nI 1)) (mm_S X 4).1 ∧ wc X 82 [.ref 1, .int ((mm_S X 4).2 (x3 + (nI 1)).toNatClampNeg)] iv (Ri (fun r70 iv69 => vp_in (x3 + (nI 1)) (mm_S X 4).1 ∧ wc X 203 [.ref 74, .int ((mm_S X 4).2 (x3 + (nI 1)).toNatClampNeg)] iv69 (Ri (fun r72 iv71 => ((r70 = r72 → wp X (100, 3462) 225 10 [some (.ref 1000004), some (.ref 1), some (.ref 74), some (.int (x3 + nI 6))] [] iv71 (Ri P)) ∧ (¬ (r70 = r72) → P (nI 0) iv71))))))) ∧ ((((mm_S X 4).2 x3.toNatClampNeg) &&& (nI 31)) = nI 18 → vp_in (x3 + (nI 1)) (mm_S X 4).1 ∧ wc X 83 [.ref 1, .int ((mm_S X 4).2 (x3 + (nI 1)).toNatClampNeg)] iv (Ri (fun r74 iv73 => vp_in (x3 + (nI 1)) (mm_S X 4).1 ∧ wc X 205 [.ref 74, .int ((mm_S X 4).2 (x3 + (nI 1)).toNatClampNeg)] iv73 (Ri (fun r76 iv75 => ((r74 = r76 → wp X (100, 3462) 225 10 [some (.ref 1000004), some (.ref 1), some (.ref 74), some (.int (x3 + nI 6))] [] iv75 (Ri P)) ∧ (¬ (r74 = r76) → P (nI 0) iv75))))))) ∧ ((((mm_S X 4).2 x3.toNatClampNeg) &&& (nI 31)) = nI 19 → vp_in (x3 + (nI 1)) (mm_S X 4).1 ∧ vp_in (x3 + (nI 2)) (mm_S X 4).1 ∧ wc X 84 [.ref 1, .int ((mm_S X 4).2 (x3 + (nI 1)).toNatClampNeg), .int ((mm_S X 4).2 (x3 + (nI 2)).toNatClampNeg)] iv (Ri (fun r78 iv77 => vp_in (x3 + (nI 1)) (mm_S X 4).1 ∧ vp_in (x3 + (nI 2)) (mm_S X 4).1 ∧ wc X 208 [.ref 74, .int ((mm_S X 4).2 (x3 + (nI 1)).toNatClampNeg), .int ((mm_S X 4).2 (x3 + (nI 2)).toNatClampNeg)] iv77 (Ri (fun r80 iv79 => ((r78 = r80 → wp X (100, 3462) 225 10 [some (.ref 1000004), some (.ref 1), some (.ref 74), some (.int (x3 + nI 6))] [] iv79 (Ri P)) ∧ (¬ (r78 = r80) → P (nI 0) iv79))))))) ∧ ((((mm_S X 4).2 x3.toNatClampNeg) &&& (nI 31)) = nI 20 → vp_in (x3 + (nI 1)) (mm_S X 4).1 ∧ vp_in (x3 + (nI 2)) (mm_S X 4).1 ∧ wc X 85 [.ref 1, .int ((mm_S X 4).2 (x3 + (nI 1)).toNatClampNeg), .int ((mm_S X 4).2 (x3 + (nI 2)).toNatClampNeg)] iv (Ri (fun r82 iv81 => vp_in (x3 + (nI 1)) (mm_S X 4).1 ∧ vp_in (x3 + (nI 2)) (mm_S X 4).1 ∧ wc X 210 [.ref 74, .int ((mm_S X 4).2 (x3 + (nI 1)).toNatClampNeg), .int ((mm_S X 4).2 (x3 + (nI 2)).toNatClampNeg)] iv81 (Ri (fun r84 iv83 => ((r82 = r84 → wp X (100, 3462) 225 10 [some (.ref 1000004), some (.ref 1), some (.ref 74), some (.int (x3 + nI 6))] [] iv83 (Ri P)) ∧ (¬ (r82 = r84) → P (nI 0) iv83))))))) ∧ ((((mm_S X 4).2 x3.toNatClampNeg) &&& (nI 31)) = nI 21 → vp_in (x3 + (nI 1)) (mm_S X 4).1 ∧ wc X 86 [.ref 1, .int ((mm_S X 4).2 (x3 + (nI 1)).toNatClampNeg)] iv (Ri (fun r86 iv85 => vp_in (x3 + (nI 1)) (mm_S X 4).1 ∧ wc X 215 [.ref 74, .int ((mm_S X 4).2 (x3 + (nI 1)).toNatClampNeg)] iv85 (Ri (fun r88 iv87 => ((r86 = r88 → wp X (100, 3462) 225 10 [some (.ref 1000004), some (.ref 1), some (.ref 74), some (.int (x3 + nI 6))] [] iv87 (Ri P)) ∧ (¬ (r86 = r88) → P (nI 0) iv87))))))) ∧ ((((mm_S X 4).2 x3.toNatClampNeg) &&& (nI 31)) = nI 22 → vp_in (x3 + (nI 1)) (mm_S X 4).1 ∧ vp_in (x3 + (nI 2)) (mm_S X 4).1 ∧ vp_in (x3 + (nI 3)) (mm_S X 4).1 ∧ wc X 87 [.ref 1, .int ((mm_S X 4).2 (x3 + (nI 1)).toNatClampNeg), .int ((mm_S X 4).2 (x3 + (nI 2)).toNatClampNeg), .int ((mm_S X 4).2 (x3 + (nI 3)).toNatClampNeg)] iv (Ri (fun r90 iv89 => vp_in (x3 + (nI 1)) (mm_S X 4).1 ∧ vp_in (x3 + (nI 2)) (mm_S X 4).1 ∧ vp_in (x3 + (nI 3)) (mm_S X 4).1 ∧ wc X 128 [.ref 74, .int ((mm_S X 4).2 (x3 + (nI 1)).toNatClampNeg), .int ((mm_S X 4).2 (x3 + (nI 2)).toNatClampNeg), .int ((mm_S X 4).2 (x3 + (nI 3)).toNatClampNeg)] iv89 (Ri (fun r92 iv91 => ((r90 = r92 → wp X (100, 3462) 225 10 [some (.ref 1000004), some (.ref 1), some (.ref 74), some (.int (x3 + nI 6))] [] iv91 (Ri P)) ∧ (¬ (r90 = r92) → P (nI 0) iv91))))))) ∧ ((((mm_S X 4).2 x3.toNatClampNeg) &&& (nI 31)) = nI 23 → vp_in (x3 + (nI 1)) (mm_S X 4).1 ∧ wc X 88 [.ref 1, .int ((mm_S X 4).2 (x3 + (nI 1)).toNatClampNeg)] iv (Ri (fun r94 iv93 => vp_in (x3 + (nI 1)) (mm_S X 4).1 ∧ wc X 129 [.ref 74, .int ((mm_S X 4).2 (x3 + (nI 1)).toNatClampNeg)] iv93 (Ri (fun r96 iv95 => ((r94 = r96 → wp X (100, 3462) 225 10 [some (.ref 1000004), some (.ref 1), some (.ref 74), some (.int (x3 + nI 6))] [] iv95 (Ri P)) ∧ (¬ (r94 = r96) → P (nI 0) iv95))))))) ∧ ((((mm_S X 4).2 x3.toNatClampNeg) &&& (nI 31)) = nI 24 → vp_in (x3 + (nI 1)) (mm_S X 4).1 ∧ vp_in (x3 + (nI 2)) (mm_S X 4).1 ∧ vp_in (x3 + (nI 3)) (mm_S X 4).1 ∧ vp_in (x3 + (nI 4)) (mm_S X 4).1 ∧ wc X 89 [.ref 1, .int ((mm_S X 4).2 (x3 + (nI 1)).toNatClampNeg), .int ((mm_S X 4).2 (x3 + (nI 2)).toNatClampNeg), .int ((mm_S X 4).2 (x3 + (nI 3)).toNatClampNeg), .int ((mm_S X 4).2 (x3 + (nI 4)).toNatClampNeg)] iv (Ri (fun r98 iv97 => vp_in (x3 + (nI 1)) (mm_S X 4).1 ∧ vp_in (x3 + (nI 2)) (mm_S X 4).1 ∧ vp_in (x3 + (nI 3)) (mm_S X 4).1 ∧ vp_in (x3 + (nI 4)) (mm_S X 4).1 ∧ wc X 132 [.ref 74, .int ((mm_S X 4).2 (x3 + (nI 1)).toNatClampNeg), .int ((mm_S X 4).2 (x3 + (nI 2)).toNatClampNeg), .int ((mm_S X 4).2 (x3 + (nI 3)).toNatClampNeg), .int ((mm_S X 4).2 (x3 + (nI 4)).toNatClampNeg)] iv97 (Ri (fun r100 iv99 => ((r98 = r100 → wp X (100, 3462) 225 10 [some (.ref 1000004), some (.ref 1), some (.ref 74), some (.int (x3 + nI 6))] [] iv99 (Ri P)) ∧ (¬ (r98 = r100) → P (nI 0) iv99))))))) ∧ ((((mm_S X 4).2 x3.toNatClampNeg) &&& (nI 31)) = nI 25 → vp_in (x3 + (nI 1)) (mm_S X 4).1 ∧ vp_in (x3 + (nI 2)) (mm_S X 4).1 ∧ vp_in (x3 + (nI 3)) (mm_S X 4).1 ∧ wc X 90 [.ref 1, .int ((mm_S X 4).2 (x3 + (nI 1)).toNatClampNeg), .int ((mm_S X 4).2 (x3 + (nI 2)).toNatClampNeg), .int ((mm_S X 4).2 (x3 + (nI 3)).toNatClampNeg)] iv (Ri (fun r102 iv101 => vp_in (x3 + (nI 1)) (mm_S X 4).1 ∧ vp_in (x3 + (nI 2)) (mm_S X 4).1 ∧ vp_in (x3 + (nI 3)) (mm_S X 4).1 ∧ wc X 133 [.ref 74, .int ((mm_S X 4).2 (x3 + (nI 1)).toNatClampNeg), .int ((mm_S X 4).2 (x3 + (nI 2)).toNatClampNeg), .int ((mm_S X 4).2 (x3 + (nI 3)).toNatClampNeg)] iv101 (Ri (fun r104 iv103 => ((r102 = r104 → wp X (100, 3462) 225 10 [some (.ref 1000004), some (.ref 1), some (.ref 74), some (.int (x3 + nI 6))] [] iv103 (Ri P)) ∧ (¬ (r102 = r104) → P (nI 0) iv103))))))) ∧ ((((mm_S X 4).2 x3.toNatClampNeg) &&& (nI 31)) = nI 26 → vp_in (x3 + (nI 1)) (mm_S X 4).1 ∧ vp_in (x3 + (nI 2)) (mm_S X 4).1 ∧ vp_in (x3 + (nI 3)) (mm_S X 4).1 ∧ vp_in (x3 + (nI 4)) (mm_S X 4).1 ∧ vp_in (x3 + (nI 5)) (mm_S X 4).1 ∧ wc X 91 [.ref 1, .int ((mm_S X 4).2 (x3 + (nI 1)).toNatClampNeg), .int ((mm_S X 4).2 (x3 + (nI 2)).toNatClampNeg), .int ((mm_S X 4).2 (x3 + (nI 3)).toNatClampNeg), .int ((mm_S X 4).2 (x3 + (nI 4)).toNatClampNeg), .int ((mm_S X 4).2 (x3 + (nI 5)).toNatClampNeg)] iv (Ri (fun r106 iv105 => vp_in (x3 + (nI 1)) (mm_S X 4).1 ∧ vp_in (x3 + (nI 2)) (mm_S X 4).1 ∧ vp_in (x3 + (nI 3)) (mm_S X 4).1 ∧ vp_in (x3 + (nI 4)) (mm_S X 4).1 ∧ vp_in (x3 + (nI 5)) (mm_S X 4).1 ∧ wc X 134 [.ref 74, .int ((mm_S X 4).2 (x3 + (nI 1)).toNatClampNeg), .int ((mm_S X 4).2 (x3 + (nI 2)).toNatClampNeg), .int ((mm_S X 4).2 (x3 + (nI 3)).toNatClampNeg), .int ((mm_S X 4).2 (x3 + (nI 4)).toNatClampNeg), .int ((mm_S X 4).2 (x3 + (nI 5)).toNatClampNeg)] iv105 (Ri (fun r108 iv107 => ((r106 = r108 → wp X (100, 3462) 225 10 [some (.ref 1000004), some (.ref 1), some (.ref 74), some (.int (x3 + nI 6))] [] iv107 (Ri P)) ∧ (¬ (r106 = r108) → P (nI 0) iv107))))))) ∧ ((((mm_S X 4).2 x3.toNatClampNeg) &&& (nI 31)) = nI 27 → vp_in (x3 + (nI 1)) (mm_S X 4).1 ∧ vp_in (x3 + (nI 2)) (mm_S X 4).1 ∧ wc X 92 [.ref 1, .int ((mm_S X 4).2 (x3 + (nI 1)).toNatClampNeg), .int ((mm_S X 4).2 (x3 + (nI 2)).toNatClampNeg)] iv (Ri (fun r110 iv109 => vp_in (x3 + (nI 1)) (mm_S X 4).1 ∧ vp_in (x3 + (nI 2)) (mm_S X 4).1 ∧ wc X 216 [.ref 74, .int ((mm_S X 4).2 (x3 + (nI 1)).toNatClampNeg), .int ((mm_S X 4).2 (x3 + (nI 2)).toNatClampNeg)] iv109 (Ri (fun r112 iv111 => ((r110 = r112 → wp X (100, 3462) 225 10 [some (.ref 1000004), some (.ref 1), some (.ref 74), some (.int (x3 + nI 6))] [] iv111 (Ri P)) ∧ (¬ (r110 = r112) → P (nI 0) iv111))))))) ∧ ((((mm_S X 4).2 x3.toNatClampNeg) &&& (nI 31)) = nI 28 → vp_in (x3 + (nI 1)) (mm_S X 4).1 ∧ wc X 93 [.ref 1, .int ((mm_S X 4).2 (x3 + (nI 1)).toNatClampNeg)] iv (Ri (fun r114 iv113 => vp_in (x3 + (nI 1)) (mm_S X 4).1 ∧ wc X 217 [.ref 74, .int ((mm_S X 4).2 (x3 + (nI 1)).toNatClampNeg)] iv113 (Ri (fun r116 iv115 => ((r114 = r116 → wp X (100, 3462) 225 10 [some (.ref 1000004), some (.ref 1), some (.ref 74), some (.int (x3 + nI 6))] [] iv115 (Ri P)) ∧ (¬ (r114 = r116) → P (nI 0) iv115))))))) ∧ ((((mm_S X 4).2 x3.toNatClampNeg) &&& (nI 31)) = nI 29 → wc X 94 [.ref 1] iv (Rl (fun r118 iv117 => wc X 219 [.ref 74] iv117 (Rl (fun r120 iv119 => ((lg_cmp r118 r120 = 0 → wp X (100, 3462) 225 10 [some (.ref 1000004), some (.ref 1), some (.ref 74), some (.int (x3 + nI 6))] [] iv119 (Ri P)) ∧ (¬ (lg_cmp r118 r120 = 0) → P (nI 0) iv119))))))) ∧ (¬ vp_in (((mm_S X 4).2 x3.toNatClampNeg) &&& (nI 31)) 30 → wp X (100, 3462) 225 10 [some (.ref 1000004), some (.ref 1), some (.ref 74), some (.int (x3 + nI 6))] [] iv (Ri P)))))) :
    wp X (100, 3462) 225 10 [some (.ref 1000004), some (.ref 1), some (.ref 74), some (.int x3)] [] iv (Ri P) := by
  have hT := tb_225
  refine wp_s hT 5 (i' := 15) (L' := [some (.ref 1000004), some (.ref 1), some (.ref 74), some (.int x3)]) (st' := [.int ((nI (mm_S X 4).1) - (nI 6)), .int x3]) rfl ?_
  refine wp_ic_gt hT rfl ⟨fun c => ?_, fun c => ?_⟩
  · have h := h.1 c
    refine wp_s hT 1 (i' := 726) (L' := [some (.ref 1000004), some (.ref 1), some (.ref 74), some (.int x3)]) (st' := [.int (nI 1)]) rfl ?_
    exact wp_rz hT rfl rfl ⟨Or.inr rfl, ⟨_, rfl, h⟩⟩
  · have h := h.2 c
    refine wp_s hT 2 (i' := 18) (L' := [some (.ref 1000004), some (.ref 1), some (.ref 74), some (.int x3)]) (st' := [.int x3, .ref 1000004]) rfl ?_
    refine wp_tald (a := 4) hT rfl rfl (by decide) ⟨h.1, ?_⟩
    have h := h.2
    refine wp_s hT 2 (i' := 21) (L' := [some (.ref 1000004), some (.ref 1), some (.ref 74), some (.int x3)]) (st' := [.int (((mm_S X 4).2 x3.toNatClampNeg) &&& (nI 31))]) rfl ?_
    by_cases hx : vp_in (((mm_S X 4).2 x3.toNatClampNeg) &&& (nI 31)) 30
    · obtain ⟨k, hk, ek⟩ := vp_in_of hx (by decide)
      match k, hk, ek with
      | 0, _, ek =>
        refine wp_sw hT rfl (i' := 22) (st' := []) (by rw [ek]; rfl) ?_
        have h := h.1 ek
        refine wp_s hT 5 (i' := 27) (L' := [some (.ref 1000004), some (.ref 1), some (.ref 74), some (.int x3)]) (st' := [.int (x3 + (nI 1)), .ref 1000004, .ref 1]) rfl ?_
        refine wp_tald (a := 4) hT rfl rfl (by decide) ⟨h.1, ?_⟩
        have h := h.2
        refine wp_s hT 4 (i' := 32) (L' := [some (.ref 1000004), some (.ref 1), some (.ref 74), some (.int x3)]) (st' := [.int (x3 + (nI 2)), .ref 1000004, .int ((mm_S X 4).2 (x3 + (nI 1)).toNatClampNeg), .ref 1]) rfl ?_
        refine wp_tald (a := 4) hT rfl rfl (by decide) ⟨h.1, ?_⟩
        have h := h.2
        refine wp_calli hT rfl rfl h (fun r2 iv1 h => ?_)
        refine wp_s hT 5 (i' := 39) (L' := [some (.ref 1000004), some (.ref 1), some (.ref 74), some (.int x3)]) (st' := [.int (x3 + (nI 1)), .ref 1000004, .ref 74, .int r2]) rfl ?_
        refine wp_tald (a := 4) hT rfl rfl (by decide) ⟨h.1, ?_⟩
        have h := h.2
        refine wp_s hT 4 (i' := 44) (L' := [some (.ref 1000004), some (.ref 1), some (.ref 74), some (.int x3)]) (st' := [.int (x3 + (nI 2)), .ref 1000004, .int ((mm_S X 4).2 (x3 + (nI 1)).toNatClampNeg), .ref 74, .int r2]) rfl ?_
        refine wp_tald (a := 4) hT rfl rfl (by decide) ⟨h.1, ?_⟩
        have h := h.2
        refine wp_calli hT rfl rfl h (fun r4 iv3 h => ?_)
        refine wp_ic_eq hT rfl ⟨fun c => ?_, fun c => ?_⟩
        · have h := h.1 c
          refine wp_s hT 2 (i' := 10) (L' := [some (.ref 1000004), some (.ref 1), some (.ref 74), some (.int (x3 + nI 6))]) (st' := []) rfl ?_
          exact h
        · have h := h.2 c
          refine wp_s hT 1 (i' := 48) (L' := [some (.ref 1000004), some (.ref 1), some (.ref 74), some (.int x3)]) (st' := [.int (nI 0)]) rfl ?_
          exact wp_rz hT rfl rfl ⟨Or.inl rfl, ⟨_, rfl, h⟩⟩
      | 1, _, ek =>
        refine wp_sw hT rfl (i' := 49) (st' := []) (by rw [ek]; rfl) ?_
        have h := h.2.1 ek
        refine wp_s hT 5 (i' := 54) (L' := [some (.ref 1000004), some (.ref 1), some (.ref 74), some (.int x3)]) (st' := [.int (x3 + (nI 1)), .ref 1000004, .ref 1]) rfl ?_
        refine wp_tald (a := 4) hT rfl rfl (by decide) ⟨h.1, ?_⟩
        have h := h.2
        refine wp_calli hT rfl rfl h (fun r6 iv5 h => ?_)
        refine wp_s hT 5 (i' := 61) (L' := [some (.ref 1000004), some (.ref 1), some (.ref 74), some (.int x3)]) (st' := [.int (x3 + (nI 1)), .ref 1000004, .ref 74, .int r6]) rfl ?_
        refine wp_tald (a := 4) hT rfl rfl (by decide) ⟨h.1, ?_⟩
        have h := h.2
        refine wp_calli hT rfl rfl h (fun r8 iv7 h => ?_)
        refine wp_ic_eq hT rfl ⟨fun c => ?_, fun c => ?_⟩
        · have h := h.1 c
          refine wp_s hT 2 (i' := 10) (L' := [some (.ref 1000004), some (.ref 1), some (.ref 74), some (.int (x3 + nI 6))]) (st' := []) rfl ?_
          exact h
        · have h := h.2 c
          refine wp_s hT 1 (i' := 65) (L' := [some (.ref 1000004), some (.ref 1), some (.ref 74), some (.int x3)]) (st' := [.int (nI 0)]) rfl ?_
          exact wp_rz hT rfl rfl ⟨Or.inl rfl, ⟨_, rfl, h⟩⟩
      | 2, _, ek =>
        refine wp_sw hT rfl (i' := 66) (st' := []) (by rw [ek]; rfl) ?_
        have h := h.2.2.1 ek
        refine wp_s hT 5 (i' := 71) (L' := [some (.ref 1000004), some (.ref 1), some (.ref 74), some (.int x3)]) (st' := [.int (x3 + (nI 1)), .ref 1000004, .ref 1]) rfl ?_
        refine wp_tald (a := 4) hT rfl rfl (by decide) ⟨h.1, ?_⟩
        have h := h.2
        refine wp_calli hT rfl rfl h (fun r10 iv9 h => ?_)
        refine wp_s hT 5 (i' := 78) (L' := [some (.ref 1000004), some (.ref 1), some (.ref 74), some (.int x3)]) (st' := [.int (x3 + (nI 1)), .ref 1000004, .ref 74, .int r10]) rfl ?_
        refine wp_tald (a := 4) hT rfl rfl (by decide) ⟨h.1, ?_⟩
        have h := h.2
        refine wp_calli hT rfl rfl h (fun r12 iv11 h => ?_)
        refine wp_ic_eq hT rfl ⟨fun c => ?_, fun c => ?_⟩
        · have h := h.1 c
          refine wp_s hT 2 (i' := 10) (L' := [some (.ref 1000004), some (.ref 1), some (.ref 74), some (.int (x3 + nI 6))]) (st' := []) rfl ?_
          exact h
        · have h := h.2 c
          refine wp_s hT 1 (i' := 82) (L' := [some (.ref 1000004), some (.ref 1), some (.ref 74), some (.int x3)]) (st' := [.int (nI 0)]) rfl ?_
          exact wp_rz hT rfl rfl ⟨Or.inl rfl, ⟨_, rfl, h⟩⟩
      | 3, _, ek =>
        refine wp_sw hT rfl (i' := 83) (st' := []) (by rw [ek]; rfl) ?_
        have h := h.2.2.2.1 ek
        refine wp_s hT 1 (i' := 84) (L' := [some (.ref 1000004), some (.ref 1), some (.ref 74), some (.int x3)]) (st' := [.ref 1]) rfl ?_
        refine wp_calli hT rfl rfl h (fun r14 iv13 h => ?_)
        refine wp_s hT 1 (i' := 86) (L' := [some (.ref 1000004), some (.ref 1), some (.ref 74), some (.int x3)]) (st' := [.ref 74, .int r14]) rfl ?_
        refine wp_calli hT rfl rfl h (fun r16 iv15 h => ?_)
        refine wp_ic_eq hT rfl ⟨fun c => ?_, fun c => ?_⟩
        · have h := h.1 c
          refine wp_s hT 2 (i' := 10) (L' := [some (.ref 1000004), some (.ref 1), some (.ref 74), some (.int (x3 + nI 6))]) (st' := []) rfl ?_
          exact h
        · have h := h.2 c
          refine wp_s hT 1 (i' := 89) (L' := [some (.ref 1000004), some (.ref 1), some (.ref 74), some (.int x3)]) (st' := [.int (nI 0)]) rfl ?_
          exact wp_rz hT rfl rfl ⟨Or.inl rfl, ⟨_, rfl, h⟩⟩
      | 4, _, ek =>
        refine wp_sw hT rfl (i' := 90) (st' := []) (by rw [ek]; rfl) ?_
        have h := h.2.2.2.2.1 ek
        refine wp_s hT 5 (i' := 95) (L' := [some (.ref 1000004), some (.ref 1), some (.ref 74), some (.int x3)]) (st' := [.int (x3 + (nI 1)), .ref 1000004, .ref 1]) rfl ?_
        refine wp_tald (a := 4) hT rfl rfl (by decide) ⟨h.1, ?_⟩
        have h := h.2
        refine wp_calli hT rfl rfl h (fun r18 iv17 h => ?_)
        refine wp_s hT 5 (i' := 102) (L' := [some (.ref 1000004), some (.ref 1), some (.ref 74), some (.int x3)]) (st' := [.int (x3 + (nI 1)), .ref 1000004, .ref 74, .int r18]) rfl ?_
        refine wp_tald (a := 4) hT rfl rfl (by decide) ⟨h.1, ?_⟩
        have h := h.2
        refine wp_calli hT rfl rfl h (fun r20 iv19 h => ?_)
        refine wp_ic_eq hT rfl ⟨fun c => ?_, fun c => ?_⟩
        · have h := h.1 c
          refine wp_s hT 2 (i' := 10) (L' := [some (.ref 1000004), some (.ref 1), some (.ref 74), some (.int (x3 + nI 6))]) (st' := []) rfl ?_
          exact h
        · have h := h.2 c
          refine wp_s hT 1 (i' := 106) (L' := [some (.ref 1000004), some (.ref 1), some (.ref 74), some (.int x3)]) (st' := [.int (nI 0)]) rfl ?_
          exact wp_rz hT rfl rfl ⟨Or.inl rfl, ⟨_, rfl, h⟩⟩
      | 5, _, ek =>
        refine wp_sw hT rfl (i' := 107) (st' := []) (by rw [ek]; rfl) ?_
        have h := h.2.2.2.2.2.1 ek
        refine wp_s hT 5 (i' := 112) (L' := [some (.ref 1000004), some (.ref 1), some (.ref 74), some (.int x3)]) (st' := [.int (x3 + (nI 1)), .ref 1000004, .ref 1]) rfl ?_
        refine wp_tald (a := 4) hT rfl rfl (by decide) ⟨h.1, ?_⟩
        have h := h.2
        refine wp_s hT 4 (i' := 117) (L' := [some (.ref 1000004), some (.ref 1), some (.ref 74), some (.int x3)]) (st' := [.int (x3 + (nI 2)), .ref 1000004, .int ((mm_S X 4).2 (x3 + (nI 1)).toNatClampNeg), .ref 1]) rfl ?_
        refine wp_tald (a := 4) hT rfl rfl (by decide) ⟨h.1, ?_⟩
        have h := h.2
        refine wp_s hT 4 (i' := 122) (L' := [some (.ref 1000004), some (.ref 1), some (.ref 74), some (.int x3)]) (st' := [.int (x3 + (nI 3)), .ref 1000004, .int ((mm_S X 4).2 (x3 + (nI 2)).toNatClampNeg), .int ((mm_S X 4).2 (x3 + (nI 1)).toNatClampNeg), .ref 1]) rfl ?_
        refine wp_tald (a := 4) hT rfl rfl (by decide) ⟨h.1, ?_⟩
        have h := h.2
        refine wp_calli hT rfl rfl h (fun r22 iv21 h => ?_)
        refine wp_s hT 5 (i' := 129) (L' := [some (.ref 1000004), some (.ref 1), some (.ref 74), some (.int x3)]) (st' := [.int (x3 + (nI 1)), .ref 1000004, .ref 74, .int r22]) rfl ?_
        refine wp_tald (a := 4) hT rfl rfl (by decide) ⟨h.1, ?_⟩
        have h := h.2
        refine wp_s hT 4 (i' := 134) (L' := [some (.ref 1000004), some (.ref 1), some (.ref 74), some (.int x3)]) (st' := [.int (x3 + (nI 2)), .ref 1000004, .int ((mm_S X 4).2 (x3 + (nI 1)).toNatClampNeg), .ref 74, .int r22]) rfl ?_
        refine wp_tald (a := 4) hT rfl rfl (by decide) ⟨h.1, ?_⟩
        have h := h.2
        refine wp_s hT 4 (i' := 139) (L' := [some (.ref 1000004), some (.ref 1), some (.ref 74), some (.int x3)]) (st' := [.int (x3 + (nI 3)), .ref 1000004, .int ((mm_S X 4).2 (x3 + (nI 2)).toNatClampNeg), .int ((mm_S X 4).2 (x3 + (nI 1)).toNatClampNeg), .ref 74, .int r22]) rfl ?_
        refine wp_tald (a := 4) hT rfl rfl (by decide) ⟨h.1, ?_⟩
        have h := h.2
        refine wp_calli hT rfl rfl h (fun r24 iv23 h => ?_)
        refine wp_ic_eq hT rfl ⟨fun c => ?_, fun c => ?_⟩
        · have h := h.1 c
          refine wp_s hT 2 (i' := 10) (L' := [some (.ref 1000004), some (.ref 1), some (.ref 74), some (.int (x3 + nI 6))]) (st' := []) rfl ?_
          exact h
        · have h := h.2 c
          refine wp_s hT 1 (i' := 143) (L' := [some (.ref 1000004), some (.ref 1), some (.ref 74), some (.int x3)]) (st' := [.int (nI 0)]) rfl ?_
          exact wp_rz hT rfl rfl ⟨Or.inl rfl, ⟨_, rfl, h⟩⟩
      | 6, _, ek =>
        refine wp_sw hT rfl (i' := 144) (st' := []) (by rw [ek]; rfl) ?_
        have h := h.2.2.2.2.2.2.1 ek
        refine wp_s hT 5 (i' := 149) (L' := [some (.ref 1000004), some (.ref 1), some (.ref 74), some (.int x3)]) (st' := [.int (x3 + (nI 1)), .ref 1000004, .ref 1]) rfl ?_
        refine wp_tald (a := 4) hT rfl rfl (by decide) ⟨h.1, ?_⟩
        have h := h.2
        refine wp_calli hT rfl rfl h (fun r26 iv25 h => ?_)
        refine wp_s hT 5 (i' := 156) (L' := [some (.ref 1000004), some (.ref 1), some (.ref 74), some (.int x3)]) (st' := [.int (x3 + (nI 1)), .ref 1000004, .ref 74, .int r26]) rfl ?_
        refine wp_tald (a := 4) hT rfl rfl (by decide) ⟨h.1, ?_⟩
        have h := h.2
        refine wp_calli hT rfl rfl h (fun r28 iv27 h => ?_)
        refine wp_ic_eq hT rfl ⟨fun c => ?_, fun c => ?_⟩
        · have h := h.1 c
          refine wp_s hT 2 (i' := 10) (L' := [some (.ref 1000004), some (.ref 1), some (.ref 74), some (.int (x3 + nI 6))]) (st' := []) rfl ?_
          exact h
        · have h := h.2 c
          refine wp_s hT 1 (i' := 160) (L' := [some (.ref 1000004), some (.ref 1), some (.ref 74), some (.int x3)]) (st' := [.int (nI 0)]) rfl ?_
          exact wp_rz hT rfl rfl ⟨Or.inl rfl, ⟨_, rfl, h⟩⟩
      | 7, _, ek =>
        refine wp_sw hT rfl (i' := 161) (st' := []) (by rw [ek]; rfl) ?_
        have h := h.2.2.2.2.2.2.2.1 ek
        refine wp_s hT 5 (i' := 166) (L' := [some (.ref 1000004), some (.ref 1), some (.ref 74), some (.int x3)]) (st' := [.int (x3 + (nI 1)), .ref 1000004, .ref 1]) rfl ?_
        refine wp_tald (a := 4) hT rfl rfl (by decide) ⟨h.1, ?_⟩
        have h := h.2
        refine wp_s hT 4 (i' := 171) (L' := [some (.ref 1000004), some (.ref 1), some (.ref 74), some (.int x3)]) (st' := [.int (x3 + (nI 2)), .ref 1000004, .int ((mm_S X 4).2 (x3 + (nI 1)).toNatClampNeg), .ref 1]) rfl ?_
        refine wp_tald (a := 4) hT rfl rfl (by decide) ⟨h.1, ?_⟩
        have h := h.2
        refine wp_calli hT rfl rfl h (fun r30 iv29 h => ?_)
        refine wp_s hT 5 (i' := 178) (L' := [some (.ref 1000004), some (.ref 1), some (.ref 74), some (.int x3)]) (st' := [.int (x3 + (nI 1)), .ref 1000004, .ref 74, .int r30]) rfl ?_
        refine wp_tald (a := 4) hT rfl rfl (by decide) ⟨h.1, ?_⟩
        have h := h.2
        refine wp_s hT 4 (i' := 183) (L' := [some (.ref 1000004), some (.ref 1), some (.ref 74), some (.int x3)]) (st' := [.int (x3 + (nI 2)), .ref 1000004, .int ((mm_S X 4).2 (x3 + (nI 1)).toNatClampNeg), .ref 74, .int r30]) rfl ?_
        refine wp_tald (a := 4) hT rfl rfl (by decide) ⟨h.1, ?_⟩
        have h := h.2
        refine wp_calli hT rfl rfl h (fun r32 iv31 h => ?_)
        refine wp_ic_eq hT rfl ⟨fun c => ?_, fun c => ?_⟩
        · have h := h.1 c
          refine wp_s hT 2 (i' := 10) (L' := [some (.ref 1000004), some (.ref 1), some (.ref 74), some (.int (x3 + nI 6))]) (st' := []) rfl ?_
          exact h
        · have h := h.2 c
          refine wp_s hT 1 (i' := 187) (L' := [some (.ref 1000004), some (.ref 1), some (.ref 74), some (.int x3)]) (st' := [.int (nI 0)]) rfl ?_
          exact wp_rz hT rfl rfl ⟨Or.inl rfl, ⟨_, rfl, h⟩⟩
      | 8, _, ek =>
        refine wp_sw hT rfl (i' := 188) (st' := []) (by rw [ek]; rfl) ?_
        have h := h.2.2.2.2.2.2.2.2.1 ek
        refine wp_s hT 5 (i' := 193) (L' := [some (.ref 1000004), some (.ref 1), some (.ref 74), some (.int x3)]) (st' := [.int (x3 + (nI 1)), .ref 1000004, .ref 1]) rfl ?_
        refine wp_tald (a := 4) hT rfl rfl (by decide) ⟨h.1, ?_⟩
        have h := h.2
        refine wp_s hT 4 (i' := 198) (L' := [some (.ref 1000004), some (.ref 1), some (.ref 74), some (.int x3)]) (st' := [.int (x3 + (nI 2)), .ref 1000004, .int ((mm_S X 4).2 (x3 + (nI 1)).toNatClampNeg), .ref 1]) rfl ?_
        refine wp_tald (a := 4) hT rfl rfl (by decide) ⟨h.1, ?_⟩
        have h := h.2
        refine wp_calli hT rfl rfl h (fun r34 iv33 h => ?_)
        refine wp_s hT 5 (i' := 205) (L' := [some (.ref 1000004), some (.ref 1), some (.ref 74), some (.int x3)]) (st' := [.int (x3 + (nI 1)), .ref 1000004, .ref 74, .int r34]) rfl ?_
        refine wp_tald (a := 4) hT rfl rfl (by decide) ⟨h.1, ?_⟩
        have h := h.2
        refine wp_s hT 4 (i' := 210) (L' := [some (.ref 1000004), some (.ref 1), some (.ref 74), some (.int x3)]) (st' := [.int (x3 + (nI 2)), .ref 1000004, .int ((mm_S X 4).2 (x3 + (nI 1)).toNatClampNeg), .ref 74, .int r34]) rfl ?_
        refine wp_tald (a := 4) hT rfl rfl (by decide) ⟨h.1, ?_⟩
        have h := h.2
        refine wp_calli hT rfl rfl h (fun r36 iv35 h => ?_)
        refine wp_ic_eq hT rfl ⟨fun c => ?_, fun c => ?_⟩
        · have h := h.1 c
          refine wp_s hT 2 (i' := 10) (L' := [some (.ref 1000004), some (.ref 1), some (.ref 74), some (.int (x3 + nI 6))]) (st' := []) rfl ?_
          exact h
        · have h := h.2 c
          refine wp_s hT 1 (i' := 214) (L' := [some (.ref 1000004), some (.ref 1), some (.ref 74), some (.int x3)]) (st' := [.int (nI 0)]) rfl ?_
          exact wp_rz hT rfl rfl ⟨Or.inl rfl, ⟨_, rfl, h⟩⟩
      | 9, _, ek =>
        refine wp_sw hT rfl (i' := 215) (st' := []) (by rw [ek]; rfl) ?_
        have h := h.2.2.2.2.2.2.2.2.2.1 ek
        refine wp_s hT 5 (i' := 220) (L' := [some (.ref 1000004), some (.ref 1), some (.ref 74), some (.int x3)]) (st' := [.int (x3 + (nI 1)), .ref 1000004, .ref 1]) rfl ?_
        refine wp_tald (a := 4) hT rfl rfl (by decide) ⟨h.1, ?_⟩
        have h := h.2
        refine wp_calli hT rfl rfl h (fun r38 iv37 h => ?_)
        refine wp_s hT 5 (i' := 227) (L' := [some (.ref 1000004), some (.ref 1), some (.ref 74), some (.int x3)]) (st' := [.int (x3 + (nI 1)), .ref 1000004, .ref 74, .int r38]) rfl ?_
        refine wp_tald (a := 4) hT rfl rfl (by decide) ⟨h.1, ?_⟩
        have h := h.2
        refine wp_calli hT rfl rfl h (fun r40 iv39 h => ?_)
        refine wp_ic_eq hT rfl ⟨fun c => ?_, fun c => ?_⟩
        · have h := h.1 c
          refine wp_s hT 2 (i' := 10) (L' := [some (.ref 1000004), some (.ref 1), some (.ref 74), some (.int (x3 + nI 6))]) (st' := []) rfl ?_
          exact h
        · have h := h.2 c
          refine wp_s hT 1 (i' := 231) (L' := [some (.ref 1000004), some (.ref 1), some (.ref 74), some (.int x3)]) (st' := [.int (nI 0)]) rfl ?_
          exact wp_rz hT rfl rfl ⟨Or.inl rfl, ⟨_, rfl, h⟩⟩
      | 10, _, ek =>
        refine wp_sw hT rfl (i' := 232) (st' := []) (by rw [ek]; rfl) ?_
        have h := h.2.2.2.2.2.2.2.2.2.2.1 ek
        refine wp_s hT 5 (i' := 237) (L' := [some (.ref 1000004), some (.ref 1), some (.ref 74), some (.int x3)]) (st' := [.int (x3 + (nI 1)), .ref 1000004, .ref 1]) rfl ?_
        refine wp_tald (a := 4) hT rfl rfl (by decide) ⟨h.1, ?_⟩
        have h := h.2
        refine wp_s hT 4 (i' := 242) (L' := [some (.ref 1000004), some (.ref 1), some (.ref 74), some (.int x3)]) (st' := [.int (x3 + (nI 2)), .ref 1000004, .int ((mm_S X 4).2 (x3 + (nI 1)).toNatClampNeg), .ref 1]) rfl ?_
        refine wp_tald (a := 4) hT rfl rfl (by decide) ⟨h.1, ?_⟩
        have h := h.2
        refine wp_s hT 4 (i' := 247) (L' := [some (.ref 1000004), some (.ref 1), some (.ref 74), some (.int x3)]) (st' := [.int (x3 + (nI 3)), .ref 1000004, .int ((mm_S X 4).2 (x3 + (nI 2)).toNatClampNeg), .int ((mm_S X 4).2 (x3 + (nI 1)).toNatClampNeg), .ref 1]) rfl ?_
        refine wp_tald (a := 4) hT rfl rfl (by decide) ⟨h.1, ?_⟩
        have h := h.2
        refine wp_calli hT rfl rfl h (fun r42 iv41 h => ?_)
        refine wp_s hT 5 (i' := 254) (L' := [some (.ref 1000004), some (.ref 1), some (.ref 74), some (.int x3)]) (st' := [.int (x3 + (nI 1)), .ref 1000004, .ref 74, .int r42]) rfl ?_
        refine wp_tald (a := 4) hT rfl rfl (by decide) ⟨h.1, ?_⟩
        have h := h.2
        refine wp_s hT 4 (i' := 259) (L' := [some (.ref 1000004), some (.ref 1), some (.ref 74), some (.int x3)]) (st' := [.int (x3 + (nI 2)), .ref 1000004, .int ((mm_S X 4).2 (x3 + (nI 1)).toNatClampNeg), .ref 74, .int r42]) rfl ?_
        refine wp_tald (a := 4) hT rfl rfl (by decide) ⟨h.1, ?_⟩
        have h := h.2
        refine wp_s hT 4 (i' := 264) (L' := [some (.ref 1000004), some (.ref 1), some (.ref 74), some (.int x3)]) (st' := [.int (x3 + (nI 3)), .ref 1000004, .int ((mm_S X 4).2 (x3 + (nI 2)).toNatClampNeg), .int ((mm_S X 4).2 (x3 + (nI 1)).toNatClampNeg), .ref 74, .int r42]) rfl ?_
        refine wp_tald (a := 4) hT rfl rfl (by decide) ⟨h.1, ?_⟩
        have h := h.2
        refine wp_calli hT rfl rfl h (fun r44 iv43 h => ?_)
        refine wp_ic_eq hT rfl ⟨fun c => ?_, fun c => ?_⟩
        · have h := h.1 c
          refine wp_s hT 2 (i' := 10) (L' := [some (.ref 1000004), some (.ref 1), some (.ref 74), some (.int (x3 + nI 6))]) (st' := []) rfl ?_
          exact h
        · have h := h.2 c
          refine wp_s hT 1 (i' := 268) (L' := [some (.ref 1000004), some (.ref 1), some (.ref 74), some (.int x3)]) (st' := [.int (nI 0)]) rfl ?_
          exact wp_rz hT rfl rfl ⟨Or.inl rfl, ⟨_, rfl, h⟩⟩
      | 11, _, ek =>
        refine wp_sw hT rfl (i' := 269) (st' := []) (by rw [ek]; rfl) ?_
        have h := h.2.2.2.2.2.2.2.2.2.2.2.1 ek
        refine wp_s hT 5 (i' := 274) (L' := [some (.ref 1000004), some (.ref 1), some (.ref 74), some (.int x3)]) (st' := [.int (x3 + (nI 1)), .ref 1000004, .ref 1]) rfl ?_
        refine wp_tald (a := 4) hT rfl rfl (by decide) ⟨h.1, ?_⟩
        have h := h.2
        refine wp_s hT 4 (i' := 279) (L' := [some (.ref 1000004), some (.ref 1), some (.ref 74), some (.int x3)]) (st' := [.int (x3 + (nI 2)), .ref 1000004, .int ((mm_S X 4).2 (x3 + (nI 1)).toNatClampNeg), .ref 1]) rfl ?_
        refine wp_tald (a := 4) hT rfl rfl (by decide) ⟨h.1, ?_⟩
        have h := h.2
        refine wp_calli hT rfl rfl h (fun r46 iv45 h => ?_)
        refine wp_s hT 5 (i' := 286) (L' := [some (.ref 1000004), some (.ref 1), some (.ref 74), some (.int x3)]) (st' := [.int (x3 + (nI 1)), .ref 1000004, .ref 74, .int r46]) rfl ?_
        refine wp_tald (a := 4) hT rfl rfl (by decide) ⟨h.1, ?_⟩
        have h := h.2
        refine wp_s hT 4 (i' := 291) (L' := [some (.ref 1000004), some (.ref 1), some (.ref 74), some (.int x3)]) (st' := [.int (x3 + (nI 2)), .ref 1000004, .int ((mm_S X 4).2 (x3 + (nI 1)).toNatClampNeg), .ref 74, .int r46]) rfl ?_
        refine wp_tald (a := 4) hT rfl rfl (by decide) ⟨h.1, ?_⟩
        have h := h.2
        refine wp_calli hT rfl rfl h (fun r48 iv47 h => ?_)
        refine wp_ic_eq hT rfl ⟨fun c => ?_, fun c => ?_⟩
        · have h := h.1 c
          refine wp_s hT 2 (i' := 10) (L' := [some (.ref 1000004), some (.ref 1), some (.ref 74), some (.int (x3 + nI 6))]) (st' := []) rfl ?_
          exact h
        · have h := h.2 c
          refine wp_s hT 1 (i' := 295) (L' := [some (.ref 1000004), some (.ref 1), some (.ref 74), some (.int x3)]) (st' := [.int (nI 0)]) rfl ?_
          exact wp_rz hT rfl rfl ⟨Or.inl rfl, ⟨_, rfl, h⟩⟩
      | 12, _, ek =>
        refine wp_sw hT rfl (i' := 296) (st' := []) (by rw [ek]; rfl) ?_
        have h := h.2.2.2.2.2.2.2.2.2.2.2.2.1 ek
        refine wp_s hT 5 (i' := 301) (L' := [some (.ref 1000004), some (.ref 1), some (.ref 74), some (.int x3)]) (st' := [.int (x3 + (nI 1)), .ref 1000004, .ref 1]) rfl ?_
        refine wp_tald (a := 4) hT rfl rfl (by decide) ⟨h.1, ?_⟩
        have h := h.2
        refine wp_s hT 4 (i' := 306) (L' := [some (.ref 1000004), some (.ref 1), some (.ref 74), some (.int x3)]) (st' := [.int (x3 + (nI 2)), .ref 1000004, .int ((mm_S X 4).2 (x3 + (nI 1)).toNatClampNeg), .ref 1]) rfl ?_
        refine wp_tald (a := 4) hT rfl rfl (by decide) ⟨h.1, ?_⟩
        have h := h.2
        refine wp_calli hT rfl rfl h (fun r50 iv49 h => ?_)
        refine wp_s hT 5 (i' := 313) (L' := [some (.ref 1000004), some (.ref 1), some (.ref 74), some (.int x3)]) (st' := [.int (x3 + (nI 1)), .ref 1000004, .ref 74, .int r50]) rfl ?_
        refine wp_tald (a := 4) hT rfl rfl (by decide) ⟨h.1, ?_⟩
        have h := h.2
        refine wp_s hT 4 (i' := 318) (L' := [some (.ref 1000004), some (.ref 1), some (.ref 74), some (.int x3)]) (st' := [.int (x3 + (nI 2)), .ref 1000004, .int ((mm_S X 4).2 (x3 + (nI 1)).toNatClampNeg), .ref 74, .int r50]) rfl ?_
        refine wp_tald (a := 4) hT rfl rfl (by decide) ⟨h.1, ?_⟩
        have h := h.2
        refine wp_calli hT rfl rfl h (fun r52 iv51 h => ?_)
        refine wp_ic_eq hT rfl ⟨fun c => ?_, fun c => ?_⟩
        · have h := h.1 c
          refine wp_s hT 2 (i' := 10) (L' := [some (.ref 1000004), some (.ref 1), some (.ref 74), some (.int (x3 + nI 6))]) (st' := []) rfl ?_
          exact h
        · have h := h.2 c
          refine wp_s hT 1 (i' := 322) (L' := [some (.ref 1000004), some (.ref 1), some (.ref 74), some (.int x3)]) (st' := [.int (nI 0)]) rfl ?_
          exact wp_rz hT rfl rfl ⟨Or.inl rfl, ⟨_, rfl, h⟩⟩
      | 13, _, ek =>
        refine wp_sw hT rfl (i' := 323) (st' := []) (by rw [ek]; rfl) ?_
        have h := h.2.2.2.2.2.2.2.2.2.2.2.2.2.1 ek
        refine wp_s hT 1 (i' := 324) (L' := [some (.ref 1000004), some (.ref 1), some (.ref 74), some (.int x3)]) (st' := [.ref 1]) rfl ?_
        refine wp_calli hT rfl rfl h (fun r54 iv53 h => ?_)
        refine wp_s hT 1 (i' := 326) (L' := [some (.ref 1000004), some (.ref 1), some (.ref 74), some (.int x3)]) (st' := [.ref 74, .int r54]) rfl ?_
        refine wp_calli hT rfl rfl h (fun r56 iv55 h => ?_)
        refine wp_ic_eq hT rfl ⟨fun c => ?_, fun c => ?_⟩
        · have h := h.1 c
          refine wp_s hT 2 (i' := 10) (L' := [some (.ref 1000004), some (.ref 1), some (.ref 74), some (.int (x3 + nI 6))]) (st' := []) rfl ?_
          exact h
        · have h := h.2 c
          refine wp_s hT 1 (i' := 329) (L' := [some (.ref 1000004), some (.ref 1), some (.ref 74), some (.int x3)]) (st' := [.int (nI 0)]) rfl ?_
          exact wp_rz hT rfl rfl ⟨Or.inl rfl, ⟨_, rfl, h⟩⟩
      | 14, _, ek =>
        refine wp_sw hT rfl (i' := 330) (st' := []) (by rw [ek]; rfl) ?_
        have h := h.2.2.2.2.2.2.2.2.2.2.2.2.2.2.1 ek
        refine wp_s hT 1 (i' := 331) (L' := [some (.ref 1000004), some (.ref 1), some (.ref 74), some (.int x3)]) (st' := [.ref 1]) rfl ?_
        refine wp_calli hT rfl rfl h (fun r58 iv57 h => ?_)
        refine wp_s hT 1 (i' := 333) (L' := [some (.ref 1000004), some (.ref 1), some (.ref 74), some (.int x3)]) (st' := [.ref 74, .int r58]) rfl ?_
        refine wp_calli hT rfl rfl h (fun r60 iv59 h => ?_)
        refine wp_ic_eq hT rfl ⟨fun c => ?_, fun c => ?_⟩
        · have h := h.1 c
          refine wp_s hT 2 (i' := 10) (L' := [some (.ref 1000004), some (.ref 1), some (.ref 74), some (.int (x3 + nI 6))]) (st' := []) rfl ?_
          exact h
        · have h := h.2 c
          refine wp_s hT 1 (i' := 336) (L' := [some (.ref 1000004), some (.ref 1), some (.ref 74), some (.int x3)]) (st' := [.int (nI 0)]) rfl ?_
          exact wp_rz hT rfl rfl ⟨Or.inl rfl, ⟨_, rfl, h⟩⟩
      | 15, _, ek =>
        refine wp_sw hT rfl (i' := 337) (st' := []) (by rw [ek]; rfl) ?_
        have h := h.2.2.2.2.2.2.2.2.2.2.2.2.2.2.2.1 ek
        refine wp_s hT 5 (i' := 342) (L' := [some (.ref 1000004), some (.ref 1), some (.ref 74), some (.int x3)]) (st' := [.int (x3 + (nI 1)), .ref 1000004, .ref 1]) rfl ?_
        refine wp_tald (a := 4) hT rfl rfl (by decide) ⟨h.1, ?_⟩
        have h := h.2
        refine wp_s hT 4 (i' := 347) (L' := [some (.ref 1000004), some (.ref 1), some (.ref 74), some (.int x3)]) (st' := [.int (x3 + (nI 2)), .ref 1000004, .int ((mm_S X 4).2 (x3 + (nI 1)).toNatClampNeg), .ref 1]) rfl ?_
        refine wp_tald (a := 4) hT rfl rfl (by decide) ⟨h.1, ?_⟩
        have h := h.2
        refine wp_calli hT rfl rfl h (fun r62 iv61 h => ?_)
        refine wp_s hT 5 (i' := 354) (L' := [some (.ref 1000004), some (.ref 1), some (.ref 74), some (.int x3)]) (st' := [.int (x3 + (nI 1)), .ref 1000004, .ref 74, .int r62]) rfl ?_
        refine wp_tald (a := 4) hT rfl rfl (by decide) ⟨h.1, ?_⟩
        have h := h.2
        refine wp_s hT 4 (i' := 359) (L' := [some (.ref 1000004), some (.ref 1), some (.ref 74), some (.int x3)]) (st' := [.int (x3 + (nI 2)), .ref 1000004, .int ((mm_S X 4).2 (x3 + (nI 1)).toNatClampNeg), .ref 74, .int r62]) rfl ?_
        refine wp_tald (a := 4) hT rfl rfl (by decide) ⟨h.1, ?_⟩
        have h := h.2
        refine wp_calli hT rfl rfl h (fun r64 iv63 h => ?_)
        refine wp_ic_eq hT rfl ⟨fun c => ?_, fun c => ?_⟩
        · have h := h.1 c
          refine wp_s hT 2 (i' := 10) (L' := [some (.ref 1000004), some (.ref 1), some (.ref 74), some (.int (x3 + nI 6))]) (st' := []) rfl ?_
          exact h
        · have h := h.2 c
          refine wp_s hT 1 (i' := 363) (L' := [some (.ref 1000004), some (.ref 1), some (.ref 74), some (.int x3)]) (st' := [.int (nI 0)]) rfl ?_
          exact wp_rz hT rfl rfl ⟨Or.inl rfl, ⟨_, rfl, h⟩⟩
      | 16, _, ek =>
        refine wp_sw hT rfl (i' := 364) (st' := []) (by rw [ek]; rfl) ?_
        have h := h.2.2.2.2.2.2.2.2.2.2.2.2.2.2.2.2.1 ek
        refine wp_s hT 1 (i' := 365) (L' := [some (.ref 1000004), some (.ref 1), some (.ref 74), some (.int x3)]) (st' := [.ref 1]) rfl ?_
        refine wp_calli hT rfl rfl h (fun r66 iv65 h => ?_)
        refine wp_s hT 1 (i' := 367) (L' := [some (.ref 1000004), some (.ref 1), some (.ref 74), some (.int x3)]) (st' := [.ref 74, .int r66]) rfl ?_
        refine wp_calli hT rfl rfl h (fun r68 iv67 h => ?_)
        refine wp_ic_eq hT rfl ⟨fun c => ?_, fun c => ?_⟩
        · have h := h.1 c
          refine wp_s hT 2 (i' := 10) (L' := [some (.ref 1000004), some (.ref 1), some (.ref 74), some (.int (x3 + nI 6))]) (st' := []) rfl ?_
          exact h
        · have h := h.2 c
          refine wp_s hT 1 (i' := 370) (L' := [some (.ref 1000004), some (.ref 1), some (.ref 74), some (.int x3)]) (st' := [.int (nI 0)]) rfl ?_
          exact wp_rz hT rfl rfl ⟨Or.inl rfl, ⟨_, rfl, h⟩⟩
      | 17, _, ek =>
        refine wp_sw hT rfl (i' := 371) (st' := []) (by rw [ek]; rfl) ?_
        have h := h.2.2.2.2.2.2.2.2.2.2.2.2.2.2.2.2.2.1 ek
        refine wp_s hT 5 (i' := 376) (L' := [some (.ref 1000004), some (.ref 1), some (.ref 74), some (.int x3)]) (st' := [.int (x3 + (nI 1)), .ref 1000004, .ref 1]) rfl ?_
        refine wp_tald (a := 4) hT rfl rfl (by decide) ⟨h.1, ?_⟩
        have h := h.2
        refine wp_calli hT rfl rfl h (fun r70 iv69 h => ?_)
        refine wp_s hT 5 (i' := 383) (L' := [some (.ref 1000004), some (.ref 1), some (.ref 74), some (.int x3)]) (st' := [.int (x3 + (nI 1)), .ref 1000004, .ref 74, .int r70]) rfl ?_
        refine wp_tald (a := 4) hT rfl rfl (by decide) ⟨h.1, ?_⟩
        have h := h.2
        refine wp_calli hT rfl rfl h (fun r72 iv71 h => ?_)
        refine wp_ic_eq hT rfl ⟨fun c => ?_, fun c => ?_⟩
        · have h := h.1 c
          refine wp_s hT 2 (i' := 10) (L' := [some (.ref 1000004), some (.ref 1), some (.ref 74), some (.int (x3 + nI 6))]) (st' := []) rfl ?_
          exact h
        · have h := h.2 c
          refine wp_s hT 1 (i' := 387) (L' := [some (.ref 1000004), some (.ref 1), some (.ref 74), some (.int x3)]) (st' := [.int (nI 0)]) rfl ?_
          exact wp_rz hT rfl rfl ⟨Or.inl rfl, ⟨_, rfl, h⟩⟩
      | 18, _, ek =>
        refine wp_sw hT rfl (i' := 388) (st' := []) (by rw [ek]; rfl) ?_
        have h := h.2.2.2.2.2.2.2.2.2.2.2.2.2.2.2.2.2.2.1 ek
        refine wp_s hT 5 (i' := 393) (L' := [some (.ref 1000004), some (.ref 1), some (.ref 74), some (.int x3)]) (st' := [.int (x3 + (nI 1)), .ref 1000004, .ref 1]) rfl ?_
        refine wp_tald (a := 4) hT rfl rfl (by decide) ⟨h.1, ?_⟩
        have h := h.2
        refine wp_calli hT rfl rfl h (fun r74 iv73 h => ?_)
        refine wp_s hT 5 (i' := 400) (L' := [some (.ref 1000004), some (.ref 1), some (.ref 74), some (.int x3)]) (st' := [.int (x3 + (nI 1)), .ref 1000004, .ref 74, .int r74]) rfl ?_
        refine wp_tald (a := 4) hT rfl rfl (by decide) ⟨h.1, ?_⟩
        have h := h.2
        refine wp_calli hT rfl rfl h (fun r76 iv75 h => ?_)
        refine wp_ic_eq hT rfl ⟨fun c => ?_, fun c => ?_⟩
        · have h := h.1 c
          refine wp_s hT 2 (i' := 10) (L' := [some (.ref 1000004), some (.ref 1), some (.ref 74), some (.int (x3 + nI 6))]) (st' := []) rfl ?_
          exact h
        · have h := h.2 c
          refine wp_s hT 1 (i' := 404) (L' := [some (.ref 1000004), some (.ref 1), some (.ref 74), some (.int x3)]) (st' := [.int (nI 0)]) rfl ?_
          exact wp_rz hT rfl rfl ⟨Or.inl rfl, ⟨_, rfl, h⟩⟩
      | 19, _, ek =>
        refine wp_sw hT rfl (i' := 405) (st' := []) (by rw [ek]; rfl) ?_
        have h := h.2.2.2.2.2.2.2.2.2.2.2.2.2.2.2.2.2.2.2.1 ek
        refine wp_s hT 5 (i' := 410) (L' := [some (.ref 1000004), some (.ref 1), some (.ref 74), some (.int x3)]) (st' := [.int (x3 + (nI 1)), .ref 1000004, .ref 1]) rfl ?_
        refine wp_tald (a := 4) hT rfl rfl (by decide) ⟨h.1, ?_⟩
        have h := h.2
        refine wp_s hT 4 (i' := 415) (L' := [some (.ref 1000004), some (.ref 1), some (.ref 74), some (.int x3)]) (st' := [.int (x3 + (nI 2)), .ref 1000004, .int ((mm_S X 4).2 (x3 + (nI 1)).toNatClampNeg), .ref 1]) rfl ?_
        refine wp_tald (a := 4) hT rfl rfl (by decide) ⟨h.1, ?_⟩
        have h := h.2
        refine wp_calli hT rfl rfl h (fun r78 iv77 h => ?_)
        refine wp_s hT 5 (i' := 422) (L' := [some (.ref 1000004), some (.ref 1), some (.ref 74), some (.int x3)]) (st' := [.int (x3 + (nI 1)), .ref 1000004, .ref 74, .int r78]) rfl ?_
        refine wp_tald (a := 4) hT rfl rfl (by decide) ⟨h.1, ?_⟩
        have h := h.2
        refine wp_s hT 4 (i' := 427) (L' := [some (.ref 1000004), some (.ref 1), some (.ref 74), some (.int x3)]) (st' := [.int (x3 + (nI 2)), .ref 1000004, .int ((mm_S X 4).2 (x3 + (nI 1)).toNatClampNeg), .ref 74, .int r78]) rfl ?_
        refine wp_tald (a := 4) hT rfl rfl (by decide) ⟨h.1, ?_⟩
        have h := h.2
        refine wp_calli hT rfl rfl h (fun r80 iv79 h => ?_)
        refine wp_ic_eq hT rfl ⟨fun c => ?_, fun c => ?_⟩
        · have h := h.1 c
          refine wp_s hT 2 (i' := 10) (L' := [some (.ref 1000004), some (.ref 1), some (.ref 74), some (.int (x3 + nI 6))]) (st' := []) rfl ?_
          exact h
        · have h := h.2 c
          refine wp_s hT 1 (i' := 431) (L' := [some (.ref 1000004), some (.ref 1), some (.ref 74), some (.int x3)]) (st' := [.int (nI 0)]) rfl ?_
          exact wp_rz hT rfl rfl ⟨Or.inl rfl, ⟨_, rfl, h⟩⟩
      | 20, _, ek =>
        refine wp_sw hT rfl (i' := 432) (st' := []) (by rw [ek]; rfl) ?_
        have h := h.2.2.2.2.2.2.2.2.2.2.2.2.2.2.2.2.2.2.2.2.1 ek
        refine wp_s hT 5 (i' := 437) (L' := [some (.ref 1000004), some (.ref 1), some (.ref 74), some (.int x3)]) (st' := [.int (x3 + (nI 1)), .ref 1000004, .ref 1]) rfl ?_
        refine wp_tald (a := 4) hT rfl rfl (by decide) ⟨h.1, ?_⟩
        have h := h.2
        refine wp_s hT 4 (i' := 442) (L' := [some (.ref 1000004), some (.ref 1), some (.ref 74), some (.int x3)]) (st' := [.int (x3 + (nI 2)), .ref 1000004, .int ((mm_S X 4).2 (x3 + (nI 1)).toNatClampNeg), .ref 1]) rfl ?_
        refine wp_tald (a := 4) hT rfl rfl (by decide) ⟨h.1, ?_⟩
        have h := h.2
        refine wp_calli hT rfl rfl h (fun r82 iv81 h => ?_)
        refine wp_s hT 5 (i' := 449) (L' := [some (.ref 1000004), some (.ref 1), some (.ref 74), some (.int x3)]) (st' := [.int (x3 + (nI 1)), .ref 1000004, .ref 74, .int r82]) rfl ?_
        refine wp_tald (a := 4) hT rfl rfl (by decide) ⟨h.1, ?_⟩
        have h := h.2
        refine wp_s hT 4 (i' := 454) (L' := [some (.ref 1000004), some (.ref 1), some (.ref 74), some (.int x3)]) (st' := [.int (x3 + (nI 2)), .ref 1000004, .int ((mm_S X 4).2 (x3 + (nI 1)).toNatClampNeg), .ref 74, .int r82]) rfl ?_
        refine wp_tald (a := 4) hT rfl rfl (by decide) ⟨h.1, ?_⟩
        have h := h.2
        refine wp_calli hT rfl rfl h (fun r84 iv83 h => ?_)
        refine wp_ic_eq hT rfl ⟨fun c => ?_, fun c => ?_⟩
        · have h := h.1 c
          refine wp_s hT 2 (i' := 10) (L' := [some (.ref 1000004), some (.ref 1), some (.ref 74), some (.int (x3 + nI 6))]) (st' := []) rfl ?_
          exact h
        · have h := h.2 c
          refine wp_s hT 1 (i' := 458) (L' := [some (.ref 1000004), some (.ref 1), some (.ref 74), some (.int x3)]) (st' := [.int (nI 0)]) rfl ?_
          exact wp_rz hT rfl rfl ⟨Or.inl rfl, ⟨_, rfl, h⟩⟩
      | 21, _, ek =>
        refine wp_sw hT rfl (i' := 459) (st' := []) (by rw [ek]; rfl) ?_
        have h := h.2.2.2.2.2.2.2.2.2.2.2.2.2.2.2.2.2.2.2.2.2.1 ek
        refine wp_s hT 5 (i' := 464) (L' := [some (.ref 1000004), some (.ref 1), some (.ref 74), some (.int x3)]) (st' := [.int (x3 + (nI 1)), .ref 1000004, .ref 1]) rfl ?_
        refine wp_tald (a := 4) hT rfl rfl (by decide) ⟨h.1, ?_⟩
        have h := h.2
        refine wp_calli hT rfl rfl h (fun r86 iv85 h => ?_)
        refine wp_s hT 5 (i' := 471) (L' := [some (.ref 1000004), some (.ref 1), some (.ref 74), some (.int x3)]) (st' := [.int (x3 + (nI 1)), .ref 1000004, .ref 74, .int r86]) rfl ?_
        refine wp_tald (a := 4) hT rfl rfl (by decide) ⟨h.1, ?_⟩
        have h := h.2
        refine wp_calli hT rfl rfl h (fun r88 iv87 h => ?_)
        refine wp_ic_eq hT rfl ⟨fun c => ?_, fun c => ?_⟩
        · have h := h.1 c
          refine wp_s hT 2 (i' := 10) (L' := [some (.ref 1000004), some (.ref 1), some (.ref 74), some (.int (x3 + nI 6))]) (st' := []) rfl ?_
          exact h
        · have h := h.2 c
          refine wp_s hT 1 (i' := 475) (L' := [some (.ref 1000004), some (.ref 1), some (.ref 74), some (.int x3)]) (st' := [.int (nI 0)]) rfl ?_
          exact wp_rz hT rfl rfl ⟨Or.inl rfl, ⟨_, rfl, h⟩⟩
      | 22, _, ek =>
        refine wp_sw hT rfl (i' := 476) (st' := []) (by rw [ek]; rfl) ?_
        have h := h.2.2.2.2.2.2.2.2.2.2.2.2.2.2.2.2.2.2.2.2.2.2.1 ek
        refine wp_s hT 5 (i' := 481) (L' := [some (.ref 1000004), some (.ref 1), some (.ref 74), some (.int x3)]) (st' := [.int (x3 + (nI 1)), .ref 1000004, .ref 1]) rfl ?_
        refine wp_tald (a := 4) hT rfl rfl (by decide) ⟨h.1, ?_⟩
        have h := h.2
        refine wp_s hT 4 (i' := 486) (L' := [some (.ref 1000004), some (.ref 1), some (.ref 74), some (.int x3)]) (st' := [.int (x3 + (nI 2)), .ref 1000004, .int ((mm_S X 4).2 (x3 + (nI 1)).toNatClampNeg), .ref 1]) rfl ?_
        refine wp_tald (a := 4) hT rfl rfl (by decide) ⟨h.1, ?_⟩
        have h := h.2
        refine wp_s hT 4 (i' := 491) (L' := [some (.ref 1000004), some (.ref 1), some (.ref 74), some (.int x3)]) (st' := [.int (x3 + (nI 3)), .ref 1000004, .int ((mm_S X 4).2 (x3 + (nI 2)).toNatClampNeg), .int ((mm_S X 4).2 (x3 + (nI 1)).toNatClampNeg), .ref 1]) rfl ?_
        refine wp_tald (a := 4) hT rfl rfl (by decide) ⟨h.1, ?_⟩
        have h := h.2
        refine wp_calli hT rfl rfl h (fun r90 iv89 h => ?_)
        refine wp_s hT 5 (i' := 498) (L' := [some (.ref 1000004), some (.ref 1), some (.ref 74), some (.int x3)]) (st' := [.int (x3 + (nI 1)), .ref 1000004, .ref 74, .int r90]) rfl ?_
        refine wp_tald (a := 4) hT rfl rfl (by decide) ⟨h.1, ?_⟩
        have h := h.2
        refine wp_s hT 4 (i' := 503) (L' := [some (.ref 1000004), some (.ref 1), some (.ref 74), some (.int x3)]) (st' := [.int (x3 + (nI 2)), .ref 1000004, .int ((mm_S X 4).2 (x3 + (nI 1)).toNatClampNeg), .ref 74, .int r90]) rfl ?_
        refine wp_tald (a := 4) hT rfl rfl (by decide) ⟨h.1, ?_⟩
        have h := h.2
        refine wp_s hT 4 (i' := 508) (L' := [some (.ref 1000004), some (.ref 1), some (.ref 74), some (.int x3)]) (st' := [.int (x3 + (nI 3)), .ref 1000004, .int ((mm_S X 4).2 (x3 + (nI 2)).toNatClampNeg), .int ((mm_S X 4).2 (x3 + (nI 1)).toNatClampNeg), .ref 74, .int r90]) rfl ?_
        refine wp_tald (a := 4) hT rfl rfl (by decide) ⟨h.1, ?_⟩
        have h := h.2
        refine wp_calli hT rfl rfl h (fun r92 iv91 h => ?_)
        refine wp_ic_eq hT rfl ⟨fun c => ?_, fun c => ?_⟩
        · have h := h.1 c
          refine wp_s hT 2 (i' := 10) (L' := [some (.ref 1000004), some (.ref 1), some (.ref 74), some (.int (x3 + nI 6))]) (st' := []) rfl ?_
          exact h
        · have h := h.2 c
          refine wp_s hT 1 (i' := 512) (L' := [some (.ref 1000004), some (.ref 1), some (.ref 74), some (.int x3)]) (st' := [.int (nI 0)]) rfl ?_
          exact wp_rz hT rfl rfl ⟨Or.inl rfl, ⟨_, rfl, h⟩⟩
      | 23, _, ek =>
        refine wp_sw hT rfl (i' := 513) (st' := []) (by rw [ek]; rfl) ?_
        have h := h.2.2.2.2.2.2.2.2.2.2.2.2.2.2.2.2.2.2.2.2.2.2.2.1 ek
        refine wp_s hT 5 (i' := 518) (L' := [some (.ref 1000004), some (.ref 1), some (.ref 74), some (.int x3)]) (st' := [.int (x3 + (nI 1)), .ref 1000004, .ref 1]) rfl ?_
        refine wp_tald (a := 4) hT rfl rfl (by decide) ⟨h.1, ?_⟩
        have h := h.2
        refine wp_calli hT rfl rfl h (fun r94 iv93 h => ?_)
        refine wp_s hT 5 (i' := 525) (L' := [some (.ref 1000004), some (.ref 1), some (.ref 74), some (.int x3)]) (st' := [.int (x3 + (nI 1)), .ref 1000004, .ref 74, .int r94]) rfl ?_
        refine wp_tald (a := 4) hT rfl rfl (by decide) ⟨h.1, ?_⟩
        have h := h.2
        refine wp_calli hT rfl rfl h (fun r96 iv95 h => ?_)
        refine wp_ic_eq hT rfl ⟨fun c => ?_, fun c => ?_⟩
        · have h := h.1 c
          refine wp_s hT 2 (i' := 10) (L' := [some (.ref 1000004), some (.ref 1), some (.ref 74), some (.int (x3 + nI 6))]) (st' := []) rfl ?_
          exact h
        · have h := h.2 c
          refine wp_s hT 1 (i' := 529) (L' := [some (.ref 1000004), some (.ref 1), some (.ref 74), some (.int x3)]) (st' := [.int (nI 0)]) rfl ?_
          exact wp_rz hT rfl rfl ⟨Or.inl rfl, ⟨_, rfl, h⟩⟩
      | 24, _, ek =>
        refine wp_sw hT rfl (i' := 530) (st' := []) (by rw [ek]; rfl) ?_
        have h := h.2.2.2.2.2.2.2.2.2.2.2.2.2.2.2.2.2.2.2.2.2.2.2.2.1 ek
        refine wp_s hT 5 (i' := 535) (L' := [some (.ref 1000004), some (.ref 1), some (.ref 74), some (.int x3)]) (st' := [.int (x3 + (nI 1)), .ref 1000004, .ref 1]) rfl ?_
        refine wp_tald (a := 4) hT rfl rfl (by decide) ⟨h.1, ?_⟩
        have h := h.2
        refine wp_s hT 4 (i' := 540) (L' := [some (.ref 1000004), some (.ref 1), some (.ref 74), some (.int x3)]) (st' := [.int (x3 + (nI 2)), .ref 1000004, .int ((mm_S X 4).2 (x3 + (nI 1)).toNatClampNeg), .ref 1]) rfl ?_
        refine wp_tald (a := 4) hT rfl rfl (by decide) ⟨h.1, ?_⟩
        have h := h.2
        refine wp_s hT 4 (i' := 545) (L' := [some (.ref 1000004), some (.ref 1), some (.ref 74), some (.int x3)]) (st' := [.int (x3 + (nI 3)), .ref 1000004, .int ((mm_S X 4).2 (x3 + (nI 2)).toNatClampNeg), .int ((mm_S X 4).2 (x3 + (nI 1)).toNatClampNeg), .ref 1]) rfl ?_
        refine wp_tald (a := 4) hT rfl rfl (by decide) ⟨h.1, ?_⟩
        have h := h.2
        refine wp_s hT 4 (i' := 550) (L' := [some (.ref 1000004), some (.ref 1), some (.ref 74), some (.int x3)]) (st' := [.int (x3 + (nI 4)), .ref 1000004, .int ((mm_S X 4).2 (x3 + (nI 3)).toNatClampNeg), .int ((mm_S X 4).2 (x3 + (nI 2)).toNatClampNeg), .int ((mm_S X 4).2 (x3 + (nI 1)).toNatClampNeg), .ref 1]) rfl ?_
        refine wp_tald (a := 4) hT rfl rfl (by decide) ⟨h.1, ?_⟩
        have h := h.2
        refine wp_calli hT rfl rfl h (fun r98 iv97 h => ?_)
        refine wp_s hT 5 (i' := 557) (L' := [some (.ref 1000004), some (.ref 1), some (.ref 74), some (.int x3)]) (st' := [.int (x3 + (nI 1)), .ref 1000004, .ref 74, .int r98]) rfl ?_
        refine wp_tald (a := 4) hT rfl rfl (by decide) ⟨h.1, ?_⟩
        have h := h.2
        refine wp_s hT 4 (i' := 562) (L' := [some (.ref 1000004), some (.ref 1), some (.ref 74), some (.int x3)]) (st' := [.int (x3 + (nI 2)), .ref 1000004, .int ((mm_S X 4).2 (x3 + (nI 1)).toNatClampNeg), .ref 74, .int r98]) rfl ?_
        refine wp_tald (a := 4) hT rfl rfl (by decide) ⟨h.1, ?_⟩
        have h := h.2
        refine wp_s hT 4 (i' := 567) (L' := [some (.ref 1000004), some (.ref 1), some (.ref 74), some (.int x3)]) (st' := [.int (x3 + (nI 3)), .ref 1000004, .int ((mm_S X 4).2 (x3 + (nI 2)).toNatClampNeg), .int ((mm_S X 4).2 (x3 + (nI 1)).toNatClampNeg), .ref 74, .int r98]) rfl ?_
        refine wp_tald (a := 4) hT rfl rfl (by decide) ⟨h.1, ?_⟩
        have h := h.2
        refine wp_s hT 4 (i' := 572) (L' := [some (.ref 1000004), some (.ref 1), some (.ref 74), some (.int x3)]) (st' := [.int (x3 + (nI 4)), .ref 1000004, .int ((mm_S X 4).2 (x3 + (nI 3)).toNatClampNeg), .int ((mm_S X 4).2 (x3 + (nI 2)).toNatClampNeg), .int ((mm_S X 4).2 (x3 + (nI 1)).toNatClampNeg), .ref 74, .int r98]) rfl ?_
        refine wp_tald (a := 4) hT rfl rfl (by decide) ⟨h.1, ?_⟩
        have h := h.2
        refine wp_calli hT rfl rfl h (fun r100 iv99 h => ?_)
        refine wp_ic_eq hT rfl ⟨fun c => ?_, fun c => ?_⟩
        · have h := h.1 c
          refine wp_s hT 2 (i' := 10) (L' := [some (.ref 1000004), some (.ref 1), some (.ref 74), some (.int (x3 + nI 6))]) (st' := []) rfl ?_
          exact h
        · have h := h.2 c
          refine wp_s hT 1 (i' := 576) (L' := [some (.ref 1000004), some (.ref 1), some (.ref 74), some (.int x3)]) (st' := [.int (nI 0)]) rfl ?_
          exact wp_rz hT rfl rfl ⟨Or.inl rfl, ⟨_, rfl, h⟩⟩
      | 25, _, ek =>
        refine wp_sw hT rfl (i' := 577) (st' := []) (by rw [ek]; rfl) ?_
        have h := h.2.2.2.2.2.2.2.2.2.2.2.2.2.2.2.2.2.2.2.2.2.2.2.2.2.1 ek
        refine wp_s hT 5 (i' := 582) (L' := [some (.ref 1000004), some (.ref 1), some (.ref 74), some (.int x3)]) (st' := [.int (x3 + (nI 1)), .ref 1000004, .ref 1]) rfl ?_
        refine wp_tald (a := 4) hT rfl rfl (by decide) ⟨h.1, ?_⟩
        have h := h.2
        refine wp_s hT 4 (i' := 587) (L' := [some (.ref 1000004), some (.ref 1), some (.ref 74), some (.int x3)]) (st' := [.int (x3 + (nI 2)), .ref 1000004, .int ((mm_S X 4).2 (x3 + (nI 1)).toNatClampNeg), .ref 1]) rfl ?_
        refine wp_tald (a := 4) hT rfl rfl (by decide) ⟨h.1, ?_⟩
        have h := h.2
        refine wp_s hT 4 (i' := 592) (L' := [some (.ref 1000004), some (.ref 1), some (.ref 74), some (.int x3)]) (st' := [.int (x3 + (nI 3)), .ref 1000004, .int ((mm_S X 4).2 (x3 + (nI 2)).toNatClampNeg), .int ((mm_S X 4).2 (x3 + (nI 1)).toNatClampNeg), .ref 1]) rfl ?_
        refine wp_tald (a := 4) hT rfl rfl (by decide) ⟨h.1, ?_⟩
        have h := h.2
        refine wp_calli hT rfl rfl h (fun r102 iv101 h => ?_)
        refine wp_s hT 5 (i' := 599) (L' := [some (.ref 1000004), some (.ref 1), some (.ref 74), some (.int x3)]) (st' := [.int (x3 + (nI 1)), .ref 1000004, .ref 74, .int r102]) rfl ?_
        refine wp_tald (a := 4) hT rfl rfl (by decide) ⟨h.1, ?_⟩
        have h := h.2
        refine wp_s hT 4 (i' := 604) (L' := [some (.ref 1000004), some (.ref 1), some (.ref 74), some (.int x3)]) (st' := [.int (x3 + (nI 2)), .ref 1000004, .int ((mm_S X 4).2 (x3 + (nI 1)).toNatClampNeg), .ref 74, .int r102]) rfl ?_
        refine wp_tald (a := 4) hT rfl rfl (by decide) ⟨h.1, ?_⟩
        have h := h.2
        refine wp_s hT 4 (i' := 609) (L' := [some (.ref 1000004), some (.ref 1), some (.ref 74), some (.int x3)]) (st' := [.int (x3 + (nI 3)), .ref 1000004, .int ((mm_S X 4).2 (x3 + (nI 2)).toNatClampNeg), .int ((mm_S X 4).2 (x3 + (nI 1)).toNatClampNeg), .ref 74, .int r102]) rfl ?_
        refine wp_tald (a := 4) hT rfl rfl (by decide) ⟨h.1, ?_⟩
        have h := h.2
        refine wp_calli hT rfl rfl h (fun r104 iv103 h => ?_)
        refine wp_ic_eq hT rfl ⟨fun c => ?_, fun c => ?_⟩
        · have h := h.1 c
          refine wp_s hT 2 (i' := 10) (L' := [some (.ref 1000004), some (.ref 1), some (.ref 74), some (.int (x3 + nI 6))]) (st' := []) rfl ?_
          exact h
        · have h := h.2 c
          refine wp_s hT 1 (i' := 613) (L' := [some (.ref 1000004), some (.ref 1), some (.ref 74), some (.int x3)]) (st' := [.int (nI 0)]) rfl ?_
          exact wp_rz hT rfl rfl ⟨Or.inl rfl, ⟨_, rfl, h⟩⟩
      | 26, _, ek =>
        refine wp_sw hT rfl (i' := 614) (st' := []) (by rw [ek]; rfl) ?_
        have h := h.2.2.2.2.2.2.2.2.2.2.2.2.2.2.2.2.2.2.2.2.2.2.2.2.2.2.1 ek
        refine wp_s hT 5 (i' := 619) (L' := [some (.ref 1000004), some (.ref 1), some (.ref 74), some (.int x3)]) (st' := [.int (x3 + (nI 1)), .ref 1000004, .ref 1]) rfl ?_
        refine wp_tald (a := 4) hT rfl rfl (by decide) ⟨h.1, ?_⟩
        have h := h.2
        refine wp_s hT 4 (i' := 624) (L' := [some (.ref 1000004), some (.ref 1), some (.ref 74), some (.int x3)]) (st' := [.int (x3 + (nI 2)), .ref 1000004, .int ((mm_S X 4).2 (x3 + (nI 1)).toNatClampNeg), .ref 1]) rfl ?_
        refine wp_tald (a := 4) hT rfl rfl (by decide) ⟨h.1, ?_⟩
        have h := h.2
        refine wp_s hT 4 (i' := 629) (L' := [some (.ref 1000004), some (.ref 1), some (.ref 74), some (.int x3)]) (st' := [.int (x3 + (nI 3)), .ref 1000004, .int ((mm_S X 4).2 (x3 + (nI 2)).toNatClampNeg), .int ((mm_S X 4).2 (x3 + (nI 1)).toNatClampNeg), .ref 1]) rfl ?_
        refine wp_tald (a := 4) hT rfl rfl (by decide) ⟨h.1, ?_⟩
        have h := h.2
        refine wp_s hT 4 (i' := 634) (L' := [some (.ref 1000004), some (.ref 1), some (.ref 74), some (.int x3)]) (st' := [.int (x3 + (nI 4)), .ref 1000004, .int ((mm_S X 4).2 (x3 + (nI 3)).toNatClampNeg), .int ((mm_S X 4).2 (x3 + (nI 2)).toNatClampNeg), .int ((mm_S X 4).2 (x3 + (nI 1)).toNatClampNeg), .ref 1]) rfl ?_
        refine wp_tald (a := 4) hT rfl rfl (by decide) ⟨h.1, ?_⟩
        have h := h.2
        refine wp_s hT 4 (i' := 639) (L' := [some (.ref 1000004), some (.ref 1), some (.ref 74), some (.int x3)]) (st' := [.int (x3 + (nI 5)), .ref 1000004, .int ((mm_S X 4).2 (x3 + (nI 4)).toNatClampNeg), .int ((mm_S X 4).2 (x3 + (nI 3)).toNatClampNeg), .int ((mm_S X 4).2 (x3 + (nI 2)).toNatClampNeg), .int ((mm_S X 4).2 (x3 + (nI 1)).toNatClampNeg), .ref 1]) rfl ?_
        refine wp_tald (a := 4) hT rfl rfl (by decide) ⟨h.1, ?_⟩
        have h := h.2
        refine wp_calli hT rfl rfl h (fun r106 iv105 h => ?_)
        refine wp_s hT 5 (i' := 646) (L' := [some (.ref 1000004), some (.ref 1), some (.ref 74), some (.int x3)]) (st' := [.int (x3 + (nI 1)), .ref 1000004, .ref 74, .int r106]) rfl ?_
        refine wp_tald (a := 4) hT rfl rfl (by decide) ⟨h.1, ?_⟩
        have h := h.2
        refine wp_s hT 4 (i' := 651) (L' := [some (.ref 1000004), some (.ref 1), some (.ref 74), some (.int x3)]) (st' := [.int (x3 + (nI 2)), .ref 1000004, .int ((mm_S X 4).2 (x3 + (nI 1)).toNatClampNeg), .ref 74, .int r106]) rfl ?_
        refine wp_tald (a := 4) hT rfl rfl (by decide) ⟨h.1, ?_⟩
        have h := h.2
        refine wp_s hT 4 (i' := 656) (L' := [some (.ref 1000004), some (.ref 1), some (.ref 74), some (.int x3)]) (st' := [.int (x3 + (nI 3)), .ref 1000004, .int ((mm_S X 4).2 (x3 + (nI 2)).toNatClampNeg), .int ((mm_S X 4).2 (x3 + (nI 1)).toNatClampNeg), .ref 74, .int r106]) rfl ?_
        refine wp_tald (a := 4) hT rfl rfl (by decide) ⟨h.1, ?_⟩
        have h := h.2
        refine wp_s hT 4 (i' := 661) (L' := [some (.ref 1000004), some (.ref 1), some (.ref 74), some (.int x3)]) (st' := [.int (x3 + (nI 4)), .ref 1000004, .int ((mm_S X 4).2 (x3 + (nI 3)).toNatClampNeg), .int ((mm_S X 4).2 (x3 + (nI 2)).toNatClampNeg), .int ((mm_S X 4).2 (x3 + (nI 1)).toNatClampNeg), .ref 74, .int r106]) rfl ?_
        refine wp_tald (a := 4) hT rfl rfl (by decide) ⟨h.1, ?_⟩
        have h := h.2
        refine wp_s hT 4 (i' := 666) (L' := [some (.ref 1000004), some (.ref 1), some (.ref 74), some (.int x3)]) (st' := [.int (x3 + (nI 5)), .ref 1000004, .int ((mm_S X 4).2 (x3 + (nI 4)).toNatClampNeg), .int ((mm_S X 4).2 (x3 + (nI 3)).toNatClampNeg), .int ((mm_S X 4).2 (x3 + (nI 2)).toNatClampNeg), .int ((mm_S X 4).2 (x3 + (nI 1)).toNatClampNeg), .ref 74, .int r106]) rfl ?_
        refine wp_tald (a := 4) hT rfl rfl (by decide) ⟨h.1, ?_⟩
        have h := h.2
        refine wp_calli hT rfl rfl h (fun r108 iv107 h => ?_)
        refine wp_ic_eq hT rfl ⟨fun c => ?_, fun c => ?_⟩
        · have h := h.1 c
          refine wp_s hT 2 (i' := 10) (L' := [some (.ref 1000004), some (.ref 1), some (.ref 74), some (.int (x3 + nI 6))]) (st' := []) rfl ?_
          exact h
        · have h := h.2 c
          refine wp_s hT 1 (i' := 670) (L' := [some (.ref 1000004), some (.ref 1), some (.ref 74), some (.int x3)]) (st' := [.int (nI 0)]) rfl ?_
          exact wp_rz hT rfl rfl ⟨Or.inl rfl, ⟨_, rfl, h⟩⟩
      | 27, _, ek =>
        refine wp_sw hT rfl (i' := 671) (st' := []) (by rw [ek]; rfl) ?_
        have h := h.2.2.2.2.2.2.2.2.2.2.2.2.2.2.2.2.2.2.2.2.2.2.2.2.2.2.2.1 ek
        refine wp_s hT 5 (i' := 676) (L' := [some (.ref 1000004), some (.ref 1), some (.ref 74), some (.int x3)]) (st' := [.int (x3 + (nI 1)), .ref 1000004, .ref 1]) rfl ?_
        refine wp_tald (a := 4) hT rfl rfl (by decide) ⟨h.1, ?_⟩
        have h := h.2
        refine wp_s hT 4 (i' := 681) (L' := [some (.ref 1000004), some (.ref 1), some (.ref 74), some (.int x3)]) (st' := [.int (x3 + (nI 2)), .ref 1000004, .int ((mm_S X 4).2 (x3 + (nI 1)).toNatClampNeg), .ref 1]) rfl ?_
        refine wp_tald (a := 4) hT rfl rfl (by decide) ⟨h.1, ?_⟩
        have h := h.2
        refine wp_calli hT rfl rfl h (fun r110 iv109 h => ?_)
        refine wp_s hT 5 (i' := 688) (L' := [some (.ref 1000004), some (.ref 1), some (.ref 74), some (.int x3)]) (st' := [.int (x3 + (nI 1)), .ref 1000004, .ref 74, .int r110]) rfl ?_
        refine wp_tald (a := 4) hT rfl rfl (by decide) ⟨h.1, ?_⟩
        have h := h.2
        refine wp_s hT 4 (i' := 693) (L' := [some (.ref 1000004), some (.ref 1), some (.ref 74), some (.int x3)]) (st' := [.int (x3 + (nI 2)), .ref 1000004, .int ((mm_S X 4).2 (x3 + (nI 1)).toNatClampNeg), .ref 74, .int r110]) rfl ?_
        refine wp_tald (a := 4) hT rfl rfl (by decide) ⟨h.1, ?_⟩
        have h := h.2
        refine wp_calli hT rfl rfl h (fun r112 iv111 h => ?_)
        refine wp_ic_eq hT rfl ⟨fun c => ?_, fun c => ?_⟩
        · have h := h.1 c
          refine wp_s hT 2 (i' := 10) (L' := [some (.ref 1000004), some (.ref 1), some (.ref 74), some (.int (x3 + nI 6))]) (st' := []) rfl ?_
          exact h
        · have h := h.2 c
          refine wp_s hT 1 (i' := 697) (L' := [some (.ref 1000004), some (.ref 1), some (.ref 74), some (.int x3)]) (st' := [.int (nI 0)]) rfl ?_
          exact wp_rz hT rfl rfl ⟨Or.inl rfl, ⟨_, rfl, h⟩⟩
      | 28, _, ek =>
        refine wp_sw hT rfl (i' := 698) (st' := []) (by rw [ek]; rfl) ?_
        have h := h.2.2.2.2.2.2.2.2.2.2.2.2.2.2.2.2.2.2.2.2.2.2.2.2.2.2.2.2.1 ek
        refine wp_s hT 5 (i' := 703) (L' := [some (.ref 1000004), some (.ref 1), some (.ref 74), some (.int x3)]) (st' := [.int (x3 + (nI 1)), .ref 1000004, .ref 1]) rfl ?_
        refine wp_tald (a := 4) hT rfl rfl (by decide) ⟨h.1, ?_⟩
        have h := h.2
        refine wp_calli hT rfl rfl h (fun r114 iv113 h => ?_)
        refine wp_s hT 5 (i' := 710) (L' := [some (.ref 1000004), some (.ref 1), some (.ref 74), some (.int x3)]) (st' := [.int (x3 + (nI 1)), .ref 1000004, .ref 74, .int r114]) rfl ?_
        refine wp_tald (a := 4) hT rfl rfl (by decide) ⟨h.1, ?_⟩
        have h := h.2
        refine wp_calli hT rfl rfl h (fun r116 iv115 h => ?_)
        refine wp_ic_eq hT rfl ⟨fun c => ?_, fun c => ?_⟩
        · have h := h.1 c
          refine wp_s hT 2 (i' := 10) (L' := [some (.ref 1000004), some (.ref 1), some (.ref 74), some (.int (x3 + nI 6))]) (st' := []) rfl ?_
          exact h
        · have h := h.2 c
          refine wp_s hT 1 (i' := 714) (L' := [some (.ref 1000004), some (.ref 1), some (.ref 74), some (.int x3)]) (st' := [.int (nI 0)]) rfl ?_
          exact wp_rz hT rfl rfl ⟨Or.inl rfl, ⟨_, rfl, h⟩⟩
      | 29, _, ek =>
        refine wp_sw hT rfl (i' := 715) (st' := []) (by rw [ek]; rfl) ?_
        have h := h.2.2.2.2.2.2.2.2.2.2.2.2.2.2.2.2.2.2.2.2.2.2.2.2.2.2.2.2.2.1 ek
        refine wp_s hT 1 (i' := 716) (L' := [some (.ref 1000004), some (.ref 1), some (.ref 74), some (.int x3)]) (st' := [.ref 1]) rfl ?_
        refine wp_calll hT rfl rfl h (fun r118 iv117 h => ?_)
        refine wp_s hT 1 (i' := 718) (L' := [some (.ref 1000004), some (.ref 1), some (.ref 74), some (.int x3)]) (st' := [.ref 74, .long r118]) rfl ?_
        refine wp_calll hT rfl rfl h (fun r120 iv119 h => ?_)
        refine wp_s hT 1 (i' := 720) (L' := [some (.ref 1000004), some (.ref 1), some (.ref 74), some (.int x3)]) (st' := [.int (lg_cmp r118 r120)]) rfl ?_
        refine wp_if_eq hT rfl ⟨fun c => ?_, fun c => ?_⟩
        · have h := h.1 c
          refine wp_s hT 2 (i' := 10) (L' := [some (.ref 1000004), some (.ref 1), some (.ref 74), some (.int (x3 + nI 6))]) (st' := []) rfl ?_
          exact h
        · have h := h.2 c
          refine wp_s hT 1 (i' := 722) (L' := [some (.ref 1000004), some (.ref 1), some (.ref 74), some (.int x3)]) (st' := [.int (nI 0)]) rfl ?_
          exact wp_rz hT rfl rfl ⟨Or.inl rfl, ⟨_, rfl, h⟩⟩
      | k + 30, hk, _ => exact absurd hk (by omega)
    · refine wp_sw hT rfl (i' := 723) (st' := []) (mm_sw_d hx rfl rfl) ?_
      have h := h.2.2.2.2.2.2.2.2.2.2.2.2.2.2.2.2.2.2.2.2.2.2.2.2.2.2.2.2.2.2 hx
      refine wp_s hT 2 (i' := 10) (L' := [some (.ref 1000004), some (.ref 1), some (.ref 74), some (.int (x3 + nI 6))]) (st' := []) rfl ?_
      exact h
