/-! A CALL, AND THE INDUCTION'S STEP -/
section MMY
variable {p : Program} {l : Launch} {e : Env} {R : Room} {s : State} {m : MethodId} {args : Array Value} {below : List Frame} {meth : Method} {c : Code} {H : Heap} {locs : List Loc} {Q : State → Prop}
variable {pc : Nat} {ls : Array Slot} {g : mm_G} {j : Nat} {μ : mm_M}
theorem mm_take (st : List Value) (n : Nat) : st.map (mm_rl g) = (((st.take n).reverse).map (mm_rl g)).reverse ++ (st.drop n).map (mm_rl g) := by
  rw [← List.map_reverse, List.reverse_reverse, ← List.map_append, List.take_append_drop]
set_option maxHeartbeats 4000000 in
theorem mm_call_W (hck : ∀ j, j < 225 → (mm_ckm j && mm_hd j) = true) {f : Nat} (hmet : mm_Mets l g f) (hAt : mm_At g j p R s m args meth c) (hR : mm_R g μ H) (hS : va_S (mm_A g) s.heap H locs) (hls : ls.size = (mm_me j).2.2.1)
    {ins : Instr} {x y z : Nat} {st as rest : List Value} {B B' : Nat × Nat} {r : Option Value} {μ1 : mm_M} (h : mm_cl j x st B μ = some (as, rest, B')) (hxx : mm_x g.2.2.2.2 f x 0 (mm_ini as (mm_me x).2.2.1) [] (0, 0) μ = some (r, μ1)) (hk : mm_k4 j ins x y z = true) (hdg : decode (mm_me j).2.1 pc = .ok (ins, 3))
    (kk : ∀ (H1 : Heap) (locs1 : List Loc), mm_R g μ1 H1 → va_S (mm_A g) s.heap H1 locs1 → B'.1 ≤ mm_nu (mm_me j) 5 → B'.2 ≤ mm_nu (mm_me j) 6 → W p l e R s m args below meth c H1 locs1 B'.1 B'.2 Q (F0 m (pc + 3) ls ((r.toList ++ rest).map (mm_rl g)))) : W p l e R s m args below meth c H locs B.1 B.2 Q (F0 m pc ls (st.map (mm_rl g))) := by
  obtain ⟨hx, hb, hml, hown, hts, hC, hini, hfr, hlo, hcc, hss⟩ := hAt
  unfold mm_cl at h
  simp only at h
  split at h
  · rename_i hc
    cases h
    obtain ⟨c1, c2, c3, c4, c5, c6⟩ := hc
    simp only [mm_k4, Bool.and_eq_true, decide_eq_true_eq] at hk
    obtain ⟨⟨⟨hx225, k1⟩, k2⟩, hk⟩ := hk
    have hd := hck x hx225
    rw [Bool.and_eq_true] at hd
    obtain ⟨w1, w2, w3, w4, w5, w6⟩ := mm_hd_code hd.2
    have hkd := mm_hd_kind hd.2
    have hM := hmet x ((st.take (mm_nu (mm_me x) 1)).reverse) μ r μ1 hx225 c4 hxx
    have hG : GoodIn mm_gt (mm_wd x) := mm_good (mm_mg w1 rfl)
    have hW8 : 2 * (F0 m pc ls (st.map (mm_rl g))).monitorRoom + (((st.drop (mm_nu (mm_me x) 1)).map (mm_rl g)).map fun v => v.category).sum ≤ 8 := by
      show 2 * 0 + _ ≤ 8
      rw [mm_rl_sum]
      omega
    have hroom : (mm_rm x).frames + 1 ≤ R.frames ∧ 8 + ((mm_me x).2.2.1 + 11) + (mm_rm x).locals ≤ R.locals := ⟨Nat.le_trans k1 hfr, Nat.le_trans k2 hlo⟩
    have hcell : B.1 + mm_nu (mm_me x) 5 ≤ R.cells ∧ B.2 + mm_nu (mm_me x) 6 ≤ R.slots := ⟨Nat.le_trans c5 hcc, Nat.le_trans c6 hss⟩
    have kk' : ∀ (H1 : Heap) (locs1 : List Loc), mm_R g μ1 H1 → va_S (mm_A g) s.heap H1 locs1 → W p l e R s m args below meth c H1 locs1 (B.1 + mm_nu (mm_me x) 5) (B.2 + mm_nu (mm_me x) 6) Q (F0 m (pc + 3) ls ((r.map (mm_rl g)).toList ++ (st.drop (mm_nu (mm_me x) 1)).map (mm_rl g))) := by
      intro H1 locs1 r1 r2
      have := kk H1 locs1 r1 r2 c5 c6
      rw [List.map_append] at this
      cases r with
      | none => exact this
      | some v => exact this
    have hpre := mm_pre (as := (st.take (mm_nu (mm_me x) 1)).reverse) hC hR hS
    have hlenA : ((st.take (mm_nu (mm_me x) 1)).reverse).length = mm_nu (mm_me x) 1 := by
      rw [List.length_reverse, List.length_take]
      omega
    have hst := mm_take (g := g) st (mm_nu (mm_me x) 1)
    generalize hAs : (st.take (mm_nu (mm_me x) 1)).reverse = as at *
    generalize hRs : (st.drop (mm_nu (mm_me x) 1)).map (mm_rl g) = rs at *
    generalize hStk : st.map (mm_rl g) = stk at *
    split at hk
    · -- invokestatic
      rename_i q
      rw [Bool.and_eq_true, beq_iff_eq] at hk
      obtain ⟨hk0, hk⟩ := hk
      rw [hk0] at hkd
      simp only [Bool.and_eq_true, decide_eq_true_eq] at hkd
      split at hk
      · have hlw := of_decide_eq_true hk
        have hcw : CallB R s args (mm_own j) q (mm_me x).1 (mm_me x).2.1 (mm_me x).2.2.1 (mm_me x).2.2.2.1 (mm_wd x) (mm_rm x) (mm_nu (mm_me x) 5) (mm_nu (mm_me x) 6) (mm_nu (mm_me x) 1) := callB_of (mm_nu (mm_me x) 1) hts hG rfl rfl rfl (mm_gw hts w2 rfl) (mm_gw hts hlw rfl) ⟨w4, w5, hkd.2⟩ hroom
        exact mm_callx (va_runS (As := as.map (mm_rl g)) (rest := rs) ⟨hx, hb, hml, hown, hts⟩ hM ⟨hcw, mm_gw hts hkd.1 rfl⟩ hpre rfl (by rw [List.length_map]; exact hlenA) hls hst hW8 hdg hcell) hS kk'
      · simp only [Bool.and_eq_true, decide_eq_true_eq] at hk
        have hcw : va_CN R s args (mm_own j) q (mm_me x).1 "DotSquares" (mm_me x).2.1 (mm_me x).2.2.1 (mm_me x).2.2.2.1 (mm_wd x) (mm_rm x) (mm_nu (mm_me x) 5) (mm_nu (mm_me x) 6) (mm_nu (mm_me x) 1) := va_cnB (mm_nu (mm_me x) 1) hts hG rfl rfl rfl (hC.2.1 y _ hk.1 hk.2) (mm_gw hts w2 rfl) ⟨w4, w5, hkd.2⟩ hroom
        exact mm_callx (va_runSN (As := as.map (mm_rl g)) (rest := rs) ⟨hx, hb, hml, hown, hts⟩ hM ⟨hcw, mm_gw hts hkd.1 rfl, trivial⟩ hpre rfl (by rw [List.length_map]; exact hlenA) hls hst hW8 hdg hcell) hS kk'
    · -- invokevirtual
      rename_i q
      rw [Bool.and_eq_true, beq_iff_eq] at hk
      obtain ⟨hk0, hk⟩ := hk
      rw [hk0] at hkd c3
      simp only [Bool.and_eq_true, decide_eq_true_eq] at hkd
      obtain ⟨⟨⟨⟨d1, d2⟩, d3⟩, d4⟩, d5⟩ := hkd
      unfold mm_rcv at c3
      simp only at c3
      split at c3
      · rename_i a as'
        have ha := of_decide_eq_true c3
        obtain ⟨a1, a2, a3, a4⟩ := mm_kd_in ha (by omega)
        obtain ⟨he, hrl⟩ := mm_cell_o hR ha
        have hn : ∃ n', (parseMethodDescriptor (mm_me x).1.desc).map (fun d => d.parameters.length) = some n' ∧ n' + 1 = mm_nu (mm_me x) 1 := by
          cases hp : parseMethodDescriptor (mm_me x).1.desc with
          | none => rw [hp] at d5; cases d5
          | some sg =>
            rw [hp] at d5
            exact ⟨_, rfl, Option.some.inj d5⟩
        obtain ⟨n', hn1, hn2⟩ := hn
        have hlen' : (as'.map (mm_rl g)).length = n' := by
          rw [List.length_map]
          rw [List.length_cons] at hlenA
          omega
        have hst' : stk = (as'.map (mm_rl g)).reverse ++ .ref (g.2.2.1 + a) :: rs := by
          rw [hst, List.map_cons, hrl, List.reverse_cons, List.append_assoc]
          rfl
        have harr : ((Value.ref a :: as').map (mm_rl g)) = Value.ref (g.2.2.1 + a) :: as'.map (mm_rl g) := by
          rw [List.map_cons, hrl]
        have hpreV : PreV s H (mm_me x).1.cls (g.2.2.1 + a) (mm_Pc g (Value.ref a :: as') μ) (as'.map (mm_rl g)) := by
          refine ⟨hpre.1, ?_, ?_⟩
          · have := va_recv hC.1 hR.2.2 (mm_vw _ d4) he
            rw [d3] at this
            exact this
          · rw [← harr]
            exact hpre.2
        split at hk
        · have hlw := of_decide_eq_true hk
          have hcw : CallB R s args (mm_own j) q (mm_me x).1 (mm_me x).2.1 (mm_me x).2.2.1 (mm_me x).2.2.2.1 (mm_wd x) (mm_rm x) (mm_nu (mm_me x) 5) (mm_nu (mm_me x) 6) n' := callB_of n' hts hG rfl rfl rfl (mm_gw hts w2 rfl) (mm_gw hts hlw rfl) ⟨w4, w5, hn1⟩ hroom
          exact mm_callx (va_runV (C := (mm_me x).1.cls) (As := as'.map (mm_rl g)) (rest := rs) ⟨hx, hb, hml, hown, hts⟩ hM ⟨hcw, mm_gw hts d1 rfl, mm_gw hts d2 rfl⟩ hpreV rfl hlen' hls hst' hW8 hdg hcell) hS kk'
        · simp only [Bool.and_eq_true, decide_eq_true_eq] at hk
          have hcw : va_CN R s args (mm_own j) q (mm_me x).1 "DotSquares" (mm_me x).2.1 (mm_me x).2.2.1 (mm_me x).2.2.2.1 (mm_wd x) (mm_rm x) (mm_nu (mm_me x) 5) (mm_nu (mm_me x) 6) n' := va_cnB n' hts hG rfl rfl rfl (hC.2.1 y _ hk.1 hk.2) (mm_gw hts w2 rfl) ⟨w4, w5, hn1⟩ hroom
          exact mm_callx (va_runVN (C := (mm_me x).1.cls) (As := as'.map (mm_rl g)) (rest := rs) ⟨hx, hb, hml, hown, hts⟩ hM ⟨hcw, mm_gw hts d1 rfl, mm_gw hts d2 rfl⟩ hpreV rfl hlen' hls hst' hW8 hdg hcell) hS kk'
      · cases c3
    · -- invokespecial
      rename_i q
      rw [Bool.and_eq_true, beq_iff_eq] at hk
      obtain ⟨hk0, hk⟩ := hk
      rw [hk0] at hkd c3
      simp only [Bool.and_eq_true, decide_eq_true_eq] at hkd
      obtain ⟨⟨⟨d1, d2⟩, d3⟩, d5⟩ := hkd
      unfold mm_rcv at c3
      simp only at c3
      split at c3
      · rename_i a as'
        have ha := of_decide_eq_true c3
        have hrl := mm_rl_dyn g ha.1 ha.2
        have hn : ∃ n', (parseMethodDescriptor (mm_me x).1.desc).map (fun d => d.parameters.length) = some n' ∧ n' + 1 = mm_nu (mm_me x) 1 := by
          cases hp : parseMethodDescriptor (mm_me x).1.desc with
          | none => rw [hp] at d5; cases d5
          | some sg =>
            rw [hp] at d5
            exact ⟨_, rfl, Option.some.inj d5⟩
        obtain ⟨n', hn1, hn2⟩ := hn
        have hlen' : (as'.map (mm_rl g)).length = n' := by
          rw [List.length_map]
          rw [List.length_cons] at hlenA
          omega
        have hst' : stk = (as'.map (mm_rl g)).reverse ++ .ref (g.2.2.1 + a) :: rs := by
          rw [hst, List.map_cons, hrl, List.reverse_cons, List.append_assoc]
          rfl
        have harr : ((Value.ref a :: as').map (mm_rl g)) = Value.ref (g.2.2.1 + a) :: as'.map (mm_rl g) := by
          rw [List.map_cons, hrl]
        rw [harr] at hpre
        split at hk
        · have hlw := of_decide_eq_true hk
          have hcw : CallB R s args (mm_own j) q (mm_me x).1 (mm_me x).2.1 (mm_me x).2.2.1 none (mm_wd x) (mm_rm x) (mm_nu (mm_me x) 5) (mm_nu (mm_me x) 6) n' := by
            have := callB_of (R := R) (own := mm_own j) (index := q) (y := (mm_me x).1) (bytes := (mm_me x).2.1) (maxL := (mm_me x).2.2.1) (ret := (mm_me x).2.2.2.1) (ws := mm_wd x) (rm := mm_rm x) (mc := mm_nu (mm_me x) 5) (ms := mm_nu (mm_me x) 6) n' hts hG rfl rfl rfl (mm_gw hts w2 rfl) (mm_gw hts hlw rfl) ⟨w4, w5, hn1⟩ hroom
            rw [d3] at this
            exact this
          exact mm_callx (va_runI (As := as'.map (mm_rl g)) (rest := rs) ⟨hx, hb, hml, hown, hts⟩ hM ⟨hcw, d2, mm_gw hts d1 rfl⟩ hpre rfl hlen' hls hst' hW8 hdg hcell) hS kk'
        · simp only [Bool.and_eq_true, decide_eq_true_eq] at hk
          have hcw : va_CN R s args (mm_own j) q (mm_me x).1 "DotSquares" (mm_me x).2.1 (mm_me x).2.2.1 none (mm_wd x) (mm_rm x) (mm_nu (mm_me x) 5) (mm_nu (mm_me x) 6) n' := by
            have := va_cnB (R := R) (own := mm_own j) (host := "DotSquares") (index := q) (y := (mm_me x).1) (bytes := (mm_me x).2.1) (maxL := (mm_me x).2.2.1) (ret := (mm_me x).2.2.2.1) (ws := mm_wd x) (rm := mm_rm x) (mc := mm_nu (mm_me x) 5) (ms := mm_nu (mm_me x) 6) n' hts hG rfl rfl rfl (hC.2.1 y _ hk.1 hk.2) (mm_gw hts w2 rfl) ⟨w4, w5, hn1⟩ hroom
            rw [d3] at this
            exact this
          exact mm_callx (va_runIN (As := as'.map (mm_rl g)) (rest := rs) ⟨hx, hb, hml, hown, hts⟩ hM ⟨hcw, d2, mm_gw hts d1 rfl⟩ hpre rfl hlen' hls hst' hW8 hdg hcell) hS kk'
      · cases c3
    · cases hk
  · cases h
theorem mm_sw_W (hx : p.tables.exec = Jvm.exec) (hb : c.code = (mm_me j).2.1) {ins : Instr} {i' len : Nat} {st st' : List Value} {cells slots : Nat} (h : mm_sw j pc ins st = some (i', st')) (hdg : decode (mm_me j).2.1 pc = .ok (ins, len))
    (kk : W p l e R s m args below meth c H locs cells slots Q (F0 m (mm_pc j i') ls (st'.map (mm_rl g)))) : W p l e R s m args below meth c H locs cells slots Q (F0 m pc ls (st.map (mm_rl g))) := by
  unfold mm_sw at h
  split at h
  · rename_i v st2
    split at h
    · rename_i o ho
      split at h
      · rename_i i hi
        cases h
        have hpc : (pc : Int) + o = ((mm_pc j i' : Nat) : Int) := by
          obtain ⟨hlt, hp, -⟩ := List.findIdx?_eq_some_iff_getElem.mp hi
          have e1 := of_decide_eq_true hp
          unfold mm_pc mm_en
          rw [List.getElem?_eq_getElem hlt]
          exact e1.symm
        unfold mm_off at ho
        split at ho
        · split at ho
          · rename_i hout
            cases ho
            exact lv_tableOut hx hb hdg hout hpc kk
          · rename_i hout
            exact lv_tableIn hx hb hdg (fun q => hout (Or.inl q)) (fun q => hout (Or.inr q)) ho hpc kk
        · cases ho
      · cases h
    · cases h
  · cases h
end MMY
set_option maxHeartbeats 4000000 in
theorem mm_main (hck : ∀ j, j < 225 → (mm_ckm j && mm_hd j) = true) (hlaw : mm_ckm 225 = true) (l : Launch) (g : mm_G) : ∀ f, mm_Runs l g f := by
  intro f
  induction f with
  | zero =>
    intro j i L st B μ r μ' hj hxx
    cases hxx
  | succ f ih =>
    have hmet := mm_met_of hck l g f ih
    intro j i L st B μ r μ' hj hxx p e R s m args below meth c H locs ls Q hAt hb1 hb2 hR hS hL hEnd
    have hckj : mm_ckm j = true := by
      by_cases h225 : j < 225
      · have := hck j h225
        rw [Bool.and_eq_true] at this
        exact this.1
      · rw [show j = 225 by omega]
        exact hlaw
    obtain ⟨hx, hb, hml, hown, hts, hC, hini, hfr, hlo, hcc, hss⟩ := id hAt
    unfold mm_x at hxx
    cases hen : mm_en j i with
    | none => rw [hen] at hxx; cases hxx
    | some e0 =>
      obtain ⟨tag, pc, ins, len, x, y, z⟩ := e0
      rw [hen] at hxx
      simp only at hxx
      have hi : i < (mm_tb j).length := by
        unfold mm_en at hen
        exact (List.getElem?_eq_some_iff.mp hen).1
      have hk : mm_ck j i = true := by
        unfold mm_ckm at hckj
        exact List.all_eq_true.mp hckj i (List.mem_range.mpr hi)
      unfold mm_ck at hk
      rw [hen] at hk
      simp only [Bool.and_eq_true, decide_eq_true_eq] at hk
      obtain ⟨hdg, hk⟩ := hk
      have hpci : mm_pc j i = pc := by
        unfold mm_pc
        rw [hen]
      rw [hpci]
      match tag, hxx, hk with
      | 0, hxx, hk =>
        simp only [Bool.and_eq_true, beq_iff_eq] at hxx hk
        cases hp : mm_pure ins y L st with
        | none => rw [hp] at hxx; cases hxx
        | some q =>
          obtain ⟨L', st'⟩ := q
          rw [hp] at hxx
          refine mm_pure_W hx hb hown hts hp hk.1 hdg hL (fun ls' hL' => ?_)
          rw [← hk.2]
          exact ih j (i + 1) L' st' B μ r μ' hj hxx p e R s m args below meth c H locs ls' Q hAt hb1 hb2 hR hS hL' hEnd
      | 1, hxx, hk =>
        simp only [Bool.and_eq_true, beq_iff_eq] at hxx hk
        obtain ⟨⟨hk1, rfl⟩, hk3⟩ := hk
        cases hp : mm_br ins st with
        | none => rw [hp] at hxx; cases hxx
        | some q =>
          obtain ⟨b, st'⟩ := q
          rw [hp] at hxx
          refine mm_br_W hx hb hp hk1 hdg ?_
          cases b with
          | true => exact ih j x L st' B μ r μ' hj hxx p e R s m args below meth c H locs ls Q hAt hb1 hb2 hR hS hL hEnd
          | false =>
            show W p l e R s m args below meth c H locs B.1 B.2 Q (F0 m (pc + 3) ls (st'.map (mm_rl g)))
            rw [← hk3]
            exact ih j (i + 1) L st' B μ r μ' hj hxx p e R s m args below meth c H locs ls Q hAt hb1 hb2 hR hS hL hEnd
      | 2, hxx, hk =>
        simp only [Bool.and_eq_true, beq_iff_eq] at hxx hk
        obtain ⟨hk1, rfl⟩ := hk
        have h2 : mm_x g.2.2.2.2 f j x L st B μ = some (r, μ') := hxx
        unfold mm_kg at hk1
        split at hk1
        · exact lv_goto hx hb hdg (of_decide_eq_true hk1) (ih j x L st B μ r μ' hj h2 p e R s m args below meth c H locs ls Q hAt hb1 hb2 hR hS hL hEnd)
        · cases hk1
      | 3, hxx, hk =>
        simp only [Bool.and_eq_true, beq_iff_eq] at hxx hk
        cases hp : mm_mem g.2.2.2.2 j ins x y st B μ with
        | none => rw [hp] at hxx; cases hxx
        | some q =>
          obtain ⟨st', B', μ1⟩ := q
          rw [hp] at hxx
          unfold mm_mem at hp
          cases h1 : mm_m1 g.2.2.2.2 ins x y st μ with
          | some s1 =>
            rw [h1] at hp
            cases hp
            refine mm_m1_W hx hb hml hL.1 hown hts hC hR hS hfr hlo (Nat.le_trans hb1 hcc) (Nat.le_trans hb2 hss) h1 hk.1 hdg ?_
            rw [← hk.2]
            exact ih j (i + 1) L st' B μ r μ' hj hxx p e R s m args below meth c H locs ls Q hAt hb1 hb2 hR hS hL hEnd
          | none =>
            rw [h1] at hp
            simp only at hp
            cases h2 : mm_m2 ins x y st μ with
            | some s2 =>
              obtain ⟨st2, μ2⟩ := s2
              rw [h2] at hp
              cases hp
              refine mm_m2_W hx hb hml hL.1 hown hts hC hR hS hfr hlo hini h2 hk.1 hdg (fun H1 locs1 r1 r2 => ?_)
              rw [← hk.2]
              exact ih j (i + 1) L st' B μ1 r μ' hj hxx p e R s m args below meth c H1 locs1 ls Q hAt hb1 hb2 r1 r2 hL hEnd
            | none =>
              rw [h2] at hp
              simp only at hp
              refine mm_m3_W hx hb hown hts hC hR hS hcc hss hp hk.1 hdg (fun H1 locs1 r1 r2 r3 r4 => ?_)
              rw [← hk.2]
              exact ih j (i + 1) L st' B' μ1 r μ' hj hxx p e R s m args below meth c H1 locs1 ls Q hAt r3 r4 r1 r2 hL hEnd
      | 4, hxx, hk =>
        simp only [Bool.and_eq_true, beq_iff_eq] at hxx hk
        obtain ⟨⟨hk1, rfl⟩, hk3⟩ := hk
        cases hp : mm_cl j x st B μ with
        | none => rw [hp] at hxx; cases hxx
        | some q =>
          obtain ⟨as, rest, B'⟩ := q
          rw [hp] at hxx
          simp only at hxx
          cases hc : mm_x g.2.2.2.2 f x 0 (mm_ini as (mm_me x).2.2.1) [] (0, 0) μ with
          | none => rw [hc] at hxx; cases hxx
          | some q2 =>
            obtain ⟨r1, μ1⟩ := q2
            rw [hc] at hxx
            refine mm_call_W hck hmet hAt hR hS hL.1 hp hc hk1 hdg (fun H1 locs1 s1 s2 s3 s4 => ?_)
            rw [← hk3]
            exact ih j (i + 1) L (r1.toList ++ rest) B' μ1 r μ' hj hxx p e R s m args below meth c H1 locs1 ls Q hAt s3 s4 s1 s2 hL hEnd
      | 5, hxx, hk =>
        simp only [beq_iff_eq] at hxx hk
        subst hk
        have hmu := mm_rt_mu hxx
        subst hmu
        exact hEnd pc ins H locs ls B st hdg hxx hR hS hb1 hb2
      | n + 6, hxx, hk =>
        simp only at hxx
        cases hp : mm_sw j pc ins st with
        | none => rw [hp] at hxx; cases hxx
        | some q =>
          obtain ⟨i', st'⟩ := q
          rw [hp] at hxx
          exact mm_sw_W hx hb hp hdg (ih j i' L st' B μ r μ' hj hxx p e R s m args below meth c H locs ls Q hAt hb1 hb2 hR hS hL hEnd)
