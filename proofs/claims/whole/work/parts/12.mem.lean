/-! AN INSTRUCTION THAT READS MEMORY -/
section MMR
variable {p : Program} {l : Launch} {e : Env} {R : Room} {s : State} {m : MethodId} {args : Array Value} {below : List Frame} {meth : Method} {c : Code} {H : Heap} {locs : List Loc} {cells slots : Nat} {Q : State → Prop}
variable {cc : ByteArray} {pc : Nat} {ls : Array Slot} {g : mm_G} {nL j : Nat} {μ : mm_M}
theorem mm_cell_i (hR : mm_R g μ H) {a : Nat} (h : (mm_kd μ a).1 = 1) : (mm_ws g μ)[a - 1]? = some (g.2.2.1 + a, .inl (g.2.1 1, (mm_kd μ a).2, .inl (μ.2.2.2 a))) ∧ mm_rl g (.ref a) = .ref (g.2.2.1 + a) := by
  obtain ⟨a1, a2, a3, a4⟩ := mm_kd_in h (Nat.le_refl 1)
  refine ⟨?_, mm_rl_dyn g a1 a3⟩
  rw [mm_ws_get a1 a2]
  unfold mm_Ec
  rw [a4] at h
  rw [mm_E_i h, a4]
theorem mm_cell_q (hR : mm_R g μ H) {a : Nat} (h : 2 ≤ (mm_kd μ a).1) (h2 : (mm_kd μ a).1 ≤ 4) : (mm_ws g μ)[a - 1]? = some (g.2.2.1 + a, .inl (g.2.1 (mm_kd μ a).1, (mm_kd μ a).2, .inr (.inr (.inr (.inr (fun i => mm_q g (μ.2.2.1 a i))))))) ∧ mm_rl g (.ref a) = .ref (g.2.2.1 + a) := by
  obtain ⟨a1, a2, a3, a4⟩ := mm_kd_in (a := a) rfl (Nat.le_trans (by decide) h)
  refine ⟨?_, mm_rl_dyn g a1 a3⟩
  rw [mm_ws_get a1 a2]
  unfold mm_Ec
  rw [a4] at h h2 ⊢
  rw [mm_E_q h h2]
theorem mm_cell_o (hR : mm_R g μ H) {a x : Nat} (h : (mm_kd μ a).1 = 10 + x) : (mm_ws g μ)[a - 1]? = some (g.2.2.1 + a, .inr (x, mm_fs g x (μ.2.2.1 a) (μ.2.2.2 a))) ∧ mm_rl g (.ref a) = .ref (g.2.2.1 + a) := by
  obtain ⟨a1, a2, a3, a4⟩ := mm_kd_in h (by omega)
  refine ⟨?_, mm_rl_dyn g a1 a3⟩
  rw [mm_ws_get a1 a2]
  unfold mm_Ec
  rw [a4] at h
  rw [mm_E_o h]
theorem mm_tys_at {t : Nat} (h1 : 1 ≤ t) (h2 : t ≤ 4) : ∃ ty, (mm_tys g)[t - 1]? = some (g.2.1 t, ty) ∧ (2 ≤ t → ty.isReference = true) := by
  match t, h1, h2 with
  | 1, _, _ => exact ⟨_, rfl, fun h => absurd h (by decide)⟩
  | 2, _, _ => exact ⟨_, rfl, fun _ => rfl⟩
  | 3, _, _ => exact ⟨_, rfl, fun _ => rfl⟩
  | 4, _, _ => exact ⟨_, rfl, fun _ => rfl⟩
theorem mm_in_of {i : Int32} {n : Nat} (h : ¬ (i < 0 ∨ n ≤ i.toNatClampNeg)) : vp_in i n := h
set_option maxHeartbeats 4000000 in
theorem mm_m1_W (hx : p.tables.exec = Jvm.exec) (hb : c.code = cc) (hml : c.maxLocals = nL) (hls : ls.size = nL) (hown : s.vm.findClass (mm_own j) = some m.cls) (hts : ∀ w ∈ mm_gt, w.before args s = true) (hC : mm_C g s s.heap) (hR : mm_R g μ H) (hS : va_S (mm_A g) s.heap H locs) (hfr : mm_nu (mm_me j) 3 ≤ R.frames) (hlo : mm_nu (mm_me j) 4 ≤ R.locals) (hce : cells ≤ R.cells) (hsl : slots ≤ R.slots)
    {ins : Instr} {len x y z : Nat} {st st' : List Value} (h : mm_m1 g.2.2.2.2 ins x y st μ = some st') (hk : mm_k3 j ins len x y z = true) (hdg : decode cc pc = .ok (ins, len))
    (kk : W p l e R s m args below meth c H locs cells slots Q (F0 m (pc + len) ls (st'.map (mm_rl g)))) : W p l e R s m args below meth c H locs cells slots Q (F0 m pc ls (st.map (mm_rl g))) := by
  unfold mm_m1 at h
  split at h
  · -- getfield
    simp only [mm_k3, Bool.and_eq_true, beq_iff_eq, decide_eq_true_eq] at hk
    obtain ⟨⟨⟨rfl, hx11⟩, hy⟩, hlw⟩ := hk
    split at h
    · rename_i a st2
      split at h
      · rename_i hc
        obtain ⟨he, hr⟩ := mm_cell_o hR hc.1
        have hv := mm_fs_get (g := g) (rk := μ.2.2.1 a) (ik := μ.2.2.2 a) hy
        rw [List.map_cons, hr]
        have hyN : y < (mm_cls x).2.2 := by rw [mm_clsN x hx11]; exact hy
        split at h
        · rename_i hf
          cases h
          rw [if_pos hf] at hv
          exact va_get (C := (mm_cls x).1) (T := (mm_cls x).2.1) (N := (mm_cls x).2.2) hx hb hts (mm_in x hx11) hown hC.1 hR.2.2 (a - 1) he (mm_vw x hx11) y hyN (mm_gw hts hlw rfl) (fun _ q => q) hv hdg kk
        · rename_i hf
          cases h
          rw [if_neg hf] at hv
          exact va_get (C := (mm_cls x).1) (T := (mm_cls x).2.1) (N := (mm_cls x).2.2) hx hb hts (mm_in x hx11) hown hC.1 hR.2.2 (a - 1) he (mm_vw x hx11) y hyN (mm_gw hts hlw rfl) (fun _ q => q) hv hdg kk
      · cases h
    · cases h
  · -- iaload
    simp only [mm_k3, beq_iff_eq] at hk
    subst hk
    split at h
    · rename_i i a st2
      split at h
      · split at h
        · rename_i hlt hkd
          split at h
          · cases h
          · rename_i hin
            cases h
            obtain ⟨he, hr⟩ := mm_cell_i hR hkd
            rw [List.map_cons, List.map_cons, hr]
            exact va_iald hx hb hC.1 hR.2.2 (a - 1) 0 he rfl (mm_in_of hin) hdg kk
        · cases h
      · split at h
        · rename_i hge hlt
          split at h
          · cases h
          · rename_i hin
            cases h
            rw [List.map_cons, List.map_cons, mm_rl_sta g hge]
            exact va_ti hx hb (hC.2.2.2.2.1 (a - 1000000) (Nat.sub_lt_left_of_lt_add (n := 1000000) (m := 5) (Nat.not_lt.mp hge) hlt)) hS (mm_in_of hin) rfl hdg kk
        · cases h
    · cases h
  · -- aaload
    simp only [mm_k3, beq_iff_eq] at hk
    subst hk
    split at h
    · rename_i i a st2
      split at h
      · rename_i hc
        split at h
        · cases h
        · rename_i hin
          cases h
          obtain ⟨he, hr⟩ := mm_cell_q hR hc.1 hc.2
          obtain ⟨ty, ht, hty⟩ := mm_tys_at (g := g) (t := (mm_kd μ a).1) (by omega) hc.2
          rw [List.map_cons, List.map_cons, hr]
          have hin' := mm_in_of hin
          have hlt : i.toNatClampNeg < (mm_kd μ a).2 := Nat.not_le.mp fun q => hin (Or.inr q)
          exact W.aald (v := va_rf (mm_q g (μ.2.2.1 a i.toNatClampNeg))) (ty := ty) hx hb (hR.2.2 (a - 1) _ he) ((hC.1.2 _ _ ht).1 (mm_kd μ a).2 (fun j => va_rf (mm_q g (μ.2.2.1 a j)))) (hty hc.1) (fun q => by cases q) (by show ¬ (i < 0 ∨ (arrV _ _ _).slots.size ≤ _); rw [arrV_size]; exact hin') (by show (arrV _ _ _).slots[_]? = _; rw [arrV_read _ _ hlt]) rfl rfl hdg kk
      · cases h
    · cases h
  · -- arraylength
    simp only [mm_k3, beq_iff_eq] at hk
    subst hk
    split at h
    · rename_i a st2
      split at h
      · split at h
        · rename_i hlt hc
          cases h
          by_cases h1 : (mm_kd μ a).1 = 1
          · obtain ⟨he, hr⟩ := mm_cell_i hR h1
            rw [List.map_cons, hr]
            exact va_alen hx hb hC.1 hR.2.2 (a - 1) 0 he rfl rfl hdg kk
          · obtain ⟨he, hr⟩ := mm_cell_q hR (a := a) (by omega) hc.2
            obtain ⟨ty, ht, -⟩ := mm_tys_at (g := g) (t := (mm_kd μ a).1) (by omega) hc.2
            rw [List.map_cons, hr]
            exact va_alen hx hb hC.1 hR.2.2 (a - 1) _ he ht rfl hdg kk
        · cases h
      · split at h
        · rename_i hge hlt
          cases h
          rw [List.map_cons, mm_rl_sta g hge]
          obtain ⟨cell, t1, t2, t3, t4, t5, t6, t7⟩ := hC.2.2.2.2.1 (a - 1000000) (Nat.sub_lt_left_of_lt_add (n := 1000000) (m := 5) (Nat.not_lt.mp hge) hlt)
          exact W.alen hx hb (by rw [hS.2.1 _ (Array.getElem?_eq_some_iff.mp t1).1 t7]; exact t1) t2 t5 rfl rfl hdg kk
        · cases h
    · cases h
  · -- getstatic
    simp only [mm_k3, Bool.and_eq_true, beq_iff_eq] at hk
    obtain ⟨rfl, hk⟩ := hk
    split at h
    · rename_i hx4
      cases h
      have kk' : W p l e R s m args below meth c H locs cells slots Q (F0 m (pc + 3) ls (.ref (g.2.2.2.1 x) :: st.map (mm_rl g))) := by
        have e1 : mm_rl g (.ref (1000000 + x)) = .ref (g.2.2.2.1 x) := by
          rw [mm_rl_sta g (by omega), show 1000000 + x - 1000000 = x by omega]
        rw [List.map_cons, e1] at kk
        exact kk
      split at hk
      · exact va_gets hx hb (hC.2.2.2.1 x hx4) hS hown (mm_gw hts (of_decide_eq_true hk) rfl) (fun _ q => q) hdg kk'
      · simp only [Bool.and_eq_true, decide_eq_true_eq] at hk
        exact va_getsN hx hb (hC.2.2.2.1 x hx4) hS hown (va_Nw.use rfl (hC.2.1 z _ hk.1 hk.2)) (fun _ q => q) hdg kk'
    · cases h
  · -- ldc
    simp only [mm_k3, Bool.and_eq_true, beq_iff_eq, decide_eq_true_eq] at hk
    obtain ⟨⟨rfl, ho⟩, rfl⟩ := hk
    cases h
    rw [ho] at hown
    have kk' : W p l e R s m args below meth c H locs cells slots Q (F0 m (pc + 2) ls (.ref (g.2.2.2.1 5) :: st.map (mm_rl g))) := by
      have e1 : mm_rl g (.ref 1000005) = .ref (g.2.2.2.1 5) := mm_rl_sta g (by decide)
      rw [List.map_cons, e1] at kk
      exact kk
    exact va_ldcS hx hb hown hC.2.2.2.2.2.1.1 hdg kk'
  · -- Object.<init>
    simp only [mm_k3, Bool.and_eq_true, beq_iff_eq, decide_eq_true_eq] at hk
    obtain ⟨⟨⟨rfl, hlw⟩, h1⟩, h2⟩ := hk
    split at h
    · rename_i a st2
      split at h
      · rename_i hc
        cases h
        rw [List.map_cons, mm_rl_dyn g hc.1 hc.2.1]
        refine W.objInit hx hb hown (mm_gw hts hlw rfl) (mm_gw hts (z := 109) (by decide +kernel) rfl) (mm_gw hts (z := 110) (by decide +kernel) rfl) rfl (by rw [hml]; exact hls) rfl hdg (Nat.le_trans h1 hfr) ?_ kk
        have hs8 := hc.2.2
        show 2 * 0 + _ + 12 ≤ R.locals
        rw [mm_rl_sum]
        omega
      · cases h
    · cases h
  · -- charAt
    simp only [mm_k3, Bool.and_eq_true, beq_iff_eq, decide_eq_true_eq] at hk
    obtain ⟨⟨⟨rfl, hlw⟩, h1⟩, h2⟩ := hk
    split at h
    · rename_i i a st2
      split at h
      · rename_i hc
        split at h
        · cases h
        · rename_i hin
          cases h
          obtain ⟨rfl, hsum⟩ := hc
          have h0 : ¬ i < 0 := fun q => hin (Or.inl q)
          have hlt : i.toNatClampNeg < 9 := Nat.not_le.mp fun q => hin (Or.inr q)
          have h9 : i < 9 := by
            have e0 := Int32.not_lt.mp h0
            have e1 := Int32.le_iff_toInt_le.mp e0
            have e3 : (0 : Int32).toInt = 0 := by decide
            have e4 : (9 : Int32).toInt = 9 := by decide
            rw [e3] at e1
            refine Int32.lt_iff_toInt_lt.mpr ?_
            rw [e4]
            have : i.toInt.toNat < 9 := hlt
            omega
          obtain ⟨v, hT⟩ := hC.2.2.2.2.2.1.2
          obtain ⟨cellO, o1, o2, o3, o4⟩ := id hT.1
          have hTH := hT.kept hS.2.1
          rw [List.map_cons, List.map_cons, mm_rl_sta g (k := 1000005) (by decide)]
          have hcw : CallB R s args (mm_own j) _ yJ0_charAt_5068e cJ0_charAt_5068e 2 (some .char) (mm_wJ yJ0_charAt_5068e cJ0_charAt_5068e 2 (some .char)) ({ frames := 3, cells := 0, slots := 0, locals := 64 }) 0 0 1 := callB_of 1 hts (mm_good (mm_mg (z := 447) (by decide +kernel) rfl)) rfl rfl rfl (mm_gw hts (z := 96) (by decide +kernel) rfl) (mm_gw hts hlw rfl) (by decide +kernel) ⟨by show 3 + 1 ≤ R.frames; omega, by show 8 + (2 + 11) + 64 ≤ R.locals; omega⟩
          refine vp_callSi (W.runV (C := RJ0) (As := [.int i]) (rest := st2.map (mm_rl g)) ⟨hx, hb, hml, hown, hts⟩ (mm_chrS l (mm_A g) (g.2.2.2.1 5) v i h0 h9) ⟨hcw, mm_gw hts (z := 445) (by decide +kernel) rfl, mm_gw hts (z := 446) (by decide +kernel) rfl⟩ ⟨fun a U gf mk z => ⟨z.1, mm_T.moved (u := U) (U := U.calling gf mk a) (Vm.Alike.refl U.vm) z.2⟩, ⟨cellO, by rw [hS.2.1 _ (Array.getElem?_eq_some_iff.mp o1).1 o4]; exact o1, o2, o3⟩, fun U hU hW => ⟨rfl, (show mm_T (g.2.2.2.1 5) v (mm_A g) U U.heap by rw [hU]; exact mm_T.moved hW.alike hTH)⟩⟩ rfl rfl hls rfl (lv_room (by rw [mm_rl_sum]; exact hsum)) hdg ⟨hce, hsl⟩) (fun r er => ?_)
          subst er
          exact kk
      · cases h
    · cases h
  · cases h
end MMR
