/-! AN INSTRUCTION THAT WRITES MEMORY -/
section MMS
variable {p : Program} {l : Launch} {e : Env} {R : Room} {s : State} {m : MethodId} {args : Array Value} {below : List Frame} {meth : Method} {c : Code} {H : Heap} {locs : List Loc} {cells slots : Nat} {Q : State → Prop}
variable {cc : ByteArray} {pc : Nat} {ls : Array Slot} {g : mm_G} {nL j : Nat} {μ : mm_M}
theorem mm_R.set {μ' : mm_M} {a : Nat} {H1 : Heap} (hR : mm_R g μ H) (h0 : 1 ≤ a) (h1 : a < μ.1) (hn : μ'.1 = μ.1) (hk : ∀ k, k ≠ a → mm_Ec g μ' k = mm_Ec g μ k) (hz : H1.size = H.size) (hat : va_at g.1 vwCl (mm_Ec g μ' a) H1) (ho : ∀ q : Nat, q ≠ g.2.2.1 + a → H1[q]? = H[q]?) : mm_R g μ' H1 := by
  refine ⟨by rw [hn]; exact hR.1, by rw [hz, hn]; exact hR.2.1, ?_⟩
  rw [← mm_ws_set h0 h1 hn hk]
  exact hR.2.2.set (mm_wsD g μ) (mm_ws_get h0 h1) hat ho
theorem mm_S_put {H1 : Heap} {a k : Nat} (hS : va_S (mm_A g) s.heap H locs) (h0 : 1 ≤ a) (hz : H1.size = H.size) (ho : ∀ q : Nat, q ≠ g.2.2.1 + a → H1[q]? = H[q]?) : va_S (mm_A g) s.heap H1 (locs ++ [⟨g.2.2.1 + a, k⟩]) :=
  hS.put hz ho (show g.2.2.1 < g.2.2.1 + a by omega)
/-- a field -/
theorem mm_put (hx : p.tables.exec = Jvm.exec) (hb : c.code = cc) (hown : s.vm.findClass (mm_own j) = some m.cls) (hts : ∀ w ∈ mm_gt, w.before args s = true) (hC : mm_C g s s.heap) (hR : mm_R g μ H) (hS : va_S (mm_A g) s.heap H locs) (hini : mm_nu (mm_me j) 0 = 2 → meth.name = "<init>")
    {index x y z a : Nat} {v : Value} {rest : List Value} (hx11 : x < 11) (hy : y < mm_N x) (hlw : lw_tbl[z]? = some (.fieldLink (mm_own j) index ((mm_cls x).2.1 y).1 ((mm_cls x).2.1 y).2.1 ((mm_cls x).2.1 y).2.2.1)) (hfin : ((mm_cls x).2.1 y).2.2.2 = false ∨ (mm_nu (mm_me j) 0 = 2 ∧ ((mm_cls x).2.1 y).1 = mm_own j))
    (ha : (mm_kd μ a).1 = 10 + x) (hna : narrow (mm_ty x y) v = v) (hfi : fits (mm_ty x y) v = true) (hdg : decode cc pc = .ok (.putfield index, 3))
    (kk : ∀ (H1 : Heap) (k : Nat), va_at g.1 vwCl (g.2.2.1 + a, .inr (x, (mm_fs g x (μ.2.2.1 a) (μ.2.2.2 a)).set y v)) H1 → H1.size = H.size → (∀ q : Nat, q ≠ g.2.2.1 + a → H1[q]? = H[q]?) → W p l e R s m args below meth c H1 (locs ++ [⟨g.2.2.1 + a, k⟩]) cells slots Q (F0 m (pc + 3) ls rest)) :
    W p l e R s m args below meth c H locs cells slots Q (F0 m pc ls (v :: .ref (g.2.2.1 + a) :: rest)) := by
  obtain ⟨he, -⟩ := mm_cell_o hR ha
  have hc := mm_vw x hx11
  have hyN : y < (mm_cls x).2.2 := by rw [mm_clsN x hx11]; exact hy
  have hap := va_apart (C := (mm_cls x).1) (T := (mm_cls x).2.1) (N := (mm_cls x).2.2) (own := mm_own j) hts (mm_in x hx11) (mm_ty x) (by rw [mm_clsN x hx11]; exact mm_ty_ok x hx11) (by rw [mm_clsN x hx11]; exact mm_ty_n x hx11) hC.1 hc
  obtain ⟨r, h1, cell, q1, q2, q3, q4⟩ := hR.2.2 (a - 1) _ he
  have hr : r = mm_cls x := Option.some.inj (h1.symm.trans hc)
  subst hr
  obtain ⟨hSl, hfc, kC, hkC, hkind⟩ := hC.1.1 x _ hc
  obtain ⟨cf, kf, fi, f, hi, hsl⟩ := hSl y hyN
  have hlay := hts _ (mm_in x hx11 _ (u_in_lay hyN))
  have hst := (u_facts hfc hkC (u_lays hts (mm_in x hx11) hyN) hi).1
  have hd := mm_ty_ok x hx11 y hy
  have hl : y < (mm_fs g x (μ.2.2.1 a) (μ.2.2.2 a)).length := by rw [mm_fs_len]; exact hy
  have fini : ∀ H1 : Heap, H1[g.2.2.1 + a]? = some (cell.setSlot (g.1.2 x y) v) → va_at g.1 vwCl (g.2.2.1 + a, .inr (x, (mm_fs g x (μ.2.2.1 a) (μ.2.2.2 a)).set y v)) H1 := fun H1 e1 => ⟨_, hc, t_OB.to (V := updV (vp_V (mm_fs g x (μ.2.2.1 a) (μ.2.2.2 a))) y v) ⟨_, e1, q2, q3, t_set q4 hap hyN v⟩ (fun k _ => vp_updV_set hl v k)⟩
  unfold u_lay at hlay
  by_cases hf : ((mm_cls x).2.1 y).2.2.2 = true
  · rw [if_pos hf] at hlay
    obtain ⟨hk2, hdecl⟩ : mm_nu (mm_me j) 0 = 2 ∧ ((mm_cls x).2.1 y).1 = mm_own j := by
      rcases hfin with h | h
      · rw [hf] at h; cases h
      · exact h
    have hcf : m.cls = cf := by
      obtain ⟨_, _, c', _, _, _, -, -, hf', -, -, -, hown2, -⟩ := Cond.laysFinal_spec hlay
      have e1 : c' = cf := by have := hi.symm.trans hf'; simp at this; exact this.1.symm
      rw [hdecl] at hown2
      rw [← e1]; exact Option.some.inj (hown.symm.trans hown2)
    have h6 := u_fits hfc hkC hkind (Or.inr hlay) hi hd hna hfi
    refine W.putFinK hx hb hown (mm_gw hts hlw rfl) hi hst hcf (hini hk2) (by rw [q2]; exact h6) q1 q3 (by rw [hsl]; exact k2_hasslot (q4 y hyN)) rfl rfl hdg fun H' e1 e2 e3 => ?_
    rw [hsl] at e1
    exact kk H' _ (fini H' e1) e2 e3
  · rw [if_neg hf] at hlay
    have h6 := u_store hfc hkC hkind hlay hi hd hna hfi
    refine W.putK hx hb (f := f) ⟨hown, mm_gw hts hlw rfl, ⟨_, _, _, hi⟩, hst⟩ (by rw [q2]; exact h6) q1 q3 (by rw [hsl]; exact k2_hasslot (q4 y hyN)) rfl rfl hdg fun H' e1 e2 e3 => ?_
    rw [hsl] at e1
    exact kk H' _ (fini H' e1) e2 e3
/-- a place of an int row -/
theorem mm_iast (hx : p.tables.exec = Jvm.exec) (hb : c.code = cc) (hC : mm_C g s s.heap) (hR : mm_R g μ H) {a : Nat} {i v : Int32} {rest : List Value} (ha : (mm_kd μ a).1 = 1) (hin : ¬ (i < 0 ∨ (mm_kd μ a).2 ≤ i.toNatClampNeg)) (hdg : decode cc pc = .ok (.iastore, 1))
    (kk : ∀ (H1 : Heap) (k : Nat), H1[g.2.2.1 + a]? = some (vp_cell (g.2.1 1) ((mm_kd μ a).2, .inl (fun q => if q = i.toNatClampNeg then v else μ.2.2.2 a q))) → H1.size = H.size → (∀ q : Nat, q ≠ g.2.2.1 + a → H1[q]? = H[q]?) → W p l e R s m args below meth c H1 (locs ++ [⟨g.2.2.1 + a, k⟩]) cells slots Q (F0 m (pc + 1) ls rest)) :
    W p l e R s m args below meth c H locs cells slots Q (F0 m pc ls (.int v :: .int i :: .ref (g.2.2.1 + a) :: rest)) := by
  obtain ⟨he, -⟩ := mm_cell_i hR ha
  have ht : (mm_tys g)[0]? = some (g.2.1 1, .int) := rfl
  refine W.iast hx hb (hR.2.2 (a - 1) _ he) ((hC.1.2 0 _ ht).1 (mm_kd μ a).2 (fun j => .int (μ.2.2.2 a j))) (fun q => by cases q) (by show ¬ (i < 0 ∨ (arrV _ _ _).slots.size ≤ _); rw [arrV_size]; exact hin) rfl rfl hdg fun H1 e z oq => ?_
  refine kk H1 _ ?_ z oq
  rw [e]
  show some ((vp_cell (g.2.1 1) ((mm_kd μ a).2, .inl (μ.2.2.2 a))).setSlot _ _) = some (vp_cell (g.2.1 1) ((mm_kd μ a).2, .inl (fun q => if q = i.toNatClampNeg then v else μ.2.2.2 a q)))
  rw [vp_cell_i, vp_cell_i, arrV_store]
  congr 2
  funext q
  by_cases hq : q = i.toNatClampNeg
  · subst hq
    simp [updV]
  · simp [updV, hq]
set_option maxHeartbeats 1000000 in
/-- a place of a row of references to objects of class x -/
theorem mm_aast (hx : p.tables.exec = Jvm.exec) (hb : c.code = cc) (hC : mm_C g s s.heap) (hR : mm_R g μ H) {a q0 x t : Nat} {i : Int32} {rest : List Value} (hx11 : x < 11) (ha : (mm_kd μ a).1 = t) (h2 : 2 ≤ t) (h4 : t ≤ 4) (ht : (mm_tys g)[t - 1]? = some (g.2.1 t, .object (mm_cls x).1)) (hq0 : (mm_kd μ q0).1 = 10 + x) (hin : ¬ (i < 0 ∨ (mm_kd μ a).2 ≤ i.toNatClampNeg)) (hdg : decode cc pc = .ok (.aastore, 1))
    (kk : ∀ (H1 : Heap) (k : Nat), H1[g.2.2.1 + a]? = some (vp_cell (g.2.1 t) ((mm_kd μ a).2, .inr (.inr (.inr (.inr (fun q => mm_q g (if q = i.toNatClampNeg then q0 else μ.2.2.1 a q))))))) → H1.size = H.size → (∀ q : Nat, q ≠ g.2.2.1 + a → H1[q]? = H[q]?) → W p l e R s m args below meth c H1 (locs ++ [⟨g.2.2.1 + a, k⟩]) cells slots Q (F0 m (pc + 1) ls rest)) :
    W p l e R s m args below meth c H locs cells slots Q (F0 m pc ls (.ref (g.2.2.1 + q0) :: .int i :: .ref (g.2.2.1 + a) :: rest)) := by
  subst ha
  obtain ⟨he, -⟩ := mm_cell_q hR h2 h4
  obtain ⟨hv, hrq⟩ := mm_cell_o hR hq0
  have hlt : i.toNatClampNeg < (mm_kd μ a).2 := Nat.not_le.mp fun q => hin (Or.inr q)
  have h0 : ¬ i < 0 := fun q => hin (Or.inl q)
  have hc := mm_vw x hx11
  obtain ⟨r', hr', cellV, g1, g2, g3, -⟩ := hR.2.2 (q0 - 1) _ hv
  have hcls := (hC.1.1 x _ hc).2
  obtain ⟨kA, comp, k1, k2, k3, -⟩ := (hC.1.2 _ _ ht).2
  have hcomp : comp = g.1.1 x := Option.some.inj (k3.symm.trans hcls.1)
  subst hcomp
  obtain ⟨kC, hkC, -⟩ := hcls.2
  refine W.aast hx hb (hR.2.2 (a - 1) _ he) (fun q h => by cases h) (fun h => by cases h) k1 k2 rfl hkC ⟨h0, by show _ < (arrV _ _ _).slots.size; rw [arrV_size]; exact hlt⟩ g1 (fun q h => by rw [g3] at h; cases h) (by rw [g2]; exact hkC) (by rw [g2]; exact va_assign hcls) rfl rfl hdg fun H1 e z oq => ?_
  refine kk H1 _ ?_ z oq
  rw [e]
  show some ((vp_cell (g.2.1 (mm_kd μ a).1) ((mm_kd μ a).2, .inr (.inr (.inr (.inr (fun i => mm_q g (μ.2.2.1 a i))))))).setSlot _ _) = some (vp_cell (g.2.1 (mm_kd μ a).1) ((mm_kd μ a).2, .inr (.inr (.inr (.inr (fun q => mm_q g (if q = i.toNatClampNeg then q0 else μ.2.2.1 a q)))))))
  rw [vp_cell_q, vp_cell_q, arrV_store]
  congr 2
  funext q
  by_cases hq : q = i.toNatClampNeg
  · subst hq
    have h5 : va_rf (mm_q g q0) = .ref (g.2.2.1 + q0) := hrq
    simp [updV, h5]
  · simp [updV, hq]
set_option maxHeartbeats 1000000 in
/-- System.arraycopy of int rows -/
theorem mm_copy (hx : p.tables.exec = Jvm.exec) (hb : c.code = cc) (hml : c.maxLocals = ls.size) (hown : s.vm.findClass (mm_own j) = some m.cls) (hts : ∀ w ∈ mm_gt, w.before args s = true) {index z : Nat} (hlw : lw_tbl[z]? = some (.methodLink (mm_own j) index arraycopyName)) (hC : mm_C g s s.heap) (hR : mm_R g μ H) (hS : va_S (mm_A g) s.heap H locs)
    {a a0 : Nat} {rest : List Value} (ha : (mm_kd μ a).1 = 1) (ha0 : (mm_kd μ a0).1 = 1) {sp dp n : Int32} (h1 : ¬ sp < 0) (h2 : ¬ dp < 0) (h3 : ¬ n < 0) (h4 : sp.toNatClampNeg + n.toNatClampNeg ≤ (mm_kd μ a0).2) (h5 : dp.toNatClampNeg + n.toNatClampNeg ≤ (mm_kd μ a).2) (hframes : 1 ≤ R.frames) (hlocals : (rest.map fun v => v.category).sum + (nativeFrameWords "java/lang/System" "arraycopy" 5 + 11) ≤ R.locals) (hdg : decode cc pc = .ok (.invokestatic index, 3))
    (kk : ∀ (H1 : Heap) (locs1 : List Loc), H1[g.2.2.1 + a]? = some (vp_cell (g.2.1 1) ((mm_kd μ a).2, .inl (va_cpy (μ.2.2.2 a0) (μ.2.2.2 a) sp.toNatClampNeg dp.toNatClampNeg n.toNatClampNeg))) → H1.size = H.size → (∀ q : Nat, q ≠ g.2.2.1 + a → H1[q]? = H[q]?) → va_S (mm_A g) s.heap H1 locs1 → W p l e R s m args below meth c H1 locs1 cells slots Q (F0 m (pc + 3) ls rest)) :
    W p l e R s m args below meth c H locs cells slots Q (F0 m pc ls (.int n :: .int dp :: .ref (g.2.2.1 + a) :: .int sp :: .ref (g.2.2.1 + a0) :: rest)) := by
  have nn : ∀ z : Int32, ¬ z < 0 → z.toInt = (z.toNatClampNeg : Int) := by
    intro z hz
    have hz0 : (0 : Int) ≤ z.toInt := by
      have := Int32.not_lt.mp hz
      simpa using Int32.le_iff_toInt_le.mp this
    show z.toInt = ((z.toInt.toNat : Nat) : Int)
    omega
  obtain ⟨e0, -⟩ := mm_cell_i hR ha0
  obtain ⟨e1, -⟩ := mm_cell_i hR ha
  have ht : (mm_tys g)[0]? = some (g.2.1 1, .int) := rfl
  have hA1 : 1 ≤ a := (mm_kd_in ha (Nat.le_refl 1)).1
  intro T hT X
  have hc0 : H[g.2.2.1 + a0]? = some (vp_cell (g.2.1 1) ((mm_kd μ a0).2, .inl (μ.2.2.2 a0))) := hR.2.2 _ _ e0
  have hc1 : H[g.2.2.1 + a]? = some (vp_cell (g.2.1 1) ((mm_kd μ a).2, .inl (μ.2.2.2 a))) := hR.2.2 _ _ e1
  generalize (mm_kd μ a0).2 = n0 at h4 hc0
  generalize hn1 : (mm_kd μ a).2 = n1 at h5 hc1 kk
  generalize μ.2.2.2 a0 = f at hc0 kk
  generalize μ.2.2.2 a = f1 at hc1 kk
  obtain ⟨-, k0, hk0, cm0, hkk0⟩ := (hC.1.2 0 _ ht).1 n0 (fun j => .int (f j))
  obtain ⟨-, k1, hk1, cm1, hkk1⟩ := (hC.1.2 0 _ ht).1 n1 (fun j => .int (f1 j))
  obtain ⟨vm', X', step⟩ := X.arraycopy hx hown (mm_gw hts hlw rfl) (mm_gw hts (z := 568) (by decide +kernel) rfl) (mm_gw hts (z := 567) (by decide +kernel) rfl) (mm_gw hts (z := 102) (by decide +kernel) rfl) (src := g.2.2.1 + a0) (dst := g.2.2.1 + a) (cs := vp_cell (g.2.1 1) (n0, .inl f)) (cd := vp_cell (g.2.1 1) (n1, .inl f1)) (srcPos := sp) (destPos := dp) (n := n) (by rw [hT]; exact hc0) (by rw [hT]; exact hc1)
    (fun _ h => by cases h) (fun _ h => by cases h) (fun h => by cases h) (fun h => by cases h) hk0 hk1 hkk0 hkk1 (by rfl) h1 h2 h3
    (by rw [nn sp h1, nn n h3]; show ¬ _ > ((arrV (g.2.1 1) n0 (fun j => .int (f j))).slots.size : Int); rw [arrV_size]; omega)
    (by rw [nn dp h2, nn n h3]; show ¬ _ > ((arrV (g.2.1 1) n1 (fun j => .int (f1 j))).slots.size : Int); rw [arrV_size]; omega)
    (fun vm₁ _ i hi => by
      have e : (vp_cell (g.2.1 1) (n0, .inl f)).slots.getD (sp.toNatClampNeg + i) .null = .int (f (sp.toNatClampNeg + i)) := by
        show (arrV (g.2.1 1) n0 (fun j => .int (f j))).slots.getD _ _ = _
        rw [Array.getD_eq_getD_getElem?, arrV_read _ _ (by omega)]
        rfl
      refine ⟨?_, ?_⟩
      · rw [e]
        rfl
      · rw [e]
        exact trivial)
    (g := F0 m pc ls (.int n :: .int dp :: .ref (g.2.2.1 + a) :: .int sp :: .ref (g.2.2.1 + a0) :: rest)) rfl (by rw [hml]) (rest := rest) rfl (by rw [hb]; exact hdg) hframes (by show 2 * 0 + _ + _ ≤ _; omega)
  have ec : copied (vp_cell (g.2.1 1) (n0, .inl f)) (vp_cell (g.2.1 1) (n1, .inl f1)) sp dp n = vp_cell (g.2.1 1) (n1, .inl (va_cpy f f1 sp.toNatClampNeg dp.toNatClampNeg n.toNatClampNeg)) := va_copied (fun z => .int z) (g.2.1 1) (g.2.1 1) f f1 h4
  rw [ec] at X' step
  have hl : g.2.2.1 + a < H.size := (Array.getElem?_eq_some_iff.mp hc1).1
  have hheap : ((T.setVm vm').setCell (g.2.2.1 + a) (vp_cell (g.2.1 1) (n1, .inl (va_cpy f f1 sp.toNatClampNeg dp.toNatClampNeg n.toNatClampNeg)))).heap = H.setIfInBounds (g.2.2.1 + a) (vp_cell (g.2.1 1) (n1, .inl (va_cpy f f1 sp.toNatClampNeg dp.toNatClampNeg n.toNatClampNeg))) := by rw [← hT]; rfl
  have oq : ∀ q : Nat, q ≠ g.2.2.1 + a → (H.setIfInBounds (g.2.2.1 + a) (vp_cell (g.2.1 1) (n1, .inl (va_cpy f f1 sp.toNatClampNeg dp.toNatClampNeg n.toNatClampNeg))))[q]? = H[q]? := fun q hq => by simp [Array.getElem?_setIfInBounds, Ne.symm hq]
  obtain ⟨t, a1, b1⟩ := kk _ _ (show (H.setIfInBounds (g.2.2.1 + a) _)[g.2.2.1 + a]? = some _ by simp [Array.getElem?_setIfInBounds, hl]) (by simp) oq ⟨by simp; exact hS.1, fun q g1 g2 => by
      rw [oq q (fun e => g2 (by rw [e]; show g.2.2.1 < g.2.2.1 + a; omega))]
      exact hS.2.1 q g1 g2, fun q hq => by
      rcases List.mem_append.mp hq with h | h
      · exact hS.2.2 q h
      · obtain ⟨z, -, hz⟩ := List.mem_map.mp h
        rw [← hz]
        show g.2.2.1 < g.2.2.1 + a
        omega⟩ _ hheap X'
  exact ⟨t, step t a1, b1⟩
theorem mm_Ec_oth {μ' : mm_M} {k : Nat} (h1 : μ'.2.1 k = μ.2.1 k) (h2 : μ'.2.2.1 k = μ.2.2.1 k) (h3 : μ'.2.2.2 k = μ.2.2.2 k) : mm_Ec g μ' k = mm_Ec g μ k := by
  unfold mm_Ec
  rw [h1, h2, h3]
theorem mm_up2_ne {α : Type} {f : Nat → Nat → α} {a k q : Nat} {v : α} (h : q ≠ a) : mm_up2 f a k v q = f q := by
  funext j
  simp [mm_up2, h]
theorem mm_up2_at {α : Type} {f : Nat → Nat → α} {a k : Nat} {v : α} : mm_up2 f a k v a = fun j => if j = k then v else f a j := by
  funext j
  simp [mm_up2]
theorem mm_row_ne {α : Type} {f : Nat → Nat → α} {a q : Nat} {h : Nat → α} (hq : q ≠ a) : mm_row f a h q = f q := by
  funext j
  simp [mm_row, hq]
theorem mm_row_at {α : Type} {f : Nat → Nat → α} {a : Nat} {h : Nat → α} : mm_row f a h a = h := by
  funext j
  simp [mm_row]
theorem mm_nar0 {x y : Nat} {v : Int32} (hx11 : x < 11) (hy : y < mm_N x) (hf : mm_fk x y = 0) : narrow (mm_ty x y) (.int v) = .int v ∧ fits (mm_ty x y) (.int v) = true := by
  have h := mm_ty_k x hx11 y hy
  rw [hf] at h
  cases ht : mm_ty x y <;> rw [ht] at h <;> first | exact ⟨rfl, rfl⟩ | (cases h; done)
theorem mm_nar1 {x y : Nat} {v : Int32} (hx11 : x < 11) (hy : y < mm_N x) (hf : mm_fk x y = 1) (hv : v = 0 ∨ v = 1) : narrow (mm_ty x y) (.int v) = .int v ∧ fits (mm_ty x y) (.int v) = true := by
  have h := mm_ty_k x hx11 y hy
  rw [hf] at h
  cases ht : mm_ty x y <;> rw [ht] at h <;> first | (rcases hv with rfl | rfl <;> exact ⟨rfl, rfl⟩) | (cases h; done)
theorem mm_nar2 {x y : Nat} {r : Option Nat} (hx11 : x < 11) (hy : y < mm_N x) (hf : mm_fk x y = 2) : narrow (mm_ty x y) (va_rf r) = va_rf r ∧ fits (mm_ty x y) (va_rf r) = true := by
  have h := mm_ty_k x hx11 y hy
  rw [hf] at h
  cases ht : mm_ty x y <;> rw [ht] at h <;> first | (cases r <;> exact ⟨rfl, rfl⟩) | (cases h; done)
set_option maxHeartbeats 4000000 in
theorem mm_m2_W (hx : p.tables.exec = Jvm.exec) (hb : c.code = cc) (hml : c.maxLocals = nL) (hls : ls.size = nL) (hown : s.vm.findClass (mm_own j) = some m.cls) (hts : ∀ w ∈ mm_gt, w.before args s = true) (hC : mm_C g s s.heap) (hR : mm_R g μ H) (hS : va_S (mm_A g) s.heap H locs) (hfr : mm_nu (mm_me j) 3 ≤ R.frames) (hlo : mm_nu (mm_me j) 4 ≤ R.locals) (hini : mm_nu (mm_me j) 0 = 2 → meth.name = "<init>")
    {ins : Instr} {len x y z : Nat} {st st' : List Value} {μ' : mm_M} (h : mm_m2 ins x y st μ = some (st', μ')) (hk : mm_k3 j ins len x y z = true) (hdg : decode cc pc = .ok (ins, len))
    (kk : ∀ (H1 : Heap) (locs1 : List Loc), mm_R g μ' H1 → va_S (mm_A g) s.heap H1 locs1 → W p l e R s m args below meth c H1 locs1 cells slots Q (F0 m (pc + len) ls (st'.map (mm_rl g)))) : W p l e R s m args below meth c H locs cells slots Q (F0 m pc ls (st.map (mm_rl g))) := by
  unfold mm_m2 at h
  split at h
  · -- putfield
    simp only [mm_k3, Bool.and_eq_true, Bool.or_eq_true, beq_iff_eq, decide_eq_true_eq] at hk
    obtain ⟨⟨⟨⟨rfl, hx11⟩, hy⟩, hlw⟩, hfin⟩ := hk
    split at h
    · rename_i v a st2
      split at h
      · rename_i hc
        obtain ⟨a1, a2, a3, a4⟩ := mm_kd_in hc.1 (by omega)
        rw [a4] at hc
        have key : mm_fk x y ≠ 2 → narrow (mm_ty x y) (.int v) = .int v ∧ fits (mm_ty x y) (.int v) = true → st' = st2 → μ' = (μ.1, μ.2.1, μ.2.2.1, mm_up2 μ.2.2.2 a y v) → W p l e R s m args below meth c H locs cells slots Q (F0 m pc ls ((Value.int v :: .ref a :: st2).map (mm_rl g))) := by
          intro hf hnf e1 e2
          subst e1; subst e2
          rw [List.map_cons, List.map_cons, mm_rl_dyn g a1 a3]
          refine mm_put hx hb hown hts hC hR hS hini hx11 hy hlw hfin (by rw [a4]; exact hc.1) hnf.1 hnf.2 hdg (fun H1 k hat hz ho => ?_)
          refine kk H1 _ (hR.set a1 a2 rfl (fun q hq => mm_Ec_oth rfl rfl (mm_up2_ne hq)) hz ?_ ho) (mm_S_put hS a1 hz ho)
          unfold mm_Ec
          rw [mm_E_o (show (μ.2.1 a).1 = 10 + x from hc.1)]
          have hat : va_at g.1 vwCl (g.2.2.1 + a, .inr (x, (mm_fs g x (μ.2.2.1 a) (μ.2.2.2 a)).set y (.int v))) H1 := hat
          rw [mm_fs_seti hy hf] at hat
          show va_at g.1 vwCl (g.2.2.1 + a, .inr (x, mm_fs g x (μ.2.2.1 a) (mm_up2 μ.2.2.2 a y v a))) H1
          rw [mm_up2_at]
          exact hat
        split at h
        · rename_i hf
          cases h
          exact key (by rw [hf]; decide) (mm_nar0 hx11 hy hf) rfl rfl
        · rename_i hf
          split at h
          · rename_i hv
            cases h
            exact key (by rw [hf]; decide) (mm_nar1 hx11 hy hf hv) rfl rfl
          · cases h
        · cases h
      · cases h
    · rename_i q0 a st2
      split at h
      · rename_i hc
        cases h
        obtain ⟨hc1, -, hf⟩ := hc
        obtain ⟨a1, a2, a3, a4⟩ := mm_kd_in hc1 (by omega)
        rw [a4] at hc1
        rw [List.map_cons, List.map_cons, mm_rl_dyn g a1 a3]
        have hnf := mm_nar2 (r := mm_q g q0) hx11 hy hf
        refine mm_put hx hb hown hts hC hR hS hini hx11 hy hlw hfin (by rw [a4]; exact hc1) hnf.1 hnf.2 hdg (fun H1 k hat hz ho => ?_)
        refine kk H1 _ (hR.set a1 a2 rfl (fun q hq => mm_Ec_oth rfl (mm_up2_ne hq) rfl) hz ?_ ho) (mm_S_put hS a1 hz ho)
        unfold mm_Ec
        rw [mm_E_o (show (μ.2.1 a).1 = 10 + x from hc1)]
        have hat : va_at g.1 vwCl (g.2.2.1 + a, .inr (x, (mm_fs g x (μ.2.2.1 a) (μ.2.2.2 a)).set y (va_rf (mm_q g q0)))) H1 := hat
        rw [mm_fs_setr hy hf] at hat
        show va_at g.1 vwCl (g.2.2.1 + a, .inr (x, mm_fs g x (mm_up2 μ.2.2.1 a y q0 a) (μ.2.2.2 a))) H1
        rw [mm_up2_at]
        exact hat
      · cases h
    · cases h
  · -- iastore
    simp only [mm_k3, beq_iff_eq] at hk
    subst hk
    split at h
    · rename_i v i a st2
      split at h
      · rename_i hc
        split at h
        · cases h
        · rename_i hin
          cases h
          obtain ⟨a1, a2, a3, a4⟩ := mm_kd_in hc (Nat.le_refl 1)
          rw [List.map_cons, List.map_cons, List.map_cons, mm_rl_dyn g a1 a3]
          refine mm_iast hx hb hC hR hc hin hdg (fun H1 k hat hz ho => ?_)
          refine kk H1 _ (hR.set a1 a2 rfl (fun q hq => mm_Ec_oth rfl rfl (mm_up2_ne hq)) hz ?_ ho) (mm_S_put hS a1 hz ho)
          unfold mm_Ec
          have hc' := hc
          rw [a4] at hc' hat
          rw [mm_E_i (show (μ.2.1 a).1 = 1 from hc')]
          show H1[g.2.2.1 + a]? = some (vp_cell (g.2.1 1) ((μ.2.1 a).2, .inl (mm_up2 μ.2.2.2 a i.toNatClampNeg v a)))
          rw [mm_up2_at]
          exact hat
      · cases h
    · cases h
  · -- aastore
    simp only [mm_k3, beq_iff_eq] at hk
    subst hk
    split at h
    · rename_i q0 i a st2
      split at h
      · rename_i hc
        split at h
        · cases h
        · rename_i hin
          cases h
          have key : ∀ t x, x < 11 → 2 ≤ t → t ≤ 4 → (mm_tys g)[t - 1]? = some (g.2.1 t, .object (mm_cls x).1) → (mm_kd μ a).1 = t → (mm_kd μ q0).1 = 10 + x → W p l e R s m args below meth c H locs cells slots Q (F0 m pc ls ((Value.ref q0 :: .int i :: .ref a :: st').map (mm_rl g))) := by
            intro t x hx11 h2 h4 ht ha hq
            obtain ⟨a1, a2, a3, a4⟩ := mm_kd_in ha (by omega)
            obtain ⟨b1, b2, b3, b4⟩ := mm_kd_in hq (by omega)
            rw [List.map_cons, List.map_cons, List.map_cons, mm_rl_dyn g a1 a3, mm_rl_dyn g b1 b3]
            refine mm_aast hx hb hC hR hx11 ha h2 h4 ht hq hin hdg (fun H1 k hat hz ho => ?_)
            refine kk H1 _ (hR.set a1 a2 rfl (fun q hq => mm_Ec_oth rfl (mm_up2_ne hq) rfl) hz ?_ ho) (mm_S_put hS a1 hz ho)
            unfold mm_Ec
            rw [a4] at ha hat
            rw [mm_E_q (show 2 ≤ (μ.2.1 a).1 by omega) (show (μ.2.1 a).1 ≤ 4 by omega)]
            show H1[g.2.2.1 + a]? = some (vp_cell (g.2.1 (μ.2.1 a).1) ((μ.2.1 a).2, .inr (.inr (.inr (.inr (fun k => mm_q g (mm_up2 μ.2.2.1 a i.toNatClampNeg q0 a k)))))))
            rw [mm_up2_at, ha]
            exact hat
          rcases hc with hc | hc
          · exact key 2 5 (by decide) (by decide) (by decide) rfl hc.1 hc.2
          · exact key 3 0 (by decide) (by decide) (by decide) rfl hc.1 hc.2
      · cases h
    · cases h
  · -- arraycopy
    simp only [mm_k3, Bool.and_eq_true, beq_iff_eq, decide_eq_true_eq] at hk
    obtain ⟨⟨⟨rfl, hlw⟩, h1⟩, h2⟩ := hk
    split at h
    · rename_i n dp a sp a0 st2
      split at h
      · rename_i hc
        cases h
        obtain ⟨c1, c2, c3, c4, c5, c6, c7, c8⟩ := hc
        obtain ⟨a1, a2, a3, a4⟩ := mm_kd_in c1 (Nat.le_refl 1)
        obtain ⟨b1, b2, b3, b4⟩ := mm_kd_in c2 (Nat.le_refl 1)
        rw [List.map_cons, List.map_cons, List.map_cons, List.map_cons, List.map_cons, mm_rl_dyn g a1 a3, mm_rl_dyn g b1 b3]
        refine mm_copy hx hb (by rw [hml, hls]) hown hts hlw hC hR hS c1 c2 c3 c4 c5 c6 c7 (Nat.le_trans h1 hfr) ?_ hdg (fun H1 locs1 hat hz ho hS1 => ?_)
        · rw [mm_rl_sum]
          have : nativeFrameWords "java/lang/System" "arraycopy" 5 = 7 := by decide
          rw [this]
          omega
        · refine kk H1 _ (hR.set a1 a2 rfl (fun q hq => mm_Ec_oth rfl rfl (mm_row_ne hq)) hz ?_ ho) hS1
          unfold mm_Ec
          rw [a4] at c1 hat
          rw [mm_E_i (show (μ.2.1 a).1 = 1 from c1)]
          show H1[g.2.2.1 + a]? = some (vp_cell (g.2.1 1) ((μ.2.1 a).2, .inl (mm_row μ.2.2.2 a (va_cpy (μ.2.2.2 a0) (μ.2.2.2 a) sp.toNatClampNeg dp.toNatClampNeg n.toNatClampNeg) a)))
          rw [mm_row_at]
          exact hat
      · cases h
    · cases h
  · cases h
end MMS
