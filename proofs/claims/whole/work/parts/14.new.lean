/-! AN INSTRUCTION THAT MAKES A CELL -/
theorem mm_outer (c : ClassId) (N h0 : Nat) : ∀ i : Nat, Jvm.Free.Multi.outerC c N h0 i = arrV c N (fun j => va_rf (if j < i then some (h0 + 1 + j) else none))
  | 0 => by
    show ({ cls := c, slots := Array.replicate N .null, vm := .none } : Cell) = _
    rw [arrV_new]
    refine congrArg (arrV c N) (funext fun j => ?_)
    simp [va_rf]
  | i + 1 => by
    show (Jvm.Free.Multi.outerC c N h0 i).setSlot i (.ref (h0 + 1 + i)) = _
    rw [mm_outer c N h0 i, arrV_store]
    refine congrArg (arrV c N) (funext fun j => ?_)
    by_cases e : j = i
    · subst e
      simp [updV, va_rf]
    · by_cases h : j < i
      · simp [updV, e, h, Nat.lt_succ_of_lt h]
      · simp [updV, e, h, show ¬ j < i + 1 by omega]
section MMN
variable {p : Program} {l : Launch} {e : Env} {R : Room} {s : State} {m : MethodId} {args : Array Value} {below : List Frame} {meth : Method} {c : Code} {H : Heap} {locs : List Loc} {cells slots : Nat} {Q : State → Prop}
variable {cc : ByteArray} {pc : Nat} {ls : Array Slot} {g : mm_G} {nL j : Nat} {μ : mm_M}
theorem mm_R.push {μ' : mm_M} {H1 : Heap} (hR : mm_R g μ H) (hn : μ'.1 = μ.1 + 1) (hk : ∀ k, k ≠ μ.1 → mm_Ec g μ' k = mm_Ec g μ k) (hz : H1.size = H.size + 1) (hat : va_at g.1 vwCl (mm_Ec g μ' μ.1) H1) (ho : ∀ q : Nat, q < H.size → H1[q]? = H[q]?) : mm_R g μ' H1 := by
  refine ⟨by rw [hn]; omega, by rw [hz, hn, hR.2.1]; rfl, ?_⟩
  rw [← mm_ws_new hR.1 hn hk]
  refine (hR.2.2.kept (fun k x hx => ho x.1 ((hR.2.2 k x hx).lt))).app (fun k x hx => ?_)
  have h0 : k < 1 := (List.getElem?_eq_some_iff.mp hx).1
  rw [show k = 0 by omega] at hx
  cases hx
  exact hat
theorem mm_S_push {H1 : Heap} (hS : va_S (mm_A g) s.heap H locs) (hz : H.size ≤ H1.size) (ho : ∀ q : Nat, q < H.size → H1[q]? = H[q]?) : va_S (mm_A g) s.heap H1 locs :=
  ⟨Nat.le_trans hS.1 hz, fun q h1 h2 => (ho q (Nat.lt_of_lt_of_le h1 hS.1)).trans (hS.2.1 q h1 h2), hS.2.2⟩
theorem mm_rl_new (hR : mm_R g μ H) (h : μ.1 < 1000000) : mm_rl g (.ref μ.1) = .ref H.size := by
  rw [mm_rl_dyn g hR.1 h, hR.2.1]
theorem mm_tyk_d {f : Nat} {t : FieldType} (h : mm_tyk f t = true) (hf : f ≠ 2) : defaultValue t = .int 0 := by
  unfold mm_tyk at h
  split at h
  · rfl
  · rfl
  · exact absurd rfl hf
  · exact absurd rfl hf
  · cases h
theorem mm_tyk_r {t : FieldType} (h : mm_tyk 2 t = true) : defaultValue t = .null := by
  cases t <;> first | rfl | (cases h; done)
theorem mm_fs_def {x : Nat} (hx11 : x < 11) : ∀ k, k < (mm_cls x).2.2 → defaultValue (mm_ty x k) = vp_V (mm_fs g x (fun _ => 0) (fun _ => 0)) k := by
  intro k hk
  rw [mm_clsN x hx11] at hk
  have h := mm_ty_k x hx11 k hk
  unfold vp_V
  rw [List.getD_eq_getElem?_getD, mm_fs_get hk]
  by_cases hf : mm_fk x k = 2
  · rw [if_pos hf]
    rw [hf] at h
    exact mm_tyk_r h
  · rw [if_neg hf]
    exact mm_tyk_d h hf
theorem mm_up1_ne {α : Type} {f : Nat → α} {a q : Nat} {v : α} (h : q ≠ a) : mm_up1 f a v q = f q := by simp [mm_up1, h]
theorem mm_up1_at {α : Type} {f : Nat → α} {a : Nat} {v : α} : mm_up1 f a v a = v := by simp [mm_up1]
set_option maxHeartbeats 4000000 in
theorem mm_newarr (hx : p.tables.exec = Jvm.exec) (hb : c.code = cc) (hown : s.vm.findClass (mm_own j) = some m.cls) (hts : ∀ w ∈ mm_gt, w.before args s = true) (hC : mm_C g s s.heap) (hR : mm_R g μ H) (hS : va_S (mm_A g) s.heap H locs) (hcc : mm_nu (mm_me j) 5 ≤ R.cells) (hss : mm_nu (mm_me j) 6 ≤ R.slots)
    {n : Int32} {st2 : List Value} {B : Nat × Nat} (c0 : ¬ n < 0) (c1 : n.toNatClampNeg ≤ 65536) (c2 : B.1 + 1 ≤ mm_nu (mm_me j) 5) (c3 : B.2 + n.toNatClampNeg ≤ mm_nu (mm_me j) 6) (c4 : μ.1 + 1 < 1000000) (hdg : decode cc pc = .ok (.newarray .int, 2))
    (kk : ∀ (H1 : Heap) (locs1 : List Loc), mm_R g (μ.1 + 1, mm_up1 μ.2.1 μ.1 (1, n.toNatClampNeg), mm_row μ.2.2.1 μ.1 (fun _ => 0), mm_row μ.2.2.2 μ.1 (fun _ => 0)) H1 → va_S (mm_A g) s.heap H1 locs1 → W p l e R s m args below meth c H1 locs1 (B.1 + 1) (B.2 + n.toNatClampNeg) Q (F0 m (pc + 2) ls (mm_rl g (.ref μ.1) :: st2))) : W p l e R s m args below meth c H locs B.1 B.2 Q (F0 m pc ls (.int n :: st2)) := by
  have harr : (Jvm.Cond.arrayClass (newarray.typeOf .int)).before args s = true := mm_gw hts (z := 132) (w := .arrayClass .int) (by decide +kernel) rfl
  have hby : n.toNatClampNeg * componentBytes (newarray.typeOf .int) ≤ 536870912 := by
    have e4 : componentBytes (newarray.typeOf .int) = 4 := rfl
    rw [e4]
    omega
  refine va_newaK (g := F0 m pc ls (.int n :: st2)) (rest := st2) (n := n) (N := n.toNatClampNeg) (h := H.size) hx hb harr rfl hdg rfl c0 rfl hby (Nat.le_trans c2 hcc) (Nat.le_trans c3 hss) rfl (fun H1 cA e1 z1 o1 hAr hNm => ?_)
  have hcA : cA = g.2.1 1 := Option.some.inj (hNm.symm.trans ((hC.1.2 0 _ (rfl : (mm_tys g)[0]? = some (g.2.1 1, .int))).2))
  subst hcA
  have key := kk H1 locs (hR.push rfl (fun q hq => mm_Ec_oth (mm_up1_ne hq) (mm_row_ne hq) (mm_row_ne hq)) z1 ?_ o1) (mm_S_push hS (by omega) o1)
  · rw [mm_rl_new hR (by omega)] at key
    exact key
  · unfold mm_Ec
    show va_at g.1 vwCl (g.2.2.1 + μ.1, mm_E g (mm_up1 μ.2.1 μ.1 (1, n.toNatClampNeg) μ.1) (mm_row μ.2.2.1 μ.1 (fun _ => 0) μ.1) (mm_row μ.2.2.2 μ.1 (fun _ => 0) μ.1)) H1
    rw [mm_up1_at, mm_row_at, mm_row_at, mm_E_i rfl, ← hR.2.1]
    exact e1
set_option maxHeartbeats 4000000 in
theorem mm_newmul (hx : p.tables.exec = Jvm.exec) (hb : c.code = cc) (hown : s.vm.findClass (mm_own j) = some m.cls) (hts : ∀ w ∈ mm_gt, w.before args s = true) (hC : mm_C g s s.heap) (hR : mm_R g μ H) (hS : va_S (mm_A g) s.heap H locs) (hcc : mm_nu (mm_me j) 5 ≤ R.cells) (hss : mm_nu (mm_me j) 6 ≤ R.slots)
    {n k : Int32} {st2 : List Value} {B : Nat × Nat} {index : Nat} (hclink0 : (Jvm.Cond.classLink (mm_own j) index "[[I").before args s = true) (c0 : ¬ n < 0) (c1 : ¬ k < 0) (c2 : n.toNatClampNeg ≤ 1000) (c3 : k.toNatClampNeg ≤ 1000) (c4 : B.1 + (1 + n.toNatClampNeg) ≤ mm_nu (mm_me j) 5) (c5 : B.2 + (n.toNatClampNeg + n.toNatClampNeg * k.toNatClampNeg) ≤ mm_nu (mm_me j) 6) (c6 : μ.1 + 1 + n.toNatClampNeg < 1000000) (hdg : decode cc pc = .ok (.multianewarray index 2, 4))
    (kk : ∀ (H1 : Heap) (locs1 : List Loc), mm_R g (μ.1 + 1 + n.toNatClampNeg, (fun q => if q = μ.1 then (4, n.toNatClampNeg) else if μ.1 < q ∧ q < μ.1 + 1 + n.toNatClampNeg then (1, k.toNatClampNeg) else μ.2.1 q), (fun q i => if q = μ.1 then (if i < n.toNatClampNeg then μ.1 + 1 + i else 0) else if μ.1 < q ∧ q < μ.1 + 1 + n.toNatClampNeg then 0 else μ.2.2.1 q i), (fun q i => if μ.1 ≤ q ∧ q < μ.1 + 1 + n.toNatClampNeg then 0 else μ.2.2.2 q i)) H1 → va_S (mm_A g) s.heap H1 locs1 → W p l e R s m args below meth c H1 locs1 (B.1 + 1 + n.toNatClampNeg) (B.2 + n.toNatClampNeg + n.toNatClampNeg * k.toNatClampNeg) Q (F0 m (pc + 4) ls (mm_rl g (.ref μ.1) :: st2))) : W p l e R s m args below meth c H locs B.1 B.2 Q (F0 m pc ls (.int k :: .int n :: st2)) := by
  have harr : (Jvm.Cond.arrayClass .int).before args s = true := mm_gw hts (z := 132) (w := .arrayClass .int) (by decide +kernel) rfl
  have hby : k.toNatClampNeg * componentBytes .int ≤ 536870912 := by
    have e4 : componentBytes .int = 4 := rfl
    rw [e4]
    omega
  intro T hT Xs
  have hclink : (Jvm.Cond.classLink (mm_own j) index ("[" ++ (FieldType.array .int).toString)).before args s = true := hclink0
  obtain ⟨vm₁, cA, comp, -, fA, fC, hO, -, X', step⟩ := Xs.multianewarray2F hx hown hclink (show (Jvm.Cond.arrayOver (.array .int)).before args s = true from hC.2.2.1.2.2) harr (g := F0 m pc ls (.int k :: .int n :: st2)) rfl (by rw [hb]; exact hdg) rfl c0 c1 (by omega) hby (by omega) rfl rfl (Nat.le_trans c4 hcc) (Nat.le_trans c5 hss)
  have e1 : comp = g.2.1 1 := Option.some.inj (fC.symm.trans ((hC.1.2 0 _ (rfl : (mm_tys g)[0]? = some (g.2.1 1, .int))).2))
  have e2 : cA = g.2.1 4 := Option.some.inj (fA.symm.trans ((hC.1.2 3 _ (rfl : (mm_tys g)[3]? = some (g.2.1 4, .array .int))).2))
  subst e1
  subst e2
  generalize hF : Jvm.Free.Multi.fill (T.setVm vm₁) (g.2.1 4) (g.2.1 1) n.toNatClampNeg k.toNatClampNeg (defaultValue .int) n.toNatClampNeg = F at X' step
  have hTh : (T.setVm vm₁).heap = H := hT
  obtain ⟨f1, f2, -, -⟩ := Jvm.Free.Multi.fill_facts (T.setVm vm₁) (g.2.1 4) (g.2.1 1) n.toNatClampNeg k.toNatClampNeg (defaultValue .int) n.toNatClampNeg
  rw [hF, hTh] at f1 f2
  have hold : ∀ x : Nat, x < H.size → F.heap[x]? = H[x]? := fun x hx => by
    have := Jvm.Free.Multi.fill_old (T.setVm vm₁) (g.2.1 4) (g.2.1 1) n.toNatClampNeg k.toNatClampNeg (defaultValue .int) (a := x) (by rw [hTh]; exact hx) n.toNatClampNeg
    rw [hF, hTh] at this
    exact this
  have hrow : ∀ j : Nat, j < n.toNatClampNeg → F.heap[H.size + 1 + j]? = some (vp_cell (g.2.1 1) (k.toNatClampNeg, .inl (fun _ => 0))) := fun j hj => by
    have := Jvm.Free.Multi.fill_inner (T.setVm vm₁) (g.2.1 4) (g.2.1 1) n.toNatClampNeg k.toNatClampNeg (defaultValue .int) n.toNatClampNeg j hj
    rw [hF, hTh] at this
    rw [this, vp_cell_i, ← arrV_new]
    rfl
  have hout : Jvm.Free.Multi.outerC (g.2.1 4) n.toNatClampNeg H.size n.toNatClampNeg = vp_cell (g.2.1 4) (n.toNatClampNeg, .inr (.inr (.inr (.inr (fun i => if i < n.toNatClampNeg then some (H.size + 1 + i) else none))))) := by
    rw [vp_cell_q]
    exact mm_outer (g.2.1 4) n.toNatClampNeg H.size n.toNatClampNeg
  rw [hout] at f2
  have hRel : mm_R g (μ.1 + 1 + n.toNatClampNeg, (fun q => if q = μ.1 then (4, n.toNatClampNeg) else if μ.1 < q ∧ q < μ.1 + 1 + n.toNatClampNeg then (1, k.toNatClampNeg) else μ.2.1 q), (fun q i => if q = μ.1 then (if i < n.toNatClampNeg then μ.1 + 1 + i else 0) else if μ.1 < q ∧ q < μ.1 + 1 + n.toNatClampNeg then 0 else μ.2.2.1 q i), (fun q i => if μ.1 ≤ q ∧ q < μ.1 + 1 + n.toNatClampNeg then 0 else μ.2.2.2 q i)) F.heap := by
    refine ⟨?_, ?_, ?_⟩
    · show 1 ≤ μ.1 + 1 + n.toNatClampNeg
      omega
    · show F.heap.size = g.2.2.1 + (μ.1 + 1 + n.toNatClampNeg)
      rw [f1, hR.2.1]
      omega
    · intro i q hq
      obtain ⟨hi, rfl⟩ := mm_ws_inv hq
      have hi : i + 1 < μ.1 + 1 + n.toNatClampNeg := hi
      unfold mm_Ec
      by_cases h1 : i + 1 < μ.1
      · have hold2 := hR.2.2 i _ (by have := mm_ws_get (g := g) (μ := μ) (a := i + 1) (by omega) h1; rw [show i + 1 - 1 = i by omega] at this; exact this)
        have hne : ¬ (i + 1 = μ.1) := by omega
        have hnb : ¬ (μ.1 < i + 1 ∧ i + 1 < μ.1 + 1 + n.toNatClampNeg) := by omega
        have hnc : ¬ (μ.1 ≤ i + 1 ∧ i + 1 < μ.1 + 1 + n.toNatClampNeg) := by omega
        simp only [hne, hnb, hnc, if_false]
        exact hold2.kept (hold _ (by show g.2.2.1 + (i + 1) < H.size; rw [hR.2.1]; omega))
      · by_cases h2 : i + 1 = μ.1
        · have hnc : μ.1 ≤ i + 1 ∧ i + 1 < μ.1 + 1 + n.toNatClampNeg := by omega
          simp only [h2, if_true, hnc]
          rw [mm_E_q (show 2 ≤ ((4 : Nat), n.toNatClampNeg).1 from (by decide : 2 ≤ 4)) (show ((4 : Nat), n.toNatClampNeg).1 ≤ 4 from Nat.le_refl 4)]
          show F.heap[g.2.2.1 + μ.1]? = some (vp_cell (g.2.1 4) (n.toNatClampNeg, _))
          rw [← hR.2.1, f2]
          congr 7
          funext i
          by_cases hi : i < n.toNatClampNeg
          · simp only [hi, if_true]
            unfold mm_q
            rw [if_neg (by omega), if_pos (by omega), hR.2.1]
            congr 1
            omega
          · simp only [hi, if_false]
            rfl
        · have hnb : μ.1 < i + 1 ∧ i + 1 < μ.1 + 1 + n.toNatClampNeg := by omega
          have hnc : μ.1 ≤ i + 1 ∧ i + 1 < μ.1 + 1 + n.toNatClampNeg := by omega
          simp only [h2, hnb, hnc, if_false, if_true, and_self]
          rw [mm_E_i rfl]
          have := hrow (i - μ.1) (by omega)
          rw [hR.2.1, show g.2.2.1 + μ.1 + 1 + (i - μ.1) = g.2.2.1 + (i + 1) by omega] at this
          exact this

  obtain ⟨t, a1, b1⟩ := kk F.heap locs hRel (mm_S_push hS (by rw [f1]; omega) hold) F rfl X'
  refine ⟨t, step t ?_, b1⟩
  have e : T.heap.size = H.size := by rw [hT]
  rw [e]
  rw [mm_rl_new hR (by omega)] at a1
  exact a1
set_option maxHeartbeats 4000000 in
theorem mm_newref (hx : p.tables.exec = Jvm.exec) (hb : c.code = cc) (hown : s.vm.findClass (mm_own j) = some m.cls) (hC : mm_C g s s.heap) (hR : mm_R g μ H) (hS : va_S (mm_A g) s.heap H locs) (hcc : mm_nu (mm_me j) 5 ≤ R.cells) (hss : mm_nu (mm_me j) 6 ≤ R.slots)
    {n : Int32} {st2 : List Value} {B : Nat × Nat} {index x : Nat} {C : String} (hx23 : x = 2 ∨ x = 3) (ht : (mm_tys g)[x - 1]? = some (g.2.1 x, .object C)) (hcl : (Jvm.Cond.classLink (mm_own j) index C).before args s = true) (hao : va_AO C s) (c0 : ¬ n < 0) (c1 : n.toNatClampNeg ≤ 65536) (c2 : B.1 + 1 ≤ mm_nu (mm_me j) 5) (c3 : B.2 + n.toNatClampNeg ≤ mm_nu (mm_me j) 6) (c4 : μ.1 + 1 < 1000000) (hdg : decode cc pc = .ok (.anewarray index, 3))
    (kk : ∀ (H1 : Heap) (locs1 : List Loc), mm_R g (μ.1 + 1, mm_up1 μ.2.1 μ.1 (x, n.toNatClampNeg), mm_row μ.2.2.1 μ.1 (fun _ => 0), mm_row μ.2.2.2 μ.1 (fun _ => 0)) H1 → va_S (mm_A g) s.heap H1 locs1 → W p l e R s m args below meth c H1 locs1 (B.1 + 1) (B.2 + n.toNatClampNeg) Q (F0 m (pc + 3) ls (mm_rl g (.ref μ.1) :: st2))) : W p l e R s m args below meth c H locs B.1 B.2 Q (F0 m pc ls (.int n :: st2)) := by
  refine W.anew hx hb hown hcl (va_AO.use hao) rfl hdg rfl c0 (by omega) (Nat.le_trans c2 hcc) (Nat.le_trans c3 hss) fun cA kA comp f1 f2 f3 f4 => ?_
  obtain ⟨kA', comp', k1, k2, k3, k4⟩ := (hC.1.2 _ _ ht).2
  have hcA : cA = g.2.1 x := Option.some.inj (f1.symm.trans k4)
  subst hcA
  generalize hH1 : H.push ({ cls := g.2.1 x, slots := Array.replicate n.toNatClampNeg .null, vm := .none } : Cell) = H1
  have z1 : H1.size = H.size + 1 := by rw [← hH1, Array.size_push]
  have e1 : H1[H.size]? = some (arrV (g.2.1 x) n.toNatClampNeg (fun _ => .null)) := by rw [← hH1, Array.getElem?_push_size, ← arrV_new]
  have o1 : ∀ q : Nat, q < H.size → H1[q]? = H[q]? := fun q hq => by rw [← hH1, Array.getElem?_push, if_neg (Nat.ne_of_lt hq)]
  have key := kk H1 locs (hR.push rfl (fun q hq => mm_Ec_oth (mm_up1_ne hq) (mm_row_ne hq) (mm_row_ne hq)) z1 ?_ o1) (mm_S_push hS (by omega) o1)
  · rw [mm_rl_new hR (by omega)] at key
    exact key
  · unfold mm_Ec
    show va_at g.1 vwCl (g.2.2.1 + μ.1, mm_E g (mm_up1 μ.2.1 μ.1 (x, n.toNatClampNeg) μ.1) (mm_row μ.2.2.1 μ.1 (fun _ => 0) μ.1) (mm_row μ.2.2.2 μ.1 (fun _ => 0) μ.1)) H1
    rw [mm_up1_at, mm_row_at, mm_row_at, mm_E_q (show 2 ≤ x by omega) (show x ≤ 4 by omega), ← hR.2.1]
    show H1[H.size]? = some (vp_cell _ _)
    rw [vp_cell_q]
    exact e1
set_option maxHeartbeats 4000000 in
theorem mm_m3_W (hx : p.tables.exec = Jvm.exec) (hb : c.code = cc) (hown : s.vm.findClass (mm_own j) = some m.cls) (hts : ∀ w ∈ mm_gt, w.before args s = true) (hC : mm_C g s s.heap) (hR : mm_R g μ H) (hS : va_S (mm_A g) s.heap H locs) (hcc : mm_nu (mm_me j) 5 ≤ R.cells) (hss : mm_nu (mm_me j) 6 ≤ R.slots)
    {ins : Instr} {len x y z : Nat} {st st' : List Value} {μ' : mm_M} {B B' : Nat × Nat} (h : mm_m3 ins x (mm_nu (mm_me j) 5, mm_nu (mm_me j) 6) st B μ = some (st', B', μ')) (hk : mm_k3 j ins len x y z = true) (hdg : decode cc pc = .ok (ins, len))
    (kk : ∀ (H1 : Heap) (locs1 : List Loc), mm_R g μ' H1 → va_S (mm_A g) s.heap H1 locs1 → B'.1 ≤ mm_nu (mm_me j) 5 → B'.2 ≤ mm_nu (mm_me j) 6 → W p l e R s m args below meth c H1 locs1 B'.1 B'.2 Q (F0 m (pc + len) ls (st'.map (mm_rl g)))) : W p l e R s m args below meth c H locs B.1 B.2 Q (F0 m pc ls (st.map (mm_rl g))) := by
  unfold mm_m3 at h
  split at h
  · -- new
    simp only [mm_k3, Bool.and_eq_true, beq_iff_eq, decide_eq_true_eq] at hk
    obtain ⟨⟨rfl, hx11⟩, hlw⟩ := hk
    split at h
    · rename_i hc
      cases h
      obtain ⟨c1, c2, c3, -⟩ := hc
      have hKn := hC.1.1 x _ (mm_vw x hx11)
      have hN := mm_clsN x hx11
      obtain ⟨w1, w2⟩ := mm_newW x hx11
      refine W.newcK hx hb hown (mm_gw hts hlw rfl) (mm_gw hts w1 rfl) (mm_gw hts w2 rfl) rfl hdg (Nat.le_trans c1 hcc) (by rw [hN]; exact Nat.le_trans c2 hss) hKn.2.1 rfl fun H1 kC hkC e1 z1 o1 => ?_
      rw [hN]
      have key := kk H1 locs (hR.push rfl (fun q hq => mm_Ec_oth (mm_up1_ne hq) (mm_row_ne hq) (mm_row_ne hq)) z1 ?_ o1) (mm_S_push hS (by omega) o1) c1 c2
      · rw [List.map_cons, mm_rl_new hR (by omega)] at key
        exact key
      · unfold mm_Ec
        show va_at g.1 vwCl (g.2.2.1 + μ.1, mm_E g (mm_up1 μ.2.1 μ.1 (10 + x, 0) μ.1) (mm_row μ.2.2.1 μ.1 (fun _ => 0) μ.1) (mm_row μ.2.2.2 μ.1 (fun _ => 0) μ.1)) H1
        rw [mm_up1_at, mm_row_at, mm_row_at, mm_E_o (x := x) rfl, ← hR.2.1]
        exact ⟨_, mm_vw x hx11, (u_born (mm_ty x) hts (mm_in x hx11) hKn hkC e1 (by rw [hN]; exact mm_ty_ok x hx11)).to (mm_fs_def hx11)⟩
    · cases h
  · -- newarray int
    simp only [mm_k3, beq_iff_eq] at hk
    subst hk
    split at h
    · rename_i n st2
      split at h
      · rename_i hc
        cases h
        obtain ⟨c0, c1, c2, c3, c4⟩ := hc
        exact mm_newarr hx hb hown hts hC hR hS hcc hss c0 c1 c2 c3 c4 hdg (fun H1 locs1 r1 r2 => kk H1 locs1 r1 r2 c2 c3)
      · cases h
    · cases h
  · -- anewarray
    simp only [mm_k3, Bool.and_eq_true, beq_iff_eq, decide_eq_true_eq] at hk
    obtain ⟨rfl, hlw⟩ := hk
    split at h
    · rename_i n st2
      split at h
      · rename_i hc
        cases h
        obtain ⟨hx23, c0, c1, c2, c3, c4⟩ := hc
        rcases hx23 with rfl | rfl
        · exact mm_newref (C := RX6) hx hb hown hC hR hS hcc hss (Or.inl rfl) rfl (mm_gw hts hlw rfl) hC.2.2.1.1 c0 c1 c2 c3 c4 hdg (fun H1 locs1 r1 r2 => kk H1 locs1 r1 r2 c2 c3)
        · exact mm_newref (C := RX0) hx hb hown hC hR hS hcc hss (Or.inr rfl) rfl (mm_gw hts hlw rfl) hC.2.2.1.2.1 c0 c1 c2 c3 c4 hdg (fun H1 locs1 r1 r2 => kk H1 locs1 r1 r2 c2 c3)
      · cases h
    · cases h
  · -- multianewarray
    simp only [mm_k3, Bool.and_eq_true, beq_iff_eq, decide_eq_true_eq] at hk
    obtain ⟨rfl, hlw⟩ := hk
    split at h
    · rename_i k n st2
      split at h
      · rename_i hc
        cases h
        obtain ⟨c0, c1, c2, c3, c4, c5, c6⟩ := hc
        exact mm_newmul hx hb hown hts hC hR hS hcc hss (mm_gw hts hlw rfl) c0 c1 c2 c3 c4 c5 c6 hdg (fun H1 locs1 r1 r2 => kk H1 locs1 r1 r2 (by show B.1 + 1 + n.toNatClampNeg ≤ _; omega) (by show B.2 + n.toNatClampNeg + n.toNatClampNeg * k.toNatClampNeg ≤ _; omega))
      · cases h
    · cases h
  · cases h
end MMN
