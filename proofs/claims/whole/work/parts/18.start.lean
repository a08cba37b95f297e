/-! THE LAW'S START -/
/-! THE CLAIM OUT OF ONE WALK OF THE LAW'S BODY. Your part is whole_start (and what it stands on); all else here is the same for every law, but numbers. -/
def R_law : String := "DotSquaresLaw"
def lw_P (b : Addr) (xs : List Int32) (args : Array Value) (s : State) : Prop := args = #[.ref b] ∧ s.IntsAt b xs ∧ xs.length ≤ 3072 ∧ (Jvm.Cond.and given_1 narrow_1).before args s = true
def lw_Q (_ : Array Value) (s : State) (o : Outcome) (t : State) : Prop := o = .returned (some (.int 1)) ∧ Framed s o t [] 600000 7302250
def lw_Z (below : List Frame) (a : Array Value) (s : State) : State → Prop := fun t => ∃ o, t.status = .running ∧ Ended t below o ∧ lw_Q a s o t
/-- the law's own end, with 1 on the stack, nothing written that was there before, its room as the claim has it -/
theorem lw_ret {p : Program} {l : Launch} {e : Env} {s : State} {m : MethodId} {below : List Frame} {meth : Method} {c : Code} {b : Nat} (hx : p.tables.exec = Jvm.exec) (hb : c.code = code) (hr : meth.sig.returnType = ret) (hlocks : meth.locks = false) {pc : Nat} {H : Heap} {ls : Array Slot} (hdg : decode code pc = .ok (.ireturn, 1)) : W p l e room_1 s m #[Value.ref b] below meth c H [] 600000 7302250 (lw_Z below #[Value.ref b] s) (F0 m pc ls [.int 1]) := by
  intro T hT X
  obtain ⟨fs, hret, hrun, hended, hW, hframe⟩ := X.leave (v := some (.int 1)) (hlocks := hlocks) (fun h => by rw [hr] at h; cases h)
  have hmeth' : T.vm.method? m = some meth := X.method'
  refine ⟨T.setFrames fs, ?_, .returned (some (.int 1)), hrun, hended, rfl, ⟨_, rfl⟩, hW, hframe⟩
  jvm_step X.here [X.here.top, hx, hb, hdg, hmeth', hr, ret, narrow_b1]
  (try refine ⟨rfl, ?_⟩); (try refine ⟨rfl, ?_⟩)
  first | (intro acts; rw [hret _ acts rfl rfl rfl]) | rw [hret _ _ rfl rfl rfl]
  exact Steps.refl _
/-- what holds at the law's entry: the machine, the code, the tables' words (any of lw_tbl by 'hts w (by decide +kernel)'), the script of L ints xs at the cell b, what the Statement gives of the start (any of its parts by flat_of_before) -/
def lw_At (p : Program) (s : State) (m : MethodId) (meth : Method) (c : Code) (b L : Nat) (xs : Nat → Int32) : Prop :=
  p.tables.exec = Jvm.exec ∧ c.code = code ∧ meth.sig.returnType = ret ∧ c.maxLocals = 4 ∧ s.vm.findClass R_law = some m.cls ∧ (∀ w ∈ lw_tbl, w.before #[Value.ref b] s = true) ∧ va_X b L xs s s.heap ∧ b < s.heap.size ∧ meth.locks = false ∧ (Jvm.Cond.and given_1 narrow_1).before #[Value.ref b] s = true

def mm_narr : Jvm.Cond := Jvm.Cond.and given_1 narrow_1
def mm_tl (i : Nat) : List Nat := match i with
  | 0 => mm_t0
  | 1 => mm_t1
  | 2 => mm_t2
  | _ => mm_t3
theorem mm_n1 : ∀ i, i < 4 → (Jvm.Cond.arrayOf (.static (mm_sf i).1 (mm_sf i).2 "[I") .int) ∈ flatC mm_narr := by decide +kernel
theorem mm_n2 : ∀ i, i < 4 → (Jvm.Cond.eq (.length (.static (mm_sf i).1 (mm_sf i).2 "[I")) (.int (Int32.ofNat (mm_tl i).length))) ∈ flatC mm_narr := by decide +kernel
theorem mm_n3 : ∀ i, i < 4 → ∀ j, j < (mm_tl i).length → (Jvm.Cond.eq (.elem (.static (mm_sf i).1 (mm_sf i).2 "[I") (.int (Int32.ofNat j))) (.int (nI ((mm_tl i).getD j 0)))) ∈ flatC mm_narr := by decide +kernel
theorem mm_n4 : ∀ i, i < 4 → (Jvm.Cond.laysStatic (mm_sf i).1 (mm_sf i).2 "[I") ∈ lw_tbl ∧ (Jvm.Cond.initialized (mm_sf i).1) ∈ lw_tbl := by decide +kernel
def mm_tm : Term := .string "DotSquares$Typed" 35
def mm_tv : Term := .field mm_tm "java/lang/String" "value" "[B"
theorem mm_n5 : (Jvm.Cond.exactly mm_tm "java/lang/String") ∈ flatC mm_narr ∧ (Jvm.Cond.eq (.field mm_tm "java/lang/String" "coder" "B") (.int 0)) ∈ flatC mm_narr ∧ (Jvm.Cond.arrayOf mm_tv .byte) ∈ flatC mm_narr ∧ (Jvm.Cond.eq (.length mm_tv) (.int (Int32.ofNat 9))) ∈ flatC mm_narr := by decide +kernel
theorem mm_n6 : ∀ j, j < 9 → (Jvm.Cond.eq (.elem mm_tv (.int (Int32.ofNat j))) (.int (nI (mm_tx.getD j 0)))) ∈ flatC mm_narr := by decide +kernel
theorem mm_n7 : (Jvm.Cond.eq (.static "java/lang/String" "COMPACT_STRINGS" "Z") (.int 1)) ∈ flatC mm_narr ∧ (Jvm.Cond.isRef (.static "jdk/internal/util/Preconditions" "SIOOBE_FORMATTER" "Ljava/util/function/BiFunction;")) ∈ flatC mm_narr := by decide +kernel
theorem mm_n8 : (Jvm.Cond.laysStatic "java/lang/String" "COMPACT_STRINGS" "Z") ∈ lw_tbl ∧ (Jvm.Cond.initialized "java/lang/String") ∈ lw_tbl ∧ (Jvm.Cond.laysStatic "jdk/internal/util/Preconditions" "SIOOBE_FORMATTER" "Ljava/util/function/BiFunction;") ∈ lw_tbl ∧ (Jvm.Cond.initialized "jdk/internal/util/Preconditions") ∈ lw_tbl ∧ (Jvm.Cond.stringRef "DotSquares$Typed" 35 "lowmidtop") ∈ lw_tbl := by decide +kernel
theorem mm_n9 : (Jvm.Cond.arrayClass .int) ∈ lw_tbl ∧ (Jvm.Cond.arrayOver (.object RX6)) ∈ lw_tbl ∧ (Jvm.Cond.arrayOver (.object RX0)) ∈ lw_tbl ∧ (Jvm.Cond.arrayOver (.array .int)) ∈ lw_tbl := by decide +kernel
theorem mm_tl_S (X : Nat × (Nat → Int32)) : ∀ i, i < 4 → (mm_S X i).1 = (mm_tl i).length ∧ ∀ j, (mm_S X i).2 j = nI ((mm_tl i).getD j 0) := by
  intro i hi
  match i, hi with
  | 0, _ => exact ⟨rfl, fun j => rfl⟩
  | 1, _ => exact ⟨rfl, fun j => rfl⟩
  | 2, _ => exact ⟨rfl, fun j => rfl⟩
  | 3, _ => exact ⟨rfl, fun j => rfl⟩
  | n + 4, h => exact absurd h (by omega)
/-- the facts that hold all the run, from the law's start -/
theorem mm_C_start {p : Program} {s : State} {m : MethodId} {meth : Method} {c : Code} {b L : Nat} {xs : Nat → Int32} (C0 : lw_At p s m meth c b L xs) (hL : L < 2 ^ 31) : ∃ g : mm_G, g.2.2.1 + 1 = s.heap.size ∧ g.2.2.2.1 4 = b ∧ g.2.2.2.2 = (L, xs) ∧ mm_C g s s.heap := by
  obtain ⟨hx, hb, hr, hml, hown, hts, hX, hbl, hlocks, hgv⟩ := C0
  have hs := flat_of_before mm_narr hgv
  have htg : ∀ w ∈ mm_gt, w.before #[Value.ref b] s = true := fun w h => hts w (List.mem_filter.mp h).1
  obtain ⟨bb, hbb⟩ : ∃ bb, bb + 1 = s.heap.size := ⟨s.heap.size - 1, by omega⟩
  have hA : ∀ a : Nat, a < s.heap.size → ¬ (fun q : Nat => bb < q) a := fun a h1 h2 => by
    have : bb < a := h2
    omega
  -- classes
  have hcls : ∀ c : Nat, ∃ q : ClassId × (Nat → Nat), c < 11 → u_Kn s (mm_cls c).1 (mm_cls c).2.1 (mm_cls c).2.2 q.1 q.2 := by
    intro c
    by_cases hc : c < 11
    · obtain ⟨cC, iS, hK⟩ := u_known (C := (mm_cls c).1) (T := (mm_cls c).2.1) (N := (mm_cls c).2.2) htg (mm_in c hc) (mm_gw htg (mm_newW c hc).1 rfl)
      exact ⟨(cC, iS), fun _ => hK⟩
    · exact ⟨(0, fun _ => 0), fun h => absurd h hc⟩
  obtain ⟨dcl, hdcl⟩ := Classical.axiomOfChoice hcls
  -- array classes
  obtain ⟨cI, kI, compI, i1, i2, i3⟩ := Cond.arrayClass_spec (hts _ mm_n9.1)
  obtain ⟨compS, cS, kS, s1, s2, s3, s4, s5⟩ := Cond.arrayOver_spec (hts _ mm_n9.2.1)
  obtain ⟨compB, cB, kB, b1, b2, b3, b4, b5⟩ := Cond.arrayOver_spec (hts _ mm_n9.2.2.1)
  obtain ⟨compA, cA, kA, a1, a2, a3, a4, a5⟩ := arrayOverA_spec (hts _ mm_n9.2.2.2)
  -- tables
  have htab : ∀ i : Nat, ∃ t : Nat, i < 4 → (Term.static (mm_sf i).1 (mm_sf i).2 "[I").eval #[Value.ref b] s none [] s = some (.ref t) ∧ va_T .int t (mm_tl i).length (fun j => .int (nI ((mm_tl i).getD j 0))) (fun q : Nat => bb < q) s s.heap := by
    intro i
    by_cases hi : i < 4
    · have hlen : (mm_tl i).length < 2 ^ 31 := by
        match i, hi with
        | 0, _ => decide
        | 1, _ => decide
        | 2, _ => decide
        | 3, _ => decide
        | n + 4, h => exact absurd h (by omega)
      obtain ⟨t, h1, h2⟩ := va_Tof (f := fun j => .int (nI ((mm_tl i).getD j 0))) (A := fun q : Nat => bb < q) hlen (hs _ (mm_n1 i hi)) (va_eqt (hs _ (mm_n2 i hi))) (fun j hj => va_eqt (hs _ (mm_n3 i hi j hj))) hA
      exact ⟨t, fun _ => ⟨h1, h2⟩⟩
    · exact ⟨0, fun h => absurd h hi⟩
  obtain ⟨tb, htb⟩ := Classical.axiomOfChoice htab
  -- the text
  obtain ⟨qT, cq, cellT, kT, q1, q2, q3, q4, q5, q6, -⟩ := Cond.exactly_spec (args := #[Value.ref b]) (first := s) (o := none) (s := s) (idx := []) (t := mm_tm) (cls := "java/lang/String") (hs _ mm_n5.1)
  obtain ⟨vT, v1, v2⟩ := va_Tof (f := fun j => .int (nI (mm_tx.getD j 0))) (A := fun q : Nat => bb < q) (N := 9) (by decide) (hs _ mm_n5.2.2.1) (va_eqt (hs _ mm_n5.2.2.2)) (fun j hj => va_eqt (hs _ (mm_n6 j hj))) hA
  have hT : mm_T qT vT (fun q : Nat => bb < q) s s.heap := by
    refine ⟨⟨cellT, q3, q5, by rw [q6]; exact q2, hA _ (Array.getElem?_eq_some_iff.mp q3).1⟩, vk_OFof q1 (va_eqt (hs _ mm_n5.2.1)) hA, vk_OFof q1 v1 hA, v2, va_Zof (hts _ mm_n8.1) (hts _ mm_n8.2.1) (va_eqi (hs _ mm_n7.1)) hA, va_Zqof (hts _ mm_n8.2.2.1) (hts _ mm_n8.2.2.2.1) (hs _ mm_n7.2) hA⟩
  refine ⟨((fun c => (dcl c).1, fun c => (dcl c).2), (fun t => if t = 1 then cI else if t = 2 then cS else if t = 3 then cB else cA), bb, (fun i => if i < 4 then tb i else if i = 4 then b else qT), (L, xs)), hbb, rfl, rfl, ?_⟩
  refine ⟨⟨fun c q hq => ?_, fun k q hq => ?_⟩, fun i w hi hw => ?_, ⟨va_AO.of (hts _ mm_n9.2.1), va_AO.of (hts _ mm_n9.2.2.1), hts _ mm_n9.2.2.2⟩, fun i hi => ?_, fun i hi => ?_, ⟨vk_R.of (hts _ mm_n8.2.2.2.2) q1, vT, hT⟩, ?_⟩
  · have hc : c < 11 := (List.getElem?_eq_some_iff.mp hq).1
    have e := hq.symm.trans (mm_vw c hc)
    cases e
    exact hdcl c hc
  · match k, hq with
    | 0, hq => cases hq; exact ⟨fun n z => ⟨fun k h => (by cases h), kI, i2, compI, i3⟩, i1⟩
    | 1, hq => cases hq; exact ⟨fun n z => ⟨fun k h => (by cases h), kS, s3, compS, s4⟩, kS, compS, s3, s4, s1, s5⟩
    | 2, hq => cases hq; exact ⟨fun n z => ⟨fun k h => (by cases h), kB, b3, compB, b4⟩, kB, compB, b3, b4, b1, b5⟩
    | 3, hq => cases hq; exact ⟨fun n z => ⟨fun k h => (by cases h), kA, a3, compA, a4⟩, a5⟩
    | n + 4, hq => exact absurd hq (by simp [mm_tys])
  · have hn := mm_nestW i hi
    rw [hw] at hn
    simp only [Bool.and_eq_true] at hn
    exact va_Nw.of hn.1 (hts w (List.mem_of_getElem? hw))
  · have h := htb i hi
    show va_Z (mm_sf i).1 (mm_sf i).2 "[I" (.ref (if i < 4 then tb i else if i = 4 then b else qT)) (fun q : Nat => bb < q) s s.heap
    rw [if_pos hi]
    exact va_Zof (hts _ (mm_n4 i hi).1) (hts _ (mm_n4 i hi).2) h.1 hA
  · show va_T .int (if i < 4 then tb i else if i = 4 then b else qT) (mm_S (L, xs) i).1 (fun j => .int ((mm_S (L, xs) i).2 j)) (fun q : Nat => bb < q) s s.heap
    by_cases h4 : i < 4
    · rw [if_pos h4]
      obtain ⟨e1, e2⟩ := mm_tl_S (L, xs) i h4
      rw [e1]
      have := (htb i h4).2
      rw [show (fun j => Value.int ((mm_S (L, xs) i).2 j)) = (fun j => Value.int (nI ((mm_tl i).getD j 0))) from funext fun j => by rw [e2]]
      exact this
    · have e4 : i = 4 := by omega
      subst e4
      obtain ⟨scr, h1, h2, h3, h4', h5⟩ := hX
      exact ⟨scr, h1, h2, h3, by rw [h4']; exact Nat.le_refl _, by rw [h4']; rfl, h5, hA b hbl⟩
  · show bb < s.heap.size
    omega
/-- the memory at the start -/
def mm_0 : mm_M := (1, fun _ => (0, 0), fun _ _ => 0, fun _ _ => 0)
set_option maxHeartbeats 4000000 in
/-- THE LAW: it is enough that the small machine runs it to 1 -/
theorem mm_whole (hck : ∀ j, j < 225 → (mm_ckm j && mm_hd j) = true) (hlaw : mm_ckm 225 = true) {p : Program} {e : Env} {s : State} {m : MethodId} {below : List Frame} {meth : Method} {c : Code} (l : Launch) {b L : Nat} {xs : Nat → Int32} (hL : L ≤ 3072) (C0 : lw_At p s m meth c b L xs) (h : ∃ (f : Nat) (μ : mm_M), mm_x (L, xs) f 225 0 (mm_ini [.ref 1000004] 4) [] (0, 0) mm_0 = some (some (.int 1), μ)) : W p l e room_1 s m #[Value.ref b] below meth c s.heap [] 0 0 (lw_Z below #[Value.ref b] s) (entryFrame m ([Value.ref b] : List Value).toArray 4) := by
  obtain ⟨f, μ, hf⟩ := h
  obtain ⟨g, hg1, hg2, hg3, hC⟩ := mm_C_start C0 (Nat.lt_of_le_of_lt hL (by decide))
  obtain ⟨hx, hb, hr, hml, hown, hts, hX, hbl, hlocks, hgv⟩ := C0
  have htg : ∀ w ∈ mm_gt, w.before #[Value.ref b] s = true := fun w h => hts w (List.mem_filter.mp h).1
  have hrl : mm_rl g (.ref 1000004) = .ref b := by
    rw [mm_rl_sta g (by decide)]
    show Value.ref (g.2.2.2.1 4) = _
    rw [hg2]
  rw [lg_entry_eq]
  have hent := mm_entry g (as := [.ref 1000004]) (n := 4) (by decide)
  rw [List.map_cons, List.map_nil, hrl] at hent
  have hR : mm_R g mm_0 s.heap := by
    refine ⟨Nat.le_refl 1, hg1.symm, fun k q hq => ?_⟩
    exact absurd hq (by simp [mm_ws, mm_0])
  have key := mm_main hck hlaw l g f 225 0 (mm_ini [.ref 1000004] 4) [] (0, 0) mm_0 (some (.int 1)) μ (by decide) (by rw [hg3]; exact hf) p e room_1 s m #[Value.ref b] below meth c s.heap [] _ (lw_Z below #[Value.ref b] s) ⟨hx, hb, hml, hown, htg, hC, fun q => absurd q (by decide +kernel), by decide +kernel, by decide +kernel, by decide +kernel, by decide +kernel⟩ (Nat.zero_le _) (Nat.zero_le _) hR va_S.rf hent ?_
  · exact key
  · intro pc ins H' locs' ls' B' st' hdg hrt hR' hS' hb1 hb2
    unfold mm_rt at hrt
    split at hrt
    · split at hrt
      · split at hrt
        · cases hrt
        · cases hrt
      · cases hrt
    · split at hrt
      · split at hrt
        · cases hrt
          refine va_forget (fun q hq => ?_) ?_
          · have := hS'.2.2 q hq
            show s.heap.size ≤ q.base
            have : g.2.2.1 < q.base := this
            omega
          · refine W.widen hb1 hb2 ?_
            exact lw_ret hx hb hr hlocks hdg
        · cases hrt
      · cases hrt
    · split at hrt
      · split at hrt
        · cases hrt
        · cases hrt
      · cases hrt
    · split at hrt
      · split at hrt
        · cases hrt
        · cases hrt
      · cases hrt
    · cases hrt
