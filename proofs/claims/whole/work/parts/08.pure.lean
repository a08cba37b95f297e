/-! AN INSTRUCTION THAT TOUCHES LOCALS AND STACK ALONE -/
/-- the words that hold at every state of the run -/
def mm_gt : List Jvm.Cond := lw_tbl.filter goodWord
theorem mm_mg {z : Nat} {w : Jvm.Cond} (h : lw_tbl[z]? = some w) (hg : goodWord w = true) : w ∈ mm_gt := List.mem_filter.mpr ⟨List.mem_of_getElem? h, hg⟩
theorem mm_gw {args : Array Value} {s : State} (hts : ∀ w ∈ mm_gt, w.before args s = true) {z : Nat} {w : Jvm.Cond} (h : lw_tbl[z]? = some w) (hg : goodWord w = true) : w.before args s = true := hts w (mm_mg h hg)
theorem mm_good {b : Jvm.Cond} (hb : b ∈ mm_gt) : GoodIn mm_gt (b :: mm_gt) := by
  intro w hw
  have h1 : w ∈ mm_gt := by
    rcases List.mem_cons.mp hw with rfl | h
    · exact hb
    · exact h
  exact ⟨h1, good_of_word (List.mem_filter.mp h1).2⟩
section MMP
variable {p : Program} {l : Launch} {e : Env} {R : Room} {s : State} {m : MethodId} {args : Array Value} {below : List Frame} {meth : Method} {c : Code} {H : Heap} {locs : List Loc} {cells slots : Nat} {Q : State → Prop}
variable {cc : ByteArray} {pc : Nat} {ls : Array Slot} {g : mm_G} {nL : Nat} {own : String}
set_option maxHeartbeats 4000000 in
theorem mm_p1_W (hx : p.tables.exec = Jvm.exec) (hb : c.code = cc) (hown : s.vm.findClass own = some m.cls) (hts : ∀ w ∈ mm_gt, w.before args s = true) {ins : Instr} {y z len : Nat} {L L' : mm_Lo} {st st' : List Value} (h : mm_p1 ins y L st = some (L', st')) (hk : mm_k0 own ins len y z = true) (hdg : decode cc pc = .ok (ins, len)) (hL : mm_L g ls nL L)
    (kk : ∀ ls', mm_L g ls' nL L' → W p l e R s m args below meth c H locs cells slots Q (F0 m (pc + len) ls' (st'.map (mm_rl g)))) : W p l e R s m args below meth c H locs cells slots Q (F0 m pc ls (st.map (mm_rl g))) := by
  unfold mm_p1 at h
  split at h
  · cases h
    simp only [mm_k0, Bool.and_eq_true, beq_iff_eq, decide_eq_true_eq] at hk
    obtain ⟨rfl, hk⟩ := hk
    exact lv_iconst hx hb hdg hk (kk ls hL)
  · cases h
    simp only [mm_k0, Bool.and_eq_true, beq_iff_eq, decide_eq_true_eq] at hk
    obtain ⟨rfl, hk⟩ := hk
    exact lv_bipush hx hb hdg hk (kk ls hL)
  · cases h
    simp only [mm_k0, Bool.and_eq_true, beq_iff_eq, decide_eq_true_eq] at hk
    obtain ⟨rfl, hk⟩ := hk
    exact lv_sipush hx hb hdg hk (kk ls hL)
  · cases h
    simp only [mm_k0, Bool.and_eq_true, beq_iff_eq, decide_eq_true_eq] at hk
    obtain ⟨rfl, hk⟩ := hk
    exact lv_ldc hx hb hown (mm_gw hts hk rfl) hdg (kk ls hL)
  · cases h
    simp only [mm_k0, Bool.and_eq_true, beq_iff_eq, decide_eq_true_eq] at hk
    obtain ⟨rfl, hk⟩ := hk
    exact lv_ldcw hx hb hown (mm_gw hts hk rfl) hdg (kk ls hL)
  · cases h
    simp only [mm_k0, Bool.and_eq_true, beq_iff_eq, decide_eq_true_eq] at hk
    obtain ⟨rfl, hk⟩ := hk
    exact lv_lconst hx hb hdg hk (kk ls hL)
  · cases h
    simp only [mm_k0, Bool.and_eq_true, beq_iff_eq, decide_eq_true_eq] at hk
    obtain ⟨rfl, hk⟩ := hk
    exact lv_ldc2 hx hb hown (mm_gw hts hk rfl) hdg (kk ls hL)
  · split at h
    · cases h
      simp only [mm_k0, beq_iff_eq] at hk
      subst hk
      rename_i hv
      exact lv_iload_n hx hb hdg rfl (hL.2.2.2 _ _ hv) (kk ls hL)
    · cases h
  · split at h
    · cases h
      simp only [mm_k0, beq_iff_eq] at hk
      subst hk
      rename_i hv
      exact lv_iload hx hb hdg (hL.2.2.2 _ _ hv) (kk ls hL)
    · cases h
  · split at h
    · cases h
      simp only [mm_k0, beq_iff_eq] at hk
      subst hk
      rename_i hv
      exact lv_lload_n hx hb hdg rfl (hL.2.2.2 _ _ hv) (kk ls hL)
    · cases h
  · split at h
    · cases h
      simp only [mm_k0, beq_iff_eq] at hk
      subst hk
      rename_i hv
      exact lv_lload hx hb hdg (hL.2.2.2 _ _ hv) (kk ls hL)
    · cases h
  · split at h
    · cases h
      simp only [mm_k0, beq_iff_eq] at hk
      subst hk
      rename_i x hv
      have h1 := hL.2.2.2 _ _ hv
      have k1 := kk ls hL
      rw [List.map_cons] at k1
      rcases mm_rl_ref g x with hr | ⟨a, hr⟩
      · rw [hr] at h1 k1
        exact lv_aload_nN hx hb hdg rfl h1 k1
      · rw [hr] at h1 k1
        exact lv_aload_n hx hb hdg rfl h1 k1
    · cases h
  · split at h
    · cases h
      simp only [mm_k0, beq_iff_eq] at hk
      subst hk
      rename_i x hv
      have h1 := hL.2.2.2 _ _ hv
      have k1 := kk ls hL
      rw [List.map_cons] at k1
      rcases mm_rl_ref g x with hr | ⟨a, hr⟩
      · rw [hr] at h1 k1
        exact lv_aloadN hx hb hdg h1 k1
      · rw [hr] at h1 k1
        exact lv_aload hx hb hdg h1 k1
    · cases h
  · split at h
    · split at h
      · cases h
        simp only [mm_k0, Bool.and_eq_true, beq_iff_eq, decide_eq_true_eq] at hk
        obtain ⟨rfl, hk⟩ := hk
        rename_i x hv b hok
        have hmem := mm_as_mem (g := g) hv
        obtain ⟨q, hq⟩ := List.getElem?_of_mem hmem
        have hlt := (List.getElem?_eq_some_iff.mp hv).1
        rw [hL.2.2.1] at hlt
        exact lv_iinc hx hb hdg hL.has hq (by rw [hk]) hlt rfl (fun ls' hl' => kk ls' (mm_L.st1 hL.2.2.1 hok hl'))
      · cases h
    · cases h
  · cases h
set_option maxHeartbeats 4000000 in
theorem mm_p2_W (hx : p.tables.exec = Jvm.exec) (hb : c.code = cc) {ins : Instr} {y z len : Nat} {L L' : mm_Lo} {st st' : List Value} (h : mm_p2 ins L st = some (L', st')) (hk : mm_k0 own ins len y z = true) (hdg : decode cc pc = .ok (ins, len)) (hL : mm_L g ls nL L)
    (kk : ∀ ls', mm_L g ls' nL L' → W p l e R s m args below meth c H locs cells slots Q (F0 m (pc + len) ls' (st'.map (mm_rl g)))) : W p l e R s m args below meth c H locs cells slots Q (F0 m pc ls (st.map (mm_rl g))) := by
  have hlt : ∀ k, mm_ok1 L k = true → k < nL := by
    intro k hok
    unfold mm_ok1 at hok
    rw [Bool.and_eq_true] at hok
    rw [← hL.2.2.1]
    exact of_decide_eq_true hok.1
  unfold mm_p2 at h
  split at h
  · split at h
    · unfold mm_st1 at h
      split at h
      · rename_i hok
        cases h
        simp only [mm_k0, beq_iff_eq] at hk
        subst hk
        exact lv_istore_n hx hb hdg rfl hL.has (hlt _ hok) rfl (fun ls' hl' => kk ls' (mm_L.st1 hL.2.2.1 hok hl'))
      · cases h
    · cases h
  · split at h
    · unfold mm_st1 at h
      split at h
      · rename_i hok
        cases h
        simp only [mm_k0, beq_iff_eq] at hk
        subst hk
        exact lv_istore hx hb hdg hL.has (hlt _ hok) rfl (fun ls' hl' => kk ls' (mm_L.st1 hL.2.2.1 hok hl'))
      · cases h
    · cases h
  · split at h
    · rename_i x st2
      unfold mm_st1 at h
      split at h
      · rename_i hok
        cases h
        simp only [mm_k0, beq_iff_eq] at hk
        subst hk
        have k1 := fun ls' hl' => kk ls' (mm_L.st1 (v := .ref x) hL.2.2.1 hok hl')
        rw [List.map_cons]
        rcases mm_rl_ref g x with hr | ⟨a, hr⟩
        · rw [hr] at k1 ⊢
          exact lv_astore_nN hx hb hdg rfl hL.has (hlt _ hok) rfl k1
        · rw [hr] at k1 ⊢
          exact lv_astore_n hx hb hdg rfl hL.has (hlt _ hok) rfl k1
      · cases h
    · cases h
  · split at h
    · rename_i x st2
      unfold mm_st1 at h
      split at h
      · rename_i hok
        cases h
        simp only [mm_k0, beq_iff_eq] at hk
        subst hk
        have k1 := fun ls' hl' => kk ls' (mm_L.st1 (v := .ref x) hL.2.2.1 hok hl')
        rw [List.map_cons]
        rcases mm_rl_ref g x with hr | ⟨a, hr⟩
        · rw [hr] at k1 ⊢
          exact lv_astoreN hx hb hdg hL.has (hlt _ hok) rfl k1
        · rw [hr] at k1 ⊢
          exact lv_astore hx hb hdg hL.has (hlt _ hok) rfl k1
      · cases h
    · cases h
  · split at h
    · unfold mm_st2 at h
      split at h
      · rename_i hok
        cases h
        simp only [mm_k0, beq_iff_eq] at hk
        subst hk
        simp only [Bool.and_eq_true, decide_eq_true_eq] at hok
        exact lv_lstore_n hx hb hdg rfl hL.has (by rw [← hL.2.2.1]; exact hok.2) rfl (fun ls' hl' => kk ls' (mm_L.st2 hL.2.2.1 hok.1 hok.2 hl'))
      · cases h
    · cases h
  · split at h
    · unfold mm_st2 at h
      split at h
      · rename_i hok
        cases h
        simp only [mm_k0, beq_iff_eq] at hk
        subst hk
        simp only [Bool.and_eq_true, decide_eq_true_eq] at hok
        exact lv_lstore hx hb hdg hL.has (by rw [← hL.2.2.1]; exact hok.2) rfl (fun ls' hl' => kk ls' (mm_L.st2 hL.2.2.1 hok.1 hok.2 hl'))
      · cases h
    · cases h
  · split at h
    · cases h
      simp only [mm_k0, beq_iff_eq] at hk
      subst hk
      exact lv_dup hx hb hdg rfl (kk ls hL)
    · cases h
      simp only [mm_k0, beq_iff_eq] at hk
      subst hk
      exact lv_dup hx hb hdg (by rw [mm_rl_cat]; rfl) (kk ls hL)
    · cases h
  · split at h
    · cases h
      simp only [mm_k0, beq_iff_eq] at hk
      subst hk
      exact lv_dup2_11 hx hb hdg rfl (by rw [mm_rl_cat]; rfl) (kk ls hL)
    · cases h
  · split at h
    · cases h
      simp only [mm_k0, beq_iff_eq] at hk
      subst hk
      exact lv_pop hx hb hdg rfl (kk ls hL)
    · cases h
  · cases h
set_option maxHeartbeats 4000000 in
theorem mm_p3_W (hx : p.tables.exec = Jvm.exec) (hb : c.code = cc) {ins : Instr} {y z len : Nat} {st st' : List Value} (h : mm_p3 ins st = some st') (hk : mm_k0 own ins len y z = true) (hdg : decode cc pc = .ok (ins, len))
    (kk : W p l e R s m args below meth c H locs cells slots Q (F0 m (pc + len) ls (st'.map (mm_rl g)))) : W p l e R s m args below meth c H locs cells slots Q (F0 m pc ls (st.map (mm_rl g))) := by
  unfold mm_p3 at h
  split at h
  · split at h
    · cases h
      simp only [mm_k0, beq_iff_eq] at hk
      subst hk
      exact lv_iadd hx hb hdg kk
    · cases h
  · split at h
    · cases h
      simp only [mm_k0, beq_iff_eq] at hk
      subst hk
      exact lv_isub hx hb hdg kk
    · cases h
  · split at h
    · cases h
      simp only [mm_k0, beq_iff_eq] at hk
      subst hk
      exact lv_imul hx hb hdg kk
    · cases h
  · split at h
    · split at h
      · cases h
      · rename_i hne
        cases h
        simp only [mm_k0, beq_iff_eq] at hk
        subst hk
        exact lv_idiv hx hb hdg (of_decide_eq_false hne) kk
    · cases h
  · split at h
    · split at h
      · cases h
      · rename_i hne
        cases h
        simp only [mm_k0, beq_iff_eq] at hk
        subst hk
        exact lv_irem hx hb hdg (of_decide_eq_false hne) kk
    · cases h
  · split at h
    · cases h
      simp only [mm_k0, beq_iff_eq] at hk
      subst hk
      exact lv_ineg hx hb hdg kk
    · cases h
  · split at h
    · cases h
      simp only [mm_k0, beq_iff_eq] at hk
      subst hk
      exact lv_iand hx hb hdg kk
    · cases h
  · split at h
    · cases h
      simp only [mm_k0, beq_iff_eq] at hk
      subst hk
      exact lv_ior hx hb hdg kk
    · cases h
  · split at h
    · cases h
      simp only [mm_k0, beq_iff_eq] at hk
      subst hk
      exact lv_ixor hx hb hdg kk
    · cases h
  · split at h
    · cases h
      simp only [mm_k0, beq_iff_eq] at hk
      subst hk
      exact lv_ishl hx hb hdg kk
    · cases h
  · split at h
    · cases h
      simp only [mm_k0, beq_iff_eq] at hk
      subst hk
      exact lv_ishr hx hb hdg kk
    · cases h
  · split at h
    · cases h
      simp only [mm_k0, beq_iff_eq] at hk
      subst hk
      exact lv_iushr hx hb hdg rfl kk
    · cases h
  · split at h
    · cases h
      simp only [mm_k0, beq_iff_eq] at hk
      subst hk
      exact lv_ladd hx hb hdg kk
    · cases h
  · split at h
    · cases h
      simp only [mm_k0, beq_iff_eq] at hk
      subst hk
      exact lv_lmul hx hb hdg kk
    · cases h
  · split at h
    · cases h
      simp only [mm_k0, beq_iff_eq] at hk
      subst hk
      exact W.lcmp hx hb hdg kk
    · cases h
  · split at h
    · cases h
      simp only [mm_k0, beq_iff_eq] at hk
      subst hk
      exact lv_i2l hx hb hdg rfl kk
    · cases h
  · split at h
    · cases h
      simp only [mm_k0, beq_iff_eq] at hk
      subst hk
      exact lv_i2b hx hb hdg rfl kk
    · cases h
  · split at h
    · cases h
      simp only [mm_k0, beq_iff_eq] at hk
      subst hk
      exact lv_i2s hx hb hdg rfl kk
    · cases h
  · cases h
theorem mm_pure_W (hx : p.tables.exec = Jvm.exec) (hb : c.code = cc) (hown : s.vm.findClass own = some m.cls) (hts : ∀ w ∈ mm_gt, w.before args s = true) {ins : Instr} {y z len : Nat} {L L' : mm_Lo} {st st' : List Value} (h : mm_pure ins y L st = some (L', st')) (hk : mm_k0 own ins len y z = true) (hdg : decode cc pc = .ok (ins, len)) (hL : mm_L g ls nL L)
    (kk : ∀ ls', mm_L g ls' nL L' → W p l e R s m args below meth c H locs cells slots Q (F0 m (pc + len) ls' (st'.map (mm_rl g)))) : W p l e R s m args below meth c H locs cells slots Q (F0 m pc ls (st.map (mm_rl g))) := by
  unfold mm_pure at h
  split at h
  · rename_i r h1
    cases h
    exact mm_p1_W hx hb hown hts h1 hk hdg hL kk
  · split at h
    · rename_i r h1
      cases h
      exact mm_p2_W hx hb h1 hk hdg hL kk
    · split at h
      · rename_i r h1
        cases h
        exact mm_p3_W hx hb h1 hk hdg (kk ls hL)
      · cases h
/-- a branch -/
theorem mm_br_W (hx : p.tables.exec = Jvm.exec) (hb : c.code = cc) {ins : Instr} {tgt : Nat} {b : Bool} {st st' : List Value} (h : mm_br ins st = some (b, st')) (hk : mm_kb ins pc tgt = true) (hdg : decode cc pc = .ok (ins, 3))
    (kk : W p l e R s m args below meth c H locs cells slots Q (F0 m (if b then tgt else pc + 3) ls (st'.map (mm_rl g)))) : W p l e R s m args below meth c H locs cells slots Q (F0 m pc ls (st.map (mm_rl g))) := by
  unfold mm_br at h
  split at h
  · split at h
    · rename_i cd off _ x st2
      cases h
      have ht := of_decide_eq_true (show decide ((pc : Int) + off = (tgt : Nat)) = true from hk)
      cases cd
      · refine lv_if_eq hx hb hdg ht (fun q => ?_) (fun q => ?_)
        · simpa [mm_cmp, q] using kk
        · simpa [mm_cmp, q] using kk
      · refine lv_if_ne hx hb hdg ht (fun q => ?_) (fun q => ?_)
        · simpa [mm_cmp, q] using kk
        · simpa [mm_cmp, q] using kk
      · refine lv_if_lt hx hb hdg ht (fun q => ?_) (fun q => ?_)
        · simpa [mm_cmp, q] using kk
        · simpa [mm_cmp, q] using kk
      · refine lv_if_ge hx hb hdg ht (fun q => ?_) (fun q => ?_)
        · simpa [mm_cmp, q] using kk
        · simpa [mm_cmp, q] using kk
      · refine lv_if_gt hx hb hdg ht (fun q => ?_) (fun q => ?_)
        · simpa [mm_cmp, q] using kk
        · simpa [mm_cmp, q] using kk
      · refine lv_if_le hx hb hdg ht (fun q => ?_) (fun q => ?_)
        · simpa [mm_cmp, q] using kk
        · simpa [mm_cmp, q] using kk
    · cases h
  · split at h
    · rename_i cd off _ y x st2
      cases h
      have ht := of_decide_eq_true (show decide ((pc : Int) + off = (tgt : Nat)) = true from hk)
      cases cd
      · refine lv_icmp_eq hx hb hdg ht (fun q => ?_) (fun q => ?_)
        · simpa [mm_cmp, q] using kk
        · simpa [mm_cmp, q] using kk
      · refine lv_icmp_ne hx hb hdg ht (fun q => ?_) (fun q => ?_)
        · simpa [mm_cmp, q] using kk
        · simpa [mm_cmp, q] using kk
      · refine lv_icmp_lt hx hb hdg ht (fun q => ?_) (fun q => ?_)
        · simpa [mm_cmp, q] using kk
        · simpa [mm_cmp, q] using kk
      · refine lv_icmp_ge hx hb hdg ht (fun q => ?_) (fun q => ?_)
        · simpa [mm_cmp, q] using kk
        · simpa [mm_cmp, q] using kk
      · refine lv_icmp_gt hx hb hdg ht (fun q => ?_) (fun q => ?_)
        · simpa [mm_cmp, q] using kk
        · simpa [mm_cmp, q] using kk
      · refine lv_icmp_le hx hb hdg ht (fun q => ?_) (fun q => ?_)
        · simpa [mm_cmp, q] using kk
        · simpa [mm_cmp, q] using kk
    · cases h
  · cases h
end MMP
