/-! THE INDUCTION -/
theorem mm_hd_code {j : Nat} (h : mm_hd j = true) : lw_tbl[mm_nu (mm_me j) 7]? = some (.code (mm_me j).1 (mm_me j).2.1 (mm_me j).2.2.1 (mm_me j).2.2.2.1) ∧ lw_tbl[mm_nu (mm_me j) 8]? = some (.initialized (mm_me j).1.cls) ∧ plainFor (mm_me j).1 = true ∧ (mm_me j).1.cls ≠ "java/lang/invoke/MethodHandle" ∧ (mm_me j).1.cls ≠ "java/lang/invoke/VarHandle" ∧ mm_pc j 0 = 0 := by
  simp only [mm_hd, Bool.and_eq_true, decide_eq_true_eq, beq_iff_eq] at h
  obtain ⟨⟨⟨⟨⟨⟨h1, h2⟩, h3⟩, h4⟩, h5⟩, h6⟩, -⟩ := h
  exact ⟨h1, h2, h3, h4, h5, h6⟩
theorem mm_hd_kind {j : Nat} (h : mm_hd j = true) : (match mm_nu (mm_me j) 0 with
  | 0 => decide (lw_tbl[mm_nu (mm_me j) 9]? = some (.static (mm_me j).1)) && decide ((parseMethodDescriptor (mm_me j).1.desc).map (fun d => d.parameters.length) = some (mm_nu (mm_me j) 1))
  | 1 => decide (lw_tbl[mm_nu (mm_me j) 9]? = some (.instanceMethod (mm_me j).1)) && decide (lw_tbl[mm_nu (mm_me j) 10]? = some (.selects (mm_me j).1.cls (mm_me j).1 (mm_me j).1)) && decide ((mm_cls (mm_nu (mm_me j) 2)).1 = (mm_me j).1.cls) && decide (mm_nu (mm_me j) 2 < 11) && decide ((parseMethodDescriptor (mm_me j).1.desc).map (fun d => d.parameters.length + 1) = some (mm_nu (mm_me j) 1))
  | 2 => decide (lw_tbl[mm_nu (mm_me j) 9]? = some (.instanceMethod (mm_me j).1)) && decide ((mm_me j).1.name = "<init>") && decide ((mm_me j).2.2.2.1 = none) && decide ((parseMethodDescriptor (mm_me j).1.desc).map (fun d => d.parameters.length + 1) = some (mm_nu (mm_me j) 1))
  | _ => false) = true := by
  unfold mm_hd at h
  rw [Bool.and_eq_true] at h
  exact h.2
set_option maxHeartbeats 1000000 in
theorem mm_met_of (hck : ∀ j, j < 225 → (mm_ckm j && mm_hd j) = true) (l : Launch) (g : mm_G) (f : Nat) (hrun : mm_Runs l g f) : mm_Mets l g f := by
  intro j as μ r μ' hj hlen hxx
  have hd := hck j hj
  rw [Bool.and_eq_true] at hd
  obtain ⟨w1, w2, w3, w4, w5, w6⟩ := mm_hd_code hd.2
  refine va_MetF (cc := (mm_me j).2.1) (maxL := (mm_me j).2.2.1) (ret := (mm_me j).2.2.2.1) w3 rfl ?_
  intro p e s m args below meth c s₁ B hml hpc
  obtain ⟨rfl, hR, hC⟩ := hpc
  have hts0 := atoms_spec (ws := mm_wd j) B.pre
  have hts : ∀ w ∈ mm_gt, w.before _ s = true := fun w h => hts0 w (List.mem_cons_of_mem _ h)
  have hown : s.vm.findClass (mm_own j) = some m.cls := findClass_of_methodNamed B.named
  have hini : mm_nu (mm_me j) 0 = 2 → meth.name = "<init>" := by
    intro h2
    have hk := mm_hd_kind hd.2
    rw [h2] at hk
    simp only [Bool.and_eq_true, decide_eq_true_eq] at hk
    rw [← hk.1.1.2]
    exact (name_of_methodNamed B.named B.method).1
  rw [lg_entry_eq]
  have hS : va_S (mm_A g) s.heap s.heap [] := va_S.rf
  have hL := mm_entry g (as := as) (n := (mm_me j).2.2.1) hlen
  have key := hrun j 0 (mm_ini as (mm_me j).2.2.1) [] (0, 0) μ r μ' (by omega) hxx p e (mm_rm j) s m (as.map (mm_rl g)).toArray below meth c s.heap [] _ (MQ below (mm_Qc g r μ') (as.map (mm_rl g)).toArray s (mm_nu (mm_me j) 5) (mm_nu (mm_me j) 6) (mm_A g)) ⟨B.exec, B.bytes, hml, hown, hts, hC, hini, Nat.le_refl _, Nat.le_refl _, Nat.le_refl _, Nat.le_refl _⟩ (Nat.zero_le _) (Nat.zero_le _) hR hS hL ?_
  · rw [w6] at key
    exact key
  · intro pc ins H' locs' ls' B' st' hdg hrt hR' hS' hb1 hb2
    have hr := B.returns
    have hlocks := B.notSynchronized
    refine W.widen hb1 hb2 ?_
    unfold mm_rt at hrt
    split at hrt
    · split at hrt
      · split at hrt
        · rename_i hrn
          cases hrt
          exact W.vret B.exec B.bytes (hr.trans hrn) (fun t ht hW => ⟨rfl, by rw [ht]; exact hR', hS'.F ht⟩) hS'.2.2 hdg
        · cases hrt
      · cases hrt
    · split at hrt
      · rename_i v
        split at hrt
        · rename_i hrn
          cases hrt
          rcases hrn with hrn | ⟨hrn, hv⟩
          · exact W.iret B.exec B.bytes (hr.trans hrn) (fun t ht hW => ⟨rfl, by rw [ht]; exact hR', hS'.F ht⟩) hS'.2.2 hdg
          · exact W.zret B.exec B.bytes (hr.trans hrn) (by rcases hv with rfl | rfl <;> rfl) (fun t ht hW => ⟨rfl, by rw [ht]; exact hR', hS'.F ht⟩) hS'.2.2 hdg
        · cases hrt
      · cases hrt
    · split at hrt
      · split at hrt
        · rename_i hrn
          cases hrt
          exact W.lret B.exec B.bytes (hr.trans hrn) (fun t ht hW => ⟨rfl, by rw [ht]; exact hR', hS'.F ht⟩) hS'.2.2 hdg
        · cases hrt
      · cases hrt
    · split at hrt
      · rename_i a
        split at hrt
        · rename_i hrn
          cases hrt
          exact W.aret B.exec B.bytes (hr.trans hrn.1) (Or.inl ⟨_, rfl⟩) (mm_rl_ref g a) (fun t ht hW => ⟨rfl, by rw [ht]; exact hR', hS'.F ht⟩) hS'.2.2 hdg
        · cases hrt
      · cases hrt
    · cases hrt
section MMX
variable {p : Program} {l : Launch} {e : Env} {R : Room} {s : State} {m : MethodId} {args : Array Value} {below : List Frame} {meth : Method} {c : Code} {H : Heap} {locs : List Loc} {cells slots : Nat} {Q : State → Prop}
variable {pc : Nat} {ls : Array Slot} {rest st0 : List Value} {a : Array Value} {g : mm_G} {mc ms : Nat}
theorem mm_callx {r : Option Value} {μ' : mm_M} (hr : va_Run p l e R s m args below meth c H locs cells slots mc ms (F0 m pc ls st0) rest (mm_Qc g r μ' a) (mm_A g)) (hS : va_S (mm_A g) s.heap H locs)
    (kk : ∀ (H1 : Heap) (locs1 : List Loc), mm_R g μ' H1 → va_S (mm_A g) s.heap H1 locs1 → W p l e R s m args below meth c H1 locs1 (cells + mc) (slots + ms) Q (F0 m (pc + 3) ls ((r.map (mm_rl g)).toList ++ rest))) : W p l e R s m args below meth c H locs cells slots Q (F0 m pc ls st0) := by
  intro T hT X
  obtain ⟨v, st₀, t, T', L, h0, X', hL, e1, e2, ⟨hv, hp, hz, hk⟩, st⟩ := hr T hT X
  cases hv
  rw [h0] at hz hk
  obtain ⟨t2, a1, b1⟩ := kk T'.heap (locs ++ L) (by rw [e1]; exact hp)
    ⟨Nat.le_trans hS.1 (by rw [e1]; exact hz), fun q h1 h2 => by rw [e1, hk q (Nat.lt_of_lt_of_le h1 hS.1) h2]; exact hS.2.1 q h1 h2, fun q hq => by
      rcases List.mem_append.mp hq with h | h
      · exact hS.2.2 q h
      · exact hL q h⟩ T' rfl X'
  exact ⟨t2, st t2 a1, b1⟩
theorem mm_pre {as : List Value} {μ : mm_M} (hC : mm_C g s s.heap) (hR : mm_R g μ H) (hS : va_S (mm_A g) s.heap H locs) : FrameBlind (mm_Pc g as μ) ∧ ∀ U : State, U.heap = H → s.WarmedH U.vm → mm_Pc g as μ (as.map (mm_rl g)).toArray U := by
  refine ⟨fun a U gf mk h => ⟨h.1, h.2.1, h.2.2.calls gf mk a⟩, fun U hU hW => ⟨rfl, by rw [hU]; exact hR, ?_⟩⟩
  rw [hU]
  exact hC.on hW hS.1 hS.2.1
end MMX
