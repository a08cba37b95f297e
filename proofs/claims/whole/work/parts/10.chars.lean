/-! String.charAt of the one text constant -/
/-- what is known of the text: its object at q, its bytes at v -/
def mm_T (q v : Nat) (A : Nat → Prop) (U : State) (H : Heap) : Prop := va_O "java/lang/String" q A U H ∧ va_OF "java/lang/String" "coder" "B" (.int 0) q A U H ∧ va_OF "java/lang/String" "value" "[B" (.ref v) q A U H ∧ va_T .byte v 9 (fun j => .int (nI (mm_tx.getD j 0))) A U H ∧ va_Z "java/lang/String" "COMPACT_STRINGS" "Z" (.int 1) A U H ∧ va_Zq "jdk/internal/util/Preconditions" "SIOOBE_FORMATTER" "Ljava/util/function/BiFunction;" A U H
theorem mm_T.moved {q v : Nat} {A : Nat → Prop} {u U : State} {H : Heap} (hvm : u.vm.Alike U.vm) (h : mm_T q v A u H) : mm_T q v A U H :=
  ⟨va_O.moved hvm h.1, va_OF.moved hvm h.2.1, va_OF.moved hvm h.2.2.1, va_T.moved hvm h.2.2.2.1, va_Z.moved hvm h.2.2.2.2.1, va_Zq.moved hvm h.2.2.2.2.2⟩
theorem mm_T.kept {q v : Nat} {A : Nat → Prop} {U : State} {H H1 : Heap} (h : mm_T q v A U H) (hq : ∀ a : Nat, a < H.size → ¬ A a → H1[a]? = H[a]?) : mm_T q v A U H1 :=
  ⟨h.1.kept hq, h.2.1.kept hq, h.2.2.1.kept hq, h.2.2.2.1.kept hq, h.2.2.2.2.1.kept hq, h.2.2.2.2.2.kept hq⟩
theorem dJ0_charAt_5068e_0 : decode cJ0_charAt_5068e 0 = .ok (.aload_n 0, 1) := by decide +kernel
theorem dJ0_charAt_5068e_1 : decode cJ0_charAt_5068e 1 = .ok (.invokevirtual 492, 3) := by decide +kernel
theorem dJ0_charAt_5068e_4 : decode cJ0_charAt_5068e 4 = .ok (.ifCond .eq 12, 3) := by decide +kernel
theorem dJ0_charAt_5068e_7 : decode cJ0_charAt_5068e 7 = .ok (.aload_n 0, 1) := by decide +kernel
theorem dJ0_charAt_5068e_8 : decode cJ0_charAt_5068e 8 = .ok (.getfield 9, 3) := by decide +kernel
theorem dJ0_charAt_5068e_11 : decode cJ0_charAt_5068e 11 = .ok (.iload_n 1, 1) := by decide +kernel
theorem dJ0_charAt_5068e_12 : decode cJ0_charAt_5068e 12 = .ok (.invokestatic 495, 3) := by decide +kernel
theorem dJ0_charAt_5068e_15 : decode cJ0_charAt_5068e 15 = .ok (.ireturn, 1) := by decide +kernel
theorem dJ0_charAt_5068e_16 : decode cJ0_charAt_5068e 16 = .ok (.aload_n 0, 1) := by decide +kernel
theorem dJ0_charAt_5068e_17 : decode cJ0_charAt_5068e 17 = .ok (.getfield 9, 3) := by decide +kernel
theorem dJ0_charAt_5068e_20 : decode cJ0_charAt_5068e 20 = .ok (.iload_n 1, 1) := by decide +kernel
theorem dJ0_charAt_5068e_21 : decode cJ0_charAt_5068e 21 = .ok (.invokestatic 498, 3) := by decide +kernel
theorem dJ0_charAt_5068e_24 : decode cJ0_charAt_5068e 24 = .ok (.ireturn, 1) := by decide +kernel
theorem dJ0_isLatin1_aae02_0 : decode cJ0_isLatin1_aae02 0 = .ok (.getstatic 38, 3) := by decide +kernel
theorem dJ0_isLatin1_aae02_3 : decode cJ0_isLatin1_aae02 3 = .ok (.ifCond .eq 14, 3) := by decide +kernel
theorem dJ0_isLatin1_aae02_6 : decode cJ0_isLatin1_aae02 6 = .ok (.aload_n 0, 1) := by decide +kernel
theorem dJ0_isLatin1_aae02_7 : decode cJ0_isLatin1_aae02 7 = .ok (.getfield 15, 3) := by decide +kernel
theorem dJ0_isLatin1_aae02_10 : decode cJ0_isLatin1_aae02 10 = .ok (.ifCond .ne 7, 3) := by decide +kernel
theorem dJ0_isLatin1_aae02_13 : decode cJ0_isLatin1_aae02 13 = .ok (.iconst 1, 1) := by decide +kernel
theorem dJ0_isLatin1_aae02_14 : decode cJ0_isLatin1_aae02 14 = .ok (.goto 4, 3) := by decide +kernel
theorem dJ0_isLatin1_aae02_17 : decode cJ0_isLatin1_aae02 17 = .ok (.iconst 0, 1) := by decide +kernel
theorem dJ0_isLatin1_aae02_18 : decode cJ0_isLatin1_aae02 18 = .ok (.ireturn, 1) := by decide +kernel
theorem dJ0_checkIndex_df160_0 : decode cJ0_checkIndex_df160 0 = .ok (.iload_n 0, 1) := by decide +kernel
theorem dJ0_checkIndex_df160_1 : decode cJ0_checkIndex_df160 1 = .ok (.iload_n 1, 1) := by decide +kernel
theorem dJ0_checkIndex_df160_2 : decode cJ0_checkIndex_df160 2 = .ok (.getstatic 1053, 3) := by decide +kernel
theorem dJ0_checkIndex_df160_5 : decode cJ0_checkIndex_df160 5 = .ok (.invokestatic 1059, 3) := by decide +kernel
theorem dJ0_checkIndex_df160_8 : decode cJ0_checkIndex_df160 8 = .ok (.pop, 1) := by decide +kernel
theorem dJ0_checkIndex_df160_9 : decode cJ0_checkIndex_df160 9 = .ok (.return_, 1) := by decide +kernel
theorem dJ1_charAt_3b067_0 : decode cJ1_charAt_3b067 0 = .ok (.iload_n 1, 1) := by decide +kernel
theorem dJ1_charAt_3b067_1 : decode cJ1_charAt_3b067 1 = .ok (.aload_n 0, 1) := by decide +kernel
theorem dJ1_charAt_3b067_2 : decode cJ1_charAt_3b067 2 = .ok (.arraylength, 1) := by decide +kernel
theorem dJ1_charAt_3b067_3 : decode cJ1_charAt_3b067 3 = .ok (.invokestatic 9, 3) := by decide +kernel
theorem dJ1_charAt_3b067_6 : decode cJ1_charAt_3b067 6 = .ok (.aload_n 0, 1) := by decide +kernel
theorem dJ1_charAt_3b067_7 : decode cJ1_charAt_3b067 7 = .ok (.iload_n 1, 1) := by decide +kernel
theorem dJ1_charAt_3b067_8 : decode cJ1_charAt_3b067 8 = .ok (.baload, 1) := by decide +kernel
theorem dJ1_charAt_3b067_9 : decode cJ1_charAt_3b067 9 = .ok (.sipush 255, 3) := by decide +kernel
theorem dJ1_charAt_3b067_12 : decode cJ1_charAt_3b067 12 = .ok (.iand, 1) := by decide +kernel
theorem dJ1_charAt_3b067_13 : decode cJ1_charAt_3b067 13 = .ok (.i2c, 1) := by decide +kernel
theorem dJ1_charAt_3b067_14 : decode cJ1_charAt_3b067 14 = .ok (.ireturn, 1) := by decide +kernel
theorem dJ3_checkIndex_8e157_0 : decode cJ3_checkIndex_8e157 0 = .ok (.iload_n 0, 1) := by decide +kernel
theorem dJ3_checkIndex_8e157_1 : decode cJ3_checkIndex_8e157 1 = .ok (.ifCond .lt 8, 3) := by decide +kernel
theorem dJ3_checkIndex_8e157_4 : decode cJ3_checkIndex_8e157 4 = .ok (.iload_n 0, 1) := by decide +kernel
theorem dJ3_checkIndex_8e157_5 : decode cJ3_checkIndex_8e157 5 = .ok (.iload_n 1, 1) := by decide +kernel
theorem dJ3_checkIndex_8e157_6 : decode cJ3_checkIndex_8e157 6 = .ok (.if_icmp .lt 10, 3) := by decide +kernel
theorem dJ3_checkIndex_8e157_9 : decode cJ3_checkIndex_8e157 9 = .ok (.aload_n 2, 1) := by decide +kernel
theorem dJ3_checkIndex_8e157_10 : decode cJ3_checkIndex_8e157 10 = .ok (.iload_n 0, 1) := by decide +kernel
theorem dJ3_checkIndex_8e157_11 : decode cJ3_checkIndex_8e157 11 = .ok (.iload_n 1, 1) := by decide +kernel
theorem dJ3_checkIndex_8e157_12 : decode cJ3_checkIndex_8e157 12 = .ok (.invokestatic 95, 3) := by decide +kernel
theorem dJ3_checkIndex_8e157_15 : decode cJ3_checkIndex_8e157 15 = .ok (.athrow, 1) := by decide +kernel
theorem dJ3_checkIndex_8e157_16 : decode cJ3_checkIndex_8e157 16 = .ok (.iload_n 0, 1) := by decide +kernel
theorem dJ3_checkIndex_8e157_17 : decode cJ3_checkIndex_8e157 17 = .ok (.ireturn, 1) := by decide +kernel
def mm_wJ (y : MethodName) (cc : ByteArray) (n : Nat) (r : Option FieldType) : List Jvm.Cond := .code y cc n r :: mm_gt
set_option maxHeartbeats 4000000 in
set_option maxRecDepth 100000 in
/-- Preconditions.checkIndex(i, n, f): i -/
theorem mm_chkP (l : Launch) (i n : Int32) (v : Value) (hv : v.category = 1) (h0 : ¬ i < 0) (h1 : i < n) : Met l yJ3_checkIndex_8e157 (mm_wJ yJ3_checkIndex_8e157 cJ3_checkIndex_8e157 3 (some .int)) ({ frames := 0, cells := 0, slots := 0, locals := 0 }) (va_Pc [.int i, .int n, v] (fun _ => True)) (vp_Si (fun r => r = i)) 0 0 (fun _ => False) := by
  refine va_MetF (cc := cJ3_checkIndex_8e157) (maxL := 3) (ret := some .int) (by decide +kernel) rfl ?_
  intro p e s m args below meth c s₁ B hml hpc
  obtain ⟨rfl, -⟩ := hpc
  have hx := B.exec
  have hb := B.bytes
  have hr := B.returns
  have hlocks := B.notSynchronized
  have hl := lv_entry ([.int i, .int n, v]) (n := 3) (by
    have e1 : ¬ (Value.int i).category = 2 := fun h => by cases h
    have e2 : ¬ (Value.int n).category = 2 := fun h => by cases h
    have e3 : ¬ v.category = 2 := by rw [hv]; exact fun h => by cases h
    simp only [lg_sl, List.flatMap_cons, List.flatMap_nil, e1, e2, e3, if_false]
    exact Nat.le_refl _)
  rw [lg_entry_eq]
  generalize (lg_sl ([.int i, .int n, v]) ++ List.replicate (3 - (lg_sl ([.int i, .int n, v])).length) Slot.unset).toArray = ls at hl ⊢
  refine lv_iload_n hx hb (k := 0) (i := 0) dJ3_checkIndex_8e157_0 rfl (lv_at hl 0 rfl) ?_
  refine lv_if_lt hx hb (tgt := 9) (off := 8) dJ3_checkIndex_8e157_1 (by decide) (fun q => absurd q h0) (fun _ => ?_)
  refine lv_iload_n hx hb (k := 0) (i := 0) dJ3_checkIndex_8e157_4 rfl (lv_at hl 0 rfl) ?_
  refine lv_iload_n hx hb (k := 1) (i := 1) dJ3_checkIndex_8e157_5 rfl (lv_at hl 1 rfl) ?_
  refine lv_icmp_lt hx hb (tgt := 16) (off := 10) dJ3_checkIndex_8e157_6 (by decide) (fun _ => ?_) (fun q => absurd h1 q)
  refine lv_iload_n hx hb (k := 0) (i := 0) dJ3_checkIndex_8e157_16 rfl (lv_at hl 0 rfl) ?_
  exact W.iret (v := i) hx hb hr (fun t ht _ => ⟨i, rfl, rfl, ht⟩) (fun q h => absurd h List.not_mem_nil) dJ3_checkIndex_8e157_17
set_option maxHeartbeats 4000000 in
set_option maxRecDepth 100000 in
/-- String.checkIndex(i, n) -/
theorem mm_chkS (l : Launch) (A : Nat → Prop) (q v : Nat) (i n : Int32) (h0 : ¬ i < 0) (h1 : i < n) : Met l yJ0_checkIndex_df160 (mm_wJ yJ0_checkIndex_df160 cJ0_checkIndex_df160 2 none) ({ frames := 1, cells := 0, slots := 0, locals := 22 }) (va_Pc [.int i, .int n] (fun U => mm_T q v A U U.heap)) (va_Sv (fun _ => True)) 0 0 (fun _ => False) := by
  refine va_MetF (cc := cJ0_checkIndex_df160) (maxL := 2) (ret := none) (by decide +kernel) rfl ?_
  intro p e s m args below meth c s₁ B hml hpc
  obtain ⟨rfl, hT⟩ := hpc
  have hx := B.exec
  have hb := B.bytes
  have hr := B.returns
  have hlocks := B.notSynchronized
  have hts0 := atoms_spec (ws := mm_wJ yJ0_checkIndex_df160 cJ0_checkIndex_df160 2 none) B.pre
  have hts : ∀ w ∈ mm_gt, w.before _ s = true := fun w h => hts0 w (List.mem_cons_of_mem _ h)
  have hown : s.vm.findClass RJ0 = some m.cls := findClass_of_methodNamed B.named
  have hS : va_S A s.heap s.heap [] := va_S.rf
  have hl := lv_entry ([.int i, .int n]) (n := 2) (Nat.le_of_ble_eq_true rfl)
  rw [lg_entry_eq]
  generalize (lg_sl ([.int i, .int n]) ++ List.replicate (2 - (lg_sl ([.int i, .int n])).length) Slot.unset).toArray = ls at hl ⊢
  refine lv_iload_n hx hb (k := 0) (i := 0) dJ0_checkIndex_df160_0 rfl (lv_at hl 0 rfl) ?_
  refine lv_iload_n hx hb (k := 1) (i := 1) dJ0_checkIndex_df160_1 rfl (lv_at hl 1 rfl) ?_
  have key : ∀ f : Value, f.category = 1 → va_Z "jdk/internal/util/Preconditions" "SIOOBE_FORMATTER" "Ljava/util/function/BiFunction;" f A s s.heap → W p l e (headSpec (mm_wJ yJ0_checkIndex_df160 cJ0_checkIndex_df160 2 none) ({ frames := 1, cells := 0, slots := 0, locals := 22 })).room s m #[Value.int i, Value.int n] below meth c s.heap [] 0 0 (MQ below (va_Sv (fun _ => True)) #[Value.int i, Value.int n] s 0 0 (fun _ => False)) (F0 m 2 ls [.int n, .int i]) := by
    intro f hf hZ
    refine va_gets hx hb hZ hS hown (mm_gw hts (z := 460) (w := .fieldLink RJ0 1053 "jdk/internal/util/Preconditions" "SIOOBE_FORMATTER" "Ljava/util/function/BiFunction;") (by decide +kernel) rfl) (fun _ h => h) dJ0_checkIndex_df160_2 ?_
    have hcw : CallB (headSpec (mm_wJ yJ0_checkIndex_df160 cJ0_checkIndex_df160 2 none) ({ frames := 1, cells := 0, slots := 0, locals := 22 })).room s _ RJ0 1059 yJ3_checkIndex_8e157 cJ3_checkIndex_8e157 3 (some .int) (mm_wJ yJ3_checkIndex_8e157 cJ3_checkIndex_8e157 3 (some .int)) ({ frames := 0, cells := 0, slots := 0, locals := 0 }) 0 0 3 := callB_of 3 hts (mm_good (mm_mg (z := 464) (by decide +kernel) rfl)) rfl rfl rfl (mm_gw hts (z := 98) (by decide +kernel) rfl) (mm_gw hts (z := 462) (by decide +kernel) rfl) (by decide +kernel) ⟨Nat.le_of_ble_eq_true rfl, Nat.le_of_ble_eq_true rfl⟩
    refine vp_callSi (W.runS (As := [.int i, .int n, f]) (rest := []) ⟨hx, hb, hml, hown, hts⟩ (mm_chkP l i n f hf h0 h1) ⟨hcw, mm_gw hts (z := 463) (by decide +kernel) rfl⟩ ⟨fun a U g mk z => ⟨z.1, trivial⟩, fun U _ _ => ⟨rfl, trivial⟩⟩ rfl rfl hl.1 rfl (lv_room (Nat.le_of_ble_eq_true rfl)) dJ0_checkIndex_df160_5 ⟨Nat.le_of_ble_eq_true rfl, Nat.le_of_ble_eq_true rfl⟩) (fun r _ => ?_)
    refine lv_pop hx hb dJ0_checkIndex_df160_8 rfl ?_
    exact W.vret hx hb hr (fun t ht _ => ⟨rfl, trivial, ht⟩) (fun q h => absurd h List.not_mem_nil) dJ0_checkIndex_df160_9
  rcases hT.2.2.2.2.2 with hZ | ⟨t, hZ⟩
  · exact key .null rfl hZ
  · exact key (.ref t) rfl hZ
set_option maxHeartbeats 4000000 in
set_option maxRecDepth 100000 in
/-- StringLatin1.charAt(bytes, k) -/
theorem mm_chrL (l : Launch) (A : Nat → Prop) (q v : Nat) (i : Int32) (h0 : ¬ i < 0) (h1 : i < 9) : Met l yJ1_charAt_3b067 (mm_wJ yJ1_charAt_3b067 cJ1_charAt_3b067 2 (some .char)) ({ frames := 2, cells := 0, slots := 0, locals := 43 }) (va_Pc [.ref v, .int i] (fun U => mm_T q v A U U.heap)) (vp_Si (fun r => r = nI (mm_tx.getD i.toNatClampNeg 0))) 0 0 (fun _ => False) := by
  refine va_MetF (cc := cJ1_charAt_3b067) (maxL := 2) (ret := some .char) (by decide +kernel) rfl ?_
  intro p e s m args below meth c s₁ B hml hpc
  obtain ⟨rfl, hT⟩ := hpc
  have hx := B.exec
  have hb := B.bytes
  have hr := B.returns
  have hlocks := B.notSynchronized
  have hts0 := atoms_spec (ws := mm_wJ yJ1_charAt_3b067 cJ1_charAt_3b067 2 (some .char)) B.pre
  have hts : ∀ w ∈ mm_gt, w.before _ s = true := fun w h => hts0 w (List.mem_cons_of_mem _ h)
  have hown : s.vm.findClass RJ1 = some m.cls := findClass_of_methodNamed B.named
  have hS : va_S A s.heap s.heap [] := va_S.rf
  have hl := lv_entry ([.ref v, .int i]) (n := 2) (Nat.le_of_ble_eq_true rfl)
  rw [lg_entry_eq]
  generalize (lg_sl ([.ref v, .int i]) ++ List.replicate (2 - (lg_sl ([.ref v, .int i])).length) Slot.unset).toArray = ls at hl ⊢
  refine lv_iload_n hx hb (k := 1) (i := 1) dJ1_charAt_3b067_0 rfl (lv_at hl 1 rfl) ?_
  refine lv_aload_n hx hb (k := 0) (i := 0) dJ1_charAt_3b067_1 rfl (lv_at hl 0 rfl) ?_
  obtain ⟨cell, t1, t2, t3, t4, t5, t6, t7⟩ := id hT.2.2.2.1
  refine W.alen (n := 9) hx hb t1 t2 (t5.trans rfl) rfl rfl dJ1_charAt_3b067_2 ?_
  have hcw : CallB (headSpec (mm_wJ yJ1_charAt_3b067 cJ1_charAt_3b067 2 (some .char)) ({ frames := 2, cells := 0, slots := 0, locals := 43 })).room s _ RJ1 9 yJ0_checkIndex_df160 cJ0_checkIndex_df160 2 none (mm_wJ yJ0_checkIndex_df160 cJ0_checkIndex_df160 2 none) ({ frames := 1, cells := 0, slots := 0, locals := 22 }) 0 0 2 := callB_of 2 hts (mm_good (mm_mg (z := 459) (by decide +kernel) rfl)) rfl rfl rfl (mm_gw hts (z := 96) (by decide +kernel) rfl) (mm_gw hts (z := 457) (by decide +kernel) rfl) (by decide +kernel) ⟨Nat.le_of_ble_eq_true rfl, Nat.le_of_ble_eq_true rfl⟩
  refine va_csv (W.runS (As := [.int i, .int 9]) (rest := []) ⟨hx, hb, hml, hown, hts⟩ (mm_chkS l A q v i 9 h0 h1) ⟨hcw, mm_gw hts (z := 458) (by decide +kernel) rfl⟩ ⟨fun a U g mk z => ⟨z.1, mm_T.moved (u := U) (U := U.calling g mk a) (Vm.Alike.refl U.vm) z.2⟩, fun U hU hW => ⟨rfl, (show mm_T q v A U U.heap by rw [hU]; exact mm_T.moved hW.alike hT)⟩⟩ rfl rfl hl.1 rfl (lv_room (Nat.le_of_ble_eq_true rfl)) dJ1_charAt_3b067_3 ⟨Nat.le_of_ble_eq_true rfl, Nat.le_of_ble_eq_true rfl⟩) (fun _ => ?_)
  refine lv_aload_n hx hb (k := 0) (i := 0) dJ1_charAt_3b067_6 rfl (lv_at hl 0 rfl) ?_
  refine lv_iload_n hx hb (k := 1) (i := 1) dJ1_charAt_3b067_7 rfl (lv_at hl 1 rfl) ?_
  have hi9 : i.toNatClampNeg < 9 := by
    have e0 := Int32.not_lt.mp h0
    have e1 := Int32.le_iff_toInt_le.mp e0
    have e2 := Int32.lt_iff_toInt_lt.mp h1
    have e3 : (0 : Int32).toInt = 0 := by decide
    have e4 : (9 : Int32).toInt = 9 := by decide
    rw [e3] at e1
    rw [e4] at e2
    show i.toInt.toNat < 9
    omega
  have hin : vp_in i 9 := fun z => by
    rcases z with z | z
    · exact h0 z
    · omega
  refine va_tb hx hb hT.2.2.2.1 hS hin rfl dJ1_charAt_3b067_8 ?_
  refine lv_sipush (v := 255) hx hb (n := 255) dJ1_charAt_3b067_9 (by decide) ?_
  refine lv_iand hx hb dJ1_charAt_3b067_12 ?_
  refine lv_i2c hx hb dJ1_charAt_3b067_13 rfl ?_
  have hval : ((nI (mm_tx.getD i.toNatClampNeg 0) &&& 255).toUInt32 % 65536).toInt32 = nI (mm_tx.getD i.toNatClampNeg 0) ∧ narrow .char (.int (nI (mm_tx.getD i.toNatClampNeg 0))) = .int (nI (mm_tx.getD i.toNatClampNeg 0)) := by
    generalize i.toNatClampNeg = k at hi9
    have h9 : ∀ k, k < 9 → ((nI (mm_tx.getD k 0) &&& 255).toUInt32 % 65536).toInt32 = nI (mm_tx.getD k 0) ∧ narrow .char (.int (nI (mm_tx.getD k 0))) = .int (nI (mm_tx.getD k 0)) := by decide +kernel
    exact h9 k hi9
  rw [hval.1]
  exact W.zret (v := nI (mm_tx.getD i.toNatClampNeg 0)) hx hb hr hval.2 (fun t ht _ => ⟨_, rfl, rfl, ht⟩) (fun q h => absurd h List.not_mem_nil) dJ1_charAt_3b067_14
set_option maxHeartbeats 4000000 in
set_option maxRecDepth 100000 in
/-- String.isLatin1() -/
theorem mm_lat (l : Launch) (A : Nat → Prop) (q v : Nat) : Met l yJ0_isLatin1_aae02 (mm_wJ yJ0_isLatin1_aae02 cJ0_isLatin1_aae02 1 (some .boolean)) ({ frames := 0, cells := 0, slots := 0, locals := 0 }) (va_Pc [.ref q] (fun U => mm_T q v A U U.heap)) (vp_Si (fun r => r = 1)) 0 0 (fun _ => False) := by
  refine va_MetF (cc := cJ0_isLatin1_aae02) (maxL := 1) (ret := some .boolean) (by decide +kernel) rfl ?_
  intro p e s m args below meth c s₁ B hml hpc
  obtain ⟨rfl, hT⟩ := hpc
  have hx := B.exec
  have hb := B.bytes
  have hr := B.returns
  have hlocks := B.notSynchronized
  have hts0 := atoms_spec (ws := mm_wJ yJ0_isLatin1_aae02 cJ0_isLatin1_aae02 1 (some .boolean)) B.pre
  have hts : ∀ w ∈ mm_gt, w.before _ s = true := fun w h => hts0 w (List.mem_cons_of_mem _ h)
  have hown : s.vm.findClass RJ0 = some m.cls := findClass_of_methodNamed B.named
  have hS : va_S A s.heap s.heap [] := va_S.rf
  have hl := lv_entry ([.ref q]) (n := 1) (Nat.le_of_ble_eq_true rfl)
  rw [lg_entry_eq]
  generalize (lg_sl ([.ref q]) ++ List.replicate (1 - (lg_sl ([.ref q])).length) Slot.unset).toArray = ls at hl ⊢
  refine va_gets hx hb hT.2.2.2.2.1 hS hown (mm_gw hts (z := 452) (w := .fieldLink RJ0 38 "java/lang/String" "COMPACT_STRINGS" "Z") (by decide +kernel) rfl) (fun _ h => h) dJ0_isLatin1_aae02_0 ?_
  refine lv_if_eq hx hb (tgt := 17) (off := 14) dJ0_isLatin1_aae02_3 (by decide) (fun z => absurd z (by decide)) (fun _ => ?_)
  refine lv_aload_n hx hb (k := 0) (i := 0) dJ0_isLatin1_aae02_6 rfl (lv_at hl 0 rfl) ?_
  refine vk_getf hx hb hT.2.1 hS hown (mm_gw hts (z := 1428) (w := .fieldLink RJ0 15 "java/lang/String" "coder" "B") (by decide +kernel) rfl) (fun _ h => h) dJ0_isLatin1_aae02_7 ?_
  refine lv_if_ne hx hb (tgt := 17) (off := 7) dJ0_isLatin1_aae02_10 (by decide) (fun z => absurd rfl z) (fun _ => ?_)
  refine lv_iconst (v := 1) hx hb (n := 1) dJ0_isLatin1_aae02_13 (by decide) ?_
  refine lv_goto hx hb (tgt := 18) (off := 4) dJ0_isLatin1_aae02_14 (by decide) ?_
  exact W.zret (v := 1) hx hb hr rfl (fun t ht _ => ⟨_, rfl, rfl, ht⟩) (fun q h => absurd h List.not_mem_nil) dJ0_isLatin1_aae02_18
set_option maxHeartbeats 4000000 in
set_option maxRecDepth 100000 in
/-- String.charAt(k) -/
theorem mm_chrS (l : Launch) (A : Nat → Prop) (q v : Nat) (i : Int32) (h0 : ¬ i < 0) (h1 : i < 9) : Met l yJ0_charAt_5068e (mm_wJ yJ0_charAt_5068e cJ0_charAt_5068e 2 (some .char)) ({ frames := 3, cells := 0, slots := 0, locals := 64 }) (va_Pc [.ref q, .int i] (fun U => mm_T q v A U U.heap)) (vp_Si (fun r => r = nI (mm_tx.getD i.toNatClampNeg 0))) 0 0 (fun _ => False) := by
  refine va_MetF (cc := cJ0_charAt_5068e) (maxL := 2) (ret := some .char) (by decide +kernel) rfl ?_
  intro p e s m args below meth c s₁ B hml hpc
  obtain ⟨rfl, hT⟩ := hpc
  have hx := B.exec
  have hb := B.bytes
  have hr := B.returns
  have hlocks := B.notSynchronized
  have hts0 := atoms_spec (ws := mm_wJ yJ0_charAt_5068e cJ0_charAt_5068e 2 (some .char)) B.pre
  have hts : ∀ w ∈ mm_gt, w.before _ s = true := fun w h => hts0 w (List.mem_cons_of_mem _ h)
  have hown : s.vm.findClass RJ0 = some m.cls := findClass_of_methodNamed B.named
  have hS : va_S A s.heap s.heap [] := va_S.rf
  have hl := lv_entry ([.ref q, .int i]) (n := 2) (Nat.le_of_ble_eq_true rfl)
  rw [lg_entry_eq]
  generalize (lg_sl ([.ref q, .int i]) ++ List.replicate (2 - (lg_sl ([.ref q, .int i])).length) Slot.unset).toArray = ls at hl ⊢
  obtain ⟨cellO, o1, o2, o3, o4⟩ := id hT.1
  refine lv_aload_n hx hb (k := 0) (i := 0) dJ0_charAt_5068e_0 rfl (lv_at hl 0 rfl) ?_
  have hcw1 : CallB (headSpec (mm_wJ yJ0_charAt_5068e cJ0_charAt_5068e 2 (some .char)) ({ frames := 3, cells := 0, slots := 0, locals := 64 })).room s _ RJ0 492 yJ0_isLatin1_aae02 cJ0_isLatin1_aae02 1 (some .boolean) (mm_wJ yJ0_isLatin1_aae02 cJ0_isLatin1_aae02 1 (some .boolean)) ({ frames := 0, cells := 0, slots := 0, locals := 0 }) 0 0 0 := callB_of 0 hts (mm_good (mm_mg (z := 451) (by decide +kernel) rfl)) rfl rfl rfl (mm_gw hts (z := 96) (by decide +kernel) rfl) (mm_gw hts (z := 448) (by decide +kernel) rfl) (by decide +kernel) ⟨Nat.le_of_ble_eq_true rfl, Nat.le_of_ble_eq_true rfl⟩
  refine vp_callSi (W.runV (C := RJ0) (As := []) (rest := []) ⟨hx, hb, hml, hown, hts⟩ (mm_lat l A q v) ⟨hcw1, mm_gw hts (z := 449) (by decide +kernel) rfl, mm_gw hts (z := 450) (by decide +kernel) rfl⟩ ⟨fun a U g mk z => ⟨z.1, mm_T.moved (u := U) (U := U.calling g mk a) (Vm.Alike.refl U.vm) z.2⟩, ⟨cellO, o1, o2, o3⟩, fun U hU hW => ⟨rfl, (show mm_T q v A U U.heap by rw [hU]; exact mm_T.moved hW.alike hT)⟩⟩ rfl rfl hl.1 rfl (lv_room (Nat.le_of_ble_eq_true rfl)) dJ0_charAt_5068e_1 ⟨Nat.le_of_ble_eq_true rfl, Nat.le_of_ble_eq_true rfl⟩) (fun r er => ?_)
  subst er
  refine lv_if_eq hx hb (tgt := 16) (off := 12) dJ0_charAt_5068e_4 (by decide) (fun z => absurd z (by decide)) (fun _ => ?_)
  refine lv_aload_n hx hb (k := 0) (i := 0) dJ0_charAt_5068e_7 rfl (lv_at hl 0 rfl) ?_
  refine vk_getf hx hb hT.2.2.1 hS hown (mm_gw hts (z := 1429) (w := .fieldLink RJ0 9 "java/lang/String" "value" "[B") (by decide +kernel) rfl) (fun _ h => h) dJ0_charAt_5068e_8 ?_
  refine lv_iload_n hx hb (k := 1) (i := 1) dJ0_charAt_5068e_11 rfl (lv_at hl 1 rfl) ?_
  have hcw2 : CallB (headSpec (mm_wJ yJ0_charAt_5068e cJ0_charAt_5068e 2 (some .char)) ({ frames := 3, cells := 0, slots := 0, locals := 64 })).room s _ RJ0 495 yJ1_charAt_3b067 cJ1_charAt_3b067 2 (some .char) (mm_wJ yJ1_charAt_3b067 cJ1_charAt_3b067 2 (some .char)) ({ frames := 2, cells := 0, slots := 0, locals := 43 }) 0 0 2 := callB_of 2 hts (mm_good (mm_mg (z := 456) (by decide +kernel) rfl)) rfl rfl rfl (mm_gw hts (z := 97) (by decide +kernel) rfl) (mm_gw hts (z := 454) (by decide +kernel) rfl) (by decide +kernel) ⟨Nat.le_of_ble_eq_true rfl, Nat.le_of_ble_eq_true rfl⟩
  refine vp_callSi (W.runS (As := [.ref v, .int i]) (rest := []) ⟨hx, hb, hml, hown, hts⟩ (mm_chrL l A q v i h0 h1) ⟨hcw2, mm_gw hts (z := 455) (by decide +kernel) rfl⟩ ⟨fun a U g mk z => ⟨z.1, mm_T.moved (u := U) (U := U.calling g mk a) (Vm.Alike.refl U.vm) z.2⟩, fun U hU hW => ⟨rfl, (show mm_T q v A U U.heap by rw [hU]; exact mm_T.moved hW.alike hT)⟩⟩ rfl rfl hl.1 rfl (lv_room (Nat.le_of_ble_eq_true rfl)) dJ0_charAt_5068e_12 ⟨Nat.le_of_ble_eq_true rfl, Nat.le_of_ble_eq_true rfl⟩) (fun r er => ?_)
  subst er
  have hi9 : i.toNatClampNeg < 9 := by
    have e0 := Int32.not_lt.mp h0
    have e1 := Int32.le_iff_toInt_le.mp e0
    have e2 := Int32.lt_iff_toInt_lt.mp h1
    have e3 : (0 : Int32).toInt = 0 := by decide
    have e4 : (9 : Int32).toInt = 9 := by decide
    rw [e3] at e1
    rw [e4] at e2
    show i.toInt.toNat < 9
    omega
  have hval : narrow .char (.int (nI (mm_tx.getD i.toNatClampNeg 0))) = .int (nI (mm_tx.getD i.toNatClampNeg 0)) := by
    generalize i.toNatClampNeg = k at hi9
    have h9 : ∀ k, k < 9 → narrow .char (.int (nI (mm_tx.getD k 0))) = .int (nI (mm_tx.getD k 0)) := by decide +kernel
    exact h9 k hi9
  exact W.zret (v := nI (mm_tx.getD i.toNatClampNeg 0)) hx hb hr hval (fun t ht _ => ⟨_, rfl, rfl, ht⟩) (fun q h => absurd h List.not_mem_nil) dJ0_charAt_5068e_15
