/-! DIGEST -/
def Hs (f : Nat → Int32) (h : Int64) : Nat → Int64
  | 0 => h
  | n + 1 => lN 31 * Hs f h n + (f n).toInt64
def Hp (f g : Nat → Int32) (h : Int64) : Nat → Int64
  | 0 => h
  | n + 1 => lN 31 * (lN 31 * Hp f g h n + (f n).toInt64) + (g n).toInt64
noncomputable def hBl (T : TX) (D : DM) (blk : Nat) (h : Int64) : Int64 := Hs (aBlk T D blk) (Hp (aSym T blk) (aMnd T D blk) h 14) 3
noncomputable def hBs (T : TX) (D : DM) (h : Int64) : Nat → Int64
  | 0 => h
  | k + 1 => hBl T D k (hBs T D h k)
def mi (k : Nat) : Nat := if k = 0 then 4 else k - 1
noncomputable def hDs (T : TX) (h : Int64) : Nat → Int64
  | 0 => h
  | k + 1 => Hs (aDots T (mi k)) (hDs T h k) 15
def toO (k : Nat) : Option Nat := if k = 0 then none else some (k - 1)
noncomputable def d1 (T : TX) (D : DM) (F : Int32) : Int64 := Hs (aMark T) (lN 31 * Hs (aCnt T D F) (lN 17) 8 + (oI (fau T)).toInt64) 4
noncomputable def d2 (T : TX) (D : DM) (h : Int64) : Int64 := hBs T D h 3
noncomputable def d3 (T : TX) (D : DM) (h : Int64) : Int64 := Hs (aSeen T D) (Hs (aPen T) (hDs T h 5) 4) 225
noncomputable def d4 (T : TX) (D : DM) (h : Int64) : Int64 := Hs (aStr T D) (Hs (aFmt T D) (Hs (fun k => aTold T D (toO k)) (lN 31 * h + (nI (aWhy T D)).toInt64) 15) 2) 2
theorem nI_32 (k : Nat) : nI (4294967295 + (k + 1)) = nI k := by
  rw [show 4294967295 + (k + 1) = 4294967296 + k by omega, ← nI_add, show nI 4294967296 = nI 0 by decide, nI_add, Nat.zero_add]
theorem nI_mi (k : Nat) (hk : k < 5) : nI (4294967295 + k) = wI (mi k) := by
  cases k with
  | zero => rfl
  | succ k => rw [nI_32]; unfold mi; rw [if_neg (by omega), Nat.add_sub_cancel, wI_lt (by omega)]
theorem nI_to (k : Nat) : nI (4294967295 + k) = oI (toO k) := by
  cases k with
  | zero => rfl
  | succ k => rw [nI_32]; unfold toO; rw [if_neg (by omega), Nat.add_sub_cancel]; rfl
theorem no_le {n k : Nat} (hk : k < n + 1) (hn : n < 2 ^ 31) (h0 : 0 < n) : ¬ nI n ≤ nI (4294967295 + k) := by
  cases k with
  | zero =>
    intro q
    rw [Int32.le_iff_toInt_le, nI_toInt hn, show (nI (4294967295 + 0)).toInt = -1 by decide] at q
    omega
  | succ k => rw [nI_32]; exact nI_ge (by omega) hn
section DIGC
variable {X : Nat × (Nat → Int32)} {iv : IV} {T : TX} {D : DM} {S : SH} {F : Int32} {P : Int64 → IV → Prop}
theorem sp_withBlocks {h : Int64} (hM : CM iv T) (hR : CRy iv T D) (p : P (d2 T D h) iv) : wc X 95 [.ref 1, .long h] iv (Rl P) := by
  refine mk_X10_withBlocks ?_
  refine ldn (W := fun k => wp X (0, 0) 95 4 [some (.ref 1), some (.long h), none, some (.long (hBs T D h k)), none, some (.int (nI k)), none] [] iv (Rl P)) 3 ?_ ?_
  · exact mk_X10_withBlocks_4 ⟨fun _ => p, fun z => absurd (nI_le (Nat.le_refl 3) (by decide)) z⟩
  · intro k hk nx
    refine mk_X10_withBlocks_4 ⟨fun z => absurd z (nI_ge hk (by decide)), fun _ => ?_⟩
    refine ldn (W := fun q => wp X (0, 0) 95 9 [some (.ref 1), some (.long h), none, some (.long (Hp (aSym T k) (aMnd T D k) (hBs T D h k) q)), none, some (.int (nI k)), some (.int (nI q))] [] iv (Rl P)) 14 ?_ ?_
    · refine mk_X10_withBlocks_9 ⟨fun _ => ?_, fun z => absurd (nI_le (Nat.le_refl 14) (by decide)) z⟩
      refine ldn (W := fun w => wp X (0, 0) 95 36 [some (.ref 1), some (.long h), none, some (.long (Hs (aBlk T D k) (Hp (aSym T k) (aMnd T D k) (hBs T D h k) 14) w)), none, some (.int (nI k)), some (.int (nI w))] [] iv (Rl P)) 3 ?_ ?_
      · refine mk_X10_withBlocks_36 ⟨fun _ => ?_, fun z => absurd (nI_le (Nat.le_refl 3) (by decide)) z⟩
        rw [nI_add]
        exact nx
      · intro w hw nw
        refine mk_X10_withBlocks_36 ⟨fun z => absurd z (nI_ge hw (by decide)), fun _ => sp_blockNow hk hw hR (fun v3 h3 => ?_)⟩
        rw [h3, nI_add]
        exact nw
    · intro q hq nq
      refine mk_X10_withBlocks_9 ⟨fun z => absurd z (nI_ge hq (by decide)), fun _ => sp_symbolNow hk hq hM (fun v3 h3 => sp_mendedNow hk hq hR (fun v6 h6 => ?_))⟩
      rw [h6, h3, nI_add]
      exact nq
theorem sp_withSquares {h : Int64} (hM : CM iv T) (hd : CDr iv D) (p : P (d3 T D h) iv) : wc X 96 [.ref 1, .long h] iv (Rl P) := by
  refine mk_X10_withSquares ?_
  refine ldn (W := fun k => wp X (0, 0) 96 4 [some (.ref 1), some (.long h), none, some (.long (hDs T h k)), none, some (.int (nI (4294967295 + k))), none] [] iv (Rl P)) 5 ?_ ?_
  · refine mk_X10_withSquares_4 ⟨fun _ => ?_, fun z => absurd (by decide) z⟩
    refine ldn (W := fun w => wp X (0, 0) 96 28 [some (.ref 1), some (.long h), none, some (.long (Hs (aPen T) (hDs T h 5) w)), none, some (.int (nI w)), none] [] iv (Rl P)) 4 ?_ ?_
    · refine mk_X10_withSquares_28 ⟨fun _ => ?_, fun z => absurd (nI_le (Nat.le_refl 4) (by decide)) z⟩
      refine ldn (W := fun r => wp X (0, 0) 96 44 [some (.ref 1), some (.long h), none, some (.long (Hs (aSeen T D) (Hs (aPen T) (hDs T h 5) 4) (15 * r))), none, some (.int (nI r)), none] [] iv (Rl P)) 15 ?_ ?_
      · exact mk_X10_withSquares_44 ⟨fun _ => p, fun z => absurd (nI_le (Nat.le_refl 15) (by decide)) z⟩
      · intro r hr nr
        refine mk_X10_withSquares_44 ⟨fun z => absurd z (nI_ge hr (by decide)), fun _ => ?_⟩
        refine ldn (W := fun c => wp X (0, 0) 96 49 [some (.ref 1), some (.long h), none, some (.long (Hs (aSeen T D) (Hs (aPen T) (hDs T h 5) 4) (15 * r + c))), none, some (.int (nI r)), some (.int (nI c))] [] iv (Rl P)) 15 ?_ ?_
        · refine mk_X10_withSquares_49 ⟨fun _ => ?_, fun z => absurd (nI_le (Nat.le_refl 15) (by decide)) z⟩
          rw [nI_add]
          exact nr
        · intro c hc nc
          refine mk_X10_withSquares_49 ⟨fun z => absurd z (nI_ge hc (by decide)), fun _ => sp_seenNow hr hc hM hd (fun v3 h3 => ?_)⟩
          rw [h3, nI_add]
          exact nc
    · intro w hw nw
      refine mk_X10_withSquares_28 ⟨fun z => absurd z (nI_ge hw (by decide)), fun _ => sp_penaltyNow hw hM (fun v3 h3 => ?_)⟩
      rw [h3, nI_add]
      exact nw
  · intro k hk nx
    refine mk_X10_withSquares_4 ⟨fun z => absurd z (no_le hk (by decide) (by decide)), fun _ => ?_⟩
    refine ldn (W := fun r => wp X (0, 0) 96 9 [some (.ref 1), some (.long h), none, some (.long (Hs (aDots T (mi k)) (hDs T h k) r)), none, some (.int (nI (4294967295 + k))), some (.int (nI r))] [] iv (Rl P)) 15 ?_ ?_
    · refine mk_X10_withSquares_9 ⟨fun _ => ?_, fun z => absurd (nI_le (Nat.le_refl 15) (by decide)) z⟩
      rw [nI_add, show 4294967295 + k + 1 = 4294967295 + (k + 1) by omega]
      exact nx
    · intro r hr nr
      refine mk_X10_withSquares_9 ⟨fun z => absurd z (nI_ge hr (by decide)), fun _ => ?_⟩
      rw [nI_mi k hk] at nr ⊢
      refine sp_dotsNow (by unfold mi; split <;> omega) hr hM (fun v3 h3 => ?_)
      rw [h3, nI_add]
      exact nr
theorem sp_withReading {h : Int64} (hR : CRy iv T D) (h48 : iv 48 0 = oI (strX T D)) (p : P (d4 T D h) iv) : wc X 97 [.ref 1, .long h] iv (Rl P) := by
  refine mk_X10_withReading (fun v1 h1 => ?_)
  rw [hR.1] at h1
  subst h1
  refine ldn (W := fun k => wp X (0, 0) 97 11 [some (.ref 1), some (.long h), none, some (.long (Hs (fun k => aTold T D (toO k)) (lN 31 * h + (nI (aWhy T D)).toInt64) k)), none, some (.int (nI (4294967295 + k)))] [] iv (Rl P)) 15 ?_ ?_
  · refine mk_X10_withReading_11 ⟨fun _ => ?_, fun z => absurd (by decide) z⟩
    refine ldn (W := fun w => wp X (0, 0) 97 27 [some (.ref 1), some (.long h), none, some (.long (Hs (aFmt T D) (Hs (fun k => aTold T D (toO k)) (lN 31 * h + (nI (aWhy T D)).toInt64) 15) w)), none, some (.int (nI w))] [] iv (Rl P)) 2 ?_ ?_
    · refine mk_X10_withReading_27 ⟨fun _ => ?_, fun z => absurd (nI_le (Nat.le_refl 2) (by decide)) z⟩
      refine ldn (W := fun w => wp X (0, 0) 97 43 [some (.ref 1), some (.long h), none, some (.long (Hs (aStr T D) (Hs (aFmt T D) (Hs (fun k => aTold T D (toO k)) (lN 31 * h + (nI (aWhy T D)).toInt64) 15) 2) w)), none, some (.int (nI w))] [] iv (Rl P)) 2 ?_ ?_
      · exact mk_X10_withReading_43 ⟨fun _ => p, fun z => absurd (nI_le (Nat.le_refl 2) (by decide)) z⟩
      · intro w hw nw
        refine mk_X10_withReading_43 ⟨fun z => absurd z (nI_ge hw (by decide)), fun _ => sp_strawNowC hw h48 (fun v3 h3 => ?_)⟩
        rw [h3, nI_add]
        exact nw
    · intro w hw nw
      refine mk_X10_withReading_27 ⟨fun z => absurd z (nI_ge hw (by decide)), fun _ => sp_formatNowC hw hR (fun v3 h3 => ?_)⟩
      rw [h3, nI_add]
      exact nw
  · intro k hk nx
    refine mk_X10_withReading_11 ⟨fun z => absurd z (no_le hk (by decide) (by decide)), fun _ => ?_⟩
    rw [nI_add, show 4294967295 + k + 1 = 4294967295 + (k + 1) by omega]
    rw [nI_to k]
    refine sp_toldNow (fun i hi => ?_) hR (fun v3 h3 => ?_)
    · unfold toO at hi
      split at hi
      · cases hi
      · cases hi; omega
    · rw [h3]
      exact nx
theorem sp_digestC (hC : CI iv T D S F) (h : ∀ iv', (∀ a, 74 ≤ a → iv' a = iv a) → CI iv' T D S F → P (d4 T D (d3 T D (d2 T D (d1 T D F)))) iv') : wc X 94 [.ref 1] iv (Rl P) := by
  refine mk_X10_digest (sp_bringI (by decide) hC (fun iv1 a1 c1 s1 => ?_))
  have M1 := CSt_M s1 (by decide)
  have R1 := CSt_R s1 (by decide)
  have p := h iv1 a1 c1
  refine ldn (W := fun k => wp X (0, 0) 94 7 [some (.ref 1), some (.long (Hs (aCnt T D F) (lN 17) k)), none, some (.int (nI k))] [] iv1 (Rl P)) 8 ?_ ?_
  · refine mk_X10_digest_7 ⟨fun _ => sp_faultC c1.1 (fun v3 h3 => ?_), fun z => absurd (nI_le (Nat.le_refl 8) (by decide)) z⟩
    subst h3
    refine ldn (W := fun w => wp X (0, 0) 94 32 [some (.ref 1), some (.long (Hs (aMark T) (lN 31 * Hs (aCnt T D F) (lN 17) 8 + (oI (fau T)).toInt64) w)), none, some (.int (nI w))] [] iv1 (Rl P)) 4 ?_ ?_
    · exact mk_X10_digest_32 ⟨fun _ => sp_withBlocks M1 R1 (sp_withSquares M1 c1.2.2.2.1.1 (sp_withReading R1 (CSt_S s1 (by decide)) p)), fun z => absurd (nI_le (Nat.le_refl 4) (by decide)) z⟩
    · intro w hw nw
      refine mk_X10_digest_32 ⟨fun z => absurd z (nI_ge hw (by decide)), fun _ => sp_markNow hw M1 (fun v9 h9 => ?_)⟩
      rw [h9, nI_add]
      exact nw
  · intro k hk nx
    refine mk_X10_digest_7 ⟨fun z => absurd z (nI_ge hk (by decide)), fun _ => sp_countNow (by omega) c1 M1 (fun _ => R1.1) (fun v6 h6 => ?_)⟩
    rw [h6, nI_add]
    exact nx
theorem sp_tells {h : Int64} {blk : Nat} (hb : blk < 3) (hK : MK iv T) (hR : RMx iv T D) (p : P (hBl T D blk h) iv) : wc X 218 [.ref 74, .long h, .int (nI blk)] iv (Rl P) := by
  refine mk_X11_tellsBlock ?_
  refine ldn (W := fun q => wp X (0, 0) 218 4 [some (.ref 74), some (.long h), none, some (.int (nI blk)), some (.long (Hp (aSym T blk) (aMnd T D blk) h q)), none, some (.int (nI q))] [] iv (Rl P)) 14 ?_ ?_
  · refine mk_X11_tellsBlock_4 ⟨fun _ => ?_, fun z => absurd (nI_le (Nat.le_refl 14) (by decide)) z⟩
    refine ldn (W := fun w => wp X (0, 0) 218 31 [some (.ref 74), some (.long h), none, some (.int (nI blk)), some (.long (Hs (aBlk T D blk) (Hp (aSym T blk) (aMnd T D blk) h 14) w)), none, some (.int (nI w))] [] iv (Rl P)) 3 ?_ ?_
    · exact mk_X11_tellsBlock_31 ⟨fun _ => p, fun z => absurd (nI_le (Nat.le_refl 3) (by decide)) z⟩
    · intro w hw nw
      refine mk_X11_tellsBlock_31 ⟨fun z => absurd z (nI_ge hw (by decide)), fun _ => sp_blockBy hb hw hR (fun v3 h3 => ?_)⟩
      rw [h3, nI_add]
      exact nw
  · intro q hq nq
    refine mk_X11_tellsBlock_4 ⟨fun z => absurd z (nI_ge hq (by decide)), fun _ => sp_symbolBy hb hq hK (fun v3 h3 => sp_mendedBy hb hq hR (fun v6 h6 => ?_))⟩
    rw [h6, h3, nI_add]
    exact nq
set_option maxHeartbeats 1000000 in
theorem sp_digestM (hM : MI iv T D S F) (h : ∀ iv', (∀ a, a < 74 → iv' a = iv a) → MI iv' T D S F → P (d4 T D (d3 T D (d2 T D (d1 T D F)))) iv') : wc X 219 [.ref 74] iv (Rl P) := by
  refine mk_X11_digest ?_
  refine lup (τ := IV) (W := fun k iv1 => wp X (0, 0) 219 4 [some (.ref 74), some (.long (Hs (aCnt T D F) (lN 17) k)), none, some (.int (nI k)), none] [] iv1 (Rl P)) (I := fun k iv1 => (∀ a, a < 74 → iv1 a = iv a) ∧ MI iv1 T D S F ∧ (0 < k → MK iv1 T ∧ RMx iv1 T D)) 8 ?_ ?_ 8 0 iv rfl ⟨fun _ _ => rfl, hM, fun q => absurd q (by decide)⟩
  · rintro iv1 ⟨a1, m1, kr⟩
    obtain ⟨k1, r1⟩ := kr (by decide)
    refine mk_X11_digest_4 ⟨fun _ => sp_faultM m1.1 (fun v3 h3 => ?_), fun z => absurd (nI_le (Nat.le_refl 8) (by decide)) z⟩
    subst h3
    refine ldn (W := fun w => wp X (0, 0) 219 28 [some (.ref 74), some (.long (Hs (aMark T) (lN 31 * Hs (aCnt T D F) (lN 17) 8 + (oI (fau T)).toInt64) w)), none, some (.int (nI w)), none] [] iv1 (Rl P)) 4 ?_ ?_
    · refine mk_X11_digest_28 ⟨fun _ => ?_, fun z => absurd (nI_le (Nat.le_refl 4) (by decide)) z⟩
      show wp X (0, 0) 219 44 [some (.ref 74), some (.long (d1 T D F)), none, some (.int (nI 0)), none] [] iv1 (Rl P)
      generalize d1 T D F = h0 at h ⊢
      refine ldn (W := fun k => wp X (0, 0) 219 44 [some (.ref 74), some (.long (hBs T D h0 k)), none, some (.int (nI k)), none] [] iv1 (Rl P)) 3 ?_ ?_
      · refine mk_X11_digest_44 ⟨fun _ => ?_, fun z => absurd (nI_le (Nat.le_refl 3) (by decide)) z⟩
        show wp X (0, 0) 219 56 [some (.ref 74), some (.long (d2 T D h0)), none, some (.int (nI 4294967295)), none] [] iv1 (Rl P)
        generalize d2 T D h0 = h2 at h ⊢
        refine ldn (W := fun k => wp X (0, 0) 219 56 [some (.ref 74), some (.long (hDs T h2 k)), none, some (.int (nI (4294967295 + k))), none] [] iv1 (Rl P)) 5 ?_ ?_
        · refine mk_X11_digest_56 ⟨fun _ => ?_, fun z => absurd (by decide) z⟩
          refine ldn (W := fun w => wp X (0, 0) 219 80 [some (.ref 74), some (.long (Hs (aPen T) (hDs T h2 5) w)), none, some (.int (nI w)), none] [] iv1 (Rl P)) 4 ?_ ?_
          · refine mk_X11_digest_80 ⟨fun _ => ?_, fun z => absurd (nI_le (Nat.le_refl 4) (by decide)) z⟩
            refine ldn (W := fun i => wp X (0, 0) 219 96 [some (.ref 74), some (.long (Hs (aSeen T D) (Hs (aPen T) (hDs T h2 5) 4) i)), none, some (.int (nI i)), none] [] iv1 (Rl P)) 225 ?_ ?_
            · refine mk_X11_digest_96 ⟨fun _ v1 hv1 => ?_, fun z => absurd (nI_le (Nat.le_refl 225) (by decide)) z⟩
              rw [r1.1] at hv1
              subst hv1
              show wp X (0, 0) 219 125 [some (.ref 74), some (.long (lN 31 * d3 T D h2 + (nI (aWhy T D)).toInt64)), none, some (.int (nI 4294967295)), none] [] iv1 (Rl P)
              generalize d3 T D h2 = h3 at h ⊢
              refine ldn (W := fun k => wp X (0, 0) 219 125 [some (.ref 74), some (.long (Hs (fun k => aTold T D (toO k)) (lN 31 * h3 + (nI (aWhy T D)).toInt64) k)), none, some (.int (nI (4294967295 + k))), none] [] iv1 (Rl P)) 15 ?_ ?_
              · refine mk_X11_digest_125 ⟨fun _ => ?_, fun z => absurd (by decide) z⟩
                refine ldn (W := fun w => wp X (0, 0) 219 141 [some (.ref 74), some (.long (Hs (aFmt T D) (Hs (fun k => aTold T D (toO k)) (lN 31 * h3 + (nI (aWhy T D)).toInt64) 15) w)), none, some (.int (nI w)), none] [] iv1 (Rl P)) 2 ?_ ?_
                · refine mk_X11_digest_141 ⟨fun _ => sp_strawM m1 k1 r1 (fun iv2 f2 r2 => sp_lineOf (by decide) (fun v5 h5 => sp_lineOf (by decide) ?_)), fun z => absurd (nI_le (Nat.le_refl 2) (by decide)) z⟩
                  subst h5
                  exact h iv2 (fun a ha => by rw [f2.1 a (by omega) (by omega), a1 a ha]) (MI_r m1 f2)
                · intro w hw nw
                  refine mk_X11_digest_141 ⟨fun z => absurd z (nI_ge hw (by decide)), fun _ => sp_formatBy hw r1 (fun v3 h3' => ?_)⟩
                  rw [h3', nI_add]
                  exact nw
              · intro k hk nx
                refine mk_X11_digest_125 ⟨fun z => absurd z (no_le hk (by decide) (by decide)), fun _ => ?_⟩
                rw [nI_add, show 4294967295 + k + 1 = 4294967295 + (k + 1) by omega]
                rw [nI_to k]
                refine sp_toldBy (fun i hi => ?_) r1 (fun v3 h3' => ?_)
                · unfold toO at hi
                  split at hi
                  · cases hi
                  · cases hi; omega
                · rw [h3']
                  exact nx
            · intro i hi ni
              refine mk_X11_digest_96 ⟨fun z => absurd z (nI_ge hi (by decide)), fun _ => ?_⟩
              rw [k1.2.2.1]
              cases ht : th T with
              | true =>
                refine ⟨fun z => absurd z (by decide), fun _ => sp_seenM hi m1 k1 ht (fun v5 h5 => ?_)⟩
                rw [h5, nI_add]
                exact ni
              | false =>
                refine ⟨fun _ v2 hv2 => ?_, fun z => absurd rfl z⟩
                have e : aSeen T D i = nI 4294967293 := by unfold aSeen; rw [ht]; rfl
                rw [← e] at hv2
                rw [hv2, nI_add]
                exact ni
          · intro w hw nw
            refine mk_X11_digest_80 ⟨fun z => absurd z (nI_ge hw (by decide)), fun _ => sp_penaltyBy hw k1 (fun v3 h3 => ?_)⟩
            rw [h3, nI_add]
            exact nw
        · intro k hk nx
          refine mk_X11_digest_56 ⟨fun z => absurd z (no_le hk (by decide) (by decide)), fun _ => ?_⟩
          refine ldn (W := fun r => wp X (0, 0) 219 61 [some (.ref 74), some (.long (Hs (aDots T (mi k)) (hDs T h2 k) r)), none, some (.int (nI (4294967295 + k))), some (.int (nI r))] [] iv1 (Rl P)) 15 ?_ ?_
          · refine mk_X11_digest_61 ⟨fun _ => ?_, fun z => absurd (nI_le (Nat.le_refl 15) (by decide)) z⟩
            rw [nI_add, show 4294967295 + k + 1 = 4294967295 + (k + 1) by omega]
            exact nx
          · intro r hr nr
            refine mk_X11_digest_61 ⟨fun z => absurd z (nI_ge hr (by decide)), fun _ => ?_⟩
            rw [nI_mi k hk] at nr ⊢
            refine sp_dotsBy (by unfold mi; split <;> omega) hr k1 (fun v3 h3 => ?_)
            rw [h3, nI_add]
            exact nr
      · intro k hk nx
        refine mk_X11_digest_44 ⟨fun z => absurd z (nI_ge hk (by decide)), fun _ => sp_tells hk k1 r1 ?_⟩
        rw [nI_add]
        exact nx
    · intro w hw nw
      refine mk_X11_digest_28 ⟨fun z => absurd z (nI_ge hw (by decide)), fun _ => sp_markBy hw k1 (fun v3 h3 => ?_)⟩
      rw [h3, nI_add]
      exact nw
  · rintro k iv1 hk ⟨a1, m1, kr⟩ nx
    refine mk_X11_digest_4 ⟨fun z => absurd z (nI_ge hk (by decide)), fun _ => sp_countM (by omega) m1 (fun iv2 a2 m2 k2 r2 v6 h6 => ?_)⟩
    rw [h6, nI_add]
    exact nx iv2 ⟨fun a ha => by rw [a2 a ha, a1 a ha], m2, fun _ => ⟨k2, r2⟩⟩
theorem op_digest (h : INV iv) : ∀ Q : IV → Prop, (∀ iv', INV iv' → Q iv') → wc X 94 [.ref 1] iv (Rl (fun v iv1 => wc X 219 [.ref 74] iv1 (Rl (fun w iv2 => v = w ∧ Q iv2)))) := by
  intro Q hQ
  obtain ⟨T, D, S, F, hC, hM⟩ := h
  exact sp_digestC hC (fun iv1 a1 c1 => sp_digestM (MI_hi hM a1) (fun iv2 a2 m2 => ⟨rfl, hQ _ (INV_m c1 m2 a2)⟩))
end DIGC
