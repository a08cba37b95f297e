/-! WHAT THE CALLS ANSWER -/
noncomputable def fX (T : TX) (D : DM) : Option Nat := if th T then fmt (eT T D) D.2.1 else none
noncomputable def aWhy (T : TX) (D : DM) : Nat := if th T then why (eT T D) D.2.1 else 4
noncomputable def aMark (T : TX) (w : Nat) : Int32 := if w = 0 then nI (lv T) else if w = 1 then (if th T then nI (mkT T) else nI 4294967295) else if w = 2 then nI (12 - 2 * lv T) else (if th T then nI 0 else nI 1)
noncomputable def aSym (T : TX) (blk p : Nat) : Int32 := if th T then nI (sS T blk p).1 else nI 4294967295
noncomputable def aDots (T : TX) (w r : Nat) : Int32 := if th T then nI (rr (Dt T w) r) else nI 4294967293
noncomputable def aPen (T : TX) (w : Nat) : Int32 := if th T then nI (pnT T w) else nI 4294967293
noncomputable def aSeen (T : TX) (D : DM) (i : Nat) : Int32 := if th T then nI (eL (eT T D) D.2.1 i) else nI 4294967293
noncomputable def itR (T : TX) (D : DM) (f j : Nat) : Nat := (mR (eT T D) D.2.1 f (j % 3) (j / 3)).1
noncomputable def tdI (T : TX) (D : DM) (f : Nat) : Option Nat → Int32
  | none => nI (itR T D f 0)
  | some i => if i < itR T D f 0 then nI (16 * itR T D f (1 + 2 * i) + itR T D f (2 + 2 * i)) else nI 4294967295
noncomputable def aTold (T : TX) (D : DM) (o : Option Nat) : Int32 := match fX T D with
  | none => nI 4294967293
  | some f => if aWhy T D = 0 then tdI T D f o else nI 4294967293
noncomputable def aFmt (T : TX) (D : DM) (w : Nat) : Int32 := oI ((fX T D).map (fun f => if w = 0 then f / 4 else f % 4))
noncomputable def aBlk (T : TX) (D : DM) (blk w : Nat) : Int32 := match fX T D with
  | none => nI 4294967293
  | some f => if w = 0 then nI (ct (gg D.2.1 blk) 14) else if w = 1 ∨ mU (eT T D) D.2.1 f blk = 4294967295 then nI (mU (eT T D) D.2.1 f blk) else nI (2 + 2 * (f / 4) - (ct (gg D.2.1 blk) 14 + 2 * mU (eT T D) D.2.1 f blk))
noncomputable def aMnd (T : TX) (D : DM) (blk p : Nat) : Int32 := match fX T D with
  | none => nI 4294967293
  | some f => if mU (eT T D) D.2.1 f blk = 4294967295 then nI 4294967295 else nI (mR (eT T D) D.2.1 f blk p).1
noncomputable def aStr (T : TX) (D : DM) (w : Nat) : Int32 := oI ((strX T D).map (fun i => if w = 0 then i / 15 else i % 15))
noncomputable def aCnt (T : TX) (D : DM) (F : Int32) (w : Nat) : Int32 := if w = 0 then nI T.1 else if w = 1 then nI (lv T) else if w = 2 then (if th T then nI (mkT T) else nI 4294967295) else if w = 3 then nI (aWhy T D) else if w = 4 then nI (ct D.1 225) else if w = 5 then nI (ct D.2.1 225) else if w = 6 then nI D.2.2.length else if w = 7 then (if th T then nI (ct (Dt T (mkT T)) 225) else nI 0) else F
theorem fX_lt {T : TX} {D : DM} {f : Nat} (h : fX T D = some f) : f < 12 := by
  unfold fX at h
  split at h
  · exact fmt_lt h
  · cases h
theorem aWhy_le (T : TX) (D : DM) : aWhy T D ≤ 4 := by
  unfold aWhy
  split
  · have := why_le (eT T D) D.2.1; omega
  · decide
theorem aWhy_f {T : TX} {D : DM} {f : Nat} (h : fX T D = some f) : th T = true ∧ fmt (eT T D) D.2.1 = some f ∧ aWhy T D = whF (eT T D) D.2.1 f := by
  unfold fX at h
  cases ht : th T with
  | true =>
    rw [ht] at h
    refine ⟨rfl, h, ?_⟩
    unfold aWhy
    rw [ht]
    exact why_f h
  | false => rw [ht] at h; cases h
theorem aWhy_n {T : TX} {D : DM} (h : fX T D = none) : aWhy T D = 4 ∨ aWhy T D = 1 := by
  unfold fX at h
  unfold aWhy
  cases ht : th T with
  | true =>
    rw [ht] at h
    right
    have h : fmt (eT T D) D.2.1 = none := h
    show why (eT T D) D.2.1 = 1
    unfold why
    rw [h]
  | false => exact Or.inl rfl
theorem whF_14 (e lo : Nat → Bool) (f : Nat) : whF e lo f ≠ 4 ∧ whF e lo f ≠ 1 := by
  have h2 : ∀ k, wk (mU e lo f) k = 0 ∨ wk (mU e lo f) k = 2 := by
    intro k
    induction k with
    | zero => exact Or.inl rfl
    | succ k ih => rw [wk]; split; exact Or.inr rfl; exact ih
  unfold whF
  rcases h2 3 with q | q
  · rw [if_pos q]
    split <;> exact ⟨by decide, by decide⟩
  · rw [if_neg (by omega), q]
    exact ⟨by decide, by decide⟩
/-- the class's reading -/
def CRy (iv : IV) (T : TX) (D : DM) : Prop := iv 34 0 = nI (aWhy T D) ∧ iv 34 1 = oI (fX T D) ∧ ∀ f, fX T D = some f → ∀ blk, blk < 3 → iv (39 + 3 * blk) 2 = nI (rb (gg D.2.1 blk) 14) ∧ iv (39 + 3 * blk) 3 = nI (mU (eT T D) D.2.1 f blk) ∧ (mU (eT T D) D.2.1 f blk ≠ 4294967295 → ∀ p, p < 14 → iv (41 + 3 * blk) p = nI (mR (eT T D) D.2.1 f blk p).1)
theorem CRy_of {iv : IV} {T : TX} {D : DM} (h : CRx iv T D) : CRy iv T D := by
  unfold CRy aWhy fX
  cases ht : th T with
  | true =>
    obtain ⟨h0, h1, h2⟩ := h.1 ht
    refine ⟨h0, h1, fun f hf blk hb => ?_⟩
    obtain ⟨g, m⟩ := h2 f hf
    have e1 : 34 + 5 + 3 * blk = 39 + 3 * blk := by omega
    have e2 : 34 + 7 + 3 * blk = 41 + 3 * blk := by omega
    have m' := m blk hb
    have g' := (g blk hb).2
    rw [e1] at g' m'
    rw [e2] at m'
    exact ⟨g', m'.1, m'.2⟩
  | false =>
    obtain ⟨h0, h1⟩ := h.2 ht
    exact ⟨h0, h1, fun f hf => by cases hf⟩
section NOWC
variable {X : Nat × (Nat → Int32)} {iv : IV} {P : Int32 → IV → Prop} {T : TX} {D : DM}
theorem sp_markNow {w : Nat} (hw : w < 4) (hM : CM iv T) (p : P (aMark T w) iv) : wc X 98 [.ref 1, .int (nI w)] iv (Ri P) := by
  obtain ⟨c0, c1, c2, c3⟩ := hM
  have hl := lv_3 T
  have e2 : iv 21 2 = if th T then nI (mkT T) else nI 4294967295 := by
    cases ht : th T with
    | true => exact (c3 ht).1
    | false => exact (c2 ht).1
  refine mk_X10_markNow ?_
  rw [c0, c1, e2]
  unfold aMark at p
  have hc : w = 0 ∨ w = 1 ∨ w = 2 ∨ w = 3 := by omega
  rcases hc with rfl | rfl | rfl | rfl
  · exact ⟨fun _ => p, fun z => absurd rfl z⟩
  · exact ⟨fun z => absurd z (by decide), fun _ => ⟨fun _ => p, fun z => absurd rfl z⟩⟩
  · refine ⟨fun z => absurd z (by decide), fun _ => ⟨fun z => absurd z (by decide), fun _ => ⟨fun _ => mk_X10_itemsOf (mk_X10_checksOf ?_), fun z => absurd rfl z⟩⟩⟩
    rw [pk_mul, nI_add, pk_sub (by omega), show 14 - (2 + 2 * lv T) = 12 - 2 * lv T by omega]
    exact p
  · refine ⟨fun z => absurd z (by decide), fun _ => ⟨fun z => absurd z (by decide), fun _ => ⟨fun z => absurd z (by decide), fun _ => ?_⟩⟩⟩
    cases ht : th T with
    | true => rw [ht] at p; exact ⟨fun z => absurd z (by decide), fun _ => p⟩
    | false => rw [ht] at p; exact ⟨fun _ => p, fun z => absurd rfl z⟩
theorem sp_symbolNow {blk q : Nat} (hb : blk < 3) (hq : q < 14) (hM : CM iv T) (p : P (aSym T blk q) iv) : wc X 99 [.ref 1, .int (nI blk), .int (nI q)] iv (Ri P) := by
  obtain ⟨c0, c1, c2, c3⟩ := hM
  refine mk_X10_symbolNow ?_
  rw [c1]
  unfold aSym at p
  cases ht : th T with
  | true =>
    rw [ht] at p
    refine ⟨fun z => absurd z (by decide), fun _ => ⟨vp_in_nI hb (by decide), fun a1 h1 => ?_⟩⟩
    rw [nI_clamp (by omega), (k22 hb).1] at h1
    subst h1
    refine ⟨(k22 hb).2, vp_in_nI hq (by decide), ?_⟩
    rw [nI_clamp (by omega), (c3 ht).2.2.1 blk hb q hq]
    exact p
  | false => rw [ht] at p; exact ⟨fun _ => p, fun z => absurd rfl z⟩
theorem sp_dotsNow {w r : Nat} (hw : w < 5) (hr : r < 15) (hM : CM iv T) (p : P (aDots T w r) iv) : wc X 100 [.ref 1, .int (wI w), .int (nI r)] iv (Ri P) := by
  obtain ⟨c0, c1, c2, c3⟩ := hM
  refine mk_X10_dotsNow ?_
  rw [c1, nI_clamp (n := r) (by omega)]
  unfold aDots at p
  cases ht : th T with
  | true =>
    rw [ht] at p
    refine ⟨fun z => absurd z (by decide), fun _ => ?_⟩
    by_cases e : w = 4
    · subst e
      refine ⟨fun _ => ⟨vp_in_nI hr (by decide), ?_⟩, fun z => absurd rfl z⟩
      rw [(c3 ht).2.2.2.1 r hr]
      exact p
    · rw [wI_lt (by omega)]
      refine ⟨fun z => absurd z (m1_ne (by omega)), fun _ => ⟨vp_in_nI (by omega) (by decide), fun a1 h1 => ?_⟩⟩
      rw [nI_clamp (by omega), (k27 (w := w) (by omega)).1] at h1
      subst h1
      refine ⟨(k27 (w := w) (by omega)).2, vp_in_nI hr (by decide), ?_⟩
      rw [(c3 ht).2.2.2.2.1 w (by omega) r hr]
      exact p
  | false => rw [ht] at p; exact ⟨fun _ => p, fun z => absurd rfl z⟩
theorem sp_penaltyNow {w : Nat} (hw : w < 4) (hM : CM iv T) (p : P (aPen T w) iv) : wc X 101 [.ref 1, .int (nI w)] iv (Ri P) := by
  obtain ⟨c0, c1, c2, c3⟩ := hM
  refine mk_X10_penaltyNow ?_
  rw [c1, nI_clamp (by omega)]
  unfold aPen at p
  cases ht : th T with
  | true =>
    rw [ht] at p
    refine ⟨fun z => absurd z (by decide), fun _ => ⟨vp_in_nI hw (by decide), ?_⟩⟩
    rw [(c3 ht).2.2.2.2.2 w hw]
    exact p
  | false => rw [ht] at p; exact ⟨fun _ => p, fun z => absurd rfl z⟩
theorem sp_seenNow {r c : Nat} (hr : r < 15) (hc : c < 15) (hM : CM iv T) (hd : CDr iv D) (p : P (aSeen T D (15 * r + c)) iv) : wc X 102 [.ref 1, .int (nI r), .int (nI c)] iv (Ri P) := by
  obtain ⟨c0, c1, c2, c3⟩ := hM
  have hdr := hd r hr
  have b1 := rr_lt D.2.1 r
  refine mk_X10_seenNow ?_
  rw [c1, nI_clamp (by omega), hdr.2]
  unfold aSeen at p
  cases ht : th T with
  | true =>
    rw [ht] at p
    refine ⟨fun z => absurd z (by decide), fun _ => ⟨vp_in_nI hr (by decide), sp_bit (by omega) (by omega) ?_⟩⟩
    rw [rr_t hc]
    have p : P (nI (eL (eT T D) D.2.1 (15 * r + c))) iv := p
    unfold eL at p
    refine ⟨fun z => ?_, fun z => mk_X3_chosen ?_⟩
    · rw [bI_1] at z
      rw [z] at p
      exact p
    · rw [bI_1] at z
      have z' : D.2.1 (15 * r + c) = false := by simpa using z
      rw [z'] at p
      have hm := mkT_lt T
      rw [(c3 ht).1, nI_clamp (n := mkT T) (by omega)]
      refine ⟨fun z => absurd z (m1_ne (by omega)), fun _ => ⟨vp_in_nI hm (by decide), fun a1 h1 => ?_⟩⟩
      rw [(k27 hm).1] at h1
      subst h1
      rw [nI_clamp (by omega), (c3 ht).2.2.2.2.1 _ hm r hr, hdr.1, nI_xor, rr_xor]
      have b2 := rr_lt (fun i => xor (Dt T (mkT T) i) (D.1 i)) r
      refine ⟨(k27 hm).2, vp_in_nI hr (by decide), vp_in_nI hr (by decide), sp_bit (by omega) (by omega) ?_⟩
      rw [rr_t hc]
      exact p
  | false => rw [ht] at p; exact ⟨fun _ => p, fun z => absurd rfl z⟩
theorem sp_item {j f : Nat} (hj : j < 42) (hR : CRy iv T D) (hf : fX T D = some f) (hw : aWhy T D = 0) (p : P (nI (itR T D f j)) iv) : wc X 42 [.ref 34, .int (nI j)] iv (Ri P) := by
  have ro : RO 34 := Or.inl rfl
  obtain ⟨ht, hf', haw⟩ := aWhy_f hf
  rw [haw, whF_0] at hw
  have hb : j % 3 < 3 := by omega
  obtain ⟨-, -, m⟩ := hR.2.2 f hf _ hb
  obtain ⟨k1, k2, k3, k4, k5⟩ := ro_kb ro hb
  refine mk_X5_item rfl rfl ?_
  rw [pk_rem (by omega) (by decide) (by decide), pk_div (by omega) (by decide) (by decide), nI_clamp (by omega), nI_clamp (by omega)]
  refine ⟨vp_in_nI hb (by decide), fun a1 h1 => ?_⟩
  rw [ro_b ro hb] at h1
  subst h1
  rw [k3, show 34 + 7 + 3 * (j % 3) = 41 + 3 * (j % 3) by omega, m (hw.1 _ hb) _ (by omega)]
  refine ⟨k1, ?_, vp_in_nI (by omega) (by decide), p⟩
  rw [show 41 + 3 * (j % 3) = 34 + 7 + 3 * (j % 3) by omega]
  exact k5
theorem itR_lt (T : TX) (D : DM) (f j : Nat) : itR T D f j < 16 := (mR (eT T D) D.2.1 f (j % 3) (j / 3)).2
theorem itR_0 {f : Nat} (hf : fX T D = some f) (hw : aWhy T D = 0) : itR T D f 0 < 15 ∧ 1 + 2 * itR T D f 0 ≤ 3 * (12 - 2 * (f / 4)) := by
  obtain ⟨ht, hf', haw⟩ := aWhy_f hf
  rw [haw, whF_0] at hw
  have := of_decide_eq_false hw.2
  have h16 := itR_lt T D f 0
  have e : (mR (eT T D) D.2.1 f 0 0).1 = itR T D f 0 := rfl
  rw [e] at this
  omega
theorem sp_toldNow {o : Option Nat} (ho : ∀ i, o = some i → i < 14) (hR : CRy iv T D) (p : P (aTold T D o) iv) : wc X 103 [.ref 1, .int (oI o)] iv (Ri P) := by
  have hle := aWhy_le T D
  refine mk_X10_toldNow ?_
  rw [hR.1]
  unfold aTold at p
  cases hf : fX T D with
  | none =>
    rw [hf] at p
    have := aWhy_n hf
    exact ⟨fun z => absurd z (nI_ne0 (by omega) (by omega)), fun _ => p⟩
  | some f =>
    rw [hf] at p
    refine ⟨fun z => ?_, fun z => ?_⟩
    · have hw : aWhy T D = 0 := Classical.byContradiction fun q => nI_ne0 (by omega) (by omega) z
      have p : P (if aWhy T D = 0 then tdI T D f o else nI 4294967293) iv := p
      rw [if_pos hw] at p
      have h0 := itR_0 hf hw
      refine sp_item (by decide) hR hf hw ?_
      cases o with
      | none => exact ⟨fun _ => p, fun z => absurd rfl z⟩
      | some i =>
        have hi := ho i rfl
        have hfl := fX_lt hf
        refine ⟨fun z => absurd z (m1_ne (by omega)), fun _ => ?_⟩
        have p : P (if i < itR T D f 0 then nI (16 * itR T D f (1 + 2 * i) + itR T D f (2 + 2 * i)) else nI 4294967295) iv := p
        show (nI (itR T D f 0) ≤ nI i → _) ∧ (¬ nI (itR T D f 0) ≤ nI i → wc X 42 [.ref 34, .int (nI 1 + nI 2 * nI i)] iv (Ri (fun r4 iv3 => wc X 42 [.ref 34, .int (nI 2 + nI 2 * nI i)] iv3 (Ri (fun r6 iv5 => P (nI 16 * r4 + r6) iv5)))))
        rw [nI_leI (by omega) (by omega), pk_mul, nI_add, nI_add]
        refine ⟨fun z => ?_, fun z => sp_item (by omega) hR hf hw (sp_item (by omega) hR hf hw ?_)⟩
        · rw [if_neg (by omega)] at p; exact p
        · rw [pk_mul, nI_add]
          rw [if_pos (by omega)] at p; exact p
    · have hw : aWhy T D ≠ 0 := fun q => z (by rw [q]; rfl)
      have p : P (if aWhy T D = 0 then tdI T D f o else nI 4294967293) iv := p
      rw [if_neg hw] at p
      exact p
theorem sp_formatNowC {w : Nat} (hw : w < 2) (hR : CRy iv T D) (p : P (aFmt T D w) iv) : wc X 104 [.ref 1, .int (nI w)] iv (Ri P) := by
  refine mk_X10_formatNow (mk_X5_formatKnown rfl ?_)
  rw [hR.2.1]
  unfold aFmt at p
  cases hf : fX T D with
  | none => rw [hf] at p; exact ⟨fun _ => ⟨fun _ => p, fun z => absurd rfl z⟩, fun z => absurd rfl z⟩
  | some f =>
    have hfl := fX_lt hf
    rw [hf] at p
    refine ⟨fun z => absurd z (m1_ne (by omega)), fun _ => ⟨fun z => absurd z (by decide), fun _ => ?_⟩⟩
    have p : P (nI (if w = 0 then f / 4 else f % 4)) iv := p
    have hc : w = 0 ∨ w = 1 := by omega
    rcases hc with rfl | rfl
    · refine ⟨fun _ => mk_X5_level rfl ?_, fun z => absurd rfl z⟩
      rw [hR.2.1, hf, show oI (some f) = nI f from rfl, pk_div (by omega) (by decide) (by decide)]
      exact p
    · refine ⟨fun z => absurd z (by decide), fun _ => mk_X5_mask rfl ?_⟩
      rw [hR.2.1, hf, show oI (some f) = nI f from rfl, pk_rem (by omega) (by decide) (by decide)]
      exact p
theorem sp_blockNow {blk w : Nat} (hb : blk < 3) (hw : w < 3) (hR : CRy iv T D) (p : P (aBlk T D blk w) iv) : wc X 105 [.ref 1, .int (nI blk), .int (nI w)] iv (Ri P) := by
  have ro : RO 34 := Or.inl rfl
  refine mk_X10_blockNow (mk_X5_formatKnown rfl ?_)
  rw [hR.2.1]
  unfold aBlk at p
  cases hf : fX T D with
  | none => rw [hf] at p; exact ⟨fun _ => ⟨fun _ => p, fun z => absurd rfl z⟩, fun z => absurd rfl z⟩
  | some f =>
    have hfl := fX_lt hf
    obtain ⟨r2, r3, r4⟩ := hR.2.2 f hf blk hb
    rw [hf] at p
    refine ⟨fun z => absurd z (m1_ne (by omega)), fun _ => ⟨fun z => absurd z (by decide), fun _ => ⟨vp_in_nI hb (by decide), fun a3 h3 => ?_⟩⟩⟩
    rw [nI_clamp (by omega), show rvT 35 blk = 34 + 5 + 3 * blk from ro_b ro hb, show 34 + 5 + 3 * blk = 39 + 3 * blk by omega] at h3
    subst h3
    have k1 : kdT (39 + 3 * blk) = (10, 0) := by
      have := (ro_kb ro hb).1
      rw [show 34 + 5 + 3 * blk = 39 + 3 * blk by omega] at this
      exact this
    have bg := rb_lt (gg D.2.1 blk) 14
    have hct := ct_bound (gg D.2.1 blk) 14
    have p : P (if w = 0 then nI (ct (gg D.2.1 blk) 14) else if w = 1 ∨ mU (eT T D) D.2.1 f blk = 4294967295 then nI (mU (eT T D) D.2.1 f blk) else nI (2 + 2 * (f / 4) - (ct (gg D.2.1 blk) 14 + 2 * mU (eT T D) D.2.1 f blk))) iv := p
    rw [r2, r3]
    by_cases hu : mU (eT T D) D.2.1 f blk = 4294967295
    · have hc : w = 0 ∨ w ≠ 0 := by omega
      rcases hc with rfl | hc
      · refine ⟨fun _ => ⟨k1, sp_bitCount (by omega) ?_⟩, fun z => absurd rfl z⟩
        rw [rb_ct _ 14 (by decide)]
        exact p
      · rw [if_neg hc, if_pos (Or.inr hu), hu] at p
        rw [hu]
        exact ⟨fun z => absurd z (nI_ne0 (by omega) (by omega)), fun _ => ⟨k1, fun _ => p, fun z => absurd rfl z⟩⟩
    · have hul := mU_lt hfl hu
      have hule : ct (gg D.2.1 blk) 14 + 2 * mU (eT T D) D.2.1 f blk ≤ 2 + 2 * (f / 4) := mu_le hu
      have hc : w = 0 ∨ w = 1 ∨ w = 2 := by omega
      rcases hc with rfl | rfl | rfl
      · refine ⟨fun _ => ⟨k1, sp_bitCount (by omega) ?_⟩, fun z => absurd rfl z⟩
        rw [rb_ct _ 14 (by decide)]
        exact p
      · rw [if_neg (by decide), if_pos (Or.inl rfl)] at p
        exact ⟨fun z => absurd z (by decide), fun _ => ⟨k1, fun z => absurd z (m1_ne (by omega)), fun _ => ⟨fun _ => ⟨k1, p⟩, fun z => absurd rfl z⟩⟩⟩
      · rw [if_neg (by decide), if_neg (fun q => by rcases q with q | q; exact absurd q (by decide); exact hu q)] at p
        refine ⟨fun z => absurd z (by decide), fun _ => ⟨k1, fun z => absurd z (m1_ne (by omega)), fun _ => ⟨fun z => absurd z (by decide), fun _ => mk_X5_level rfl (mk_X10_checksOf ⟨k1, k1, mk_X0_cost k1 ?_⟩)⟩⟩⟩
        rw [r2, r3, hR.2.1, hf, show oI (some f) = nI f from rfl]
        refine sp_bitCount (by omega) ?_
        rw [rb_ct _ 14 (by decide), pk_div (by omega) (by decide) (by decide), pk_mul, pk_mul, nI_add, nI_add, pk_sub hule]
        exact p
theorem sp_mendedNow {blk q : Nat} (hb : blk < 3) (hq : q < 14) (hR : CRy iv T D) (p : P (aMnd T D blk q) iv) : wc X 106 [.ref 1, .int (nI blk), .int (nI q)] iv (Ri P) := by
  have ro : RO 34 := Or.inl rfl
  refine mk_X10_mendedNow (mk_X5_formatKnown rfl ?_)
  rw [hR.2.1]
  unfold aMnd at p
  cases hf : fX T D with
  | none => rw [hf] at p; exact ⟨fun _ => ⟨fun _ => p, fun z => absurd rfl z⟩, fun z => absurd rfl z⟩
  | some f =>
    have hfl := fX_lt hf
    obtain ⟨r2, r3, r4⟩ := hR.2.2 f hf blk hb
    rw [hf] at p
    refine ⟨fun z => absurd z (m1_ne (by omega)), fun _ => ⟨fun z => absurd z (by decide), fun _ => ⟨vp_in_nI hb (by decide), fun a3 h3 => ?_⟩⟩⟩
    rw [nI_clamp (by omega), show rvT 35 blk = 34 + 5 + 3 * blk from ro_b ro hb, show 34 + 5 + 3 * blk = 39 + 3 * blk by omega] at h3
    subst h3
    obtain ⟨k1, k2, k3, k4, k5⟩ := ro_kb ro hb
    rw [show 34 + 5 + 3 * blk = 39 + 3 * blk by omega] at k1 k3
    rw [show 34 + 7 + 3 * blk = 41 + 3 * blk by omega] at k3 k5
    have p : P (if mU (eT T D) D.2.1 f blk = 4294967295 then nI 4294967295 else nI (mR (eT T D) D.2.1 f blk q).1) iv := p
    rw [r3, k3, nI_clamp (by omega)]
    by_cases hu : mU (eT T D) D.2.1 f blk = 4294967295
    · rw [if_pos hu] at p
      rw [hu]
      exact ⟨k1, fun _ => p, fun z => absurd rfl z⟩
    · have hul := mU_lt hfl hu
      rw [if_neg hu] at p
      rw [r4 hu q hq]
      exact ⟨k1, fun z => absurd z (m1_ne (by omega)), fun _ => ⟨k1, k5, vp_in_nI hq (by decide), p⟩⟩
theorem strX_lt {i : Nat} (h : strX T D = some i) : i < 225 := by
  unfold strX str at h
  split at h
  · split at h
    · exact stk_lt _ _ 225 i h
    · cases h
  · cases h
theorem sp_strawNowC {w : Nat} (hw : w < 2) (h48 : iv 48 0 = oI (strX T D)) (p : P (aStr T D w) iv) : wc X 107 [.ref 1, .int (nI w)] iv (Ri P) := by
  refine mk_X10_strawNow ?_
  rw [h48]
  unfold aStr at p
  cases hs : strX T D with
  | none => rw [hs] at p; exact ⟨fun _ => p, fun z => absurd rfl z⟩
  | some i =>
    have hi := strX_lt hs
    rw [hs] at p
    have p : P (nI (if w = 0 then i / 15 else i % 15)) iv := p
    refine ⟨fun z => absurd z (m1_ne (by omega)), fun _ => ?_⟩
    show (nI w = 0 → P (nI i / nI 15) iv) ∧ (¬ nI w = 0 → P (nI i - nI i / nI 15 * nI 15) iv)
    rw [pk_rem (by omega) (by decide) (by decide), pk_div (by omega) (by decide) (by decide)]
    have hc : w = 0 ∨ w = 1 := by omega
    rcases hc with rfl | rfl
    · exact ⟨fun _ => p, fun z => absurd rfl z⟩
    · exact ⟨fun z => absurd z (by decide), fun _ => p⟩
theorem nI_ne {a b : Nat} (ha : a < 2 ^ 31) (hb : b < 2 ^ 31) (h : a ≠ b) : nI a ≠ nI b := fun q => h ((nI_eq ha hb).mp q)
theorem sp_countNow {S : SH} {F : Int32} {w : Nat} (hw : w < 9) (hC : CI iv T D S F) (hM : CM iv T) (h34 : w = 3 → iv 34 0 = nI (aWhy T D)) (p : P (aCnt T D F w) iv) : wc X 108 [.ref 1, .int (nI w)] iv (Ri P) := by
  obtain ⟨c0, c1, c2, c3⟩ := hM
  have e2 : iv 21 2 = if th T then nI (mkT T) else nI 4294967295 := by
    cases ht : th T with
    | true => exact (c3 ht).1
    | false => exact (c2 ht).1
  have e3 : iv 21 3 = if th T then nI (ct (Dt T (mkT T)) 225) else nI 0 := by
    cases ht : th T with
    | true => exact (c3 ht).2.1
    | false => exact (c2 ht).2
  refine mk_X10_countNow ?_
  rw [hC.1.2.2.1, c0, e2, e3, hC.2.2.2.1.2.1, hC.2.2.2.2.2.1]
  unfold aCnt at p
  have ne : ∀ a b : Nat, a < 9 → b < 9 → a ≠ b → nI a ≠ nI b := fun a b ha hb => nI_ne (by omega) (by omega)
  have hin : ∀ a : Nat, a < 8 → vp_in (nI a) 8 := fun a ha => vp_in_nI ha (by decide)
  have hc : w = 0 ∨ w = 1 ∨ w = 2 ∨ w = 3 ∨ w = 4 ∨ w = 5 ∨ w = 6 ∨ w = 7 ∨ w = 8 := by omega
  rcases hc with rfl | rfl | rfl | rfl | rfl | rfl | rfl | rfl | rfl
  · exact ⟨fun _ => p, fun q => absurd q (by decide), fun q => absurd q (by decide), fun q => absurd q (by decide), fun q => absurd q (by decide), fun q => absurd q (by decide), fun q => absurd q (by decide), fun q => absurd q (by decide), fun q => absurd (hin 0 (by decide)) q⟩
  · exact ⟨fun q => absurd q (by decide), fun _ => p, fun q => absurd q (by decide), fun q => absurd q (by decide), fun q => absurd q (by decide), fun q => absurd q (by decide), fun q => absurd q (by decide), fun q => absurd q (by decide), fun q => absurd (hin 1 (by decide)) q⟩
  · exact ⟨fun q => absurd q (by decide), fun q => absurd q (by decide), fun _ => p, fun q => absurd q (by decide), fun q => absurd q (by decide), fun q => absurd q (by decide), fun q => absurd q (by decide), fun q => absurd q (by decide), fun q => absurd (hin 2 (by decide)) q⟩
  · rw [h34 rfl]
    exact ⟨fun q => absurd q (by decide), fun q => absurd q (by decide), fun q => absurd q (by decide), fun _ => p, fun q => absurd q (by decide), fun q => absurd q (by decide), fun q => absurd q (by decide), fun q => absurd q (by decide), fun q => absurd (hin 3 (by decide)) q⟩
  · exact ⟨fun q => absurd q (by decide), fun q => absurd q (by decide), fun q => absurd q (by decide), fun q => absurd q (by decide), fun _ => sp_dotsIn (D := D.1) rfl (fun r hr => (hC.2.2.2.1.1 r hr).1) p, fun q => absurd q (by decide), fun q => absurd q (by decide), fun q => absurd q (by decide), fun q => absurd (hin 4 (by decide)) q⟩
  · exact ⟨fun q => absurd q (by decide), fun q => absurd q (by decide), fun q => absurd q (by decide), fun q => absurd q (by decide), fun q => absurd q (by decide), fun _ => sp_dotsIn (D := D.2.1) rfl (fun r hr => (hC.2.2.2.1.1 r hr).2) p, fun q => absurd q (by decide), fun q => absurd q (by decide), fun q => absurd (hin 5 (by decide)) q⟩
  · exact ⟨fun q => absurd q (by decide), fun q => absurd q (by decide), fun q => absurd q (by decide), fun q => absurd q (by decide), fun q => absurd q (by decide), fun q => absurd q (by decide), fun _ => p, fun q => absurd q (by decide), fun q => absurd (hin 6 (by decide)) q⟩
  · exact ⟨fun q => absurd q (by decide), fun q => absurd q (by decide), fun q => absurd q (by decide), fun q => absurd q (by decide), fun q => absurd q (by decide), fun q => absurd q (by decide), fun q => absurd q (by decide), fun _ => p, fun q => absurd (hin 7 (by decide)) q⟩
  · exact ⟨fun q => absurd q (by decide), fun q => absurd q (by decide), fun q => absurd q (by decide), fun q => absurd q (by decide), fun q => absurd q (by decide), fun q => absurd q (by decide), fun q => absurd q (by decide), fun q => absurd q (by decide), fun _ => p⟩
end NOWC
