/-! THE MODEL'S ANSWERS -/
def RMx (iv : IV) (T : TX) (D : DM) : Prop := iv 74 24 = nI (aWhy T D) ∧ iv 74 25 = oI ((fX T D).map (· / 4)) ∧ iv 74 26 = oI ((fX T D).map (· % 4)) ∧ ∀ f, fX T D = some f → ∀ blk, blk < 3 → iv 95 blk = nI (ct (gg D.2.1 blk) 14) ∧ iv 96 blk = nI (mU (eT T D) D.2.1 f blk) ∧ (mU (eT T D) D.2.1 f blk ≠ 4294967295 → ∀ p, p < 14 → iv 94 (14 * blk + p) = nI (mR (eT T D) D.2.1 f blk p).1)
theorem RMx_t {iv : IV} {T : TX} {D : DM} (ht : th T = true) (h : RM iv (eT T D) D.2.1) : RMx iv T D := by
  unfold RMx aWhy fX
  rw [ht]
  exact h
theorem SN_MK {iv : IV} {T : TX} {D : DM} (hK : MK iv T) (hd : MDr iv D) (ht : th T = true) : SN iv (eT T D) D.2.1 := by
  obtain ⟨k1, k2, k3⟩ := hK.2.2.2.2 ht
  refine ⟨hK.1.2.1, lv T, mkT T, lv_3 T, mkT_lt T, hK.2.1, k1, fun i hi => ⟨(hd i hi).2, D.1 i, sbit (sS T) (frN i), (hd i hi).1, k3 i hi, rfl⟩⟩
section NOWM
variable {X : Nat × (Nat → Int32)} {iv : IV} {T : TX} {D : DM} {S : SH} {F : Int32}
theorem sp_makesI {P : IV → Prop} (hM : MI iv T D S F) (h : ∀ iv', (∀ a, a < 74 → iv' a = iv a) → MI iv' T D S F → MK iv' T → P iv') : wc X 166 [.ref 74] iv (Rv P) := by
  refine sp_makes hM.1 (fun iv1 f1 k1 => h iv1 (fun a ha => f1.1 a (by omega) (by omega) (by omega)) (MI_of hM ⟨f1.2 4 (by decide) (by decide) (by decide), f1.2 23 (by decide) (by decide) (by decide), fun a q1 q2 q3 q4 => f1.1 a q2 q3 q4⟩) k1)
theorem MI_r {iv' : IV} (hM : MI iv T D S F) (f : FRr iv iv') : MI iv' T D S F := MI_of hM ⟨f.2 4 (by decide) (by decide) (by decide), f.2 23 (by decide) (by decide) (by decide), fun a q1 q2 q3 q4 => f.1 a q1 q2⟩
theorem MK_r {iv' : IV} (hK : MK iv T) (f : FRr iv iv') : MK iv' T := by
  obtain ⟨k0, k1, k2, k3, k4⟩ := hK
  refine ⟨FT_of k0 (f.1 79 (by decide) (by decide)) (f.1 80 (by decide) (by decide)) (f.1 81 (by decide) (by decide)) (f.1 87 (by decide) (by decide)) (f.1 88 (by decide) (by decide)), by rw [f.2 12 (by decide) (by decide) (by decide)]; exact k1, by rw [f.2 11 (by decide) (by decide) (by decide)]; exact k2, fun q => by rw [f.2 13 (by decide) (by decide) (by decide)]; exact k3 q, fun q => ?_⟩
  rw [f.2 13 (by decide) (by decide) (by decide), f.1 85 (by decide) (by decide), f.1 86 (by decide) (by decide)]
  exact k4 q
/-- reading over a mark that stands -/
theorem sp_readingI {P : IV → Prop} (hM : MI iv T D S F) (hK : MK iv T) (h : ∀ iv', FRr iv iv' → RMx iv' T D → P iv') : wc X 198 [.ref 74] iv (Rv P) := by
  cases ht : th T with
  | true => exact sp_reading (SN_MK hK hM.2.1.1 ht) hK.1.2.2 hK.1.1 (by rw [hK.2.2.1, ht]; rfl) (fun iv1 f1 r1 => h iv1 f1 (RMx_t ht r1))
  | false =>
    have e11 : iv 74 11 = nI 0 := by rw [hK.2.2.1, ht]; rfl
    have fr0 : FRr iv iv := ⟨fun _ _ _ => rfl, fun _ _ _ _ => rfl⟩
    refine mk_X11_reading ?_
    rw [e11]
    refine ⟨fun _ => mk_X11_reading_7 ⟨fun _ iv1 h1 => ⟨fun _ => mk_X11_reading_27 (fun iv2 h2 => ?_), fun z => absurd rfl z⟩, fun z => absurd rfl z⟩, fun z => absurd rfl z⟩
    have f1 := FRr_74 fr0 (by omega) h1
    have f2 := FRr_74 f1 (by omega) h2
    rw [f2.2 11 (by decide) (by decide) (by decide), e11]
    refine ⟨fun _ iv3 h3 => ?_, fun z => absurd rfl z⟩
    have f3 := FRr_74 f2 (by omega) h3
    obtain ⟨a1, b1, c1⟩ := up_e h1
    obtain ⟨a2, b2, c2⟩ := up_e h2
    obtain ⟨a3, b3, c3⟩ := up_e h3
    rw [c3]
    refine ⟨fun z => absurd z (by decide), fun _ => h iv3 f3 ⟨?_, ?_, ?_, fun f hf => ?_⟩⟩
    · rw [c3]; unfold aWhy; rw [ht]; rfl
    · rw [b3 25 (by decide), b2 25 (by decide), c1]; unfold fX; rw [ht]; rfl
    · rw [b3 26 (by decide), c2]; unfold fX; rw [ht]; rfl
    · unfold fX at hf; rw [ht] at hf; cases hf
theorem sp_readsI {P : IV → Prop} (hM : MI iv T D S F) (h : ∀ iv', (∀ a, a < 74 → iv' a = iv a) → MI iv' T D S F → MK iv' T → RMx iv' T D → P iv') : wc X 199 [.ref 74] iv (Rv P) := by
  refine mk_X11_reads (sp_makesI hM (fun iv1 a1 m1 k1 => sp_readingI m1 k1 (fun iv2 f2 r2 => ?_)))
  exact h iv2 (fun a ha => by rw [f2.1 a (by omega) (by omega), a1 a ha]) (MI_r m1 f2) (MK_r k1 f2) r2
variable {P : Int32 → IV → Prop}
theorem sp_markBy {w : Nat} (hw : w < 4) (hK : MK iv T) (p : P (aMark T w) iv) : wc X 167 [.ref 74, .int (nI w)] iv (Ri P) := by
  obtain ⟨k0, k1, k2, k3, k4⟩ := hK
  have hl := lv_3 T
  have e2 : iv 74 13 = if th T then nI (mkT T) else nI 4294967295 := by
    cases ht : th T with
    | true => exact (k4 ht).1
    | false => exact k3 ht
  refine mk_X11_markBy ?_
  rw [k1, k2, e2]
  unfold aMark at p
  have hc : w = 0 ∨ w = 1 ∨ w = 2 ∨ w = 3 := by omega
  rcases hc with rfl | rfl | rfl | rfl
  · exact ⟨fun _ => p, fun z => absurd rfl z⟩
  · exact ⟨fun z => absurd z (by decide), fun _ => ⟨fun _ => p, fun z => absurd rfl z⟩⟩
  · refine ⟨fun z => absurd z (by decide), fun _ => ⟨fun z => absurd z (by decide), fun _ => ⟨fun _ => mk_X11_roomOf (mk_X11_checksOf ?_), fun z => absurd rfl z⟩⟩⟩
    rw [pk_mul, nI_add, pk_sub (by omega), pk_mul, pk_div (by omega) (by decide) (by decide), show 3 * (14 - (2 + 2 * lv T)) / 3 = 12 - 2 * lv T by omega]
    exact p
  · refine ⟨fun z => absurd z (by decide), fun _ => ⟨fun z => absurd z (by decide), fun _ => ⟨fun z => absurd z (by decide), fun _ => ?_⟩⟩⟩
    cases ht : th T with
    | true => rw [ht] at p; exact ⟨fun z => absurd z (by decide), fun _ => p⟩
    | false => rw [ht] at p; exact ⟨fun _ => p, fun z => absurd rfl z⟩
theorem sp_symbolBy {blk q : Nat} (hb : blk < 3) (hq : q < 14) (hK : MK iv T) (p : P (aSym T blk q) iv) : wc X 169 [.ref 74, .int (nI blk), .int (nI q)] iv (Ri P) := by
  obtain ⟨k0, k1, k2, k3, k4⟩ := hK
  refine mk_X11_symbolBy ?_
  rw [k2, pk_mul, nI_add, nI_clamp (by omega)]
  unfold aSym at p
  cases ht : th T with
  | true =>
    rw [ht] at p
    refine ⟨fun z => absurd z (by decide), fun _ => ⟨vp_in_nI (by omega) (by decide), ?_⟩⟩
    rw [(k4 ht).2.1 blk hb q hq]
    exact p
  | false => rw [ht] at p; exact ⟨fun _ => p, fun z => absurd rfl z⟩
theorem sp_dotsBy {w r : Nat} (hw : w < 5) (hr : r < 15) (hK : MK iv T) (p : P (aDots T w r) iv) : wc X 171 [.ref 74, .int (wI w), .int (nI r)] iv (Ri P) := by
  obtain ⟨k0, k1, k2, k3, k4⟩ := hK
  refine mk_X11_dotsBy ?_
  unfold aDots at p
  cases ht : th T with
  | true =>
    rw [ht] at p
    have hD := DT_of (X := X) hw k0 k1 (k4 ht).2.2
    have b0 : nI 0 = nI (rb (fun c => Dt T w (15 * r + c)) 0) := rfl
    refine ldn (W := fun k => wp X (0, 0) 171 4 [some (.ref 74), some (.int (wI w)), some (.int (nI r)), some (.int (nI (rb (fun c => Dt T w (15 * r + c)) k))), some (.int (nI k))] [] iv (Ri P)) 15 ?_ ?_
    · refine mk_X11_dotsBy_4 ⟨fun _ => ?_, fun z => absurd (nI_le (Nat.le_refl 15) (by decide)) z⟩
      rw [k2, ht]
      exact ⟨fun z => absurd z (by decide), fun _ => p⟩
    · intro k hk nx
      refine mk_X11_dotsBy_4 ⟨fun z => absurd z (nI_ge hk (by decide)), fun _ => ?_⟩
      rw [pk_mul, nI_add]
      refine hD (15 * r + k) (by omega) _ (fun v3 h3 => ?_)
      have b := toNat_lt (Dt T w (15 * r + k))
      have b2 : (2 : Nat) ^ k ≤ 2 ^ 14 := Nat.pow_le_pow_right (by decide) (by omega)
      rw [shl_nI (by omega) (by
        have : (Dt T w (15 * r + k)).toNat * 2 ^ k ≤ 1 * 2 ^ 14 := Nat.mul_le_mul (by omega) b2
        omega), nI_or, rb_bit (fun c => Dt T w (15 * r + c)) k] at h3
      rw [h3, nI_add]
      exact nx
  | false =>
    rw [ht] at p
    refine lup (τ := Int32) (W := fun k x => wp X (0, 0) 171 4 [some (.ref 74), some (.int (wI w)), some (.int (nI r)), some (.int x), some (.int (nI k))] [] iv (Ri P)) (I := fun _ _ => True) 15 ?_ ?_ 15 0 (nI 0) rfl trivial
    · intro x _
      refine mk_X11_dotsBy_4 ⟨fun _ => ?_, fun z => absurd (nI_le (Nat.le_refl 15) (by decide)) z⟩
      rw [k2, ht]
      exact ⟨fun _ => p, fun z => absurd rfl z⟩
    · intro k x hk _ nx
      refine mk_X11_dotsBy_4 ⟨fun z => absurd z (nI_ge hk (by decide)), fun _ => ?_⟩
      rw [pk_mul, nI_add]
      refine sp_dotAt hw (by omega) (lv_3 T) (k0.2.1 _ (by omega)) k1 (fun v3 _ => ?_)
      rw [nI_add]
      exact nx v3 trivial
theorem sp_penaltyBy {w : Nat} (hw : w < 4) (hK : MK iv T) (p : P (aPen T w) iv) : wc X 174 [.ref 74, .int (nI w)] iv (Ri P) := by
  obtain ⟨k0, k1, k2, k3, k4⟩ := hK
  refine mk_X11_penaltyBy ?_
  rw [k2]
  unfold aPen at p
  cases ht : th T with
  | true =>
    rw [ht] at p
    refine ⟨fun z => absurd z (by decide), fun _ => ?_⟩
    rw [← wI_lt hw]
    exact sp_penaltyOfM (DT_of (by omega) k0 k1 (k4 ht).2.2) p
  | false => rw [ht] at p; exact ⟨fun _ => p, fun z => absurd rfl z⟩
theorem sp_itemRead {j f : Nat} (hj : j < 42) (hR : RMx iv T D) (hf : fX T D = some f) (hw : aWhy T D = 0) (p : P (nI (itR T D f j)) iv) : wc X 201 [.ref 74, .int (nI j)] iv (Ri P) := by
  obtain ⟨ht, hf', haw⟩ := aWhy_f hf
  rw [haw, whF_0] at hw
  have hb : j % 3 < 3 := by omega
  refine mk_X11_itemRead ?_
  rw [pk_rem (by omega) (by decide) (by decide), pk_div (by omega) (by decide) (by decide), pk_mul, nI_add, nI_clamp (by omega), (hR.2.2.2 f hf _ hb).2.2 (hw.1 _ hb) _ (by omega)]
  exact ⟨vp_in_nI (by omega) (by decide), p⟩
theorem sp_toldBy {o : Option Nat} (ho : ∀ i, o = some i → i < 14) (hR : RMx iv T D) (p : P (aTold T D o) iv) : wc X 202 [.ref 74, .int (oI o)] iv (Ri P) := by
  have hle := aWhy_le T D
  refine mk_X11_toldBy ?_
  rw [hR.1]
  unfold aTold at p
  cases hf : fX T D with
  | none =>
    rw [hf] at p
    have := aWhy_n hf
    exact ⟨fun z => absurd z (nI_nle (by omega) (by omega)), fun _ => p⟩
  | some f =>
    rw [hf] at p
    have p : P (if aWhy T D = 0 then tdI T D f o else nI 4294967293) iv := p
    refine ⟨fun z => ?_, fun z => ?_⟩
    · have hw : aWhy T D = 0 := Classical.byContradiction fun q => nI_nle (by omega) (by omega) z
      rw [if_pos hw] at p
      have h0 := itR_0 hf hw
      have hfl := fX_lt hf
      obtain ⟨ht, hf', haw⟩ := aWhy_f hf
      have hw' := hw
      rw [haw, whF_0] at hw'
      have e0 : iv 94 0 = nI (itR T D f 0) := (hR.2.2.2 f hf 0 (by decide)).2.2 (hw'.1 0 (by decide)) 0 (by decide)
      rw [nI_clamp (by decide), e0]
      cases o with
      | none => exact ⟨fun _ => ⟨vp_in_nI (by decide) (by decide), p⟩, fun z => absurd rfl z⟩
      | some i =>
        have hi := ho i rfl
        refine ⟨fun z => absurd z (m1_ne (by omega)), fun _ => ⟨vp_in_nI (by decide) (by decide), ?_⟩⟩
        have p : P (if i < itR T D f 0 then nI (16 * itR T D f (1 + 2 * i) + itR T D f (2 + 2 * i)) else nI 4294967295) iv := p
        show (nI (itR T D f 0) ≤ nI i → _) ∧ (¬ nI (itR T D f 0) ≤ nI i → wc X 201 [.ref 74, .int (nI 1 + nI 2 * nI i)] iv (Ri (fun r4 iv3 => wc X 201 [.ref 74, .int (nI 2 + nI 2 * nI i)] iv3 (Ri (fun r6 iv5 => P (nI 16 * r4 + r6) iv5)))))
        rw [nI_leI (by omega) (by omega), pk_mul, nI_add, nI_add]
        refine ⟨fun z => ?_, fun z => sp_itemRead (by omega) hR hf hw (sp_itemRead (by omega) hR hf hw ?_)⟩
        · rw [if_neg (by omega)] at p; exact p
        · rw [pk_mul, nI_add]
          rw [if_pos (by omega)] at p; exact p
    · have hw : aWhy T D ≠ 0 := fun q => z (by rw [q]; decide)
      rw [if_neg hw] at p
      exact p
theorem sp_formatBy {w : Nat} (hw : w < 2) (hR : RMx iv T D) (p : P (aFmt T D w) iv) : wc X 204 [.ref 74, .int (nI w)] iv (Ri P) := by
  refine mk_X11_formatBy ?_
  rw [hR.2.1, hR.2.2.1]
  unfold aFmt at p
  have hc : w = 0 ∨ w = 1 := by omega
  rcases hc with rfl | rfl
  · exact ⟨fun _ => p, fun z => absurd rfl z⟩
  · exact ⟨fun z => absurd z (by decide), fun _ => p⟩
theorem sp_isBlind (hR : RMx iv T D) (p1 : fX T D = none → P (nI 1) iv) (p0 : ∀ f, fX T D = some f → P (nI 0) iv) : wc X 206 [.ref 74] iv (Ri P) := by
  have hle := aWhy_le T D
  refine mk_X11_isBlind ?_
  rw [hR.1, nI_eq (by omega) (by decide), nI_eq (by omega) (by decide)]
  cases hf : fX T D with
  | none =>
    rcases aWhy_n hf with q | q
    · exact ⟨fun _ => p1 hf, fun z => absurd q z⟩
    · exact ⟨fun _ => p1 hf, fun _ => ⟨fun _ => p1 hf, fun z => absurd q z⟩⟩
  | some f =>
    obtain ⟨ht, hf', haw⟩ := aWhy_f hf
    have := whF_14 (eT T D) D.2.1 f
    rw [← haw] at this
    exact ⟨fun z => absurd z this.1, fun _ => ⟨fun z => absurd z this.2, fun _ => p0 f hf⟩⟩
theorem sp_blockBy {blk w : Nat} (hb : blk < 3) (hw : w < 3) (hR : RMx iv T D) (p : P (aBlk T D blk w) iv) : wc X 207 [.ref 74, .int (nI blk), .int (nI w)] iv (Ri P) := by
  unfold aBlk at p
  refine mk_X11_blockBy (sp_isBlind hR (fun hf => ?_) (fun f hf => ?_))
  · rw [hf] at p
    exact ⟨fun z => absurd z (by decide), fun _ => p⟩
  · rw [hf] at p
    have hfl := fX_lt hf
    obtain ⟨r2, r3, r4⟩ := hR.2.2.2 f hf blk hb
    have p : P (if w = 0 then nI (ct (gg D.2.1 blk) 14) else if w = 1 ∨ mU (eT T D) D.2.1 f blk = 4294967295 then nI (mU (eT T D) D.2.1 f blk) else nI (2 + 2 * (f / 4) - (ct (gg D.2.1 blk) 14 + 2 * mU (eT T D) D.2.1 f blk))) iv := p
    refine ⟨fun _ => ⟨vp_in_nI hb (by decide), fun v3 h3 => ?_⟩, fun z => absurd rfl z⟩
    rw [nI_clamp (by omega), r3] at h3
    subst h3
    rw [nI_clamp (by omega), r2]
    have hc : w = 0 ∨ w = 1 ∨ w = 2 := by omega
    rcases hc with rfl | rfl | rfl
    · exact ⟨fun _ => ⟨vp_in_nI hb (by decide), p⟩, fun z => absurd rfl z⟩
    · rw [if_neg (by decide), if_pos (Or.inl rfl)] at p
      exact ⟨fun z => absurd z (by decide), fun _ => ⟨fun _ => p, fun z => absurd rfl z⟩⟩
    · refine ⟨fun z => absurd z (by decide), fun _ => ⟨fun z => absurd z (by decide), fun _ => ?_⟩⟩
      by_cases hu : mU (eT T D) D.2.1 f blk = 4294967295
      · rw [if_neg (by decide), if_pos (Or.inr hu)] at p
        exact ⟨fun _ => p, fun z => absurd (by rw [hu]) z⟩
      · have hul := mU_lt hfl hu
        have hule : ct (gg D.2.1 blk) 14 + 2 * mU (eT T D) D.2.1 f blk ≤ 2 + 2 * (f / 4) := mu_le hu
        rw [if_neg (by decide), if_neg (fun q => by rcases q with q | q; exact absurd q (by decide); exact hu q)] at p
        refine ⟨fun z => absurd z (m1_ne (by omega)), fun _ => ?_⟩
        rw [hR.2.1, hf]
        show wc X 152 [.int (nI (f / 4))] iv _
        refine mk_X11_checksOf ⟨vp_in_nI hb (by decide), ?_⟩
        rw [r2, pk_mul, nI_add, pk_mul, pk_sub (by omega), pk_sub (by omega), show 2 + 2 * (f / 4) - ct (gg D.2.1 blk) 14 - 2 * mU (eT T D) D.2.1 f blk = 2 + 2 * (f / 4) - (ct (gg D.2.1 blk) 14 + 2 * mU (eT T D) D.2.1 f blk) by omega]
        exact p
theorem sp_mendedBy {blk q : Nat} (hb : blk < 3) (hq : q < 14) (hR : RMx iv T D) (p : P (aMnd T D blk q) iv) : wc X 209 [.ref 74, .int (nI blk), .int (nI q)] iv (Ri P) := by
  unfold aMnd at p
  refine mk_X11_mendedBy (sp_isBlind hR (fun hf => ?_) (fun f hf => ?_))
  · rw [hf] at p
    exact ⟨fun z => absurd z (by decide), fun _ => p⟩
  · rw [hf] at p
    have hfl := fX_lt hf
    obtain ⟨r2, r3, r4⟩ := hR.2.2.2 f hf blk hb
    have p : P (if mU (eT T D) D.2.1 f blk = 4294967295 then nI 4294967295 else nI (mR (eT T D) D.2.1 f blk q).1) iv := p
    refine ⟨fun _ => ⟨vp_in_nI hb (by decide), ?_⟩, fun z => absurd rfl z⟩
    rw [nI_clamp (by omega), r3, pk_mul, nI_add, nI_clamp (by omega)]
    by_cases hu : mU (eT T D) D.2.1 f blk = 4294967295
    · rw [if_pos hu] at p
      exact ⟨fun _ => p, fun z => absurd (by rw [hu]) z⟩
    · have hul := mU_lt hfl hu
      rw [if_neg hu] at p
      rw [r4 hu q hq]
      exact ⟨fun z => absurd z (m1_ne (by omega)), fun _ => ⟨vp_in_nI (by omega) (by decide), p⟩⟩
theorem sp_strawM (hM : MI iv T D S F) (hK : MK iv T) (hR : RMx iv T D) (h : ∀ iv', FRr iv iv' → RMx iv' T D → P (oI (strX T D)) iv') : wc X 213 [.ref 74] iv (Ri P) := by
  unfold strX at h
  cases ht : th T with
  | true =>
    rw [ht] at h
    have hR' : RM iv (eT T D) D.2.1 := by
      unfold RMx aWhy fX at hR
      rw [ht] at hR
      exact hR
    exact sp_strawNowM (SN_MK hK hM.2.1.1 ht) hK.1 (by rw [hK.2.2.1, ht]; rfl) hR' (fun iv1 f1 r1 => h iv1 f1 (RMx_t ht r1))
  | false =>
    rw [ht] at h
    refine mk_X11_strawNow ?_
    have : aWhy T D = 4 := by unfold aWhy; rw [ht]; rfl
    rw [hR.1, this]
    exact ⟨fun z => absurd z (by decide), fun _ => h iv ⟨fun _ _ _ => rfl, fun _ _ _ _ => rfl⟩ hR⟩
theorem sp_lineOf {w : Nat} (hw : w < 2) (p : P (aStr T D w) iv) : wc X 214 [.int (oI (strX T D)), .int (nI w)] iv (Ri P) := by
  refine mk_X11_lineOf ?_
  unfold aStr at p
  cases hs : strX T D with
  | none => rw [hs] at p; exact ⟨fun _ => p, fun z => absurd rfl z⟩
  | some i =>
    have hi := strX_lt hs
    rw [hs] at p
    have p : P (nI (if w = 0 then i / 15 else i % 15)) iv := p
    refine ⟨fun z => absurd z (m1_ne (by omega)), fun _ => ?_⟩
    show (nI w = 0 → P (nI i / nI 15) iv) ∧ (¬ nI w = 0 → P (nI i - nI i / nI 15 * nI 15) iv)
    rw [pk_rem (by omega) (by decide) (by decide), pk_div (by omega) (by decide) (by decide)]
    have hc : w = 0 ∨ w = 1 := by omega
    rcases hc with rfl | rfl
    · exact ⟨fun _ => p, fun z => absurd rfl z⟩
    · exact ⟨fun z => absurd z (by decide), fun _ => p⟩
theorem sp_seenM {i : Nat} (hi : i < 225) (hM : MI iv T D S F) (hK : MK iv T) (ht : th T = true) (p : P (aSeen T D i) iv) : wc X 185 [.ref 74, .int (nI i)] iv (Ri P) := by
  refine sp_seenAt (SN_MK hK hM.2.1.1 ht) hi ?_
  unfold aSeen at p
  rw [ht] at p
  exact p
/-- the model's count -/
theorem sp_countM {w : Nat} (hw : w < 9) (hM : MI iv T D S F) (h : ∀ iv', (∀ a, a < 74 → iv' a = iv a) → MI iv' T D S F → MK iv' T → RMx iv' T D → P (aCnt T D F w) iv') : wc X 217 [.ref 74, .int (nI w)] iv (Ri P) := by
  refine mk_X11_count (sp_readsI hM (fun iv1 a1 m1 k1 r1 => ?_))
  have p := h iv1 a1 m1 k1 r1
  obtain ⟨q0, q1, q2, q3, q4⟩ := k1
  have e2 : iv1 74 13 = if th T then nI (mkT T) else nI 4294967295 := by
    cases ht : th T with
    | true => exact (q4 ht).1
    | false => exact q3 ht
  have hin : ∀ a : Nat, a < 9 → vp_in (nI a) 9 := fun a ha => vp_in_nI ha (by decide)
  rw [nI_clamp (by decide), m1.1.2.1, q1, r1.1, m1.2.1.2.1, m1.2.2.2]
  unfold aCnt at p
  have hc : w = 0 ∨ w = 1 ∨ w = 2 ∨ w = 3 ∨ w = 4 ∨ w = 5 ∨ w = 6 ∨ w = 7 ∨ w = 8 := by omega
  rcases hc with rfl | rfl | rfl | rfl | rfl | rfl | rfl | rfl | rfl
  · exact ⟨fun _ => ⟨vp_in_nI (by decide) (by decide), p⟩, fun q => absurd q (by decide), fun q => absurd q (by decide), fun q => absurd q (by decide), fun q => absurd q (by decide), fun q => absurd q (by decide), fun q => absurd q (by decide), fun q => absurd q (by decide), fun q => absurd q (by decide), fun q => absurd (hin 0 (by decide)) q⟩
  · exact ⟨fun q => absurd q (by decide), fun _ => p, fun q => absurd q (by decide), fun q => absurd q (by decide), fun q => absurd q (by decide), fun q => absurd q (by decide), fun q => absurd q (by decide), fun q => absurd q (by decide), fun q => absurd q (by decide), fun q => absurd (hin 1 (by decide)) q⟩
  · rw [e2]
    exact ⟨fun q => absurd q (by decide), fun q => absurd q (by decide), fun _ => p, fun q => absurd q (by decide), fun q => absurd q (by decide), fun q => absurd q (by decide), fun q => absurd q (by decide), fun q => absurd q (by decide), fun q => absurd q (by decide), fun q => absurd (hin 2 (by decide)) q⟩
  · exact ⟨fun q => absurd q (by decide), fun q => absurd q (by decide), fun q => absurd q (by decide), fun _ => p, fun q => absurd q (by decide), fun q => absurd q (by decide), fun q => absurd q (by decide), fun q => absurd q (by decide), fun q => absurd q (by decide), fun q => absurd (hin 3 (by decide)) q⟩
  · exact ⟨fun q => absurd q (by decide), fun q => absurd q (by decide), fun q => absurd q (by decide), fun q => absurd q (by decide), fun _ => sumOf_ct (f := D.1) rfl (fun i hi => (m1.2.1.1 i hi).1) p, fun q => absurd q (by decide), fun q => absurd q (by decide), fun q => absurd q (by decide), fun q => absurd q (by decide), fun q => absurd (hin 4 (by decide)) q⟩
  · exact ⟨fun q => absurd q (by decide), fun q => absurd q (by decide), fun q => absurd q (by decide), fun q => absurd q (by decide), fun q => absurd q (by decide), fun _ => sumOf_ct (f := D.2.1) rfl (fun i hi => (m1.2.1.1 i hi).2) p, fun q => absurd q (by decide), fun q => absurd q (by decide), fun q => absurd q (by decide), fun q => absurd (hin 5 (by decide)) q⟩
  · exact ⟨fun q => absurd q (by decide), fun q => absurd q (by decide), fun q => absurd q (by decide), fun q => absurd q (by decide), fun q => absurd q (by decide), fun q => absurd q (by decide), fun _ => p, fun q => absurd q (by decide), fun q => absurd q (by decide), fun q => absurd (hin 6 (by decide)) q⟩
  · refine ⟨fun q => absurd q (by decide), fun q => absurd q (by decide), fun q => absurd q (by decide), fun q => absurd q (by decide), fun q => absurd q (by decide), fun q => absurd q (by decide), fun q => absurd q (by decide), fun _ => ?_, fun q => absurd q (by decide), fun q => absurd (hin 7 (by decide)) q⟩
    rw [q2, e2]
    cases ht : th T with
    | true =>
      rw [ht] at p
      refine ⟨fun z => absurd z (by decide), fun _ => ?_⟩
      show wc X 164 [.ref 74, .int (nI (mkT T))] iv1 _
      rw [← wI_lt (mkT_lt T)]
      have hm := mkT_lt T
      exact sp_darkOf (DT_of (by omega) q0 q1 (q4 ht).2.2) p
    | false => rw [ht] at p; exact ⟨fun _ => p, fun z => absurd rfl z⟩
  · exact ⟨fun q => absurd q (by decide), fun q => absurd q (by decide), fun q => absurd q (by decide), fun q => absurd q (by decide), fun q => absurd q (by decide), fun q => absurd q (by decide), fun q => absurd q (by decide), fun q => absurd q (by decide), fun _ => p, fun q => absurd (hin 8 (by decide)) q⟩
theorem sp_countF {x : Int32} (hx : x < 0 ∨ nI 9 ≤ x) (hM : MI iv T D S F) (h : ∀ iv', (∀ a, a < 74 → iv' a = iv a) → MI iv' T D S F → P (nI 4294967294) iv') : wc X 217 [.ref 74, .int x] iv (Ri P) := by
  refine mk_X11_count (sp_readsI hM (fun iv1 a1 m1 k1 r1 => ?_))
  have ne : ∀ a : Nat, a < 9 → x = nI a → False := fun a ha e => by
    rw [e] at hx
    rcases hx with q | q
    · exact nI_pos (by omega) q
    · exact nI_ge ha (by decide) q
  have nin : ¬ vp_in x 9 := fun q => by
    obtain ⟨j, hj, e⟩ := vp_in_of q (by decide)
    exact ne j hj e
  exact ⟨fun q => (ne 0 (by decide) q).elim, fun q => (ne 1 (by decide) q).elim, fun q => (ne 2 (by decide) q).elim, fun q => (ne 3 (by decide) q).elim, fun q => (ne 4 (by decide) q).elim, fun q => (ne 5 (by decide) q).elim, fun q => (ne 6 (by decide) q).elim, fun q => (ne 7 (by decide) q).elim, fun q => (ne 8 (by decide) q).elim, fun _ => h iv1 a1 m1⟩
/-- a range that begins at NONE -/
theorem lNm1 : (lN 18446744073709551615).toInt = -1 := by decide
theorem in_m_t {o : Option Nat} {hi : Nat} (ho : ∀ i, o = some i → i ≤ hi) (hh : hi < 2 ^ 31) (p : P (nI 1) iv) : wc X 122 [.long (oI o).toInt64, .long (lN 18446744073709551615), .long (lN hi)] iv (Ri P) := by
  have hv : -1 ≤ (oI o).toInt ∧ (oI o).toInt ≤ hi := by
    cases o with
    | none => exact ⟨by decide, by show (nI 4294967295).toInt ≤ _; rw [show (nI 4294967295).toInt = -1 by decide]; omega⟩
    | some i =>
      have := ho i rfl
      show -1 ≤ (nI i).toInt ∧ (nI i).toInt ≤ _
      rw [nI_toInt (by omega)]
      omega
  refine mk_X11_in ⟨fun c => ?_, fun _ => ⟨fun c => ?_, fun _ => p⟩⟩
  · rw [lg_cmp_lt, Int64.lt_iff_toInt_lt, Int32.toInt_toInt64, lNm1] at c
    omega
  · rw [lg_cmp_gt, Int64.lt_iff_toInt_lt, Int32.toInt_toInt64, lN_toInt hh] at c
    omega
theorem in_m_f {x : Int32} {hi : Nat} (hh : hi + 1 < 2 ^ 31) (hx : x ≠ nI 4294967295) (h : x < 0 ∨ nI (hi + 1) ≤ x) (p : P (nI 0) iv) : wc X 122 [.long x.toInt64, .long (lN 18446744073709551615), .long (lN hi)] iv (Ri P) := by
  refine mk_X11_in ⟨fun _ => p, fun c => ⟨fun _ => p, fun c' => ?_⟩⟩
  exfalso
  rw [lg_cmp_lt, Int64.lt_iff_toInt_lt, Int32.toInt_toInt64, lNm1] at c
  rw [lg_cmp_gt, Int64.lt_iff_toInt_lt, Int32.toInt_toInt64, lN_toInt (by omega)] at c'
  rcases h with h | h
  · rw [Int32.lt_iff_toInt_lt] at h
    have h0 : (0 : Int32).toInt = 0 := rfl
    have : x.toInt = (nI 4294967295).toInt := by
      rw [show (nI 4294967295).toInt = -1 by decide]
      omega
    exact hx (Int32.toInt_inj.mp this)
  · rw [Int32.le_iff_toInt_le, nI_toInt hh] at h
    omega
theorem rngN (x : Int32) (n : Nat) (hn : n < 2 ^ 31) : (x ≠ nI 4294967295 ∧ (x < 0 ∨ nI n ≤ x)) ∨ ∃ o : Option Nat, (∀ i, o = some i → i < n) ∧ x = oI o := by
  by_cases h : x = nI 4294967295
  · exact Or.inr ⟨none, fun i hi => (by cases hi), h⟩
  · rcases rng x n hn with q | ⟨j, hj, q⟩
    · exact Or.inl ⟨h, q⟩
    · exact Or.inr ⟨some j, fun i hi => (by cases hi; exact hj), q⟩
/-- bring, over the whole -/
theorem sp_bringI {P : IV → Prop} {s : Nat} (hs : s < 3) (hC : CI iv T D S F) (h : ∀ iv', (∀ a, 74 ≤ a → iv' a = iv a) → CI iv' T D S F → CSt iv' T D (s + 1) → P iv') : wc X 109 [.ref 1, .int (nI s)] iv (Rv P) := by
  refine sp_bring hs hC.1 hC.2.1 hC.2.2.1 hC.2.2.2.1.1 hC.2.2.2.2.2.2 (fun iv1 f1 y1 s1 => ?_)
  refine h iv1 (fun a ha => f1.1 a (by omega) (by omega)) ⟨CTx_of hC.1 (f1.1 2 (by decide) (by decide)) (f1.1 3 (by decide) (by decide)) (f1.1 4 (by decide) (by decide)) (f1.1 5 (by decide) (by decide)), WY_of hC.2.1 (f1.1 11 (by decide) (by decide)) (f1.1 12 (by decide) (by decide)) (f1.1 13 (by decide) (by decide)), y1, ⟨CDr_of hC.2.2.2.1.1 (f1.1 7 (by decide) (by decide)) (f1.1 8 (by decide) (by decide)), CAc_of hC.2.2.2.1.2 (f1.1 6 (by decide) (by decide)) (f1.1 9 (by decide) (by decide))⟩, CSh_of hC.2.2.2.2.1 (fun a q1 q2 => f1.1 a (by omega) (by omega)), by rw [f1.2 9 (by decide)]; exact hC.2.2.2.2.2.1, CSt_le s1 (Nat.zero_le _)⟩ s1
theorem CSt_M {s : Nat} (h : CSt iv T D s) (hs : 1 ≤ s) : CM iv T := by
  obtain ⟨k, h1, -, -, h2, -, -⟩ := h
  exact h2 (by omega)
theorem CSt_R {s : Nat} (h : CSt iv T D s) (hs : 2 ≤ s) : CRy iv T D := by
  obtain ⟨k, h1, -, -, -, h2, -⟩ := h
  exact CRy_of (h2 (by omega))
theorem CSt_S {s : Nat} (h : CSt iv T D s) (hs : 3 ≤ s) : iv 48 0 = oI (strX T D) := by
  obtain ⟨k, h1, -, -, -, -, h2⟩ := h
  exact h2 (by omega)
end NOWM
