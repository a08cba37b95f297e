/-! THE CLASS'S STRAW -/
theorem ct_1p {s t : Nat → Bool} {p0 N : Nat} (h : ∀ p, p < N → p ≠ p0 → s p = t p) : ∀ n, n ≤ N → (p0 < n → ct s n + (t p0).toNat = ct t n + (s p0).toNat) ∧ (n ≤ p0 → ct s n = ct t n) := by
  intro n
  induction n with
  | zero => intro _; exact ⟨fun q => absurd q (by omega), fun _ => rfl⟩
  | succ n ih =>
    intro hn
    have ih := ih (by omega)
    have hs : ct s (n + 1) = ct s n + (s n).toNat := by show ct s n + (if s n then 1 else 0) = _; cases s n <;> rfl
    have ht : ct t (n + 1) = ct t n + (t n).toNat := by show ct t n + (if t n then 1 else 0) = _; cases t n <;> rfl
    rw [hs, ht]
    refine ⟨fun q => ?_, fun q => ?_⟩
    · by_cases e : n = p0
      · subst e
        rw [ih.2 (Nat.le_refl _)]
        omega
      · have := ih.1 (by omega)
        rw [h n (by omega) e]
        omega
    · rw [ih.2 (by omega), h n (by omega) (by omega)]
def FRw (iv iv' : IV) : Prop := ∀ a, ¬ (14 ≤ a ∧ a ≤ 20) → ¬ (48 ≤ a ∧ a ≤ 64) → iv' a = iv a
theorem pu_isF : ∀ i, i < 225 → mm_ek 52 [nI i] = some (nI (decide (fb i ≠ 4294967295)).toNat) := by decide +kernel
theorem nG (a b : G) : nI a.1 = nI b.1 ↔ a = b := ⟨fun q => Fin.ext ((nI_eq (by omega) (by omega)).mp q), fun q => by rw [q]⟩
section STRAWC
variable {X : Nat × (Nat → Int32)} {iv : IV}
set_option maxHeartbeats 1000000 in
theorem sp_spoils {P : Int32 → IV → Prop} {e lo : Nat → Bool} {i f : Nat} (hi : i < 225) (hk : frN i < 168) (hlo : lo i = false) (hR : CRd iv 34 e lo) (hf : fmt e lo = some f) (hw : why e lo = 0) (h : ∀ iv', FRw iv iv' → (∀ j, iv' 48 j = iv 48 j) → P (nI (bd e lo i).toNat) iv') : wc X 53 [.ref 48, .ref 34, .int (nI (frN i)), .ref 14] iv (Ri P) := by
  have hfl := fmt_lt hf
  have hbd : bd e lo i = decide (why (flp e i) lo ≠ 0) := by unfold bd; rw [hlo]; rfl
  have hs := why_sym (lo := lo) hi hk hf hw
  have hw0 := hw
  rw [why_f hf, whF_0] at hw0
  have ro : RO 34 := Or.inl rfl
  obtain ⟨c0, c1, c2⟩ := hR
  obtain ⟨gvr, mdr⟩ := c2 f hf
  have hb3 : frN i / 4 % 3 < 3 := by omega
  have hp14 : frN i / 4 / 3 < 14 := by omega
  have hsp : 3 * (frN i / 4 / 3) + frN i / 4 % 3 = frN i / 4 := by omega
  have hsp0 := mU_lt hfl (hw0.1 _ hb3)
  obtain ⟨k1, k2, k3, k4, k5⟩ := ro_kb ro hb3
  obtain ⟨g1, g2⟩ := gvr _ hb3
  obtain ⟨m1, m2⟩ := mdr _ hb3
  have m2 := m2 (hw0.1 _ hb3)
  -- other symbols stay
  have hoth : ∀ p, p < 14 → p ≠ frN i / 4 / 3 → gv (flp e i) (f % 4) (frN i / 4 % 3) p = gv e (f % 4) (frN i / 4 % 3) p := fun p hp hne => gv_flp (fun j hj => dO_ne (by omega) hj (by omega))
  have same : (∀ b, b < 3 → mU (flp e i) lo f (frN i / 4 % 3) = mU e lo f (frN i / 4 % 3) → (∀ p, p < 14 → mR (flp e i) lo f (frN i / 4 % 3) p = mR e lo f (frN i / 4 % 3) p) → why (flp e i) lo = 0) := fun _ _ q1 q2 => hs.2.mpr ⟨by rw [q1]; exact hw0.1 _ hb3, fun e0 => by rw [e0] at q2; rw [q2 0 (by decide)]; exact hw0.2⟩
  refine mk_X7_spoilsBlock ?_
  rw [pk_rem (a := frN i) (by omega) (by decide) (by decide), pk_div (by omega) (by decide) (by decide), pk_rem (by omega) (by decide) (by decide), pk_div (by omega) (by decide) (by decide), nI_clamp (by omega)]
  refine ⟨vp_in_nI hb3 (by decide), fun a1 ha1 v2 h2 => ?_⟩
  rw [show rvT 35 (frN i / 4 % 3) = 34 + 5 + 3 * (frN i / 4 % 3) from ro_b ro hb3] at ha1
  subst ha1 h2
  rw [k2, k3, nI_clamp (by omega), g2]
  have bg := rb_lt (gg lo (frN i / 4 % 3)) 14
  refine ⟨k1, sp_bit (by omega) (by omega) ?_⟩
  rw [rb_t hp14]
  refine ⟨fun z => ?_, fun z => mk_X5_level rfl (mk_X10_checksOf ?_)⟩
  · rw [bI_1] at z
    have q := mU_congr (e := flp e i) (e' := e) (lo := lo) (f := f) (blk := frN i / 4 % 3) (fun p hp hg => hoth p hp (fun e0 => by rw [e0, z] at hg; cases hg))
    have := h iv (fun _ _ _ => rfl) (fun _ => rfl)
    rw [hbd, same 0 (by decide) q.1 (q.2 (by rw [q.1]; exact hw0.1 _ hb3))] at this
    exact this
  · rw [bI_1] at z
    have z' : gg lo (frN i / 4 % 3) (frN i / 4 / 3) = false := by simpa using z
    rw [c1, hf, show oI (some f) = nI f from rfl, pk_div (by omega) (by decide) (by decide), pk_mul, nI_add, g1 _ hp14]
    refine ⟨k1, k4, vp_in_nI hp14 (by decide), fun v9 h9 => ?_⟩
    rw [shr_nI (by omega) (by omega), nI_xor] at h9
    have hg9 : (gv e (f % 4) (frN i / 4 % 3) (frN i / 4 / 3)).1 ^^^ 8 / 2 ^ (frN i % 4) = (gv (flp e i) (f % 4) (frN i / 4 % 3) (frN i / 4 / 3)).1 := by
      rw [gv_val, gv_val, hsp, sv_flp hi hk]
    rw [hg9] at h9
    subst h9
    rw [m2 _ hp14]
    refine ⟨k1, k1, k5, vp_in_nI hp14 (by decide), mk_X7_differs ?_⟩
    have d1 : ∀ {A B : Prop}, (gv (flp e i) (f % 4) (frN i / 4 % 3) (frN i / 4 / 3) = mR e lo f (frN i / 4 % 3) (frN i / 4 / 3) → A) → (gv (flp e i) (f % 4) (frN i / 4 % 3) (frN i / 4 / 3) ≠ mR e lo f (frN i / 4 % 3) (frN i / 4 / 3) → B) → (nI (gv (flp e i) (f % 4) (frN i / 4 % 3) (frN i / 4 / 3)).1 = nI (mR e lo f (frN i / 4 % 3) (frN i / 4 / 3)).1 → A) ∧ (¬ nI (gv (flp e i) (f % 4) (frN i / 4 % 3) (frN i / 4 / 3)).1 = nI (mR e lo f (frN i / 4 % 3) (frN i / 4 / 3)).1 → B) := fun qa qb => ⟨fun q => qa ((nG _ _).mp q), fun q => qb (fun q2 => q ((nG _ _).mpr q2))⟩
    -- what follows the two comparisons
    have hF := mu_fix (c := 2 + 2 * (f / 4)) (v := gv e (f % 4) (frN i / 4 % 3)) (g := gg lo (frN i / 4 % 3)) (hw0.1 _ hb3)
    have hcnt := (ct_1p (N := 14) (p0 := frN i / 4 / 3) (s := fun p => !(gg lo (frN i / 4 % 3) p) && decide (mR e lo f (frN i / 4 % 3) p ≠ gv e (f % 4) (frN i / 4 % 3) p)) (t := fun p => !(gg lo (frN i / 4 % 3) p) && decide (mR e lo f (frN i / 4 % 3) p ≠ gv (flp e i) (f % 4) (frN i / 4 % 3) p)) (fun p hp hne => by rw [hoth p hp hne]) 14 (Nat.le_refl _)).1 hp14
    have hd : ct (fun p => !(gg lo (frN i / 4 % 3) p) && decide (mR e lo f (frN i / 4 % 3) p ≠ gv e (f % 4) (frN i / 4 % 3) p)) 14 = mU e lo f (frN i / 4 % 3) := hF.2.1
    rw [hd, z'] at hcnt
    have go : ∀ a b : Bool, (a = true ↔ gv (flp e i) (f % 4) (frN i / 4 % 3) (frN i / 4 / 3) ≠ mR e lo f (frN i / 4 % 3) (frN i / 4 / 3)) → (b = true ↔ gv e (f % 4) (frN i / 4 % 3) (frN i / 4 / 3) ≠ mR e lo f (frN i / 4 % 3) (frN i / 4 / 3)) → ∀ v14 : Int32, v14 = (iv (34 + 5 + 3 * (frN i / 4 % 3)) 3 + nI a.toNat) - nI b.toNat → kdT (34 + 5 + 3 * (frN i / 4 % 3)) = (10, 0) ∧ wc X 1 [.ref (34 + 5 + 3 * (frN i / 4 % 3)), .int v14] iv (Ri (fun r16 iv15 => ((nI (2 + 2 * (f / 4)) < r16 → kdT (34 + 5 + 3 * (frN i / 4 % 3)) = (10, 0) ∧ kdT (34 + 6 + 3 * (frN i / 4 % 3)) = (1, 14) ∧ (¬ nI 0 < 0 ∧ ¬ nI 0 < 0 ∧ ¬ nI 14 < 0 ∧ (nI 0).toNatClampNeg + (nI 14).toNatClampNeg ≤ 14 ∧ (nI 0).toNatClampNeg + (nI 14).toNatClampNeg ≤ 14) ∧ (∀ iv17 : IV, iv17 = mm_row iv15 63 (va_cpy (iv15 (34 + 6 + 3 * (frN i / 4 % 3))) (iv15 63) (nI 0).toNatClampNeg (nI 0).toNatClampNeg (nI 14).toNatClampNeg) → vp_in (nI (frN i / 4 / 3)) 14 ∧ (∀ iv18 : IV, iv18 = mm_up2 iv17 63 (frN i / 4 / 3) (nI (gv (flp e i) (f % 4) (frN i / 4 % 3) (frN i / 4 / 3)).1) → kdT (34 + 5 + 3 * (frN i / 4 % 3)) = (10, 0) ∧ wc X 26 [.ref 14, .ref 63, .int (iv18 (34 + 5 + 3 * (frN i / 4 % 3)) 2), .int (nI (2 + 2 * (f / 4))), .ref 64] iv18 (Ri (fun r20 iv19 => ((r20 = (nI 4294967295) → P (nI 1) iv19) ∧ (¬ (r20 = (nI 4294967295)) → ((nI (frN i / 4 % 3) = 0 → wc X 40 [.ref 34] iv19 (Ri (fun r22 iv21 => vp_in (nI 0) 14 ∧ wc X 119 [.int r22, .int (iv21 64 (nI 0).toNatClampNeg)] iv21 (Ri (fun r24 iv23 => ((r24 = 0 → P (nI 1) iv23) ∧ (¬ (r24 = 0) → P (nI 0) iv23))))))) ∧ (¬ (nI (frN i / 4 % 3) = 0) → P (nI 0) iv19))))))))) ∧ (¬ (nI (2 + 2 * (f / 4)) < r16) → P (nI 0) iv15)))) := by
      intro a b ha hb v14 h14
      have ha' : (decide (mR e lo f (frN i / 4 % 3) (frN i / 4 / 3) ≠ gv (flp e i) (f % 4) (frN i / 4 % 3) (frN i / 4 / 3))) = a := by
        cases a with
        | true => exact decide_eq_true (fun q => ha.mp rfl q.symm)
        | false => exact decide_eq_false (fun q => by have := ha.mpr (fun q2 => q q2.symm); cases this)
      have hb' : (decide (mR e lo f (frN i / 4 % 3) (frN i / 4 / 3) ≠ gv e (f % 4) (frN i / 4 % 3) (frN i / 4 / 3))) = b := by
        cases b with
        | true => exact decide_eq_true (fun q => hb.mp rfl q.symm)
        | false => exact decide_eq_false (fun q => by have := hb.mpr (fun q2 => q q2.symm); cases this)
      have hcnt2 : mU e lo f (frN i / 4 % 3) + a.toNat = ct (fun p => !(gg lo (frN i / 4 % 3) p) && decide (mR e lo f (frN i / 4 % 3) p ≠ gv (flp e i) (f % 4) (frN i / 4 % 3) p)) 14 + b.toNat := by
        have := hcnt
        rw [Bool.not_false, Bool.true_and, Bool.true_and, ha', hb'] at this
        exact this
      generalize hd' : ct (fun p => !(gg lo (frN i / 4 % 3) p) && decide (mR e lo f (frN i / 4 % 3) p ≠ gv (flp e i) (f % 4) (frN i / 4 % 3) p)) 14 = d' at hcnt2
      have ba := toNat_lt a
      have bb := toNat_lt b
      rw [m1, nI_add, pk_sub (by omega), show mU e lo f (frN i / 4 % 3) + a.toNat - b.toNat = d' by omega] at h14
      subst h14
      refine ⟨k1, mk_X0_cost k1 ?_⟩
      rw [g2]
      refine sp_bitCount (by omega) ?_
      rw [rb_ct _ 14 (by decide), pk_mul, nI_add]
      have hcb := ct_bound (gg lo (frN i / 4 % 3)) 14
      rw [nI_ltI (by omega) (by omega)]
      refine ⟨fun z1 => ⟨k1, k4, cp_ok 14 (by decide), fun iv17 h17 => ⟨vp_in_nI hp14 (by decide), fun iv18 h18 => ⟨k1, ?_⟩⟩⟩, fun z1 => ?_⟩
      · rw [nI_clamp (n := 0) (by decide), nI_clamp (n := 14) (by decide)] at h17
        rw [up_row] at h18
        have e18 : ∀ q, q ≠ 63 → iv18 q = iv q := fun q hq => by rw [h18, row_ne hq, h17, row_ne hq]
        have v18 : ∀ p, p < 14 → iv18 63 p = nI (gv (flp e i) (f % 4) (frN i / 4 % 3) p).1 := fun p hp => by
          rw [h18, row_at]
          by_cases ep : p = frN i / 4 / 3
          · rw [if_pos ep, ep]
          · rw [if_neg ep, h17, row_at, cpy_at hp, g1 p hp, hoth p hp ep]
        rw [e18 _ (by omega), g2]
        refine sp_mendU (v := gv (flp e i) (f % 4) (frN i / 4 % 3)) (g := gg lo (frN i / 4 % 3)) rfl rfl (by decide) (by decide) rfl (by omega) v18 (fun iv19 q1 q2 => ?_)
        have h19 := h iv19 (fun a z1 z2 => by rw [q1 a z1 (by omega), e18 a (by omega)]) (fun j => by rw [q1 48 (by decide) (by decide), e18 48 (by decide)])
        rw [hbd] at h19
        show (nI (mU (flp e i) lo f (frN i / 4 % 3)) = _ → _) ∧ (¬ nI (mU (flp e i) lo f (frN i / 4 % 3)) = _ → _)
        by_cases hu : mU (flp e i) lo f (frN i / 4 % 3) = 4294967295
        · refine ⟨fun _ => ?_, fun z3 => absurd (by rw [hu]) z3⟩
          rw [decide_eq_true (show why (flp e i) lo ≠ 0 from fun q => (hs.2.mp q).1 hu)] at h19
          exact h19
        · have hul := mU_lt hfl hu
          refine ⟨fun z3 => absurd z3 (m1_ne (by omega)), fun _ => ⟨fun z3 => mk_X5_level rfl ⟨vp_in_nI (by decide) (by decide), ?_⟩, fun z3 => ?_⟩⟩
          · have e0 : frN i / 4 % 3 = 0 := Classical.byContradiction fun q => nI_ne0 (by omega) (by omega) z3
            have q0 := q2 hu 0 (by decide)
            rw [nI_clamp (by decide), q0, q1 34 (by decide) (by decide), e18 34 (by decide), c1, hf, show oI (some f) = nI f from rfl, pk_div (by omega) (by decide) (by decide)]
            have hR0 : mr (2 + 2 * (f / 4)) (gv (flp e i) (f % 4) (frN i / 4 % 3)) (gg lo (frN i / 4 % 3)) 0 = mR (flp e i) lo f 0 0 := by rw [e0]; rfl
            rw [hR0]
            refine sp_hasRoom (mR (flp e i) lo f 0 0).2 (by omega) ⟨fun z4 => ?_, fun z4 => ?_⟩
            · rw [bI_0] at z4
              have z5 : wrg (f / 4) (mR (flp e i) lo f 0 0).1 = true := by simpa using z4
              rw [decide_eq_true (show why (flp e i) lo ≠ 0 from fun q => by have := (hs.2.mp q).2 e0; rw [z5] at this; cases this)] at h19
              exact h19
            · rw [bI_0] at z4
              have z5 : wrg (f / 4) (mR (flp e i) lo f 0 0).1 = false := by simpa using z4
              rw [show why (flp e i) lo = 0 from hs.2.mpr ⟨hu, fun _ => z5⟩] at h19
              exact h19
          · have e0 : ¬ frN i / 4 % 3 = 0 := fun q => z3 (by rw [q]; rfl)
            rw [show why (flp e i) lo = 0 from hs.2.mpr ⟨hu, fun q => absurd q e0⟩] at h19
            exact h19
      · have hF' : Fix (2 + 2 * (f / 4)) (gv (flp e i) (f % 4) (frN i / 4 % 3)) (gg lo (frN i / 4 % 3)) (mR e lo f (frN i / 4 % 3)) d' := ⟨hF.1, hd', by omega⟩
        have hm := mr_of hF'
        have := h iv (fun _ _ _ => rfl) (fun _ => rfl)
        have hwhy : why (flp e i) lo = 0 := hs.2.mpr ⟨by
          show mu _ _ _ ≠ _
          rw [hm.2]
          omega, fun e0 => by
          have h0 := hm.1 0 (by decide)
          rw [e0] at h0
          show wrg (f / 4) (mr _ _ _ 0).1 = false
          rw [h0]
          exact hw0.2⟩
        rw [hbd, hwhy] at this
        exact this
    refine d1 (fun q1 => ⟨k1, k4, vp_in_nI hp14 (by decide), k1, k5, vp_in_nI hp14 (by decide), mk_X7_differs ?_⟩) (fun q1 => ⟨k1, k4, vp_in_nI hp14 (by decide), k1, k5, vp_in_nI hp14 (by decide), mk_X7_differs ?_⟩)
    · rw [g1 _ hp14, m2 _ hp14, nG]
      exact ⟨fun q2 => go false false ⟨fun q => (by cases q), fun q => absurd q1 q⟩ ⟨fun q => (by cases q), fun q => absurd q2 q⟩, fun q2 => go false true ⟨fun q => (by cases q), fun q => absurd q1 q⟩ ⟨fun _ => q2, fun _ => rfl⟩⟩
    · rw [g1 _ hp14, m2 _ hp14, nG]
      exact ⟨fun q2 => go true false ⟨fun _ => q1, fun _ => rfl⟩ ⟨fun q => (by cases q), fun q => absurd q2 q⟩, fun q2 => go true true ⟨fun _ => q1, fun _ => rfl⟩ ⟨fun _ => q2, fun _ => rfl⟩⟩
end STRAWC
