/-! A READING TAKES ITS SYMBOLS, AND MENDS THEM, IN THE CLASS -/
theorem bI_o (a b : Bool) : nI a.toNat ||| nI b.toNat = nI (a || b).toNat := by cases a <;> cases b <;> decide
theorem Fix_g {c d : Nat} {v r : Nat → G} {g g' : Nat → Bool} (hg : ∀ p, p < 14 → g p = g' p) (h : Fix c v g r d) : Fix c v g' r d := by
  obtain ⟨a1, a2, a3⟩ := h
  refine ⟨a1, ?_, ?_⟩
  · rw [← a2]; exact ct_congr (fun p hp => by rw [hg p hp])
  · rw [← ct_congr hg]; exact a3
theorem Fix_v {c d : Nat} {v v' r : Nat → G} {g : Nat → Bool} (hv : ∀ p, p < 14 → v p = v' p) (h : Fix c v g r d) : Fix c v' g r d := Fix_off h (fun p hp _ => hv p hp)
theorem mkD_free {w k : Nat} (hk : k < 171) : mkD w (dO k) = mbit w (dO k / 15) (dO k % 15) := by
  have := dO_ok k hk
  unfold mkD
  rw [this.2.1, decide_eq_true (by omega)]
  rfl
/-- what the symbols' taking leaves -/
def GV (iv : IV) (r0 : Nat) (e lo : Nat → Bool) (w : Nat) : Prop := ∀ blk, blk < 3 → (∀ p, p < 14 → iv (r0 + 6 + 3 * blk) p = nI (gv e w blk p).1) ∧ iv (r0 + 5 + 3 * blk) 2 = nI (rb (gg lo blk) 14)
def FRt (r0 : Nat) (iv iv' : IV) : Prop := (∀ a, ¬ (r0 + 4 ≤ a ∧ a ≤ r0 + 12) → iv' a = iv a)
section TAKE
variable {X : Nat × (Nat → Int32)} {iv : IV} {r0 : Nat}
set_option maxHeartbeats 1000000 in
theorem sp_takeSymbols {P : IV → Prop} {e lo : Nat → Bool} {f : Nat} (hr : RO r0) (hW : WY iv) (hL : LK iv r0 e lo) (h1 : iv r0 1 = nI f) (hf : f < 12) (h : ∀ iv', FRt r0 iv iv' → GV iv' r0 e lo (f % 4) → P iv') : wc X 44 [.ref r0, .ref 10] iv (Rv P) := by
  have hr2 := ro_r hr
  refine mk_X5_takeSymbols ?_
  refine lup (τ := IV) (W := fun k iv2 => wp X (0, 0) 44 2 [some (.ref r0), some (.ref 10), some (.int (nI k)), none, none, none, none] [] iv2 (Rv P)) (I := fun k iv2 => (∀ a, a ≠ r0 + 4 → iv2 a = iv a) ∧ ∀ r, r < k → iv2 (r0 + 4) r = nI (rr (fun i => xor (e i) (mkD (f % 4) i)) r)) 15 ?_ ?_ 15 0 iv rfl ⟨fun _ _ => rfl, fun r hr' => absurd hr' (by omega)⟩
  · rintro iv2 ⟨a2, b2⟩
    refine mk_X5_takeSymbols_2 (ro_k hr) (ro_k3 hr) (ro_k5 hr) ⟨fun _ => ?_, fun z => absurd (nI_le (Nat.le_refl 15) (by decide)) z⟩
    refine lup (τ := IV) (W := fun k iv3 => wp X (0, 0) 44 22 [some (.ref r0), some (.ref 10), some (.int (nI k)), none, none, none, none] [] iv3 (Rv P)) (I := fun k iv3 => (∀ a, ¬ (r0 + 5 ≤ a ∧ a ≤ r0 + 12) → iv3 a = iv2 a) ∧ ∀ blk, blk < 3 → (∀ p, 3 * p + blk < k → iv3 (r0 + 6 + 3 * blk) p = nI (gv e (f % 4) blk p).1) ∧ (blk < k → iv3 (r0 + 5 + 3 * blk) 2 = nI (rb (gg lo blk) ((k + 2 - blk) / 3)))) 42 ?_ ?_ 42 0 iv2 rfl ⟨fun _ _ => rfl, fun blk _ => ⟨fun p hp => absurd hp (by omega), fun hp => absurd hp (by omega)⟩⟩
    · rintro iv3 ⟨a3, b3⟩
      refine mk_X5_takeSymbols_22 ⟨fun _ => ?_, fun z => absurd (nI_le (Nat.le_refl 42) (by decide)) z⟩
      refine h iv3 (fun a ha => by rw [a3 a (by omega), a2 a (by omega)]) (fun blk hb => ⟨fun p hp => (b3 blk hb).1 p (by omega), ?_⟩)
      have := (b3 blk hb).2 (by omega)
      rw [show (42 + 2 - blk) / 3 = 14 by omega] at this
      exact this
    · rintro s iv3 hs ⟨a3, b3⟩ nx
      refine mk_X5_takeSymbols_22 ⟨fun z => absurd z (nI_ge hs (by decide)), fun _ => ?_⟩
      rw [pk_mul]
      have hW3 : WY iv3 := by
        unfold WY
        rw [a3 11 (by omega), a3 12 (by omega), a3 13 (by omega), a2 11 (by omega), a2 12 (by omega), a2 13 (by omega)]
        exact hW
      refine ldn (W := fun k => wp X (0, 0) 44 33 [some (.ref r0), some (.ref 10), some (.int (nI s)), some (.int (nI (sv e (f % 4) s k))), some (.int (nI (gk lo s k).toNat)), some (.int (nI (4 * s + k))), none] [] iv3 (Rv P)) 4 ?_ ?_
      · refine mk_X5_takeSymbols_33 (ro_k hr) (ro_k2 hr) (ro_k5 hr) (ro_k4 hr) ⟨fun _ => ?_, fun z => absurd (by rw [nI_add, pk_mul]; exact nI_le (by omega) (by omega)) z⟩
        rw [pk_rem (by omega) (by decide) (by decide), pk_div (by omega) (by decide) (by decide), nI_clamp (by omega), nI_clamp (by omega)]
        refine ⟨vp_in_nI (by omega) (by decide), fun a1 ha1 => ?_⟩
        rw [ro_b hr (by omega)] at ha1
        obtain ⟨k1, k2, k3, k4, k5⟩ := ro_kb hr (k := s % 3) (by omega)
        subst ha1
        rw [k2]
        refine ⟨k1, k4, vp_in_nI (by omega) (by decide), fun iv4 h4 => ?_⟩
        rw [up_row] at h4
        have g4 := toNat_lt (gk lo s 4)
        have p15 : (2 : Nat) ^ (s / 3) ≤ 2 ^ 13 := Nat.pow_le_pow_right (by decide) (by omega)
        have sh : nI (gk lo s 4).toNat <<< (nI (s / 3) &&& 31) = nI ((gk lo s 4).toNat * 2 ^ (s / 3)) := shl_nI (by omega) (by
          have : (gk lo s 4).toNat * 2 ^ (s / 3) ≤ 1 * 2 ^ 13 := Nat.mul_le_mul (by omega) p15
          omega)
        rw [sh, nI_add]
        have e3 : s = 3 * (s / 3) + s % 3 := by omega
        have fin : ∀ iv5 : IV, iv5 = mm_up2 iv4 (r0 + 5 + 3 * (s % 3)) 2 (nI (rb (gg lo (s % 3)) (s / 3 + 1))) → wp X (0, 0) 44 22 [some (.ref r0), some (.ref 10), some (.int (nI (s + 1))), none, none, none, none] [] iv5 (Rv P) := by
          intro iv5 h5
          rw [up_row] at h5
          refine nx iv5 ⟨fun a ha => ?_, fun blk hb => ⟨fun p hp => ?_, fun hp => ?_⟩⟩
          · rw [h5, row_ne (by omega), h4, row_ne (by omega)]
            exact a3 a ha
          · rw [h5, row_ne (by omega), h4]
            by_cases eb : blk = s % 3
            · subst eb
              rw [row_at]
              by_cases ep : p = s / 3
              · rw [if_pos ep, ep, gv_val]
                rw [← e3]
              · rw [if_neg ep]
                exact (b3 (s % 3) hb).1 p (by omega)
            · rw [row_ne (by omega)]
              exact (b3 blk hb).1 p (by omega)
          · rw [h5]
            by_cases eb : blk = s % 3
            · subst eb
              rw [row_at, if_pos rfl, show (s + 1 + 2 - s % 3) / 3 = s / 3 + 1 by omega]
            · rw [row_ne (by omega), h4, row_ne (by omega)]
              have := (b3 blk hb).2 (by omega)
              rw [this]
              congr 2
              omega
        have hgk : gk lo s 4 = gg lo (s % 3) (s / 3) := by unfold gg; rw [← e3]
        have hrb : rb (gg lo (s % 3)) (s / 3) ||| (gk lo s 4).toNat * 2 ^ (s / 3) = rb (gg lo (s % 3)) (s / 3 + 1) := by
          rw [hgk, rb, Nat.mul_comm, Nat.or_comm, Nat.add_comm]
          exact (Nat.two_pow_add_eq_or_of_lt (rb_lt _ _) _).symm
        refine ⟨fun z => ⟨k1, fun iv5 h5 => fin iv5 ?_⟩, fun z => ⟨k1, k1, fun iv5 h5 => fin iv5 ?_⟩⟩
        · have e0 : s / 3 = 0 := Classical.byContradiction fun q => nI_ne0 (by omega) (by omega) z
          rw [h5, ← hrb, e0]
          rw [nI_or]
          rfl
        · have e0 : s / 3 ≠ 0 := fun q => z (by rw [q]; rfl)
          have := (b3 (s % 3) (by omega)).2 (by omega)
          rw [show (s + 2 - s % 3) / 3 = s / 3 by omega] at this
          rw [h5, h4, row_ne (by omega), this, nI_or, hrb]
      · intro k hk nk
        have hd := dO_ok (4 * s + k) (by omega)
        have svb := sv_lt e (f % 4) s k
        have hw := hW3.2 (4 * s + k) (by omega)
        have u1 : iv3 (r0 + 4) (wyR.getD (4 * s + k) 0) = nI (rr (fun i => xor (e i) (mkD (f % 4) i)) (wyR.getD (4 * s + k) 0)) := by rw [a3 _ (by omega)]; exact b2 _ hd.2.2.1
        have u2 : iv3 (r0 + 3) (wyR.getD (4 * s + k) 0) = nI (rr lo (wyR.getD (4 * s + k) 0)) := by rw [a3 _ (by omega), a2 _ (by omega)]; exact (hL _ hd.2.2.1).2
        have l1 := rr_lt (fun i => xor (e i) (mkD (f % 4) i)) (wyR.getD (4 * s + k) 0)
        have l2 := rr_lt lo (wyR.getD (4 * s + k) 0)
        have hdo : 15 * wyR.getD (4 * s + k) 0 + wyC.getD (4 * s + k) 0 = dO (4 * s + k) := rfl
        refine mk_X5_takeSymbols_33 (ro_k hr) (ro_k2 hr) (ro_k5 hr) (ro_k4 hr) ⟨fun z => absurd (by rw [nI_add, pk_mul] at z; exact z) (nI_ge (by omega) (by omega)), fun _ => ?_⟩
        rw [ro_5 hr, nI_clamp (n := 4 * s + k) (by omega), hw.1, hw.2, nI_clamp (by omega), u1]
        refine ⟨vp_in_nI (by omega) (by decide), vp_in_nI hd.2.2.1 (by decide), vp_in_nI (by omega) (by decide), sp_bit (by omega) (by omega) (fun v7 h7 => ⟨vp_in_nI (by omega) (by decide), ?_⟩)⟩
        rw [ro_4 hr, hw.1, hw.2, nI_clamp (by omega), u2]
        refine ⟨vp_in_nI hd.2.2.1 (by decide), vp_in_nI (by omega) (by decide), sp_bit (by omega) (by omega) ?_⟩
        rw [rr_t hd.2.2.2, hdo] at h7 ⊢
        rw [mkD_free (by omega), pk_mul, nI_add] at h7
        rw [h7, bI_o, nI_add]
        exact nk
  · rintro k iv2 hk ⟨a2, b2⟩ nx
    refine mk_X5_takeSymbols_2 (ro_k hr) (ro_k3 hr) (ro_k5 hr) ⟨fun z => absurd z (nI_ge hk (by decide)), fun _ => ⟨vp_in_nI hk (by decide), mk_X5_mask (ro_k hr) ?_⟩⟩
    rw [a2 r0 (by omega), h1, pk_rem (by omega) (by decide) (by decide)]
    refine sp_masked (by omega) hk ⟨vp_in_nI hk (by decide), fun iv5 h5 => ?_⟩
    rw [ro_3 hr, ro_5 hr, nI_clamp (by omega), a2 (r0 + 2) (by omega), (hL k hk).1, nI_xor, rr_xor, up_row] at h5
    rw [nI_add]
    refine nx iv5 ⟨fun a ha => by rw [h5, row_ne ha, a2 a ha], fun r hr' => ?_⟩
    rw [h5, row_at]
    by_cases er : r = k
    · rw [if_pos er, er]
    · rw [if_neg er]; exact b2 r (by omega)
/-- mending, both ends in one -/
theorem sp_mendU {P : Int32 → IV → Prop} {r1 r4 n c : Nat} {v : Nat → G} {g : Nat → Bool} (k1 : kdT r1 = (1, 14)) (k4 : kdT r4 = (1, 14)) (hr1 : ¬ (14 ≤ r1 ∧ r1 ≤ 20)) (hr4 : ¬ (14 ≤ r4 ∧ r4 ≤ 20)) (hn : n = rb g 14) (hc : c ≤ 6) (hv : ∀ p, p < 14 → iv r1 p = nI (v p).1) (h : ∀ iv', (∀ a, ¬ (14 ≤ a ∧ a ≤ 20) → a ≠ r4 → iv' a = iv a) → (mu c v g ≠ 4294967295 → ∀ p, p < 14 → iv' r4 p = nI (mr c v g p).1) → P (nI (mu c v g)) iv') : wc X 26 [.ref 14, .ref r1, .int (nI n), .int (nI c), .ref r4] iv (Ri P) := by
  subst hn
  have hg : ∀ p, p < 14 → gb (rb g 14) p = g p := fun p hp => rb_t hp
  refine sp_mend k1 k4 hr1 hr4 (rb_lt g 14) hc hv (fun r d hF iv' q1 q2 => ?_) (fun hno iv' q1 => ?_)
  · have hm := mr_of (Fix_g hg hF)
    have := h iv' q1 (fun _ p hp => by rw [hm.1 p hp]; exact q2 p hp)
    rw [hm.2] at this
    exact this
  · have hm := mu_no (c := c) (v := v) (g := g) (fun ⟨r, d, q⟩ => hno ⟨r, d, Fix_g (fun p hp => (hg p hp).symm) q⟩)
    have := h iv' q1 (fun q => absurd hm q)
    rw [hm] at this
    exact this
/-- what a reading leaves -/
def CRd (iv : IV) (r0 : Nat) (e lo : Nat → Bool) : Prop := iv r0 0 = nI (why e lo) ∧ iv r0 1 = oI (fmt e lo) ∧ ∀ f, fmt e lo = some f → GV iv r0 e lo (f % 4) ∧ ∀ blk, blk < 3 → iv (r0 + 5 + 3 * blk) 3 = nI (mU e lo f blk) ∧ (mU e lo f blk ≠ 4294967295 → ∀ p, p < 14 → iv (r0 + 7 + 3 * blk) p = nI (mR e lo f blk p).1)
theorem sp_hasRoom {P : Int32 → IV → Prop} {l x : Nat} (hx : x < 16) (hl : l < 3) (p : P (nI (!(wrg l x)).toNat) iv) : wc X 119 [.int (nI l), .int (nI x)] iv (Ri P) := by
  refine mk_X10_hasRoom ?_
  rw [nI_ltI (by decide) (by omega)]
  unfold wrg at p
  refine ⟨fun z => ?_, fun z => mk_X10_itemsOf (mk_X10_checksOf ?_)⟩
  · rw [decide_eq_true (by omega)] at p
    exact p
  · simp only [pk_mul, nI_add]
    rw [pk_sub (by omega), pk_mul, nI_ltI (by omega) (by omega)]
    refine ⟨fun z1 => ?_, fun z1 => ?_⟩
    · rw [decide_eq_true (by omega)] at p
      exact p
    · rw [decide_eq_false (by omega)] at p
      exact p
theorem mU_lt {e lo : Nat → Bool} {f blk : Nat} (hf : f < 12) (h : mU e lo f blk ≠ 4294967295) : mU e lo f blk < 4 := by
  have := mu_le (c := 2 + 2 * (f / 4)) (v := gv e (f % 4) blk) (g := gg lo blk) h
  show mu _ _ _ < _
  omega
set_option maxHeartbeats 1000000 in
theorem sp_readBlocks {P : IV → Prop} {e lo : Nat → Bool} (hr : RO r0) (hW : WY iv) (hL : LK iv r0 e lo) (h6 : iv r0 6 = nI 1) (h1 : iv r0 1 = oI (fmt e lo)) (h : ∀ iv', FRc r0 iv iv' → (∀ j, j ≠ 0 → iv' r0 j = iv r0 j) → CRd iv' r0 e lo → P iv') : wc X 38 [.ref r0, .ref 10, .ref 14] iv (Rv P) := by
  have hr2 := ro_r hr
  refine mk_X5_readBlocks (ro_k hr) ?_
  rw [h6]
  refine ⟨fun z => absurd z (by decide), fun _ => mk_X5_readBlocks_7 (ro_k hr) (ro_k2 hr) (fun iv1 g1 => mk_X5_formatKnown (ro_k hr) ?_)⟩
  rw [up_row] at g1
  have a1 : ∀ a, a ≠ r0 → iv1 a = iv a := fun a ha => by rw [g1, row_ne ha]
  have b1 : ∀ j, j ≠ 0 → iv1 r0 j = iv r0 j := fun j hj => by rw [g1, row_at, if_neg hj]
  have c1 : iv1 r0 0 = nI 1 := by rw [g1, row_at, if_pos rfl]
  rw [b1 1 (by decide), h1]
  cases hf : fmt e lo with
  | none =>
    refine ⟨fun _ => ⟨fun _ => ?_, fun z => absurd rfl z⟩, fun z => absurd rfl z⟩
    refine h iv1 (fun a q1 q2 => a1 a (by omega)) b1 ⟨?_, ?_, fun f q => ?_⟩
    · rw [c1]; unfold why; rw [hf]
    · rw [b1 1 (by decide), h1]
    · rw [hf] at q; cases q
  | some f =>
    have hfl := fmt_lt hf
    refine ⟨fun z => absurd z (m1_ne (by omega)), fun _ => ⟨fun z => absurd z (by decide), fun _ => ?_⟩⟩
    have hW1 : WY iv1 := by unfold WY; rw [a1 11 (by omega), a1 12 (by omega), a1 13 (by omega)]; exact hW
    refine sp_takeSymbols hr hW1 (fun r hr' => by rw [a1 _ (by omega), a1 _ (by omega)]; exact hL r hr') (f := f) (by rw [b1 1 (by decide), h1, hf]; rfl) hfl (fun iv2 g2 v2 => ?_)
    refine lup (τ := IV) (W := fun k iv3 => wp X (0, 0) 38 25 [some (.ref r0), none, some (.ref 14), some (.int (nI (decide (wk (mU e lo f) k ≠ 0)).toNat)), some (.ref (rvT r0 2)), some (.int (nI 3)), some (.int (nI k)), none] [] iv3 (Rv P)) (I := fun k iv3 => FRc r0 iv2 iv3 ∧ iv3 r0 = iv2 r0 ∧ GV iv3 r0 e lo (f % 4) ∧ ∀ blk, blk < k → iv3 (r0 + 5 + 3 * blk) 3 = nI (mU e lo f blk) ∧ (mU e lo f blk ≠ 4294967295 → ∀ p, p < 14 → iv3 (r0 + 7 + 3 * blk) p = nI (mR e lo f blk p).1)) 3 ?_ ?_ 3 0 iv2 rfl ⟨fun _ _ _ => rfl, rfl, v2, fun b hb => absurd hb (by omega)⟩
    · rintro iv3 ⟨g3, s3, v3, w3⟩
      refine mk_X5_readBlocks_25 (ro_k hr) (ro_k2 hr) ⟨fun _ iv4 h4 => ?_, fun z => absurd (nI_le (Nat.le_refl 3) (by decide)) z⟩
      rw [up_row] at h4
      have done : ∀ iv5 : IV, (∀ a, a ≠ r0 → iv5 a = iv3 a) → (∀ j, j ≠ 0 → iv5 r0 j = iv3 r0 j) → iv5 r0 0 = nI (whF e lo f) → P iv5 := by
        intro iv5 q1 q2 q3
        have r5 : ∀ j, j ≠ 0 → iv5 r0 j = iv r0 j := fun j hj => by rw [q2 j hj, s3, g2 r0 (by omega), b1 j hj]
        refine h iv5 (fun a z1 z2 => ?_) r5 ⟨?_, ?_, fun f' hf' => ?_⟩
        · rw [q1 a (by omega), g3 a z1 z2, g2 a (by omega), a1 a (by omega)]
        · rw [q3]; unfold why; rw [hf]
        · rw [r5 1 (by decide), h1]
        · rw [hf] at hf'
          cases hf'
          refine ⟨fun blk hb => ?_, fun blk hb => ?_⟩
          · rw [q1 _ (by omega), q1 _ (by omega)]
            exact v3 blk hb
          · rw [q1 _ (by omega), q1 _ (by omega)]
            exact w3 blk hb
      refine ⟨fun z => ?_, fun z iv5 h5 => ?_⟩
      · rw [bI_0] at z
        have hw : wk (mU e lo f) 3 = 0 := by simpa using z
        have hu := wk_0.mp hw 0 (by decide)
        refine mk_X5_level (ro_k hr) (mk_X5_item (ro_k hr) (ro_k2 hr) ?_)
        have e41 : iv4 r0 1 = nI f := by rw [h4, row_at, if_neg (by decide), s3, g2 r0 (by omega), b1 1 (by decide), h1, hf]; rfl
        obtain ⟨k1, k2, k3, k4, k5⟩ := ro_kb hr (k := 0) (by omega)
        rw [pk_rem (by omega) (by decide) (by decide), pk_div (a := 0) (by omega) (by decide) (by decide), nI_clamp (by omega), e41, pk_div (by omega) (by decide) (by decide)]
        refine ⟨vp_in_nI (by decide) (by decide), fun a9 h9 => ?_⟩
        rw [show (0 : Nat) % 3 = 0 by rfl, ro_b hr (by omega)] at h9
        subst h9
        rw [k3]
        refine ⟨k1, k5, vp_in_nI (by decide) (by decide), ?_⟩
        rw [show (0 : Nat) % 3 = 0 by rfl, h4, row_ne (by omega), (w3 0 (by decide)).2 hu 0 (by decide)]
        refine sp_hasRoom (mR e lo f 0 0).2 (by omega) ⟨fun z1 iv5 h5 => ?_, fun z1 => ?_⟩
        · rw [bI_0] at z1
          have z2 : wrg (f / 4) (mR e lo f 0 0).1 = true := by simpa using z1
          rw [up_row] at h5
          refine done iv5 (fun a ha => by rw [h5, row_ne ha, row_ne ha]) (fun j hj => by rw [h5, row_at, if_neg hj, row_at, if_neg hj]) ?_
          rw [h5, row_at, if_pos rfl]; unfold whF; rw [if_pos hw, z2]; rfl
        · have z2 : wrg (f / 4) (mR e lo f 0 0).1 = false := by
            cases hq : wrg (f / 4) (mR e lo f 0 0).1 with
            | false => rfl
            | true => rw [hq] at z1; exact absurd rfl z1
          refine done _ (fun a ha => by rw [row_ne ha]) (fun j hj => by rw [row_at, if_neg hj]) ?_
          rw [row_at, if_pos rfl]; unfold whF; rw [if_pos hw, z2]; rfl
      · have hw : ¬ wk (mU e lo f) 3 = 0 := fun q => z (by rw [q]; rfl)
        have hw2 : wk (mU e lo f) 3 = 2 := by
          have : ∀ k, wk (mU e lo f) k = 0 ∨ wk (mU e lo f) k = 2 := by
            intro k
            induction k with
            | zero => exact Or.inl rfl
            | succ k ih => rw [wk]; split; exact Or.inr rfl; exact ih
          rcases this 3 with q | q
          · exact absurd q hw
          · exact q
        rw [up_row] at h5
        refine done iv5 (fun a ha => by rw [h5, row_ne ha, h4, row_ne ha]) (fun j hj => by rw [h5, row_at, if_neg hj, h4, row_at, if_neg hj]) ?_
        rw [h5, row_at, if_pos rfl]; unfold whF; rw [if_neg hw, hw2]
    · rintro k iv3 hk ⟨g3, s3, v3, w3⟩ nx
      refine mk_X5_readBlocks_25 (ro_k hr) (ro_k2 hr) ⟨fun z => absurd z (nI_ge hk (by decide)), fun _ => ⟨vp_in_nI hk (by decide), fun a10 h10 => ?_⟩⟩
      rw [nI_clamp (by omega), ro_b hr hk] at h10
      obtain ⟨k1, k2, k3, k4, k5⟩ := ro_kb hr hk
      subst h10
      rw [k2, k3]
      refine ⟨k1, k1, mk_X5_level (ro_k hr) (mk_X10_checksOf ⟨k1, ?_⟩)⟩
      have e31 : iv3 r0 1 = nI f := by rw [s3, g2 r0 (by omega), b1 1 (by decide), h1, hf]; rfl
      rw [e31, pk_div (by omega) (by decide) (by decide), pk_mul, nI_add, (v3 k hk).2]
      refine sp_mendU (v := gv e (f % 4) k) (g := gg lo k) k4 k5 (by omega) (by omega) rfl (by omega) (v3 k hk).1 (fun iv4 q1 q2 => ⟨k1, fun iv5 h5 => ?_⟩)
      rw [up_row] at h5
      have e5 : iv5 (r0 + 5 + 3 * k) 3 = nI (mU e lo f k) := by rw [h5, row_at, if_pos rfl]; rfl
      have fin : wp X (0, 0) 38 25 [some (.ref r0), none, some (.ref 14), some (.int (nI (decide (wk (mU e lo f) (k + 1) ≠ 0)).toNat)), some (.ref (rvT r0 2)), some (.int (nI 3)), some (.int (nI (k + 1))), none] [] iv5 (Rv P) := by
        refine nx iv5 ⟨fun a z1 z2 => ?_, ?_, fun blk hb => ⟨fun p hp => ?_, ?_⟩, fun blk hb => ?_⟩
        · rw [h5, row_ne (by omega), q1 a z1 (by omega), g3 a z1 z2]
        · rw [h5, row_ne (by omega), q1 r0 (by omega) (by omega), s3]
        · rw [h5, row_ne (by omega), q1 _ (by omega) (by omega)]
          exact (v3 blk hb).1 p hp
        · rw [h5]
          by_cases eb : blk = k
          · subst eb
            rw [row_at, if_neg (by decide), q1 _ (by omega) (by omega)]
            exact (v3 blk hb).2
          · rw [row_ne (by omega), q1 _ (by omega) (by omega)]
            exact (v3 blk hb).2
        · by_cases eb : blk = k
          · subst eb
            refine ⟨e5, fun hu p hp => ?_⟩
            rw [h5, row_ne (by omega)]
            exact q2 hu p hp
          · rw [h5, row_ne (by omega), row_ne (by omega), q1 _ (by omega) (by omega), q1 _ (by omega) (by omega)]
            exact w3 blk (by omega)
      rw [nI_add]
      rw [wk] at fin
      refine ⟨fun z => ⟨k1, ?_⟩, fun z => ?_⟩
      · rw [bI_0] at z
        have z0 : wk (mU e lo f) k = 0 := by simpa using z
        rw [e5]
        by_cases hu : mU e lo f k = 4294967295
        · rw [if_pos hu] at fin
          exact ⟨fun _ => fin, fun z1 => absurd (by rw [hu]) z1⟩
        · have := mU_lt hfl hu
          rw [if_neg hu, z0] at fin
          exact ⟨fun z1 => absurd z1 (m1_ne (by omega)), fun _ => fin⟩
      · have z0 : ¬ wk (mU e lo f) k = 0 := fun q => z (by rw [q]; rfl)
        have : ¬ (if mU e lo f k = 4294967295 then 2 else wk (mU e lo f) k) = 0 := by split <;> omega
        rw [decide_eq_true this] at fin
        exact fin
theorem sp_look {P : IV → Prop} {D tu lo : Nat → Bool} {b : Bool} (hr : RO r0) (h21 : iv 21 1 = nI b.toNat) (hD : (iv 21 2 = nI 4294967295 ∧ D = fun _ => false) ∨ ∃ w, w < 4 ∧ iv 21 2 = nI w ∧ ∀ r, r < 15 → iv (28 + w) r = nI (rr D r)) (ht : ∀ r, r < 15 → iv 7 r = nI (rr tu r) ∧ iv 8 r = nI (rr lo r)) {x : Option Nat} (hx : ∀ i, x = some i → i < 225) (h : ∀ iv', (∀ a, a ≠ r0 → a ≠ r0 + 2 → a ≠ r0 + 3 → iv' a = iv a) → (∀ j, j ≠ 6 → iv' r0 j = iv r0 j) → iv' r0 6 = nI b.toNat → LK iv' r0 (match x with | none => fun i => xor (D i) (tu i) | some i => flp (fun i => xor (D i) (tu i)) i) lo → P iv') : wc X 36 [.ref r0, .ref 21, .ref 6, .int (oI x)] iv (Rv P) := by
  have hr2 := ro_r hr
  refine mk_X5_look (ro_k hr) ⟨by rw [h21]; cases b <;> decide, fun iv1 g1 => ?_⟩
  rw [up_row] at g1
  refine lup (τ := IV) (W := fun k iv2 => wp X (0, 0) 36 6 [some (.ref r0), some (.ref 21), some (.ref 6), some (.int (oI x)), some (.int (nI k))] [] iv2 (Rv P)) (I := fun k iv2 => (∀ a, a ≠ r0 → a ≠ r0 + 2 → a ≠ r0 + 3 → iv2 a = iv a) ∧ (∀ j, j ≠ 6 → iv2 r0 j = iv r0 j) ∧ iv2 r0 6 = nI b.toNat ∧ ∀ r, r < k → iv2 (r0 + 2) r = nI (rr (fun i => xor (D i) (tu i)) r) ∧ iv2 (r0 + 3) r = nI (rr lo r)) 15 ?_ ?_ 15 0 iv1 rfl ⟨fun a h1 _ _ => by rw [g1, row_ne h1], fun j hj => by rw [g1, row_at, if_neg hj], by rw [g1, row_at, if_pos rfl, h21], fun r hr' => absurd hr' (by omega)⟩
  · rintro iv2 ⟨a2, b2, c2, d2⟩
    refine mk_X5_look_6 (ro_k hr) (ro_k3 hr) (ro_k4 hr) ⟨fun _ => ?_, fun z => absurd (nI_le (Nat.le_refl 15) (by decide)) z⟩
    cases x with
    | none => exact ⟨fun _ => h iv2 a2 b2 c2 d2, fun z => absurd rfl z⟩
    | some i =>
      have hi := hx i rfl
      refine ⟨fun z => absurd z (m1_ne (by omega)), fun _ => ?_⟩
      show vp_in (nI i / nI 15) 15 ∧ vp_in (nI i / nI 15) 15 ∧ ∀ iv1 : IV, iv1 = mm_up2 iv2 (rvT r0 3) (nI i / nI 15).toNatClampNeg ((iv2 (rvT r0 3) (nI i / nI 15).toNatClampNeg) ^^^ ((nI 1) <<< ((nI i - nI i / nI 15 * nI 15) &&& 31))) → P iv1
      have p15 : (2 : Nat) ^ (i % 15) ≤ 2 ^ 14 := Nat.pow_le_pow_right (by decide) (by omega)
      rw [pk_rem (by omega) (by decide) (by decide), pk_div (by omega) (by decide) (by decide), nI_clamp (by omega), ro_3 hr, (d2 (i / 15) (by omega)).1, shl_nI (by omega) (by omega), nI_xor, Nat.one_mul, rr_flp rfl]
      refine ⟨vp_in_nI (by omega) (by decide), vp_in_nI (by omega) (by decide), fun iv3 h3 => ?_⟩
      rw [up_row] at h3
      refine h iv3 (fun a q1 q2 q3 => by rw [h3, row_ne q2, a2 a q1 q2 q3]) (fun j hj => by rw [h3, row_ne (by omega), b2 j hj]) (by rw [h3, row_ne (by omega), c2]) (fun r hr' => ⟨?_, by rw [h3, row_ne (by omega)]; exact (d2 r hr').2⟩)
      rw [h3, row_at]
      by_cases er : r = i / 15
      · rw [if_pos er, er]
      · rw [if_neg er, (d2 r hr').1, rr_flp_ne (fun q => er q.symm)]
  · rintro k iv2 hk ⟨a2, b2, c2, d2⟩ nx
    refine mk_X5_look_6 (ro_k hr) (ro_k3 hr) (ro_k4 hr) ⟨fun z => absurd z (nI_ge hk (by decide)), fun _ => mk_X3_chosen ?_⟩
    rw [a2 21 (by omega) (by omega) (by omega), nI_clamp (n := k) (by omega), ro_3 hr, ro_4 hr]
    have fin : vp_in (nI k) 15 ∧ vp_in (nI k) 15 ∧ (∀ iv4 : IV, iv4 = mm_up2 iv2 (r0 + 2) k (nI (rr D k) ^^^ iv2 7 k) → vp_in (nI k) 15 ∧ vp_in (nI k) 15 ∧ (∀ iv5 : IV, iv5 = mm_up2 iv4 (r0 + 3) k (iv4 8 k) → wp X (0, 0) 36 6 [some (.ref r0), some (.ref 21), some (.ref 6), some (.int (oI x)), some (.int (nI k + nI 1))] [] iv5 (Rv P))) := by
      refine ⟨vp_in_nI hk (by decide), vp_in_nI hk (by decide), fun iv4 h4 => ⟨vp_in_nI hk (by decide), vp_in_nI hk (by decide), fun iv5 h5 => ?_⟩⟩
      rw [a2 7 (by omega) (by omega) (by omega), (ht k hk).1, nI_xor, rr_xor, up_row] at h4
      rw [h4, row_ne (by omega), a2 8 (by omega) (by omega) (by omega), (ht k hk).2, up_row] at h5
      rw [nI_add]
      refine nx iv5 ⟨fun a q1 q2 q3 => by rw [h5, row_ne q3, row_ne q2, a2 a q1 q2 q3], fun j hj => by rw [h5, row_ne (by omega), row_ne (by omega), b2 j hj], by rw [h5, row_ne (by omega), row_ne (by omega), c2], fun r hr' => ?_⟩
      rw [h5, row_ne (by omega), row_at, row_at]
      by_cases er : r = k
      · rw [if_pos er, if_pos er, er]
        exact ⟨rfl, rfl⟩
      · rw [if_neg er, if_neg er, row_ne (by omega)]
        exact d2 r (by omega)
    rcases hD with ⟨q1, q2⟩ | ⟨w, q1, q2, q3⟩
    · rw [q1]
      refine ⟨fun _ => ?_, fun z => absurd rfl z⟩
      rw [q2, rr_0] at fin
      exact fin
    · rw [q2]
      refine ⟨fun z => absurd z (m1_ne (by omega)), fun _ => ⟨vp_in_nI q1 (by decide), fun a1 ha1 => ?_⟩⟩
      rw [nI_clamp (by omega)] at ha1
      have hw : rvT 27 w = 28 + w ∧ kdT (28 + w) = (1, 15) := by
        have : w = 0 ∨ w = 1 ∨ w = 2 ∨ w = 3 := by omega
        rcases this with rfl | rfl | rfl | rfl <;> exact ⟨rfl, rfl⟩
      rw [hw.1] at ha1
      subst ha1
      refine ⟨hw.2, vp_in_nI hk (by decide), ?_⟩
      rw [a2 (28 + w) (by omega) (by omega) (by omega), q3 k hk]
      exact fin
end TAKE
