/-! THE CLASS MAKES ITS MARK -/
def fxD (l w i : Nat) : Bool := decide (frN i = 4294967295) && fx l w i
theorem fx_t1 : ∀ l, l < 3 → ∀ w, w < 4 → ∀ r, r < 15 → (r = 3 ∨ r = 11 ∨ mm_t1.getD r 0 = rr (fxD l w) r) := by decide +kernel
theorem fx_11 : ∀ l, l < 3 → ∀ w, w < 4 → rb (fun c => (4 * l + w).testBit (3 - c)) 4 = rr (fxD l w) 11 := by decide +kernel
theorem fx_3 : ∀ l, l < 3 → ∀ w, w < 4 → rb (fun c => (4 * l + w).testBit (3 - c)) 4 ||| rb (fun c => (4 * l + w).testBit (3 - c)) 4 * 2 ^ 11 = rr (fxD l w) 3 := by decide +kernel
theorem rb_bit (f : Nat → Bool) (n : Nat) : rb f n ||| (f n).toNat * 2 ^ n = rb f (n + 1) := by
  rw [rb, Nat.mul_comm, Nat.or_comm, Nat.add_comm]
  exact (Nat.two_pow_add_eq_or_of_lt (rb_lt _ _) _).symm
theorem ck_gone : ∀ l, l < 3 → nI 16384 - nI (1 * 2 ^ (12 - 2 * l)) = nI (rb (ckg l) 14) := by decide +kernel
/-- the class's mark -/
def CM (iv : IV) (T : TX) : Prop := iv 21 0 = nI (lv T) ∧ iv 21 1 = nI (th T).toNat ∧ (th T = false → iv 21 2 = nI 4294967295 ∧ iv 21 3 = nI 0) ∧ (th T = true → iv 21 2 = nI (mkT T) ∧ iv 21 3 = nI (ct (Dt T (mkT T)) 225) ∧ (∀ blk, blk < 3 → ∀ p, p < 14 → iv (23 + blk) p = nI (sS T blk p).1) ∧ (∀ r, r < 15 → iv 26 r = nI (rr (Dt T 4) r)) ∧ (∀ w, w < 4 → ∀ r, r < 15 → iv (28 + w) r = nI (rr (Dt T w) r)) ∧ ∀ w, w < 4 → iv 32 w = nI (pnT T w))
/-- the symbols' cells hold symbols -/
def SYr (iv : IV) : Prop := ∀ blk, blk < 3 → ∀ p, p < 14 → ∃ g : G, iv (23 + blk) p = nI g.1
theorem k22 {k : Nat} (h : k < 3) : rvT 22 k = 23 + k ∧ kdT (23 + k) = (1, 14) := by
  have : k = 0 ∨ k = 1 ∨ k = 2 := by omega
  rcases this with rfl | rfl | rfl <;> exact ⟨rfl, rfl⟩
theorem k27 {w : Nat} (h : w < 4) : rvT 27 w = 28 + w ∧ kdT (28 + w) = (1, 15) := by
  have : w = 0 ∨ w = 1 ∨ w = 2 ∨ w = 3 := by omega
  rcases this with rfl | rfl | rfl | rfl <;> exact ⟨rfl, rfl⟩
def crD (s : Nat → Nat → G) (n i : Nat) : Bool := decide (frN i < n) && sbit s (frN i)
theorem frN_none {i : Nat} (hi : i < 225) : ¬ frN i = 4294967295 ↔ frN i < 171 := by
  rcases frN_ok i hi with q | q
  · exact ⟨fun z => absurd q z, fun z => by omega⟩
  · exact ⟨fun _ => q.1, fun _ => by omega⟩
theorem Dt_or {T : TX} {w r : Nat} (hw : w < 5) (hr : r < 15) : rr (fxD (lv T) (w % 4)) r ||| (rr (crD (sS T) 168) r ^^^ rr (mkD w) r) = rr (Dt T w) r := by
  unfold rr
  rw [rb_xor, rb_or]
  refine rb_congr (fun c hc => ?_)
  unfold fxD crD mkD Dt
  by_cases h : frN (15 * r + c) = 4294967295
  · rw [h, if_pos rfl]
    have e : fx (lv T) (w % 4) (15 * r + c) = fx (lv T) w (15 * r + c) := by unfold fx; rw [Nat.mod_mod]
    rw [e]
    simp
  · have h1 := (frN_none (i := 15 * r + c) (by omega)).mp h
    rw [if_neg h, decide_eq_false h, decide_eq_true h]
    have e : (decide (frN (15 * r + c) < 168) && sbit (sS T) (frN (15 * r + c))) = sbit (sS T) (frN (15 * r + c)) := by
      unfold sbit
      cases decide (frN (15 * r + c) < 168) <;> rfl
    rw [e, Bool.false_and, Bool.true_and, Bool.false_or]
section MAKEC
variable {X : Nat × (Nat → Int32)} {iv : IV}
theorem sp_fixed {P : Int32 → IV → Prop} {l w r : Nat} (h21 : iv 21 0 = nI l) (hl : l < 3) (hw : w < 4) (hr : r < 15) (p : P (nI (rr (fxD l w) r)) iv) : wc X 19 [.ref 21, .int (nI r), .int (nI w)] iv (Ri P) := by
  have loop : ∀ F, F = 4 * l + w → (r = 3 ∨ r = 11) → wp X (0, 0) 19 21 [none, some (.int (nI r)), none, some (.int (nI F)), some (.int (nI 0)), some (.int (nI 0))] [] iv (Ri P) := by
    intro F hF hr3
    refine ldn (W := fun k => wp X (0, 0) 19 21 [none, some (.int (nI r)), none, some (.int (nI F)), some (.int (nI (rb (fun c => F.testBit (3 - c)) k))), some (.int (nI k))] [] iv (Ri P)) 4 ?_ ?_
    · refine mk_X3_fixedDots_21 ⟨fun _ => ?_, fun z => absurd (nI_le (Nat.le_refl 4) (by decide)) z⟩
      have b := rb_lt (fun c => F.testBit (3 - c)) 4
      rw [nI_eq (by omega) (by decide), shl_nI (by decide) (by omega), nI_or]
      subst hF
      refine ⟨fun z => ?_, fun z => ?_⟩
      · rw [fx_11 l hl w hw, ← z]
        exact p
      · have e : r = 3 := by omega
        rw [fx_3 l hl w hw, ← e]
        exact p
    · intro k hk nx
      refine mk_X3_fixedDots_21 ⟨fun z => absurd z (nI_ge hk (by decide)), fun _ => ?_⟩
      rw [pk_sub (by omega)]
      refine sp_bit (by omega) (by omega) (fun v3 h3 => ?_)
      have b := toNat_lt (F.testBit (3 - k))
      have b2 : (2 : Nat) ^ k ≤ 2 ^ 3 := Nat.pow_le_pow_right (by decide) (by omega)
      rw [shl_nI (by omega) (by
        have : (F.testBit (3 - k)).toNat * 2 ^ k ≤ 1 * 2 ^ 3 := Nat.mul_le_mul (by omega) b2
        omega), nI_or] at h3
      have e := rb_bit (fun c => F.testBit (3 - c)) k
      rw [h3, e, nI_add]
      exact nx
  refine mk_X3_fixedDots ?_
  rw [nI_eq (by omega) (by decide), nI_eq (by omega) (by decide), h21, pk_mul, nI_add]
  refine ⟨fun z v1 h1 => ?_, fun z => ⟨fun z1 v1 h1 => ?_, fun z1 => ⟨vp_in_nI hr (by decide), ?_⟩⟩⟩
  · rw [h1]; exact loop _ rfl (Or.inl z)
  · rw [h1]; exact loop _ rfl (Or.inr z1)
  · rw [nI_clamp (by omega)]
    show P (nI (mm_t1.getD r 0)) iv
    rw [((fx_t1 l hl w hw r hr).resolve_left z).resolve_left z1]
    exact p
theorem sp_layItems {P : IV → Prop} {T : TX} (hT : CTx iv T) (h21 : iv 21 0 = nI (lv T)) (h : ∀ iv', (∀ a, ¬ (23 ≤ a ∧ a ≤ 25) → iv' a = iv a) → (∀ blk, blk < 3 → ∀ p, p < 12 - 2 * lv T → iv' (23 + blk) p = nI (itG T blk p).1) → (∀ blk, blk < 3 → ∀ p, 12 - 2 * lv T ≤ p → iv' (23 + blk) p = iv (23 + blk) p) → P iv') : wc X 15 [.ref 21, .ref 2] iv (Rv P) := by
  have hl := lv_3 T
  obtain ⟨hok, -, h22, -, -, h3, -⟩ := hT
  have hn := hok.1
  refine mk_X3_layItems ?_
  rw [h21]
  refine mk_X10_itemsOf (mk_X10_checksOf ⟨vp_in_nI (by decide) (by decide), vp_in_nI (by decide) (by decide), fun iv1 h1 => ?_⟩)
  rw [nI_clamp (by decide), h22, up_row] at h1
  simp only [pk_mul, nI_add]
  rw [pk_sub (by omega), pk_mul, show 14 - (2 + 2 * lv T) = 12 - 2 * lv T by omega]
  refine lup (τ := IV) (W := fun i iv2 => wp X (0, 0) 15 16 [some (.ref 21), some (.ref 2), some (.int (nI (3 * (12 - 2 * lv T)))), some (.int (nI (i + 1))), none] [] iv2 (Rv P)) (I := fun i iv2 => (∀ a, ¬ (23 ≤ a ∧ a ≤ 25) → iv2 a = iv a) ∧ (∀ i', i' < i + 1 → iv2 (23 + i' % 3) (i' / 3) = nI (itm T i')) ∧ ∀ blk, blk < 3 → ∀ p, 12 - 2 * lv T ≤ p → iv2 (23 + blk) p = iv (23 + blk) p) (3 * (12 - 2 * lv T) - 1) ?_ ?_ (3 * (12 - 2 * lv T) - 1) 0 iv1 (by omega) ⟨fun a ha => by rw [h1, row_ne (by omega)], fun i' hi' => by
    rw [show i' = 0 by omega, h1]
    show mm_row iv 23 _ 23 0 = _
    rw [row_at, if_pos rfl]
    rfl, fun blk hb p hp => by
    rw [h1]
    by_cases e : blk = 0
    · subst e; rw [row_at, if_neg (by omega)]
    · rw [row_ne (by omega)]⟩
  · rintro iv2 ⟨a2, b2, c2⟩
    rw [show 3 * (12 - 2 * lv T) - 1 + 1 = 3 * (12 - 2 * lv T) by omega] at b2 ⊢
    refine mk_X3_layItems_16 ⟨fun _ => h iv2 a2 (fun blk hb p hp => ?_) c2, fun z => absurd (nI_le (Nat.le_refl _) (by omega)) z⟩
    have := b2 (3 * p + blk) (by omega)
    rw [show (3 * p + blk) % 3 = blk by omega, show (3 * p + blk) / 3 = p by omega] at this
    rw [this, itG_val hok]
  · rintro i iv2 hi ⟨a2, b2, c2⟩ nx
    have hx : (if i / 2 < T.1 then T.2.1 (i / 2) else 0) < 256 := by
      split
      · rename_i q; exact hok.2.1 _ q
      · decide
    have hit : itm T (i + 1) = if i % 2 = 0 then (if i / 2 < T.1 then T.2.1 (i / 2) else 0) / 16 else (if i / 2 < T.1 then T.2.1 (i / 2) else 0) % 16 := by
      unfold itm
      rw [if_neg (by omega), Nat.add_sub_cancel]
    refine mk_X3_layItems_16 ⟨fun z => absurd z (nI_ge (by omega) (by omega)), fun _ => ?_⟩
    rw [pk_sub (by omega), Nat.add_sub_cancel, pk_div (by omega) (by decide) (by decide), pk_rem (d := 3) (by omega) (by decide) (by decide), pk_rem (by omega) (by decide) (by decide), pk_div (by omega) (by decide) (by decide), nI_clamp (by omega), nI_clamp (by omega), nI_add]
    have rest : ∀ x : Nat, x = (if i / 2 < T.1 then T.2.1 (i / 2) else 0) → vp_in (nI ((i + 1) % 3)) 3 ∧ ∀ a3 : Nat, a3 = rvT 22 ((i + 1) % 3) → ((nI ((i + 1) % 2) = nI 1 → kdT a3 = (1, 14) ∧ vp_in (nI ((i + 1) / 3)) 14 ∧ (∀ iv4 : IV, iv4 = mm_up2 iv2 a3 ((i + 1) / 3) (nI x >>> ((nI 4) &&& 31)) → wp X (0, 0) 15 16 [some (.ref 21), some (.ref 2), some (.int (nI (3 * (12 - 2 * lv T)))), some (.int (nI (i + 1 + 1))), none] [] iv4 (Rv P))) ∧ (¬ (nI ((i + 1) % 2) = nI 1) → kdT a3 = (1, 14) ∧ vp_in (nI ((i + 1) / 3)) 14 ∧ (∀ iv5 : IV, iv5 = mm_up2 iv2 a3 ((i + 1) / 3) (nI x &&& (nI 15)) → wp X (0, 0) 15 16 [some (.ref 21), some (.ref 2), some (.int (nI (3 * (12 - 2 * lv T)))), some (.int (nI (i + 1 + 1))), none] [] iv5 (Rv P)))) := by
      intro x hxe
      refine ⟨vp_in_nI (by omega) (by decide), fun a3 h3' => ?_⟩
      obtain ⟨e1, e2⟩ := k22 (k := (i + 1) % 3) (by omega)
      rw [e1] at h3'
      subst h3'
      have fin : ∀ iv4 : IV, iv4 = mm_up2 iv2 (23 + (i + 1) % 3) ((i + 1) / 3) (nI (itm T (i + 1))) → wp X (0, 0) 15 16 [some (.ref 21), some (.ref 2), some (.int (nI (3 * (12 - 2 * lv T)))), some (.int (nI (i + 1 + 1))), none] [] iv4 (Rv P) := by
        intro iv4 h4
        rw [up_row] at h4
        refine nx iv4 ⟨fun a ha => by rw [h4, row_ne (by omega), a2 a ha], fun i' hi' => ?_, fun blk hb p hp => ?_⟩
        · rw [h4]
          by_cases e : i' % 3 = (i + 1) % 3
          · rw [e, row_at]
            by_cases e' : i' / 3 = (i + 1) / 3
            · rw [if_pos e', show i' = i + 1 by omega]
            · rw [if_neg e', ← e]
              exact b2 i' (by omega)
          · rw [row_ne (by omega)]
            exact b2 i' (by omega)
        · rw [h4]
          by_cases e : blk = (i + 1) % 3
          · subst e
            rw [row_at, if_neg (by omega)]
            exact c2 _ hb p hp
          · rw [row_ne (by omega)]
            exact c2 _ hb p hp
      rw [nI_eq (by omega) (by decide)]
      refine ⟨fun z => ⟨e2, vp_in_nI (by omega) (by decide), fun iv4 h4 => fin iv4 ?_⟩, fun z => ⟨e2, vp_in_nI (by omega) (by decide), fun iv4 h4 => fin iv4 ?_⟩⟩
      · rw [h4, shr_nI (by omega) (by decide), hit, if_pos (by omega), ← hxe]
      · rw [h4, nI_and, l15, hit, if_neg (by omega), ← hxe]
    refine mk_X8_byteAt rfl rfl ?_
    rw [a2 2 (by decide), h22, nI_leI (by omega) (by omega), nI_clamp (by omega), show rvT 2 0 = 3 by rfl, a2 3 (by decide)]
    refine ⟨fun z => absurd z (nI_pos (by omega)), fun _ => ⟨fun z => rest 0 (by rw [if_neg (by omega)]), fun z => ⟨vp_in_nI (by omega) (by decide), ?_⟩⟩⟩
    rw [h3 _ (by omega)]
    exact rest _ (by rw [if_pos (by omega)])
theorem sp_addChecks {P : IV → Prop} {T : TX} (h21 : iv 21 0 = nI (lv T)) (hv : ∀ blk, blk < 3 → ∀ p, p < 12 - 2 * lv T → iv (23 + blk) p = nI (itG T blk p).1) (hy : SYr iv) (h : ∀ iv', (∀ a, ¬ (14 ≤ a ∧ a ≤ 20) → ¬ (23 ≤ a ∧ a ≤ 25) → iv' a = iv a) → (∀ blk, blk < 3 → ∀ p, p < 14 → iv' (23 + blk) p = nI (sS T blk p).1) → P iv') : wc X 16 [.ref 21, .ref 14] iv (Rv P) := by
  have hl := lv_3 T
  refine mk_X3_addChecks ?_
  rw [h21]
  refine mk_X10_itemsOf (mk_X10_checksOf (fun v3 h3 => ?_))
  rw [pk_mul, nI_add, pk_sub (by omega), show 14 - (2 + 2 * lv T) = 12 - 2 * lv T by omega, shl_nI (by omega) (by
    have : (2 : Nat) ^ (12 - 2 * lv T) ≤ 2 ^ 12 := Nat.pow_le_pow_right (by decide) (by omega)
    omega), ck_gone _ hl] at h3
  subst h3
  refine lup (τ := IV) (W := fun k iv1 => wp X (0, 0) 16 12 [some (.ref 21), some (.ref 14), none, some (.int (nI (rb (ckg (lv T)) 14))), some (.int (nI k))] [] iv1 (Rv P)) (I := fun k iv1 => (∀ a, ¬ (14 ≤ a ∧ a ≤ 20) → ¬ (23 ≤ a ∧ a < 23 + k) → iv1 a = iv a) ∧ ∀ blk, blk < k → ∀ p, p < 14 → iv1 (23 + blk) p = nI (sS T blk p).1) 3 ?_ ?_ 3 0 iv rfl ⟨fun _ _ _ => rfl, fun b hb => absurd hb (by omega)⟩
  · rintro iv1 ⟨a1, b1⟩
    exact mk_X3_addChecks_12 ⟨fun _ => h iv1 (fun a q1 q2 => a1 a q1 (by omega)) b1, fun z => absurd (nI_le (Nat.le_refl 3) (by decide)) z⟩
  · rintro k iv1 hk ⟨a1, b1⟩ nx
    obtain ⟨e1, e2⟩ := k22 hk
    refine mk_X3_addChecks_12 ⟨fun z => absurd z (nI_ge hk (by decide)), fun _ => ⟨vp_in_nI hk (by decide), fun a4 h4 => ?_⟩⟩
    rw [nI_clamp (by omega), e1] at h4
    subst h4
    rw [a1 21 (by decide) (by omega), h21]
    refine mk_X10_checksOf ⟨vp_in_nI hk (by decide), fun a5 h5 => ?_⟩
    rw [nI_clamp (by omega), e1] at h5
    subst h5
    rw [pk_mul, nI_add]
    obtain ⟨v, hvv⟩ : ∃ v : Nat → G, ∀ p, p < 14 → iv1 (23 + k) p = nI (v p).1 := by
      refine ⟨fun p => if hp : p < 14 then Classical.choose (hy k hk p hp) else 0, fun p hp => ?_⟩
      rw [a1 _ (by omega) (by omega)]
      show _ = nI (if hp : p < 14 then Classical.choose (hy k hk p hp) else 0).1
      rw [dif_pos hp]
      exact Classical.choose_spec (hy k hk p hp)
    have hvi : ∀ p, p < 12 - 2 * lv T → v p = itG T k p := fun p hp => by
      have q1 := hvv p (by omega)
      rw [a1 _ (by omega) (by omega), hv k hk p hp] at q1
      exact Fin.ext (((nI_eq (by omega) (by omega)).mp q1).symm)
    have ho := mr_off (c := 2 + 2 * lv T) (v := v) (v' := itG T k) (g := ckg (lv T)) (fun p hp hg => hvi p (by
      unfold ckg at hg
      have := of_decide_eq_false hg
      omega))
    have hm := (cwd_mr hl (itG T k)).2
    refine sp_mendU (v := v) (g := ckg (lv T)) e2 e2 (by omega) (by omega) rfl (by omega) hvv (fun iv2 q1 q2 => ?_)
    rw [nI_add]
    have hne : mu (2 + 2 * lv T) v (ckg (lv T)) ≠ 4294967295 := by rw [ho.1, hm]; decide
    refine nx iv2 ⟨fun a z1 z2 => by rw [q1 a z1 (by omega)]; exact a1 a z1 (by omega), fun blk hb p hp => ?_⟩
    by_cases e : blk = k
    · subst e
      rw [q2 hne p hp, ho.2 p hp hne]
      rfl
    · rw [q1 _ (by omega) (by omega)]
      exact b1 blk (by omega) p hp
set_option maxHeartbeats 1000000 in
theorem sp_layDots {P : IV → Prop} {T : TX} (hW : WY iv) (h21 : iv 21 0 = nI (lv T)) (hs : ∀ blk, blk < 3 → ∀ p, p < 14 → iv (23 + blk) p = nI (sS T blk p).1) (h : ∀ iv', (∀ a, a ≠ 26 → a ≠ 33 → ¬ (28 ≤ a ∧ a ≤ 31) → iv' a = iv a) → (∀ r, r < 15 → iv' 26 r = nI (rr (Dt T 4) r)) → (∀ w, w < 4 → ∀ r, r < 15 → iv' (28 + w) r = nI (rr (Dt T w) r)) → P iv') : wc X 17 [.ref 21, .ref 10] iv (Rv P) := by
  have hl := lv_3 T
  refine mk_X3_layDots ?_
  refine lup (τ := IV) (W := fun k iv1 => wp X (0, 0) 17 2 [some (.ref 21), some (.ref 10), some (.int (nI k)), none, none, none] [] iv1 (Rv P)) (I := fun k iv1 => (∀ a, a ≠ 33 → iv1 a = iv a) ∧ ∀ r, r < k → iv1 33 r = nI 0) 15 ?_ ?_ 15 0 iv rfl ⟨fun _ _ => rfl, fun r hr => absurd hr (by omega)⟩
  · rintro iv1 ⟨a1, b1⟩
    refine mk_X3_layDots_2 ⟨fun _ => ?_, fun z => absurd (nI_le (Nat.le_refl 15) (by decide)) z⟩
    refine lup (τ := IV) (W := fun n iv2 => wp X (0, 0) 17 14 [some (.ref 21), some (.ref 10), some (.int (nI n)), none, none, none] [] iv2 (Rv P)) (I := fun n iv2 => (∀ a, a ≠ 33 → iv2 a = iv a) ∧ ∀ r, r < 15 → iv2 33 r = nI (rr (crD (sS T) n) r)) 168 ?_ ?_ 168 0 iv1 rfl ⟨a1, fun r hr => by
      rw [b1 r hr, show rr (crD (sS T) 0) r = 0 from (rb_eq (by decide) (fun c _ => by unfold crD; rw [Nat.zero_testBit, decide_eq_false (by omega)]; rfl)).symm]⟩
    · rintro iv2 ⟨a2, b2⟩
      refine mk_X3_layDots_14 ⟨fun _ => ?_, fun z => absurd (nI_le (Nat.le_refl 168) (by decide)) z⟩
      refine lup (τ := IV) (W := fun r iv3 => wp X (0, 0) 17 60 [some (.ref 21), none, some (.int (nI r)), none, none, none] [] iv3 (Rv P)) (I := fun r iv3 => (∀ a, a ≠ 26 → ¬ (28 ≤ a ∧ a ≤ 31) → iv3 a = iv2 a) ∧ (∀ q, q < r → iv3 26 q = nI (rr (Dt T 4) q)) ∧ ∀ w, w < 4 → ∀ q, q < r → iv3 (28 + w) q = nI (rr (Dt T w) q)) 15 ?_ ?_ 15 0 iv2 rfl ⟨fun _ _ _ => rfl, fun q hq => absurd hq (by omega), fun w _ q hq => absurd hq (by omega)⟩
      · rintro iv3 ⟨a3, b3, c3⟩
        refine mk_X3_layDots_60 ⟨fun _ => ?_, fun z => absurd (nI_le (Nat.le_refl 15) (by decide)) z⟩
        exact h iv3 (fun a q1 q2 q3 => by rw [a3 a q1 q3, a2 a q2]) b3 c3
      · rintro r iv3 hr ⟨a3, b3, c3⟩ nx
        refine mk_X3_layDots_60 ⟨fun z => absurd z (nI_ge hr (by decide)), fun _ => ?_⟩
        have e33 : iv3 33 r = nI (rr (crD (sS T) 168) r) := by rw [a3 33 (by decide) (by decide)]; exact b2 r hr
        refine sp_fixed (l := lv T) (by rw [a3 21 (by decide) (by decide), a2 21 (by decide)]; exact h21) hl (by decide) hr ⟨vp_in_nI hr (by decide), vp_in_nI hr (by decide), fun iv4 h4 => ?_⟩
        rw [nI_clamp (by omega), e33, nI_or, up_row] at h4
        have hd4 := Dt_or (T := T) (w := 4) (r := r) (by decide) hr
        have hm4 : rr (mkD 4) r = 0 := (rb_eq (by decide) (fun c _ => by unfold mkD; rw [Nat.zero_testBit]; exact (Bool.and_false _).symm)).symm
        rw [hm4, Nat.xor_zero] at hd4
        rw [show 4 % 4 = 0 by rfl] at hd4
        rw [hd4] at h4
        refine lup (τ := IV) (W := fun m iv5 => wp X (0, 0) 17 78 [some (.ref 21), none, some (.int (nI r)), some (.int (nI m)), none, none] [] iv5 (Rv P)) (I := fun m iv5 => (∀ a, ¬ (28 ≤ a ∧ a ≤ 31) → iv5 a = iv4 a) ∧ (∀ w, w < 4 → ∀ q, q < r → iv5 (28 + w) q = nI (rr (Dt T w) q)) ∧ ∀ w, w < m → iv5 (28 + w) r = nI (rr (Dt T w) r)) 4 ?_ ?_ 4 0 iv4 rfl ⟨fun _ _ => rfl, fun w hw q hq => by rw [h4, row_ne (by omega)]; exact c3 w hw q hq, fun w hw => absurd hw (by omega)⟩
        · rintro iv5 ⟨a5, b5, c5⟩
          refine mk_X3_layDots_78 ⟨fun _ => ?_, fun z => absurd (nI_le (Nat.le_refl 4) (by decide)) z⟩
          rw [nI_add]
          refine nx iv5 ⟨fun a q1 q2 => by rw [a5 a q2, h4, row_ne q1, a3 a q1 q2], fun q hq => ?_, fun w hw q hq => ?_⟩
          · rw [a5 26 (by decide), h4, row_at]
            by_cases e : q = r
            · rw [if_pos e, e]
            · rw [if_neg e]; exact b3 q (by omega)
          · by_cases e : q = r
            · rw [e]; exact c5 w hw
            · exact b5 w hw q (by omega)
        · rintro m iv5 hm ⟨a5, b5, c5⟩ nx5
          obtain ⟨k1, k2⟩ := k27 hm
          refine mk_X3_layDots_78 ⟨fun z => absurd z (nI_ge hm (by decide)), fun _ => ⟨vp_in_nI hm (by decide), fun a6 h6 => ?_⟩⟩
          rw [nI_clamp (by omega), k1] at h6
          subst h6
          refine sp_fixed (l := lv T) (by rw [a5 21 (by decide), h4, row_ne (by decide), a3 21 (by decide) (by decide), a2 21 (by decide)]; exact h21) hl hm hr ⟨vp_in_nI hr (by decide), sp_masked hm hr ⟨k2, vp_in_nI hr (by decide), fun iv6 h6 => ?_⟩⟩
          have hdm := Dt_or (T := T) (w := m) (r := r) (by omega) hr
          rw [show m % 4 = m by omega] at hdm
          rw [nI_clamp (by omega), a5 33 (by decide), h4, row_ne (by decide), e33, nI_xor, nI_or, hdm, up_row] at h6
          rw [nI_add]
          refine nx5 iv6 ⟨fun a ha => by rw [h6, row_ne (by omega), a5 a ha], fun w hw q hq => ?_, fun w hw => ?_⟩
          · rw [h6]
            by_cases e : w = m
            · subst e; rw [row_at, if_neg (by omega)]; exact b5 w hw q hq
            · rw [row_ne (by omega)]; exact b5 w hw q hq
          · rw [h6]
            by_cases e : w = m
            · subst e; rw [row_at, if_pos rfl]
            · rw [row_ne (by omega)]; exact c5 w (by omega)
    · rintro n iv2 hn ⟨a2, b2⟩ nx
      have hd := dO_ok n (by omega)
      have hw := hW.2 n (by omega)
      obtain ⟨k1, k2⟩ := k22 (k := n / 4 % 3) (by omega)
      refine mk_X3_layDots_14 ⟨fun z => absurd z (nI_ge hn (by decide)), fun _ => ?_⟩
      rw [pk_rem (a := n) (by omega) (by decide) (by decide), pk_div (a := n) (by omega) (by decide) (by decide), pk_rem (by omega) (by decide) (by decide), pk_div (by omega) (by decide) (by decide), nI_clamp (n := n / 4 % 3) (by omega), nI_clamp (n := n / 4 / 3) (by omega), pk_sub (by omega)]
      refine ⟨vp_in_nI (by omega) (by decide), fun a1' h1' => ?_⟩
      rw [k1] at h1'
      subst h1'
      refine ⟨k2, vp_in_nI (by omega) (by decide), fun v2 h2 => ?_⟩
      rw [a2 _ (by omega), hs _ (by omega) _ (by omega)] at h2
      subst h2
      refine sp_bit (by omega) (by omega) ?_
      rw [nI_clamp (n := n) (by omega), a2 12 (by decide), a2 13 (by decide), hw.1, hw.2, nI_clamp (by omega), b2 _ hd.2.2.1]
      refine ⟨vp_in_nI (by omega) (by decide), vp_in_nI hd.2.2.1 (by decide), vp_in_nI (by omega) (by decide), vp_in_nI hd.2.2.1 (by decide), fun iv3 h3 => ?_⟩
      have bb := toNat_lt ((sS T (n / 4 % 3) (n / 4 / 3)).1.testBit (3 - n % 4))
      have b15 : (2 : Nat) ^ wyC.getD n 0 ≤ 2 ^ 14 := Nat.pow_le_pow_right (by decide) (by omega)
      rw [shl_nI (by omega) (by
        have : ((sS T (n / 4 % 3) (n / 4 / 3)).1.testBit (3 - n % 4)).toNat * 2 ^ wyC.getD n 0 ≤ 1 * 2 ^ 14 := Nat.mul_le_mul (by omega) b15
        omega), nI_or, up_row] at h3
      have hsb : (sS T (n / 4 % 3) (n / 4 / 3)).1.testBit (3 - n % 4) = sbit (sS T) n := by unfold sbit; rw [decide_eq_true hn, Bool.true_and]
      rw [hsb] at h3
      have hdo : 15 * wyR.getD n 0 + wyC.getD n 0 = dO n := rfl
      have hor : rr (crD (sS T) n) (wyR.getD n 0) ||| (sbit (sS T) n).toNat * 2 ^ wyC.getD n 0 = rr (crD (sS T) (n + 1)) (wyR.getD n 0) := by
        have e1 : (sbit (sS T) n).toNat * 2 ^ wyC.getD n 0 = rb (fun c => decide (c = wyC.getD n 0) && sbit (sS T) n) 15 := by
          cases sbit (sS T) n with
          | true =>
            show 1 * _ = _
            rw [Nat.one_mul, rb_one hd.2.2.2]
            exact rb_congr (fun c _ => (Bool.and_true _).symm)
          | false =>
            show 0 * _ = _
            rw [Nat.zero_mul]
            exact rb_eq (by decide) (fun c _ => by rw [Nat.zero_testBit, Bool.and_false])
        rw [e1]
        unfold rr
        rw [rb_or]
        refine rb_congr (fun c hc => ?_)
        unfold crD
        by_cases e : c = wyC.getD n 0
        · have h1 : frN (15 * wyR.getD n 0 + c) = n := by rw [e, hdo, hd.2.1]
          rw [h1, decide_eq_true e, decide_eq_true (show n < n + 1 by omega), decide_eq_false (show ¬ n < n by omega)]
          rfl
        · have h1 : frN (15 * wyR.getD n 0 + c) ≠ n := fun q => by
            have h2 := frN_ok (15 * wyR.getD n 0 + c) (by omega)
            rcases h2 with h2 | h2
            · omega
            · have h3 := h2.2
              rw [q] at h3
              omega
          rw [decide_eq_false e, Bool.false_and, Bool.or_false]
          congr 1
          by_cases h4 : frN (15 * wyR.getD n 0 + c) < n
          · rw [decide_eq_true h4, decide_eq_true (by omega)]
          · rw [decide_eq_false h4, decide_eq_false (by omega)]
      rw [hor] at h3
      rw [nI_add]
      refine nx iv3 ⟨fun a ha => by rw [h3, row_ne ha, a2 a ha], fun r hr => ?_⟩
      rw [h3, row_at]
      by_cases e : r = wyR.getD n 0
      · rw [if_pos e, e]
      · rw [if_neg e, b2 r hr]
        congr 1
        refine rr_congr (fun c hc => ?_)
        unfold crD
        have h1 : frN (15 * r + c) ≠ n := fun q => by
          have h2 := frN_ok (15 * r + c) (by omega)
          rcases h2 with h2 | h2
          · omega
          · have h3 := h2.2
            rw [q] at h3
            omega
        congr 1
        by_cases h4 : frN (15 * r + c) < n
        · rw [decide_eq_true h4, decide_eq_true (by omega)]
        · rw [decide_eq_false h4, decide_eq_false (by omega)]
  · rintro k iv1 hk ⟨a1, b1⟩ nx
    refine mk_X3_layDots_2 ⟨fun z => absurd z (nI_ge hk (by decide)), fun _ => ⟨vp_in_nI hk (by decide), fun iv2 h2 => ?_⟩⟩
    rw [nI_clamp (by omega), up_row] at h2
    rw [nI_add]
    refine nx iv2 ⟨fun a ha => by rw [h2, row_ne ha, a1 a ha], fun r hr => ?_⟩
    rw [h2, row_at]
    by_cases e : r = k
    · rw [if_pos e]
    · rw [if_neg e]; exact b1 r (by omega)
theorem sp_chooseMask {P : IV → Prop} {T : TX} (hd : ∀ w, w < 4 → ∀ r, r < 15 → iv (28 + w) r = nI (rr (Dt T w) r)) (h : ∀ iv', (∀ a, a ≠ 21 → a ≠ 32 → iv' a = iv a) → (∀ j, j ≠ 2 → j ≠ 3 → iv' 21 j = iv 21 j) → iv' 21 2 = nI (mkT T) → iv' 21 3 = nI (ct (Dt T (mkT T)) 225) → (∀ w, w < 4 → iv' 32 w = nI (pnT T w)) → P iv') : wc X 18 [.ref 21] iv (Rv P) := by
  refine mk_X3_chooseMask (fun iv1 h1 => ?_)
  rw [up_row] at h1
  refine lup (τ := IV) (W := fun k iv2 => wp X (0, 0) 18 5 [some (.ref 21), some (.int (nI k))] [] iv2 (Rv P)) (I := fun k iv2 => (∀ a, a ≠ 21 → a ≠ 32 → iv2 a = iv a) ∧ (∀ j, j ≠ 2 → iv2 21 j = iv 21 j) ∧ iv2 21 2 = nI (am (pnT T) k) ∧ ∀ w, w < k → iv2 32 w = nI (pnT T w)) 4 ?_ ?_ 4 0 iv1 rfl ⟨fun a q1 q2 => by rw [h1, row_ne q1], fun j hj => by rw [h1, row_at, if_neg hj], by rw [h1, row_at, if_pos rfl]; rfl, fun w hw => absurd hw (by omega)⟩
  · rintro iv2 ⟨a2, b2, c2, d2⟩
    have hm := mkT_lt T
    obtain ⟨k1, k2⟩ := k27 hm
    refine mk_X3_chooseMask_5 ⟨fun _ => ?_, fun z => absurd (nI_le (Nat.le_refl 4) (by decide)) z⟩
    have c2' : iv2 21 2 = nI (mkT T) := c2
    rw [c2']
    refine ⟨vp_in_nI hm (by decide), fun a3 h3 => ?_⟩
    rw [nI_clamp (by omega), k1] at h3
    subst h3
    refine sp_dotsIn (D := Dt T (mkT T)) k2 (fun r hr => by rw [a2 _ (by omega) (by omega)]; exact hd _ hm r hr) (fun iv4 h4 => ?_)
    rw [up_row] at h4
    refine h iv4 (fun a q1 q2 => by rw [h4, row_ne q1, a2 a q1 q2]) (fun j q1 q2 => by rw [h4, row_at, if_neg q2, b2 j q1]) (by rw [h4, row_at, if_neg (by decide), c2']) (by rw [h4, row_at, if_pos rfl]) (fun w hw => by rw [h4, row_ne (by decide)]; exact d2 w hw)
  · rintro k iv2 hk ⟨a2, b2, c2, d2⟩ nx
    obtain ⟨k1, k2⟩ := k27 hk
    refine mk_X3_chooseMask_5 ⟨fun z => absurd z (nI_ge hk (by decide)), fun _ => ⟨vp_in_nI hk (by decide), fun a5 h5 => ?_⟩⟩
    rw [nI_clamp (by omega), k1] at h5
    subst h5
    refine sp_penaltyOfC (D := Dt T k) k2 (fun r hr => by rw [a2 _ (by omega) (by omega)]; exact hd _ hk r hr) ⟨vp_in_nI hk (by decide), fun iv8 h8 => ⟨vp_in_nI hk (by decide), ?_⟩⟩
    rw [nI_clamp (by omega), up_row] at h8
    have hak : am (pnT T) k ≤ k ∧ am (pnT T) k < 4 := by
      cases k with
      | zero => exact ⟨Nat.le_refl 0, (show 0 < 4 by decide)⟩
      | succ k => have := am_lt (pnT T) k; omega
    have e2 : iv8 21 2 = nI (am (pnT T) k) := by rw [h8, row_ne (by decide), c2]
    have ek : iv8 32 k = nI (pnT T k) := by rw [h8, row_at, if_pos rfl]; rfl
    have ea : iv8 32 (am (pnT T) k) = nI (pnT T (am (pnT T) k)) := by
      by_cases e : am (pnT T) k = k
      · rw [e, ek]
      · rw [h8, row_at, if_neg e]; exact d2 _ (by omega)
    have d8 : ∀ w, w < k + 1 → iv8 32 w = nI (pnT T w) := fun w hw => by
      by_cases e : w = k
      · rw [e, ek]
      · rw [h8, row_at, if_neg e]; exact d2 _ (by omega)
    have bp : pnT T k < 2000 := pn_lt _
    have bq : pnT T (am (pnT T) k) < 2000 := pn_lt _
    have ham : am (pnT T) (k + 1) = if pnT T k < pnT T (am (pnT T) k) then k else am (pnT T) k := rfl
    rw [e2, nI_clamp (by omega), nI_clamp (by omega), ea, ek, nI_leI (by omega) (by omega), nI_add]
    refine ⟨vp_in_nI hak.2 (by decide), fun z => ?_, fun z iv9 h9 => ?_⟩
    · refine nx iv8 ⟨fun a q1 q2 => by rw [h8, row_ne q2, a2 a q1 q2], fun j hj => by rw [h8, row_ne (by decide), b2 j hj], by rw [e2, ham, if_neg (by omega)], d8⟩
    · rw [up_row] at h9
      refine nx iv9 ⟨fun a q1 q2 => by rw [h9, row_ne q1, h8, row_ne q2, a2 a q1 q2], fun j hj => by rw [h9, row_at, if_neg hj, h8, row_ne (by decide), b2 j hj], by rw [h9, row_at, if_pos rfl, ham, if_pos (by omega)], fun w hw => by rw [h9, row_ne (by decide)]; exact d8 w hw⟩
theorem sp_make {P : IV → Prop} {T : TX} (hT : CTx iv T) (hW : WY iv) (hy : SYr iv) (h : ∀ iv', (∀ a, ¬ (14 ≤ a ∧ a ≤ 33) → iv' a = iv a) → CM iv' T → SYr iv' → P iv') : wc X 13 [.ref 21, .ref 2, .int (nI (lv T)), .ref 10, .ref 14] iv (Rv P) := by
  have hn := hT.1.1
  refine mk_X3_make (fun iv1 h1 => ?_)
  rw [up_row] at h1
  rw [h1, row_ne (by decide), hT.2.2.1, ← h1]
  refine sp_hasRoom (by omega) (lv_3 T) ⟨by cases wrg (lv T) T.1 <;> decide, fun iv4 h4 iv5 h5 iv6 h6 => ?_⟩
  rw [up_row] at h4 h5 h6
  have a6 : ∀ a, a ≠ 21 → iv6 a = iv a := fun a q => by rw [h6, row_ne q, h5, row_ne q, h4, row_ne q, h1, row_ne q]
  have e0 : iv6 21 0 = nI (lv T) := by rw [h6, row_at, if_neg (by decide), h5, row_at, if_neg (by decide), h4, row_at, if_neg (by decide), h1, row_at, if_pos rfl]
  have e1 : iv6 21 1 = nI (th T).toNat := by rw [h6, row_at, if_neg (by decide), h5, row_at, if_neg (by decide), h4, row_at, if_pos rfl]; rfl
  have e2 : iv6 21 2 = nI 4294967295 := by rw [h6, row_at, if_neg (by decide), h5, row_at, if_pos rfl]
  have e3 : iv6 21 3 = nI 0 := by rw [h6, row_at, if_pos rfl]
  clear h1 h4 h5 h6
  have y6 : SYr iv6 := fun blk hb p hp => by rw [a6 _ (by omega)]; exact hy blk hb p hp
  rw [e1]
  refine ⟨fun z => ?_, fun z => ?_⟩
  · rw [bI_0] at z
    refine h iv6 (fun a q => a6 a (by omega)) ⟨e0, e1, fun _ => ⟨e2, e3⟩, fun q => by rw [z] at q; cases q⟩ y6
  · have ht : th T = true := by
      cases q : th T with
      | true => rfl
      | false => rw [q] at z; exact absurd rfl z
    have hT6 : CTx iv6 T := CTx_of hT (a6 2 (by decide)) (a6 3 (by decide)) (a6 4 (by decide)) (a6 5 (by decide))
    refine sp_layItems hT6 e0 (fun iv7 a7 b7 c7 => ?_)
    have y7 : SYr iv7 := fun blk hb p hp => by
      by_cases q : p < 12 - 2 * lv T
      · exact ⟨_, b7 blk hb p q⟩
      · rw [c7 blk hb p (by omega)]; exact y6 blk hb p hp
    refine sp_addChecks (T := T) (by rw [a7 21 (by decide)]; exact e0) b7 y7 (fun iv8 a8 b8 => ?_)
    have W8 : WY iv8 := by unfold WY; rw [a8 11 (by decide) (by decide), a8 12 (by decide) (by decide), a8 13 (by decide) (by decide), a7 11 (by decide), a7 12 (by decide), a7 13 (by decide), a6 11 (by decide), a6 12 (by decide), a6 13 (by decide)]; exact hW
    refine sp_layDots W8 (by rw [a8 21 (by decide) (by decide), a7 21 (by decide)]; exact e0) b8 (fun iv9 a9 b9 c9 => ?_)
    refine sp_chooseMask c9 (fun iv10 a10 b10 c10 d10 f10 => ?_)
    have s10 : ∀ blk, blk < 3 → ∀ p, p < 14 → iv10 (23 + blk) p = nI (sS T blk p).1 := fun blk hb p hp => by
      rw [a10 _ (by omega) (by omega), a9 _ (by omega) (by omega) (by omega)]; exact b8 blk hb p hp
    have r10 : ∀ j, j ≠ 2 → j ≠ 3 → iv10 21 j = iv6 21 j := fun j q1 q2 => by rw [b10 j q1 q2, a9 21 (by decide) (by decide) (by decide), a8 21 (by decide) (by decide), a7 21 (by decide)]
    refine h iv10 (fun a q => ?_) ⟨by rw [r10 0 (by decide) (by decide)]; exact e0, by rw [r10 1 (by decide) (by decide)]; exact e1, fun q => (by rw [ht] at q; cases q), fun _ => ⟨c10, d10, s10, fun r hr => by rw [a10 26 (by decide) (by decide)]; exact b9 r hr, fun w hw r hr => by rw [a10 _ (by omega) (by omega)]; exact c9 w hw r hr, f10⟩⟩ (fun blk hb p hp => ⟨_, s10 blk hb p hp⟩)
    rw [a10 a (by omega) (by omega), a9 a (by omega) (by omega) (by omega), a8 a (by omega) (by omega), a7 a (by omega), a6 a (by omega)]
end MAKEC
