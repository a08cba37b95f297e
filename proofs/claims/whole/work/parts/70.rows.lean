/-! ROWS OF DOTS AS BITS -/
def rb (f : Nat → Bool) : Nat → Nat
  | 0 => 0
  | n + 1 => rb f n + 2 ^ n * (f n).toNat
theorem rb_lt (f : Nat → Bool) (n : Nat) : rb f n < 2 ^ n := by
  induction n with
  | zero => exact Nat.one_pos
  | succ n ih =>
    rw [rb, Nat.pow_succ]
    cases f n
    · simp; omega
    · simp; omega
theorem rb_test (f : Nat → Bool) : ∀ n c, (rb f n).testBit c = (decide (c < n) && f c) := by
  intro n
  induction n with
  | zero => intro c; simp [rb]
  | succ n ih =>
    intro c
    rw [rb, Nat.add_comm, Nat.testBit_two_pow_mul_add _ (rb_lt f n)]
    by_cases h : c < n
    · rw [if_pos h, ih, decide_eq_true h, decide_eq_true (by omega)]
    · rw [if_neg h]
      by_cases e : c = n
      · subst e
        rw [decide_eq_true (by omega), Nat.sub_self]
        cases f c <;> rfl
      · rw [decide_eq_false (by omega)]
        have : 1 ≤ c - n := by omega
        obtain ⟨q, hq⟩ := Nat.exists_eq_add_of_le this
        rw [hq, Nat.add_comm 1 q, Nat.testBit_succ]
        cases f n <;> simp
theorem rb_t {f : Nat → Bool} {n c : Nat} (h : c < n) : (rb f n).testBit c = f c := by rw [rb_test, decide_eq_true h]; rfl
theorem rb_eq {f : Nat → Bool} {n m : Nat} (hm : m < 2 ^ n) (h : ∀ c, c < n → m.testBit c = f c) : m = rb f n := by
  apply Nat.eq_of_testBit_eq
  intro c
  by_cases hc : c < n
  · rw [h c hc, rb_t hc]
  · rw [rb_test, decide_eq_false hc, Nat.testBit_lt_two_pow (Nat.lt_of_lt_of_le hm (Nat.pow_le_pow_right (by decide) (by omega)))]
    rfl
theorem rb_congr {f g : Nat → Bool} {n : Nat} (h : ∀ c, c < n → f c = g c) : rb f n = rb g n := rb_eq (rb_lt f n) (fun c hc => by rw [rb_t hc, h c hc])
theorem rb_xor (f g : Nat → Bool) (n : Nat) : rb f n ^^^ rb g n = rb (fun c => xor (f c) (g c)) n := rb_eq (Nat.xor_lt_two_pow (rb_lt f n) (rb_lt g n)) (fun c hc => by rw [Nat.testBit_xor, rb_t hc, rb_t hc])
theorem rb_or (f g : Nat → Bool) (n : Nat) : rb f n ||| rb g n = rb (fun c => f c || g c) n := rb_eq (Nat.or_lt_two_pow (rb_lt f n) (rb_lt g n)) (fun c hc => by rw [Nat.testBit_or, rb_t hc, rb_t hc])
theorem rb_one {n c : Nat} (h : c < n) : 2 ^ c = rb (fun i => decide (i = c)) n := rb_eq (Nat.pow_lt_pow_right (by decide) h) (fun i hi => by rw [Nat.testBit_two_pow]; exact decide_eq_decide.mpr ⟨fun q => q.symm, fun q => q.symm⟩)
theorem rb_ct (f : Nat → Bool) (n : Nat) (hn : n ≤ 15) : ct (gb (rb f n)) 15 = ct f n := by
  have h1 : ct (gb (rb f n)) n = ct f n := ct_congr (fun i hi => rb_t hi)
  rw [← h1, show 15 = n + (15 - n) by omega, ct_split]
  have h2 : ct (fun i => gb (rb f n) (n + i)) (15 - n) = 0 := by
    have : ∀ m, ct (fun i => gb (rb f n) (n + i)) m = 0 := by
      intro m
      induction m with
      | zero => rfl
      | succ m ih =>
        show ct _ m + _ = 0
        rw [ih]
        show 0 + (if gb (rb f n) (n + m) then 1 else 0) = 0
        rw [show gb (rb f n) (n + m) = false by unfold gb; rw [rb_test, decide_eq_false (by omega)]; rfl]
        rfl
    exact this _
  rw [h2, Nat.add_zero]
/-- row r of a square -/
def rr (f : Nat → Bool) (r : Nat) : Nat := rb (fun c => f (15 * r + c)) 15
theorem rr_lt (f : Nat → Bool) (r : Nat) : rr f r < 2 ^ 15 := rb_lt _ 15
theorem rr_t {f : Nat → Bool} {r c : Nat} (h : c < 15) : (rr f r).testBit c = f (15 * r + c) := rb_t h
theorem rr_xor (f g : Nat → Bool) (r : Nat) : rr f r ^^^ rr g r = rr (fun i => xor (f i) (g i)) r := rb_xor _ _ 15
theorem rr_congr {f g : Nat → Bool} {r : Nat} (h : ∀ c, c < 15 → f (15 * r + c) = g (15 * r + c)) : rr f r = rr g r := rb_congr h
theorem rr_0 (r : Nat) : rr (fun _ => false) r = 0 := (rb_eq (by decide) (fun c _ => Nat.zero_testBit c)).symm
/-- one dot other -/
def flp (f : Nat → Bool) (i : Nat) (j : Nat) : Bool := xor (f j) (decide (j = i))
theorem shl_nI {n c : Nat} (hc : c < 32) (h : n * 2 ^ c < 2 ^ 32) : nI n <<< (nI c &&& 31) = nI (n * 2 ^ c) := pk_shlN _ c (sh_k c hc) h
theorem rr_flp {f : Nat → Bool} {i r : Nat} (hi : i / 15 = r) : rr f r ^^^ 2 ^ (i % 15) = rr (flp f i) r := by
  rw [rb_one (n := 15) (by omega)]
  unfold rr
  rw [rb_xor]
  refine rb_congr (fun c hc => ?_)
  unfold flp
  congr 1
  by_cases e : c = i % 15
  · rw [decide_eq_true e, decide_eq_true (by omega)]
  · rw [decide_eq_false e, decide_eq_false (by omega)]
theorem rr_flp_ne {f : Nat → Bool} {i r : Nat} (hi : i / 15 ≠ r) : rr (flp f i) r = rr f r := rr_congr (fun c hc => by
  unfold flp
  rw [decide_eq_false (by omega), Bool.xor_false])
/-- what a mask turns -/
def mkD (w i : Nat) : Bool := decide (frN i ≠ 4294967295) && mbit w (i / 15) (i % 15)
theorem pu_masked : ∀ w, w < 4 → ∀ r, r < 15 → mm_ek 120 [nI w, nI r] = some (nI (rr (mkD w) r)) := by decide +kernel
/-- the object of a reading: 34 is the class's own, 49 the straw's -/
def RO (r0 : Nat) : Prop := r0 = 34 ∨ r0 = 49
section RO
variable {r0 : Nat}
theorem ro_k (hr : RO r0) : kdT r0 = (14, 0) := by rcases hr with rfl | rfl <;> rfl
theorem ro_2 (hr : RO r0) : rvT r0 2 = r0 + 1 := by rcases hr with rfl | rfl <;> rfl
theorem ro_3 (hr : RO r0) : rvT r0 3 = r0 + 2 := by rcases hr with rfl | rfl <;> rfl
theorem ro_4 (hr : RO r0) : rvT r0 4 = r0 + 3 := by rcases hr with rfl | rfl <;> rfl
theorem ro_5 (hr : RO r0) : rvT r0 5 = r0 + 4 := by rcases hr with rfl | rfl <;> rfl
theorem ro_k2 (hr : RO r0) : kdT (rvT r0 2) = (3, 3) := by rcases hr with rfl | rfl <;> rfl
theorem ro_k3 (hr : RO r0) : kdT (rvT r0 3) = (1, 15) := by rcases hr with rfl | rfl <;> rfl
theorem ro_k4 (hr : RO r0) : kdT (rvT r0 4) = (1, 15) := by rcases hr with rfl | rfl <;> rfl
theorem ro_k5 (hr : RO r0) : kdT (rvT r0 5) = (1, 15) := by rcases hr with rfl | rfl <;> rfl
theorem ro_b (hr : RO r0) {k : Nat} (hk : k < 3) : rvT (rvT r0 2) k = r0 + 5 + 3 * k := by
  have : k = 0 ∨ k = 1 ∨ k = 2 := by omega
  rcases hr with rfl | rfl <;> rcases this with rfl | rfl | rfl <;> rfl
theorem ro_kb (hr : RO r0) {k : Nat} (hk : k < 3) : kdT (r0 + 5 + 3 * k) = (10, 0) ∧ rvT (r0 + 5 + 3 * k) 0 = r0 + 6 + 3 * k ∧ rvT (r0 + 5 + 3 * k) 1 = r0 + 7 + 3 * k ∧ kdT (r0 + 6 + 3 * k) = (1, 14) ∧ kdT (r0 + 7 + 3 * k) = (1, 14) := by
  have : k = 0 ∨ k = 1 ∨ k = 2 := by omega
  rcases hr with rfl | rfl <;> rcases this with rfl | rfl | rfl <;> exact ⟨rfl, rfl, rfl, rfl, rfl⟩
theorem ro_r (hr : RO r0) : 34 ≤ r0 ∧ r0 ≤ 49 := by rcases hr with rfl | rfl <;> exact ⟨by decide, by decide⟩
end RO
/-- the way's tables stand -/
def WY (iv : IV) : Prop := (∀ i, i < 225 → iv 11 i = nI (frN i)) ∧ ∀ k, k < 171 → iv 12 k = nI (wyR.getD k 0) ∧ iv 13 k = nI (wyC.getD k 0)
/-- what a reading has taken in -/
def LK (iv : IV) (r0 : Nat) (e lo : Nat → Bool) : Prop := ∀ r, r < 15 → iv (r0 + 2) r = nI (rr e r) ∧ iv (r0 + 3) r = nI (rr lo r)
def FRc (r0 : Nat) (iv iv' : IV) : Prop := ∀ a, ¬ (14 ≤ a ∧ a ≤ 20) → ¬ (r0 ≤ a ∧ a ≤ r0 + 13) → iv' a = iv a
section READC
variable {X : Nat × (Nat → Int32)} {iv : IV} {r0 : Nat}
theorem sp_masked {P : Int32 → IV → Prop} {w r : Nat} (hw : w < 4) (hr : r < 15) (p : P (nI (rr (mkD w) r)) iv) : wc X 120 [.int (nI w), .int (nI r)] iv (Ri P) := pui (as := [nI w, nI r]) (by decide) (pu_masked w hw r hr) p
theorem sp_vote {P : Int32 → IV → Prop} {e lo : Nat → Bool} (hr : RO r0) (hL : LK iv r0 e lo) {r c : Nat} (h1 : r < 15) (h2 : c < 15) (p : P (zI (vt e lo (15 * r + c))) iv) : wc X 43 [.ref r0, .int (nI r), .int (nI c)] iv (Ri P) := by
  refine mk_X5_vote (ro_k hr) (ro_k4 hr) (ro_k3 hr) ?_
  have b1 := rr_lt lo r
  have b2 := rr_lt e r
  rw [ro_3 hr, ro_4 hr, nI_clamp (by omega), (hL r h1).2]
  refine ⟨vp_in_nI h1 (by decide), sp_bit (by omega) (by omega) ?_⟩
  rw [rr_t h2]
  unfold vt at p
  refine ⟨fun z => ?_, fun z => ⟨vp_in_nI h1 (by decide), ?_⟩⟩
  · rw [bI_1] at z
    rw [z] at p
    exact p
  · rw [bI_1] at z
    rw [if_neg z] at p
    rw [(hL r h1).1]
    refine sp_bit (by omega) (by omega) ?_
    rw [rr_t h2]
    cases he : e (15 * r + c) with
    | true => rw [he] at p; exact p
    | false => rw [he] at p; exact p
theorem sp_readFormat {P : IV → Prop} {e lo : Nat → Bool} (hr : RO r0) (hL : LK iv r0 e lo) (h6 : iv r0 6 = nI 1) (h : ∀ iv', (∀ a, a ≠ r0 → iv' a = iv a) → (∀ j, j ≠ 1 → iv' r0 j = iv r0 j) → iv' r0 1 = oI (fmt e lo) → P iv') : wc X 37 [.ref r0] iv (Rv P) := by
  refine mk_X5_readFormat (ro_k hr) ?_
  rw [h6]
  refine ⟨fun z => absurd z (by decide), fun _ iv1 h1 => ?_⟩
  rw [up_row] at h1
  have hr2 := ro_r hr
  refine lup (τ := IV) (W := fun k iv2 => wp X (0, 0) 37 10 [some (.ref r0), some (.int (nI k)), none] [] iv2 (Rv P)) (I := fun k iv2 => (∀ a, a ≠ r0 → iv2 a = iv a) ∧ (∀ j, j ≠ 1 → iv2 r0 j = iv r0 j) ∧ iv2 r0 1 = oI (fm e lo k)) 4 ?_ ?_ 4 0 iv1 rfl ⟨fun a ha => by rw [h1, row_ne ha], fun j hj => by rw [h1, row_at, if_neg hj], by rw [h1, row_at, if_pos rfl]; rfl⟩
  · rintro iv2 ⟨a2, b2, c2⟩
    refine mk_X5_readFormat_10 (ro_k hr) ⟨fun _ => ?_, fun z => absurd (nI_le (Nat.le_refl 4) (by decide)) z⟩
    rw [c2]
    cases hf : fm e lo 4 with
    | none =>
      have hn : fmt e lo = none := fmt_none (Nat.le_refl 4) hf
      refine ⟨fun _ => h iv2 a2 b2 (by rw [c2, hf, hn]), fun z => absurd (by decide) z⟩
    | some f =>
      have hl := fm_lt e lo 4 f hf
      have hfm : fmt e lo = if 11 < f then none else some f := by unfold fmt; rw [hf]
      show (nI f < nI 12 → _) ∧ (¬ nI f < nI 12 → _)
      rw [nI_ltI (by omega) (by decide)]
      refine ⟨fun z => h iv2 a2 b2 (by rw [c2, hf, hfm, if_neg (by omega)]), fun z iv3 h3 => ?_⟩
      rw [up_row] at h3
      refine h iv3 (fun a ha => by rw [h3, row_ne ha, a2 a ha]) (fun j hj => by rw [h3, row_at, if_neg hj, b2 j hj]) ?_
      rw [h3, row_at, if_pos rfl, hfm, if_pos (by omega)]
      rfl
  · rintro k iv2 hk ⟨a2, b2, c2⟩ nx
    refine mk_X5_readFormat_10 (ro_k hr) ⟨fun z => absurd z (nI_ge hk (by decide)), fun _ => ?_⟩
    rw [c2]
    cases hf : fm e lo k with
    | none =>
      refine ⟨fun _ => ?_, fun z => absurd rfl z⟩
      have hn : fmt e lo = none := fmt_none (by omega) hf
      refine ⟨fun _ => h iv2 a2 b2 (by rw [c2, hf, hn]), fun z => absurd (by decide) z⟩
    | some f =>
      have hl := fm_lt e lo k f hf
      have hf8 : f < 2 ^ 3 := Nat.lt_of_lt_of_le hl (Nat.pow_le_pow_right (by decide) (by omega))
      have hL2 : LK iv2 r0 e lo := fun r hr' => by rw [a2 _ (by omega), a2 _ (by omega)]; exact hL r hr'
      refine ⟨fun z => absurd z (m1_ne (by omega)), fun _ => ?_⟩
      rw [nI_add]
      refine sp_vote hr hL2 (by decide) (by omega) (sp_vote hr hL2 (by decide) (by omega) (sp_vote hr hL2 (by decide) (by omega) (fun v9 h9 => ?_)))
      rw [zI_add, zI_add] at h9
      have hb : vt e lo (15 * 3 + k) + vt e lo (15 * 3 + (11 + k)) + vt e lo (15 * 11 + k) = bal e lo k := by
        unfold bal
        rw [show 15 * 3 + (11 + k) = 56 + k by omega]
      rw [hb] at h9
      have bb : -3 ≤ bal e lo k ∧ bal e lo k ≤ 3 := by
        have q1 := vt_b e lo (45 + k)
        have q2 := vt_b e lo (56 + k)
        have q3 := vt_b e lo (165 + k)
        unfold bal
        omega
      rw [h9, zI_0 (by omega) (by omega), zI_le (by omega) (by omega), nI_add]
      have hnx : fm e lo (k + 1) = if bal e lo k = 0 then none else some (2 * f + if 0 < bal e lo k then 1 else 0) := by rw [fm, hf]
      have fin : ∀ (x : Int32) (iv3 : IV), x = oI (fm e lo (k + 1)) → iv3 = mm_up2 iv2 r0 1 x → wp X (0, 0) 37 10 [some (.ref r0), some (.int (nI (k + 1))), none] [] iv3 (Rv P) := by
        intro x iv3 hx h3
        rw [up_row] at h3
        exact nx iv3 ⟨fun a ha => by rw [h3, row_ne ha, a2 a ha], fun j hj => by rw [h3, row_at, if_neg hj, b2 j hj], by rw [h3, row_at, if_pos rfl, hx]⟩
      rw [c2, hf]
      refine ⟨fun z iv3 h3 => fin _ iv3 ?_ h3, fun z => ⟨fun z1 iv3 h3 => fin _ iv3 ?_ h3, fun z1 iv3 h3 => fin _ iv3 ?_ h3⟩⟩
      · rw [hnx, if_pos z]; rfl
      · rw [hnx, if_neg z, if_neg (by omega)]
        show nI 2 * nI f + nI 0 = nI _
        rw [pk_mul, nI_add]
      · rw [hnx, if_neg z, if_pos (by omega)]
        show nI 2 * nI f + nI 1 = nI _
        rw [pk_mul, nI_add]
end READC
