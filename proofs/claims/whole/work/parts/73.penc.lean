/-! PENALTY, IN THE CLASS -/
theorem tb_all {c : Nat} (h : c < 32) : (4294967295 : Nat).testBit c = true := by
  rw [show (4294967295 : Nat) = 2 ^ 32 - 1 by rfl, Nat.testBit_two_pow_sub_one, decide_eq_true h]
theorem bt_14 (c : Nat) : (16383 : Nat).testBit c = decide (c < 14) := by
  rw [show (16383 : Nat) = 2 ^ 14 - 1 by rfl, Nat.testBit_two_pow_sub_one]
theorem bt_15 (c : Nat) : (32767 : Nat).testBit c = decide (c < 15) := by
  rw [show (32767 : Nat) = 2 ^ 15 - 1 by rfl, Nat.testBit_two_pow_sub_one]
theorem tb_div (n k c : Nat) : (n / 2 ^ k).testBit c = n.testBit (c + k) := Nat.testBit_div_two_pow n c
theorem Cn_15 (f : Nat → Bool) : sm (fun c => (decide (c < 11) && t5 f c).toNat + 2 * ((decide (c < 11) && t5 f c) && !(decide (0 < c) && (decide (c - 1 < 11) && t5 f (c - 1)))).toNat) 15 = Cn f 11 := by
  rw [sm_ext (n := 11) (m := 15) (by decide) (fun i h1 h2 => by rw [decide_eq_false (by omega)]; rfl)]
  refine sm_congr (fun c hc => ?_)
  rw [← cc_eq, decide_eq_true hc, decide_eq_true (show c - 1 < 11 by omega)]
  rfl
def dn (D : Nat → Bool) (r c : Nat) : Bool := decide (r < 11) && t5 (colL D c) r
def ab (D : Nat → Bool) (r c : Nat) : Bool := decide (0 < r) && dn D (r - 1) c
theorem dn_cc (D : Nat → Bool) (r : Nat) : sm (fun c => (dn D r c).toNat + 2 * (dn D r c && !(ab D r c)).toNat) 15 = sm (fun c => if r < 11 then cc (colL D c) r else 0) 15 := by
  refine sm_congr (fun c _ => ?_)
  unfold ab dn
  by_cases h : r < 11
  · rw [if_pos h, ← cc_eq, decide_eq_true h, decide_eq_true (show r - 1 < 11 by omega)]
    rfl
  · rw [if_neg h, decide_eq_false h]
    rfl
theorem dn_sum (D : Nat → Bool) : sm (fun r => sm (fun c => if r < 11 then cc (colL D c) r else 0) 15) 15 = sm (fun c => Cn (colL D c) 11) 15 := by
  rw [sm_swap]
  refine sm_congr (fun c _ => ?_)
  rw [sm_ext (n := 11) (m := 15) (by decide) (fun i h1 h2 => if_neg (by omega))]
  exact sm_congr (fun r hr => if_pos hr)
def anD (D : Nat → Bool) (r c : Nat) : Nat → Bool
  | 0 => false
  | k + 1 => anD D r c k || D (15 * (r + k) + c)
def alD (D : Nat → Bool) (r c : Nat) : Nat → Bool
  | 0 => true
  | k + 1 => alD D r c k && D (15 * (r + k) + c)
theorem al_t5 (D : Nat → Bool) (r c : Nat) : (alD D r c 5 || !(anD D r c 5)) = t5 (colL D c) r := by
  unfold t5 colL
  simp only [alD, anD, Nat.add_zero]
  cases D (15 * r + c) <;> cases D (15 * (r + 1) + c) <;> cases D (15 * (r + 2) + c) <;> cases D (15 * (r + 3) + c) <;> cases D (15 * (r + 4) + c) <;> rfl
section PENC
variable {X : Nat × (Nat → Int32)} {iv : IV} {P : Int32 → IV → Prop}
theorem sp_runsOf {s t : Nat} (hs : s < 2 ^ 15) (p : P (nI (ct (gb s) 15 + 2 * ct (fun c => gb s c && !(gb t c)) 15)) iv) : wc X 21 [.int (nI s), .int (nI t)] iv (Ri P) := by
  refine mk_X3_penaltyOfRuns (sp_bitCount hs ?_)
  rw [nI_xor, nI_and]
  refine sp_bitCount (Nat.lt_of_le_of_lt Nat.and_le_left hs) ?_
  rw [pk_mul, nI_add]
  have e : ct (gb (s &&& (t ^^^ 4294967295))) 15 = ct (fun c => gb s c && !(gb t c)) 15 := ct_congr (fun c hc => by
    unfold gb
    rw [Nat.testBit_and, Nat.testBit_xor, tb_all (by omega), Bool.xor_true])
  rw [e]
  exact p
theorem sp_across {f : Nat → Bool} (p : P (nI (rb (fun c => decide (c < 11) && t5 f c) 15)) iv) : wc X 22 [.int (nI (rb f 15))] iv (Ri P) := by
  have b := rb_lt f 15
  refine mk_X3_runStartsAcross (fun v1 h1 => ?_)
  rw [shr_nI (by omega) (by decide), nI_xor, nI_xor, nI_and] at h1
  have e1 : (rb f 15 ^^^ rb f 15 / 2 ^ 1 ^^^ 4294967295) &&& 16383 = rb (fun c => f c == f (c + 1)) 14 := by
    refine rb_eq (Nat.and_lt_two_pow _ (by decide)) (fun c hc => ?_)
    rw [Nat.testBit_and, Nat.testBit_xor, Nat.testBit_xor, tb_div, tb_all (by omega), bt_14, rb_t (by omega), rb_t (by omega), decide_eq_true hc]
    cases f c <;> cases f (c + 1) <;> rfl
  rw [e1] at h1
  have b2 := rb_lt (fun c => f c == f (c + 1)) 14
  rw [h1, shr_nI (by omega) (by decide), shr_nI (by omega) (by decide), shr_nI (by omega) (by decide), nI_and, nI_and, nI_and]
  have e2 : rb (fun c => f c == f (c + 1)) 14 &&& rb (fun c => f c == f (c + 1)) 14 / 2 ^ 1 &&& rb (fun c => f c == f (c + 1)) 14 / 2 ^ 2 &&& rb (fun c => f c == f (c + 1)) 14 / 2 ^ 3 = rb (fun c => decide (c < 11) && t5 f c) 15 := by
    refine rb_eq (Nat.lt_of_le_of_lt (Nat.le_trans Nat.and_le_left (Nat.le_trans Nat.and_le_left Nat.and_le_left)) (by omega)) (fun c hc => ?_)
    rw [Nat.testBit_and, Nat.testBit_and, Nat.testBit_and, tb_div, tb_div, tb_div, rb_test, rb_test, rb_test, rb_test]
    by_cases h : c < 11
    · rw [decide_eq_true h, decide_eq_true (show c < 14 by omega), decide_eq_true (show c + 1 < 14 by omega), decide_eq_true (show c + 2 < 14 by omega), decide_eq_true (show c + 3 < 14 by omega)]
      unfold t5
      simp only [Bool.true_and]
    · rw [decide_eq_false h, decide_eq_false (show ¬ c + 3 < 14 by omega)]
      simp
  rw [e2]
  exact p
theorem sp_down {r0 r : Nat} {D : Nat → Bool} (k0 : kdT r0 = (1, 15)) (hr : r < 15) (hv : ∀ r, r < 15 → iv r0 r = nI (rr D r)) (p : P (nI (rb (dn D r) 15)) iv) : wc X 23 [.ref r0, .int (nI r)] iv (Ri P) := by
  refine mk_X3_runStartsDown ?_
  rw [nI_add, nI_ltI (by omega) (by decide)]
  refine ⟨fun z => ?_, fun z => ?_⟩
  · have e0 : nI 0 = nI (rb (fun c => anD D r c 0) 15) := congrArg nI (rb_eq (by decide) (fun c _ => by rw [Nat.zero_testBit]; rfl))
    have e1 : nI 32767 = nI (rb (fun c => alD D r c 0) 15) := congrArg nI (rb_eq (by decide) (fun c hc => by rw [bt_15, decide_eq_true hc]; rfl))
    rw [e0, e1]
    refine ldn (W := fun k => wp X (0, 0) 23 13 [some (.ref r0), some (.int (nI r)), some (.int (nI (rb (fun c => anD D r c k) 15))), some (.int (nI (rb (fun c => alD D r c k) 15))), some (.int (nI (r + k)))] [] iv (Ri P)) 5 ?_ ?_
    · refine mk_X3_runStartsDown_13 k0 ?_
      rw [nI_add]
      refine ⟨fun _ => ?_, fun z => absurd (nI_le (Nat.le_refl _) (by omega)) z⟩
      rw [nI_xor, nI_and, nI_or]
      have b1 := rb_lt (fun c => alD D r c 5) 15
      have e : rb (fun c => alD D r c 5) 15 ||| ((rb (fun c => anD D r c 5) 15 ^^^ 4294967295) &&& 32767) = rb (dn D r) 15 := by
        refine rb_eq (Nat.or_lt_two_pow b1 (Nat.and_lt_two_pow _ (by decide))) (fun c hc => ?_)
        rw [Nat.testBit_or, Nat.testBit_and, Nat.testBit_xor, tb_all (by omega), bt_15, rb_t hc, rb_t hc, decide_eq_true hc, Bool.xor_true, Bool.and_true, al_t5]
        unfold dn
        rw [decide_eq_true (by omega)]
        rfl
      rw [e]
      exact p
    · intro k hk nx
      refine mk_X3_runStartsDown_13 k0 ?_
      rw [nI_add, nI_clamp (by omega), hv (r + k) (by omega)]
      refine ⟨fun z => absurd z (nI_ge (by omega) (by omega)), fun _ => ⟨vp_in_nI (by omega) (by decide), fun v1 h1 => ⟨vp_in_nI (by omega) (by decide), fun v2 h2 => ?_⟩⟩⟩
      rw [nI_or] at h1
      rw [nI_and] at h2
      have q1 : rb (fun c => anD D r c k) 15 ||| rr D (r + k) = rb (fun c => anD D r c (k + 1)) 15 := rb_or _ _ 15
      have q2 : rb (fun c => alD D r c k) 15 &&& rr D (r + k) = rb (fun c => alD D r c (k + 1)) 15 := rb_eq (Nat.lt_of_le_of_lt Nat.and_le_left (rb_lt _ 15)) (fun c hc => by rw [Nat.testBit_and, rb_t hc, rr_t hc]; rfl)
      rw [h1, h2, q1, q2, nI_add]
      exact nx
  · have e : rb (dn D r) 15 = 0 := (rb_eq (by decide) (fun c _ => by
      unfold dn
      rw [decide_eq_false (by omega), Nat.zero_testBit]
      rfl)).symm
    rw [e] at p
    exact p
theorem sp_like {D : Nat → Bool} {r : Nat} (p : P (nI (ct (sq D r) 14)) iv) : wc X 24 [.int (nI (rr D r)), .int (nI (rr D (r + 1)))] iv (Ri P) := by
  have b1 := rr_lt D r
  have b2 := rr_lt D (r + 1)
  refine mk_X3_likeSquares (fun v1 h1 => ?_)
  rw [shr_nI (by omega) (by decide), shr_nI (by omega) (by decide), nI_xor, nI_xor, nI_xor, nI_or, nI_or] at h1
  rw [h1, nI_xor, nI_and]
  have e : (((rr D r ^^^ rr D r / 2 ^ 1) ||| (rr D (r + 1) ^^^ rr D (r + 1) / 2 ^ 1) ||| (rr D r ^^^ rr D (r + 1))) ^^^ 4294967295) &&& 16383 = rb (sq D r) 14 := by
    refine rb_eq (Nat.and_lt_two_pow _ (by decide)) (fun c hc => ?_)
    rw [Nat.testBit_and, Nat.testBit_xor, Nat.testBit_or, Nat.testBit_or, Nat.testBit_xor, Nat.testBit_xor, Nat.testBit_xor, tb_div, tb_div, tb_all (by omega), bt_14, rr_t (by omega), rr_t (by omega), rr_t (by omega), rr_t (by omega), decide_eq_true hc]
    unfold sq
    rw [show 15 * (r + 1) + c = 15 * r + c + 15 by omega, show 15 * (r + 1) + (c + 1) = 15 * r + c + 16 by omega, show 15 * r + (c + 1) = 15 * r + c + 1 by omega]
    cases D (15 * r + c) <;> cases D (15 * r + c + 1) <;> cases D (15 * r + c + 15) <;> cases D (15 * r + c + 16) <;> rfl
  rw [e]
  have b3 := rb_lt (sq D r) 14
  refine sp_bitCount (by omega) ?_
  rw [rb_ct _ 14 (by decide)]
  exact p
theorem sp_dotsIn {r0 : Nat} {D : Nat → Bool} (k0 : kdT r0 = (1, 15)) (hv : ∀ r, r < 15 → iv r0 r = nI (rr D r)) (p : P (nI (ct D 225)) iv) : wc X 116 [.ref r0] iv (Ri P) := by
  refine mk_X10_dotsIn k0 ?_
  refine ldn (W := fun k => wp X (0, 0) 116 9 [none, some (.int (nI (sm (fun r => ct (rowL D r) 15) k))), some (.ref r0), some (.int (nI 15)), some (.int (nI k)), none] [] iv (Ri P)) 15 ?_ ?_
  · refine mk_X10_dotsIn_9 k0 ⟨fun _ => ?_, fun z => absurd (nI_le (Nat.le_refl 15) (by decide)) z⟩
    rw [← ct_15]
    exact p
  · intro k hk nx
    refine mk_X10_dotsIn_9 k0 ⟨fun z => absurd z (nI_ge hk (by decide)), fun _ => ⟨vp_in_nI hk (by decide), fun v1 h1 => ?_⟩⟩
    rw [nI_clamp (by omega), hv k hk] at h1
    subst h1
    refine sp_bitCount (rr_lt D k) ?_
    have e : ct (gb (rr D k)) 15 = ct (rowL D k) 15 := rb_ct _ 15 (by decide)
    rw [e, nI_add, nI_add]
    exact nx
def pr (D : Nat → Bool) (r : Nat) : Nat := Cn (rowL D r) 11 + sm (fun c => if r < 11 then cc (colL D c) r else 0) 15 + if r < 14 then 3 * ct (sq D r) 14 else 0
theorem pr_sum (D : Nat → Bool) : ad (ct D 225) / 5 + sm (pr D) 15 = pn D := by
  have h1 : sm (pr D) 15 = sm (fun r => Cn (rowL D r) 11) 15 + sm (fun r => sm (fun c => if r < 11 then cc (colL D c) r else 0) 15) 15 + sm (fun r => if r < 14 then 3 * ct (sq D r) 14 else 0) 15 := by
    unfold pr
    rw [sm_add, sm_add]
  have h2 : sm (fun r => if r < 14 then 3 * ct (sq D r) 14 else 0) 15 = 3 * sm (fun r => ct (sq D r) 14) 14 := by
    rw [sm_ext (n := 14) (m := 15) (by decide) (fun i h1 h2 => if_neg (by omega)), ← sm_mul]
    exact sm_congr (fun r hr => if_pos hr)
  rw [h1, dn_sum, h2]
  unfold pn
  omega
theorem sp_penaltyOfC {r0 : Nat} {D : Nat → Bool} (k0 : kdT r0 = (1, 15)) (hv : ∀ r, r < 15 → iv r0 r = nI (rr D r)) (p : P (nI (pn D)) iv) : wc X 20 [.ref r0] iv (Ri P) := by
  refine mk_X3_penaltyOf (sp_dotsIn k0 hv ?_)
  have hb := ct_bound D 225
  refine pui (as := [nI (ct D 225) - nI 112]) (by decide) (pu_abs (ct D 225) hb) ?_
  have had : ad (ct D 225) < 2 ^ 31 := by unfold ad; omega
  rw [pk_div had (by decide) (by decide)]
  have e0 : nI 0 = nI (rb (ab D 0) 15) := by
    exact congrArg nI (rb_eq (by decide) (fun c _ => by unfold ab; rw [Nat.zero_testBit]; rfl))
  have key : ∀ m k, k + m = 15 → wp X (0, 0) 20 12 [some (.ref r0), some (.int (nI (ad (ct D 225) / 5 + sm (pr D) k))), some (.int (nI (rb (ab D k) 15))), some (.int (nI k)), none, none] [] iv (Ri P) := by
    intro m
    induction m with
    | zero =>
      intro k hk
      have e : k = 15 := by omega
      subst e
      refine mk_X3_penaltyOf_12 k0 ⟨fun _ => ?_, fun z => absurd (nI_le (Nat.le_refl 15) (by decide)) z⟩
      rw [pr_sum]
      exact p
    | succ m ih =>
      intro k hk
      have nx := ih (k + 1) (by omega)
      have eab : rb (ab D (k + 1)) 15 = rb (dn D k) 15 := rb_congr (fun c _ => by unfold ab; rw [decide_eq_true (by omega)]; rfl)
      rw [eab] at nx
      refine mk_X3_penaltyOf_12 k0 ⟨fun z => absurd z (nI_ge (by omega) (by decide)), fun _ => ⟨vp_in_nI (by omega) (by decide), ?_⟩⟩
      rw [nI_clamp (by omega), hv k (by omega)]
      refine sp_across (f := rowL D k) (sp_down k0 (by omega) hv ?_)
      have b1 := rb_lt (fun c => decide (c < 11) && t5 (rowL D k) c) 15
      have b2 := rb_lt (dn D k) 15
      rw [shl_nI (by decide) (by omega)]
      refine sp_runsOf b1 (sp_runsOf b2 (fun v9 h9 => ?_))
      have s1 : ct (gb (rb (fun c => decide (c < 11) && t5 (rowL D k) c) 15)) 15 + 2 * ct (fun c => gb (rb (fun c => decide (c < 11) && t5 (rowL D k) c) 15) c && !(gb (rb (fun c => decide (c < 11) && t5 (rowL D k) c) 15 * 2 ^ 1) c)) 15 = Cn (rowL D k) 11 := by
        rw [← Cn_15, rb_ct _ 15 (by decide), ct_sm, ct_sm, ← sm_mul, ← sm_add]
        refine sm_congr (fun c hc => ?_)
        have e1 : gb (rb (fun c => decide (c < 11) && t5 (rowL D k) c) 15) c = (decide (c < 11) && t5 (rowL D k) c) := rb_t hc
        have e2 : gb (rb (fun c => decide (c < 11) && t5 (rowL D k) c) 15 * 2 ^ 1) c = (decide (0 < c) && (decide (c - 1 < 11) && t5 (rowL D k) (c - 1))) := by
          unfold gb
          rw [← Nat.shiftLeft_eq, Nat.testBit_shiftLeft, rb_t (by omega)]
          congr 1
        rw [e1, e2]
      have s2 : ct (gb (rb (dn D k) 15)) 15 + 2 * ct (fun c => gb (rb (dn D k) 15) c && !(gb (rb (ab D k) 15) c)) 15 = sm (fun c => if k < 11 then cc (colL D c) k else 0) 15 := by
        rw [← dn_cc, rb_ct _ 15 (by decide), ct_sm, ct_sm, ← sm_mul, ← sm_add]
        refine sm_congr (fun c hc => ?_)
        have e1 : gb (rb (dn D k) 15) c = dn D k c := rb_t hc
        have e2 : gb (rb (ab D k) 15) c = ab D k c := rb_t hc
        rw [e1, e2]
      rw [s1, s2, nI_add, nI_add] at h9
      have hpr : sm (pr D) (k + 1) = sm (pr D) k + (Cn (rowL D k) 11 + sm (fun c => if k < 11 then cc (colL D c) k else 0) 15 + if k < 14 then 3 * ct (sq D k) 14 else 0) := rfl
      rw [hpr] at nx
      rw [nI_add, h9]
      refine ⟨fun z => ?_, fun z => ⟨vp_in_nI (by omega) (by decide), ?_⟩⟩
      · rw [nI_leI (by decide) (by omega)] at z
        rw [if_neg (by omega), Nat.add_zero, ← Nat.add_assoc] at nx
        exact nx
      · rw [nI_leI (by decide) (by omega)] at z
        rw [nI_clamp (by omega), hv k (by omega), hv (k + 1) (by omega)]
        refine ⟨vp_in_nI (by omega) (by decide), sp_like (fun v12 h12 => ?_)⟩
        rw [pk_mul, nI_add] at h12
        rw [if_pos (by omega), ← Nat.add_assoc, ← Nat.add_assoc] at nx
        rw [h12]
        rw [← Nat.add_assoc]
        rw [← Nat.add_assoc] at nx
        exact nx
  have := key 15 0 rfl
  rw [← e0] at this
  exact this
end PENC
