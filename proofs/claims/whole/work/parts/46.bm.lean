/-! SHIFT REGISTERS -/
def cv (C s : Nat → G) (i : Nat) : G := gs (fun k => gm (C k) (s (i - k))) (i + 1)
theorem cv_sq (C T s : Nat → G) (N : Nat) : cv C (cv T s) N = gs (fun k => gs (fun l => if k + l ≤ N then gm (gm (C k) (T l)) (s (N - k - l)) else 0) (N + 1)) (N + 1) := by
  unfold cv
  refine gs_congr (fun k hk => ?_)
  rw [← gs_mul]
  rw [gs_more (n := N - k + 1) (m := N + 1) (by omega) (fun l h1 h2 => if_neg (by omega))]
  refine gs_congr (fun l hl => ?_)
  rw [if_pos (by omega), gm_assoc]
theorem cv_swap (C T s : Nat → G) (N : Nat) : cv C (cv T s) N = cv T (cv C s) N := by
  rw [cv_sq, cv_sq, gs_swap]
  refine gs_congr (fun k _ => gs_congr (fun l _ => ?_))
  rw [Nat.add_comm l k, gm_comm (C l), show N - l - k = N - k - l by omega]
/-- Massey's bound -/
theorem massey {C T s : Nat → G} {L w N : Nat} (hC : ∀ k, L < k → C k = 0) (hCi : ∀ i, L ≤ i → i < N → cv C s i = 0) (hCN : cv C s N ≠ 0) (hT0 : T 0 = 1) (hT : ∀ k, w < k → T k = 0) (hTi : ∀ i, w ≤ i → i ≤ N → cv T s i = 0) : N + 1 ≤ w + L := by
  refine Classical.byContradiction fun hlt => ?_
  have h1 : cv C (cv T s) N = 0 := by
    refine gs_zero (fun k hk => ?_)
    by_cases hkL : k ≤ L
    · rw [hTi (N - k) (by omega) (by omega), gm_0]
    · rw [hC k (by omega), gm_0l]
  have h2 : cv T (cv C s) N = cv C s N := by
    show gs (fun k => gm (T k) (cv C s (N - k))) (N + 1) = _
    rw [gs_one (k := 0) (by omega) (fun i hi hne => ?_)]
    · rw [hT0, gm_1l, Nat.sub_zero]
    · by_cases hiw : i ≤ w
      · rw [hCi (N - i) (by omega) (by omega), gm_0]
      · rw [hT i (by omega), gm_0l]
  exact hCN (by rw [← h2, ← cv_swap, h1])
/-- a place is struck from a row -/
def st (x : G) (s : Nat → G) (j : Nat) : G := ga (s (j + 1)) (gm x (s j))
/-- a factor more -/
def fac (x : G) (T : Nat → G) (k : Nat) : G := ga (T k) (if k = 0 then 0 else gm x (T (k - 1)))
theorem cv_fac (x : G) (T s : Nat → G) (i : Nat) : cv (fac x T) s (i + 1) = ga (cv T (st x s) i) (gm (T (i + 1)) (s 0)) := by
  have e1 : cv (fac x T) s (i + 1) = ga (gs (fun k => gm (T k) (s (i + 1 - k))) (i + 1 + 1)) (gs (fun k => gm (if k = 0 then 0 else gm x (T (k - 1))) (s (i + 1 - k))) (i + 1 + 1)) := by
    rw [← gs_add]
    exact gs_congr (fun k _ => ga_gm _ _ _)
  have e2 : gs (fun k => gm (if k = 0 then 0 else gm x (T (k - 1))) (s (i + 1 - k))) (i + 1 + 1) = gs (fun k => gm (T k) (gm x (s (i - k)))) (i + 1) := by
    rw [gs_first]
    rw [if_pos rfl, gm_0l, ga_0l]
    refine gs_congr (fun k _ => ?_)
    rw [if_neg (by omega), Nat.add_sub_cancel, show i + 1 - (k + 1) = i - k by omega, gm_comm x, gm_assoc]
  have e3 : cv T (st x s) i = ga (gs (fun k => gm (T k) (s (i + 1 - k))) (i + 1)) (gs (fun k => gm (T k) (gm x (s (i - k)))) (i + 1)) := by
    rw [← gs_add]
    refine gs_congr (fun k hk => ?_)
    unfold st
    rw [gm_ga, show i - k + 1 = i + 1 - k by omega]
  have e4 : gs (fun k => gm (T k) (s (i + 1 - k))) (i + 1 + 1) = ga (gs (fun k => gm (T k) (s (i + 1 - k))) (i + 1)) (gm (T (i + 1)) (s 0)) := by
    rw [gs, Nat.sub_self]
  rw [e1, e2, e3, e4, ga_assoc, ga_comm (gm _ _), ← ga_assoc]
theorem pw_st (f : Nat → G) (x : G) (j : Nat) : st x (pw f) j = pw (fun p => gm (f p) (ga (xp p) x)) j := (pw_strike f x j).symm
/-- a vector of few places makes a row that a short register makes too -/
theorem gen : ∀ (n : Nat) (f : Nat → G), ct (nz f) 14 ≤ n → ∃ T : Nat → G, T 0 = 1 ∧ (∀ k, n < k → T k = 0) ∧ ∀ i, n ≤ i → cv T (pw f) i = 0 := by
  intro n
  induction n with
  | zero =>
    intro f hf
    have h0 : ∀ p, p < 14 → f p = 0 := vand 0 f 0 hf (fun j h1 h2 => absurd h2 (by omega))
    refine ⟨fun k => if k = 0 then 1 else 0, rfl, fun k hk => if_neg (by omega), fun i _ => ?_⟩
    exact gs_zero (fun k _ => by rw [pw_zero h0, gm_0])
  | succ n ih =>
    intro f hf
    by_cases hall : ∀ p, p < 14 → f p = 0
    · refine ⟨fun k => if k = 0 then 1 else 0, rfl, fun k hk => if_neg (by omega), fun i _ => ?_⟩
      exact gs_zero (fun k _ => by rw [pw_zero hall, gm_0])
    · obtain ⟨q, hq⟩ := Classical.not_forall.mp hall
      obtain ⟨hq14, hq0⟩ := Classical.not_imp.mp hq
      have hlt : ct (nz (fun p => gm (f p) (ga (xp p) (xp q)))) 14 < ct (nz f) 14 := by
        refine ct_lt (q := q) (fun i hi h1 => ?_) hq14 ?_ ?_
        · unfold nz at h1 ⊢
          have h1 := of_decide_eq_true h1
          refine decide_eq_true (fun z => h1 ?_)
          show gm (f i) (ga (xp i) (xp q)) = 0
          rw [z, gm_0l]
        · unfold nz
          refine decide_eq_false (fun z => z ?_)
          show gm (f q) (ga (xp q) (xp q)) = 0
          rw [ga_self, gm_0]
        · exact decide_eq_true hq0
      obtain ⟨T, t1, t2, t3⟩ := ih _ (by omega : ct (nz (fun p => gm (f p) (ga (xp p) (xp q)))) 14 ≤ n)
      refine ⟨fac (xp q) T, ?_, fun k hk => ?_, fun i hi => ?_⟩
      · unfold fac
        rw [if_pos rfl, t1, ga_0]
      · unfold fac
        rw [t2 k (by omega), if_neg (by omega), t2 (k - 1) (by omega), gm_0, ga_0]
      · obtain ⟨i', rfl⟩ : ∃ i', i = i' + 1 := ⟨i - 1, by omega⟩
        rw [cv_fac, t2 (i' + 1) (by omega), gm_0l, ga_0]
        rw [show st (xp q) (pw f) = pw (fun p => gm (f p) (ga (xp p) (xp q))) from funext (pw_st f (xp q))]
        exact t3 i' (by omega)
/-! ROOTS -/
def ev (C : Nat → G) (y : G) (n : Nat) : G := gs (fun k => gm (C k) (gp y k)) n
theorem gp_mul (a b : G) (n : Nat) : gp (gm a b) n = gm (gp a n) (gp b n) := by
  induction n with
  | zero => rfl
  | succ n ih => rw [gp, gp, gp, ih, gm_4]
theorem gp_one (n : Nat) : gp 1 n = 1 := by
  induction n with
  | zero => rfl
  | succ n ih => rw [gp, ih]; rfl
theorem gp_inv {x : G} (hx : x ≠ 0) (n : Nat) : gm (gp x n) (gp (gi x) n) = 1 := by
  rw [← gp_mul, gm_gi x hx, gp_one]
theorem gp_sub {x : G} (hx : x ≠ 0) {i k : Nat} (h : k ≤ i) : gp x (i - k) = gm (gp x i) (gp (gi x) k) := by
  induction k with
  | zero =>
    show gp x i = gm (gp x i) 1
    rw [gm_1]
  | succ k ih =>
    have h1 := ih (by omega)
    rw [show gp (gi x) (k + 1) = gm (gp (gi x) k) (gi x) from rfl, ← gm_assoc, ← h1, show i - k = (i - (k + 1)) + 1 by omega]
    show _ = gm (gm (gp x (i - (k + 1))) x) (gi x)
    rw [gm_assoc, gm_gi x hx, gm_1]
/-- division by a factor -/
def quo (x : G) (C : Nat → G) : Nat → G
  | 0 => C 0
  | k + 1 => ga (C (k + 1)) (gm x (quo x C k))
theorem fac_quo (x : G) (C : Nat → G) : fac x (quo x C) = C := by
  funext k
  unfold fac
  cases k with
  | zero => rw [if_pos rfl, ga_0]; rfl
  | succ k =>
    rw [if_neg (by omega), Nat.add_sub_cancel, quo, ga_assoc, ga_self, ga_0]
theorem quo_ev {x : G} (hx : x ≠ 0) (C : Nat → G) (k : Nat) : quo x C k = gm (gp x k) (ev C (gi x) (k + 1)) := by
  induction k with
  | zero =>
    show C 0 = gm 1 (ga 0 (gm (C 0) 1))
    rw [gm_1l, gm_1, ga_0l]
  | succ k ih =>
    rw [quo, ih]
    show _ = gm (gp x (k + 1)) (ga (ev C (gi x) (k + 1)) (gm (C (k + 1)) (gp (gi x) (k + 1))))
    rw [gm_ga, gm_comm (C (k + 1)), ← gm_assoc (gp x (k + 1)), gp_inv hx, gm_1l, ga_comm]
    congr 1
    show gm x (gm (gp x k) _) = gm (gm (gp x k) x) _
    rw [← gm_assoc, gm_comm x]
theorem quo_deg {x : G} (hx : x ≠ 0) {C : Nat → G} {w : Nat} (hC : ∀ k, w + 1 < k → C k = 0) (hr : ev C (gi x) (w + 2) = 0) : ∀ k, w < k → quo x C k = 0 := by
  intro k hk
  induction k with
  | zero => exact absurd hk (by omega)
  | succ k ih =>
    by_cases e : k = w
    · subst e
      rw [quo_ev hx, hr, gm_0]
    · rw [quo, hC (k + 1) (by omega), ih (by omega), gm_0, ga_0]
theorem ev_fac (x y : G) (T : Nat → G) (n : Nat) (hT : T n = 0) : ev (fac x T) y (n + 1) = gm (ga 1 (gm x y)) (ev T y n) := by
  have e1 : ev (fac x T) y (n + 1) = ga (gs (fun k => gm (T k) (gp y k)) (n + 1)) (gs (fun k => gm (if k = 0 then 0 else gm x (T (k - 1))) (gp y k)) (n + 1)) := by
    rw [← gs_add]
    exact gs_congr (fun k _ => ga_gm _ _ _)
  have e2 : gs (fun k => gm (if k = 0 then 0 else gm x (T (k - 1))) (gp y k)) (n + 1) = gm (gm x y) (ev T y n) := by
    rw [gs_first, if_pos rfl, gm_0l, ga_0l]
    unfold ev
    rw [← gs_mul]
    refine gs_congr (fun k _ => ?_)
    rw [if_neg (by omega), Nat.add_sub_cancel]
    show gm (gm x (T k)) (gm (gp y k) y) = _
    rw [gm_comm (gp y k) y, gm_4]
  rw [e1, e2, gs, hT, gm_0l, ga_0, ga_gm, gm_1l]
  rfl
theorem ct_del {s : Nat → Bool} {n q : Nat} (hq : q < n) (h : s q = true) : ct (fun i => s i && decide (i ≠ q)) n + 1 = ct s n := by
  induction n with
  | zero => exact absurd hq (by omega)
  | succ n ih =>
    by_cases e : q = n
    · subst e
      unfold ct
      rw [h]
      rw [ct_congr (s := fun i => s i && decide (i ≠ q)) (t := s) (fun i hi => by simp [show i ≠ q by omega])]
      simp
    · have h1 := ih (by omega)
      unfold ct
      rw [show (s n && decide (n ≠ q)) = s n by simp [show n ≠ q from fun z => e z.symm]]
      omega
theorem ct_ex {s : Nat → Bool} {n : Nat} (h : 0 < ct s n) : ∃ q, q < n ∧ s q = true := by
  refine Classical.byContradiction fun hn => ?_
  have : ct s n ≤ ct (fun _ => false) n := ct_le (fun i hi hs => absurd ⟨i, hi, hs⟩ hn)
  have h0 : ∀ n, ct (fun _ => false) n = 0 := by
    intro n
    induction n with
    | zero => rfl
    | succ n ih => unfold ct; rw [ih]; rfl
  rw [h0] at this
  omega
/-- other roots stay roots -/
theorem root_quo {p q w : Nat} (hp : p < 14) (hq : q < 14) (hne : p ≠ q) {C : Nat → G} (hC : ∀ k, w + 1 < k → C k = 0) (hrq : ev C (gi (xp q)) (w + 2) = 0) (hrp : ev C (gi (xp p)) (w + 2) = 0) : ev (quo (xp q) C) (gi (xp p)) (w + 1) = 0 := by
  have h1 := ev_fac (xp q) (gi (xp p)) (quo (xp q) C) (w + 1) (quo_deg (xpz hq) hC hrq (w + 1) (by omega))
  rw [fac_quo, hrp] at h1
  rcases gm_eq0 _ _ h1.symm with z | z
  · exfalso
    have e := ga_eq0 _ _ z
    have h2 : gm (xp p) 1 = gm (xp p) (gm (xp q) (gi (xp p))) := by rw [← e]
    rw [gm_1, gm_comm (xp q), ← gm_assoc, gm_gi _ (xpz hp), gm_1l] at h2
    exact xpn hp hq hne h2
  · exact z
theorem roots_le : ∀ (w : Nat) (C : Nat → G), C 0 = 1 → (∀ k, w < k → C k = 0) → ct (fun p => decide (ev C (gi (xp p)) (w + 1) = 0)) 14 ≤ w := by
  intro w
  induction w with
  | zero =>
    intro C h0 _
    refine Nat.le_of_not_lt fun h => ?_
    obtain ⟨q, hq, h⟩ := ct_ex h
    have h := of_decide_eq_true h
    have : ev C (gi (xp q)) (0 + 1) = 1 := by
      show ga 0 (gm (C 0) 1) = 1
      rw [h0]
      rfl
    rw [this] at h
    exact absurd h (by decide)
  | succ w ih =>
    intro C h0 hC
    by_cases hz : ct (fun p => decide (ev C (gi (xp p)) (w + 1 + 1) = 0)) 14 = 0
    · omega
    · obtain ⟨q, hq, h⟩ := ct_ex (Nat.pos_of_ne_zero hz)
      have hr := of_decide_eq_true h
      have h1 := ih (quo (xp q) C) h0 (quo_deg (xpz hq) hC hr)
      have h2 := ct_del (s := fun p => decide (ev C (gi (xp p)) (w + 1 + 1) = 0)) hq h
      have h3 : ct (fun i => decide (ev C (gi (xp i)) (w + 1 + 1) = 0) && decide (i ≠ q)) 14 ≤ ct (fun p => decide (ev (quo (xp q) C) (gi (xp p)) (w + 1) = 0)) 14 := by
        refine ct_le (fun i hi hs => ?_)
        rw [Bool.and_eq_true] at hs
        exact decide_eq_true (root_quo hi hq (of_decide_eq_true hs.2) hC hr (of_decide_eq_true hs.1))
      omega
/-- a register with as many roots as it is long makes a row of power sums of these places -/
theorem roots_row : ∀ (w N : Nat) (R : Nat → Bool) (C s : Nat → G), ct R 14 = w → C 0 = 1 → (∀ k, w < k → C k = 0) → (∀ p, p < 14 → R p = true → ev C (gi (xp p)) (w + 1) = 0) → (∀ i, w ≤ i → i < N → cv C s i = 0) → ∃ f : Nat → G, (∀ p, p < 14 → R p = false → f p = 0) ∧ ∀ i, i < N → s i = pw f i := by
  intro w
  induction w with
  | zero =>
    intro N R C s hR h0 hC _ hi
    refine ⟨fun _ => 0, fun _ _ _ => rfl, fun i hiN => ?_⟩
    rw [pw_zero (fun _ _ => rfl)]
    have h1 := hi i (by omega) hiN
    unfold cv at h1
    rw [gs_one (k := 0) (by omega) (fun j _ hj => by rw [hC j (by omega), gm_0l])] at h1
    rw [h0, gm_1l, Nat.sub_zero] at h1
    exact h1
  | succ w ih =>
    intro N R C s hR h0 hC hr hi
    obtain ⟨q, hq, hRq⟩ := ct_ex (s := R) (n := 14) (by omega)
    have hrq := hr q hq hRq
    have hd := ct_del hq hRq
    obtain ⟨f, f1, f2⟩ := ih (N - 1) (fun i => R i && decide (i ≠ q)) (quo (xp q) C) (st (xp q) s) (by omega) h0 (quo_deg (xpz hq) hC hrq) (fun p hp hs => by
        rw [Bool.and_eq_true] at hs
        exact root_quo hp hq (of_decide_eq_true hs.2) hC hrq (hr p hp hs.1)) (fun i h1 h2 => by
        have h3 := cv_fac (xp q) (quo (xp q) C) s i
        rw [fac_quo, hi (i + 1) (by omega) (by omega), quo_deg (xpz hq) hC hrq (i + 1) (by omega), gm_0l, ga_0] at h3
        exact h3.symm)
    let g : Nat → G := fun p => gm (f p) (gi (ga (xp p) (xp q)))
    let u : G := ga (s 0) (gs (fun p => if p = q then 0 else g p) 14)
    have hfq : f q = 0 := f1 q hq (by simp)
    have hst : ∀ p, p < 14 → gm (if p = q then u else g p) (ga (xp p) (xp q)) = f p := by
      intro p hp
      by_cases e : p = q
      · subst e
        rw [ga_self, gm_0, hfq]
      · rw [if_neg e]
        show gm (gm (f p) (gi (ga (xp p) (xp q)))) (ga (xp p) (xp q)) = f p
        rw [gm_assoc, gm_comm (gi _), gm_gi _ (fun z => xpn hp hq e (ga_eq0 _ _ z)), gm_1]
    refine ⟨fun p => if p = q then u else g p, fun p hp hRp => ?_, fun i hiN => ?_⟩
    · have hpq : p ≠ q := fun e => by
        rw [e, hRq] at hRp
        cases hRp
      show (if p = q then u else g p) = 0
      rw [if_neg hpq]
      show gm (f p) _ = 0
      rw [f1 p hp (by rw [hRp]; rfl), gm_0l]
    · induction i with
      | zero =>
        have e1 : pw (fun p => if p = q then u else g p) 0 = ga (gs (fun p => if p = q then u else 0) 14) (gs (fun p => if p = q then 0 else g p) 14) := by
          rw [← gs_add]
          refine gs_congr (fun p _ => ?_)
          show gm (if p = q then u else g p) 1 = _
          rw [gm_1]
          by_cases e : p = q
          · rw [if_pos e, if_pos e, if_pos e, ga_0]
          · rw [if_neg e, if_neg e, if_neg e, ga_0l]
        rw [e1, gs_one (k := q) hq (fun i _ hne => if_neg hne), if_pos rfl]
        show s 0 = ga (ga (s 0) _) _
        rw [ga_assoc, ga_self, ga_0]
      | succ i ihi =>
        have h1 := ihi (by omega)
        have h2 := f2 i (by omega)
        have h3 := pw_strike (fun p => if p = q then u else g p) (xp q) i
        have h4 : pw (fun p => gm (if p = q then u else g p) (ga (xp p) (xp q))) i = pw f i := gs_congr (fun p hp => by show gm (gm (if p = q then u else g p) (ga (xp p) (xp q))) _ = _; rw [hst p hp])
        rw [h4, ← h2, ← h1] at h3
        unfold st at h3
        have h5 : ga (ga (s (i + 1)) (gm (xp q) (s i))) (gm (xp q) (s i)) = ga (ga (pw (fun p => if p = q then u else g p) (i + 1)) (gm (xp q) (s i))) (gm (xp q) (s i)) := by rw [h3]
        rw [ga_assoc, ga_self, ga_0, ga_assoc, ga_self, ga_0] at h5
        exact h5
/-- the register of a row of few power sums has these places for roots, and is as long as they are many -/
theorem roots_of {N L w : Nat} {C s f : Nat → G} (hw : ct (nz f) 14 = w) (h2 : 2 * w ≤ N) (hL : L ≤ w) (h0 : C 0 = 1) (hC : ∀ k, L < k → C k = 0) (hs : ∀ i, i < N → s i = pw f i) (hi : ∀ i, L ≤ i → i < N → cv C s i = 0) : L = w ∧ ∀ p, p < 14 → (nz f p = true ↔ ev C (gi (xp p)) (L + 1) = 0) := by
  have key : ∀ i, L ≤ i → i < N → pw (fun p => gm (f p) (ev C (gi (xp p)) (L + 1))) i = 0 := by
    intro i h1 h2
    rw [← hi i h1 h2]
    unfold cv pw
    rw [gs_more (n := L + 1) (m := i + 1) (by omega) (fun k hk _ => by rw [hC k (by omega), gm_0l])]
    have e1 : gs (fun k => gm (C k) (s (i - k))) (L + 1) = gs (fun k => gs (fun p => gm (C k) (gm (f p) (gp (xp p) (i - k)))) 14) (L + 1) := by
      refine gs_congr (fun k hk => ?_)
      rw [hs (i - k) (by omega), gs_mul]
      rfl
    rw [e1, gs_swap]
    refine gs_congr (fun p hp => ?_)
    unfold ev
    rw [gm_assoc, gm_comm (gs _ _), ← gm_assoc, ← gs_mul]
    refine gs_congr (fun k hk => ?_)
    rw [gp_sub (xpz hp) (by omega : k ≤ i), ← gm_assoc (f p) (gp (xp p) i), ← gm_assoc (C k) (gm (f p) _), gm_comm (C k) (gm (f p) _), gm_assoc (gm (f p) _)]
  have hz := vand w (fun p => gm (f p) (ev C (gi (xp p)) (L + 1))) L (by
    rw [← hw]
    refine ct_le (fun i _ h => ?_)
    unfold nz at h ⊢
    refine decide_eq_true (fun z => of_decide_eq_true h ?_)
    show gm (f i) _ = 0
    rw [z, gm_0l]) (fun j h1 h2 => key j h1 (by omega))
  have hr : ∀ p, p < 14 → nz f p = true → ev C (gi (xp p)) (L + 1) = 0 := by
    intro p hp h
    rcases gm_eq0 _ _ (hz p hp) with z | z
    · exact absurd z (of_decide_eq_true h)
    · exact z
  have hle := roots_le L C h0 hC
  have h3 : ct (nz f) 14 ≤ ct (fun p => decide (ev C (gi (xp p)) (L + 1) = 0)) 14 := ct_le (fun p hp h => decide_eq_true (hr p hp h))
  refine ⟨by omega, fun p hp => ⟨hr p hp, fun h => ?_⟩⟩
  cases hn : nz f p with
  | true => rfl
  | false =>
    have := ct_lt (s := nz f) (t := fun p => decide (ev C (gi (xp p)) (L + 1) = 0)) (fun i hi h => decide_eq_true (hr i hi h)) hp hn (decide_eq_true h)
    omega
