/-! SUMS OVER THE FIELD -/
def gs (f : Nat → G) : Nat → G
  | 0 => 0
  | n + 1 => ga (gs f n) (f n)
theorem ga_0l (a : G) : ga 0 a = a := by rw [ga_comm, ga_0]
theorem gm_0l (a : G) : gm 0 a = 0 := by rw [gm_comm, gm_0]
theorem gm_1l (a : G) : gm 1 a = a := by rw [gm_comm, gm_1]
theorem ga_gm (a b c : G) : gm (ga a b) c = ga (gm a c) (gm b c) := by rw [gm_comm, gm_ga, gm_comm c a, gm_comm c b]
theorem ga_cancel (a b : G) : ga a (ga a b) = b := by rw [← ga_assoc, ga_self, ga_0l]
theorem ga_4 (a b c d : G) : ga (ga a b) (ga c d) = ga (ga a c) (ga b d) := by
  rw [ga_assoc, ← ga_assoc b c d, ga_comm b c, ga_assoc c b d, ← ga_assoc]
theorem gm_4 (a b c d : G) : gm (gm a b) (gm c d) = gm (gm a c) (gm b d) := by
  rw [gm_assoc, ← gm_assoc b c d, gm_comm b c, gm_assoc c b d, ← gm_assoc]
theorem gs_congr {f g : Nat → G} {n : Nat} (h : ∀ i, i < n → f i = g i) : gs f n = gs g n := by
  induction n with
  | zero => rfl
  | succ n ih => rw [gs, gs, ih (fun i hi => h i (by omega)), h n (by omega)]
theorem gs_zero {f : Nat → G} {n : Nat} (h : ∀ i, i < n → f i = 0) : gs f n = 0 := by
  induction n with
  | zero => rfl
  | succ n ih => rw [gs, ih (fun i hi => h i (by omega)), h n (by omega), ga_self]
theorem gs_add (f g : Nat → G) (n : Nat) : gs (fun i => ga (f i) (g i)) n = ga (gs f n) (gs g n) := by
  induction n with
  | zero => exact (ga_self 0).symm
  | succ n ih => rw [gs, gs, gs, ih, ga_4]
theorem gs_mul (a : G) (f : Nat → G) (n : Nat) : gs (fun i => gm a (f i)) n = gm a (gs f n) := by
  induction n with
  | zero => exact (gm_0 a).symm
  | succ n ih => rw [gs, gs, ih, gm_ga]
theorem gs_swap (f : Nat → Nat → G) (n m : Nat) : gs (fun i => gs (fun j => f i j) m) n = gs (fun j => gs (fun i => f i j) n) m := by
  induction n with
  | zero => exact (gs_zero (fun _ _ => rfl)).symm
  | succ n ih =>
    rw [gs, ih, ← gs_add]
    rfl
theorem gs_one {f : Nat → G} {n k : Nat} (hk : k < n) (h : ∀ i, i < n → i ≠ k → f i = 0) : gs f n = f k := by
  induction n with
  | zero => exact absurd hk (by omega)
  | succ n ih =>
    rw [gs]
    by_cases e : k = n
    · subst e
      rw [gs_zero (fun i hi => h i (by omega) (by omega)), ga_0l]
    · rw [ih (by omega) (fun i hi hne => h i (by omega) hne), h n (by omega) (fun q => e q.symm), ga_0]
theorem gs_more {f : Nat → G} {n m : Nat} (hm : n ≤ m) (h : ∀ i, n ≤ i → i < m → f i = 0) : gs f m = gs f n := by
  induction m with
  | zero => rw [show n = 0 by omega]
  | succ m ih =>
    by_cases e : n = m + 1
    · rw [e]
    · rw [gs, ih (by omega) (fun i h1 h2 => h i h1 (by omega)), h m (by omega) (by omega), ga_0]
/-- the first term -/
theorem gs_first (f : Nat → G) (n : Nat) : gs f (n + 1) = ga (f 0) (gs (fun i => f (i + 1)) n) := by
  induction n with
  | zero =>
    show ga 0 (f 0) = ga (f 0) 0
    rw [ga_comm]
  | succ n ih =>
    rw [gs, ih, gs, ga_assoc]
/-! COUNTS -/
def ct (s : Nat → Bool) : Nat → Nat
  | 0 => 0
  | n + 1 => ct s n + (if s n then 1 else 0)
theorem ct_le {s t : Nat → Bool} {n : Nat} (h : ∀ i, i < n → s i = true → t i = true) : ct s n ≤ ct t n := by
  induction n with
  | zero => exact Nat.le_refl _
  | succ n ih =>
    have h1 := ih (fun i hi => h i (by omega))
    have h2 := h n (by omega)
    unfold ct
    cases hs : s n with
    | false => simp only [Bool.false_eq_true, if_false]; omega
    | true => rw [h2 hs]; simp only [if_true]; omega
theorem ct_lt {s t : Nat → Bool} {n q : Nat} (h : ∀ i, i < n → s i = true → t i = true) (hq : q < n) (h1 : s q = false) (h2 : t q = true) : ct s n < ct t n := by
  induction n with
  | zero => exact absurd hq (by omega)
  | succ n ih =>
    unfold ct
    by_cases e : q = n
    · subst e
      have := ct_le (s := s) (t := t) (n := q) (fun i hi => h i (by omega))
      rw [h1, h2]
      simp only [Bool.false_eq_true, if_false, if_true]
      omega
    · have := ih (fun i hi => h i (by omega)) (by omega)
      have h3 := h n (by omega)
      cases hs : s n with
      | false => simp only [Bool.false_eq_true, if_false]; omega
      | true => rw [h3 hs]; simp only [if_true]; omega
theorem ct_or (s t : Nat → Bool) (n : Nat) : ct (fun i => s i || t i) n ≤ ct s n + ct t n := by
  induction n with
  | zero => exact Nat.le_refl _
  | succ n ih =>
    unfold ct
    cases s n <;> cases t n <;> simp only [Bool.or_true, Bool.or_false, Bool.false_or, Bool.true_or, Bool.false_eq_true, if_false, if_true] <;> omega
theorem ct_0 {s : Nat → Bool} {n : Nat} (h : ct s n = 0) : ∀ i, i < n → s i = false := by
  intro i hi
  cases hs : s i with
  | false => rfl
  | true =>
    have := ct_lt (s := fun _ => false) (t := s) (n := n) (q := i) (fun _ _ q => (by cases q)) hi rfl hs
    omega
theorem ct_bound (s : Nat → Bool) (n : Nat) : ct s n ≤ n := by
  induction n with
  | zero => exact Nat.le_refl _
  | succ n ih =>
    unfold ct
    split <;> omega
theorem ct_congr {s t : Nat → Bool} {n : Nat} (h : ∀ i, i < n → s i = t i) : ct s n = ct t n := by
  induction n with
  | zero => rfl
  | succ n ih => rw [ct, ct, ih (fun i hi => h i (by omega)), h n (by omega)]
theorem ct_add {s t : Nat → Bool} {n : Nat} (h : ∀ i, i < n → ¬ (s i = true ∧ t i = true)) : ct (fun i => s i || t i) n = ct s n + ct t n := by
  induction n with
  | zero => rfl
  | succ n ih =>
    have h1 := ih (fun i hi => h i (by omega))
    have h2 := h n (by omega)
    unfold ct
    rw [h1]
    cases hs : s n <;> cases ht : t n <;> simp only [Bool.or_true, Bool.or_false, Bool.false_eq_true, if_false, if_true] <;> first | omega | (exact absurd ⟨hs, ht⟩ h2)
/-! POWER SUMS: places 0 to 13 -/
theorem xpn {p q : Nat} (hp : p < 14) (hq : q < 14) (h : p ≠ q) : xp p ≠ xp q := xp_ne ⟨p, hp⟩ ⟨q, hq⟩ (fun e => h (Fin.mk.inj e))
theorem xpz {p : Nat} (hp : p < 14) : xp p ≠ 0 := xp_ne0 ⟨p, hp⟩
def pw (e : Nat → G) (j : Nat) : G := gs (fun p => gm (e p) (gp (xp p) j)) 14
theorem gp_ne0 {a : G} (h : a ≠ 0) (n : Nat) : gp a n ≠ 0 := by
  induction n with
  | zero => exact (by decide : (1 : G) ≠ 0)
  | succ n ih =>
    intro q
    rcases gm_eq0 _ _ q with q | q
    · exact ih q
    · exact h q
theorem pw_add (e f : Nat → G) (j : Nat) : pw (fun p => ga (e p) (f p)) j = ga (pw e j) (pw f j) := by
  unfold pw
  rw [← gs_add]
  exact gs_congr (fun p _ => ga_gm _ _ _)
/-- a place is struck -/
theorem pw_strike (e : Nat → G) (x : G) (j : Nat) : pw (fun p => gm (e p) (ga (xp p) x)) j = ga (pw e (j + 1)) (gm x (pw e j)) := by
  unfold pw
  rw [← gs_mul, ← gs_add]
  refine gs_congr (fun p _ => ?_)
  rw [gm_assoc, ga_gm, gm_ga]
  congr 1
  · show gm (e p) (gm (xp p) (gp (xp p) j)) = gm (e p) (gm (gp (xp p) j) (xp p))
    rw [gm_comm (xp p)]
  · rw [← gm_assoc, gm_comm (e p) x, gm_assoc]
theorem pw_zero {e : Nat → G} (h : ∀ p, p < 14 → e p = 0) (j : Nat) : pw e j = 0 := gs_zero (fun p hp => by rw [h p hp, gm_0l])
def nz (e : Nat → G) (p : Nat) : Bool := decide (e p ≠ 0)
/-- so many power sums, one behind another, that are 0 leave no vector of so few places but 0 -/
theorem vand : ∀ (n : Nat) (e : Nat → G) (a : Nat), ct (nz e) 14 ≤ n → (∀ j, a ≤ j → j < a + n → pw e j = 0) → ∀ p, p < 14 → e p = 0 := by
  intro n
  induction n with
  | zero =>
    intro e a hc _ p hp
    have := ct_0 (Nat.le_zero.mp hc) p hp
    unfold nz at this
    exact Classical.not_not.mp (of_decide_eq_false this)
  | succ n ih =>
    intro e a hc hj
    by_cases hall : ∀ p, p < 14 → e p = 0
    · exact hall
    · exfalso
      obtain ⟨q, hq⟩ := Classical.not_forall.mp hall
      obtain ⟨hq14, hq0⟩ := Classical.not_imp.mp hq
      have hlt : ct (nz (fun p => gm (e p) (ga (xp p) (xp q)))) 14 < ct (nz e) 14 := by
        refine ct_lt (q := q) (fun i hi h1 => ?_) hq14 ?_ ?_
        · unfold nz at h1 ⊢
          have h1 := of_decide_eq_true h1
          refine decide_eq_true (fun z => h1 ?_)
          show gm (e i) (ga (xp i) (xp q)) = 0
          rw [z, gm_0l]
        · unfold nz
          refine decide_eq_false (fun z => z ?_)
          show gm (e q) (ga (xp q) (xp q)) = 0
          rw [ga_self, gm_0]
        · exact decide_eq_true hq0
      have h0 := ih (fun p => gm (e p) (ga (xp p) (xp q))) a (by omega) (fun j h1 h2 => by
        rw [pw_strike, hj (j + 1) (by omega) (by omega), hj j h1 (by omega), gm_0, ga_self])
      have hz : ∀ p, p < 14 → p ≠ q → e p = 0 := by
        intro p hp hne
        rcases gm_eq0 _ _ (h0 p hp) with z | z
        · exact z
        · exact absurd (ga_eq0 _ _ z) (xpn hp hq14 hne)
      have h1 := hj a (Nat.le_refl _) (by omega)
      unfold pw at h1
      rw [gs_one hq14 (fun i hi hne => by rw [hz i hi hne, gm_0l])] at h1
      rcases gm_eq0 _ _ h1 with z | z
      · exact hq0 z
      · exact gp_ne0 (xpz hq14) a z
/-! WHAT MENDING IS -/
/-- r is a code word of c checks; with v it differs, at places that are not gone, d times; the checks are enough for that -/
def Fix (c : Nat) (v : Nat → G) (g : Nat → Bool) (r : Nat → G) (d : Nat) : Prop := (∀ j, j < c → pw r j = 0) ∧ ct (fun p => !(g p) && decide (r p ≠ v p)) 14 = d ∧ ct g 14 + 2 * d ≤ c
theorem Fix_uniq {c : Nat} {v : Nat → G} {g : Nat → Bool} {r r' : Nat → G} {d d' : Nat} (h : Fix c v g r d) (h' : Fix c v g r' d') : (∀ p, p < 14 → r p = r' p) ∧ d = d' := by
  obtain ⟨a1, a2, a3⟩ := h
  obtain ⟨b1, b2, b3⟩ := h'
  have hc : ct (nz (fun p => ga (r p) (r' p))) 14 ≤ c := by
    have h1 : ct (nz (fun p => ga (r p) (r' p))) 14 ≤ ct (fun p => g p || ((!(g p) && decide (r p ≠ v p)) || (!(g p) && decide (r' p ≠ v p)))) 14 := by
      refine ct_le (fun i _ hi => ?_)
      unfold nz at hi
      have hi := of_decide_eq_true hi
      cases hg : g i with
      | true => rfl
      | false =>
        by_cases e1 : r i = v i
        · by_cases e2 : r' i = v i
          · exact absurd (by show ga (r i) (r' i) = 0; rw [e1, e2, ga_self]) hi
          · simp [e2]
        · simp [e1]
    have h2 := ct_or g (fun p => (!(g p) && decide (r p ≠ v p)) || (!(g p) && decide (r' p ≠ v p))) 14
    have h3 := ct_or (fun p => !(g p) && decide (r p ≠ v p)) (fun p => !(g p) && decide (r' p ≠ v p)) 14
    omega
  have h0 := vand c (fun p => ga (r p) (r' p)) 0 hc (fun j _ hj => by rw [pw_add, a1 j (by omega), b1 j (by omega), ga_self])
  have he : ∀ p, p < 14 → r p = r' p := fun p hp => ga_eq0 _ _ (h0 p hp)
  refine ⟨he, ?_⟩
  rw [← a2, ← b2]
  exact ct_congr (fun p hp => by rw [he p hp])
