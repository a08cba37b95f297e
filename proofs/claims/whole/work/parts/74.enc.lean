/-! THE MARK: what it is; check symbols by a register -/
abbrev TX : Type := Nat × (Nat → Nat) × Nat × (Nat → Nat)
def ltr (l i : Nat) : Nat := mm_tx.getD (3 * l + i) 0
/-- how far the name goes along with that of a level -/
def al (T : TX) (l : Nat) : Nat := if 0 < T.2.2.1 ∧ T.2.2.2 0 = ltr l 0 then (if 1 < T.2.2.1 ∧ T.2.2.2 1 = ltr l 1 then (if 2 < T.2.2.1 ∧ T.2.2.2 2 = ltr l 2 then 3 else 2) else 1) else 0
def lv (T : TX) : Nat := if al T 1 = 3 then 1 else if al T 2 = 3 then 2 else 0
theorem lv_3 (T : TX) : lv T < 3 := by unfold lv; split; decide; split <;> decide
def TOK (T : TX) : Prop := T.1 ≤ 14 ∧ (∀ i, i < T.1 → T.2.1 i < 256) ∧ T.2.2.1 ≤ 3 ∧ ∀ i, i < T.2.2.1 → T.2.2.2 i < 256
def th (T : TX) : Bool := !(wrg (lv T) T.1)
def itm (T : TX) (i : Nat) : Nat := if i = 0 then T.1 else if (i - 1) % 2 = 0 then (if (i - 1) / 2 < T.1 then T.2.1 ((i - 1) / 2) else 0) / 16 else (if (i - 1) / 2 < T.1 then T.2.1 ((i - 1) / 2) else 0) % 16
theorem itm_lt {T : TX} (h : TOK T) (i : Nat) : itm T i < 16 := by
  have hh : (if (i - 1) / 2 < T.1 then T.2.1 ((i - 1) / 2) else 0) < 256 := by
    split
    · rename_i q; exact h.2.1 _ q
    · decide
  have := h.1
  unfold itm
  split
  · omega
  · split <;> omega
def itG (T : TX) (blk p : Nat) : G := Fin.ofNat 16 (itm T (3 * p + blk))
theorem itG_val {T : TX} (h : TOK T) (blk p : Nat) : (itG T blk p).1 = itm T (3 * p + blk) := gG (itm_lt h _)
def ckg (l p : Nat) : Bool := decide (12 - 2 * l ≤ p)
noncomputable def sS (T : TX) (blk : Nat) : Nat → G := mr (2 + 2 * lv T) (itG T blk) (ckg (lv T))
def sbit (s : Nat → Nat → G) (k : Nat) : Bool := decide (k < 168) && (s (k / 4 % 3) (k / 4 / 3)).1.testBit (3 - k % 4)
noncomputable def Dt (T : TX) (w i : Nat) : Bool := if frN i = 4294967295 then fx (lv T) w i else xor (sbit (sS T) (frN i)) (mbit w (i / 15) (i % 15))
noncomputable def pnT (T : TX) (w : Nat) : Nat := pn (Dt T w)
def am (p : Nat → Nat) : Nat → Nat
  | 0 => 0
  | k + 1 => if p k < p (am p k) then k else am p k
noncomputable def mkT (T : TX) : Nat := am (pnT T) 4
theorem am_lt (p : Nat → Nat) : ∀ k, am p (k + 1) < k + 1 := by
  intro k
  induction k with
  | zero => rw [am]; split <;> exact Nat.one_pos
  | succ k ih => rw [am]; split <;> omega
theorem mkT_lt (T : TX) : mkT T < 4 := am_lt _ 3
/-! Horner's sums -/
theorem hn_first (x : G) : ∀ (n : Nat) (v : Nat → G), hn x v (n + 1) = ga (gm (v 0) (gp x n)) (hn x (fun k => v (k + 1)) n) := by
  intro n
  induction n with
  | zero => intro v; show ga (gm 0 x) (v 0) = ga (gm (v 0) 1) 0; rw [gm_0l, ga_0l, gm_1, ga_0]
  | succ n ih =>
    intro v
    rw [hn, ih v, hn, ga_gm, gp, ← gm_assoc, ga_assoc]
theorem hn_cat (x : G) (w : Nat → G) (n k : Nat) : hn x w (n + k) = ga (gm (hn x w n) (gp x k)) (hn x (fun i => w (n + i)) k) := by
  induction k with
  | zero => show _ = ga (gm _ 1) 0; rw [gm_1, ga_0]; rfl
  | succ k ih => rw [← Nat.add_assoc, hn, ih, hn, ga_gm, gp, ← gm_assoc, ga_assoc]
theorem hn_congr {x : G} {v w : Nat → G} {n : Nat} (h : ∀ i, i < n → v i = w i) : hn x v n = hn x w n := by
  induction n with
  | zero => rfl
  | succ n ih => rw [hn, hn, ih (fun i hi => h i (by omega)), h n (by omega)]
theorem hn_add (x : G) (v w : Nat → G) (n : Nat) : hn x (fun i => ga (v i) (w i)) n = ga (hn x v n) (hn x w n) := by
  induction n with
  | zero => exact (ga_0 0).symm
  | succ n ih => rw [hn, ih, hn, hn, ga_gm, ga_4]
theorem hn_mul (x a : G) (v : Nat → G) (n : Nat) : hn x (fun i => gm a (v i)) n = gm a (hn x v n) := by
  induction n with
  | zero => exact (gm_0 a).symm
  | succ n ih => rw [hn, ih, hn, gm_ga, gm_assoc]
/-! the base, the register -/
def Bs : Nat → Nat → G
  | 0, k => if k = 0 then 1 else 0
  | j + 1, k => if k = 0 then Bs j 0 else ga (Bs j k) (gm (Bs j (k - 1)) (gp 2 j))
theorem Bs_root : ∀ l, l < 3 → ∀ j, j < 2 + 2 * l → hn (gp 2 j) (Bs (2 + 2 * l)) (2 + 2 * l + 1) = 0 := by decide +kernel
theorem Bs_0 (j : Nat) : Bs j 0 = 1 := by
  induction j with
  | zero => rfl
  | succ j ih => rw [Bs, if_pos rfl, ih]
theorem Bs_high : ∀ j k, j < k → Bs j k = 0 := by
  intro j
  induction j with
  | zero => intro k hk; rw [Bs, if_neg (by omega)]
  | succ j ih => intro k hk; rw [Bs, if_neg (by omega), ih k (by omega), ih (k - 1) (by omega), gm_0l, ga_0]
def Rg (c : Nat) (v : Nat → G) : Nat → Nat → G
  | 0, _ => 0
  | p + 1, k => ga (if k + 1 < c then Rg c v p (k + 1) else 0) (gm (ga (v p) (Rg c v p 0)) (Bs c (k + 1)))
theorem Rg_hn {l j : Nat} (hl : l < 3) (hj : j < 2 + 2 * l) (v : Nat → G) (n : Nat) : hn (gp 2 j) (Rg (2 + 2 * l) v n) (2 + 2 * l) = gm (gp (gp 2 j) (2 + 2 * l)) (hn (gp 2 j) v n) := by
  induction n with
  | zero =>
    show _ = gm _ 0
    rw [gm_0]
    have := hn_mul (gp 2 j) 0 (fun _ => 0) (2 + 2 * l)
    rw [gm_0l] at this
    exact (hn_congr (fun i _ => (gm_0l 0).symm)).trans this
  | succ n ih =>
    have hB : hn (gp 2 j) (fun k => Bs (2 + 2 * l) (k + 1)) (2 + 2 * l) = gp (gp 2 j) (2 + 2 * l) := by
      have h1 := Bs_root l hl j hj
      rw [hn_first, Bs_0, gm_1l] at h1
      exact (ga_eq0 _ _ h1).symm
    have hS : hn (gp 2 j) (fun k => if k + 1 < 2 + 2 * l then Rg (2 + 2 * l) v n (k + 1) else 0) (2 + 2 * l) = ga (gm (hn (gp 2 j) (Rg (2 + 2 * l) v n) (2 + 2 * l)) (gp 2 j)) (gm (Rg (2 + 2 * l) v n 0) (gp (gp 2 j) (2 + 2 * l))) := by
      have e : 2 + 2 * l = (1 + 2 * l) + 1 := by omega
      have h1 : hn (gp 2 j) (fun k => if k + 1 < 2 + 2 * l then Rg (2 + 2 * l) v n (k + 1) else 0) ((1 + 2 * l) + 1) = gm (hn (gp 2 j) (fun k => Rg (2 + 2 * l) v n (k + 1)) (1 + 2 * l)) (gp 2 j) := by
        rw [hn, if_neg (by omega), ga_0]
        congr 1
        exact hn_congr (fun i hi => if_pos (by omega))
      rw [← e] at h1
      rw [h1]
      have h2 := hn_first (gp 2 j) (1 + 2 * l) (Rg (2 + 2 * l) v n)
      rw [← e] at h2
      rw [h2, ga_gm, gm_assoc]
      have h3 : gm (gp (gp 2 j) (1 + 2 * l)) (gp 2 j) = gp (gp 2 j) (2 + 2 * l) := by rw [e]; rfl
      rw [h3, ga_comm (gm (Rg (2 + 2 * l) v n 0) _), ga_assoc, ga_self, ga_0]
    have hR : hn (gp 2 j) (Rg (2 + 2 * l) v (n + 1)) (2 + 2 * l) = ga (hn (gp 2 j) (fun k => if k + 1 < 2 + 2 * l then Rg (2 + 2 * l) v n (k + 1) else 0) (2 + 2 * l)) (gm (ga (v n) (Rg (2 + 2 * l) v n 0)) (hn (gp 2 j) (fun k => Bs (2 + 2 * l) (k + 1)) (2 + 2 * l))) := by
      rw [← hn_mul, ← hn_add]
      exact hn_congr (fun i _ => rfl)
    rw [hR, hS, hB, ih, hn, gm_ga, ga_gm, gm_assoc, ga_comm (gm (v n) _) (gm (Rg (2 + 2 * l) v n 0) _), ga_assoc, ga_cancel, gm_comm (v n)]
/-- the word with its checks -/
def cwd (l : Nat) (v : Nat → G) (p : Nat) : G := if p < 12 - 2 * l then v p else Rg (2 + 2 * l) v (12 - 2 * l) (p - (12 - 2 * l))
theorem ckg_ct : ∀ l, l < 3 → ct (ckg l) 14 = 2 + 2 * l := by decide +kernel
theorem cwd_fix {l : Nat} (hl : l < 3) (v : Nat → G) : Fix (2 + 2 * l) v (ckg l) (cwd l v) 0 := by
  refine ⟨fun j hj => ?_, ?_, by rw [ckg_ct l hl]; omega⟩
  · rw [← hn_pw, show 14 = (12 - 2 * l) + (2 + 2 * l) by omega, hn_cat]
    have h1 : hn (gp 2 j) (cwd l v) (12 - 2 * l) = hn (gp 2 j) v (12 - 2 * l) := hn_congr (fun i hi => by unfold cwd; rw [if_pos hi])
    have h2 : hn (gp 2 j) (fun i => cwd l v (12 - 2 * l + i)) (2 + 2 * l) = hn (gp 2 j) (Rg (2 + 2 * l) v (12 - 2 * l)) (2 + 2 * l) := hn_congr (fun i hi => by
      unfold cwd
      rw [if_neg (by omega), Nat.add_sub_cancel_left])
    rw [h1, h2, Rg_hn hl hj, gm_comm, ga_self]
  · have : ∀ m, m ≤ 14 → ct (fun p => !(ckg l p) && decide (cwd l v p ≠ v p)) m = 0 := by
      intro m
      induction m with
      | zero => intro _; rfl
      | succ m ih =>
        intro hm
        show ct _ m + (if (!(ckg l m) && decide (cwd l v m ≠ v m)) then 1 else 0) = 0
        rw [ih (by omega)]
        have : (!(ckg l m) && decide (cwd l v m ≠ v m)) = false := by
          unfold ckg cwd
          by_cases h : m < 12 - 2 * l
          · rw [if_pos h]
            simp
          · rw [decide_eq_true (by omega)]
            rfl
        rw [this]
        rfl
    exact this 14 (Nat.le_refl _)
theorem cwd_mr {l : Nat} (hl : l < 3) (v : Nat → G) : (∀ p, p < 14 → mr (2 + 2 * l) v (ckg l) p = cwd l v p) ∧ mu (2 + 2 * l) v (ckg l) = 0 := mr_of (cwd_fix hl v)
/-- only what isn't gone counts -/
theorem mr_off {c : Nat} {v v' : Nat → G} {g : Nat → Bool} (hv : ∀ p, p < 14 → g p = false → v p = v' p) : mu c v g = mu c v' g ∧ ∀ p, p < 14 → mu c v g ≠ 4294967295 → mr c v g p = mr c v' g p := by
  by_cases h : ∃ r d, Fix c v g r d
  · obtain ⟨r, d, hF⟩ := h
    have h1 := mr_of hF
    have h2 := mr_of (Fix_off hF hv)
    exact ⟨by rw [h1.2, h2.2], fun p hp _ => by rw [h1.1 p hp, h2.1 p hp]⟩
  · have h' : ¬ ∃ r d, Fix c v' g r d := fun ⟨r, d, q⟩ => h ⟨r, d, Fix_off q (fun p hp hg => (hv p hp hg).symm)⟩
    exact ⟨by rw [mu_no h, mu_no h'], fun p _ q => absurd (mu_no h) q⟩
