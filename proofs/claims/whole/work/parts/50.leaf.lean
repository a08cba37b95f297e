/-! LEAVES: range checks, small helpers -/
section LEAF
variable {X : Nat × (Nat → Int32)} {iv : IV} {P : Int32 → IV → Prop}
theorem wi_t {j n : Nat} (h : j < n) (hn : n < 2 ^ 31) (p : P (nI 1) iv) : wc X 113 [.int (nI j), .int (nI n)] iv (Ri P) :=
  mk_X10_within ⟨fun c => absurd c (nI_pos (by omega)), fun _ => ⟨fun c => absurd c (nI_ge h hn), fun _ => p⟩⟩
theorem wi_f {x : Int32} {n : Nat} (h : x < 0 ∨ nI n ≤ x) (p : P (nI 0) iv) : wc X 113 [.int x, .int (nI n)] iv (Ri P) :=
  mk_X10_within ⟨fun _ => p, fun c => ⟨fun _ => p, fun c' => absurd h (fun z => z.elim c c')⟩⟩
theorem in_t {j hi : Nat} (h : j ≤ hi) (hh : hi < 2 ^ 31) (p : P (nI 1) iv) : wc X 122 [.long (nI j).toInt64, .long (lN 0), .long (lN hi)] iv (Ri P) := by
  rw [nI_l (by omega)]
  refine mk_X11_in ⟨fun c => ?_, fun _ => ⟨fun c => ?_, fun _ => p⟩⟩
  · rw [lg_cmp_lt, lN_lt (by omega) (by omega)] at c
    exact absurd c (by omega)
  · rw [lg_cmp_gt, lN_lt (by omega) (by omega)] at c
    exact absurd c (by omega)
theorem in_f {x : Int32} {hi : Nat} (hh : hi + 1 < 2 ^ 31) (h : x < 0 ∨ nI (hi + 1) ≤ x) (p : P (nI 0) iv) : wc X 122 [.long x.toInt64, .long (lN 0), .long (lN hi)] iv (Ri P) := by
  refine mk_X11_in ⟨fun _ => p, fun c => ⟨fun _ => p, fun c' => ?_⟩⟩
  exfalso
  rw [lg_cmp_lt] at c
  rw [lg_cmp_gt] at c'
  rw [Int64.lt_iff_toInt_lt, Int32.toInt_toInt64, lN_toInt (by omega)] at c
  rw [Int64.lt_iff_toInt_lt, Int32.toInt_toInt64, lN_toInt (by omega)] at c'
  rcases h with h | h
  · rw [Int32.lt_iff_toInt_lt] at h
    have : (0 : Int32).toInt = 0 := rfl
    omega
  · rw [Int32.le_iff_toInt_le, nI_toInt hh] at h
    omega
theorem isTwo_t {j : Nat} (h : j < 2) (p : P (nI 1) iv) : wc X 123 [.int (nI j)] iv (Ri P) := mk_X11_isTwo (in_t (by omega) (by decide) ⟨Or.inr rfl, p⟩)
theorem isTwo_f {x : Int32} (h : x < 0 ∨ nI 2 ≤ x) (p : P (nI 0) iv) : wc X 123 [.int x] iv (Ri P) := mk_X11_isTwo (in_f (by decide) h ⟨Or.inl rfl, p⟩)
theorem isSheet_t {j : Nat} (h : j < 4) (p : P (nI 1) iv) : wc X 127 [.int (nI j)] iv (Ri P) := mk_X11_isSheet (in_t (by omega) (by decide) ⟨Or.inr rfl, p⟩)
theorem isSheet_f {x : Int32} (h : x < 0 ∨ nI 4 ≤ x) (p : P (nI 0) iv) : wc X 127 [.int x] iv (Ri P) := mk_X11_isSheet (in_f (by decide) h ⟨Or.inl rfl, p⟩)
theorem isPlace_t {j : Nat} (h : j < 15) (p : P (nI 1) iv) : wc X 172 [.int (nI j)] iv (Ri P) := mk_X11_isPlace (in_t (by omega) (by decide) ⟨Or.inr rfl, p⟩)
theorem isPlace_f {x : Int32} (h : x < 0 ∨ nI 15 ≤ x) (p : P (nI 0) iv) : wc X 172 [.int x] iv (Ri P) := mk_X11_isPlace (in_f (by decide) h ⟨Or.inl rfl, p⟩)
theorem isDot_t {r c : Nat} (hr : r < 15) (hc : c < 15) (p : P (nI 1) iv) : wc X 114 [.int (nI r), .int (nI c)] iv (Ri P) :=
  mk_X10_isDot (wi_t hr (by decide) ⟨fun z => absurd z (by decide), fun _ => wi_t hc (by decide) ⟨fun z => absurd z (by decide), fun _ => p⟩⟩)
theorem isDot_f1 {x y : Int32} (h : x < 0 ∨ nI 15 ≤ x) (p : P (nI 0) iv) : wc X 114 [.int x, .int y] iv (Ri P) :=
  mk_X10_isDot (wi_f h ⟨fun _ => p, fun z => absurd rfl z⟩)
theorem isDot_f2 {r : Nat} {y : Int32} (hr : r < 15) (h : y < 0 ∨ nI 15 ≤ y) (p : P (nI 0) iv) : wc X 114 [.int (nI r), .int y] iv (Ri P) :=
  mk_X10_isDot (wi_t hr (by decide) ⟨fun z => absurd z (by decide), fun _ => wi_f h ⟨fun _ => p, fun z => absurd rfl z⟩⟩)
theorem sp_greater {a b : Nat} (ha : a < 2 ^ 31) (hb : b < 2 ^ 31) (p : P (nI (max a b)) iv) : wc X 125 [.int (nI a), .int (nI b)] iv (Ri P) := by
  refine mk_X11_greater ⟨fun c => ?_, fun c => ?_⟩
  · rw [nI_leI ha hb] at c
    rw [Nat.max_eq_right c] at p
    exact p
  · rw [nI_leI ha hb] at c
    rw [Nat.max_eq_left (by omega)] at p
    exact p
theorem sp_lesser {a b : Nat} (ha : a < 2 ^ 31) (hb : b < 2 ^ 31) (p : P (nI (min a b)) iv) : wc X 124 [.int (nI a), .int (nI b)] iv (Ri P) := by
  refine mk_X11_lesser ⟨fun c => ?_, fun c => ?_⟩
  · rw [nI_leI hb ha] at c
    rw [Nat.min_eq_right c] at p
    exact p
  · rw [nI_leI hb ha] at c
    rw [Nat.min_eq_left (by omega)] at p
    exact p
/-- sums -/
def sm (b : Nat → Nat) : Nat → Nat
  | 0 => 0
  | n + 1 => sm b n + b n
theorem sp_sumOf {r0 : Nat} {b : Nat → Nat} (k0 : kdT r0 = (1, 225)) (hb : ∀ i, i < 225 → iv r0 i = nI (b i)) (h : P (nI (sm b 225)) iv) : wc X 178 [.ref r0] iv (Ri P) := by
  refine mk_X11_sumOf ?_
  have key : ∀ n k, k + n = 225 → wp X (0, 0) 178 4 [some (.ref r0), some (.int (nI (sm b k))), some (.int (nI k))] [] iv (Ri P) := by
    intro n
    induction n with
    | zero =>
      intro k hk
      rw [show k = 225 by omega]
      exact mk_X11_sumOf_4 k0 ⟨fun _ => h, fun c => absurd (nI_le (Nat.le_refl 225) (by decide)) c⟩
    | succ n ih =>
      intro k hk
      refine mk_X11_sumOf_4 k0 ⟨fun c => absurd c (nI_ge (by omega) (by decide)), fun _ => ⟨vp_in_nI (by omega) (by decide), ?_⟩⟩
      intro v hv
      subst hv
      rw [nI_clamp (by omega), hb k (by omega), nI_add, nI_add]
      exact ih (k + 1) (by omega)
  exact key 225 0 rfl
/-- the field -/
theorem sp_times (a b : G) (p : P (nI (gm a b).1) iv) : wc X 8 [.int (nI a.1), .int (nI b.1)] iv (Ri P) := pui (as := [nI a.1, nI b.1]) (by decide) (pu_times a b) p
theorem sp_quot (a b : G) (hb : b ≠ 0) (p : P (nI (gm a (gi b)).1) iv) : wc X 9 [.int (nI a.1), .int (nI b.1)] iv (Ri P) := pui (as := [nI a.1, nI b.1]) (by decide) (pu_quot a b hb) p
theorem sp_raised (a b : G) (p : P (nI (gp a b.1).1) iv) : wc X 10 [.int (nI a.1), .int (nI b.1)] iv (Ri P) := pui (as := [nI a.1, nI b.1]) (by decide) (pu_raised a b) p
theorem sp_ofPlace {q : Nat} (hq : q < 14) (p : P (nI (xp q).1) iv) : wc X 11 [.int (nI q)] iv (Ri P) := pui (as := [nI q]) (by decide) (pu_ofPlace ⟨q, hq⟩) p
theorem sp_twice (a : G) (p : P (nI (gm a 2).1) iv) : wc X 135 [.int (nI a.1)] iv (Ri P) := pui (as := [nI a.1]) (by decide) (pu_twice a) p
theorem sp_mult (a b : G) (p : P (nI (gm a b).1) iv) : wc X 136 [.int (nI a.1), .int (nI b.1)] iv (Ri P) := pui (as := [nI a.1, nI b.1]) (by decide) (pu_mult a b) p
theorem sp_often (a : G) {n : Nat} (hn : n < 2 ^ 31) (p : P (nI (gp a n).1) iv) : wc X 137 [.int (nI a.1), .int (nI n)] iv (Ri P) := by
  refine mk_X11_often ?_
  have key : ∀ m k, k + m = n → wp X (0, 0) 137 4 [some (.int (nI a.1)), some (.int (nI n)), some (.int (nI (gp a k).1)), some (.int (nI k))] [] iv (Ri P) := by
    intro m
    induction m with
    | zero =>
      intro k hk
      rw [show k = n by omega]
      exact mk_X11_often_4 ⟨fun _ => p, fun c => absurd (nI_le (Nat.le_refl n) hn) c⟩
    | succ m ih =>
      intro k hk
      refine mk_X11_often_4 ⟨fun c => absurd c (nI_ge (by omega) hn), fun _ => sp_mult (gp a k) a ?_⟩
      rw [nI_add]
      exact ih (k + 1) (by omega)
  exact key n 0 (by omega)
theorem gp_14 : ∀ a : G, a ≠ 0 → gp a 14 = gi a := by decide +kernel
theorem sp_inverse (a : G) (ha : a ≠ 0) (p : P (nI (gi a).1) iv) : wc X 138 [.int (nI a.1)] iv (Ri P) := mk_X11_inverse (sp_often a (by decide) (by rw [gp_14 a ha]; exact p))
end LEAF
