/-! THE FIELD OF SIXTEEN, AND METHODS OVER FEW ARGUMENTS -/
abbrev G : Type := Fin 16
def gN (a b : Nat) : Nat := if a = 0 ∨ b = 0 then 0 else mm_t2.getD (mm_t3.getD a 0 + mm_t3.getD b 0) 0
def gm (a b : G) : G := Fin.ofNat 16 (gN a.1 b.1)
def ga (a b : G) : G := Fin.ofNat 16 (a.1 ^^^ b.1)
def gi (a : G) : G := Fin.ofNat 16 (mm_t2.getD (15 - mm_t3.getD a.1 0) 0)
def gp (a : G) : Nat → G
  | 0 => 1
  | n + 1 => gm (gp a n) a
/-- the number of a place -/
def xp (p : Nat) : G := gp 2 (13 - p)
theorem pu_times : ∀ a b : G, mm_ek 8 [nI a.1, nI b.1] = some (nI (gm a b).1) := by decide +kernel
theorem pu_quot : ∀ a b : G, b ≠ 0 → mm_ek 9 [nI a.1, nI b.1] = some (nI (gm a (gi b)).1) := by decide +kernel
theorem pu_quot0 : ∀ a : G, mm_ek 9 [nI a.1, nI 0] = some (nI 4294967295) := by decide +kernel
theorem pu_raised : ∀ a b : G, mm_ek 10 [nI a.1, nI b.1] = some (nI (gp a b.1).1) := by decide +kernel
theorem pu_ofPlace : ∀ p : Fin 14, mm_ek 11 [nI p.1] = some (nI (xp p.1).1) := by decide +kernel
theorem pu_twice : ∀ a : G, mm_ek 135 [nI a.1] = some (nI (gm a 2).1) := by decide +kernel
theorem pu_mult : ∀ a b : G, mm_ek 136 [nI a.1, nI b.1] = some (nI (gm a b).1) := by decide +kernel
theorem gm_comm : ∀ a b : G, gm a b = gm b a := by decide +kernel
theorem gm_assoc : ∀ a b c : G, gm (gm a b) c = gm a (gm b c) := by decide +kernel
theorem ga_comm : ∀ a b : G, ga a b = ga b a := by decide +kernel
theorem ga_assoc : ∀ a b c : G, ga (ga a b) c = ga a (ga b c) := by decide +kernel
theorem gm_ga : ∀ a b c : G, gm a (ga b c) = ga (gm a b) (gm a c) := by decide +kernel
theorem ga_self : ∀ a : G, ga a a = 0 := by decide +kernel
theorem ga_0 : ∀ a : G, ga a 0 = a := by decide +kernel
theorem gm_1 : ∀ a : G, gm a 1 = a := by decide +kernel
theorem gm_0 : ∀ a : G, gm a 0 = 0 := by decide +kernel
theorem gm_gi : ∀ a : G, a ≠ 0 → gm a (gi a) = 1 := by decide +kernel
theorem gm_eq0 : ∀ a b : G, gm a b = 0 → a = 0 ∨ b = 0 := by decide +kernel
theorem ga_eq0 : ∀ a b : G, ga a b = 0 → a = b := by decide +kernel
theorem xp_ne : ∀ p q : Fin 14, p ≠ q → xp p.1 ≠ xp q.1 := by decide +kernel
theorem xp_ne0 : ∀ p : Fin 14, xp p.1 ≠ 0 := by decide +kernel
