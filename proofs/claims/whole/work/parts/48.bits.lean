/-! BITS -/
theorem nI_and (a b : Nat) : nI a &&& nI b = nI (a &&& b) := by
  apply Int32.toBitVec_inj.1
  show BitVec.ofNat 32 a &&& BitVec.ofNat 32 b = BitVec.ofNat 32 (a &&& b)
  apply BitVec.eq_of_toNat_eq
  rw [BitVec.toNat_and, BitVec.toNat_ofNat, BitVec.toNat_ofNat, BitVec.toNat_ofNat, Nat.and_mod_two_pow]
theorem nI_or (a b : Nat) : nI a ||| nI b = nI (a ||| b) := by
  apply Int32.toBitVec_inj.1
  show BitVec.ofNat 32 a ||| BitVec.ofNat 32 b = BitVec.ofNat 32 (a ||| b)
  apply BitVec.eq_of_toNat_eq
  rw [BitVec.toNat_or, BitVec.toNat_ofNat, BitVec.toNat_ofNat, BitVec.toNat_ofNat, Nat.or_mod_two_pow]
theorem nI_xor (a b : Nat) : nI a ^^^ nI b = nI (a ^^^ b) := by
  apply Int32.toBitVec_inj.1
  show BitVec.ofNat 32 a ^^^ BitVec.ofNat 32 b = BitVec.ofNat 32 (a ^^^ b)
  apply BitVec.eq_of_toNat_eq
  rw [BitVec.toNat_xor, BitVec.toNat_ofNat, BitVec.toNat_ofNat, BitVec.toNat_ofNat, Nat.xor_mod_two_pow]
/-! the bits of a number, counted -/
def gb (n : Nat) (p : Nat) : Bool := n.testBit p
theorem land_256 (a b : Nat) : a &&& b = (a % 256 &&& b % 256) + 256 * (a / 256 &&& b / 256) := by
  have h1 : (a &&& b) % 2 ^ 8 = a % 2 ^ 8 &&& b % 2 ^ 8 := Nat.and_mod_two_pow
  have h2 : (a &&& b) / 2 ^ 8 = a / 2 ^ 8 &&& b / 2 ^ 8 := Nat.and_div_two_pow
  have h3 := Nat.mod_add_div (a &&& b) (2 ^ 8)
  rw [h1, h2] at h3
  exact h3.symm
theorem l15 (x : Nat) : x &&& 15 = x % 16 := Nat.and_two_pow_sub_one_eq_mod x 4
theorem l63 (x : Nat) : x &&& 63 = x % 64 := Nat.and_two_pow_sub_one_eq_mod x 6
def s1 (n : Nat) : Nat := n - ((n / 2 ^ 1) &&& 1431655765)
def s2 (n : Nat) : Nat := (n &&& 858993459) + ((n / 2 ^ 2) &&& 858993459)
def s3 (n : Nat) : Nat := (n + n / 2 ^ 4) &&& 252645135
theorem b1a : ∀ a, a < 256 → ∀ q, q < 2 → (a / 2 + 128 * q) &&& 85 = a / 2 &&& 85 := by decide +kernel
theorem b1b : ∀ a, a < 256 → (a / 2 &&& 1431655765) = (a / 2 &&& 85) ∧ (a / 2 &&& 85) ≤ a := by decide +kernel
theorem b1c : ∀ b, b < 256 → (b / 2 &&& 5592405) = (b / 2 &&& 85) := by decide +kernel
theorem s1_split {a b : Nat} (ha : a < 256) (hb : b < 256) : s1 (a + 256 * b) = s1 a + 256 * s1 b := by
  unfold s1
  rw [land_256 ((a + 256 * b) / 2 ^ 1)]
  rw [show (a + 256 * b) / 2 ^ 1 % 256 = a / 2 + 128 * (b % 2) by omega, show (a + 256 * b) / 2 ^ 1 / 256 = b / 2 by omega]
  rw [show 1431655765 % 256 = 85 by decide, show 1431655765 / 256 = 5592405 by decide, b1a a ha _ (by omega), b1c b hb]
  have q1 := b1b a ha
  have q2 := b1b b hb
  rw [show a / 2 ^ 1 = a / 2 by omega, show b / 2 ^ 1 = b / 2 by omega, q1.1, q2.1]
  omega
theorem b2a : ∀ a, a < 256 → ∀ q, q < 4 → (a / 4 + 64 * q) &&& 51 = a / 4 &&& 51 := by decide +kernel
theorem b2b : ∀ a, a < 256 → (a &&& 858993459) = (a &&& 51) ∧ (a / 4 &&& 858993459) = (a / 4 &&& 51) ∧ (a &&& 3355443) = (a &&& 51) ∧ (a / 4 &&& 3355443) = (a / 4 &&& 51) := by decide +kernel
theorem s2_split {a b : Nat} (ha : a < 256) (hb : b < 256) : s2 (a + 256 * b) = s2 a + 256 * s2 b := by
  unfold s2
  rw [land_256 (a + 256 * b), land_256 ((a + 256 * b) / 2 ^ 2)]
  rw [show (a + 256 * b) / 2 ^ 2 % 256 = a / 4 + 64 * (b % 4) by omega, show (a + 256 * b) / 2 ^ 2 / 256 = b / 4 by omega, show (a + 256 * b) % 256 = a by omega, show (a + 256 * b) / 256 = b by omega]
  rw [show 858993459 % 256 = 51 by decide, show 858993459 / 256 = 3355443 by decide, b2a a ha _ (by omega)]
  have q1 := b2b a ha
  have q2 := b2b b hb
  rw [show a / 2 ^ 2 = a / 4 by omega, show b / 2 ^ 2 = b / 4 by omega, q1.1, q1.2.1, q2.1, q2.2.1, q2.2.2.1, q2.2.2.2]
  omega
theorem b3a : ∀ a, a < 256 → s2 (s1 a) % 16 ≤ 4 ∧ s2 (s1 a) < 69 ∧ s1 a < 256 ∧ (s2 (s1 a) + s2 (s1 a) / 16) % 16 = ct (gb a) 8 ∧ ct (gb a) 8 ≤ 8 := by decide +kernel
theorem b3b : ∀ B, B < 69 → (B + B / 16) &&& 986895 = (B + B / 16) % 16 := by decide +kernel
theorem s3_split {A B : Nat} (hA : A < 69) (hB : B < 69) (hB4 : B % 16 ≤ 4) : s3 (A + 256 * B) = (A + A / 16) % 16 + 256 * ((B + B / 16) % 16) := by
  unfold s3
  rw [land_256]
  rw [show (A + 256 * B + (A + 256 * B) / 2 ^ 4) % 256 = A + A / 16 + 16 * (B % 16) by omega, show (A + 256 * B + (A + 256 * B) / 2 ^ 4) / 256 = B + B / 16 by omega]
  rw [show 252645135 % 256 = 15 by decide, show 252645135 / 256 = 986895 by decide, l15, b3b B hB]
  omega
theorem ct_split (s : Nat → Bool) (m n : Nat) : ct s (m + n) = ct s m + ct (fun i => s (m + i)) n := by
  induction n with
  | zero => rfl
  | succ n ih =>
    show ct s (m + n) + _ = ct s m + (ct (fun i => s (m + i)) n + _)
    rw [ih, Nat.add_assoc]
    rfl
theorem bc_eq {n : Nat} (h : n < 2 ^ 15) : (s3 (s2 (s1 n)) + s3 (s2 (s1 n)) / 2 ^ 8 + (s3 (s2 (s1 n)) + s3 (s2 (s1 n)) / 2 ^ 8) / 2 ^ 16) &&& 63 = ct (gb n) 15 := by
  have ha : n % 256 < 256 := by omega
  have hb : n / 256 < 256 := by omega
  have e : n = n % 256 + 256 * (n / 256) := by omega
  have q1 := b3a (n % 256) ha
  have q2 := b3a (n / 256) hb
  have hs : s3 (s2 (s1 n)) = ct (gb (n % 256)) 8 + 256 * ct (gb (n / 256)) 8 := by
    rw [e, s1_split ha hb, s2_split q1.2.2.1 q2.2.2.1, s3_split q1.2.1 q2.2.1 q2.1, q1.2.2.2.1, q2.2.2.2.1]
    rw [← e]
  have hc : ct (gb n) 15 = ct (gb (n % 256)) 8 + ct (gb (n / 256)) 8 := by
    have h1 : ct (gb n) 16 = ct (gb n) 15 := by
      show ct (gb n) 15 + _ = _
      rw [show gb n 15 = false from Nat.testBit_lt_two_pow h]
      rfl
    rw [← h1, show 16 = 8 + 8 by rfl, ct_split]
    congr 1
    · refine ct_congr (fun i hi => ?_)
      unfold gb
      rw [show n % 256 = n % 2 ^ 8 by rfl, Nat.testBit_mod_two_pow]
      simp [hi]
    · refine ct_congr (fun i hi => ?_)
      unfold gb
      rw [show n / 256 = n / 2 ^ 8 by rfl, Nat.testBit_div_two_pow, Nat.add_comm]
  rw [hs, hc, l63]
  have r1 := q1.2.2.2.2
  have r2 := q2.2.2.2.2
  clear hs hc q1 q2
  generalize ct (gb (n % 256)) 8 = u at r1 ⊢
  generalize ct (gb (n / 256)) 8 = w at r2 ⊢
  rw [show (u + 256 * w) / 2 ^ 8 = w by omega, show (u + 256 * w + w) / 2 ^ 16 = 0 by omega]
  omega
theorem sp_bitCount {X : Nat × (Nat → Int32)} {iv : IV} {P : Int32 → IV → Prop} {n : Nat} (hn : n < 2 ^ 15) (p : P (nI (ct (gb n) 15)) iv) : wc X 220 [.int (nI n)] iv (Ri P) := by
  rw [← bc_eq hn] at p
  refine mk_J6_bitCount_0f7a4 (fun v1 h1 v2 h2 v3 h3 v4 h4 v5 h5 => ?_)
  rw [pk_ushrN (by omega) (nI 1) 1 (by decide), nI_and, pk_sub (Nat.le_trans Nat.and_le_left (Nat.div_le_self _ _))] at h1
  have h1 : v1 = nI (s1 n) := h1
  have b1 : s1 n < 2 ^ 15 := by unfold s1; omega
  rw [h1, pk_ushrN (by omega) (nI 2) 2 (by decide), nI_and, nI_and, nI_add] at h2
  have h2 : v2 = nI (s2 (s1 n)) := h2
  have b2 : s2 (s1 n) < 2 ^ 17 := by
    unfold s2
    have q1 : s1 n &&& 858993459 ≤ s1 n := Nat.and_le_left
    have q2 : s1 n / 2 ^ 2 &&& 858993459 ≤ s1 n / 2 ^ 2 := Nat.and_le_left
    omega
  rw [h2, pk_ushrN (by omega) (nI 4) 4 (by decide), nI_add, nI_and] at h3
  have h3 : v3 = nI (s3 (s2 (s1 n))) := h3
  have b3 : s3 (s2 (s1 n)) < 2 ^ 18 := by
    unfold s3
    have q1 : (s2 (s1 n) + s2 (s1 n) / 2 ^ 4) &&& 252645135 ≤ s2 (s1 n) + s2 (s1 n) / 2 ^ 4 := Nat.and_le_left
    omega
  rw [h3, pk_ushrN (by omega) (nI 8) 8 (by decide), nI_add] at h4
  rw [h4, pk_ushrN (by omega) (nI 16) 16 (by decide), nI_add] at h5
  rw [h5, nI_and]
  exact p
