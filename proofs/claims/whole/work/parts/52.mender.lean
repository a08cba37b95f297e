/-! THE MENDER'S METHODS -/
theorem nI_ga : ∀ a b : G, nI a.1 ^^^ nI b.1 = nI (ga a b).1 := by decide +kernel
theorem nI_g0 : ∀ a : G, nI a.1 = 0 ↔ a = 0 := by decide +kernel
theorem sh_k : ∀ c, c < 32 → ((nI c &&& 31).toBitVec.smod 32).toNat = c := by decide +kernel
theorem shr_nI {n c : Nat} (hn : n < 2 ^ 31) (hc : c < 32) : nI n >>> (nI c &&& 31) = nI (n / 2 ^ c) := pk_shrN hn _ c (sh_k c hc)
theorem bit_nI {n c : Nat} (hn : n < 2 ^ 31) (hc : c < 32) : (nI n >>> (nI c &&& 31)) &&& nI 1 = nI (n.testBit c).toNat := by
  rw [shr_nI hn hc, pk_andN (Nat.lt_of_le_of_lt (Nat.div_le_self _ _) (by omega)) (m := nI 1) 1 (by decide), Nat.toNat_testBit]
/-! rows of the memory -/
theorem row_get (iv : IV) (a : Nat) (g : Nat → Int32) : mm_row iv a g a = g := by
  funext i
  show (if a = a then g i else iv a i) = g i
  rw [if_pos rfl]
theorem row_at (iv : IV) (a : Nat) (g : Nat → Int32) (i : Nat) : mm_row iv a g a i = g i := by rw [row_get]
theorem row_ne {iv : IV} {a q : Nat} {g : Nat → Int32} (h : q ≠ a) : mm_row iv a g q = iv q := mm_row_ne h
theorem up_row (iv : IV) (a k : Nat) (v : Int32) : mm_up2 iv a k v = mm_row iv a (fun i => if i = k then v else iv a i) := by
  funext q i
  unfold mm_up2 mm_row
  by_cases h : q = a
  · rw [if_pos h, if_pos h, h]
  · rw [if_neg h, if_neg h]
theorem row_row (iv : IV) (a : Nat) (g g' : Nat → Int32) : mm_row (mm_row iv a g) a g' = mm_row iv a g' := by
  funext q i
  unfold mm_row
  by_cases h : q = a
  · rw [if_pos h, if_pos h]
  · rw [if_neg h, if_neg h, if_neg h]
theorem row_up (iv : IV) (a k : Nat) (g : Nat → Int32) (v : Int32) : mm_up2 (mm_row iv a g) a k v = mm_row iv a (fun i => if i = k then v else g i) := by
  rw [up_row, row_row, row_get]
theorem row_id {iv : IV} {a : Nat} {g : Nat → Int32} (h : ∀ i, g i = iv a i) : mm_row iv a g = iv := by
  funext q i
  unfold mm_row
  by_cases hq : q = a
  · rw [if_pos hq, hq, h]
  · rw [if_neg hq]
theorem row_cg {iv : IV} {a : Nat} {g g' : Nat → Int32} (h : ∀ i, g i = g' i) : mm_row iv a g = mm_row iv a g' := by rw [funext h]
section MEND
variable {X : Nat × (Nat → Int32)} {iv : IV}
theorem sp_bit {n c : Nat} {P : Int32 → IV → Prop} (hn : n < 2 ^ 31) (hc : c < 32) (p : P (nI (n.testBit c).toNat) iv) : wc X 115 [.int (nI n), .int (nI c)] iv (Ri P) := mk_X10_bit (by rw [bit_nI hn hc]; exact p)
theorem sp_strike {P : IV → Prop} {len : Nat} {x : G} {s : Nat → G} (hl : len ≤ 6) (hs : ∀ k, k < len → iv 16 k = nI (s k).1) (h : P (mm_row iv 16 (fun k => if k + 1 < len then nI (st x s k).1 else iv 16 k))) : wc X 29 [.ref 14, .int (nI len), .int (nI x.1)] iv (Rv P) := by
  refine mk_X4_strike ?_
  have key : ∀ m k, k + m = 6 → wp X (0, 0) 29 2 [some (.ref 14), some (.int (nI len)), some (.int (nI x.1)), some (.int (nI k))] [] (mm_row iv 16 (fun i => if i < k ∧ i + 1 < len then nI (st x s i).1 else iv 16 i)) (Rv P) := by
    intro m
    induction m with
    | zero =>
      intro k hk
      refine mk_X4_strike_2 ⟨fun _ => ?_, fun c => absurd (by rw [nI_add]; exact nI_le (by omega) (by omega)) c⟩
      rw [row_cg (g' := fun k => if k + 1 < len then nI (st x s k).1 else iv 16 k) (fun i => by
        by_cases hi : i + 1 < len
        · rw [if_pos ⟨by omega, hi⟩, if_pos hi]
        · rw [if_neg (fun z => hi z.2), if_neg hi])]
      exact h
    | succ m ih =>
      intro k hk
      refine mk_X4_strike_2 ?_
      rw [nI_add]
      by_cases hkl : k + 1 < len
      · refine ⟨fun c => absurd c (nI_ge hkl (by omega)), fun _ => ⟨vp_in_nI (by omega) (by decide), vp_in_nI (by omega) (by decide), ?_⟩⟩
        rw [nI_clamp (by omega), nI_clamp (by omega), row_at, row_at]
        rw [if_neg (by omega), if_neg (by omega), hs k (by omega), hs (k + 1) (by omega)]
        refine sp_times x (s k) ⟨vp_in_nI (by omega) (by decide), fun iv3 h3 => ?_⟩
        rw [nI_ga, row_up] at h3
        rw [h3, row_cg (g' := fun i => if i < k + 1 ∧ i + 1 < len then nI (st x s i).1 else iv 16 i) (fun i => by
          by_cases hi : i = k
          · rw [if_pos hi, hi, if_pos ⟨by omega, hkl⟩]
            rfl
          · rw [if_neg hi]
            by_cases hik : i < k ∧ i + 1 < len
            · rw [if_pos hik, if_pos ⟨by omega, hik.2⟩]
            · rw [if_neg hik, if_neg (fun z => hik ⟨by omega, z.2⟩)])]
        exact ih (k + 1) (by omega)
      · refine ⟨fun _ => ?_, fun c => absurd (nI_le (by omega) (by omega)) c⟩
        rw [row_cg (g' := fun k => if k + 1 < len then nI (st x s k).1 else iv 16 k) (fun i => by
          by_cases hi : i + 1 < len
          · rw [if_pos ⟨by omega, hi⟩, if_pos hi]
          · rw [if_neg (fun z => hi z.2), if_neg hi])]
        exact h
  have h0 := key 6 0 rfl
  rw [row_id (fun i => if_neg (by omega))] at h0
  exact h0
/-- a sum by Horner -/
def hn (x : G) (v : Nat → G) : Nat → G
  | 0 => 0
  | n + 1 => ga (gm (hn x v n) x) (v n)
theorem hn_eq (x : G) (v : Nat → G) (n : Nat) : hn x v n = gs (fun p => gm (v p) (gp x (n - 1 - p))) n := by
  induction n with
  | zero => rfl
  | succ n ih =>
    rw [hn, ih, gs, gm_comm, ← gs_mul]
    congr 1
    · refine gs_congr (fun p hp => ?_)
      rw [show n + 1 - 1 - p = (n - 1 - p) + 1 by omega, gp, gm_comm x, gm_assoc]
    · rw [show n + 1 - 1 - n = 0 by omega]
      exact (gm_1 _).symm
theorem gp_add (a : G) (m n : Nat) : gp a (m + n) = gm (gp a m) (gp a n) := by
  induction n with
  | zero => exact (gm_1 _).symm
  | succ n ih => rw [← Nat.add_assoc, gp, ih, gp, gm_assoc]
theorem gp_gp (a : G) (m n : Nat) : gp (gp a m) n = gp a (m * n) := by
  induction n with
  | zero => rfl
  | succ n ih => rw [gp, ih, Nat.mul_succ, gp_add]
theorem hn_pw (v : Nat → G) (j : Nat) : hn (gp 2 j) v 14 = pw v j := by
  rw [hn_eq]
  refine gs_congr (fun p hp => ?_)
  unfold xp
  rw [gp_gp, gp_gp, Nat.mul_comm, show 14 - 1 - p = 13 - p by omega]
theorem gG {n : Nat} (h : n < 16) : (Fin.ofNat 16 n : G).1 = n := Nat.mod_eq_of_lt h
theorem sp_sumUp {P : IV → Prop} {r1 c : Nat} {v : Nat → G} (k0 : kdT r1 = (1, 14)) (hr : r1 ≠ 15) (hc : c ≤ 6) (hv : ∀ p, p < 14 → iv r1 p = nI (v p).1) (h : P (mm_row iv 15 (fun j => if j < c then nI (pw v j).1 else iv 15 j))) : wc X 27 [.ref 14, .ref r1, .int (nI c)] iv (Rv P) := by
  refine mk_X4_sumUp ?_
  have key : ∀ m j, j + m = c → wp X (0, 0) 27 2 [some (.ref 14), some (.ref r1), some (.int (nI c)), some (.int (nI j)), none, none, none] [] (mm_row iv 15 (fun i => if i < j then nI (pw v i).1 else iv 15 i)) (Rv P) := by
    intro m
    induction m with
    | zero =>
      intro j hj
      refine mk_X4_sumUp_2 ⟨fun _ => ?_, fun z => absurd (nI_le (by omega) (by omega)) z⟩
      rw [show j = c by omega]
      exact h
    | succ m ih =>
      intro j hj
      refine mk_X4_sumUp_2 ⟨fun z => absurd z (nI_ge (by omega) (by omega)), fun _ => ?_⟩
      have hj16 : (Fin.ofNat 16 j : G).1 = j := gG (by omega)
      have q := sp_raised (X := X) (iv := mm_row iv 15 (fun i => if i < j then nI (pw v i).1 else iv 15 i)) (P := fun r iv1 => wp X (0, 0) 27 13 [some (.ref 14), some (.ref r1), some (.int (nI c)), some (.int (nI j)), some (.int r), some (.int (nI 0)), some (.int (nI 0))] [] iv1 (Rv P)) 2 (Fin.ofNat 16 j)
      rw [hj16] at q
      refine q ?_
      have inner : ∀ m k, k + m = 14 → wp X (0, 0) 27 13 [some (.ref 14), some (.ref r1), some (.int (nI c)), some (.int (nI j)), some (.int (nI (gp 2 j).1)), some (.int (nI (hn (gp 2 j) v k).1)), some (.int (nI k))] [] (mm_row iv 15 (fun i => if i < j then nI (pw v i).1 else iv 15 i)) (Rv P) := by
        intro m
        induction m with
        | zero =>
          intro k hk
          refine mk_X4_sumUp_13 k0 ⟨fun _ => ⟨vp_in_nI (by omega) (by decide), fun iv1 h1 => ?_⟩, fun z => absurd (nI_le (by omega) (by omega)) z⟩
          rw [nI_clamp (by omega), row_up, show k = 14 by omega, hn_pw] at h1
          rw [h1, nI_add, row_cg (g' := fun i => if i < j + 1 then nI (pw v i).1 else iv 15 i) (fun i => by
            by_cases hi : i = j
            · rw [if_pos hi, if_pos (by omega), hi]
            · rw [if_neg hi]
              by_cases hij : i < j
              · rw [if_pos hij, if_pos (by omega)]
              · rw [if_neg hij, if_neg (by omega)])]
          exact ih (j + 1) (by omega)
        | succ m ih2 =>
          intro k hk
          refine mk_X4_sumUp_13 k0 ⟨fun z => absurd z (nI_ge (by omega) (by decide)), fun _ => ?_⟩
          refine sp_times _ _ ⟨vp_in_nI (by omega) (by decide), fun v4 h4 => ?_⟩
          rw [nI_clamp (by omega), row_ne hr, hv k (by omega), nI_ga] at h4
          rw [h4, nI_add]
          exact ih2 (k + 1) (by omega)
      exact inner 14 0 rfl
  have h0 := key c 0 (by omega)
  rw [row_id (fun i => if_neg (by omega))] at h0
  exact h0
end MEND
