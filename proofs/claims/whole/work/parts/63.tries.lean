/-! THE MODEL'S TRYING OF PLACES -/
def PL (iv : IV) (l : List Nat) : Prop := ∀ k, k < l.length → l.getD k 0 < 14 ∧ iv 99 k = nI (l.getD k 0)
def So (c : Nat) (S : Nat → G) (l : List Nat) (e : Nat → G) : Prop := ∀ j, j < c → gs (fun i => gm (e i) (gp (xp (l.getD i 0)) j)) l.length = S j
theorem PL_snoc {iv iv' : IV} {l : List Nat} {q : Nat} (h : PL iv l) (hq : q < 14) (hl : l.length < 2 ^ 31) (h' : iv' = mm_up2 iv 99 (nI l.length).toNatClampNeg (nI q)) : PL iv' (l ++ [q]) ∧ PL iv' l ∧ ∀ a, a ≠ 99 → iv' a = iv a := by
  rw [nI_clamp hl, up_row] at h'
  refine ⟨fun k hk => ?_, fun k hk => ?_, fun a ha => by rw [h', row_ne ha]⟩
  · rw [List.length_append, List.length_singleton] at hk
    by_cases e : k = l.length
    · rw [e, getD_snoc_at, h', row_at, if_pos rfl]
      exact ⟨hq, rfl⟩
    · rw [getD_snoc_lt (by omega), h', row_at, if_neg e]
      exact h k (by omega)
  · rw [h', row_at, if_neg (by omega)]
    exact h k hk
theorem PL_of {iv iv' : IV} {l : List Nat} (h : PL iv l) (h99 : iv' 99 = iv 99) : PL iv' l := fun k hk => by rw [h99]; exact h k hk
section TRIES
variable {X : Nat × (Nat → Int32)} {iv : IV}
theorem sp_solvesL {P : Int32 → IV → Prop} {c : Nat} {l : List Nat} {S : Nat → G} (hM : MF iv) (hc : c ≤ 6) (hl : l.length ≤ c) (hp : PL iv l) (hnd : l.Nodup) (hS : ∀ j, j < c → iv 97 j = nI (S j).1) (ht : ∀ e : Nat → G, So c S l e → ∀ iv', (∀ a, a ≠ 98 → a ≠ 100 → iv' a = iv a) → (∀ k, k < l.length → iv' 100 k = nI (e k).1) → P (nI 1) iv') (hf : (¬ ∃ e : Nat → G, So c S l e) → ∀ iv', (∀ a, a ≠ 98 → a ≠ 100 → iv' a = iv a) → P (nI 0) iv') : wc X 191 [.ref 74, .int (nI c), .int (nI l.length)] iv (Ri P) :=
  sp_solves (ps := fun i => l.getD i 0) hM hc hl hp (fun i j hi hj h => nodup_getD l hnd i j hi hj h) hS ht hf
theorem sp_isGone {P : Int32 → IV → Prop} {l : List Nat} {p : Nat} (hl : l.length ≤ 14) (hp : p < 14) (hpl : PL iv l) (ht : p ∈ l → P (nI 1) iv) (hf : p ∉ l → P (nI 0) iv) : wc X 192 [.ref 74, .int (nI l.length), .int (nI p)] iv (Ri P) := by
  refine mk_X11_isGone ?_
  have key : ∀ m k, k + m = l.length → (((∃ i, i < k ∧ l.getD i 0 = p) → wp X (0, 0) 192 4 [some (.ref 74), some (.int (nI l.length)), some (.int (nI p)), some (.int (nI 1)), some (.int (nI k))] [] iv (Ri P)) ∧ ((¬ ∃ i, i < k ∧ l.getD i 0 = p) → wp X (0, 0) 192 4 [some (.ref 74), some (.int (nI l.length)), some (.int (nI p)), some (.int (nI 0)), some (.int (nI k))] [] iv (Ri P))) := by
    intro m
    induction m with
    | zero =>
      intro k hk
      refine ⟨fun hz => mk_X11_isGone_4 ⟨fun _ => ⟨Or.inr rfl, ht ?_⟩, fun z => absurd (nI_le (by omega) (by omega)) z⟩, fun hz => mk_X11_isGone_4 ⟨fun _ => ⟨Or.inl rfl, hf ?_⟩, fun z => absurd (nI_le (by omega) (by omega)) z⟩⟩
      · obtain ⟨i, hi, he⟩ := hz
        rw [← he]
        exact getD_mem (by omega)
      · intro hm
        obtain ⟨i, hi, he⟩ := mem_getD hm
        exact hz ⟨i, by omega, he⟩
    | succ m ih =>
      intro k hk
      obtain ⟨i1, i2⟩ := ih (k + 1) (by omega)
      refine ⟨fun hz => mk_X11_isGone_4 ⟨fun z => absurd z (nI_ge (by omega) (by omega)), fun _ => ⟨fun z => absurd z (by decide), fun _ => ?_⟩⟩, fun hz => mk_X11_isGone_4 ⟨fun z => absurd z (nI_ge (by omega) (by omega)), fun _ => ⟨fun _ => ⟨vp_in_nI (by omega) (by decide), ?_⟩, fun z => absurd rfl z⟩⟩⟩
      · rw [nI_add]
        obtain ⟨i, hi, he⟩ := hz
        exact i1 ⟨i, by omega, he⟩
      · have hk2 := hpl k (by omega)
        rw [nI_clamp (by omega), hk2.2, nI_add]
        refine ⟨fun z => i1 ⟨k, by omega, (nI_eq (by omega) (by omega)).mp z⟩, fun z => i2 ?_⟩
        rintro ⟨i, hi, he⟩
        by_cases e : i = k
        · subst e
          exact z (by rw [he])
        · exact hz ⟨i, by omega, he⟩
  exact (key l.length 0 (by omega)).2 (fun ⟨i, hi, _⟩ => absurd hi (by omega))
theorem sp_triesOne {P : Int32 → IV → Prop} {c : Nat} {l : List Nat} {S : Nat → G} (hM : MF iv) (hc : c ≤ 6) (hl : l.length + 1 ≤ c) (hp : PL iv l) (hnd : l.Nodup) (hS : ∀ j, j < c → iv 97 j = nI (S j).1) (ht : ∀ (a : Nat) (e : Nat → G), a < 14 → a ∉ l → So c S (l ++ [a]) e → ∀ iv', (∀ q, q ≠ 98 → q ≠ 99 → q ≠ 100 → iv' q = iv q) → PL iv' (l ++ [a]) → (∀ k, k < l.length + 1 → iv' 100 k = nI (e k).1) → P (nI 1) iv') (hf : (∀ a, a < 14 → a ∉ l → ¬ ∃ e : Nat → G, So c S (l ++ [a]) e) → ∀ iv', (∀ q, q ≠ 98 → q ≠ 99 → q ≠ 100 → iv' q = iv q) → PL iv' l → P (nI 0) iv') : wc X 193 [.ref 74, .int (nI c), .int (nI l.length)] iv (Ri P) := by
  refine mk_X11_triesOne ?_
  have key : ∀ m a, a + m = 14 → ∀ iv3 : IV, (∀ q, q ≠ 98 → q ≠ 99 → q ≠ 100 → iv3 q = iv q) → PL iv3 l → (∀ b, b < a → b ∉ l → ¬ ∃ e : Nat → G, So c S (l ++ [b]) e) → wp X (0, 0) 193 4 [some (.ref 74), some (.int (nI c)), some (.int (nI l.length)), some (.int (nI 0)), some (.int (nI a))] [] iv3 (Ri P) := by
    intro m
    induction m with
    | zero =>
      intro a ha iv3 f1 f2 f3
      exact mk_X11_triesOne_4 ⟨fun _ => ⟨Or.inl rfl, hf (fun b hb => f3 b (by omega)) iv3 f1 f2⟩, fun z => absurd (nI_le (by omega) (by omega)) z⟩
    | succ m ih =>
      intro a ha iv3 f1 f2 f3
      refine mk_X11_triesOne_4 ⟨fun z => absurd z (nI_ge (by omega) (by decide)), fun _ => ⟨fun _ => ⟨vp_in_nI (by omega) (by decide), fun iv4 h4 => ?_⟩, fun z => absurd rfl z⟩⟩
      obtain ⟨p1, p2, p3⟩ := PL_snoc f2 (show a < 14 by omega) (by omega) h4
      have fr4 : ∀ q, q ≠ 98 → q ≠ 99 → q ≠ 100 → iv4 q = iv q := fun q q1 q2 q3 => by rw [p3 q q2, f1 q q1 q2 q3]
      have no : ∀ iv5 : IV, (∀ q, q ≠ 98 → q ≠ 99 → q ≠ 100 → iv5 q = iv q) → PL iv5 l → (a ∉ l → ¬ ∃ e : Nat → G, So c S (l ++ [a]) e) → wp X (0, 0) 193 4 [some (.ref 74), some (.int (nI c)), some (.int (nI l.length)), some (.int (nI 0)), some (.int (nI a + nI 1))] [] iv5 (Ri P) := fun iv5 g1 g2 g3 => by
        rw [nI_add]
        refine ih (a + 1) (by omega) iv5 g1 g2 (fun b hb hbl => ?_)
        by_cases e : b = a
        · subst e
          exact g3 hbl
        · exact f3 b (by omega) hbl
      refine sp_isGone (by omega) (by omega) p2 (fun hin => ⟨fun z => absurd z (by decide), fun _ => no iv4 fr4 p2 (fun q => absurd hin q)⟩) (fun hnin => ⟨fun _ => ?_, fun z => absurd rfl z⟩)
      rw [nI_add, show l.length + 1 = (l ++ [a]).length by rw [List.length_append]; rfl]
      have hnd' : (l ++ [a]).Nodup := List.nodup_append.mpr ⟨hnd, by simp, fun x hx y hy hxy => by
        rw [List.mem_singleton] at hy
        rw [hxy, hy] at hx
        exact hnin hx⟩
      refine sp_solvesL (MF_of hM (fr4 79 (by decide) (by decide) (by decide)) (fr4 80 (by decide) (by decide) (by decide)) (fr4 81 (by decide) (by decide) (by decide))) hc (by rw [List.length_append, List.length_singleton]; omega) p1 hnd' (fun j hj => by rw [fr4 97 (by decide) (by decide) (by decide)]; exact hS j hj) (fun e he iv5 g5 s5 => ?_) (fun hno iv5 g5 => ?_)
      · refine ⟨fun z => absurd z (by decide), fun _ => ?_⟩
        have fin : P (nI 1) iv5 := ht a e (by omega) hnin he iv5 (fun q q1 q2 q3 => by rw [g5 q q1 q3, fr4 q q1 q2 q3]) (PL_of p1 (g5 99 (by decide) (by decide))) (fun k hk => s5 k (by rw [List.length_append, List.length_singleton]; exact hk))
        exact mk_X11_triesOne_4 ⟨fun _ => ⟨Or.inr rfl, fin⟩, fun _ => ⟨fun z => absurd z (by decide), fun _ => ⟨Or.inr rfl, fin⟩⟩⟩
      · exact ⟨fun _ => no iv5 (fun q q1 q2 q3 => by rw [g5 q q1 q3, fr4 q q1 q2 q3]) (PL_of p2 (g5 99 (by decide) (by decide))) (fun _ => hno), fun z => absurd rfl z⟩
  exact key 14 0 rfl iv (fun _ _ _ _ => rfl) hp (fun b hb => absurd hb (by omega))
theorem nodup_snoc {l : List Nat} {a : Nat} (hnd : l.Nodup) (hn : a ∉ l) : (l ++ [a]).Nodup := List.nodup_append.mpr ⟨hnd, by simp, fun x hx y hy hxy => by
  rw [List.mem_singleton] at hy
  rw [hxy, hy] at hx
  exact hn hx⟩
theorem PL_2 {iv iv' : IV} {l : List Nat} {a b : Nat} (h : PL iv (l ++ [a])) (hb : b < 14) (hl : l.length < 100) (h' : iv' = mm_up2 iv 99 (nI l.length + nI 1).toNatClampNeg (nI b)) : PL iv' (l ++ [a] ++ [b]) ∧ PL iv' (l ++ [a]) ∧ PL iv' l ∧ ∀ q, q ≠ 99 → iv' q = iv q := by
  rw [nI_add, show l.length + 1 = (l ++ [a]).length by rw [List.length_append]; rfl] at h'
  have hl2 : (l ++ [a]).length < 2 ^ 31 := by rw [List.length_append, List.length_singleton]; omega
  obtain ⟨p1, p2, p3⟩ := PL_snoc h hb hl2 h'
  refine ⟨p1, p2, fun k hk => ?_, p3⟩
  have := p2 k (by rw [List.length_append]; omega)
  rw [getD_snoc_lt hk] at this
  exact this
theorem PL_init {iv : IV} {l : List Nat} {a : Nat} (h : PL iv (l ++ [a])) : PL iv l := fun k hk => by
  have := h k (by rw [List.length_append]; omega)
  rw [getD_snoc_lt hk] at this
  exact this
theorem sp_triesTwo {P : Int32 → IV → Prop} {c : Nat} {l : List Nat} {S : Nat → G} (hM : MF iv) (hc : c ≤ 6) (hl : l.length + 2 ≤ c) (hp : PL iv l) (hnd : l.Nodup) (hS : ∀ j, j < c → iv 97 j = nI (S j).1) (ht : ∀ (a b : Nat) (e : Nat → G), a < b → b < 14 → a ∉ l → b ∉ l → So c S (l ++ [a] ++ [b]) e → ∀ iv', (∀ q, q ≠ 98 → q ≠ 99 → q ≠ 100 → iv' q = iv q) → PL iv' (l ++ [a] ++ [b]) → (∀ k, k < l.length + 2 → iv' 100 k = nI (e k).1) → P (nI 1) iv') (hf : (∀ a b, a < b → b < 14 → a ∉ l → b ∉ l → ¬ ∃ e : Nat → G, So c S (l ++ [a] ++ [b]) e) → ∀ iv', (∀ q, q ≠ 98 → q ≠ 99 → q ≠ 100 → iv' q = iv q) → PL iv' l → P (nI 0) iv') : wc X 194 [.ref 74, .int (nI c), .int (nI l.length)] iv (Ri P) := by
  refine mk_X11_triesTwo ?_
  have key : ∀ m a, a + m = 14 → ∀ iv3 : IV, (∀ q, q ≠ 98 → q ≠ 99 → q ≠ 100 → iv3 q = iv q) → PL iv3 l → (∀ a' b', a' < a → a' < b' → b' < 14 → a' ∉ l → b' ∉ l → ¬ ∃ e : Nat → G, So c S (l ++ [a'] ++ [b']) e) → wp X (0, 0) 194 4 [some (.ref 74), some (.int (nI c)), some (.int (nI l.length)), some (.int (nI 0)), some (.int (nI a)), none] [] iv3 (Ri P) := by
    intro m
    induction m with
    | zero =>
      intro a ha iv3 f1 f2 f3
      exact mk_X11_triesTwo_4 ⟨fun _ => ⟨Or.inl rfl, hf (fun a' b' h1 h2 => f3 a' b' (by omega) h1 h2) iv3 f1 f2⟩, fun z => absurd (nI_le (by omega) (by omega)) z⟩
    | succ m ih =>
      intro a ha iv3 f1 f2 f3
      refine mk_X11_triesTwo_4 ⟨fun z => absurd z (nI_ge (by omega) (by decide)), fun _ => ⟨fun _ => ⟨vp_in_nI (by omega) (by decide), fun iv4 h4 => ?_⟩, fun z => absurd rfl z⟩⟩
      obtain ⟨p1, -, p3⟩ := PL_snoc f2 (show a < 14 by omega) (by omega) h4
      have nextA : ∀ iv5 : IV, (∀ q, q ≠ 98 → q ≠ 99 → q ≠ 100 → iv5 q = iv q) → PL iv5 l → (∀ b', a < b' → b' < 14 → a ∉ l → b' ∉ l → ¬ ∃ e : Nat → G, So c S (l ++ [a] ++ [b']) e) → wp X (0, 0) 194 4 [some (.ref 74), some (.int (nI c)), some (.int (nI l.length)), some (.int (nI 0)), some (.int (nI a + nI 1)), none] [] iv5 (Ri P) := fun iv5 g1 g2 g3 => by
        rw [nI_add]
        refine ih (a + 1) (by omega) iv5 g1 g2 (fun a' b' w1 w2 w3 w4 w5 => ?_)
        by_cases e : a' = a
        · rw [e] at w2 w4 ⊢
          exact g3 b' w2 w3 w4 w5
        · exact f3 a' b' (by omega) w2 w3 w4 w5
      have inner : ∀ m2 b, b + m2 = 14 → a < b → ∀ iv5 : IV, (∀ q, q ≠ 98 → q ≠ 99 → q ≠ 100 → iv5 q = iv q) → PL iv5 (l ++ [a]) → (∀ b', a < b' → b' < b → a ∉ l → b' ∉ l → ¬ ∃ e : Nat → G, So c S (l ++ [a] ++ [b']) e) → wp X (0, 0) 194 18 [some (.ref 74), some (.int (nI c)), some (.int (nI l.length)), some (.int (nI 0)), some (.int (nI a)), some (.int (nI b))] [] iv5 (Ri P) := by
        intro m2
        induction m2 with
        | zero =>
          intro b hb hab iv5 g1 g2 g3
          exact mk_X11_triesTwo_18 ⟨fun _ => nextA iv5 g1 (PL_init g2) (fun b' h1 h2 => g3 b' h1 (by omega)), fun z => absurd (nI_le (by omega) (by omega)) z⟩
        | succ m2 ih2 =>
          intro b hb hab iv5 g1 g2 g3
          refine mk_X11_triesTwo_18 ⟨fun z => absurd z (nI_ge (by omega) (by decide)), fun _ => ⟨fun _ => ?_, fun z => absurd rfl z⟩⟩
          refine sp_isGone (by omega) (by omega) (PL_init g2) (fun hin => ⟨fun z => absurd z (by decide), fun _ => nextA iv5 g1 (PL_init g2) (fun b' _ _ h3 => absurd hin h3)⟩) (fun hna => ⟨fun _ => ⟨by rw [nI_add]; exact vp_in_nI (by omega) (by decide), fun iv6 h6 => ?_⟩, fun z => absurd rfl z⟩)
          obtain ⟨q1, q2, q3, q4⟩ := PL_2 g2 (show b < 14 by omega) (by omega) h6
          have fr6 : ∀ q, q ≠ 98 → q ≠ 99 → q ≠ 100 → iv6 q = iv q := fun q h1 h2 h3 => by rw [q4 q h2, g1 q h1 h2 h3]
          have nextB : ∀ iv7 : IV, (∀ q, q ≠ 98 → q ≠ 99 → q ≠ 100 → iv7 q = iv q) → PL iv7 (l ++ [a]) → (b ∉ l → ¬ ∃ e : Nat → G, So c S (l ++ [a] ++ [b]) e) → wp X (0, 0) 194 18 [some (.ref 74), some (.int (nI c)), some (.int (nI l.length)), some (.int (nI 0)), some (.int (nI a)), some (.int (nI b + nI 1))] [] iv7 (Ri P) := fun iv7 k1 k2 k3 => by
            rw [nI_add]
            refine ih2 (b + 1) (by omega) (by omega) iv7 k1 k2 (fun b' h1 h2 h3 h4 => ?_)
            by_cases e : b' = b
            · subst e
              exact k3 h4
            · exact g3 b' h1 (by omega) h3 h4
          refine sp_isGone (by omega) (by omega) q3 (fun hin => ⟨fun z => absurd z (by decide), fun _ => nextB iv6 fr6 q2 (fun q => absurd hin q)⟩) (fun hnb => ⟨fun _ => ?_, fun z => absurd rfl z⟩)
          have hlen : (l ++ [a] ++ [b]).length = l.length + 2 := by rw [List.length_append, List.length_append]; rfl
          rw [nI_add, ← hlen]
          have hnd' : (l ++ [a] ++ [b]).Nodup := nodup_snoc (nodup_snoc hnd hna) (fun q => by
            rcases List.mem_append.mp q with q | q
            · exact hnb q
            · rw [List.mem_singleton] at q
              omega)
          refine sp_solvesL (MF_of hM (fr6 79 (by decide) (by decide) (by decide)) (fr6 80 (by decide) (by decide) (by decide)) (fr6 81 (by decide) (by decide) (by decide))) hc (by omega) q1 hnd' (fun j hj => by rw [fr6 97 (by decide) (by decide) (by decide)]; exact hS j hj) (fun e he iv7 g7 s7 => ?_) (fun hno iv7 g7 => ?_)
          · refine ⟨fun z => absurd z (by decide), fun _ => ?_⟩
            have fin : P (nI 1) iv7 := ht a b e hab (by omega) hna hnb he iv7 (fun q h1 h2 h3 => by rw [g7 q h1 h3, fr6 q h1 h2 h3]) (PL_of q1 (g7 99 (by decide) (by decide))) (fun k hk => s7 k (by omega))
            have out : ∀ x4 : Int32, wp X (0, 0) 194 4 [some (.ref 74), some (.int (nI c)), some (.int (nI l.length)), some (.int (nI 1)), some (.int x4), none] [] iv7 (Ri P) := fun x4 => mk_X11_triesTwo_4 ⟨fun _ => ⟨Or.inr rfl, fin⟩, fun _ => ⟨fun z => absurd z (by decide), fun _ => ⟨Or.inr rfl, fin⟩⟩⟩
            exact mk_X11_triesTwo_18 ⟨fun _ => out _, fun _ => ⟨fun z => absurd z (by decide), fun _ => out _⟩⟩
          · exact ⟨fun _ => nextB iv7 (fun q h1 h2 h3 => by rw [g7 q h1 h3, fr6 q h1 h2 h3]) (PL_of q2 (g7 99 (by decide) (by decide))) (fun _ => hno), fun z => absurd rfl z⟩
      rw [nI_add]
      exact inner (13 - a) (a + 1) (by omega) (by omega) iv4 (fun q h1 h2 h3 => by rw [p3 q h2, f1 q h1 h2 h3]) p1 (fun b' h1 h2 => absurd h2 (by omega))
  exact key 14 0 rfl iv (fun _ _ _ _ => rfl) hp (fun a' b' h => absurd h (by omega))
theorem PL_3 {iv iv' : IV} {l : List Nat} {a b d : Nat} (h : PL iv (l ++ [a] ++ [b])) (hd : d < 14) (hl : l.length < 100) (h' : iv' = mm_up2 iv 99 (nI l.length + nI 2).toNatClampNeg (nI d)) : PL iv' (l ++ [a] ++ [b] ++ [d]) ∧ PL iv' (l ++ [a] ++ [b]) ∧ PL iv' l ∧ ∀ q, q ≠ 99 → iv' q = iv q := by
  rw [nI_add, show l.length + 2 = (l ++ [a] ++ [b]).length by rw [List.length_append, List.length_append]; rfl] at h'
  have hl2 : (l ++ [a] ++ [b]).length < 2 ^ 31 := by rw [List.length_append, List.length_append, List.length_singleton, List.length_singleton]; omega
  obtain ⟨p1, p2, p3⟩ := PL_snoc h hd hl2 h'
  exact ⟨p1, p2, PL_init (PL_init p2), p3⟩
set_option maxHeartbeats 2000000 in
theorem sp_triesThree {P : Int32 → IV → Prop} {c : Nat} {l : List Nat} {S : Nat → G} (hM : MF iv) (hc : c ≤ 6) (hl : l.length + 3 ≤ c) (hp : PL iv l) (hnd : l.Nodup) (hS : ∀ j, j < c → iv 97 j = nI (S j).1) (ht : ∀ (a b d : Nat) (e : Nat → G), a < b → b < d → d < 14 → a ∉ l → b ∉ l → d ∉ l → So c S (l ++ [a] ++ [b] ++ [d]) e → ∀ iv', (∀ q, q ≠ 98 → q ≠ 99 → q ≠ 100 → iv' q = iv q) → PL iv' (l ++ [a] ++ [b] ++ [d]) → (∀ k, k < l.length + 3 → iv' 100 k = nI (e k).1) → P (nI 1) iv') (hf : (∀ a b d, a < b → b < d → d < 14 → a ∉ l → b ∉ l → d ∉ l → ¬ ∃ e : Nat → G, So c S (l ++ [a] ++ [b] ++ [d]) e) → ∀ iv', (∀ q, q ≠ 98 → q ≠ 99 → q ≠ 100 → iv' q = iv q) → PL iv' l → P (nI 0) iv') : wc X 195 [.ref 74, .int (nI c), .int (nI l.length)] iv (Ri P) := by
  refine mk_X11_triesThree ?_
  have key : ∀ m a, a + m = 14 → ∀ iv3 : IV, (∀ q, q ≠ 98 → q ≠ 99 → q ≠ 100 → iv3 q = iv q) → PL iv3 l → (∀ a' b' d', a' < a → a' < b' → b' < d' → d' < 14 → a' ∉ l → b' ∉ l → d' ∉ l → ¬ ∃ e : Nat → G, So c S (l ++ [a'] ++ [b'] ++ [d']) e) → wp X (0, 0) 195 4 [some (.ref 74), some (.int (nI c)), some (.int (nI l.length)), some (.int (nI 0)), some (.int (nI a)), none, none] [] iv3 (Ri P) := by
    intro m
    induction m with
    | zero =>
      intro a ha iv3 f1 f2 f3
      exact mk_X11_triesThree_4 ⟨fun _ => ⟨Or.inl rfl, hf (fun a' b' d' h1 h2 h3 => f3 a' b' d' (by omega) h1 h2 h3) iv3 f1 f2⟩, fun z => absurd (nI_le (by omega) (by omega)) z⟩
    | succ m ih =>
      intro a ha iv3 f1 f2 f3
      refine mk_X11_triesThree_4 ⟨fun z => absurd z (nI_ge (by omega) (by decide)), fun _ => ⟨fun _ => ⟨vp_in_nI (by omega) (by decide), fun iv4 h4 => ?_⟩, fun z => absurd rfl z⟩⟩
      obtain ⟨p1, -, p3⟩ := PL_snoc f2 (show a < 14 by omega) (by omega) h4
      have nextA : ∀ iv5 : IV, (∀ q, q ≠ 98 → q ≠ 99 → q ≠ 100 → iv5 q = iv q) → PL iv5 l → (∀ b' d', a < b' → b' < d' → d' < 14 → a ∉ l → b' ∉ l → d' ∉ l → ¬ ∃ e : Nat → G, So c S (l ++ [a] ++ [b'] ++ [d']) e) → wp X (0, 0) 195 4 [some (.ref 74), some (.int (nI c)), some (.int (nI l.length)), some (.int (nI 0)), some (.int (nI a + nI 1)), none, none] [] iv5 (Ri P) := fun iv5 g1 g2 g3 => by
        rw [nI_add]
        refine ih (a + 1) (by omega) iv5 g1 g2 (fun a' b' d' w1 w2 w3 w4 w5 w6 w7 => ?_)
        by_cases e : a' = a
        · rw [e] at w2 w5 ⊢
          exact g3 b' d' w2 w3 w4 w5 w6 w7
        · exact f3 a' b' d' (by omega) w2 w3 w4 w5 w6 w7
      have midl : ∀ m2 b, b + m2 = 14 → a < b → ∀ iv5 : IV, (∀ q, q ≠ 98 → q ≠ 99 → q ≠ 100 → iv5 q = iv q) → PL iv5 (l ++ [a]) → (∀ b' d', a < b' → b' < b → b' < d' → d' < 14 → a ∉ l → b' ∉ l → d' ∉ l → ¬ ∃ e : Nat → G, So c S (l ++ [a] ++ [b'] ++ [d']) e) → wp X (0, 0) 195 18 [some (.ref 74), some (.int (nI c)), some (.int (nI l.length)), some (.int (nI 0)), some (.int (nI a)), some (.int (nI b)), none] [] iv5 (Ri P) := by
        intro m2
        induction m2 with
        | zero =>
          intro b hb hab iv5 g1 g2 g3
          exact mk_X11_triesThree_18 ⟨fun _ => nextA iv5 g1 (PL_init g2) (fun b' d' h1 h2 h3 => g3 b' d' h1 (by omega) h2 h3), fun z => absurd (nI_le (by omega) (by omega)) z⟩
        | succ m2 ih2 =>
          intro b hb hab iv5 g1 g2 g3
          refine mk_X11_triesThree_18 ⟨fun z => absurd z (nI_ge (by omega) (by decide)), fun _ => ⟨fun _ => ?_, fun z => absurd rfl z⟩⟩
          refine sp_isGone (by omega) (by omega) (PL_init g2) (fun hin => ⟨fun z => absurd z (by decide), fun _ => nextA iv5 g1 (PL_init g2) (fun b' d' _ _ _ h3 => absurd hin h3)⟩) (fun hna => ⟨fun _ => ⟨by rw [nI_add]; exact vp_in_nI (by omega) (by decide), fun iv6 h6 => ?_⟩, fun z => absurd rfl z⟩)
          obtain ⟨q1, -, -, q4⟩ := PL_2 g2 (show b < 14 by omega) (by omega) h6
          have nextB : ∀ iv7 : IV, (∀ q, q ≠ 98 → q ≠ 99 → q ≠ 100 → iv7 q = iv q) → PL iv7 (l ++ [a]) → (∀ d', b < d' → d' < 14 → b ∉ l → d' ∉ l → ¬ ∃ e : Nat → G, So c S (l ++ [a] ++ [b] ++ [d']) e) → wp X (0, 0) 195 18 [some (.ref 74), some (.int (nI c)), some (.int (nI l.length)), some (.int (nI 0)), some (.int (nI a)), some (.int (nI b + nI 1)), none] [] iv7 (Ri P) := fun iv7 k1 k2 k3 => by
            rw [nI_add]
            refine ih2 (b + 1) (by omega) (by omega) iv7 k1 k2 (fun b' d' w1 w2 w3 w4 w5 w6 w7 => ?_)
            by_cases e : b' = b
            · rw [e] at w3 w6 ⊢
              exact k3 d' w3 w4 w6 w7
            · exact g3 b' d' w1 (by omega) w3 w4 w5 w6 w7
          have inner : ∀ m3 d, d + m3 = 14 → b < d → ∀ iv7 : IV, (∀ q, q ≠ 98 → q ≠ 99 → q ≠ 100 → iv7 q = iv q) → PL iv7 (l ++ [a] ++ [b]) → (∀ d', b < d' → d' < d → b ∉ l → d' ∉ l → ¬ ∃ e : Nat → G, So c S (l ++ [a] ++ [b] ++ [d']) e) → wp X (0, 0) 195 39 [some (.ref 74), some (.int (nI c)), some (.int (nI l.length)), some (.int (nI 0)), some (.int (nI a)), some (.int (nI b)), some (.int (nI d))] [] iv7 (Ri P) := by
            intro m3
            induction m3 with
            | zero =>
              intro d hd hbd iv7 k1 k2 k3
              exact mk_X11_triesThree_39 ⟨fun _ => nextB iv7 k1 (PL_init k2) (fun d' h1 h2 => k3 d' h1 (by omega)), fun z => absurd (nI_le (by omega) (by omega)) z⟩
            | succ m3 ih3 =>
              intro d hd hbd iv7 k1 k2 k3
              refine mk_X11_triesThree_39 ⟨fun z => absurd z (nI_ge (by omega) (by decide)), fun _ => ⟨fun _ => ?_, fun z => absurd rfl z⟩⟩
              refine sp_isGone (by omega) (by omega) (PL_init (PL_init k2)) (fun hin => ⟨fun z => absurd z (by decide), fun _ => nextB iv7 k1 (PL_init k2) (fun d' _ _ h3 => absurd hin h3)⟩) (fun hnb => ⟨fun _ => ⟨by rw [nI_add]; exact vp_in_nI (by omega) (by decide), fun iv8 h8 => ?_⟩, fun z => absurd rfl z⟩)
              obtain ⟨r1, r2, r3, r4⟩ := PL_3 k2 (show d < 14 by omega) (by omega) h8
              have fr8 : ∀ q, q ≠ 98 → q ≠ 99 → q ≠ 100 → iv8 q = iv q := fun q h1 h2 h3 => by rw [r4 q h2, k1 q h1 h2 h3]
              have nextD : ∀ iv9 : IV, (∀ q, q ≠ 98 → q ≠ 99 → q ≠ 100 → iv9 q = iv q) → PL iv9 (l ++ [a] ++ [b]) → (d ∉ l → ¬ ∃ e : Nat → G, So c S (l ++ [a] ++ [b] ++ [d]) e) → wp X (0, 0) 195 39 [some (.ref 74), some (.int (nI c)), some (.int (nI l.length)), some (.int (nI 0)), some (.int (nI a)), some (.int (nI b)), some (.int (nI d + nI 1))] [] iv9 (Ri P) := fun iv9 l1 l2 l3 => by
                rw [nI_add]
                refine ih3 (d + 1) (by omega) (by omega) iv9 l1 l2 (fun d' w1 w2 w3 w4 => ?_)
                by_cases e : d' = d
                · rw [e] at w4 ⊢
                  exact l3 w4
                · exact k3 d' w1 (by omega) w3 w4
              refine sp_isGone (by omega) (by omega) r3 (fun hin => ⟨fun z => absurd z (by decide), fun _ => nextD iv8 fr8 r2 (fun q => absurd hin q)⟩) (fun hndd => ⟨fun _ => ?_, fun z => absurd rfl z⟩)
              have hlen : (l ++ [a] ++ [b] ++ [d]).length = l.length + 3 := by rw [List.length_append, List.length_append, List.length_append]; rfl
              rw [nI_add, ← hlen]
              have hnd' : (l ++ [a] ++ [b] ++ [d]).Nodup := nodup_snoc (nodup_snoc (nodup_snoc hnd hna) (fun q => by
                rcases List.mem_append.mp q with q | q
                · exact hnb q
                · rw [List.mem_singleton] at q
                  omega)) (fun q => by
                rcases List.mem_append.mp q with q | q
                · rcases List.mem_append.mp q with q | q
                  · exact hndd q
                  · rw [List.mem_singleton] at q
                    omega
                · rw [List.mem_singleton] at q
                  omega)
              refine sp_solvesL (MF_of hM (fr8 79 (by decide) (by decide) (by decide)) (fr8 80 (by decide) (by decide) (by decide)) (fr8 81 (by decide) (by decide) (by decide))) hc (by omega) r1 hnd' (fun j hj => by rw [fr8 97 (by decide) (by decide) (by decide)]; exact hS j hj) (fun e he iv9 g9 s9 => ?_) (fun hno iv9 g9 => ?_)
              · refine ⟨fun z => absurd z (by decide), fun _ => ?_⟩
                have fin : P (nI 1) iv9 := ht a b d e hab hbd (by omega) hna hnb hndd he iv9 (fun q h1 h2 h3 => by rw [g9 q h1 h3, fr8 q h1 h2 h3]) (PL_of r1 (g9 99 (by decide) (by decide))) (fun k hk => s9 k (by omega))
                have out : ∀ x4 : Int32, wp X (0, 0) 195 4 [some (.ref 74), some (.int (nI c)), some (.int (nI l.length)), some (.int (nI 1)), some (.int x4), none, none] [] iv9 (Ri P) := fun x4 => mk_X11_triesThree_4 ⟨fun _ => ⟨Or.inr rfl, fin⟩, fun _ => ⟨fun z => absurd z (by decide), fun _ => ⟨Or.inr rfl, fin⟩⟩⟩
                have out2 : ∀ x5 : Int32, wp X (0, 0) 195 18 [some (.ref 74), some (.int (nI c)), some (.int (nI l.length)), some (.int (nI 1)), some (.int (nI a)), some (.int x5), none] [] iv9 (Ri P) := fun x5 => mk_X11_triesThree_18 ⟨fun _ => out _, fun _ => ⟨fun z => absurd z (by decide), fun _ => out _⟩⟩
                exact mk_X11_triesThree_39 ⟨fun _ => out2 _, fun _ => ⟨fun z => absurd z (by decide), fun _ => out2 _⟩⟩
              · exact ⟨fun _ => nextD iv9 (fun q h1 h2 h3 => by rw [g9 q h1 h3, fr8 q h1 h2 h3]) (PL_of r2 (g9 99 (by decide) (by decide))) (fun _ => hno), fun z => absurd rfl z⟩
          rw [nI_add]
          exact inner (13 - b) (b + 1) (by omega) (by omega) iv6 (fun q h1 h2 h3 => by rw [q4 q h2, g1 q h1 h2 h3]) q1 (fun d' h1 h2 => absurd h2 (by omega))
      rw [nI_add]
      exact midl (13 - a) (a + 1) (by omega) (by omega) iv4 (fun q h1 h2 h3 => by rw [p3 q h2, f1 q h1 h2 h3]) p1 (fun b' d' h1 h2 => absurd h2 (by omega))
  exact key 14 0 rfl iv (fun _ _ _ _ => rfl) hp (fun a' b' d' h => absurd h (by omega))
end TRIES
