/-! THE ERRORS ARE TAKEN AWAY -/
def ol (l : List Nat) (w : Nat) : Nat → List Nat
  | 0 => []
  | o + 1 => if o = w then ol l w o else ol l w o ++ [l.getD o 0]
theorem ol_len (l : List Nat) (w o : Nat) : (ol l w o).length + (if w < o then 1 else 0) = o := by
  induction o with
  | zero => rfl
  | succ o ih =>
    unfold ol
    by_cases e : o = w
    · rw [if_pos e, if_pos (by omega)]
      rw [if_neg (by omega)] at ih
      omega
    · rw [if_neg e, List.length_append, List.length_singleton]
      by_cases h : w < o
      · rw [if_pos h] at ih
        rw [if_pos (by omega)]
        omega
      · rw [if_neg h] at ih
        rw [if_neg (by omega)]
        omega
theorem ol_mem (l : List Nat) (w o q : Nat) : q ∈ ol l w o ↔ ∃ i, i < o ∧ i ≠ w ∧ q = l.getD i 0 := by
  induction o with
  | zero =>
    constructor
    · intro h; cases h
    · rintro ⟨i, hi, -⟩; exact absurd hi (by omega)
  | succ o ih =>
    unfold ol
    by_cases e : o = w
    · rw [if_pos e, ih]
      constructor
      · rintro ⟨i, h1, h2, h3⟩; exact ⟨i, by omega, h2, h3⟩
      · rintro ⟨i, h1, h2, h3⟩; exact ⟨i, by omega, h2, h3⟩
    · rw [if_neg e, List.mem_append, ih, List.mem_singleton]
      constructor
      · rintro (⟨i, h1, h2, h3⟩ | h)
        · exact ⟨i, by omega, h2, h3⟩
        · exact ⟨o, by omega, e, h⟩
      · rintro ⟨i, h1, h2, h3⟩
        by_cases e2 : i = o
        · exact Or.inr (by rw [h3, e2])
        · exact Or.inl ⟨i, by omega, h2, h3⟩
theorem sk_snoc (l : List Nat) (q : Nat) (s : Nat → G) : sk (l ++ [q]) s = st (xp q) (sk l s) := by
  unfold sk
  rw [List.foldl_append]
  rfl
section MEND4
variable {X : Nat × (Nat → Int32)} {iv : IV}
theorem sp_correct {P : IV → Prop} {r1 c : Nat} {l : List Nat} {v e : Nat → G} (k0 : kdT r1 = (1, 14)) (hr : r1 ≠ 14 ∧ r1 ≠ 15 ∧ r1 ≠ 16 ∧ r1 ≠ 20) (hc : c ≤ 6) (hw : WL iv l) (hlen : l.length ≤ c) (hl : ∀ i, i < l.length → l.getD i 0 < 14) (hnd : ∀ i j, i < l.length → j < l.length → l.getD i 0 = l.getD j 0 → i = j) (hs : ∀ j, j < c → iv 15 j = nI (pw v j).1) (he : ∀ j, j < c → pw v j = pw e j) (hsup : ∀ p, p < 14 → (∀ i, i < l.length → l.getD i 0 ≠ p) → e p = 0) (hv : ∀ p, p < 14 → iv r1 p = nI (v p).1) (h : ∀ iv', (∀ a, a ≠ 16 → a ≠ r1 → iv' a = iv a) → (∀ p, p < 14 → iv' r1 p = nI (ga (v p) (e p)).1) → P iv') : wc X 34 [.ref 14, .ref r1, .int (nI c)] iv (Rv P) := by
  refine mk_X4_correct ?_
  obtain ⟨hr14, hr15, hr16, hr20⟩ := hr
  have key : ∀ m w, w + m = l.length → ∀ iv3 : IV, (∀ a, a ≠ 16 → a ≠ r1 → iv3 a = iv a) → (∀ i, i < w → iv3 r1 (l.getD i 0) = nI (ga (v (l.getD i 0)) (e (l.getD i 0))).1) → (∀ p, p < 14 → (∀ i, i < w → l.getD i 0 ≠ p) → iv3 r1 p = nI (v p).1) → wp X (0, 0) 34 2 [some (.ref 14), some (.ref r1), some (.int (nI c)), some (.int (nI w)), none, none, none, none, none] [] iv3 (Rv P) := by
    intro m
    induction m with
    | zero =>
      intro w hwm iv3 f1 f2 f3
      have ew : w = l.length := by omega
      have e14 : iv3 14 6 = nI l.length := by rw [f1 14 (by decide) (Ne.symm hr14)]; exact hw.1
      refine mk_X4_correct_2 ⟨fun _ => ?_, fun z => absurd (by rw [e14]; exact nI_le (by omega) (by omega)) z⟩
      refine h iv3 f1 (fun p hp => ?_)
      by_cases hex : ∃ i, i < l.length ∧ l.getD i 0 = p
      · obtain ⟨i, hi, hip⟩ := hex
        rw [← hip]
        exact f2 i (by omega)
      · have hno : ∀ i, i < l.length → l.getD i 0 ≠ p := fun i hi q => hex ⟨i, hi, q⟩
        rw [hsup p hp hno, ga_0]
        exact f3 p hp (fun i hi => hno i (by omega))
    | succ m ih =>
      intro w hwm iv3 f1 f2 f3
      have hwl : w < l.length := by omega
      have e14 : iv3 14 6 = nI l.length := by rw [f1 14 (by decide) (Ne.symm hr14)]; exact hw.1
      have e20 : ∀ i, i < l.length → iv3 20 i = nI (l.getD i 0) := fun i hi => by rw [f1 20 (by decide) (Ne.symm hr20)]; exact hw.2 i hi
      have e15 : ∀ j, j < c → iv3 15 j = nI (pw v j).1 := fun j hj => by rw [f1 15 (by decide) (Ne.symm hr15)]; exact hs j hj
      refine mk_X4_correct_2 ⟨fun z => absurd z (by rw [e14]; exact nI_ge hwl (by omega)), fun _ => ⟨cp_ok 6 (by decide), fun iv4 h4 => ?_⟩⟩
      rw [nI_clamp (n := 0) (by decide), nI_clamp (n := 6) (by decide)] at h4
      have g4 : ∀ a, a ≠ 16 → iv4 a = iv3 a := fun a ha => by rw [h4, row_ne ha]
      refine ⟨vp_in_nI (by omega) (by decide), ?_⟩
      rw [nI_clamp (by omega), g4 20 (by decide), e20 w hwl]
      refine sp_ofPlace (hl w hwl) ?_
      have inner : ∀ m2 o, o + m2 = l.length → ∀ iv5 : IV, (∀ a, a ≠ 16 → iv5 a = iv3 a) → (∀ k, k + (ol l w o).length < c → iv5 16 k = nI (sk (ol l w o) (pw v) k).1) → wp X (0, 0) 34 26 [some (.ref 14), some (.ref r1), some (.int (nI c)), some (.int (nI w)), some (.int (nI (xp (l.getD w 0)).1)), some (.int (nI (c - (ol l w o).length))), some (.int (nI (pl (ol l w o) (xp (l.getD w 0))).1)), some (.int (nI o)), none] [] iv5 (Rv P) := by
        intro m2
        induction m2 with
        | zero =>
          intro o ho iv5 g1 g2
          have eo : o = l.length := by omega
          have hol := ol_len l w o
          rw [if_pos (by omega)] at hol
          have e514 : iv5 14 6 = nI l.length := by rw [g1 14 (by decide), e14]
          have e520 : iv5 20 w = nI (l.getD w 0) := by rw [g1 20 (by decide), e20 w hwl]
          have so := strike_one he (hl w hwl) (ol l w o) (fun q hq => by
              obtain ⟨i, i1, -, i3⟩ := (ol_mem l w o q).mp hq
              rw [i3]
              exact hl i (by omega)) (fun hq => by
              obtain ⟨i, i1, i2, i3⟩ := (ol_mem l w o _).mp hq
              exact i2 (hnd i w (by omega) hwl i3.symm)) (by omega) (fun p hp hne hno => hsup p hp (fun i hi q => by
              by_cases ei : i = w
              · rw [ei] at q
                exact hne q.symm
              · exact hno ((ol_mem l w o p).mpr ⟨i, by omega, ei, q.symm⟩)))
          refine mk_X4_correct_26 k0 ⟨fun _ => ?_, fun z => absurd (by rw [e514]; exact nI_le (by omega) (by omega)) z⟩
          rw [nI_clamp (n := w) (by omega), nI_clamp (n := 0) (by decide), e520, nI_clamp (Nat.lt_trans (hl w hwl) (by decide)), g2 0 (by omega)]
          refine ⟨vp_in_nI (by omega) (by decide), vp_in_nI (hl w hwl) (by decide), vp_in_nI (by decide) (by decide), ?_⟩
          refine sp_quot _ _ so.1 ⟨vp_in_nI (hl w hwl) (by decide), fun iv6 h6 => ?_⟩
          have e5r : iv5 r1 (l.getD w 0) = nI (v (l.getD w 0)).1 := by
            rw [g1 r1 hr16]
            exact f3 _ (hl w hwl) (fun i hi q => by
              have := hnd i w (by omega) hwl q
              omega)
          rw [so.2, e5r, nI_ga, up_row] at h6
          rw [nI_add]
          refine ih (w + 1) (by omega) iv6 (fun a a1 a2 => ?_) (fun i hi => ?_) (fun p hp hno => ?_)
          · rw [h6, row_ne a2, g1 a a1, f1 a a1 a2]
          · rw [h6, row_at]
            by_cases ei : l.getD i 0 = l.getD w 0
            · rw [if_pos ei, ei]
            · rw [if_neg ei, g1 r1 hr16]
              have : i ≠ w := fun q => ei (by rw [q])
              exact f2 i (by omega)
          · rw [h6, row_at, if_neg (fun q => hno w (by omega) q.symm), g1 r1 hr16]
            exact f3 p hp (fun i hi => hno i (by omega))
        | succ m2 ih2 =>
          intro o ho iv5 g1 g2
          have hol := ol_len l w o
          have hol' := ol_len l w (o + 1)
          have e514 : iv5 14 6 = nI l.length := by rw [g1 14 (by decide), e14]
          refine mk_X4_correct_26 k0 ⟨fun z => absurd z (by rw [e514]; exact nI_ge (by omega) (by omega)), fun _ => ⟨fun z => ?_, fun z => ?_⟩⟩
          · rw [nI_eq (by omega) (by omega)] at z
            have eol : ol l w (o + 1) = ol l w o := by
              show (if o = w then ol l w o else ol l w o ++ [l.getD o 0]) = _
              rw [if_pos z]
            rw [nI_add, ← eol]
            exact ih2 (o + 1) (by omega) iv5 g1 (by rw [eol]; exact g2)
          · rw [nI_eq (by omega) (by omega)] at z
            have eol : ol l w (o + 1) = ol l w o ++ [l.getD o 0] := by
              show (if o = w then ol l w o else ol l w o ++ [l.getD o 0]) = _
              rw [if_neg z]
            have hlo : (ol l w o).length < l.length := by
              by_cases q : w < o
              · rw [if_pos q] at hol
                omega
              · rw [if_neg q] at hol
                omega
            refine ⟨vp_in_nI (by omega) (by decide), ?_⟩
            rw [nI_clamp (by omega), g1 20 (by decide), e20 o (by omega)]
            refine sp_ofPlace (hl o (by omega)) ?_
            refine sp_strike (s := sk (ol l w o) (pw v)) (by omega) (fun k hk => g2 k (by omega)) ?_
            intro v7 h7
            rw [show c - (ol l w o).length = (c - (ol l w (o + 1)).length) + 1 by rw [eol, List.length_append, List.length_singleton]; omega, nI_dec] at h7
            rw [nI_ga, h7]
            refine sp_times _ _ ?_
            rw [← pl_snoc, ← eol, nI_add]
            refine ih2 (o + 1) (by omega) _ (fun a a1 => ?_) (fun k hk => ?_)
            · rw [row_ne a1, g1 a a1]
            · rw [eol, List.length_append, List.length_singleton] at hk
              rw [row_at, if_pos (by omega), eol, sk_snoc]
      have h0 := inner l.length 0 (by omega) iv4 g4 (fun k hk => by
        have hk' : k < c := by simpa [ol] using hk
        rw [h4, row_at, cpy_at (by omega), e15 k hk']
        rfl)
      exact h0
  exact key l.length 0 (by omega) iv (fun _ _ _ => rfl) (fun i hi => absurd hi (by omega)) (fun p hp _ => hv p hp)
end MEND4
