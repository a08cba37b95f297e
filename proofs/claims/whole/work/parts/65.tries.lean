/-! TRYING, AND MENDING, IN THE MODEL -/
section TRY
variable {X : Nat × (Nat → Int32)} {iv : IV}
theorem sp_tries {P : Int32 → IV → Prop} {c w : Nat} {l : List Nat} {S : Nat → G} (hM : MF iv) (hc : c ≤ 6) (hl : l.length + 2 * w ≤ c) (hp : PL iv l) (hnd : l.Nodup) (hS : ∀ j, j < c → iv 97 j = nI (S j).1) (ht : ∀ (W : List Nat) (e : Nat → G), W.length = w → (l ++ W).Nodup → (∀ q, q ∈ W → q < 14) → So c S (l ++ W) e → ∀ iv', (∀ q, q ≠ 98 → q ≠ 99 → q ≠ 100 → iv' q = iv q) → PL iv' (l ++ W) → (∀ k, k < l.length + w → iv' 100 k = nI (e k).1) → P (nI 1) iv') (hf : (∀ W : List Nat, W.length = w → W.Pairwise (fun a b => a < b) → (∀ q, q ∈ W → q < 14 ∧ q ∉ l) → ¬ ∃ e : Nat → G, So c S (l ++ W) e) → ∀ iv', (∀ q, q ≠ 98 → q ≠ 99 → q ≠ 100 → iv' q = iv q) → PL iv' l → P (nI 0) iv') : wc X 196 [.ref 74, .int (nI c), .int (nI l.length), .int (nI w)] iv (Ri P) := by
  refine mk_X11_tries ⟨fun z => ?_, fun z => ⟨fun z1 => ?_, fun z1 => ⟨fun z2 => ?_, fun z2 => ?_⟩⟩⟩
  · have ew : w = 0 := Classical.byContradiction fun q => nI_ne0 (by omega) (by omega) z
    subst ew
    refine sp_solvesL hM hc (by omega) hp hnd hS (fun e he iv' g s => ⟨Or.inr rfl, ?_⟩) (fun hno iv' g => ⟨Or.inl rfl, ?_⟩)
    · refine ht [] e rfl (by rw [List.append_nil]; exact hnd) (fun q hq => by cases hq) (by rw [List.append_nil]; exact he) iv' (fun q q1 _ q3 => g q q1 q3) (by rw [List.append_nil]; exact PL_of hp (g 99 (by decide) (by decide))) s
    · refine hf (fun W hW _ _ => ?_) iv' (fun q q1 _ q3 => g q q1 q3) (PL_of hp (g 99 (by decide) (by decide)))
      rw [List.length_eq_zero_iff.mp hW, List.append_nil]
      exact hno
  · have ew : w = 1 := (nI_eq (by omega) (by decide)).mp z1
    subst ew
    refine sp_triesOne hM hc (by omega) hp hnd hS (fun a e ha hn he iv' g pl s => ⟨Or.inr rfl, ?_⟩) (fun hno iv' g pl => ⟨Or.inl rfl, ?_⟩)
    · exact ht [a] e rfl (nodup_snoc hnd hn) (fun q hq => by rw [List.mem_singleton] at hq; rw [hq]; exact ha) he iv' g pl s
    · refine hf (fun W hW hp hq => ?_) iv' g pl
      obtain ⟨a, rfl⟩ := List.length_eq_one_iff.mp hW
      have := hq a (by simp)
      exact hno a this.1 this.2
  · have ew : w = 2 := (nI_eq (by omega) (by decide)).mp z2
    subst ew
    refine sp_triesTwo hM hc (by omega) hp hnd hS (fun a b e hab hb hna hnb he iv' g pl s => ⟨Or.inr rfl, ?_⟩) (fun hno iv' g pl => ⟨Or.inl rfl, ?_⟩)
    · have e2 : l ++ [a] ++ [b] = l ++ [a, b] := by simp
      rw [e2] at he pl
      refine ht [a, b] e rfl ?_ (fun q hq => ?_) he iv' g pl s
      · rw [← e2]
        refine nodup_snoc (nodup_snoc hnd hna) (fun q => ?_)
        rcases List.mem_append.mp q with q | q
        · exact hnb q
        · rw [List.mem_singleton] at q
          omega
      · rcases List.mem_cons.mp hq with q1 | q1
        · omega
        · rw [List.mem_singleton] at q1
          omega
    · refine hf (fun W hW hp hq => ?_) iv' g pl
      match W, hW, hp, hq with
      | [a, b], _, hp, hq =>
        have h1 := hq a (by simp)
        have h2 := hq b (by simp)
        have h3 : a < b := by simpa using hp
        have := hno a b h3 h2.1 h1.2 h2.2
        rw [show l ++ [a] ++ [b] = l ++ [a, b] by simp] at this
        exact this
  · have ew : w = 3 := by
      have q0 : w ≠ 0 := fun q => z (by rw [q]; rfl)
      have q1 : w ≠ 1 := fun q => z1 (by rw [q])
      have q2 : w ≠ 2 := fun q => z2 (by rw [q])
      omega
    subst ew
    refine sp_triesThree hM hc (by omega) hp hnd hS (fun a b d e hab hbd hd hna hnb hnd' he iv' g pl s => ⟨Or.inr rfl, ?_⟩) (fun hno iv' g pl => ⟨Or.inl rfl, ?_⟩)
    · have e2 : l ++ [a] ++ [b] ++ [d] = l ++ [a, b, d] := by simp
      rw [e2] at he pl
      refine ht [a, b, d] e rfl ?_ (fun q hq => ?_) he iv' g pl s
      · rw [← e2]
        refine nodup_snoc (nodup_snoc (nodup_snoc hnd hna) (fun q => ?_)) (fun q => ?_)
        · rcases List.mem_append.mp q with q | q
          · exact hnb q
          · rw [List.mem_singleton] at q
            omega
        · rcases List.mem_append.mp q with q | q
          · rcases List.mem_append.mp q with q | q
            · exact hnd' q
            · rw [List.mem_singleton] at q
              omega
          · rw [List.mem_singleton] at q
            omega
      · rcases List.mem_cons.mp hq with q1 | q1
        · omega
        · rcases List.mem_cons.mp q1 with q2 | q2
          · omega
          · rw [List.mem_singleton] at q2
            omega
    · refine hf (fun W hW hp hq => ?_) iv' g pl
      match W, hW, hp, hq with
      | [a, b, d], _, hp, hq =>
        have h1 := hq a (by simp)
        have h2 := hq b (by simp)
        have h4 := hq d (by simp)
        have h5 : (a < b ∧ a < d) ∧ b < d := by simpa using hp
        have := hno a b d h5.1.1 h5.2 h4.1 h1.2 h2.2 h4.2
        rw [show l ++ [a] ++ [b] ++ [d] = l ++ [a, b, d] by simp] at this
        exact this
end TRY
theorem gl_sorted (g : Nat → Bool) (n : Nat) : (gl g n).Pairwise (fun a b => a < b) := List.Pairwise.filter _ List.pairwise_lt_range
