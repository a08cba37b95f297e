/-! DOTS: what they are; loops; the model's dotAt, seenAt, symbolSeen -/
theorem ldn {W : Nat → Prop} (N : Nat) (he : W N) (hs : ∀ k, k < N → W (k + 1) → W k) : W 0 := by
  have h : ∀ m k, k + m = N → W k := by
    intro m
    induction m with
    | zero => intro k hk; rw [show k = N by omega]; exact he
    | succ m ih => intro k hk; exact hs k (by omega) (ih (k + 1) (by omega))
  exact h N 0 (by omega)
theorem lup {τ : Type} {W I : Nat → τ → Prop} (N : Nat) (he : ∀ s, I N s → W N s) (hs : ∀ k s, k < N → I k s → (∀ s', I (k + 1) s' → W (k + 1) s') → W k s) : ∀ m k s, k + m = N → I k s → W k s := by
  intro m
  induction m with
  | zero => intro k s hk hI; rw [show k = N by omega] at hI ⊢; exact he s hI
  | succ m ih => intro k s hk hI; exact hs k s (by omega) hI (fun s' hs' => ih (k + 1) s' (by omega) hs')
theorem lt_in {x : Int32} {n : Nat} (hn : n < 2 ^ 31) (h : ¬ (x < 0 ∨ nI n ≤ x)) : ∃ j : Nat, j < n ∧ x = nI j := by
  rcases pk_ix x hn with q | q | q
  · exact absurd (Or.inl q) h
  · exact absurd (Or.inr q) h
  · exact q
/-- which free dot it is -/
def frN (i : Nat) : Nat := wyO.getD i 0
def dO (k : Nat) : Nat := 15 * wyR.getD k 0 + wyC.getD k 0
theorem dO_ok : ∀ k, k < 171 → dO k < 225 ∧ frN (dO k) = k ∧ wyR.getD k 0 < 15 ∧ wyC.getD k 0 < 15 := by decide +kernel
theorem frN_ok : ∀ i, i < 225 → frN i = 4294967295 ∨ (frN i < 171 ∧ dO (frN i) = i) := by decide +kernel
/-- the format's bit -/
def fb (i : Nat) : Nat := if (i / 15 = 3 ∨ i / 15 = 11) ∧ i % 15 < 4 then 3 - i % 15 else if i / 15 = 3 ∧ 10 < i % 15 then 14 - i % 15 else 4294967295
def isEy (i : Nat) : Bool := decide ((i / 15 < 3 ∧ i % 15 < 3) ∨ (i / 15 < 3 ∧ 11 < i % 15) ∨ (11 < i / 15 ∧ i % 15 < 3))
def eyD (i : Nat) : Bool := !(decide ((i / 15 = 1 ∨ i / 15 = 13) ∧ (i % 15 = 1 ∨ i % 15 = 13)))
def mbit (w r c : Nat) : Bool := match w with
  | 0 => (r + c) % 2 == 0
  | 1 => r % 2 == 0
  | 2 => c % 3 == 0
  | 3 => (r * c + r + c) % 2 == 0
  | _ => false
/-- a mask: 4 is none -/
def wI (w : Nat) : Int32 := if w = 4 then nI 4294967295 else nI w
def fx (l w i : Nat) : Bool := if isEy i then eyD i else if fb i = 4294967295 then i % 15 % 2 == 0 else (4 * l + w % 4).testBit (fb i)
theorem pu_maskBit : ∀ w : Fin 5, ∀ r c : Fin 15, mm_ek 161 [wI w.1, nI r.1, nI c.1] = some (nI (mbit w.1 r.1 c.1).toNat) := by decide +kernel
theorem pu_isEye : ∀ i, i < 225 → mm_ek 154 [nI (i / 15), nI (i % 15)] = some (nI (isEy i).toNat) := by decide +kernel
theorem pu_eye : ∀ i, i < 225 → mm_ek 155 [nI (i / 15), nI (i % 15)] = some (nI (eyD i).toNat) := by decide +kernel
theorem pu_fb : ∀ i, i < 225 → mm_ek 156 [nI (i / 15), nI (i % 15)] = some (nI (fb i)) := by decide +kernel
theorem fb_ok : ∀ i, i < 225 → fb i < 4 ∨ fb i = 4294967295 := by decide +kernel
theorem toNat_lt (b : Bool) : b.toNat < 2 := by cases b <;> decide
theorem bI_0 (b : Bool) : nI b.toNat = 0 ↔ b = false := by cases b <;> decide
theorem bI_1 (b : Bool) : nI b.toNat = nI 1 ↔ b = true := by cases b <;> decide
theorem bI_x (a b : Bool) : nI a.toNat ^^^ nI b.toNat = nI (xor a b).toNat := by cases a <;> cases b <;> decide
section DOTS
variable {X : Nat × (Nat → Int32)} {iv : IV} {P : Int32 → IV → Prop}
theorem sp_maskBit {w r c : Nat} (hw : w < 5) (hr : r < 15) (hc : c < 15) (p : P (nI (mbit w r c).toNat) iv) : wc X 161 [.int (wI w), .int (nI r), .int (nI c)] iv (Ri P) := pui (as := [wI w, nI r, nI c]) (by decide) (pu_maskBit ⟨w, hw⟩ ⟨r, hr⟩ ⟨c, hc⟩) p
theorem sp_isEye {i : Nat} (hi : i < 225) (p : P (nI (isEy i).toNat) iv) : wc X 154 [.int (nI (i / 15)), .int (nI (i % 15))] iv (Ri P) := pui (as := [nI (i / 15), nI (i % 15)]) (by decide) (pu_isEye i hi) p
theorem sp_eye {i : Nat} (hi : i < 225) (p : P (nI (eyD i).toNat) iv) : wc X 155 [.int (nI (i / 15)), .int (nI (i % 15))] iv (Ri P) := pui (as := [nI (i / 15), nI (i % 15)]) (by decide) (pu_eye i hi) p
theorem sp_formatBit {i : Nat} (hi : i < 225) (p : P (nI (fb i)) iv) : wc X 156 [.int (nI (i / 15)), .int (nI (i % 15))] iv (Ri P) := pui (as := [nI (i / 15), nI (i % 15)]) (by decide) (pu_fb i hi) p
theorem wI_lt {w : Nat} (h : w < 4) : wI w = nI w := if_neg (by omega)
theorem sp_dotAt {w i l : Nat} (hw : w < 5) (hi : i < 225) (hl : l < 3) (h87 : iv 87 i = nI (frN i)) (h12 : iv 74 12 = nI l) (p : P (if frN i = 4294967295 then nI (fx l w i).toNat else iv 86 i ^^^ nI (mbit w (i / 15) (i % 15)).toNat) iv) : wc X 162 [.ref 74, .int (wI w), .int (nI i)] iv (Ri P) := by
  refine mk_X11_dotAt (fun v1 h1 => ?_)
  rw [pk_rem (by omega) (by decide) (by decide)] at h1
  subst h1
  rw [nI_clamp (by omega), h87, pk_div (by omega) (by decide) (by decide)]
  refine ⟨vp_in_nI hi (by decide), fun z => ?_, fun z => ⟨vp_in_nI hi (by decide), sp_maskBit hw (by omega) (by omega) ?_⟩⟩
  · have hn : frN i = 4294967295 := by
      rcases frN_ok i hi with q | q
      · exact q
      · exact absurd z (m1_ne (by omega))
    rw [if_pos hn] at p
    refine sp_isEye hi ⟨fun z1 => sp_formatBit hi ?_, fun z1 => sp_eye hi ?_⟩
    · rw [bI_0] at z1
      have hf : fx l w i = if fb i = 4294967295 then i % 15 % 2 == 0 else (4 * l + w % 4).testBit (fb i) := by unfold fx; rw [z1]; rfl
      have fin : wp X (0, 0) 162 46 [none, none, none, none, some (.int (nI (i % 15))), some (.int (nI (fb i))), none] [.int (nI (w % 4)), .int (nI 4 * iv 74 12)] iv (Ri P) := by
        refine mk_X11_dotAt_46 ⟨fun z2 => ?_, fun z2 => ?_⟩
        · have hb : fb i = 4294967295 := by
            rcases fb_ok i hi with q | q
            · exact absurd z2 (m1_ne (by omega))
            · exact q
          rw [hf, if_pos hb] at p
          rw [pk_rem (by omega) (by decide) (by decide)]
          refine ⟨fun z3 => ?_, fun z3 => ?_⟩
          · have e0 : i % 15 % 2 = 0 := Classical.byContradiction fun q => nI_ne0 (by omega) (by omega) z3
            rw [e0] at p
            exact p
          · have e0 : i % 15 % 2 = 1 := by
              have : i % 15 % 2 ≠ 0 := fun q => z3 (by rw [q]; rfl)
              omega
            rw [e0] at p
            exact p
        · have hb : fb i < 4 := by
            rcases fb_ok i hi with q | q
            · exact q
            · exact absurd (by rw [q]) z2
          rw [hf, if_neg (by omega)] at p
          rw [h12, pk_mul, nI_add, bit_nI (by omega) (by omega)]
          exact p
      refine ⟨fun z2 => ?_, fun z2 => ?_⟩
      · have e4 : w = 4 := by
          refine Classical.byContradiction fun q => ?_
          rw [wI_lt (by omega)] at z2
          exact m1_ne (by omega) z2
        rw [e4] at fin
        exact fin
      · have e4 : w ≠ 4 := fun q => z2 (by rw [q]; rfl)
        rw [wI_lt (by omega)]
        rw [show w % 4 = w by omega] at fin
        exact fin
    · have z2 : isEy i = true := by
        cases he : isEy i with
        | true => rfl
        | false => rw [he] at z1; exact absurd rfl z1
      have hf : fx l w i = eyD i := by unfold fx; rw [z2]; rfl
      rw [hf] at p
      exact p
  · have hn : ¬ frN i = 4294967295 := fun q => z (by rw [q])
    rw [if_neg hn] at p
    exact p
/-- what the model sees -/
def SN (iv : IV) (e lo : Nat → Bool) : Prop := (∀ i, i < 225 → iv 87 i = nI (frN i)) ∧ ∃ l w, l < 3 ∧ w < 4 ∧ iv 74 12 = nI l ∧ iv 74 13 = nI w ∧ ∀ i, i < 225 → iv 92 i = nI (lo i).toNat ∧ ∃ t q : Bool, iv 91 i = nI t.toNat ∧ (frN i ≠ 4294967295 → iv 86 i = nI q.toNat) ∧ e i = xor (if frN i = 4294967295 then fx l w i else xor q (mbit w (i / 15) (i % 15))) t
theorem SN_of {iv iv' : IV} {e lo : Nat → Bool} (h : SN iv e lo) (h74a : iv' 74 12 = iv 74 12) (h74b : iv' 74 13 = iv 74 13) (h86 : iv' 86 = iv 86) (h87 : iv' 87 = iv 87) (h91 : iv' 91 = iv 91) (h92 : iv' 92 = iv 92) : SN iv' e lo := by
  unfold SN
  rw [h74a, h74b, h86, h87, h91, h92]
  exact h
def eL (e lo : Nat → Bool) (i : Nat) : Nat := if lo i then 2 else (e i).toNat
theorem sp_seenAt {e lo : Nat → Bool} (hS : SN iv e lo) {i : Nat} (hi : i < 225) (p : P (nI (eL e lo i)) iv) : wc X 185 [.ref 74, .int (nI i)] iv (Ri P) := by
  obtain ⟨h87, l, w, hl, hw, h12, h13, hd⟩ := hS
  obtain ⟨d1, t, q, d2, d3, d4⟩ := hd i hi
  refine mk_X11_seenAt ?_
  rw [nI_clamp (by omega), d1]
  refine ⟨vp_in_nI hi (by decide), fun z => ?_, fun z => ?_⟩
  · rw [bI_1] at z
    unfold eL at p
    rw [z] at p
    exact p
  · have z' : lo i = false := by
      cases h : lo i with
      | false => rfl
      | true => rw [h] at z; exact absurd rfl z
    unfold eL at p
    rw [z'] at p
    rw [h13, ← wI_lt hw]
    refine sp_dotAt (by omega) hi hl (h87 i hi) h12 ⟨vp_in_nI hi (by decide), ?_⟩
    rw [d2]
    rw [d4] at p
    by_cases hn : frN i = 4294967295
    · rw [if_pos hn] at p ⊢
      rw [bI_x]
      exact p
    · rw [if_neg hn] at p ⊢
      rw [d3 hn, bI_x, bI_x]
      exact p
/-- a symbol's bits, from the front -/
def sv (e : Nat → Bool) (f s : Nat) : Nat → Nat
  | 0 => 0
  | k + 1 => 2 * sv e f s k + (xor (e (dO (4 * s + k))) (mbit f (dO (4 * s + k) / 15) (dO (4 * s + k) % 15))).toNat
def gk (lo : Nat → Bool) (s : Nat) : Nat → Bool
  | 0 => false
  | k + 1 => gk lo s k || lo (dO (4 * s + k))
theorem sv_lt (e : Nat → Bool) (f s k : Nat) : sv e f s k < 2 ^ k := by
  induction k with
  | zero => exact Nat.one_pos
  | succ k ih =>
    have := toNat_lt (xor (e (dO (4 * s + k))) (mbit f (dO (4 * s + k) / 15) (dO (4 * s + k) % 15)))
    rw [sv, Nat.pow_succ]
    omega
theorem sv_congr {e e' : Nat → Bool} {f s : Nat} : ∀ k, (∀ j, j < k → e (dO (4 * s + j)) = e' (dO (4 * s + j))) → sv e f s k = sv e' f s k := by
  intro k
  induction k with
  | zero => intro _; rfl
  | succ k ih => intro h; rw [sv, sv, ih (fun j hj => h j (by omega)), h k (by omega)]
theorem gk_false {lo : Nat → Bool} {s : Nat} : ∀ k, gk lo s k = false → ∀ j, j < k → lo (dO (4 * s + j)) = false := by
  intro k
  induction k with
  | zero => intro _ j hj; exact absurd hj (by omega)
  | succ k ih =>
    intro h j hj
    rw [gk, Bool.or_eq_false_iff] at h
    by_cases e : j = k
    · rw [e]; exact h.2
    · exact ih h.1 j (by omega)
theorem sp_symbolSeen {e lo : Nat → Bool} {f s : Nat} (hS : SN iv e lo) (h88 : ∀ k, k < 171 → iv 88 k = nI (dO k)) (h26 : iv 74 26 = nI f) (hf : f < 4) (hs : s < 42) (p : P (if gk lo s 4 then nI 4294967295 else nI (sv e f s 4)) iv) : wc X 188 [.ref 74, .int (nI s)] iv (Ri P) := by
  refine mk_X11_symbolSeen ?_
  rw [pk_mul]
  refine ldn (W := fun k => wp X (0, 0) 188 8 [some (.ref 74), some (.int (nI s)), some (.int (nI (sv (fun i => !(lo i) && e i) f s k))), some (.int (nI (!(gk lo s k)).toNat)), some (.int (nI (4 * s + k))), none, none] [] iv (Ri P)) 4 ?_ ?_
  · refine mk_X11_symbolSeen_8 ?_
    rw [pk_mul, nI_add]
    refine ⟨fun _ => ⟨fun z => ?_, fun z => ?_⟩, fun z => absurd (nI_le (Nat.le_refl _) (by omega)) z⟩
    · rw [bI_0] at z
      have : gk lo s 4 = true := by simpa using z
      rw [this] at p
      exact p
    · rw [bI_0] at z
      have z' : gk lo s 4 = false := by simpa using z
      rw [z'] at p
      rw [sv_congr (e' := e) 4 (fun j hj => by
        show (!(lo _) && e _) = _
        rw [gk_false 4 z' j hj]; rfl)]
      exact p
  · intro k hk hn
    refine mk_X11_symbolSeen_8 ?_
    rw [pk_mul, nI_add]
    refine ⟨fun z => absurd z (nI_ge (by omega) (by omega)), fun _ => ⟨vp_in_nI (by omega) (by decide), ?_⟩⟩
    rw [nI_clamp (by omega)]
    intro v1 h1
    rw [h88 _ (by omega)] at h1
    subst h1
    have hd := dO_ok (4 * s + k) (by omega)
    have svb := sv_lt (fun i => !(lo i) && e i) f s k
    refine sp_seenAt hS hd.1 ?_
    have step : ∀ s0 : Int32, s0 = nI (!(gk lo s (k + 1))).toNat → wp X (0, 0) 188 32 [some (.ref 74), some (.int (nI s)), some (.int (nI (sv (fun i => !(lo i) && e i) f s k))), none, some (.int (nI (4 * s + k))), some (.int (nI (dO (4 * s + k)))), some (.int (nI (eL e lo (dO (4 * s + k)))))] [.int s0] iv (Ri P) := by
      intro s0 hs0
      subst hs0
      refine mk_X11_symbolSeen_32 ?_
      rw [h26, ← wI_lt hf, pk_rem (by omega) (by decide) (by decide), pk_div (by omega) (by decide) (by decide)]
      refine sp_maskBit (by omega) (by omega) (by omega) (fun v3 h3 => ?_)
      have e1 : nI (eL e lo (dO (4 * s + k))) &&& nI 1 = nI (!(lo (dO (4 * s + k))) && e (dO (4 * s + k))).toNat := by
        unfold eL
        cases lo (dO (4 * s + k)) <;> cases e (dO (4 * s + k)) <;> decide
      rw [e1, bI_x, pk_mul, nI_add] at h3
      subst h3
      rw [nI_add]
      exact hn
    refine ⟨fun z => step _ ?_, fun z => ⟨fun z1 => step _ ?_, fun z1 => step _ ?_⟩⟩
    · rw [bI_0] at z
      have z' : gk lo s k = true := by simpa using z
      rw [gk, z']
      rfl
    · have : lo (dO (4 * s + k)) = true := by
        cases hl : lo (dO (4 * s + k)) with
        | true => rfl
        | false =>
          exfalso
          unfold eL at z1
          rw [hl] at z1
          have := toNat_lt (e (dO (4 * s + k)))
          exact nI_ge (a := (e (dO (4 * s + k))).toNat) (b := 2) this (by decide) z1
      rw [gk, this, Bool.or_true]
      rfl
    · have h2 : lo (dO (4 * s + k)) = false := by
        cases hl : lo (dO (4 * s + k)) with
        | false => rfl
        | true =>
          exfalso
          unfold eL at z1
          rw [hl] at z1
          exact z1 (by rw [if_pos rfl]; exact nI_le (Nat.le_refl 2) (by decide))
      rw [bI_0] at z
      have z' : gk lo s k = false := by simpa using z
      rw [gk, z', h2]
      rfl
end DOTS
