/-! STRAW: what it is, and what hangs on one dot -/
noncomputable def bd (e lo : Nat → Bool) (i : Nat) : Bool := !(lo i) && decide (why (flp e i) lo ≠ 0)
noncomputable def stk (e lo : Nat → Bool) : Nat → Option Nat
  | 0 => none
  | n + 1 => match stk e lo n with
    | some x => some x
    | none => if bd e lo n then some n else none
noncomputable def str (e lo : Nat → Bool) : Option Nat := if why e lo = 0 then stk e lo 225 else none
theorem stk_lt (e lo : Nat → Bool) : ∀ n x, stk e lo n = some x → x < n := by
  intro n
  induction n with
  | zero => intro x h; cases h
  | succ n ih =>
    intro x h
    rw [stk] at h
    split at h
    · rename_i y hy
      cases h
      have := ih _ hy
      omega
    · split at h
      · cases h; omega
      · cases h
theorem stk_some {e lo : Nat → Bool} {n x : Nat} (h : stk e lo n = some x) : ∀ m, stk e lo (n + m) = some x := by
  intro m
  induction m with
  | zero => exact h
  | succ m ih => rw [← Nat.add_assoc, stk, ih]
theorem stk_next {e lo : Nat → Bool} {n : Nat} (h : stk e lo n = none) : stk e lo (n + 1) = if bd e lo n then some n else none := by rw [stk, h]
theorem fb_fr : ∀ i, i < 225 → frN i = 4294967295 ∨ fb i = 4294967295 := by decide +kernel
theorem fb_at : ∀ k, k < 4 → fb (45 + k) ≠ 4294967295 ∧ fb (56 + k) ≠ 4294967295 ∧ fb (165 + k) ≠ 4294967295 := by decide +kernel
theorem fmt_congr {e e' lo : Nat → Bool} (h : ∀ i, i < 225 → fb i ≠ 4294967295 → e i = e' i) : fmt e lo = fmt e' lo := by
  have hv : ∀ i, i < 225 → fb i ≠ 4294967295 → vt e lo i = vt e' lo i := fun i hi hb => by unfold vt; rw [h i hi hb]
  have hb : ∀ k, k < 4 → bal e lo k = bal e' lo k := fun k hk => by
    have := fb_at k hk
    unfold bal
    rw [hv _ (by omega) this.1, hv _ (by omega) this.2.1, hv _ (by omega) this.2.2]
  have hf : ∀ k, k ≤ 4 → fm e lo k = fm e' lo k := by
    intro k
    induction k with
    | zero => intro _; rfl
    | succ k ih => intro hk; rw [fm, fm, ih (by omega), hb k (by omega)]
  unfold fmt
  rw [hf 4 (Nat.le_refl _)]
theorem gv_congr {e e' : Nat → Bool} {f blk p : Nat} (h : ∀ j, j < 4 → e (dO (4 * (3 * p + blk) + j)) = e' (dO (4 * (3 * p + blk) + j))) : gv e f blk p = gv e' f blk p := by
  unfold gv
  rw [sv_congr 4 h]
theorem mU_congr {e e' lo : Nat → Bool} {f blk : Nat} (h : ∀ p, p < 14 → gg lo blk p = false → gv e (f % 4) blk p = gv e' (f % 4) blk p) : mU e lo f blk = mU e' lo f blk ∧ (mU e lo f blk ≠ 4294967295 → ∀ p, p < 14 → mR e lo f blk p = mR e' lo f blk p) := by
  have := mr_off (c := 2 + 2 * (f / 4)) h
  exact ⟨this.1, fun hu p hp => this.2 p hp hu⟩
theorem whF_0 {e lo : Nat → Bool} {f : Nat} : whF e lo f = 0 ↔ (∀ b, b < 3 → mU e lo f b ≠ 4294967295) ∧ wrg (f / 4) (mR e lo f 0 0).1 = false := by
  unfold whF
  by_cases h : wk (mU e lo f) 3 = 0
  · rw [if_pos h]
    have h' := wk_0.mp h
    cases hw : wrg (f / 4) (mR e lo f 0 0).1 with
    | true => exact ⟨fun q => absurd q (by decide), fun q => absurd q.2 (by decide)⟩
    | false => exact ⟨fun _ => ⟨h', rfl⟩, fun _ => rfl⟩
  · rw [if_neg h]
    exact ⟨fun q => absurd q h, fun q => absurd (wk_0.mpr q.1) h⟩
theorem whF_congr {e e' lo : Nat → Bool} {f : Nat} (h : ∀ blk, blk < 3 → ∀ p, p < 14 → gv e (f % 4) blk p = gv e' (f % 4) blk p) (h0 : whF e lo f = 0) : whF e' lo f = 0 := by
  rw [whF_0] at h0 ⊢
  have c : ∀ b, b < 3 → _ := fun b hb => mU_congr (lo := lo) (f := f) (fun p hp _ => h b hb p hp)
  refine ⟨fun b hb => by rw [← (c b hb).1]; exact h0.1 b hb, ?_⟩
  rw [← (c 0 (by decide)).2 (h0.1 0 (by decide)) 0 (by decide)]
  exact h0.2
theorem why_f {e lo : Nat → Bool} {f : Nat} (h : fmt e lo = some f) : why e lo = whF e lo f := by unfold why; rw [h]
theorem flp_ne {e : Nat → Bool} {i j : Nat} (h : j ≠ i) : flp e i j = e j := by unfold flp; rw [decide_eq_false h, Bool.xor_false]
theorem flp_at (e : Nat → Bool) (i : Nat) : flp e i i = !(e i) := by unfold flp; rw [decide_eq_true rfl, Bool.xor_true]
/-- a dot that isn't of the format leaves it -/
theorem fmt_flp {e lo : Nat → Bool} {i : Nat} (hb : fb i = 4294967295) : fmt (flp e i) lo = fmt e lo := fmt_congr (fun j _ hj => flp_ne (fun q => by rw [q] at hj; exact hj hb))
/-- a dot of no symbol leaves the symbols -/
theorem gv_flp {e : Nat → Bool} {i f blk p : Nat} (h : ∀ j, j < 4 → dO (4 * (3 * p + blk) + j) ≠ i) : gv (flp e i) f blk p = gv e f blk p := gv_congr (fun j hj => flp_ne (h j hj))
theorem dO_ne {i s j : Nat} (hs : s < 42) (hj : j < 4) (h : frN i ≠ 4 * s + j) : dO (4 * s + j) ≠ i := fun q => by
  have := dO_ok (4 * s + j) (by omega)
  rw [q] at this
  exact h this.2.1
/-- a dot that no symbol has, and no format -/
theorem why_off {e lo : Nat → Bool} {i : Nat} (hb : fb i = 4294967295) (hk : 168 ≤ frN i) (h : why e lo = 0) : why (flp e i) lo = 0 := by
  cases hf : fmt e lo with
  | none => unfold why at h; rw [hf] at h; cases h
  | some f =>
    rw [why_f hf] at h
    rw [why_f (f := f) (by rw [fmt_flp hb]; exact hf)]
    exact whF_congr (fun blk hb' p hp => (gv_flp (fun j hj => dO_ne (by omega) hj (by omega))).symm) h
/-- a dot of the format that leaves it -/
theorem why_fmt {e lo : Nat → Bool} {i : Nat} (hi : frN i = 4294967295) (hf : fmt (flp e i) lo = fmt e lo) (h : why e lo = 0) : why (flp e i) lo = 0 := by
  cases hf' : fmt e lo with
  | none => unfold why at h; rw [hf'] at h; cases h
  | some f =>
    rw [why_f hf'] at h
    rw [why_f (f := f) (by rw [hf]; exact hf')]
    exact whF_congr (fun blk hb' p hp => (gv_flp (fun j hj => dO_ne (by omega) hj (by omega))).symm) h
/-- a dot of a symbol: its block alone -/
theorem why_sym {e lo : Nat → Bool} {i f : Nat} (hi : i < 225) (hk : frN i < 168) (hf : fmt e lo = some f) (h : why e lo = 0) : fmt (flp e i) lo = some f ∧ (why (flp e i) lo = 0 ↔ mU (flp e i) lo f (frN i / 4 % 3) ≠ 4294967295 ∧ (frN i / 4 % 3 = 0 → wrg (f / 4) (mR (flp e i) lo f 0 0).1 = false)) := by
  have hb : fb i = 4294967295 := by
    rcases fb_fr i hi with q | q
    · omega
    · exact q
  have hf2 : fmt (flp e i) lo = some f := by rw [fmt_flp hb]; exact hf
  refine ⟨hf2, ?_⟩
  rw [why_f hf, whF_0] at h
  rw [why_f hf2, whF_0]
  have c : ∀ b, b < 3 → b ≠ frN i / 4 % 3 → mU (flp e i) lo f b = mU e lo f b ∧ (mU (flp e i) lo f b ≠ 4294967295 → ∀ p, p < 14 → mR (flp e i) lo f b p = mR e lo f b p) := fun b hb hne => mU_congr (fun p hp _ => gv_flp (fun j hj => dO_ne (by omega) hj (by omega)))
  constructor
  · intro q
    exact ⟨q.1 _ (by omega), fun _ => q.2⟩
  · rintro ⟨q1, q2⟩
    refine ⟨fun b hb => ?_, ?_⟩
    · by_cases e : b = frN i / 4 % 3
      · rw [e]; exact q1
      · rw [(c b hb e).1]; exact h.1 b hb
    · by_cases e0 : frN i / 4 % 3 = 0
      · exact q2 e0
      · have := c 0 (by decide) (fun q => e0 q.symm)
        rw [this.2 (by rw [this.1]; exact h.1 0 (by decide)) 0 (by decide)]
        exact h.2
/-! the symbol with one dot other -/
theorem sv_4 (e : Nat → Bool) (f s : Nat) : sv e f s 4 = 2 * (2 * (2 * (2 * 0 + (xor (e (dO (4 * s + 0))) (mbit f (dO (4 * s + 0) / 15) (dO (4 * s + 0) % 15))).toNat) + (xor (e (dO (4 * s + 1))) (mbit f (dO (4 * s + 1) / 15) (dO (4 * s + 1) % 15))).toNat) + (xor (e (dO (4 * s + 2))) (mbit f (dO (4 * s + 2) / 15) (dO (4 * s + 2) % 15))).toNat) + (xor (e (dO (4 * s + 3))) (mbit f (dO (4 * s + 3) / 15) (dO (4 * s + 3) % 15))).toNat := rfl
theorem b4_x : ∀ a b c d : Bool, (2 * (2 * (2 * (2 * 0 + a.toNat) + b.toNat) + c.toNat) + d.toNat) ^^^ 8 / 2 ^ 0 = 2 * (2 * (2 * (2 * 0 + (!a).toNat) + b.toNat) + c.toNat) + d.toNat ∧ (2 * (2 * (2 * (2 * 0 + a.toNat) + b.toNat) + c.toNat) + d.toNat) ^^^ 8 / 2 ^ 1 = 2 * (2 * (2 * (2 * 0 + a.toNat) + (!b).toNat) + c.toNat) + d.toNat ∧ (2 * (2 * (2 * (2 * 0 + a.toNat) + b.toNat) + c.toNat) + d.toNat) ^^^ 8 / 2 ^ 2 = 2 * (2 * (2 * (2 * 0 + a.toNat) + b.toNat) + (!c).toNat) + d.toNat ∧ (2 * (2 * (2 * (2 * 0 + a.toNat) + b.toNat) + c.toNat) + d.toNat) ^^^ 8 / 2 ^ 3 = 2 * (2 * (2 * (2 * 0 + a.toNat) + b.toNat) + c.toNat) + (!d).toNat := by decide +kernel
theorem sv_flp {e : Nat → Bool} {f i : Nat} (hi : i < 225) (hk : frN i < 168) : sv (flp e i) f (frN i / 4) 4 = sv e f (frN i / 4) 4 ^^^ 8 / 2 ^ (frN i % 4) := by
  have hd : dO (4 * (frN i / 4) + frN i % 4) = i := by
    rw [show 4 * (frN i / 4) + frN i % 4 = frN i by omega]
    exact ((frN_ok i hi).resolve_left (by omega)).2
  have hne : ∀ j, j < 4 → j ≠ frN i % 4 → dO (4 * (frN i / 4) + j) ≠ i := fun j hj hn => dO_ne (by omega) hj (by omega)
  rw [sv_4, sv_4]
  have hx : ∀ a b : Bool, xor (!a) b = !(xor a b) := by decide
  have hc : frN i % 4 = 0 ∨ frN i % 4 = 1 ∨ frN i % 4 = 2 ∨ frN i % 4 = 3 := by omega
  rcases hc with hc | hc | hc | hc
  · rw [hc] at hd hne ⊢
    rw [(b4_x _ _ _ _).1, hd, flp_at, flp_ne (hne 1 (by decide) (by decide)), flp_ne (hne 2 (by decide) (by decide)), flp_ne (hne 3 (by decide) (by decide)), hx]
  · rw [hc] at hd hne ⊢
    rw [(b4_x _ _ _ _).2.1, hd, flp_at, flp_ne (hne 0 (by decide) (by decide)), flp_ne (hne 2 (by decide) (by decide)), flp_ne (hne 3 (by decide) (by decide)), hx]
  · rw [hc] at hd hne ⊢
    rw [(b4_x _ _ _ _).2.2.1, hd, flp_at, flp_ne (hne 0 (by decide) (by decide)), flp_ne (hne 1 (by decide) (by decide)), flp_ne (hne 3 (by decide) (by decide)), hx]
  · rw [hc] at hd hne ⊢
    rw [(b4_x _ _ _ _).2.2.2, hd, flp_at, flp_ne (hne 0 (by decide) (by decide)), flp_ne (hne 1 (by decide) (by decide)), flp_ne (hne 2 (by decide) (by decide)), hx]
theorem ct_one {s t : Nat → Bool} {p0 : Nat} (h : ∀ p, p ≠ p0 → s p = t p) : ∀ n, (p0 < n → ct s n + (t p0).toNat = ct t n + (s p0).toNat) ∧ (n ≤ p0 → ct s n = ct t n) := by
  intro n
  induction n with
  | zero => exact ⟨fun q => absurd q (by omega), fun _ => rfl⟩
  | succ n ih =>
    have hs : ct s (n + 1) = ct s n + (s n).toNat := by show ct s n + (if s n then 1 else 0) = _; cases s n <;> rfl
    have ht : ct t (n + 1) = ct t n + (t n).toNat := by show ct t n + (if t n then 1 else 0) = _; cases t n <;> rfl
    rw [hs, ht]
    refine ⟨fun q => ?_, fun q => ?_⟩
    · by_cases e : n = p0
      · subst e
        rw [ih.2 (Nat.le_refl _)]
        omega
      · have := ih.1 (by omega)
        rw [h n e]
        omega
    · rw [ih.2 (by omega), h n (by omega)]
/-! THE MODEL'S STRAW -/
theorem SN_flp {iv iv' : IV} {e lo : Nat → Bool} {i : Nat} (hi : i < 225) (h : SN iv e lo) (h' : iv' = mm_up2 iv 91 i (nI 1 - iv 91 i)) : SN iv' (flp e i) lo := by
  rw [up_row] at h'
  obtain ⟨h87, l, w, hl, hw, h12, h13, hd⟩ := h
  refine ⟨fun j hj => by rw [h', row_ne (by decide)]; exact h87 j hj, l, w, hl, hw, by rw [h', row_ne (by decide)]; exact h12, by rw [h', row_ne (by decide)]; exact h13, fun j hj => ?_⟩
  obtain ⟨d1, t, q, d2, d3, d4⟩ := hd j hj
  rw [h', row_ne (show (92 : Nat) ≠ 91 by decide), row_ne (show (86 : Nat) ≠ 91 by decide), row_at]
  by_cases e1 : j = i
  · subst e1
    refine ⟨d1, !t, q, ?_, d3, ?_⟩
    · rw [if_pos rfl, d2]
      cases t <;> decide
    · rw [flp_at, d4]
      cases t <;> cases (if frN j = 4294967295 then fx l w j else xor q (mbit w (j / 15) (j % 15))) <;> rfl
  · refine ⟨d1, t, q, by rw [if_neg e1]; exact d2, d3, ?_⟩
    rw [flp_ne e1]
    exact d4
theorem up_back {iv : IV} {i : Nat} {t : Bool} (h : iv 91 i = nI t.toNat) : mm_row (mm_row iv 91 (fun j => if j = i then nI 1 - iv 91 i else iv 91 j)) 91 (fun j => if j = i then nI 1 - (nI 1 - iv 91 i) else iv 91 j) = iv := by
  rw [row_row]
  refine row_id (fun j => ?_)
  by_cases e : j = i
  · rw [if_pos e, e, h]
    cases t <;> decide
  · rw [if_neg e]
theorem oI_eq {a b : Option Nat} (ha : ∀ x, a = some x → x < 2 ^ 31) (hb : ∀ x, b = some x → x < 2 ^ 31) : oI a = oI b ↔ a = b := by
  cases a with
  | none =>
    cases b with
    | none => exact ⟨fun _ => rfl, fun _ => rfl⟩
    | some y => exact ⟨fun q => absurd q.symm (m1_ne (hb y rfl)), fun q => by cases q⟩
  | some x =>
    cases b with
    | none => exact ⟨fun q => absurd q (m1_ne (ha x rfl)), fun q => by cases q⟩
    | some y =>
      refine ⟨fun q => ?_, fun q => by rw [q]⟩
      rw [(nI_eq (ha x rfl) (hb y rfl)).mp q]
/-- as FRr, but the way of turned dots is open -/
def FRs (iv iv' : IV) : Prop := (∀ a, a < 94 → a ≠ 74 → a ≠ 91 → iv' a = iv a) ∧ ∀ j, j ≠ 24 → j ≠ 25 → j ≠ 26 → iv' 74 j = iv 74 j
section STRAWM
variable {X : Nat × (Nat → Int32)} {iv : IV}
theorem why_le (e lo : Nat → Bool) : why e lo ≤ 3 := by
  unfold why
  split
  · decide
  · unfold whF
    have := wk_le (mU e lo (by assumption)) 3
    split
    · split <;> omega
    · omega
/-- fails, with the dot turned -/
theorem sp_fails {P : Int32 → IV → Prop} {e lo : Nat → Bool} {i f : Nat} (hi : i < 225) (hlo : lo i = false) (hS : SN iv (flp e i) lo) (hF : FT iv) (h11 : iv 74 11 = nI 1) (hf : fmt e lo = some f) (hw : why e lo = 0) (h25 : iv 74 25 = nI (f / 4)) (h26 : iv 74 26 = nI (f % 4)) (h : ∀ iv', FRr iv iv' → (fb i = 4294967295 → iv' 74 25 = iv 74 25 ∧ iv' 74 26 = iv 74 26) → P (nI (bd e lo i).toNat) iv') : wc X 212 [.ref 74, .int (nI i)] iv (Ri P) := by
  have hfl := fmt_lt hf
  have hbd : bd e lo i = decide (why (flp e i) lo ≠ 0) := by unfold bd; rw [hlo]; rfl
  refine mk_X11_fails ?_
  rw [pk_rem (by omega) (by decide) (by decide), pk_div (by omega) (by decide) (by decide), nI_clamp (n := i) (by omega)]
  refine sp_formatBit hi ⟨fun z => ⟨vp_in_nI hi (by decide), ?_⟩, fun z => ?_⟩
  · have hb : fb i = 4294967295 := by
      rcases fb_ok i hi with q | q
      · exact absurd z (m1_ne (by omega))
      · exact q
    have fr0 : FRr iv iv := ⟨fun _ _ _ => rfl, fun _ _ _ _ => rfl⟩
    have no : 168 ≤ frN i → P (nI 0) iv := fun q => by
      have h0 := h iv fr0 (fun _ => ⟨rfl, rfl⟩)
      rw [hbd, why_off hb q hw] at h0
      exact h0
    rw [hF.2.1 i hi]
    refine ⟨fun z1 => no ?_, fun z1 => ⟨vp_in_nI hi (by decide), ?_⟩⟩
    · rcases frN_ok i hi with q | q
      · omega
      · exact absurd z1 (m1_ne (by omega))
    · have hk : frN i < 171 := by
        rcases frN_ok i hi with q | q
        · rw [q] at z1; exact absurd rfl z1
        · exact q.1
      rw [nI_leI (by omega) (by decide)]
      refine ⟨fun z2 => ⟨vp_in_nI hi (by decide), ?_⟩, fun z2 => no (by omega)⟩
      rw [pk_div (by omega) (by decide) (by decide), pk_rem (by omega) (by decide) (by decide)]
      intro v3 h3
      subst h3
      have hs := why_sym (lo := lo) hi (by omega) hf hw
      have b3 : frN i / 4 % 3 < 3 := by omega
      refine sp_mendsU (e := flp e i) (lo := lo) (f := f) hS hF.2.2 hF.1 h25 hfl h26 b3 (fun iv4 f4 c95 c96 c94 => ⟨vp_in_nI b3 (by decide), ?_⟩)
      rw [nI_clamp (by omega), c96]
      have h4 := h iv4 (FRr_m fr0 f4) (fun _ => by rw [f4.1 74 (by decide)]; exact ⟨rfl, rfl⟩)
      rw [hbd] at h4
      by_cases hu : mU (flp e i) lo f (frN i / 4 % 3) = 4294967295
      · refine ⟨fun _ => ?_, fun z3 => absurd (by rw [hu]) z3⟩
        rw [decide_eq_true (show why (flp e i) lo ≠ 0 from fun q => (hs.2.mp q).1 hu)] at h4
        exact h4
      · have hul := mU_lt hfl hu
        refine ⟨fun z3 => absurd z3 (m1_ne (by omega)), fun _ => ⟨fun z3 => ?_, fun z3 => ?_⟩⟩
        · have e0 : frN i / 4 % 3 = 0 := Classical.byContradiction fun q => nI_ne0 (by omega) (by omega) z3
          rw [e0] at c94 hu
          have c0 := c94 hu 0 (by decide)
          refine sp_isWrong (x := (mR (flp e i) lo f 0 0).1) (l := f / 4) (mR (flp e i) lo f 0 0).2 (by omega) c0 (by rw [f4.1 74 (by decide)]; exact h25) ⟨fun z4 => ?_, fun z4 => ?_⟩
          · rw [bI_0] at z4
            have : why (flp e i) lo = 0 := hs.2.mpr ⟨by rw [e0]; exact hu, fun _ => z4⟩
            rw [this] at h4
            exact h4
          · have z5 : ¬ wrg (f / 4) (mR (flp e i) lo f 0 0).1 = false := fun q => z4 (by rw [q]; rfl)
            rw [decide_eq_true (show why (flp e i) lo ≠ 0 from fun q => z5 ((hs.2.mp q).2 e0))] at h4
            exact h4
        · have e0 : ¬ frN i / 4 % 3 = 0 := fun q => z3 (by rw [q]; rfl)
          have : why (flp e i) lo = 0 := hs.2.mpr ⟨hu, fun q => absurd q e0⟩
          rw [this] at h4
          exact h4
  · have hb : fb i ≠ 4294967295 := fun q => z (by rw [q])
    refine sp_reading hS hF.2.2 hF.1 h11 (fun iv7 f7 r7 => ?_)
    have h7 := h iv7 f7 (fun q => absurd q hb)
    rw [hbd] at h7
    have hle := why_le (flp e i) lo
    rw [r7.1]
    refine ⟨fun z1 => ?_, fun z1 => ?_⟩
    · have e0 : why (flp e i) lo = 0 := Classical.byContradiction fun q => nI_nle (by omega) (by omega) z1
      rw [e0] at h7
      exact h7
    · have e0 : why (flp e i) lo ≠ 0 := fun q => z1 (by rw [q]; decide)
      rw [decide_eq_true e0] at h7
      exact h7
set_option maxHeartbeats 1000000 in
theorem sp_strawNowM {P : Int32 → IV → Prop} {e lo : Nat → Bool} (hS : SN iv e lo) (hF : FT iv) (h11 : iv 74 11 = nI 1) (hR : RM iv e lo) (h : ∀ iv', FRr iv iv' → RM iv' e lo → P (oI (str e lo)) iv') : wc X 213 [.ref 74] iv (Ri P) := by
  have fr0 : FRr iv iv := ⟨fun _ _ _ => rfl, fun _ _ _ _ => rfl⟩
  have hle := why_le e lo
  refine mk_X11_strawNow ?_
  rw [hR.1]
  refine ⟨fun z => ?_, fun z => ?_⟩
  · have hw : why e lo = 0 := Classical.byContradiction fun q => nI_nle (by omega) (by omega) z
    have hst : str e lo = stk e lo 225 := by unfold str; rw [if_pos hw]
    cases hf : fmt e lo with
    | none => unfold why at hw; rw [hf] at hw; cases hw
    | some f =>
      have h25 : iv 74 25 = nI (f / 4) := by rw [hR.2.1, hf]; rfl
      have h26 : iv 74 26 = nI (f % 4) := by rw [hR.2.2.1, hf]; rfl
      have fin : ∀ iv1 : IV, FRr iv iv1 → ∀ x, x = oI (stk e lo 225) → wc X 198 [.ref 74] iv1 (Rv (fun iv2 => P x iv2)) := by
        intro iv1 f1 x hx
        refine sp_reading (e := e) (lo := lo) (SN_r hS f1) (fun k hk => by rw [f1.1 88 (by decide) (by decide)]; exact hF.2.2 k hk) (MF_r hF.1 f1) (by rw [f1.2 11 (by decide) (by decide) (by decide)]; exact h11) (fun iv2 f2 r2 => ?_)
        have := h iv2 ⟨fun a q1 q2 => by rw [f2.1 a q1 q2, f1.1 a q1 q2], fun j q1 q2 q3 => by rw [f2.2 j q1 q2 q3, f1.2 j q1 q2 q3]⟩ r2
        rw [hst] at this
        rw [hx]
        exact this
      have key : ∀ m n, n + m = 225 → ∀ iv1 : IV, FRr iv iv1 → iv1 74 25 = nI (f / 4) → iv1 74 26 = nI (f % 4) → wp X (0, 0) 213 9 [some (.ref 74), some (.int (oI (stk e lo n))), some (.int (nI n))] [] iv1 (Ri P) := by
        intro m
        induction m with
        | zero =>
          intro n hn iv1 f1 c25 c26
          have e' : n = 225 := by omega
          subst e'
          exact mk_X11_strawNow_9 ⟨fun _ => fin iv1 f1 _ rfl, fun z => absurd (nI_le (Nat.le_refl 225) (by decide)) z⟩
        | succ m ih =>
          intro n hn iv1 f1 c25 c26
          refine mk_X11_strawNow_9 ⟨fun z => absurd z (nI_ge (by omega) (by decide)), fun _ => ?_⟩
          cases hs : stk e lo n with
          | some x =>
            have hx := stk_lt e lo n x hs
            have := stk_some hs (m + 1)
            rw [show n + (m + 1) = 225 by omega] at this
            exact ⟨fun z => absurd z (m1_ne (by omega)), fun _ => fin iv1 f1 _ (by rw [this])⟩
          | none =>
            refine ⟨fun _ => ⟨vp_in_nI (by omega) (by decide), ?_⟩, fun z => absurd rfl z⟩
            have S1 := SN_r hS f1
            obtain ⟨-, l0, w0, -, -, -, -, hd⟩ := S1
            obtain ⟨d1, t, q, d2, -, -⟩ := hd n (by omega)
            have S1 := SN_r hS f1
            rw [nI_clamp (by omega), d1]
            have hnx := stk_next (e := e) (lo := lo) hs
            refine ⟨fun z => ⟨vp_in_nI (by omega) (by decide), vp_in_nI (by omega) (by decide), fun iv2 h2 => ?_⟩, fun z => ?_⟩
            · rw [bI_0] at z
              have S2 := SN_flp (by omega) S1 h2
              have h2' := h2
              rw [up_row] at h2'
              have a2 : ∀ a, a ≠ 91 → iv2 a = iv1 a := fun a ha => by rw [h2', row_ne ha]
              have F2 : FT iv2 := FT_of hF (by rw [a2 79 (by decide), f1.1 79 (by decide) (by decide)]) (by rw [a2 80 (by decide), f1.1 80 (by decide) (by decide)]) (by rw [a2 81 (by decide), f1.1 81 (by decide) (by decide)]) (by rw [a2 87 (by decide), f1.1 87 (by decide) (by decide)]) (by rw [a2 88 (by decide), f1.1 88 (by decide) (by decide)])
              refine sp_fails (e := e) (f := f) (by omega) z S2 F2 (by rw [a2 74 (by decide), f1.2 11 (by decide) (by decide) (by decide)]; exact h11) hf hw (by rw [a2 74 (by decide)]; exact c25) (by rw [a2 74 (by decide)]; exact c26) (fun iv3 f3 c3 => ?_)
              have hbd : bd e lo n = true ∨ bd e lo n = false := by cases bd e lo n <;> simp
              have aft : ∀ s0 : Int32, s0 = oI (stk e lo (n + 1)) → wp X (0, 0) 213 37 [some (.ref 74), none, some (.int (nI n))] [.int s0] iv3 (Ri P) := by
                intro s0 hs0
                refine mk_X11_strawNow_37 ⟨vp_in_nI (by omega) (by decide), vp_in_nI (by omega) (by decide), fun iv4 h4 => ?_⟩
                have e91 : iv3 91 = iv2 91 := f3.1 91 (by decide) (by decide)
                rw [nI_clamp (by omega), e91, up_row, e91] at h4
                have b91 : iv4 91 = iv1 91 := by
                  rw [h4, row_get, h2', row_get]
                  funext j
                  by_cases ej : j = n
                  · rw [if_pos ej, if_pos rfl, ej, d2]
                    cases t <;> decide
                  · rw [if_neg ej, if_neg ej]
                have f4 : FRr iv iv4 := by
                  refine ⟨fun a q1 q2 => ?_, fun j q1 q2 q3 => ?_⟩
                  · by_cases e9 : a = 91
                    · rw [e9, b91]; exact f1.1 91 (by decide) (by decide)
                    · rw [h4, row_ne e9, f3.1 a q1 q2, a2 a e9]; exact f1.1 a q1 q2
                  · rw [h4, row_ne (by decide), f3.2 j q1 q2 q3, a2 74 (by decide)]; exact f1.2 j q1 q2 q3
                rw [pk_rem (by omega) (by decide) (by decide), pk_div (by omega) (by decide) (by decide)]
                refine sp_formatBit (by omega) ⟨fun z5 => ?_, fun z5 => ?_⟩
                · have hb : fb n = 4294967295 := by
                    rcases fb_ok n (by omega) with q | q
                    · exact absurd z5 (m1_ne (by omega))
                    · exact q
                  have c3' := c3 hb
                  rw [hs0, nI_add]
                  exact ih (n + 1) (by omega) iv4 f4 (by rw [h4, row_ne (by decide), c3'.1, a2 74 (by decide)]; exact c25) (by rw [h4, row_ne (by decide), c3'.2, a2 74 (by decide)]; exact c26)
                · refine sp_reading (e := e) (lo := lo) (SN_r hS f4) (fun k hk => by rw [f4.1 88 (by decide) (by decide)]; exact hF.2.2 k hk) (MF_r hF.1 f4) (by rw [f4.2 11 (by decide) (by decide) (by decide)]; exact h11) (fun iv5 f5 r5 => ?_)
                  rw [hs0, nI_add]
                  exact ih (n + 1) (by omega) iv5 ⟨fun a q1 q2 => by rw [f5.1 a q1 q2, f4.1 a q1 q2], fun j q1 q2 q3 => by rw [f5.2 j q1 q2 q3, f4.2 j q1 q2 q3]⟩ (by rw [r5.2.1, hf]; rfl) (by rw [r5.2.2.1, hf]; rfl)
              rcases hbd with hbd | hbd
              · rw [hbd]
                rw [hbd] at hnx
                exact ⟨fun z => absurd z (by decide), fun _ => aft _ (by rw [hnx]; rfl)⟩
              · rw [hbd]
                rw [hbd] at hnx
                exact ⟨fun _ => aft _ (by rw [hnx]; rfl), fun z => absurd rfl z⟩
            · have hl : lo n = true := by
                cases hq : lo n with
                | true => rfl
                | false => rw [hq] at z; exact absurd rfl z
              have hbd : bd e lo n = false := by unfold bd; rw [hl]; rfl
              rw [hbd] at hnx
              have := ih (n + 1) (by omega) iv1 f1 c25 c26
              rw [hnx] at this
              rw [nI_add]
              exact this
      exact key 225 0 rfl iv fr0 h25 h26
  · have hw : why e lo ≠ 0 := fun q => z (by rw [q]; decide)
    have := h iv fr0 hR
    unfold str at this
    rw [if_neg hw] at this
    exact this
end STRAWM
