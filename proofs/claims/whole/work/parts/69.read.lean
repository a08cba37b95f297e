/-! READING, IN THE MODEL -/
def zI (z : Int) : Int32 := Int32.ofInt z
theorem zI_n (n : Nat) : nI n = zI n := rfl
theorem zI_m1 : nI 4294967295 = zI (-1) := by decide
theorem zI_add (a b : Int) : zI a + zI b = zI (a + b) := (Int32.ofInt_add a b).symm
theorem zI_toInt {z : Int} (h1 : -1000 ≤ z) (h2 : z ≤ 1000) : (zI z).toInt = z := by
  unfold zI
  rw [Int32.toInt_ofInt]
  show Int.bmod z 4294967296 = z
  exact Int.bmod_eq_of_le (by omega) (by omega)
theorem zI_0 {z : Int} (h1 : -1000 ≤ z) (h2 : z ≤ 1000) : zI z = 0 ↔ z = 0 := by
  rw [← Int32.toInt_inj, zI_toInt h1 h2]
  exact Iff.rfl
theorem zI_le {z : Int} (h1 : -1000 ≤ z) (h2 : z ≤ 1000) : zI z ≤ 0 ↔ z ≤ 0 := by
  rw [Int32.le_iff_toInt_le, zI_toInt h1 h2]
  exact Iff.rfl
/-- a dot's vote -/
def vt (e lo : Nat → Bool) (i : Nat) : Int := if lo i then 0 else if e i then 1 else -1
def bal (e lo : Nat → Bool) (k : Nat) : Int := vt e lo (45 + k) + vt e lo (56 + k) + vt e lo (165 + k)
def ms (e lo : Nat → Bool) (b : Nat) : Nat → Int
  | 0 => 0
  | n + 1 => ms e lo b n + if fb (45 + n) = b then vt e lo (45 + n) else 0
theorem vt_b (e lo : Nat → Bool) (i : Nat) : -1 ≤ vt e lo i ∧ vt e lo i ≤ 1 := by
  unfold vt
  split
  · omega
  · split <;> omega
theorem ms_b (e lo : Nat → Bool) (b n : Nat) : -(n : Int) ≤ ms e lo b n ∧ ms e lo b n ≤ n := by
  induction n with
  | zero => exact ⟨by simp [ms], by simp [ms]⟩
  | succ n ih =>
    have := vt_b e lo (45 + n)
    rw [ms]
    split <;> omega
theorem ms_at : ∀ k, k < 4 → ∀ j, j < 135 → (fb (45 + j) = 3 - k ↔ j = k ∨ j = 11 + k ∨ j = 120 + k) := by decide +kernel
theorem ms_sum (e lo : Nat → Bool) {k : Nat} (hk : k < 4) : ∀ n, n ≤ 135 → ms e lo (3 - k) n = (if k < n then vt e lo (45 + k) else 0) + (if 11 + k < n then vt e lo (56 + k) else 0) + (if 120 + k < n then vt e lo (165 + k) else 0) := by
  intro n
  induction n with
  | zero => intro _; rw [if_neg (by omega), if_neg (by omega), if_neg (by omega)]; rfl
  | succ n ih =>
    intro hn
    rw [ms, ih (by omega)]
    have hq := ms_at k hk n (by omega)
    by_cases h1 : n = k
    · rw [if_pos (hq.mpr (Or.inl h1)), if_neg (by omega), if_neg (by omega), if_neg (by omega), if_pos (by omega), if_neg (by omega), if_neg (by omega), h1]
      omega
    · by_cases h2 : n = 11 + k
      · rw [if_pos (hq.mpr (Or.inr (Or.inl h2))), if_pos (show k < n by omega), if_neg (show ¬ 11 + k < n by omega), if_neg (show ¬ 120 + k < n by omega), if_pos (show k < n + 1 by omega), if_pos (show 11 + k < n + 1 by omega), if_neg (show ¬ 120 + k < n + 1 by omega), show 45 + n = 56 + k by omega]
        omega
      · by_cases h3 : n = 120 + k
        · rw [if_pos (hq.mpr (Or.inr (Or.inr h3))), if_pos (show k < n by omega), if_pos (show 11 + k < n by omega), if_neg (show ¬ 120 + k < n by omega), if_pos (show k < n + 1 by omega), if_pos (show 11 + k < n + 1 by omega), if_pos (show 120 + k < n + 1 by omega), show 45 + n = 165 + k by omega]
          omega
        · rw [if_neg (show ¬ fb (45 + n) = 3 - k from fun z => by rcases hq.mp z with q | q | q <;> omega), Int.add_zero]
          have a1 : (k < n + 1) = (k < n) := by apply propext; omega
          have a2 : (11 + k < n + 1) = (11 + k < n) := by apply propext; omega
          have a3 : (120 + k < n + 1) = (120 + k < n) := by apply propext; omega
          simp only [a1, a2, a3]
theorem ms_bal (e lo : Nat → Bool) {k : Nat} (hk : k < 4) : ms e lo (3 - k) 135 = bal e lo k := by
  rw [ms_sum e lo hk 135 (Nat.le_refl _), if_pos (by omega), if_pos (by omega), if_pos (by omega)]
  rfl
def fm (e lo : Nat → Bool) : Nat → Option Nat
  | 0 => some 0
  | k + 1 => match fm e lo k with
    | none => none
    | some f => if bal e lo k = 0 then none else some (2 * f + if 0 < bal e lo k then 1 else 0)
def fmt (e lo : Nat → Bool) : Option Nat := match fm e lo 4 with
  | none => none
  | some f => if 11 < f then none else some f
def oI : Option Nat → Int32
  | none => nI 4294967295
  | some n => nI n
theorem fm_lt (e lo : Nat → Bool) : ∀ k f, fm e lo k = some f → f < 2 ^ k := by
  intro k
  induction k with
  | zero => intro f h; cases h; exact Nat.one_pos
  | succ k ih =>
    intro f h
    rw [fm] at h
    split at h
    · cases h
    · rename_i f0 h0
      have := ih f0 h0
      split at h
      · cases h
      · cases h
        rw [Nat.pow_succ]
        split <;> omega
theorem fmt_lt {e lo : Nat → Bool} {f : Nat} (h : fmt e lo = some f) : f < 12 := by
  unfold fmt at h
  split at h
  · cases h
  · split at h
    · cases h
    · cases h; omega
theorem fm_none {e lo : Nat → Bool} {k : Nat} (h : fm e lo k = none) : ∀ m, fm e lo (k + m) = none := by
  intro m
  induction m with
  | zero => exact h
  | succ m ih => rw [← Nat.add_assoc, fm, ih]
theorem fmt_none {e lo : Nat → Bool} {k : Nat} (hk : k ≤ 4) (h : fm e lo k = none) : fmt e lo = none := by
  have := fm_none h (4 - k)
  rw [show k + (4 - k) = 4 by omega] at this
  unfold fmt
  rw [this]
section READM
variable {X : Nat × (Nat → Int32)} {iv : IV}
theorem sp_formatNow {P : Int32 → IV → Prop} {e lo : Nat → Bool} (hS : SN iv e lo) (p : P (oI (fmt e lo)) iv) : wc X 187 [.ref 74] iv (Ri P) := by
  refine mk_X11_formatNow ?_
  have key : ∀ m k f, k + m = 4 → fm e lo k = some f → wp X (0, 0) 187 4 [some (.ref 74), some (.int (nI f)), some (.int (zI (3 - k))), none, none, none] [] iv (Ri P) := by
    intro m
    induction m with
    | zero =>
      intro k f hk hf
      have e4 : k = 4 := by omega
      subst e4
      have := fm_lt e lo 4 f hf
      refine mk_X11_formatNow_4 ⟨fun _ => ?_, fun z => absurd (by decide) z⟩
      have hfm : fmt e lo = if 11 < f then none else some f := by unfold fmt; rw [hf]
      refine ⟨fun z => ?_, fun z => ?_⟩
      · rw [nI_leI (by omega) (by decide)] at z
        rw [hfm, if_neg (by omega)] at p
        exact p
      · rw [nI_leI (by omega) (by decide)] at z
        rw [hfm, if_pos (by omega)] at p
        exact p
    | succ m ih =>
      intro k f hk hf
      have hfl := fm_lt e lo k f hf
      have hf8 : f < 2 ^ 3 := Nat.lt_of_lt_of_le hfl (Nat.pow_le_pow_right (by decide) (by omega))
      have hz : zI (3 - (k : Int)) = nI (3 - k) := by rw [zI_n]; congr 1; omega
      rw [hz]
      refine mk_X11_formatNow_4 ⟨fun z => absurd z (nI_pos (by omega)), fun _ => ?_⟩
      refine ldn (W := fun n => wp X (0, 0) 187 10 [some (.ref 74), some (.int (nI f)), some (.int (nI (3 - k))), some (.int (zI (ms e lo (3 - k) n))), some (.int (nI (45 + n))), none] [] iv (Ri P)) 135 ?_ ?_
      · have mb := ms_b e lo (3 - k) 135
        refine mk_X11_formatNow_10 ⟨fun _ => ?_, fun z => absurd (nI_le (Nat.le_refl 180) (by decide)) z⟩
        rw [ms_bal e lo (by omega)] at mb ⊢
        rw [zI_0 (by omega) (by omega), zI_le (by omega) (by omega)]
        have hnx : fm e lo (k + 1) = if bal e lo k = 0 then none else some (2 * f + if 0 < bal e lo k then 1 else 0) := by rw [fm, hf]
        refine ⟨fun z => ?_, fun z => ⟨fun z1 v1 h1 v2 h2 => ?_, fun z1 v1 h1 v2 h2 => ?_⟩⟩
        · rw [if_pos z] at hnx
          rw [fmt_none (by omega) hnx] at p
          exact p
        · rw [if_neg z, if_neg (by omega)] at hnx
          rw [pk_mul, nI_add] at h1
          rw [zI_m1, ← hz, zI_add] at h2
          rw [h1, h2, show (3 - (k : Int) + -1) = 3 - ((k + 1 : Nat) : Int) by omega]
          exact ih (k + 1) _ (by omega) hnx
        · rw [if_neg z, if_pos (by omega)] at hnx
          rw [pk_mul, nI_add] at h1
          rw [zI_m1, ← hz, zI_add] at h2
          rw [h1, h2, show (3 - (k : Int) + -1) = 3 - ((k + 1 : Nat) : Int) by omega]
          exact ih (k + 1) _ (by omega) hnx
      · intro n hn nx
        refine mk_X11_formatNow_10 ⟨fun z => absurd z (nI_ge (by omega) (by decide)), fun _ => ?_⟩
        rw [pk_rem (by omega) (by decide) (by decide), pk_div (by omega) (by decide) (by decide)]
        refine sp_formatBit (by omega) ?_
        have hmn : ms e lo (3 - k) (n + 1) = ms e lo (3 - k) n + if fb (45 + n) = 3 - k then vt e lo (45 + n) else 0 := rfl
        rw [show 45 + (n + 1) = 45 + n + 1 by omega, ← nI_add] at nx
        refine ⟨fun z => ?_, fun z => ?_⟩
        · have hb : fb (45 + n) = 3 - k := by
            rcases fb_ok (45 + n) (by omega) with q | q
            · exact (nI_eq (by omega) (by omega)).mp z
            · rw [q] at z; exact absurd z.symm (m1_ne (by omega))
          rw [if_pos hb] at hmn
          refine sp_seenAt hS (by omega) (mk_X11_formatNow_27 ?_)
          unfold vt at hmn
          unfold eL
          cases hlo : lo (45 + n) with
          | true =>
            rw [hlo] at hmn
            rw [if_pos rfl]
            refine ⟨fun z => absurd z (by decide), fun _ => ⟨fun z => absurd z (by decide), fun _ => ?_⟩⟩
            rw [zI_n 0, zI_add]
            rw [hmn] at nx
            exact nx
          | false =>
            rw [hlo] at hmn
            cases he : e (45 + n) with
            | true =>
              rw [he] at hmn
              refine ⟨fun _ => ?_, fun z => absurd rfl z⟩
              rw [hmn, show (if false = true then (0 : Int) else if true = true then 1 else -1) = ((1 : Nat) : Int) by rfl, ← zI_add] at nx
              exact nx
            | false =>
              rw [he] at hmn
              refine ⟨fun z => absurd z (by decide), fun _ => ⟨fun _ v1 h1 => ?_, fun z => absurd rfl z⟩⟩
              rw [zI_m1, zI_add] at h1
              rw [hmn] at nx
              rw [h1]
              exact nx
        · have hb : ¬ fb (45 + n) = 3 - k := fun q => z (by rw [q])
          rw [if_neg hb] at hmn
          refine mk_X11_formatNow_27 ⟨fun z => absurd z (by decide), fun _ => ⟨fun z => absurd z (by decide), fun _ => ?_⟩⟩
          rw [zI_n 0, zI_add]
          rw [hmn] at nx
          exact nx
  exact key 4 0 0 rfl rfl
end READM
/-! what mending gives -/
noncomputable def mr (c : Nat) (v : Nat → G) (g : Nat → Bool) : Nat → G := Classical.epsilon fun r => ∃ d, Fix c v g r d
noncomputable def mu (c : Nat) (v : Nat → G) (g : Nat → Bool) : Nat := Classical.epsilon fun d => (∃ r, Fix c v g r d) ∨ (d = 4294967295 ∧ ¬ ∃ r d', Fix c v g r d')
theorem mr_of {c d : Nat} {v r : Nat → G} {g : Nat → Bool} (h : Fix c v g r d) : (∀ p, p < 14 → mr c v g p = r p) ∧ mu c v g = d := by
  have h1 : ∃ d', Fix c v g (mr c v g) d' := Classical.epsilon_spec (p := fun r => ∃ d, Fix c v g r d) ⟨r, d, h⟩
  have h2 : (∃ r, Fix c v g r (mu c v g)) ∨ (mu c v g = 4294967295 ∧ ¬ ∃ r d', Fix c v g r d') := Classical.epsilon_spec (p := fun d => (∃ r, Fix c v g r d) ∨ (d = 4294967295 ∧ ¬ ∃ r d', Fix c v g r d')) ⟨d, Or.inl ⟨r, h⟩⟩
  obtain ⟨d', h1⟩ := h1
  refine ⟨(Fix_uniq h1 h).1, ?_⟩
  rcases h2 with ⟨r', h2⟩ | h2
  · exact (Fix_uniq h2 h).2
  · exact absurd ⟨r, d, h⟩ h2.2
theorem mu_no {c : Nat} {v : Nat → G} {g : Nat → Bool} (h : ¬ ∃ r d, Fix c v g r d) : mu c v g = 4294967295 := by
  have h2 : (∃ r, Fix c v g r (mu c v g)) ∨ (mu c v g = 4294967295 ∧ ¬ ∃ r d', Fix c v g r d') := Classical.epsilon_spec (p := fun d => (∃ r, Fix c v g r d) ∨ (d = 4294967295 ∧ ¬ ∃ r d', Fix c v g r d')) ⟨4294967295, Or.inr ⟨rfl, h⟩⟩
  rcases h2 with ⟨r', h2⟩ | h2
  · exact absurd ⟨r', _, h2⟩ h
  · exact h2.1
theorem mu_fix {c : Nat} {v : Nat → G} {g : Nat → Bool} (h : mu c v g ≠ 4294967295) : Fix c v g (mr c v g) (mu c v g) := by
  by_cases hx : ∃ r d, Fix c v g r d
  · obtain ⟨r, d, hF⟩ := hx
    have h1 : ∃ d', Fix c v g (mr c v g) d' := Classical.epsilon_spec (p := fun r => ∃ d, Fix c v g r d) ⟨r, d, hF⟩
    obtain ⟨d', h1⟩ := h1
    rw [(mr_of h1).2]
    exact h1
  · exact absurd (mu_no hx) h
theorem mu_le {c : Nat} {v : Nat → G} {g : Nat → Bool} (h : mu c v g ≠ 4294967295) : ct g 14 + 2 * mu c v g ≤ c := (mu_fix h).2.2
noncomputable def mU (e lo : Nat → Bool) (f blk : Nat) : Nat := mu (2 + 2 * (f / 4)) (gv e (f % 4) blk) (gg lo blk)
noncomputable def mR (e lo : Nat → Bool) (f blk : Nat) : Nat → G := mr (2 + 2 * (f / 4)) (gv e (f % 4) blk) (gg lo blk)
def wrg (l x : Nat) : Bool := decide (x = 15 ∨ 3 * (12 - 2 * l) < 1 + 2 * x)
def wk (u : Nat → Nat) : Nat → Nat
  | 0 => 0
  | k + 1 => if u k = 4294967295 then 2 else wk u k
noncomputable def whF (e lo : Nat → Bool) (f : Nat) : Nat := if wk (mU e lo f) 3 = 0 then (if wrg (f / 4) (mR e lo f 0 0).1 then 3 else 0) else wk (mU e lo f) 3
noncomputable def why (e lo : Nat → Bool) : Nat := match fmt e lo with
  | none => 1
  | some f => whF e lo f
theorem wk_le (u : Nat → Nat) (k : Nat) : wk u k ≤ 2 := by
  induction k with
  | zero => exact Nat.zero_le _
  | succ k ih => rw [wk]; split <;> omega
theorem wk_0 {u : Nat → Nat} : ∀ {k : Nat}, wk u k = 0 ↔ ∀ b, b < k → u b ≠ 4294967295 := by
  intro k
  induction k with
  | zero => exact ⟨fun _ b hb => absurd hb (by omega), fun _ => rfl⟩
  | succ k ih =>
    rw [wk]
    by_cases h : u k = 4294967295
    · rw [if_pos h]
      exact ⟨fun q => absurd q (by decide), fun q => absurd h (q k (by omega))⟩
    · rw [if_neg h, ih]
      constructor
      · intro q b hb
        by_cases e : b = k
        · rw [e]; exact h
        · exact q b (by omega)
      · intro q b hb
        exact q b (by omega)
/-- what the model's reading leaves -/
def RM (iv : IV) (e lo : Nat → Bool) : Prop := iv 74 24 = nI (why e lo) ∧ iv 74 25 = oI ((fmt e lo).map (· / 4)) ∧ iv 74 26 = oI ((fmt e lo).map (· % 4)) ∧ ∀ f, fmt e lo = some f → ∀ blk, blk < 3 → iv 95 blk = nI (ct (gg lo blk) 14) ∧ iv 96 blk = nI (mU e lo f blk) ∧ (mU e lo f blk ≠ 4294967295 → ∀ p, p < 14 → iv 94 (14 * blk + p) = nI (mR e lo f blk p).1)
def FRr (iv iv' : IV) : Prop := (∀ a, a < 94 → a ≠ 74 → iv' a = iv a) ∧ ∀ j, j ≠ 24 → j ≠ 25 → j ≠ 26 → iv' 74 j = iv 74 j
theorem FRr_74 {iv iv1 iv2 : IV} {j : Nat} {x : Int32} (h : FRr iv iv1) (hj : j = 24 ∨ j = 25 ∨ j = 26) (h2 : iv2 = mm_up2 iv1 74 j x) : FRr iv iv2 := by
  rw [up_row] at h2
  refine ⟨fun a ha hb => by rw [h2, row_ne hb]; exact h.1 a ha hb, fun q h4 h5 h6 => ?_⟩
  rw [h2, row_at, if_neg (by omega)]
  exact h.2 q h4 h5 h6
theorem FRr_m {iv iv1 iv2 : IV} {blk : Nat} (h : FRr iv iv1) (h1 : FRm iv1 iv2 blk) : FRr iv iv2 := ⟨fun a ha hb => by rw [h1.1 a ha]; exact h.1 a ha hb, fun q h4 h5 h6 => by rw [h1.1 74 (by decide)]; exact h.2 q h4 h5 h6⟩
theorem SN_r {iv iv' : IV} {e lo : Nat → Bool} (h : SN iv e lo) (f : FRr iv iv') : SN iv' e lo := SN_of h (f.2 12 (by decide) (by decide) (by decide)) (f.2 13 (by decide) (by decide) (by decide)) (f.1 86 (by decide) (by decide)) (f.1 87 (by decide) (by decide)) (f.1 91 (by decide) (by decide)) (f.1 92 (by decide) (by decide))
theorem MF_r {iv iv' : IV} (h : MF iv) (f : FRr iv iv') : MF iv' := MF_of h (f.1 79 (by decide) (by decide)) (f.1 80 (by decide) (by decide)) (f.1 81 (by decide) (by decide))
section READM2
variable {X : Nat × (Nat → Int32)} {iv : IV}
theorem sp_isWrong {P : Int32 → IV → Prop} {l x : Nat} (hx : x < 16) (hl : l < 3) (h94 : iv 94 0 = nI x) (h25 : iv 74 25 = nI l) (p : P (nI (wrg l x).toNat) iv) : wc X 211 [.ref 74] iv (Ri P) := by
  refine mk_X11_isWrong ?_
  rw [nI_clamp (by decide), h94, h25]
  unfold wrg at p
  refine ⟨vp_in_nI (by decide) (by decide), fun z => ?_, fun z => ⟨vp_in_nI (by decide) (by decide), mk_X11_roomOf (mk_X11_checksOf ?_)⟩⟩
  · rw [nI_eq (by omega) (by decide)] at z
    rw [decide_eq_true (Or.inl z)] at p
    exact p
  · simp only [pk_mul, nI_add]
    rw [pk_sub (by omega), pk_mul, nI_leI (by omega) (by omega)]
    rw [nI_eq (by omega) (by decide)] at z
    refine ⟨fun z1 => ?_, fun z1 => ?_⟩
    · rw [decide_eq_false (by omega)] at p
      exact p
    · rw [decide_eq_true (by omega)] at p
      exact p
/-- mending, both ends in one -/
theorem sp_mendsU {P : IV → Prop} {e lo : Nat → Bool} {f blk : Nat} (hS : SN iv e lo) (h88 : ∀ k, k < 171 → iv 88 k = nI (dO k)) (hM : MF iv) (h25 : iv 74 25 = nI (f / 4)) (hl : f < 12) (h26 : iv 74 26 = nI (f % 4)) (hb : blk < 3) (h : ∀ iv', FRm iv iv' blk → iv' 95 blk = nI (ct (gg lo blk) 14) → iv' 96 blk = nI (mU e lo f blk) → (mU e lo f blk ≠ 4294967295 → ∀ p, p < 14 → iv' 94 (14 * blk + p) = nI (mR e lo f blk p).1) → P iv') : wc X 197 [.ref 74, .int (nI blk)] iv (Rv P) := by
  refine sp_mends hS h88 hM h25 (by omega) h26 (by omega) hb (fun r d hF iv' q1 q2 q3 q4 => ?_) (fun hn iv' q1 q2 q3 => ?_)
  · have hm := mr_of hF
    refine h iv' q1 q2 ?_ (fun _ p hp => ?_)
    · unfold mU; rw [hm.2]; exact q3
    · unfold mR; rw [hm.1 p hp]; exact q4 p hp
  · have hm := mu_no hn
    refine h iv' q1 q2 ?_ (fun hq => absurd hm hq)
    unfold mU; rw [hm]; exact q3
set_option maxHeartbeats 1000000 in
theorem sp_reading {P : IV → Prop} {e lo : Nat → Bool} (hS : SN iv e lo) (h88 : ∀ k, k < 171 → iv 88 k = nI (dO k)) (hM : MF iv) (h11 : iv 74 11 = nI 1) (h : ∀ iv', FRr iv iv' → RM iv' e lo → P iv') : wc X 198 [.ref 74] iv (Rv P) := by
  refine mk_X11_reading ?_
  rw [h11]
  refine ⟨fun z => absurd z (by decide), fun _ => sp_formatNow hS (mk_X11_reading_7 ?_)⟩
  have fr0 : FRr iv iv := ⟨fun _ _ _ => rfl, fun _ _ _ _ => rfl⟩
  cases hf : fmt e lo with
  | none =>
    refine ⟨fun _ iv1 h1 => ⟨fun _ => mk_X11_reading_27 (fun iv2 h2 => ?_), fun z => absurd rfl z⟩, fun z => absurd rfl z⟩
    have f1 := FRr_74 fr0 (by omega) h1
    have f2 := FRr_74 f1 (by omega) h2
    rw [f2.2 11 (by decide) (by decide) (by decide), h11]
    refine ⟨fun z => absurd z (by decide), fun _ => ⟨fun _ iv3 h3 => ?_, fun z => absurd rfl z⟩⟩
    have f3 := FRr_74 f2 (by omega) h3
    rw [up_row] at h1 h2 h3
    have e24 : iv3 74 24 = nI 1 := by rw [h3, row_at, if_pos rfl]
    have e25 : iv3 74 25 = nI 4294967295 := by rw [h3, row_at, if_neg (by decide), h2, row_at, if_neg (by decide), h1, row_at, if_pos rfl]
    have e26 : iv3 74 26 = nI 4294967295 := by rw [h3, row_at, if_neg (by decide), h2, row_at, if_pos rfl]
    rw [e24]
    refine ⟨fun z => absurd z (by decide), fun _ => h iv3 f3 ⟨?_, ?_, ?_, fun f hf' => ?_⟩⟩
    · rw [e24]; unfold why; rw [hf]
    · rw [hf]; exact e25
    · rw [hf]; exact e26
    · rw [hf] at hf'; cases hf'
  | some f =>
    have hfl := fmt_lt hf
    refine ⟨fun z => absurd z (m1_ne (by omega)), fun _ iv1 h1 => ⟨fun z => absurd z (m1_ne (by omega)), fun _ => mk_X11_reading_27 (fun iv2 h2 => ?_)⟩⟩
    rw [show oI (some f) = nI f by rfl, pk_div (by omega) (by decide) (by decide)] at h1
    rw [show oI (some f) = nI f by rfl, pk_rem (by omega) (by decide) (by decide)] at h2
    have f1 := FRr_74 fr0 (by omega) h1
    have f2 := FRr_74 f1 (by omega) h2
    rw [f2.2 11 (by decide) (by decide) (by decide), h11]
    refine ⟨fun z => absurd z (by decide), fun _ => ⟨fun z => absurd z (m1_ne (by omega)), fun _ iv3 h3 => ?_⟩⟩
    have f3 := FRr_74 f2 (by omega) h3
    rw [up_row] at h1 h2 h3
    have e24 : iv3 74 24 = nI 0 := by rw [h3, row_at, if_pos rfl]
    have e25 : iv3 74 25 = nI (f / 4) := by rw [h3, row_at, if_neg (by decide), h2, row_at, if_neg (by decide), h1, row_at, if_pos rfl]
    have e26 : iv3 74 26 = nI (f % 4) := by rw [h3, row_at, if_neg (by decide), h2, row_at, if_pos rfl]
    rw [e24]
    refine ⟨fun _ => ?_, fun z => absurd (by decide) z⟩
    refine lup (τ := IV) (W := fun k iv4 => wp X (0, 0) 198 47 [some (.ref 74), none, some (.int (nI k))] [] iv4 (Rv P)) (I := fun k iv4 => FRr iv iv4 ∧ iv4 74 24 = nI (wk (mU e lo f) k) ∧ iv4 74 25 = nI (f / 4) ∧ iv4 74 26 = nI (f % 4) ∧ ∀ blk, blk < k → iv4 95 blk = nI (ct (gg lo blk) 14) ∧ iv4 96 blk = nI (mU e lo f blk) ∧ (mU e lo f blk ≠ 4294967295 → ∀ p, p < 14 → iv4 94 (14 * blk + p) = nI (mR e lo f blk p).1)) 3 ?_ ?_ 3 0 iv3 rfl ⟨f3, e24, e25, e26, fun b hb => absurd hb (by omega)⟩
    · rintro iv4 ⟨f4, a24, a25, a26, ab⟩
      have wl := wk_le (mU e lo f) 3
      refine mk_X11_reading_47 ⟨fun _ => ?_, fun z => absurd (nI_le (Nat.le_refl 3) (by decide)) z⟩
      rw [a24]
      have done : ∀ iv5 : IV, FRr iv iv5 → iv5 74 24 = nI (whF e lo f) → iv5 74 25 = iv4 74 25 → iv5 74 26 = iv4 74 26 → (∀ a, a ≠ 74 → iv5 a = iv4 a) → P iv5 := by
        intro iv5 f5 b24 b25 b26 bo
        refine h iv5 f5 ⟨?_, ?_, ?_, fun f' hf' blk hblk => ?_⟩
        · rw [b24]; unfold why; rw [hf]
        · rw [b25, a25, hf]; rfl
        · rw [b26, a26, hf]; rfl
        · rw [hf] at hf'
          cases hf'
          rw [bo 94 (by decide), bo 95 (by decide), bo 96 (by decide)]
          exact ab blk hblk
      refine ⟨fun z => ?_, fun z => ?_⟩
      · have hw : wk (mU e lo f) 3 = 0 := Classical.byContradiction fun q => nI_ne0 (by omega) (by omega) z
        have hu := wk_0.mp hw 0 (by decide)
        refine sp_isWrong (x := (mR e lo f 0 0).1) (l := f / 4) (mR e lo f 0 0).2 (by omega) ((ab 0 (by decide)).2.2 hu 0 (by decide)) a25 ⟨fun z1 => ?_, fun z1 iv5 h5 => ?_⟩
        · rw [bI_0] at z1
          refine done iv4 f4 ?_ rfl rfl (fun _ _ => rfl)
          rw [a24]; unfold whF; rw [if_pos hw, z1, hw]; rfl
        · have z2 : wrg (f / 4) (mR e lo f 0 0).1 = true := by
            cases hq : wrg (f / 4) (mR e lo f 0 0).1 with
            | true => rfl
            | false => rw [hq] at z1; exact absurd rfl z1
          have f5 := FRr_74 f4 (by omega) h5
          rw [up_row] at h5
          refine done iv5 f5 ?_ (by rw [h5, row_at, if_neg (by decide)]) (by rw [h5, row_at, if_neg (by decide)]) (fun a ha => by rw [h5, row_ne ha])
          rw [h5, row_at, if_pos rfl]; unfold whF; rw [if_pos hw, z2]; rfl
      · have hw : ¬ wk (mU e lo f) 3 = 0 := fun q => z (by rw [q]; rfl)
        refine done iv4 f4 ?_ rfl rfl (fun _ _ => rfl)
        rw [a24]; unfold whF; rw [if_neg hw]
    · rintro k iv4 hk ⟨f4, a24, a25, a26, ab⟩ nx
      refine mk_X11_reading_47 ⟨fun z => absurd z (nI_ge hk (by decide)), fun _ => ?_⟩
      refine sp_mendsU (f := f) (SN_r hS f4) (fun q hq => by rw [f4.1 88 (by decide) (by decide)]; exact h88 q hq) (MF_r hM f4) a25 hfl a26 hk (fun iv5 g5 b95 b96 b94 => ⟨vp_in_nI hk (by decide), ?_⟩)
      rw [nI_clamp (by omega), b96, nI_add]
      have fin : ∀ iv6 : IV, iv6 = mm_up2 iv5 74 24 (nI (wk (mU e lo f) (k + 1))) → wp X (0, 0) 198 47 [some (.ref 74), none, some (.int (nI (k + 1)))] [] iv6 (Rv P) := by
        intro iv6 h6
        have f6 := FRr_74 (FRr_m f4 g5) (by omega) h6
        rw [up_row] at h6
        refine nx iv6 ⟨f6, by rw [h6, row_at, if_pos rfl], by rw [h6, row_at, if_neg (by decide), g5.1 74 (by decide)]; exact a25, by rw [h6, row_at, if_neg (by decide), g5.1 74 (by decide)]; exact a26, fun blk hblk => ?_⟩
        rw [h6, row_ne (by decide), row_ne (by decide), row_ne (by decide)]
        by_cases eb : blk = k
        · subst eb
          exact ⟨b95, b96, b94⟩
        · have := ab blk (by omega)
          rw [(g5.2.1 blk eb).1, (g5.2.1 blk eb).2]
          refine ⟨this.1, this.2.1, fun hu p hp => ?_⟩
          rw [g5.2.2 _ (by omega)]
          exact this.2.2 hu p hp
      by_cases hu : mU e lo f k = 4294967295
      · refine ⟨fun _ iv6 h6 => fin iv6 ?_, fun z => absurd (by rw [hu]) z⟩
        rw [h6, wk, if_pos hu]
      · have hle : mU e lo f k < 2 ^ 31 := by
          have := mu_le (c := 2 + 2 * (f / 4)) (v := gv e (f % 4) k) (g := gg lo k) hu
          show mu _ _ _ < _
          omega
        refine ⟨fun z => absurd z (m1_ne hle), fun _ iv6 h6 => fin iv6 ?_⟩
        rw [h6, wk, if_neg hu, g5.1 74 (by decide), a24]
end READM2
