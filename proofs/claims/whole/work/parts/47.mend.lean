/-! BERLEKAMP AND MASSEY, STEP BY STEP -/
theorem gs_drop {f : Nat → G} {m : Nat} (h : ∀ k, k < m → f k = 0) (n : Nat) : gs f (m + n) = gs (fun k => f (m + k)) n := by
  induction n with
  | zero => exact gs_zero h
  | succ n ih =>
    show ga (gs f (m + n)) (f (m + n)) = _
    rw [ih]
    rfl
def shf (C B : Nat → G) (a : G) (sh : Nat) (k : Nat) : G := ga (C k) (if k < sh then 0 else gm a (B (k - sh)))
theorem cv_shf (C B s : Nat → G) (a : G) (sh i : Nat) : cv (shf C B a sh) s i = ga (cv C s i) (if i < sh then 0 else gm a (cv B s (i - sh))) := by
  have e1 : cv (shf C B a sh) s i = ga (cv C s i) (gs (fun k => gm (if k < sh then 0 else gm a (B (k - sh))) (s (i - k))) (i + 1)) := by
    unfold cv
    rw [← gs_add]
    exact gs_congr (fun k _ => ga_gm _ _ _)
  rw [e1]
  congr 1
  by_cases h : i < sh
  · rw [if_pos h]
    exact gs_zero (fun k hk => by rw [if_pos (by omega), gm_0l])
  · rw [if_neg h]
    rw [show i + 1 = sh + (i - sh + 1) by omega, gs_drop (fun k hk => by rw [if_pos hk, gm_0l])]
    unfold cv
    rw [← gs_mul]
    refine gs_congr (fun k hk => ?_)
    rw [if_neg (by omega), show sh + k - sh = k by omega, show i - (sh + k) = i - sh - k by omega, gm_assoc]
def BM (s : Nat → G) (N : Nat) (C B : Nat → G) (L sh : Nat) (b : G) : Prop :=
  C 0 = 1 ∧ (∀ k, L < k → C k = 0) ∧ L ≤ N ∧ (∀ i, L ≤ i → i < N → cv C s i = 0) ∧ b ≠ 0 ∧
    ((L = 0 ∧ sh = N + 1 ∧ B 0 = 1 ∧ (∀ k, 0 < k → B k = 0) ∧ b = 1) ∨ ∃ m LB, m < N ∧ sh = N - m ∧ L + LB = m + 1 ∧ (∀ k, LB < k → B k = 0) ∧ (∀ i, LB ≤ i → i < m → cv B s i = 0) ∧ cv B s m = b)
def ML (s : Nat → G) (N w : Nat) : Prop := ∃ T : Nat → G, T 0 = 1 ∧ (∀ k, w < k → T k = 0) ∧ ∀ i, w ≤ i → i < N → cv T s i = 0
def dl (k : Nat) : G := if k = 0 then 1 else 0
theorem bm_start (s : Nat → G) : BM s 0 dl dl 0 1 1 := by
  refine ⟨rfl, fun k hk => if_neg (by omega), Nat.le_refl _, fun i _ h => absurd h (by omega), by decide, Or.inl ⟨rfl, rfl, rfl, fun k hk => if_neg (by omega), rfl⟩⟩
theorem bm_zero {s C B : Nat → G} {N L sh : Nat} {b : G} (h : BM s N C B L sh b) (hz : cv C s N = 0) : BM s (N + 1) C B L (sh + 1) b := by
  obtain ⟨h1, h2, h3, h4, h5, h6⟩ := h
  refine ⟨h1, h2, by omega, fun i a1 a2 => ?_, h5, ?_⟩
  · by_cases e : i = N
    · rw [e]; exact hz
    · exact h4 i a1 (by omega)
  · rcases h6 with ⟨a1, a2, a3⟩ | ⟨m, LB, a1, a2, a3⟩
    · exact Or.inl ⟨a1, by omega, a3⟩
    · exact Or.inr ⟨m, LB, by omega, by omega, a3⟩
theorem bm_min {s C B : Nat → G} {N L sh left w : Nat} {b : G} (h : BM s N C B L sh b) (hz : cv C s N ≠ 0) (hN : N < left) (hw : ML s left w) : N + 1 - L ≤ w := by
  obtain ⟨h1, h2, h3, h4, h5, h6⟩ := h
  obtain ⟨T, t1, t2, t3⟩ := hw
  have := massey h2 h4 hz t1 t2 (fun i a1 a2 => t3 i a1 (by omega))
  omega
/-- the register behind a gap -/
theorem bm_gap {s C B : Nat → G} {N L sh : Nat} {b : G} (h : BM s N C B L sh b) (hz : cv C s N ≠ 0) : shf C B (gm (cv C s N) (gi b)) sh 0 = 1 ∧ (∀ k, max L (N + 1 - L) < k → shf C B (gm (cv C s N) (gi b)) sh k = 0) ∧ ∀ i, max L (N + 1 - L) ≤ i → i < N + 1 → cv (shf C B (gm (cv C s N) (gi b)) sh) s i = 0 := by
  obtain ⟨h1, h2, h3, h4, h5, h6⟩ := h
  rcases h6 with ⟨a1, a2, a3, a4, a5⟩ | ⟨m, LB, a1, a2, a3, a4, a5, a6⟩
  · refine ⟨?_, fun k hk => ?_, fun i b1 b2 => absurd b2 (by omega)⟩
    · unfold shf
      rw [if_pos (by omega), ga_0, h1]
    · unfold shf
      rw [h2 k (by omega), if_neg (by omega), a4 (k - sh) (by omega), gm_0, ga_0]
  · refine ⟨?_, fun k hk => ?_, fun i b1 b2 => ?_⟩
    · unfold shf
      rw [if_pos (by omega), ga_0, h1]
    · unfold shf
      rw [h2 k (by omega), if_neg (by omega), a4 (k - sh) (by omega), gm_0, ga_0]
    · rw [cv_shf, if_neg (by omega)]
      by_cases e : i = N
      · subst e
        rw [show i - sh = m by omega, a6, gm_assoc, gm_comm (gi b), gm_gi b h5, gm_1, ga_self]
      · rw [h4 i (by omega) (by omega), a5 (i - sh) (by omega) (by omega), gm_0, ga_0]
theorem bm_jump {s C B : Nat → G} {N L sh : Nat} {b : G} (h : BM s N C B L sh b) (hz : cv C s N ≠ 0) (hj : 2 * L ≤ N) : BM s (N + 1) (shf C B (gm (cv C s N) (gi b)) sh) C (N + 1 - L) 1 (cv C s N) := by
  have hg := bm_gap h hz
  obtain ⟨h1, h2, h3, h4, h5, h6⟩ := h
  rw [show max L (N + 1 - L) = N + 1 - L by omega] at hg
  exact ⟨hg.1, hg.2.1, by omega, hg.2.2, hz, Or.inr ⟨N, L, by omega, by omega, by omega, h2, h4, rfl⟩⟩
theorem bm_stay {s C B : Nat → G} {N L sh : Nat} {b : G} (h : BM s N C B L sh b) (hz : cv C s N ≠ 0) (hj : ¬ 2 * L ≤ N) : BM s (N + 1) (shf C B (gm (cv C s N) (gi b)) sh) B L (sh + 1) b := by
  have hg := bm_gap h hz
  obtain ⟨h1, h2, h3, h4, h5, h6⟩ := h
  rw [show max L (N + 1 - L) = L by omega] at hg
  refine ⟨hg.1, hg.2.1, by omega, hg.2.2, h5, ?_⟩
  rcases h6 with ⟨a1, a2, a3⟩ | ⟨m, LB, a1, a2, a3⟩
  · exact absurd hj (by omega)
  · exact Or.inr ⟨m, LB, by omega, by omega, a3⟩
/-- where the shifted former register has its numbers -/
theorem bm_room {s C B : Nat → G} {N L sh : Nat} {b : G} (h : BM s N C B L sh b) (k : Nat) (hk : N + 1 < k + sh) : B k = 0 := by
  obtain ⟨h1, h2, h3, h4, h5, h6⟩ := h
  rcases h6 with ⟨a1, a2, a3, a4, a5⟩ | ⟨m, LB, a1, a2, a3, a4, a5, a6⟩
  · exact a4 k (by omega)
  · exact a4 k (by omega)
/-! STRIKES -/
def pl (l : List Nat) (x : G) : G := l.foldl (fun a q => gm a (ga x (xp q))) 1
theorem pl_snoc (l : List Nat) (q : Nat) (x : G) : pl (l ++ [q]) x = gm (pl l x) (ga x (xp q)) := by
  unfold pl
  rw [List.foldl_append]
  rfl
def pv (v : Nat → G) (l : List Nat) : Nat → G := pw (fun p => gm (v p) (pl l (xp p)))
theorem pv_nil (v : Nat → G) (j : Nat) : pv v [] j = pw v j := gs_congr (fun p _ => by show gm (gm (v p) 1) _ = _; rw [gm_1])
theorem pv_st (v : Nat → G) (l : List Nat) (q j : Nat) : st (xp q) (pv v l) j = pv v (l ++ [q]) j := by
  unfold pv
  rw [pw_st]
  exact gs_congr (fun p _ => by show gm (gm (gm (v p) _) _) _ = gm (gm (v p) _) _; rw [pl_snoc, gm_assoc (v p)])
theorem pl_eq0 {l : List Nat} {p : Nat} (hp : p < 14) (hl : ∀ q, q ∈ l → q < 14) : pl l (xp p) = 0 ↔ p ∈ l := by
  have key : ∀ (l : List Nat) (a : G), (∀ q, q ∈ l → q < 14) → (l.foldl (fun a q => gm a (ga (xp p) (xp q))) a = 0 ↔ (a = 0 ∨ p ∈ l)) := by
    intro l
    induction l with
    | nil => intro a _; simp
    | cons q l ih =>
      intro a h
      rw [List.foldl_cons, ih _ (fun r hr => h r (List.mem_cons_of_mem _ hr))]
      constructor
      · rintro (z | z)
        · rcases gm_eq0 _ _ z with z | z
          · exact Or.inl z
          · refine Or.inr ?_
            by_cases e : p = q
            · rw [e]; exact List.mem_cons_self
            · exact absurd (ga_eq0 _ _ z) (xpn hp (h q List.mem_cons_self) e)
        · exact Or.inr (List.mem_cons_of_mem _ z)
      · rintro (z | z)
        · exact Or.inl (by rw [z, gm_0l])
        · rcases List.mem_cons.mp z with z | z
          · exact Or.inl (by rw [z, ga_self, gm_0])
          · exact Or.inr z
  have := key l 1 hl
  unfold pl
  rw [this]
  constructor
  · rintro (z | z)
    · exact absurd z (by decide)
    · exact z
  · exact Or.inr
/-- a strike is undone -/
theorem unst {N q : Nat} {s f : Nat → G} (hq : q < 14) (hfq : f q = 0) (h : ∀ i, i + 1 < N → st (xp q) s i = pw f i) : ∃ e : Nat → G, (∀ p, p < 14 → p ≠ q → f p = 0 → e p = 0) ∧ ∀ i, i < N → s i = pw e i := by
  let g : Nat → G := fun p => gm (f p) (gi (ga (xp p) (xp q)))
  let u : G := ga (s 0) (gs (fun p => if p = q then 0 else g p) 14)
  have hst : ∀ p, p < 14 → gm (if p = q then u else g p) (ga (xp p) (xp q)) = f p := by
    intro p hp
    by_cases e : p = q
    · subst e
      rw [ga_self, gm_0, hfq]
    · rw [if_neg e]
      show gm (gm (f p) (gi (ga (xp p) (xp q)))) (ga (xp p) (xp q)) = f p
      rw [gm_assoc, gm_comm (gi _), gm_gi _ (fun z => xpn hp hq e (ga_eq0 _ _ z)), gm_1]
  refine ⟨fun p => if p = q then u else g p, fun p hp hpq hfp => ?_, fun i hiN => ?_⟩
  · show (if p = q then u else g p) = 0
    rw [if_neg hpq]
    show gm (f p) _ = 0
    rw [hfp, gm_0l]
  · induction i with
    | zero =>
      have e1 : pw (fun p => if p = q then u else g p) 0 = ga (gs (fun p => if p = q then u else 0) 14) (gs (fun p => if p = q then 0 else g p) 14) := by
        rw [← gs_add]
        refine gs_congr (fun p _ => ?_)
        show gm (if p = q then u else g p) 1 = _
        rw [gm_1]
        by_cases e : p = q
        · rw [if_pos e, if_pos e, if_pos e, ga_0]
        · rw [if_neg e, if_neg e, if_neg e, ga_0l]
      rw [e1, gs_one (k := q) hq (fun i _ hne => if_neg hne), if_pos rfl]
      show s 0 = ga (ga (s 0) _) _
      rw [ga_assoc, ga_self, ga_0]
    | succ i ihi =>
      have h1 := ihi (by omega)
      have h2 := h i (by omega)
      have h3 := pw_strike (fun p => if p = q then u else g p) (xp q) i
      have h4 : pw (fun p => gm (if p = q then u else g p) (ga (xp p) (xp q))) i = pw f i := gs_congr (fun p hp => by show gm (gm (if p = q then u else g p) (ga (xp p) (xp q))) _ = _; rw [hst p hp])
      rw [h4, ← h2, ← h1] at h3
      unfold st at h3
      have h5 : ga (ga (s (i + 1)) (gm (xp q) (s i))) (gm (xp q) (s i)) = ga (ga (pw (fun p => if p = q then u else g p) (i + 1)) (gm (xp q) (s i))) (gm (xp q) (s i)) := by rw [h3]
      rw [ga_assoc, ga_self, ga_0, ga_assoc, ga_self, ga_0] at h5
      exact h5
/-! the gone places, in order, up to n -/
def gl (g : Nat → Bool) (n : Nat) : List Nat := (List.range n).filter g
theorem gl_succ (g : Nat → Bool) (n : Nat) : gl g (n + 1) = gl g n ++ (if g n then [n] else []) := by
  unfold gl
  rw [List.range_succ, List.filter_append]
  congr 1
  cases h : g n <;> simp [List.filter, h]
theorem gl_len (g : Nat → Bool) (n : Nat) : (gl g n).length = ct g n := by
  induction n with
  | zero => rfl
  | succ n ih =>
    rw [gl_succ, List.length_append, ih, ct]
    cases g n <;> rfl
theorem gl_mem (g : Nat → Bool) (n p : Nat) : p ∈ gl g n ↔ p < n ∧ g p = true := by
  unfold gl
  rw [List.mem_filter, List.mem_range]
/-- out of the row behind the strikes of all gone places: the row itself -/
theorem ungone {c : Nat} {v : Nat → G} {g R : Nat → Bool} (hg : ∀ p, g p = true → R p = false) : ∀ n, n ≤ 14 → ct g 14 ≤ c → (∃ f : Nat → G, (∀ p, p < 14 → R p = false → g p = true ∧ n ≤ p ∨ f p = 0) ∧ (∀ i, i < c - ct g n → pv v (gl g n) i = pw f i)) → ∃ e : Nat → G, (∀ p, p < 14 → R p = false → g p = false → e p = 0) ∧ ∀ j, j < c → pw v j = pw e j := by
  intro n
  induction n with
  | zero =>
    intro _ _ h
    obtain ⟨f, f1, f2⟩ := h
    refine ⟨f, fun p hp hR hgp => ?_, fun j hj => ?_⟩
    · rcases f1 p hp hR with z | z
      · rw [z.1] at hgp
        cases hgp
      · exact z
    · rw [← f2 j (by simpa [ct] using hj)]
      exact (pv_nil v j).symm
  | succ n ih =>
    intro hn hc h
    obtain ⟨f, f1, f2⟩ := h
    apply ih (by omega) hc
    cases hgn : g n with
    | false =>
      refine ⟨f, fun p hp hR => ?_, fun i hi => ?_⟩
      · rcases f1 p hp hR with z | z
        · exact Or.inl ⟨z.1, by omega⟩
        · exact Or.inr z
      · have := f2 i (by rw [ct, hgn]; simpa using hi)
        rw [gl_succ, hgn] at this
        simpa using this
    | true =>
      have hct : ct g (n + 1) = ct g n + 1 := by rw [ct, hgn]; rfl
      have hfn : f n = 0 := by
        rcases f1 n (by omega) (hg n hgn) with z | z
        · exact absurd z.2 (by omega)
        · exact z
      obtain ⟨e, e1, e2⟩ := unst (N := c - ct g n) (q := n) (s := pv v (gl g n)) (f := f) (by omega) hfn (fun i hi => by
        rw [pv_st, ← f2 i (by omega), gl_succ, hgn]
        rfl)
      refine ⟨e, fun p hp hR => ?_, e2⟩
      by_cases hpn : p = n
      · subst hpn
        exact Or.inl ⟨hgn, Nat.le_refl _⟩
      · rcases f1 p hp hR with z | z
        · exact Or.inl ⟨z.1, by omega⟩
        · exact Or.inr (e1 p hp hpn z)
/-! strikes by a row of places -/
def sk (l : List Nat) (s : Nat → G) : Nat → G := l.foldl (fun s q => st (xp q) s) s
theorem sk_cons (q : Nat) (l : List Nat) (s : Nat → G) : sk (q :: l) s = sk l (st (xp q) s) := rfl
theorem sk_pv (v : Nat → G) : ∀ (l l0 : List Nat), sk l (pv v l0) = pv v (l0 ++ l) := by
  intro l
  induction l with
  | nil => intro l0; rw [List.append_nil]; rfl
  | cons q l ih =>
    intro l0
    rw [sk_cons, show st (xp q) (pv v l0) = pv v (l0 ++ [q]) from funext (pv_st v l0 q), ih, List.append_assoc, List.singleton_append]
theorem sk_pw (v : Nat → G) (l : List Nat) : sk l (pw v) = pv v l := by
  rw [← show pv v [] = pw v from funext (pv_nil v), sk_pv]
  rfl
theorem sk_congr : ∀ (l : List Nat) (s s' : Nat → G) (c : Nat), (∀ j, j < c → s j = s' j) → ∀ i, i + l.length < c → sk l s i = sk l s' i := by
  intro l
  induction l with
  | nil => intro s s' c h i hi; exact h i (by simpa using hi)
  | cons q l ih =>
    intro s s' c h i hi
    rw [List.length_cons] at hi
    refine ih (st (xp q) s) (st (xp q) s') (c - 1) (fun j hj => ?_) i (by omega)
    unfold st
    rw [h (j + 1) (by omega), h j (by omega)]
theorem pv_congr {v e : Nat → G} {c : Nat} (h : ∀ j, j < c → pw v j = pw e j) (l : List Nat) (i : Nat) (hi : i + l.length < c) : pv v l i = pv e l i := by
  rw [← sk_pw, ← sk_pw]
  exact sk_congr l _ _ c h i hi
theorem cv_congr {C s s' : Nat → G} {i : Nat} (h : ∀ j, j ≤ i → s j = s' j) : cv C s i = cv C s' i := gs_congr (fun k _ => by rw [h (i - k) (by omega)])
/-! MENDING BY REGISTER AND ROOTS IS MENDING -/
theorem mend_yes {c d L : Nat} {v r C : Nat → G} {g : Nat → Bool} (hF : Fix c v g r d) (h0 : C 0 = 1) (hdeg : ∀ k, L < k → C k = 0) (hz : ∀ i, L ≤ i → i < c - ct g 14 → cv C (pv v (gl g 14)) i = 0) (hmin : ∀ w, ML (pv v (gl g 14)) (c - ct g 14) w → L ≤ w) : L = d ∧ 2 * L ≤ c - ct g 14 ∧ ∀ p, p < 14 → g p = false → (ev C (gi (xp p)) (L + 1) = 0 ↔ r p ≠ v p) := by
  obtain ⟨a1, a2, a3⟩ := hF
  let e : Nat → G := fun p => ga (v p) (r p)
  let f : Nat → G := fun p => gm (e p) (pl (gl g 14) (xp p))
  have he : ∀ j, j < c → pw v j = pw e j := fun j hj => by
    show _ = pw (fun p => ga (v p) (r p)) j
    rw [pw_add, a1 j hj, ga_0]
  have hs : ∀ i, i < c - ct g 14 → pv v (gl g 14) i = pw f i := fun i hi => by
    rw [pv_congr he (gl g 14) i (by rw [gl_len]; omega)]
    rfl
  have hnz : ∀ p, p < 14 → nz f p = (!(g p) && decide (r p ≠ v p)) := by
    intro p hp
    have hpl := pl_eq0 (l := gl g 14) hp (fun q hq => ((gl_mem g 14 q).mp hq).1)
    rw [gl_mem] at hpl
    unfold nz
    show decide (gm (ga (v p) (r p)) (pl (gl g 14) (xp p)) ≠ 0) = _
    cases hg : g p with
    | true =>
      rw [hpl.mpr ⟨hp, hg⟩, gm_0]
      simp
    | false =>
      by_cases hrv : r p = v p
      · rw [hrv, ga_self, gm_0l]
        simp
      · have h1 : gm (ga (v p) (r p)) (pl (gl g 14) (xp p)) ≠ 0 := fun z => by
          rcases gm_eq0 _ _ z with z | z
          · exact hrv (ga_eq0 _ _ z).symm
          · have := (hpl.mp z).2
            rw [hg] at this
            cases this
        simp [h1, hrv]
  have hw : ct (nz f) 14 = d := by
    rw [← a2]
    exact ct_congr hnz
  have hML : ML (pv v (gl g 14)) (c - ct g 14) d := by
    obtain ⟨T, t1, t2, t3⟩ := gen d f (Nat.le_of_eq hw)
    exact ⟨T, t1, t2, fun i b1 b2 => by rw [cv_congr (s' := pw f) (fun j hj => hs j (by omega))]; exact t3 i b1⟩
  have hLd := hmin d hML
  obtain ⟨r1, r2⟩ := roots_of hw (by omega : 2 * d ≤ c - ct g 14) hLd h0 hdeg hs hz
  refine ⟨r1, by omega, fun p hp hg => ?_⟩
  rw [← r2 p hp, hnz p hp, hg]
  simp
theorem mend_sound {c L : Nat} {v C : Nat → G} {g R : Nat → Bool} (h0 : C 0 = 1) (hdeg : ∀ k, L < k → C k = 0) (hz : ∀ i, L ≤ i → i < c - ct g 14 → cv C (pv v (gl g 14)) i = 0) (hmin : ∀ w, ML (pv v (gl g 14)) (c - ct g 14) w → L ≤ w) (hgc : ct g 14 ≤ c) (h2 : 2 * L ≤ c - ct g 14) (hR : ∀ p, p < 14 → R p = true → g p = false ∧ ev C (gi (xp p)) (L + 1) = 0) (hgR : ∀ p, g p = true → R p = false) (hct : ct R 14 = L) : ∃ e : Nat → G, (∀ p, p < 14 → R p = false → g p = false → e p = 0) ∧ (∀ j, j < c → pw v j = pw e j) ∧ Fix c v g (fun p => ga (v p) (e p)) L := by
  obtain ⟨f, f1, f2⟩ := roots_row L (c - ct g 14) R C (pv v (gl g 14)) hct h0 hdeg (fun p hp h => (hR p hp h).2) hz
  obtain ⟨e, e1, e2⟩ := ungone (c := c) (v := v) hgR 14 (Nat.le_refl _) hgc ⟨f, fun p hp h => Or.inr (f1 p hp h), f2⟩
  have hF : Fix c v g (fun p => ga (v p) (e p)) (ct (fun p => !(g p) && decide (ga (v p) (e p) ≠ v p)) 14) := by
    refine ⟨fun j hj => by rw [pw_add, e2 j hj, ga_self], rfl, ?_⟩
    have hle : ct (fun p => !(g p) && decide (ga (v p) (e p) ≠ v p)) 14 ≤ ct R 14 := by
      refine ct_le (fun p hp h => ?_)
      rw [Bool.and_eq_true] at h
      cases hRp : R p with
      | true => rfl
      | false =>
        exfalso
        refine of_decide_eq_true h.2 ?_
        rw [e1 p hp hRp (by simpa using h.1), ga_0]
    omega
  have hd := (mend_yes hF h0 hdeg hz hmin).1
  rw [← hd] at hF
  exact ⟨e, e1, e2, hF⟩
/-- all wanted places struck but one -/
theorem strike_one {c : Nat} {v e : Nat → G} (he : ∀ j, j < c → pw v j = pw e j) {w : Nat} (hw : w < 14) (l : List Nat) (hl : ∀ q, q ∈ l → q < 14) (hwl : w ∉ l) (hlen : l.length < c) (hsup : ∀ p, p < 14 → p ≠ w → p ∉ l → e p = 0) : pl l (xp w) ≠ 0 ∧ gm (sk l (pw v) 0) (gi (pl l (xp w))) = e w := by
  have h1 : pl l (xp w) ≠ 0 := fun z => hwl ((pl_eq0 hw hl).mp z)
  refine ⟨h1, ?_⟩
  rw [sk_pw, pv_congr he l 0 (by omega)]
  have h2 : pv e l 0 = gm (e w) (pl l (xp w)) := by
    unfold pv pw
    rw [gs_one (k := w) hw (fun p hp hne => ?_)]
    · show gm (gm (e w) _) 1 = _
      rw [gm_1]
    · by_cases hpl : p ∈ l
      · show gm (gm (e p) (pl l (xp p))) _ = 0
        rw [(pl_eq0 hp hl).mpr hpl, gm_0, gm_0l]
      · show gm (gm (e p) (pl l (xp p))) _ = 0
        rw [hsup p hp hne hpl, gm_0l, gm_0l]
  rw [h2, gm_assoc, gm_gi _ h1, gm_1]
