/-! COPY, READ -/
theorem le0_of {x : Int32} (h : ¬ x < 0) : ∃ j : Nat, j < 2 ^ 31 ∧ x = nI j := nI_of h
theorem lcmp_gt {a b c : Nat} (ha : a < 2 ^ 31) (hb : b < 2 ^ 31) (hc : c ≤ 60) : (0 < lg_cmp ((nI a).toInt64 + (nI b).toInt64) ((nI c).toInt64)) ↔ c < a + b := by
  rw [lg_cmp_gt, nI_l ha, nI_l hb, nI_l (by omega), lN_add, pk_lLT (by omega) (by omega)]
theorem lcmp_le {a b c : Nat} (ha : a < 2 ^ 31) (hb : b < 2 ^ 31) (hc : c ≤ 60) : (lg_cmp ((nI a).toInt64 + (nI b).toInt64) ((nI c).toInt64) ≤ 0) ↔ a + b ≤ c := by
  rw [lg_cmp_le, nI_l ha, nI_l hb, nI_l (by omega), lN_add, pk_lLE (by omega) (by omega)]
theorem part_lt {n a c : Nat} (ha : a < 2 ^ 31) (hc : c < 2 ^ 31) (hn : n ≤ 60) : (nI n - nI a) < nI c ↔ n < a + c := by
  have h1 : (nI n - nI a).toInt = (n : Int) - a := by
    rw [Int32.toInt_sub, nI_toInt (by omega), nI_toInt ha]
    show Int.bmod ((n : Int) - a) 4294967296 = _
    exact Int.bmod_eq_of_le (by omega) (by omega)
  rw [Int32.lt_iff_toInt_lt, h1, nI_toInt hc]
  omega
section COPY
variable {X : Nat × (Nat → Int32)} {iv : IV}
theorem sp_hasPart {P : Int32 → IV → Prop} {s n : Nat} {x y : Int32} (hs : s < 4) (hn : n ≤ 60) (h2 : iv (66 + 2 * s) 2 = nI n) (p0 : (x < 0 ∨ y < 0 ∨ ∃ a c : Nat, a < 2 ^ 31 ∧ c < 2 ^ 31 ∧ x = nI a ∧ y = nI c ∧ n < a + c) → P (nI 0) iv) (p1 : ∀ a c : Nat, x = nI a → y = nI c → a + c ≤ n → P (nI 1) iv) : wc X 49 [.ref (66 + 2 * s), .int x, .int y] iv (Ri P) := by
  obtain ⟨k1, k2, k3, k4⟩ := k65 hs
  refine mk_X6_hasPart k2 ?_
  rw [h2]
  refine ⟨fun z => p0 (Or.inl z), fun z => ⟨fun z1 => p0 (Or.inr (Or.inl z1)), fun z1 => ?_⟩⟩
  obtain ⟨a, ha, rfl⟩ := le0_of z
  obtain ⟨c, hc, rfl⟩ := le0_of z1
  rw [part_lt ha hc hn]
  exact ⟨fun q => p0 (Or.inr (Or.inr ⟨a, c, ha, hc, rfl, rfl, q⟩)), fun q => p1 a c rfl rfl (by omega)⟩
set_option maxHeartbeats 1000000 in
theorem op_copy {x y z v w : Int32} (h : INV iv) : LSt X 91 134 [.int x, .int y, .int z, .int v, .int w] iv := by
  intro Q hQ
  have hI := h
  obtain ⟨T, D, S, F, hC, hM⟩ := h
  rcases rng x 4 (by decide) with hx | ⟨s, hs, rfl⟩
  · exact mk_X10_copy (wi_f hx ⟨fun _ => mk_X11_copy (isSheet_f hx ⟨fun _ => ⟨rfl, hQ _ hI⟩, fun z => absurd rfl z⟩), fun z => absurd rfl z⟩)
  · rcases rng z 4 (by decide) with hz | ⟨t, ht, rfl⟩
    · exact mk_X10_copy (wi_t hs (by decide) ⟨fun z => absurd z (by decide), fun _ => wi_f hz ⟨fun _ => mk_X11_copy (isSheet_t hs ⟨fun z => absurd z (by decide), fun _ => isSheet_f hz ⟨fun _ => ⟨rfl, hQ _ hI⟩, fun z => absurd rfl z⟩⟩), fun z => absurd rfl z⟩⟩)
    · obtain ⟨k1, k2, k3, k4⟩ := k65 hs
      obtain ⟨l1, l2, l3, l4⟩ := k65 ht
      have cs := hC.2.2.2.2.1 s hs
      have ct' := hC.2.2.2.2.1 t ht
      have ms := hM.2.2.1 s hs
      have mt := hM.2.2.1 t ht
      refine mk_X10_copy (wi_t hs (by decide) ⟨fun z => absurd z (by decide), fun _ => wi_t ht (by decide) ⟨fun z => absurd z (by decide), fun _ => ⟨vp_in_nI hs (by decide), fun a5 h5 => ⟨vp_in_nI ht (by decide), fun a6 h6 => ?_⟩⟩⟩⟩)
      rw [nI_clamp (by omega), k1] at h5
      rw [nI_clamp (by omega), l1] at h6
      subst h5 h6
      refine ⟨k2, ?_⟩
      -- the model, over cells as they were
      have fnd : ∀ c : Nat, (∀ iv1 : IV, iv1 = mm_up2 iv 1 9 (nI c) → ∀ P : Int32 → IV → Prop, (∀ iv2 : IV, iv2 = mm_up2 iv1 74 4 (nI c) → P (nI 4294967286 - nI c) iv2) → wc X 134 [.ref 74, .int (nI s), .int y, .int (nI t), .int v, .int w] iv1 (Ri P)) → wc X 112 [.ref 1, .int (nI c)] iv (Ri (fun r11 iv10 => wc X 134 [.ref 74, .int (nI s), .int y, .int (nI t), .int v, .int w] iv10 (Ri (fun w iv2 => r11 = w ∧ Q iv2)))) := by
        intro c hc
        exact mk_X10_found (fun iv1 h1 => hc iv1 h1 _ (fun iv2 h2 => ⟨rfl, hQ _ (find_fin hC hM h1 h2)⟩))
      by_cases hfs : S.1 s < 3
      · obtain ⟨c1, c2, c3, c4, c5⟩ := cs.1 hfs
        obtain ⟨m1, m2, m3, m4⟩ := ms.1 hfs
        rw [c1]
        refine ⟨fun z => absurd z (by decide), fun _ => ⟨l2, ?_⟩⟩
        by_cases hft : S.1 t < 3
        · obtain ⟨d1, d2, d3, d4, d5⟩ := ct'.1 hft
          obtain ⟨n1, n2, n3, n4⟩ := mt.1 hft
          rw [d1]
          refine ⟨fun z => absurd z (by decide), fun _ => ⟨k2, l2, ?_⟩⟩
          rw [c2, d2, nI_eq (by omega) (by omega)]
          -- how the model goes on, cells as they were
          have mgo : ∀ iv1 : IV, (∀ a, 74 ≤ a → iv1 a = iv a) → ∀ P : Int32 → IV → Prop, (S.1 s ≠ S.1 t → ∀ iv2 : IV, iv2 = mm_up2 iv1 74 4 (nI 4) → P (nI 4294967286 - nI 4) iv2) → (S.1 s = S.1 t → (y < 0 ∨ v < 0 ∨ w < 0 ∨ (∃ a c : Nat, a < 2 ^ 31 ∧ c < 2 ^ 31 ∧ y = nI a ∧ w = nI c ∧ S.2.1 s < a + c) ∨ ∃ b c : Nat, b < 2 ^ 31 ∧ c < 2 ^ 31 ∧ v = nI b ∧ w = nI c ∧ S.2.1 t < b + c) → ∀ iv2 : IV, iv2 = mm_up2 iv1 74 4 (nI 2) → P (nI 4294967286 - nI 2) iv2) → (S.1 s = S.1 t → ∀ a b c : Nat, y = nI a → v = nI b → w = nI c → a + c ≤ S.2.1 s → b + c ≤ S.2.1 t → wp X (0, 0) 134 71 [some (.ref 74), some (.int (nI s)), some (.int y), some (.int (nI t)), some (.int v), some (.int w), some (.int (nI 0))] [] iv1 (Ri P)) → wc X 134 [.ref 74, .int (nI s), .int y, .int (nI t), .int v, .int w] iv1 (Ri P) := by
            intro iv1 a1 P p4 p2 p1
            refine mk_X11_copy (isSheet_t hs ⟨fun z => absurd z (by decide), fun _ => isSheet_t ht ⟨fun z => absurd z (by decide), fun _ => ⟨vp_in_nI hs (by decide), ?_⟩⟩⟩)
            rw [nI_clamp (n := s) (by omega), nI_clamp (n := t) (by omega), a1 75 (by decide), a1 76 (by decide), m1, n1, m2, n2, nI_eq (by omega) (by omega)]
            refine ⟨fun z => absurd z (nI_pos (by omega)), fun _ => ⟨vp_in_nI ht (by decide), fun _ => ⟨vp_in_nI hs (by decide), vp_in_nI ht (by decide), fun e => ⟨fun z1 => mk_X11_finds (p2 e (Or.inl z1)), fun z1 => ⟨fun z2 => mk_X11_finds (p2 e (Or.inr (Or.inl z2))), fun z2 => ⟨fun z3 => mk_X11_finds (p2 e (Or.inr (Or.inr (Or.inl z3)))), fun z3 => ⟨vp_in_nI hs (by decide), ?_⟩⟩⟩⟩, fun e => mk_X11_finds (p4 e)⟩, fun z => absurd (nI_pos' (by omega)) z⟩⟩
            obtain ⟨a, ha, rfl⟩ := le0_of z1
            obtain ⟨b, hb, rfl⟩ := le0_of z2
            obtain ⟨c, hc, rfl⟩ := le0_of z3
            rw [lcmp_gt ha hc m3, lcmp_le hb hc n3]
            refine ⟨fun q => mk_X11_finds (p2 e (Or.inr (Or.inr (Or.inr (Or.inl ⟨a, c, ha, hc, rfl, rfl, q⟩))))), fun q => ⟨vp_in_nI ht (by decide), fun q2 => p1 e a b c rfl rfl rfl (by omega) q2, fun q2 => mk_X11_finds (p2 e (Or.inr (Or.inr (Or.inr (Or.inr ⟨b, c, hb, hc, rfl, rfl, by omega⟩)))))⟩⟩
          have bad : (y < 0 ∨ v < 0 ∨ w < 0 ∨ (∃ a c : Nat, a < 2 ^ 31 ∧ c < 2 ^ 31 ∧ y = nI a ∧ w = nI c ∧ S.2.1 s < a + c) ∨ ∃ b c : Nat, b < 2 ^ 31 ∧ c < 2 ^ 31 ∧ v = nI b ∧ w = nI c ∧ S.2.1 t < b + c) → S.1 s = S.1 t → ∀ iv1 : IV, iv1 = mm_up2 iv 1 9 (nI 2) → ∀ P : Int32 → IV → Prop, (∀ iv2 : IV, iv2 = mm_up2 iv1 74 4 (nI 2) → P (nI 4294967286 - nI 2) iv2) → wc X 134 [.ref 74, .int (nI s), .int y, .int (nI t), .int v, .int w] iv1 (Ri P) := by
            intro hb e iv1 h1 P hp
            refine mgo iv1 (fun a ha => (up_e h1).1 a (by omega)) P (fun q => absurd e q) (fun _ _ => hp) (fun _ a b c e1 e2 e3 q1 q2 => ?_)
            exfalso
            rcases hb with q | q | q | ⟨a', c', ha, hc, r1, r2, r3⟩ | ⟨b', c', hb', hc, r1, r2, r3⟩
            · rw [e1] at q; exact nI_pos (by omega) q
            · rw [e2] at q; exact nI_pos (by omega) q
            · rw [e3] at q; exact nI_pos (by omega) q
            · rw [e1, nI_eq (by omega) ha] at r1
              rw [e3, nI_eq (by omega) hc] at r2
              omega
            · rw [e2, nI_eq (by omega) hb'] at r1
              rw [e3, nI_eq (by omega) hc] at r2
              omega
          refine ⟨fun e => ⟨k2, sp_hasPart hs c4 c3 (fun q => ⟨fun _ => fnd 2 (bad ?_ e), fun z => absurd rfl z⟩) (fun a c ea ec hac => ⟨fun z => absurd z (by decide), fun _ => ⟨l2, sp_hasPart ht d4 d3 (fun q => ⟨fun _ => fnd 2 (bad ?_ e), fun z => absurd rfl z⟩) (fun b c' eb ec' hbc => ⟨fun z => absurd z (by decide), fun _ => ⟨k2, l2, by rw [l3]; exact l4, by rw [k3]; exact k4, ?_⟩⟩)⟩⟩)⟩, fun e => fnd 4 (fun iv1 h1 P hp => mgo iv1 (fun a ha => (up_e h1).1 a (by omega)) P (fun _ => hp) (fun q => absurd q e) (fun q => absurd q e))⟩
          · rcases q with q | q | q
            · exact Or.inl q
            · exact Or.inr (Or.inr (Or.inl q))
            · exact Or.inr (Or.inr (Or.inr (Or.inl q)))
          · rcases q with q | q | q
            · exact Or.inr (Or.inl q)
            · exact Or.inr (Or.inr (Or.inl q))
            · exact Or.inr (Or.inr (Or.inr (Or.inr q)))
          · subst ea ec eb
            have ecc : c = c' := by
              have hc31 : c < 2 ^ 31 := by omega
              exact (nI_eq hc31 (by omega)).mp ec'
            subst ecc
            rw [nI_clamp (n := a) (by omega), nI_clamp (n := b) (by omega), nI_clamp (n := c) (by omega), k3, l3]
            refine ⟨⟨nI_pos (by omega), nI_pos (by omega), nI_pos (by omega), by omega, by omega⟩, fun iv1 h1 => ?_⟩
            have A1 : ∀ q, q ≠ 67 + 2 * t → iv1 q = iv q := fun q hq => by rw [h1, row_ne hq]
            have B1 : ∀ k, k < S.2.1 t → iv1 (67 + 2 * t) k = if b ≤ k ∧ k < b + c then S.2.2 s (a + (k - b)) else S.2.2 t k := fun k hk => by
              rw [h1, row_at]
              by_cases q : b ≤ k ∧ k < b + c
              · rw [pk_cpy_in q.1 q.2, if_pos q]; exact c5 _ (by omega)
              · rw [pk_cpy_out (by omega), if_neg q]; exact d5 k hk
            have hC1 : CI iv1 T D (shI S t (fun k => if b ≤ k ∧ k < b + c then S.2.2 s (a + (k - b)) else S.2.2 t k)) F := CI_sh hC (CSh_I hC.2.2.2.2.1 A1 (fun _ => B1)) (fun q hq => A1 q (by omega))
            have hM1 : MI iv1 T D S F := MI_hi hM (fun q hq => A1 q (by omega))
            refine mgo iv1 (fun q hq => A1 q (by omega)) _ (fun q => absurd e q) (fun _ q => ?_) (fun _ _ _ _ _ _ _ _ _ => ?_)
            · exfalso
              rcases q with q | q | q | ⟨a', c', ha, hc, r1, r2, r3⟩ | ⟨b', c', hb', hc, r1, r2, r3⟩
              · exact nI_pos (by omega) q
              · exact nI_pos (by omega) q
              · exact nI_pos (by omega) q
              · rw [nI_eq (by omega) ha] at r1
                rw [nI_eq (by omega) hc] at r2
                omega
              · rw [nI_eq (by omega) hb'] at r1
                rw [nI_eq (by omega) hc] at r2
                omega
            · obtain ⟨o1, o2, o3, o4⟩ := (hM1.2.2.1 s hs).1 hfs
              refine lup (τ := IV) (W := fun k iv2 => wp X (0, 0) 134 71 [some (.ref 74), some (.int (nI s)), some (.int (nI a)), some (.int (nI t)), some (.int (nI b)), some (.int (nI c)), some (.int (nI k))] [] iv2 (Ri (fun w iv2 => nI 1 = w ∧ Q iv2))) (I := fun k iv2 => (∀ q, q ≠ 78 → iv2 q = iv1 q) ∧ ∀ j, j < k → iv2 78 j = S.2.2 s (a + j)) c ?_ ?_ c 0 iv1 (by omega) ⟨fun _ _ => rfl, fun j hj => absurd hj (by omega)⟩
              · rintro iv2 ⟨a2, b2⟩
                refine mk_X11_copy_71 ⟨fun _ => ?_, fun z => absurd (nI_le (Nat.le_refl _) (by omega)) z⟩
                refine lup (τ := IV) (W := fun k iv3 => wp X (0, 0) 134 92 [some (.ref 74), none, none, some (.int (nI t)), some (.int (nI b)), some (.int (nI c)), some (.int (nI k))] [] iv3 (Ri (fun w iv2 => nI 1 = w ∧ Q iv2))) (I := fun k iv3 => (∀ q, q ≠ 77 → iv3 q = iv2 q) ∧ (∀ q, ¬ (60 * t + b ≤ q ∧ q < 60 * t + b + k) → iv3 77 q = iv2 77 q) ∧ ∀ j, j < k → iv3 77 (60 * t + b + j) = S.2.2 s (a + j)) c ?_ ?_ c 0 iv2 (by omega) ⟨fun _ _ => rfl, fun _ _ => rfl, fun j hj => absurd hj (by omega)⟩
                · rintro iv3 ⟨a3, c3', b3⟩
                  refine mk_X11_copy_92 ⟨fun _ => ⟨rfl, hQ _ ⟨T, D, _, F, CI_of hC1 (fun q hq => by rw [a3 q (by omega), a2 q (by omega)]), MI_sh hM1 (MSh_I hM1.2.2.1 ht (by rw [a3 75 (by decide), a2 75 (by decide)]) (by rw [a3 76 (by decide), a2 76 (by decide)]) (fun q hq => by rw [c3' q (by omega), a2 77 (by decide)]) (fun _ k hk => ?_)) (fun q q1 q2 => by rw [a3 q (by omega), a2 q (by omega)])⟩⟩, fun z => absurd (nI_le (Nat.le_refl _) (by omega)) z⟩
                  by_cases q : b ≤ k ∧ k < b + c
                  · rw [if_pos q, show 60 * t + k = 60 * t + b + (k - b) by omega]
                    exact b3 (k - b) (by omega)
                  · rw [if_neg q, c3' _ (by omega), a2 77 (by decide)]
                    exact ((hM1.2.2.1 t ht).1 hft).2.2.2 k hk
                · rintro k iv3 hk ⟨a3, c3', b3⟩ nx
                  refine mk_X11_copy_92 ⟨fun z => absurd z (nI_ge hk (by omega)), fun _ => ⟨vp_in_nI (by omega) (by decide), ?_⟩⟩
                  rw [pk_mul, nI_add, nI_add, nI_clamp (by omega), nI_clamp (by omega), a3 78 (by decide), b2 k hk, nI_add]
                  refine ⟨vp_in_nI (by omega) (by decide), fun iv4 h4 => ?_⟩
                  obtain ⟨a4, b4, c4'⟩ := up_e h4
                  refine nx iv4 ⟨fun q hq => by rw [a4 q hq, a3 q hq], fun q hq => by rw [b4 q (by omega)]; exact c3' q (by omega), fun j hj => ?_⟩
                  by_cases ej : j = k
                  · rw [ej, c4']
                  · rw [b4 _ (by omega)]; exact b3 j (by omega)
              · rintro k iv2 hk ⟨a2, b2⟩ nx
                refine mk_X11_copy_71 ⟨fun z => absurd z (nI_ge hk (by omega)), fun _ => ?_⟩
                rw [pk_mul, nI_add, nI_add, nI_clamp (n := k) (by omega), nI_clamp (by omega), a2 77 (by decide), show 60 * s + a + k = 60 * s + (a + k) by omega, o4 (a + k) (by omega), nI_add]
                refine ⟨vp_in_nI (by omega) (by decide), vp_in_nI (by omega) (by decide), fun iv3 h3 => ?_⟩
                obtain ⟨a3, b3, c3'⟩ := up_e h3
                refine nx iv3 ⟨fun q hq => by rw [a3 q hq, a2 q hq], fun j hj => ?_⟩
                by_cases ej : j = k
                · rw [ej, c3']
                · rw [b3 j ej]; exact b2 j (by omega)
        · rw [ct'.2 hft]
          refine ⟨fun _ => fnd 1 (fun iv1 h1 P hp => mk_X11_copy (isSheet_t hs ⟨fun z => absurd z (by decide), fun _ => isSheet_t ht ⟨fun z => absurd z (by decide), fun _ => ⟨vp_in_nI hs (by decide), ?_⟩⟩⟩)), fun z => absurd rfl z⟩
          rw [nI_clamp (n := s) (by omega), nI_clamp (n := t) (by omega), (up_e h1).1 75 (by decide), m1, mt.2 hft]
          exact ⟨fun z => absurd z (nI_pos (by omega)), fun _ => ⟨vp_in_nI ht (by decide), fun z => absurd z no_m1, fun _ => mk_X11_finds hp⟩⟩
      · rw [cs.2 hfs]
        refine ⟨fun _ => fnd 1 (fun iv1 h1 P hp => mk_X11_copy (isSheet_t hs ⟨fun z => absurd z (by decide), fun _ => isSheet_t ht ⟨fun z => absurd z (by decide), fun _ => ⟨vp_in_nI hs (by decide), ?_⟩⟩⟩)), fun z => absurd rfl z⟩
        rw [nI_clamp (n := s) (by omega), (up_e h1).1 75 (by decide), ms.2 hfs]
        exact ⟨fun _ => mk_X11_finds hp, fun z => absurd (by decide) z⟩
/-- what is read: k bytes -/
def rdT (T : TX) (g : Nat → Int32) : Nat → TX
  | 0 => T
  | k + 1 => tA (rdT T g k) (g k).toNatClampNeg
theorem rdT_n (T : TX) (g : Nat → Int32) (k : Nat) : (rdT T g k).1 = T.1 + k := by
  induction k with
  | zero => rfl
  | succ k ih => show (rdT T g k).1 + 1 = _; rw [ih]; rfl
theorem op_read {x : Int32} (h : INV iv) : LSt X 69 146 [.int x] iv := by
  intro Q hQ
  have hI := h
  obtain ⟨T, D, S, F, hC, hM⟩ := h
  rcases rng x 4 (by decide) with hx | ⟨s, hs, rfl⟩
  · exact mk_X10_read (wi_f hx ⟨fun _ => mk_X11_read (isSheet_f hx ⟨fun _ => ⟨rfl, hQ _ hI⟩, fun z => absurd rfl z⟩), fun z => absurd rfl z⟩)
  · obtain ⟨k1, k2, k3, k4⟩ := k65 hs
    have cs := hC.2.2.2.2.1 s hs
    have ms := hM.2.2.1 s hs
    refine mk_X10_read (wi_t hs (by decide) ⟨fun z => absurd z (by decide), fun _ => ⟨vp_in_nI hs (by decide), fun a3 h3 => ?_⟩⟩)
    rw [nI_clamp (by omega), k1] at h3
    subst h3
    refine ⟨k2, ?_⟩
    by_cases hf : S.1 s < 3
    · obtain ⟨c1, c2, c3, c4, c5⟩ := cs.1 hf
      obtain ⟨m1, m2, m3, m4⟩ := ms.1 hf
      have hn := hC.1.1.1
      rw [c1]
      refine ⟨fun z => absurd z (by decide), fun _ => ?_⟩
      obtain ⟨K, hK, hlt⟩ := pk_least (fun k => S.2.1 s ≤ k ∨ (S.2.2 s k < 0 ∨ nI 256 ≤ S.2.2 s k) ∨ 14 ≤ T.1 + k) ⟨S.2.1 s, Or.inl (Nat.le_refl _)⟩
      have hgo : ∀ j, j < K → j < S.2.1 s ∧ (∃ v, v < 256 ∧ S.2.2 s j = nI v) ∧ T.1 + j < 14 := fun j hj => by
        have := hlt j hj
        refine ⟨by omega, ?_, by omega⟩
        rcases rng (S.2.2 s j) 256 (by decide) with q | q
        · exact absurd (Or.inr (Or.inl q)) this
        · exact q
      have hKs : K ≤ S.2.1 s := Classical.byContradiction fun q => by have := (hgo (S.2.1 s) (by omega)).1; omega
      have hK14 : T.1 + K ≤ 14 := by
        cases K with
        | zero => omega
        | succ k => have := (hgo k (by omega)).2.2; omega
      -- the class
      have key : ∀ m k, k + m = K → ∀ iv1 : IV, CTx iv1 (rdT T (S.2.2 s) k) → (∀ a, a ≠ 2 → a ≠ 3 → iv1 a = iv a) → wp X (0, 0) 69 20 [some (.ref 1), none, some (.ref (66 + 2 * s)), some (.int (nI k))] [] iv1 (Ri (fun v iv1 => wc X 146 [.ref 74, .int (nI s)] iv1 (Ri (fun w iv2 => v = w ∧ Q iv2)))) := by
        intro m
        induction m with
        | zero =>
          intro k hk iv1 t1 a1
          have e : k = K := by omega
          subst e
          have fin : ∀ iv2 : IV, iv2 = mm_up2 iv1 1 10 (nI 0) → wc X 146 [.ref 74, .int (nI s)] iv2 (Ri (fun w iv2 => nI k = w ∧ Q iv2)) := by
            intro iv2 h2
            obtain ⟨a2, b2, d2⟩ := up_e h2
            have hC2 : CI iv2 (rdT T (S.2.2 s) k) D S F := CI_tx hC (CTx_of t1 (a2 2 (by decide)) (a2 3 (by decide)) (a2 4 (by decide)) (a2 5 (by decide))) d2 (by rw [b2 9 (by decide), a1 1 (by decide) (by decide)]) (fun a q1 q2 => by rw [a2 a (by omega), a1 a (by omega) (by omega)])
            have hM2 : MI iv2 T D S F := MI_hi hM (fun a ha => by rw [a2 a (by omega), a1 a (by omega) (by omega)])
            refine mk_X11_read (isSheet_t hs ⟨fun z => absurd z (by decide), fun _ => ⟨vp_in_nI hs (by decide), ?_⟩⟩)
            rw [nI_clamp (by omega), ((hM2.2.2.1 s hs).1 hf).1]
            refine ⟨fun _ => ?_, fun z => absurd (nI_pos' (by omega)) z⟩
            have mkey : ∀ m j, j + m = k → ∀ iv3 : IV, MTx iv3 (rdT T (S.2.2 s) j) → (∀ a, a ≠ 82 → a ≠ 84 → iv3 a = iv2 a) → wp X (0, 0) 146 16 [some (.ref 74), some (.int (nI s)), some (.int (nI j))] [] iv3 (Ri (fun w iv2 => nI k = w ∧ Q iv2)) := by
              intro m
              induction m with
              | zero =>
                intro j hj iv3 t3 a3
                have e : j = k := by omega
                subst e
                obtain ⟨r1, r2, r3, r4⟩ := (hM2.2.2.1 s hs).1 hf
                have done : INV iv3 := ⟨rdT T (S.2.2 s) j, D, S, F, CI_of hC2 (fun a ha => a3 a (by omega) (by omega)), MI_tx hM2 t3 (fun a q1 q2 => a3 a (by omega) (by omega))⟩
                refine mk_X11_read_16 ⟨vp_in_nI hs (by decide), ?_⟩
                rw [nI_clamp (n := s) (by omega), a3 76 (by decide) (by decide), r2, nI_leI (by omega) (by omega), pk_mul, nI_add, nI_clamp (by omega), a3 77 (by decide) (by decide)]
                refine ⟨fun _ => ⟨rfl, hQ _ done⟩, fun z => ⟨vp_in_nI (by omega) (by decide), ?_⟩⟩
                rw [r4 j (by omega)]
                rcases hK with q | q | q
                · exact absurd q (by omega)
                · exact mk_X11_type (isTwo_t (by decide) ⟨fun z => absurd z (by decide), fun _ => in_f (by decide) q ⟨fun _ => ⟨fun _ => ⟨rfl, hQ _ done⟩, fun z => absurd (by decide) z⟩, fun z => absurd rfl z⟩⟩)
                · rcases rng (S.2.2 s j) 256 (by decide) with q2 | ⟨v, hv, q2⟩
                  · exact mk_X11_type (isTwo_t (by decide) ⟨fun z => absurd z (by decide), fun _ => in_f (by decide) q2 ⟨fun _ => ⟨fun _ => ⟨rfl, hQ _ done⟩, fun z => absurd (by decide) z⟩, fun z => absurd rfl z⟩⟩)
                  · rw [q2]
                    exact sp_typeF t3 (by rw [rdT_n]; omega) hv ⟨fun _ => ⟨rfl, hQ _ done⟩, fun z => absurd (by decide) z⟩
              | succ m ih =>
                intro j hj iv3 t3 a3
                obtain ⟨r1, r2, r3, r4⟩ := (hM2.2.2.1 s hs).1 hf
                obtain ⟨g1, ⟨v, hv, g2⟩, g3⟩ := hgo j (by omega)
                refine mk_X11_read_16 ⟨vp_in_nI hs (by decide), ?_⟩
                rw [nI_clamp (n := s) (by omega), a3 76 (by decide) (by decide), r2, pk_mul, nI_add, nI_clamp (by omega), a3 77 (by decide) (by decide), r4 j g1, g2, nI_add]
                refine ⟨fun z => absurd z (nI_ge g1 (by omega)), fun _ => ⟨vp_in_nI (by omega) (by decide), sp_typeA t3 (by rw [rdT_n]; omega) hv (fun iv4 t4 a4 => ?_)⟩⟩
                rw [rdT_n]
                refine ⟨fun z => absurd z (nI_pos (by omega)), fun _ => ih (j + 1) (by omega) iv4 ?_ (fun a q1 q2 => by rw [a4 a q1 q2, a3 a q1 q2])⟩
                show MTx iv4 (tA (rdT T (S.2.2 s) j) (S.2.2 s j).toNatClampNeg)
                rw [g2, nI_clamp (by omega)]
                exact t4
            exact mkey k 0 (by omega) iv2 hM2.1 (fun _ _ _ => rfl)
          refine mk_X10_read_20 ⟨k2, ?_⟩
          rw [a1 (66 + 2 * s) (by omega) (by omega), c3, nI_leI (by omega) (by omega), k3, a1 (67 + 2 * s) (by omega) (by omega), nI_clamp (by omega)]
          refine ⟨fun _ => fin, fun z => ⟨k2, k4, vp_in_nI (by omega) (by decide), ?_⟩⟩
          rw [c5 k (by omega)]
          rcases hK with q | q | q
          · exact absurd q (by omega)
          · exact wi_f q ⟨fun _ => fin, fun z => absurd rfl z⟩
          · rcases rng (S.2.2 s k) 256 (by decide) with q2 | ⟨v, hv, q2⟩
            · exact wi_f q2 ⟨fun _ => fin, fun z => absurd rfl z⟩
            · rw [q2]
              refine wi_t hv (by decide) ⟨fun z => absurd z (by decide), fun _ => mk_X8_isFull rfl ?_⟩
              rw [t1.2.1, t1.2.2.1, rdT_n]
              exact ⟨fun z => absurd z (nI_nlt q (by omega)), fun _ => ⟨fun z => absurd z (by decide), fun _ => fin⟩⟩
        | succ m ih =>
          intro k hk iv1 t1 a1
          obtain ⟨g1, ⟨v, hv, g2⟩, g3⟩ := hgo k (by omega)
          refine mk_X10_read_20 ⟨k2, ?_⟩
          rw [a1 (66 + 2 * s) (by omega) (by omega), c3, k3, a1 (67 + 2 * s) (by omega) (by omega), nI_clamp (by omega), c5 k g1, g2, nI_add]
          refine ⟨fun z => absurd z (nI_ge g1 (by omega)), fun _ => ⟨k2, k4, vp_in_nI (by omega) (by decide), wi_t hv (by decide) ⟨fun z => absurd z (by decide), fun _ => mk_X8_isFull rfl ?_⟩⟩⟩
          rw [t1.2.1, t1.2.2.1, rdT_n, nI_ltI (by omega) (by omega)]
          refine ⟨fun _ => ⟨fun _ => ⟨k2, k4, vp_in_nI (by omega) (by decide), ?_⟩, fun z => absurd rfl z⟩, fun z => absurd g3 z⟩
          rw [a1 (67 + 2 * s) (by omega) (by omega), c5 k g1, g2]
          refine sp_appA t1 (by rw [rdT_n]; omega) hv (fun iv2 t2 a2 => ih (k + 1) (by omega) iv2 ?_ (fun a q1 q2 => by rw [a2 a q1 q2, a1 a q1 q2]))
          show CTx iv2 (tA (rdT T (S.2.2 s) k) (S.2.2 s k).toNatClampNeg)
          rw [g2, nI_clamp (by omega)]
          exact t2
      exact key K 0 (by omega) iv hC.1 (fun _ _ _ => rfl)
    · rw [cs.2 hf]
      refine ⟨fun _ => mk_X10_found (fun iv1 h1 => mk_X11_read (isSheet_t hs ⟨fun z => absurd z (by decide), fun _ => ⟨vp_in_nI hs (by decide), ?_⟩⟩)), fun z => absurd rfl z⟩
      rw [nI_clamp (by omega), (up_e h1).1 75 (by decide), ms.2 hf]
      exact ⟨fun z => absurd z no_m1, fun _ => mk_X11_finds (fun iv2 h2 => ⟨rfl, hQ _ (find_fin hC hM h1 h2)⟩)⟩
end COPY
