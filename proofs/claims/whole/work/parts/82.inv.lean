/-! WHAT HOLDS BETWEEN THE CALLS -/
abbrev SH : Type := (Nat → Nat) × (Nat → Nat) × (Nat → Nat → Int32)
def CSh (iv : IV) (S : SH) : Prop := ∀ s, s < 4 → (S.1 s < 3 → iv (66 + 2 * s) 0 = nI 1 ∧ iv (66 + 2 * s) 1 = nI (S.1 s) ∧ iv (66 + 2 * s) 2 = nI (S.2.1 s) ∧ S.2.1 s ≤ 60 ∧ ∀ i, i < S.2.1 s → iv (67 + 2 * s) i = S.2.2 s i) ∧ (¬ S.1 s < 3 → iv (66 + 2 * s) 0 = nI 0)
def MSh (iv : IV) (S : SH) : Prop := ∀ s, s < 4 → (S.1 s < 3 → iv 75 s = nI (S.1 s) ∧ iv 76 s = nI (S.2.1 s) ∧ S.2.1 s ≤ 60 ∧ ∀ i, i < S.2.1 s → iv 77 (60 * s + i) = S.2.2 s i) ∧ (¬ S.1 s < 3 → iv 75 s = nI 4294967295)
theorem k65 {s : Nat} (h : s < 4) : rvT 65 s = 66 + 2 * s ∧ kdT (66 + 2 * s) = (15, 0) ∧ rvT (66 + 2 * s) 3 = 67 + 2 * s ∧ kdT (67 + 2 * s) = (1, 60) := by
  have : s = 0 ∨ s = 1 ∨ s = 2 ∨ s = 3 := by omega
  rcases this with rfl | rfl | rfl | rfl <;> exact ⟨rfl, rfl, rfl, rfl⟩
/-- the class's acts: a ring -/
def CAc (iv : IV) (l : List Nat) : Prop := iv 6 2 = nI l.length ∧ l.length ≤ 60 ∧ ∃ q, q < 60 ∧ iv 6 4 = nI q ∧ ∀ j, j < l.length → l.getD j 0 < 450 ∧ iv 9 ((q + 60 - l.length + j) % 60) = nI (l.getD j 0)
def MAc (iv : IV) (l : List Nat) : Prop := iv 74 23 = nI l.length ∧ l.length ≤ 60 ∧ ∀ j, j < l.length → l.getD j 0 < 450 ∧ iv 93 j = nI (l.getD j 0)
def MDr (iv : IV) (D : DM) : Prop := ∀ i, i < 225 → iv 91 i = nI (D.1 i).toNat ∧ iv 92 i = nI (D.2.1 i).toNat
def CI (iv : IV) (T : TX) (D : DM) (S : SH) (F : Int32) : Prop := CTx iv T ∧ WY iv ∧ SYr iv ∧ (CDr iv D ∧ CAc iv D.2.2) ∧ CSh iv S ∧ iv 1 9 = F ∧ CSt iv T D 0
def MI (iv : IV) (T : TX) (D : DM) (S : SH) (F : Int32) : Prop := MTx iv T ∧ (MDr iv D ∧ MAc iv D.2.2) ∧ MSh iv S ∧ iv 74 4 = F
def INV (iv : IV) : Prop := ∃ T D S F, CI iv T D S F ∧ MI iv T D S F
theorem CSt_of {iv iv' : IV} {T : TX} {D : DM} {s : Nat} (h : CSt iv T D s) (h1 : iv' 1 10 = iv 1 10) (h2 : ∀ a, 21 ≤ a → a ≤ 48 → iv' a = iv a) : CSt iv' T D s := by
  obtain ⟨k, a, b, c, d, e, f⟩ := h
  exact ⟨k, a, b, by rw [h1]; exact c, fun q => CM_of (d q) (fun a q1 q2 => h2 a (by omega) (by omega)), fun q => CRx_of (e q) (fun a q1 q2 => h2 a (by omega) (by omega)), fun q => by rw [h2 48 (by decide) (by decide)]; exact f q⟩
theorem CSt_le {iv : IV} {T : TX} {D : DM} {s t : Nat} (h : CSt iv T D s) (ht : t ≤ s) : CSt iv T D t := by
  obtain ⟨k, a, b⟩ := h
  exact ⟨k, by omega, b⟩
theorem SYr_of {iv iv' : IV} (h : SYr iv) (h2 : ∀ a, 23 ≤ a → a ≤ 25 → iv' a = iv a) : SYr iv' := fun b hb p hp => by rw [h2 _ (by omega) (by omega)]; exact h b hb p hp
theorem WY_of {iv iv' : IV} (h : WY iv) (h1 : iv' 11 = iv 11) (h2 : iv' 12 = iv 12) (h3 : iv' 13 = iv 13) : WY iv' := by unfold WY; rw [h1, h2, h3]; exact h
theorem CDr_of {iv iv' : IV} {D : DM} (h : CDr iv D) (h1 : iv' 7 = iv 7) (h2 : iv' 8 = iv 8) : CDr iv' D := by unfold CDr; rw [h1, h2]; exact h
theorem CAc_of {iv iv' : IV} {l : List Nat} (h : CAc iv l) (h1 : iv' 6 = iv 6) (h2 : iv' 9 = iv 9) : CAc iv' l := by unfold CAc; rw [h1, h2]; exact h
theorem CSh_of {iv iv' : IV} {S : SH} (h : CSh iv S) (h1 : ∀ a, 66 ≤ a → a ≤ 73 → iv' a = iv a) : CSh iv' S := fun s hs => by
  rw [h1 (66 + 2 * s) (by omega) (by omega), h1 (67 + 2 * s) (by omega) (by omega)]
  exact h s hs
theorem CI_of {iv iv' : IV} {T : TX} {D : DM} {S : SH} {F : Int32} (h : CI iv T D S F) (h1 : ∀ a, a < 74 → iv' a = iv a) : CI iv' T D S F :=
  ⟨CTx_of h.1 (h1 2 (by decide)) (h1 3 (by decide)) (h1 4 (by decide)) (h1 5 (by decide)), WY_of h.2.1 (h1 11 (by decide)) (h1 12 (by decide)) (h1 13 (by decide)), SYr_of h.2.2.1 (fun a q1 q2 => h1 a (by omega)), ⟨CDr_of h.2.2.2.1.1 (h1 7 (by decide)) (h1 8 (by decide)), CAc_of h.2.2.2.1.2 (h1 6 (by decide)) (h1 9 (by decide))⟩, CSh_of h.2.2.2.2.1 (fun a q1 q2 => h1 a (by omega)), by rw [h1 1 (by decide)]; exact h.2.2.2.2.2.1, CSt_of h.2.2.2.2.2.2 (by rw [h1 1 (by decide)]) (fun a q1 q2 => h1 a (by omega))⟩
theorem MDr_of {iv iv' : IV} {D : DM} (h : MDr iv D) (h1 : iv' 91 = iv 91) (h2 : iv' 92 = iv 92) : MDr iv' D := by unfold MDr; rw [h1, h2]; exact h
theorem MAc_of {iv iv' : IV} {l : List Nat} (h : MAc iv l) (h1 : iv' 74 23 = iv 74 23) (h2 : iv' 93 = iv 93) : MAc iv' l := by unfold MAc; rw [h1, h2]; exact h
theorem MSh_of {iv iv' : IV} {S : SH} (h : MSh iv S) (h1 : iv' 75 = iv 75) (h2 : iv' 76 = iv 76) (h3 : iv' 77 = iv 77) : MSh iv' S := by unfold MSh; rw [h1, h2, h3]; exact h
/-- what the model's own workings leave -/
def FRM (iv iv' : IV) : Prop := iv' 74 4 = iv 74 4 ∧ iv' 74 23 = iv 74 23 ∧ ∀ a, a < 94 → a ≠ 74 → ¬ (79 ≤ a ∧ a ≤ 81) → ¬ (85 ≤ a ∧ a ≤ 90) → iv' a = iv a
theorem MI_of {iv iv' : IV} {T : TX} {D : DM} {S : SH} {F : Int32} (h : MI iv T D S F) (f : FRM iv iv') : MI iv' T D S F :=
  ⟨MTx_of h.1 (f.2.2 82 (by decide) (by decide) (by decide) (by decide)) (f.2.2 83 (by decide) (by decide) (by decide) (by decide)) (f.2.2 84 (by decide) (by decide) (by decide) (by decide)), ⟨MDr_of h.2.1.1 (f.2.2 91 (by decide) (by decide) (by decide) (by decide)) (f.2.2 92 (by decide) (by decide) (by decide) (by decide)), MAc_of h.2.1.2 f.2.1 (f.2.2 93 (by decide) (by decide) (by decide) (by decide))⟩, MSh_of h.2.2.1 (f.2.2 75 (by decide) (by decide) (by decide) (by decide)) (f.2.2 76 (by decide) (by decide) (by decide) (by decide)) (f.2.2 77 (by decide) (by decide) (by decide) (by decide)), by rw [f.1]; exact h.2.2.2⟩
theorem MI_hi {iv iv' : IV} {T : TX} {D : DM} {S : SH} {F : Int32} (h : MI iv T D S F) (h1 : ∀ a, 74 ≤ a → iv' a = iv a) : MI iv' T D S F := by
  unfold MI MTx MDr MAc MSh
  rw [h1 74 (by decide), h1 75 (by decide), h1 76 (by decide), h1 77 (by decide), h1 82 (by decide), h1 83 (by decide), h1 84 (by decide), h1 91 (by decide), h1 92 (by decide), h1 93 (by decide)]
  exact h
/-- a call of both, answered alike -/
def LSt (X : Nat × (Nat → Int32)) (jc jm : Nat) (as : List Value) (iv : IV) : Prop := ∀ Q : IV → Prop, (∀ iv', INV iv' → Q iv') → wc X jc (.ref 1 :: as) iv (Ri (fun v iv1 => wc X jm (.ref 74 :: as) iv1 (Ri (fun w iv2 => v = w ∧ Q iv2))))
theorem rng (x : Int32) (n : Nat) (hn : n < 2 ^ 31) : (x < 0 ∨ nI n ≤ x) ∨ ∃ j, j < n ∧ x = nI j := by
  rcases pk_ix x hn with q | q | q
  · exact Or.inl (Or.inl q)
  · exact Or.inl (Or.inr q)
  · exact Or.inr q
theorem CI_tx {iv iv' : IV} {T T' : TX} {D : DM} {S : SH} {F : Int32} (h : CI iv T D S F) (hT : CTx iv' T') (h10 : iv' 1 10 = nI 0) (h9 : iv' 1 9 = iv 1 9) (ho : ∀ a, 6 ≤ a → a < 74 → iv' a = iv a) : CI iv' T' D S F :=
  ⟨hT, WY_of h.2.1 (ho 11 (by decide) (by decide)) (ho 12 (by decide) (by decide)) (ho 13 (by decide) (by decide)), SYr_of h.2.2.1 (fun a q1 q2 => ho a (by omega) (by omega)), ⟨CDr_of h.2.2.2.1.1 (ho 7 (by decide) (by decide)) (ho 8 (by decide) (by decide)), CAc_of h.2.2.2.1.2 (ho 6 (by decide) (by decide)) (ho 9 (by decide) (by decide))⟩, CSh_of h.2.2.2.2.1 (fun a q1 q2 => ho a (by omega) (by omega)), by rw [h9]; exact h.2.2.2.2.2.1, ⟨0, Nat.le_refl 0, by decide, h10, fun q => absurd q (by decide), fun q => absurd q (by decide), fun q => absurd q (by decide)⟩⟩
theorem MI_tx {iv iv' : IV} {T T' : TX} {D : DM} {S : SH} {F : Int32} (h : MI iv T D S F) (hT : MTx iv' T') (ho : ∀ a, 74 ≤ a → ¬ (82 ≤ a ∧ a ≤ 84) → iv' a = iv a) : MI iv' T' D S F :=
  ⟨hT, ⟨MDr_of h.2.1.1 (ho 91 (by decide) (by decide)) (ho 92 (by decide) (by decide)), MAc_of h.2.1.2 (by rw [ho 74 (by decide) (by decide)]) (ho 93 (by decide) (by decide))⟩, MSh_of h.2.2.1 (ho 75 (by decide) (by decide)) (ho 76 (by decide) (by decide)) (ho 77 (by decide) (by decide)), by rw [ho 74 (by decide) (by decide)]; exact h.2.2.2⟩
/-- both have found something -/
theorem find_fin {iv iv1 iv2 : IV} {T : TX} {D : DM} {S : SH} {F x : Int32} (h : CI iv T D S F) (h' : MI iv T D S F) (h1 : iv1 = mm_up2 iv 1 9 x) (h2 : iv2 = mm_up2 iv1 74 4 x) : INV iv2 := by
  rw [up_row] at h1 h2
  have c1 : CI iv1 T D S x := by
    have a1 : ∀ a, a ≠ 1 → iv1 a = iv a := fun a ha => by rw [h1, row_ne ha]
    exact ⟨CTx_of h.1 (a1 2 (by decide)) (a1 3 (by decide)) (a1 4 (by decide)) (a1 5 (by decide)), WY_of h.2.1 (a1 11 (by decide)) (a1 12 (by decide)) (a1 13 (by decide)), SYr_of h.2.2.1 (fun a q1 q2 => a1 a (by omega)), ⟨CDr_of h.2.2.2.1.1 (a1 7 (by decide)) (a1 8 (by decide)), CAc_of h.2.2.2.1.2 (a1 6 (by decide)) (a1 9 (by decide))⟩, CSh_of h.2.2.2.2.1 (fun a q1 q2 => a1 a (by omega)), by rw [h1, row_at, if_pos rfl], CSt_of h.2.2.2.2.2.2 (by rw [h1, row_at, if_neg (by decide)]) (fun a q1 q2 => a1 a (by omega))⟩
  have m1 : MI iv1 T D S F := MI_hi h' (fun a ha => by rw [h1, row_ne (by omega)])
  refine ⟨T, D, S, x, CI_of c1 (fun a ha => by rw [h2, row_ne (by omega)]), ?_⟩
  have a2 : ∀ a, a ≠ 74 → iv2 a = iv1 a := fun a ha => by rw [h2, row_ne ha]
  exact ⟨MTx_of m1.1 (a2 82 (by decide)) (a2 83 (by decide)) (a2 84 (by decide)), ⟨MDr_of m1.2.1.1 (a2 91 (by decide)) (a2 92 (by decide)), MAc_of m1.2.1.2 (by rw [h2, row_at, if_neg (by decide)]) (a2 93 (by decide))⟩, MSh_of m1.2.2.1 (a2 75 (by decide)) (a2 76 (by decide)) (a2 77 (by decide)), by rw [h2, row_at, if_pos rfl]⟩
section TEXTOPS
variable {X : Nat × (Nat → Int32)} {iv : IV}
def tA (T : TX) (v : Nat) : TX := (T.1 + 1, fun i => if i = T.1 then v else T.2.1 i, T.2.2)
def tB (T : TX) (v : Nat) : TX := (T.1, T.2.1, T.2.2.1 + 1, fun i => if i = T.2.2.1 then v else T.2.2.2 i)
theorem TOK_A {T : TX} {v : Nat} (h : TOK T) (hn : T.1 < 14) (hv : v < 256) : TOK (tA T v) := by
  refine ⟨show T.1 + 1 ≤ 14 by omega, fun i hi => ?_, h.2.2.1, h.2.2.2⟩
  show (if i = T.1 then v else T.2.1 i) < 256
  have hi : i < T.1 + 1 := hi
  by_cases e : i = T.1
  · rw [if_pos e]; exact hv
  · rw [if_neg e]; exact h.2.1 i (by omega)
theorem TOK_B {T : TX} {v : Nat} (h : TOK T) (hn : T.2.2.1 < 3) (hv : v < 256) : TOK (tB T v) := by
  refine ⟨h.1, h.2.1, show T.2.2.1 + 1 ≤ 3 by omega, fun i hi => ?_⟩
  show (if i = T.2.2.1 then v else T.2.2.2 i) < 256
  have hi : i < T.2.2.1 + 1 := hi
  by_cases e : i = T.2.2.1
  · rw [if_pos e]; exact hv
  · rw [if_neg e]; exact h.2.2.2 i (by omega)
/-- a byte comes behind the text, in the class -/
theorem sp_appA {P : IV → Prop} {T : TX} {v : Nat} (hT : CTx iv T) (hn : T.1 < 14) (hv : v < 256) (h : ∀ iv', CTx iv' (tA T v) → (∀ a, a ≠ 2 → a ≠ 3 → iv' a = iv a) → P iv') : wc X 57 [.ref 2, .int (nI v)] iv (Rv P) := by
  obtain ⟨h0, h1, h2, h3, h4, h5, h6⟩ := hT
  refine mk_X8_append rfl rfl ?_
  rw [h1, h2, nI_clamp (by omega)]
  refine ⟨fun z => absurd z (nI_ge hn (by decide)), fun _ => ⟨vp_in_nI hn (by decide), fun iv1 g1 iv2 g2 => ?_⟩⟩
  rw [up_row, show rvT 2 0 = 3 by rfl] at g1
  rw [g1, row_ne (by decide), h2, nI_add, up_row] at g2
  refine h iv2 ⟨TOK_A h0 hn hv, ?_, ?_, ?_, ?_, fun i hi => ?_, fun i hi => ?_⟩ (fun a q1 q2 => by rw [g2, row_ne q1, row_ne q2])
  · rw [g2, row_at, if_neg (by decide), row_ne (by decide)]; exact h1
  · rw [g2, row_at, if_pos rfl]; rfl
  · rw [g2, row_ne (by decide), row_ne (by decide)]; exact h3
  · rw [g2, row_ne (by decide), row_ne (by decide)]; exact h4
  · rw [g2, row_ne (by decide), row_at]
    show _ = nI (if i = T.1 then v else T.2.1 i)
    have hi : i < T.1 + 1 := hi
    by_cases e : i = T.1
    · rw [if_pos e, if_pos e]
    · rw [if_neg e, if_neg e]; exact h5 i (by omega)
  · rw [g2, row_ne (by decide), row_ne (by decide)]; exact h6 i hi
theorem sp_appB {P : IV → Prop} {T : TX} {v : Nat} (hT : CTx iv T) (hn : T.2.2.1 < 3) (hv : v < 256) (h : ∀ iv', CTx iv' (tB T v) → (∀ a, a ≠ 4 → a ≠ 5 → iv' a = iv a) → P iv') : wc X 57 [.ref 4, .int (nI v)] iv (Rv P) := by
  obtain ⟨h0, h1, h2, h3, h4, h5, h6⟩ := hT
  refine mk_X8_append rfl rfl ?_
  rw [h3, h4, nI_clamp (by omega)]
  refine ⟨fun z => absurd z (nI_ge hn (by decide)), fun _ => ⟨vp_in_nI (by omega) (by decide), fun iv1 g1 iv2 g2 => ?_⟩⟩
  rw [up_row, show rvT 4 0 = 5 by rfl] at g1
  rw [g1, row_ne (by decide), h4, nI_add, up_row] at g2
  refine h iv2 ⟨TOK_B h0 hn hv, ?_, ?_, ?_, ?_, fun i hi => ?_, fun i hi => ?_⟩ (fun a q1 q2 => by rw [g2, row_ne q1, row_ne q2])
  · rw [g2, row_ne (by decide), row_ne (by decide)]; exact h1
  · rw [g2, row_ne (by decide), row_ne (by decide)]; exact h2
  · rw [g2, row_at, if_neg (by decide), row_ne (by decide)]; exact h3
  · rw [g2, row_at, if_pos rfl]; rfl
  · rw [g2, row_ne (by decide), row_ne (by decide)]; exact h5 i hi
  · rw [g2, row_ne (by decide), row_at]
    show _ = nI (if i = T.2.2.1 then v else T.2.2.2 i)
    have hi : i < T.2.2.1 + 1 := hi
    by_cases e : i = T.2.2.1
    · rw [if_pos e, if_pos e]
    · rw [if_neg e, if_neg e]; exact h6 i (by omega)
/-- and in the model -/
theorem sp_typeA {P : Int32 → IV → Prop} {T : TX} {v : Nat} (hT : MTx iv T) (hn : T.1 < 14) (hv : v < 256) (h : ∀ iv', MTx iv' (tA T v) → (∀ a, a ≠ 82 → a ≠ 84 → iv' a = iv a) → P (nI (T.1 + 1)) iv') : wc X 143 [.ref 74, .int (nI 0), .int (nI v)] iv (Ri P) := by
  obtain ⟨h0, h1, h2, h3, h4⟩ := hT
  refine mk_X11_type (isTwo_t (by decide) ⟨fun z => absurd z (by decide), fun _ => in_t (by omega) (by decide) ⟨fun z => absurd z (by decide), fun _ => ⟨vp_in_nI (by decide) (by decide), ?_⟩⟩⟩)
  rw [nI_clamp (by decide), h1]
  refine ⟨fun _ => mk_X11_type_20 ⟨fun z => absurd ((nI_eq (by omega) (by decide)).mp z) (by omega), fun _ => ⟨fun _ => ⟨vp_in_nI (by decide) (by decide), ?_⟩, fun z => absurd rfl z⟩⟩, fun z => absurd rfl z⟩
  rw [nI_clamp (n := 0) (by decide), h1, nI_clamp (by omega)]
  refine ⟨vp_in_nI hn (by decide), fun iv1 g1 => mk_X11_type_42 ⟨vp_in_nI (by decide) (by decide), vp_in_nI (by decide) (by decide), fun iv2 g2 => ⟨vp_in_nI (by decide) (by decide), ?_⟩⟩⟩
  rw [up_row] at g1
  rw [nI_clamp (n := 0) (by decide), g1, row_ne (by decide), h1, nI_add, up_row] at g2
  rw [nI_clamp (n := 0) (by decide)]
  have e84 : iv2 84 0 = nI (T.1 + 1) := by rw [g2, row_at, if_pos rfl]
  rw [e84]
  refine h iv2 ⟨TOK_A h0 hn hv, e84, ?_, fun i hi => ?_, fun i hi => ?_⟩ (fun a q1 q2 => by rw [g2, row_ne q2, row_ne q1])
  · rw [g2, row_at, if_neg (by decide), row_ne (by decide)]; exact h2
  · rw [g2, row_ne (by decide), row_at]
    show _ = nI (if i = T.1 then v else T.2.1 i)
    have hi : i < T.1 + 1 := hi
    by_cases e : i = T.1
    · rw [if_pos e, if_pos e]
    · rw [if_neg e, if_neg e]; exact h3 i (by omega)
  · rw [g2, row_ne (by decide), row_ne (by decide)]; exact h4 i hi
theorem sp_typeB {P : Int32 → IV → Prop} {T : TX} {v : Nat} (hT : MTx iv T) (hn : T.2.2.1 < 3) (hv : v < 256) (h : ∀ iv', MTx iv' (tB T v) → (∀ a, a ≠ 83 → a ≠ 84 → iv' a = iv a) → P (nI (T.2.2.1 + 1)) iv') : wc X 143 [.ref 74, .int (nI 1), .int (nI v)] iv (Ri P) := by
  obtain ⟨h0, h1, h2, h3, h4⟩ := hT
  refine mk_X11_type (isTwo_t (by decide) ⟨fun z => absurd z (by decide), fun _ => in_t (by omega) (by decide) ⟨fun z => absurd z (by decide), fun _ => ⟨vp_in_nI (by decide) (by decide), ?_⟩⟩⟩)
  rw [nI_clamp (by decide), h2]
  refine ⟨fun z => absurd z (by decide), fun _ => mk_X11_type_20 ⟨fun z => absurd ((nI_eq (by omega) (by decide)).mp z) (by omega), fun _ => ⟨fun z => absurd z (by decide), fun _ => ⟨vp_in_nI (by decide) (by decide), ?_⟩⟩⟩⟩
  rw [nI_clamp (n := 1) (by decide), h2, nI_clamp (by omega)]
  refine ⟨vp_in_nI hn (by decide), fun iv1 g1 => mk_X11_type_42 ⟨vp_in_nI (by decide) (by decide), vp_in_nI (by decide) (by decide), fun iv2 g2 => ⟨vp_in_nI (by decide) (by decide), ?_⟩⟩⟩
  rw [up_row] at g1
  rw [nI_clamp (n := 1) (by decide), g1, row_ne (by decide), h2, nI_add, up_row] at g2
  rw [nI_clamp (n := 1) (by decide)]
  have e84 : iv2 84 1 = nI (T.2.2.1 + 1) := by rw [g2, row_at, if_pos rfl]
  rw [e84]
  refine h iv2 ⟨TOK_B h0 hn hv, ?_, e84, fun i hi => ?_, fun i hi => ?_⟩ (fun a q1 q2 => by rw [g2, row_ne q2, row_ne q1])
  · rw [g2, row_at, if_neg (by decide), row_ne (by decide)]; exact h1
  · rw [g2, row_ne (by decide), row_ne (by decide)]; exact h3 i hi
  · rw [g2, row_ne (by decide), row_at]
    show _ = nI (if i = T.2.2.1 then v else T.2.2.2 i)
    have hi : i < T.2.2.1 + 1 := hi
    by_cases e : i = T.2.2.1
    · rw [if_pos e, if_pos e]
    · rw [if_neg e, if_neg e]; exact h4 i (by omega)
/-- a text that is full takes none -/
theorem sp_typeF {P : Int32 → IV → Prop} {T : TX} {v : Nat} (hT : MTx iv T) (hn : ¬ T.1 < 14) (hv : v < 256) (p : P (nI 4294967292) iv) : wc X 143 [.ref 74, .int (nI 0), .int (nI v)] iv (Ri P) := by
  refine mk_X11_type (isTwo_t (by decide) ⟨fun z => absurd z (by decide), fun _ => in_t (by omega) (by decide) ⟨fun z => absurd z (by decide), fun _ => ⟨vp_in_nI (by decide) (by decide), ?_⟩⟩⟩)
  have := hT.1.1
  rw [nI_clamp (by decide), hT.2.1, show T.1 = 14 by omega]
  exact ⟨fun _ => mk_X11_type_20 ⟨fun _ => p, fun z => absurd rfl z⟩, fun z => absurd rfl z⟩
theorem sp_typeG {P : Int32 → IV → Prop} {T : TX} {v : Nat} (hT : MTx iv T) (hn : ¬ T.2.2.1 < 3) (hv : v < 256) (p : P (nI 4294967292) iv) : wc X 143 [.ref 74, .int (nI 1), .int (nI v)] iv (Ri P) := by
  refine mk_X11_type (isTwo_t (by decide) ⟨fun z => absurd z (by decide), fun _ => in_t (by omega) (by decide) ⟨fun z => absurd z (by decide), fun _ => ⟨vp_in_nI (by decide) (by decide), ?_⟩⟩⟩)
  have := hT.1.2.2.1
  rw [nI_clamp (by decide), hT.2.2.1, show T.2.2.1 = 3 by omega]
  exact ⟨fun z => absurd z (by decide), fun _ => mk_X11_type_20 ⟨fun _ => p, fun z => absurd rfl z⟩⟩
theorem op_type {x y : Int32} (h : INV iv) : LSt X 65 143 [.int x, .int y] iv := by
  intro Q hQ
  have hI := h
  obtain ⟨T, D, S, F, hC, hM⟩ := h
  have hn := hC.1.1.1
  have hm := hC.1.1.2.2.1
  rcases rng x 2 (by decide) with hx | ⟨t, ht, rfl⟩
  · exact mk_X10_type (wi_f hx ⟨fun _ => mk_X11_type (isTwo_f hx ⟨fun _ => ⟨rfl, hQ _ hI⟩, fun z => absurd rfl z⟩), fun z => absurd rfl z⟩)
  · rcases rng y 256 (by decide) with hy | ⟨v, hv, rfl⟩
    · exact mk_X10_type (wi_t ht (by decide) ⟨fun z => absurd z (by decide), fun _ => wi_f hy ⟨fun _ => mk_X11_type (isTwo_t ht ⟨fun z => absurd z (by decide), fun _ => in_f (by decide) hy ⟨fun _ => ⟨rfl, hQ _ hI⟩, fun z => absurd rfl z⟩⟩), fun z => absurd rfl z⟩⟩)
    · refine mk_X10_type (wi_t ht (by decide) ⟨fun z => absurd z (by decide), fun _ => wi_t hv (by decide) ⟨fun z => absurd z (by decide), fun _ => mk_X10_typedBy ⟨fun z => ⟨rfl, mk_X8_isFull rfl ?_⟩, fun z => ⟨rfl, mk_X8_isFull rfl ?_⟩⟩⟩⟩)
      · have e0 : t = 0 := Classical.byContradiction fun q => nI_ne0 (by omega) (by omega) z
        subst e0
        rw [hC.1.2.1, hC.1.2.2.1, nI_ltI (by omega) (by decide)]
        refine ⟨fun z1 => ⟨fun _ => ⟨rfl, sp_appA hC.1 z1 hv (fun iv1 c1 a1 iv2 h2 => ⟨rfl, ?_⟩)⟩, fun z2 => absurd rfl z2⟩, fun z1 => ⟨fun z2 => absurd z2 (by decide), fun _ => sp_typeF hM.1 z1 hv ⟨rfl, hQ _ hI⟩⟩⟩
        rw [up_row] at h2
        have e2 : iv2 2 2 = nI (T.1 + 1) := by rw [h2, row_ne (by decide)]; exact c1.2.2.1
        rw [e2]
        have hC2 : CI iv2 (tA T v) D S F := CI_tx hC (CTx_of c1 (by rw [h2, row_ne (by decide)]) (by rw [h2, row_ne (by decide)]) (by rw [h2, row_ne (by decide)]) (by rw [h2, row_ne (by decide)])) (by rw [h2, row_at, if_pos rfl]) (by rw [h2, row_at, if_neg (by decide), a1 1 (by decide) (by decide)]) (fun a q1 q2 => by rw [h2, row_ne (by omega), a1 a (by omega) (by omega)])
        have hM2 : MI iv2 T D S F := MI_hi hM (fun a ha => by rw [h2, row_ne (by omega), a1 a (by omega) (by omega)])
        refine sp_typeA hM2.1 z1 hv (fun iv3 m3 a3 => ⟨rfl, hQ _ ⟨tA T v, D, S, F, CI_of hC2 (fun a ha => a3 a (by omega) (by omega)), MI_tx hM2 m3 (fun a q1 q2 => a3 a (by omega) (by omega))⟩⟩)
      · have e1 : t = 1 := by
          have : t ≠ 0 := fun q => z (by rw [q]; rfl)
          omega
        subst e1
        rw [hC.1.2.2.2.1, hC.1.2.2.2.2.1, nI_ltI (by omega) (by decide)]
        refine ⟨fun z1 => ⟨fun _ => ⟨rfl, sp_appB hC.1 z1 hv (fun iv1 c1 a1 iv2 h2 => ⟨rfl, ?_⟩)⟩, fun z2 => absurd rfl z2⟩, fun z1 => ⟨fun z2 => absurd z2 (by decide), fun _ => sp_typeG hM.1 z1 hv ⟨rfl, hQ _ hI⟩⟩⟩
        rw [up_row] at h2
        have e2 : iv2 4 2 = nI (T.2.2.1 + 1) := by rw [h2, row_ne (by decide)]; exact c1.2.2.2.2.1
        rw [e2]
        have hC2 : CI iv2 (tB T v) D S F := CI_tx hC (CTx_of c1 (by rw [h2, row_ne (by decide)]) (by rw [h2, row_ne (by decide)]) (by rw [h2, row_ne (by decide)]) (by rw [h2, row_ne (by decide)])) (by rw [h2, row_at, if_pos rfl]) (by rw [h2, row_at, if_neg (by decide), a1 1 (by decide) (by decide)]) (fun a q1 q2 => by rw [h2, row_ne (by omega), a1 a (by omega) (by omega)])
        have hM2 : MI iv2 T D S F := MI_hi hM (fun a ha => by rw [h2, row_ne (by omega), a1 a (by omega) (by omega)])
        refine sp_typeB hM2.1 z1 hv (fun iv3 m3 a3 => ⟨rfl, hQ _ ⟨tB T v, D, S, F, CI_of hC2 (fun a ha => a3 a (by omega) (by omega)), MI_tx hM2 m3 (fun a q1 q2 => a3 a (by omega) (by omega))⟩⟩)
/-- a text's length set to less -/
def tN (T : TX) (t n : Nat) : TX := if t = 0 then (n, T.2) else (T.1, T.2.1, n, T.2.2.2)
theorem CTx_N {iv iv' : IV} {T : TX} {t n : Nat} (h : CTx iv T) (ht : t < 2) (hn : n ≤ if t = 0 then T.1 else T.2.2.1) (h' : iv' = mm_up2 iv (2 + 2 * t) 2 (nI n)) : CTx iv' (tN T t n) := by
  rw [up_row] at h'
  obtain ⟨h0, h1, h2, h3, h4, h5, h6⟩ := h
  have hc : t = 0 ∨ t = 1 := by omega
  rcases hc with rfl | rfl
  · rw [if_pos rfl] at hn
    refine ⟨⟨show n ≤ 14 by have := h0.1; omega, fun i hi => h0.2.1 i (by have hi : i < n := hi; omega), h0.2.2⟩, ?_, ?_, ?_, ?_, fun i hi => ?_, fun i hi => ?_⟩
    · rw [h', row_at, if_neg (by decide)]; exact h1
    · rw [h', row_at, if_pos rfl]; rfl
    · rw [h', row_ne (by decide)]; exact h3
    · rw [h', row_ne (by decide)]; exact h4
    · rw [h', row_ne (by decide)]; exact h5 i (by have hi : i < n := hi; omega)
    · rw [h', row_ne (by decide)]; exact h6 i hi
  · rw [if_neg (by decide)] at hn
    refine ⟨⟨h0.1, h0.2.1, show n ≤ 3 by have := h0.2.2.1; omega, fun i hi => h0.2.2.2 i (by have hi : i < n := hi; omega)⟩, ?_, ?_, ?_, ?_, fun i hi => ?_, fun i hi => ?_⟩
    · rw [h', row_ne (by decide)]; exact h1
    · rw [h', row_ne (by decide)]; exact h2
    · rw [h', row_at, if_neg (by decide)]; exact h3
    · rw [h', row_at, if_pos rfl]; rfl
    · rw [h', row_ne (by decide)]; exact h5 i hi
    · rw [h', row_ne (by decide)]; exact h6 i (by have hi : i < n := hi; omega)
theorem MTx_N {iv iv' : IV} {T : TX} {t n : Nat} (h : MTx iv T) (ht : t < 2) (hn : n ≤ if t = 0 then T.1 else T.2.2.1) (h' : iv' = mm_up2 iv 84 t (nI n)) : MTx iv' (tN T t n) := by
  rw [up_row] at h'
  obtain ⟨h0, h1, h2, h3, h4⟩ := h
  have hc : t = 0 ∨ t = 1 := by omega
  rcases hc with rfl | rfl
  · rw [if_pos rfl] at hn
    refine ⟨⟨show n ≤ 14 by have := h0.1; omega, fun i hi => h0.2.1 i (by have hi : i < n := hi; omega), h0.2.2⟩, ?_, ?_, fun i hi => ?_, fun i hi => ?_⟩
    · rw [h', row_at, if_pos rfl]; rfl
    · rw [h', row_at, if_neg (by decide)]; exact h2
    · rw [h', row_ne (by decide)]; exact h3 i (by have hi : i < n := hi; omega)
    · rw [h', row_ne (by decide)]; exact h4 i hi
  · rw [if_neg (by decide)] at hn
    refine ⟨⟨h0.1, h0.2.1, show n ≤ 3 by have := h0.2.2.1; omega, fun i hi => h0.2.2.2 i (by have hi : i < n := hi; omega)⟩, ?_, ?_, fun i hi => ?_, fun i hi => ?_⟩
    · rw [h', row_at, if_neg (by decide)]; exact h1
    · rw [h', row_at, if_pos rfl]; rfl
    · rw [h', row_ne (by decide)]; exact h3 i hi
    · rw [h', row_ne (by decide)]; exact h4 i (by have hi : i < n := hi; omega)
def lnT (T : TX) (t : Nat) : Nat := if t = 0 then T.1 else T.2.2.1
theorem lnC {iv : IV} {T : TX} {t : Nat} (h : CTx iv T) (ht : t < 2) : iv (2 + 2 * t) 2 = nI (lnT T t) ∧ lnT T t ≤ 14 := by
  have h1 := h.1.1
  have h2 := h.1.2.2.1
  have hc : t = 0 ∨ t = 1 := by omega
  rcases hc with rfl | rfl
  · exact ⟨h.2.2.1, h1⟩
  · exact ⟨h.2.2.2.2.1, show T.2.2.1 ≤ 14 by omega⟩
theorem lnM {iv : IV} {T : TX} {t : Nat} (h : MTx iv T) (ht : t < 2) : iv 84 t = nI (lnT T t) := by
  have hc : t = 0 ∨ t = 1 := by omega
  rcases hc with rfl | rfl
  · exact h.2.1
  · exact h.2.2.1
theorem sp_typedBy {P : Nat → IV → Prop} {t : Nat} (ht : t < 2) (p : P (2 + 2 * t) iv) : wc X 111 [.ref 1, .int (nI t)] iv (Rr P) := by
  have hc : t = 0 ∨ t = 1 := by omega
  rcases hc with rfl | rfl
  · exact mk_X10_typedBy ⟨fun _ => p, fun z => absurd rfl z⟩
  · exact mk_X10_typedBy ⟨fun z => absurd z (by decide), fun _ => p⟩
theorem k17 {t : Nat} (ht : t < 2) : kdT (2 + 2 * t) = (17, 0) := by
  have hc : t = 0 ∨ t = 1 := by omega
  rcases hc with rfl | rfl <;> rfl
theorem both_N {iv iv1 iv2 iv3 : IV} {T : TX} {D : DM} {S : SH} {F : Int32} {t n : Nat} (hC : CI iv T D S F) (hM : MI iv T D S F) (ht : t < 2) (hn : n ≤ lnT T t) (h1 : iv1 = mm_up2 iv (2 + 2 * t) 2 (nI n)) (h2 : iv2 = mm_up2 iv1 1 10 (nI 0)) (h3 : iv3 = mm_up2 iv2 84 t (nI n)) : INV iv3 := by
  have c1 := CTx_N hC.1 ht hn h1
  rw [up_row] at h1 h2
  have hC2 : CI iv2 (tN T t n) D S F := CI_tx hC (CTx_of c1 (by rw [h2, row_ne (by decide)]) (by rw [h2, row_ne (by decide)]) (by rw [h2, row_ne (by decide)]) (by rw [h2, row_ne (by decide)])) (by rw [h2, row_at, if_pos rfl]) (by rw [h2, row_at, if_neg (by decide), h1, row_ne (by omega)]) (fun a q1 q2 => by rw [h2, row_ne (by omega), h1, row_ne (by omega)])
  have hM2 : MI iv2 T D S F := MI_hi hM (fun a ha => by rw [h2, row_ne (by omega), h1, row_ne (by omega)])
  have m3 := MTx_N hM2.1 ht hn h3
  rw [up_row] at h3
  exact ⟨tN T t n, D, S, F, CI_of hC2 (fun a ha => by rw [h3, row_ne (by omega)]), MI_tx hM2 m3 (fun a q1 q2 => by rw [h3, row_ne (by omega)])⟩
theorem op_wipe {x : Int32} (h : INV iv) : LSt X 66 144 [.int x] iv := by
  intro Q hQ
  have hI := h
  obtain ⟨T, D, S, F, hC, hM⟩ := h
  rcases rng x 2 (by decide) with hx | ⟨t, ht, rfl⟩
  · exact mk_X10_wipe (wi_f hx ⟨fun _ => mk_X11_wipe (isTwo_f hx ⟨fun _ => ⟨rfl, hQ _ hI⟩, fun z => absurd rfl z⟩), fun z => absurd rfl z⟩)
  · refine mk_X10_wipe (wi_t ht (by decide) ⟨fun z => absurd z (by decide), fun _ => sp_typedBy ht ⟨k17 ht, k17 ht, fun iv1 h1 iv2 h2 => ?_⟩⟩)
    rw [(lnC hC.1 ht).1]
    refine mk_X11_wipe (isTwo_t ht ⟨fun z => absurd z (by decide), fun _ => ⟨vp_in_nI ht (by decide), fun v3 h3 => ⟨vp_in_nI ht (by decide), fun iv4 h4 => ?_⟩⟩⟩)
    have e1 : iv2 84 = iv 84 := by rw [up_row] at h1 h2; rw [h2, row_ne (by decide), h1, row_ne (by omega)]
    rw [nI_clamp (by omega), e1, lnM hM.1 ht] at h3
    rw [nI_clamp (by omega)] at h4
    exact ⟨h3.symm, hQ _ (both_N hC hM ht (Nat.zero_le _) h1 h2 h4)⟩
theorem op_undo {x : Int32} (h : INV iv) : LSt X 67 145 [.int x] iv := by
  intro Q hQ
  have hI := h
  obtain ⟨T, D, S, F, hC, hM⟩ := h
  rcases rng x 2 (by decide) with hx | ⟨t, ht, rfl⟩
  · exact mk_X10_undo (wi_f hx ⟨fun _ => mk_X11_undo (isTwo_f hx ⟨fun _ => ⟨rfl, hQ _ hI⟩, fun z => absurd rfl z⟩), fun z => absurd rfl z⟩)
  · have hl := lnC hC.1 ht
    refine mk_X10_undo (wi_t ht (by decide) ⟨fun z => absurd z (by decide), fun _ => sp_typedBy ht ⟨k17 ht, ?_⟩⟩)
    rw [hl.1]
    refine ⟨fun z => mk_X11_undo (isTwo_t ht ⟨fun z => absurd z (by decide), fun _ => ⟨vp_in_nI ht (by decide), ?_⟩⟩), fun z => ⟨k17 ht, k17 ht, fun iv1 h1 iv2 h2 => ⟨k17 ht, ?_⟩⟩⟩
    · rw [nI_clamp (by omega), lnM hM.1 ht]
      exact ⟨fun _ => ⟨rfl, hQ _ hI⟩, fun z1 => absurd z z1⟩
    · have hne : lnT T t ≠ 0 := fun q => z (by rw [q]; rfl)
      rw [pk_sub (by omega)] at h1
      have e2 : iv2 (2 + 2 * t) 2 = nI (lnT T t - 1) := by
        have h1' := h1
        have h2' := h2
        rw [up_row] at h1' h2'
        rw [h2', row_ne (by omega), h1', row_at, if_pos rfl]
      have e1 : iv2 84 = iv 84 := by
        have h1' := h1
        have h2' := h2
        rw [up_row] at h1' h2'
        rw [h2', row_ne (by decide), h1', row_ne (by omega)]
      rw [e2]
      refine mk_X11_undo (isTwo_t ht ⟨fun z => absurd z (by decide), fun _ => ⟨vp_in_nI ht (by decide), ?_⟩⟩)
      rw [nI_clamp (by omega), e1, lnM hM.1 ht]
      refine ⟨fun z1 => absurd z1 z, fun _ => ⟨vp_in_nI ht (by decide), vp_in_nI ht (by decide), fun iv3 h3 => ⟨vp_in_nI ht (by decide), ?_⟩⟩⟩
      rw [pk_sub (by omega)] at h3
      refine ⟨?_, hQ _ (both_N hC hM ht (by omega) h1 h2 h3)⟩
      rw [up_row] at h3
      rw [h3, row_at, if_pos rfl]
theorem op_fault (h : INV iv) : LSt X 68 150 [] iv := by
  intro Q hQ
  have hI := h
  obtain ⟨T, D, S, F, hC, hM⟩ := h
  exact mk_X10_fault (sp_faultC hC.1 (mk_X11_fault (sp_faultM hM.1 ⟨rfl, hQ _ hI⟩)))
theorem op_field {x y z : Int32} (h : INV iv) : LSt X 70 142 [.int x, .int y, .int z] iv := by
  intro Q hQ
  rcases rng x 16 (by decide) with hx | ⟨a, ha, rfl⟩
  · exact mk_X10_field (wi_f hx ⟨fun _ => mk_X11_field (in_f (by decide) hx ⟨fun _ => ⟨rfl, hQ _ h⟩, fun z => absurd rfl z⟩), fun z => absurd rfl z⟩)
  · rcases rng y 16 (by decide) with hy | ⟨b, hb, rfl⟩
    · exact mk_X10_field (wi_t ha (by decide) ⟨fun z => absurd z (by decide), fun _ => wi_f hy ⟨fun _ => mk_X11_field (in_t (by omega) (by decide) ⟨fun z => absurd z (by decide), fun _ => in_f (by decide) hy ⟨fun _ => ⟨rfl, hQ _ h⟩, fun z => absurd rfl z⟩⟩), fun z => absurd rfl z⟩⟩)
    · rcases rng z 3 (by decide) with hz | ⟨c, hc, rfl⟩
      · exact mk_X10_field (wi_t ha (by decide) ⟨fun z => absurd z (by decide), fun _ => wi_t hb (by decide) ⟨fun z => absurd z (by decide), fun _ => wi_f hz ⟨fun _ => mk_X11_field (in_t (by omega) (by decide) ⟨fun z => absurd z (by decide), fun _ => in_t (by omega) (by decide) ⟨fun z => absurd z (by decide), fun _ => in_f (by decide) hz ⟨fun _ => ⟨rfl, hQ _ h⟩, fun z => absurd rfl z⟩⟩⟩), fun z => absurd rfl z⟩⟩⟩)
      · have ea : (⟨a, ha⟩ : G).1 = a := rfl
        have md : ∀ v : Int32, wc X 141 [.int (nI a), .int (nI b), .int (nI c)] iv (Ri (fun r8 iv7 => v = r8 ∧ Q iv7)) → wc X 142 [.ref 74, .int (nI a), .int (nI b), .int (nI c)] iv (Ri (fun w iv2 => v = w ∧ Q iv2)) := fun v q => mk_X11_field (in_t (by omega) (by decide) ⟨fun z => absurd z (by decide), fun _ => in_t (by omega) (by decide) ⟨fun z => absurd z (by decide), fun _ => in_t (by omega) (by decide) ⟨fun z => absurd z (by decide), fun _ => q⟩⟩⟩)
        refine mk_X10_field (wi_t ha (by decide) ⟨fun z => absurd z (by decide), fun _ => wi_t hb (by decide) ⟨fun z => absurd z (by decide), fun _ => wi_t hc (by decide) ⟨fun z => absurd z (by decide), fun _ => ⟨fun z1 => ?_, fun z1 => ⟨fun z2 => ?_, fun z2 => ?_⟩⟩⟩⟩⟩)
        · exact sp_times ⟨a, ha⟩ ⟨b, hb⟩ (md _ (mk_X11_fieldBy ⟨fun _ => sp_mult ⟨a, ha⟩ ⟨b, hb⟩ ⟨rfl, hQ _ h⟩, fun q => absurd z1 q⟩))
        · by_cases e : b = 0
          · subst e
            exact pui (as := [nI a, nI 0]) (by decide) (pu_quot0 ⟨a, ha⟩) (md _ (mk_X11_fieldBy ⟨fun q => absurd q z1, fun _ => ⟨fun _ => ⟨fun _ => ⟨rfl, hQ _ h⟩, fun q => absurd rfl q⟩, fun q => absurd z2 q⟩⟩))
          · have hne : (⟨b, hb⟩ : G) ≠ 0 := fun q => e (congrArg Fin.val q)
            exact sp_quot ⟨a, ha⟩ ⟨b, hb⟩ hne (md _ (mk_X11_fieldBy ⟨fun q => absurd q z1, fun _ => ⟨fun _ => ⟨fun q => absurd q (nI_ne0 (by omega) (by omega)), fun _ => sp_inverse ⟨b, hb⟩ hne (sp_mult ⟨a, ha⟩ (gi ⟨b, hb⟩) ⟨rfl, hQ _ h⟩)⟩, fun q => absurd z2 q⟩⟩))
        · exact sp_raised ⟨a, ha⟩ ⟨b, hb⟩ (md _ (mk_X11_fieldBy ⟨fun q => absurd q z1, fun _ => ⟨fun q => absurd q z2, fun _ => sp_often ⟨a, ha⟩ (by omega) ⟨rfl, hQ _ h⟩⟩⟩))
end TEXTOPS
