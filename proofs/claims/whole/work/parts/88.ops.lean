/-! THE QUERIES -/
section OPS
variable {X : Nat × (Nat → Int32)} {iv : IV}
theorem INV_m {iv1 iv2 : IV} {T : TX} {D : DM} {S : SH} {F : Int32} (hC : CI iv1 T D S F) (hM : MI iv2 T D S F) (h : ∀ a, a < 74 → iv2 a = iv1 a) : INV iv2 := ⟨T, D, S, F, CI_of hC h, hM⟩
theorem op_mark {x : Int32} (h : INV iv) : LSt X 71 168 [.int x] iv := by
  intro Q hQ
  obtain ⟨T, D, S, F, hC, hM⟩ := h
  rcases rng x 4 (by decide) with hx | ⟨w, hw, rfl⟩
  · exact mk_X10_mark (wi_f hx ⟨fun _ => mk_X11_mark (sp_makesI hM (fun iv1 a1 m1 k1 => in_f (by decide) hx ⟨fun _ => ⟨rfl, hQ _ (INV_m hC m1 a1)⟩, fun z => absurd rfl z⟩)), fun z => absurd rfl z⟩)
  · refine mk_X10_mark (wi_t hw (by decide) ⟨fun z => absurd z (by decide), fun _ => sp_bringI (by decide) hC (fun iv1 a1 c1 s1 => sp_markNow hw (CSt_M s1 (by decide)) ?_)⟩)
    exact mk_X11_mark (sp_makesI (MI_hi hM a1) (fun iv2 a2 m2 k2 => in_t (by omega) (by decide) ⟨fun z => absurd z (by decide), fun _ => sp_markBy hw k2 ⟨rfl, hQ _ (INV_m c1 m2 a2)⟩⟩))
theorem op_symbol {x y : Int32} (h : INV iv) : LSt X 72 170 [.int x, .int y] iv := by
  intro Q hQ
  obtain ⟨T, D, S, F, hC, hM⟩ := h
  rcases rng x 3 (by decide) with hx | ⟨b, hb, rfl⟩
  · exact mk_X10_symbol (wi_f hx ⟨fun _ => mk_X11_symbol (sp_makesI hM (fun iv1 a1 m1 k1 => in_f (by decide) hx ⟨fun _ => ⟨rfl, hQ _ (INV_m hC m1 a1)⟩, fun z => absurd rfl z⟩)), fun z => absurd rfl z⟩)
  · rcases rng y 14 (by decide) with hy | ⟨q, hq, rfl⟩
    · exact mk_X10_symbol (wi_t hb (by decide) ⟨fun z => absurd z (by decide), fun _ => wi_f hy ⟨fun _ => mk_X11_symbol (sp_makesI hM (fun iv1 a1 m1 k1 => in_t (by omega) (by decide) ⟨fun z => absurd z (by decide), fun _ => in_f (by decide) hy ⟨fun _ => ⟨rfl, hQ _ (INV_m hC m1 a1)⟩, fun z => absurd rfl z⟩⟩)), fun z => absurd rfl z⟩⟩)
    · refine mk_X10_symbol (wi_t hb (by decide) ⟨fun z => absurd z (by decide), fun _ => wi_t hq (by decide) ⟨fun z => absurd z (by decide), fun _ => sp_bringI (by decide) hC (fun iv1 a1 c1 s1 => sp_symbolNow hb hq (CSt_M s1 (by decide)) ?_)⟩⟩)
      exact mk_X11_symbol (sp_makesI (MI_hi hM a1) (fun iv2 a2 m2 k2 => in_t (by omega) (by decide) ⟨fun z => absurd z (by decide), fun _ => in_t (by omega) (by decide) ⟨fun z => absurd z (by decide), fun _ => sp_symbolBy hb hq k2 ⟨rfl, hQ _ (INV_m c1 m2 a2)⟩⟩⟩))
theorem wI_o (o : Option Nat) (ho : ∀ i, o = some i → i < 4) : ∃ w, w < 5 ∧ oI o = wI w := by
  cases o with
  | none => exact ⟨4, by decide, rfl⟩
  | some i => exact ⟨i, by have := ho i rfl; omega, (wI_lt (ho i rfl)).symm⟩
theorem op_dots {x y : Int32} (h : INV iv) : LSt X 73 173 [.int x, .int y] iv := by
  intro Q hQ
  obtain ⟨T, D, S, F, hC, hM⟩ := h
  rcases rngN x 4 (by decide) with ⟨hx, hx2⟩ | ⟨o, ho, rfl⟩
  · exact mk_X10_dots ⟨fun z => absurd z hx, fun _ => wi_f hx2 ⟨fun _ => mk_X11_dots (sp_makesI hM (fun iv1 a1 m1 k1 => in_m_f (by decide) hx hx2 ⟨fun _ => ⟨rfl, hQ _ (INV_m hC m1 a1)⟩, fun z => absurd rfl z⟩)), fun z => absurd rfl z⟩⟩
  · obtain ⟨w, hw, hwo⟩ := wI_o o ho
    have go : ∀ P : Int32 → IV → Prop, wp X (0, 0) 73 7 [some (.ref 1), some (.int (oI o)), some (.int y)] [] iv (Ri P) → wc X 73 [.ref 1, .int (oI o), .int y] iv (Ri P) := fun P q => mk_X10_dots ⟨fun _ => q, fun z => by
      cases o with
      | none => exact absurd rfl z
      | some i => exact wi_t (ho i rfl) (by decide) ⟨fun z => absurd z (by decide), fun _ => q⟩⟩
    have hle : ∀ i, o = some i → i ≤ 3 := fun i hi => by have := ho i hi; omega
    refine go _ (mk_X10_dots_7 ?_)
    rcases rng y 15 (by decide) with hy | ⟨r, hr, rfl⟩
    · exact wi_f hy ⟨fun _ => mk_X11_dots (sp_makesI hM (fun iv1 a1 m1 k1 => in_m_t hle (by decide) ⟨fun z => absurd z (by decide), fun _ => isPlace_f hy ⟨fun _ => ⟨rfl, hQ _ (INV_m hC m1 a1)⟩, fun z => absurd rfl z⟩⟩)), fun z => absurd rfl z⟩
    · refine wi_t hr (by decide) ⟨fun z => absurd z (by decide), fun _ => sp_bringI (by decide) hC (fun iv1 a1 c1 s1 => ?_)⟩
      rw [hwo]
      refine sp_dotsNow hw hr (CSt_M s1 (by decide)) ?_
      rw [← hwo]
      refine mk_X11_dots (sp_makesI (MI_hi hM a1) (fun iv2 a2 m2 k2 => in_m_t hle (by decide) ⟨fun z => absurd z (by decide), fun _ => isPlace_t hr ⟨fun z => absurd z (by decide), fun _ => ?_⟩⟩))
      rw [hwo]
      exact sp_dotsBy hw hr k2 ⟨rfl, hQ _ (INV_m c1 m2 a2)⟩
theorem op_penalty {x : Int32} (h : INV iv) : LSt X 74 175 [.int x] iv := by
  intro Q hQ
  obtain ⟨T, D, S, F, hC, hM⟩ := h
  rcases rng x 4 (by decide) with hx | ⟨w, hw, rfl⟩
  · exact mk_X10_penalty (wi_f hx ⟨fun _ => mk_X11_penalty (sp_makesI hM (fun iv1 a1 m1 k1 => in_f (by decide) hx ⟨fun _ => ⟨rfl, hQ _ (INV_m hC m1 a1)⟩, fun z => absurd rfl z⟩)), fun z => absurd rfl z⟩)
  · refine mk_X10_penalty (wi_t hw (by decide) ⟨fun z => absurd z (by decide), fun _ => sp_bringI (by decide) hC (fun iv1 a1 c1 s1 => sp_penaltyNow hw (CSt_M s1 (by decide)) ?_)⟩)
    exact mk_X11_penalty (sp_makesI (MI_hi hM a1) (fun iv2 a2 m2 k2 => in_t (by omega) (by decide) ⟨fun z => absurd z (by decide), fun _ => sp_penaltyBy hw k2 ⟨rfl, hQ _ (INV_m c1 m2 a2)⟩⟩))
theorem op_place {x y z : Int32} (h : INV iv) : LSt X 75 177 [.int x, .int y, .int z] iv := by
  intro Q hQ
  obtain ⟨T, D, S, F, hC, hM⟩ := h
  rcases rng x 15 (by decide) with hx | ⟨r, hr, rfl⟩
  · exact mk_X10_place (isDot_f1 hx ⟨fun _ => mk_X11_place (sp_makesI hM (fun iv1 a1 m1 k1 => isPlace_f hx ⟨fun _ => ⟨rfl, hQ _ (INV_m hC m1 a1)⟩, fun z => absurd rfl z⟩)), fun z => absurd rfl z⟩)
  · rcases rng y 15 (by decide) with hy | ⟨c, hc, rfl⟩
    · exact mk_X10_place (isDot_f2 hr hy ⟨fun _ => mk_X11_place (sp_makesI hM (fun iv1 a1 m1 k1 => isPlace_t hr ⟨fun z => absurd z (by decide), fun _ => isPlace_f hy ⟨fun _ => ⟨rfl, hQ _ (INV_m hC m1 a1)⟩, fun z => absurd rfl z⟩⟩)), fun z => absurd rfl z⟩)
    · rcases rng z 2 (by decide) with hz | ⟨w, hw, rfl⟩
      · exact mk_X10_place (isDot_t hr hc ⟨fun z => absurd z (by decide), fun _ => wi_f hz ⟨fun _ => mk_X11_place (sp_makesI hM (fun iv1 a1 m1 k1 => isPlace_t hr ⟨fun z => absurd z (by decide), fun _ => isPlace_t hc ⟨fun z => absurd z (by decide), fun _ => isTwo_f hz ⟨fun _ => ⟨rfl, hQ _ (INV_m hC m1 a1)⟩, fun z => absurd rfl z⟩⟩⟩)), fun z => absurd rfl z⟩⟩)
      · have hi : 15 * r + c < 225 := by omega
        have mdl : ∀ v : Int32, (∀ iv1 : IV, FT iv1 → ∀ P : Int32 → IV → Prop, P v iv1 → wc X 176 [.ref 74, .int (nI (15 * r + c)), .int (nI w)] iv1 (Ri P)) → wc X 177 [.ref 74, .int (nI r), .int (nI c), .int (nI w)] iv (Ri (fun u iv2 => v = u ∧ Q iv2)) := by
          intro v hv
          refine mk_X11_place (sp_makesI hM (fun iv1 a1 m1 k1 => isPlace_t hr ⟨fun z => absurd z (by decide), fun _ => isPlace_t hc ⟨fun z => absurd z (by decide), fun _ => isTwo_t hw ⟨fun z => absurd z (by decide), fun _ => ?_⟩⟩⟩))
          rw [pk_mul, nI_add]
          exact hv iv1 k1.1 _ ⟨rfl, hQ _ (INV_m hC m1 a1)⟩
        refine mk_X10_place (isDot_t hr hc ⟨fun z => absurd z (by decide), fun _ => wi_t hw (by decide) ⟨fun z => absurd z (by decide), fun _ v5 h5 => ?_⟩⟩)
        rw [pk_mul, nI_add] at h5
        subst h5
        have hfr := frN_ok (15 * r + c) hi
        refine ⟨fun z => ⟨vp_in_nI hi (by decide), ?_⟩, fun z => mk_X9_symbolAt ⟨vp_in_nI hi (by decide), fun v1 h1 => ?_⟩⟩
        · have e0 : w = 0 := Classical.byContradiction fun q => nI_ne0 (by omega) (by omega) z
          subst e0
          rw [nI_clamp (by omega), hC.2.1.1 _ hi]
          refine mdl _ (fun iv1 f1 P p => mk_X11_placeBy ⟨vp_in_nI hi (by decide), ?_⟩)
          rw [nI_clamp (by omega), f1.2.1 _ hi]
          refine ⟨fun z => by rw [z] at p; exact p, fun z => ⟨fun z => absurd z (by decide), fun _ => mk_X11_placeBy_17 ⟨fun _ => ⟨vp_in_nI hi (by decide), ?_⟩, fun z => absurd rfl z⟩⟩⟩
          rw [nI_clamp (by omega), f1.2.1 _ hi]
          exact p
        · have e1 : w = 1 := by
            have : w ≠ 0 := fun q => z (by rw [q]; rfl)
            omega
          subst e1
          rw [nI_clamp (by omega), hC.2.1.1 _ hi] at h1
          subst h1
          rcases hfr with hn | ⟨hk, -⟩
          · rw [hn]
            refine ⟨fun _ => mdl _ (fun iv1 f1 P p => mk_X11_placeBy ⟨vp_in_nI hi (by decide), ?_⟩), fun z => absurd rfl z⟩
            rw [nI_clamp (by omega), f1.2.1 _ hi, hn]
            exact ⟨fun _ => p, fun z => absurd rfl z⟩
          · rw [nI_leI (by decide) (by omega)]
            refine ⟨fun z => absurd z (m1_ne (by omega)), fun _ => ⟨fun z2 => mdl _ (fun iv1 f1 P p => mk_X11_placeBy ⟨vp_in_nI hi (by decide), ?_⟩), fun z2 => ?_⟩⟩
            · rw [nI_clamp (by omega), f1.2.1 _ hi, nI_leI (by omega) (by decide)]
              exact ⟨fun z => absurd z (m1_ne (by omega)), fun _ => ⟨fun _ => ⟨vp_in_nI hi (by decide), fun z => absurd z (by omega), fun _ => p⟩, fun z => absurd rfl z⟩⟩
            · rw [pk_div (by omega) (by decide) (by decide)]
              refine mdl _ (fun iv1 f1 P p => mk_X11_placeBy ⟨vp_in_nI hi (by decide), ?_⟩)
              rw [nI_clamp (by omega), f1.2.1 _ hi, nI_leI (by omega) (by decide)]
              refine ⟨fun z => absurd z (m1_ne (by omega)), fun _ => ⟨fun _ => ⟨vp_in_nI hi (by decide), fun _ => mk_X11_placeBy_17 ⟨fun z => absurd z (by decide), fun _ => ⟨vp_in_nI hi (by decide), ?_⟩⟩, fun z => absurd z (by omega)⟩, fun z => absurd rfl z⟩⟩
              rw [nI_clamp (by omega), f1.2.1 _ hi, pk_div (by omega) (by decide) (by decide)]
              exact p
theorem op_seen {x y : Int32} (h : INV iv) : LSt X 80 186 [.int x, .int y] iv := by
  intro Q hQ
  obtain ⟨T, D, S, F, hC, hM⟩ := h
  rcases rng x 15 (by decide) with hx | ⟨r, hr, rfl⟩
  · exact mk_X10_seen (isDot_f1 hx ⟨fun _ => mk_X11_seen (sp_makesI hM (fun iv1 a1 m1 k1 => isPlace_f hx ⟨fun _ => ⟨rfl, hQ _ (INV_m hC m1 a1)⟩, fun z => absurd rfl z⟩)), fun z => absurd rfl z⟩)
  · rcases rng y 15 (by decide) with hy | ⟨c, hc, rfl⟩
    · exact mk_X10_seen (isDot_f2 hr hy ⟨fun _ => mk_X11_seen (sp_makesI hM (fun iv1 a1 m1 k1 => isPlace_t hr ⟨fun z => absurd z (by decide), fun _ => isPlace_f hy ⟨fun _ => ⟨rfl, hQ _ (INV_m hC m1 a1)⟩, fun z => absurd rfl z⟩⟩)), fun z => absurd rfl z⟩)
    · refine mk_X10_seen (isDot_t hr hc ⟨fun z => absurd z (by decide), fun _ => sp_bringI (by decide) hC (fun iv1 a1 c1 s1 => sp_seenNow hr hc (CSt_M s1 (by decide)) c1.2.2.2.1.1 ?_)⟩)
      refine mk_X11_seen (sp_makesI (MI_hi hM a1) (fun iv2 a2 m2 k2 => isPlace_t hr ⟨fun z => absurd z (by decide), fun _ => isPlace_t hc ⟨fun z => absurd z (by decide), fun _ => ?_⟩⟩))
      rw [k2.2.2.1, pk_mul, nI_add]
      cases ht : th T with
      | true => exact ⟨fun z => absurd z (by decide), fun _ => sp_seenM (by omega) m2 k2 ht ⟨rfl, hQ _ (INV_m c1 m2 a2)⟩⟩
      | false => exact ⟨fun _ => ⟨by unfold aSeen; rw [ht]; rfl, hQ _ (INV_m c1 m2 a2)⟩, fun z => absurd rfl z⟩
theorem op_why (h : INV iv) : LSt X 81 200 [] iv := by
  intro Q hQ
  obtain ⟨T, D, S, F, hC, hM⟩ := h
  refine mk_X10_why (sp_bringI (by decide) hC (fun iv1 a1 c1 s1 => mk_X11_why (sp_readsI (MI_hi hM a1) (fun iv2 a2 m2 k2 r2 => ⟨?_, hQ _ (INV_m c1 m2 a2)⟩))))
  rw [(CSt_R s1 (by decide)).1, r2.1]
theorem op_told {x : Int32} (h : INV iv) : LSt X 82 203 [.int x] iv := by
  intro Q hQ
  obtain ⟨T, D, S, F, hC, hM⟩ := h
  rcases rngN x 14 (by decide) with ⟨hx, hx2⟩ | ⟨o, ho, rfl⟩
  · exact mk_X10_told ⟨fun z => absurd z hx, fun _ => wi_f hx2 ⟨fun _ => mk_X11_told (sp_readsI hM (fun iv1 a1 m1 k1 r1 => in_m_f (by decide) hx hx2 ⟨fun _ => ⟨rfl, hQ _ (INV_m hC m1 a1)⟩, fun z => absurd rfl z⟩)), fun z => absurd rfl z⟩⟩
  · have go : wc X 109 [.ref 1, .int (nI 1)] iv (Rv (fun iv1 => wc X 103 [.ref 1, .int (oI o)] iv1 (Ri (fun v iv2 => wc X 203 [.ref 74, .int (oI o)] iv2 (Ri (fun w iv3 => v = w ∧ Q iv3)))))) := sp_bringI (by decide) hC (fun iv1 a1 c1 s1 => sp_toldNow ho (CSt_R s1 (by decide)) (mk_X11_told (sp_readsI (MI_hi hM a1) (fun iv2 a2 m2 k2 r2 => in_m_t (fun i hi => by have := ho i hi; omega) (by decide) ⟨fun z => absurd z (by decide), fun _ => sp_toldBy ho r2 ⟨rfl, hQ _ (INV_m c1 m2 a2)⟩⟩))))
    refine mk_X10_told ⟨fun _ => go, fun z => ?_⟩
    cases o with
    | none => exact absurd rfl z
    | some i => exact wi_t (ho i rfl) (by decide) ⟨fun z => absurd z (by decide), fun _ => go⟩
theorem op_format {x : Int32} (h : INV iv) : LSt X 83 205 [.int x] iv := by
  intro Q hQ
  obtain ⟨T, D, S, F, hC, hM⟩ := h
  rcases rng x 2 (by decide) with hx | ⟨w, hw, rfl⟩
  · exact mk_X10_format (wi_f hx ⟨fun _ => mk_X11_format (sp_readsI hM (fun iv1 a1 m1 k1 r1 => isTwo_f hx ⟨fun _ => ⟨rfl, hQ _ (INV_m hC m1 a1)⟩, fun z => absurd rfl z⟩)), fun z => absurd rfl z⟩)
  · refine mk_X10_format (wi_t hw (by decide) ⟨fun z => absurd z (by decide), fun _ => sp_bringI (by decide) hC (fun iv1 a1 c1 s1 => sp_formatNowC hw (CSt_R s1 (by decide)) ?_)⟩)
    exact mk_X11_format (sp_readsI (MI_hi hM a1) (fun iv2 a2 m2 k2 r2 => isTwo_t hw ⟨fun z => absurd z (by decide), fun _ => sp_formatBy hw r2 ⟨rfl, hQ _ (INV_m c1 m2 a2)⟩⟩))
theorem op_block {x y : Int32} (h : INV iv) : LSt X 84 208 [.int x, .int y] iv := by
  intro Q hQ
  obtain ⟨T, D, S, F, hC, hM⟩ := h
  rcases rng x 3 (by decide) with hx | ⟨b, hb, rfl⟩
  · exact mk_X10_block (wi_f hx ⟨fun _ => mk_X11_block (sp_readsI hM (fun iv1 a1 m1 k1 r1 => in_f (by decide) hx ⟨fun _ => ⟨rfl, hQ _ (INV_m hC m1 a1)⟩, fun z => absurd rfl z⟩)), fun z => absurd rfl z⟩)
  · rcases rng y 3 (by decide) with hy | ⟨w, hw, rfl⟩
    · exact mk_X10_block (wi_t hb (by decide) ⟨fun z => absurd z (by decide), fun _ => wi_f hy ⟨fun _ => mk_X11_block (sp_readsI hM (fun iv1 a1 m1 k1 r1 => in_t (by omega) (by decide) ⟨fun z => absurd z (by decide), fun _ => in_f (by decide) hy ⟨fun _ => ⟨rfl, hQ _ (INV_m hC m1 a1)⟩, fun z => absurd rfl z⟩⟩)), fun z => absurd rfl z⟩⟩)
    · refine mk_X10_block (wi_t hb (by decide) ⟨fun z => absurd z (by decide), fun _ => wi_t hw (by decide) ⟨fun z => absurd z (by decide), fun _ => sp_bringI (by decide) hC (fun iv1 a1 c1 s1 => sp_blockNow hb hw (CSt_R s1 (by decide)) ?_)⟩⟩)
      exact mk_X11_block (sp_readsI (MI_hi hM a1) (fun iv2 a2 m2 k2 r2 => in_t (by omega) (by decide) ⟨fun z => absurd z (by decide), fun _ => in_t (by omega) (by decide) ⟨fun z => absurd z (by decide), fun _ => sp_blockBy hb hw r2 ⟨rfl, hQ _ (INV_m c1 m2 a2)⟩⟩⟩))
theorem op_mended {x y : Int32} (h : INV iv) : LSt X 85 210 [.int x, .int y] iv := by
  intro Q hQ
  obtain ⟨T, D, S, F, hC, hM⟩ := h
  rcases rng x 3 (by decide) with hx | ⟨b, hb, rfl⟩
  · exact mk_X10_mended (wi_f hx ⟨fun _ => mk_X11_mended (sp_readsI hM (fun iv1 a1 m1 k1 r1 => in_f (by decide) hx ⟨fun _ => ⟨rfl, hQ _ (INV_m hC m1 a1)⟩, fun z => absurd rfl z⟩)), fun z => absurd rfl z⟩)
  · rcases rng y 14 (by decide) with hy | ⟨q, hq, rfl⟩
    · exact mk_X10_mended (wi_t hb (by decide) ⟨fun z => absurd z (by decide), fun _ => wi_f hy ⟨fun _ => mk_X11_mended (sp_readsI hM (fun iv1 a1 m1 k1 r1 => in_t (by omega) (by decide) ⟨fun z => absurd z (by decide), fun _ => in_f (by decide) hy ⟨fun _ => ⟨rfl, hQ _ (INV_m hC m1 a1)⟩, fun z => absurd rfl z⟩⟩)), fun z => absurd rfl z⟩⟩)
    · refine mk_X10_mended (wi_t hb (by decide) ⟨fun z => absurd z (by decide), fun _ => wi_t hq (by decide) ⟨fun z => absurd z (by decide), fun _ => sp_bringI (by decide) hC (fun iv1 a1 c1 s1 => sp_mendedNow hb hq (CSt_R s1 (by decide)) ?_)⟩⟩)
      exact mk_X11_mended (sp_readsI (MI_hi hM a1) (fun iv2 a2 m2 k2 r2 => in_t (by omega) (by decide) ⟨fun z => absurd z (by decide), fun _ => in_t (by omega) (by decide) ⟨fun z => absurd z (by decide), fun _ => sp_mendedBy hb hq r2 ⟨rfl, hQ _ (INV_m c1 m2 a2)⟩⟩⟩))
theorem op_straw {x : Int32} (h : INV iv) : LSt X 86 215 [.int x] iv := by
  intro Q hQ
  obtain ⟨T, D, S, F, hC, hM⟩ := h
  rcases rng x 2 (by decide) with hx | ⟨w, hw, rfl⟩
  · exact mk_X10_straw (wi_f hx ⟨fun _ => mk_X11_straw (sp_readsI hM (fun iv1 a1 m1 k1 r1 => isTwo_f hx ⟨fun _ => ⟨rfl, hQ _ (INV_m hC m1 a1)⟩, fun z => absurd rfl z⟩)), fun z => absurd rfl z⟩)
  · refine mk_X10_straw (wi_t hw (by decide) ⟨fun z => absurd z (by decide), fun _ => sp_bringI (by decide) hC (fun iv1 a1 c1 s1 => sp_strawNowC hw (CSt_S s1 (by decide)) ?_)⟩)
    exact mk_X11_straw (sp_readsI (MI_hi hM a1) (fun iv2 a2 m2 k2 r2 => isTwo_t hw ⟨fun z => absurd z (by decide), fun _ => sp_strawM m2 k2 r2 (fun iv3 f3 r3 => sp_lineOf hw ⟨rfl, hQ _ (INV_m c1 (MI_r m2 f3) (fun a ha => by rw [f3.1 a (by omega) (by omega), a2 a ha]))⟩)⟩))
theorem op_count {x : Int32} (h : INV iv) : LSt X 93 217 [.int x] iv := by
  intro Q hQ
  obtain ⟨T, D, S, F, hC, hM⟩ := h
  rcases rng x 9 (by decide) with hx | ⟨w, hw, rfl⟩
  · exact mk_X10_count (wi_f hx ⟨fun _ => sp_countF hx hM (fun iv1 a1 m1 => ⟨rfl, hQ _ (INV_m hC m1 a1)⟩), fun z => absurd rfl z⟩)
  · refine mk_X10_count (wi_t hw (by decide) ⟨fun z => absurd z (by decide), fun _ => ⟨fun z => ?_, fun z => ?_⟩⟩)
    · exact sp_bringI (by decide) hC (fun iv1 a1 c1 s1 => sp_countNow hw c1 (CSt_M s1 (by decide)) (fun _ => (CSt_R s1 (by decide)).1) (sp_countM hw (MI_hi hM a1) (fun iv2 a2 m2 k2 r2 => ⟨rfl, hQ _ (INV_m c1 m2 a2)⟩)))
    · exact sp_bringI (by decide) hC (fun iv1 a1 c1 s1 => sp_countNow hw c1 (CSt_M s1 (by decide)) (fun q => absurd (by rw [q]) z) (sp_countM hw (MI_hi hM a1) (fun iv2 a2 m2 k2 r2 => ⟨rfl, hQ _ (INV_m c1 m2 a2)⟩)))
theorem pu_min15 : ∀ k, k < 61 → mm_ek 224 [nI k, nI 15] = some (nI (min k 15)) := by decide +kernel
theorem MK_of {iv iv' : IV} {T : TX} (hK : MK iv T) (h : ∀ a, 74 ≤ a → a ≠ 77 → iv' a = iv a) : MK iv' T := by
  unfold MK FT MF
  rw [h 74 (by decide) (by decide), h 79 (by decide) (by decide), h 80 (by decide) (by decide), h 81 (by decide) (by decide), h 85 (by decide) (by decide), h 86 (by decide) (by decide), h 87 (by decide) (by decide), h 88 (by decide) (by decide)]
  exact hK
theorem op_write {x y : Int32} (h : INV iv) : LSt X 92 216 [.int x, .int y] iv := by
  intro Q hQ
  have hI := h
  obtain ⟨T, D, S, F, hC, hM⟩ := h
  rcases rng x 15 (by decide) with hx | ⟨r, hr, rfl⟩
  · exact mk_X10_write (wi_f hx ⟨fun _ => mk_X11_write (isPlace_f hx ⟨fun _ => ⟨rfl, hQ _ hI⟩, fun z => absurd rfl z⟩), fun z => absurd rfl z⟩)
  · rcases rng y 4 (by decide) with hy | ⟨s, hs, rfl⟩
    · exact mk_X10_write (wi_t hr (by decide) ⟨fun z => absurd z (by decide), fun _ => wi_f hy ⟨fun _ => mk_X11_write (isPlace_t hr ⟨fun z => absurd z (by decide), fun _ => isSheet_f hy ⟨fun _ => ⟨rfl, hQ _ hI⟩, fun z => absurd rfl z⟩⟩), fun z => absurd rfl z⟩⟩)
    · obtain ⟨k1, k2, k3, k4⟩ := k65 hs
      refine mk_X10_write (wi_t hr (by decide) ⟨fun z => absurd z (by decide), fun _ => wi_t hs (by decide) ⟨fun z => absurd z (by decide), fun _ => ⟨vp_in_nI hs (by decide), fun a5 h5 => ?_⟩⟩⟩)
      rw [nI_clamp (by omega), k1] at h5
      subst h5
      refine ⟨k2, ?_⟩
      by_cases hf : S.1 s < 3
      · rw [((hC.2.2.2.2.1 s hs).1 hf).1]
        refine ⟨fun z => absurd z (by decide), fun _ => sp_bringI (by decide) hC (fun iv1 a1 c1 s1 => ?_)⟩
        have M1 := CSt_M s1 (by decide)
        have hM1 := MI_hi hM a1
        rw [M1.2.1]
        cases ht : th T with
        | false =>
          refine ⟨fun _ => mk_X11_write (isPlace_t hr ⟨fun z => absurd z (by decide), fun _ => isSheet_t hs ⟨fun z => absurd z (by decide), fun _ => ⟨vp_in_nI hs (by decide), ?_⟩⟩⟩), fun z => absurd rfl z⟩
          rw [nI_clamp (by omega), ((hM1.2.2.1 s hs).1 hf).1]
          refine ⟨fun _ => sp_makesI hM1 (fun iv2 a2 m2 q2 => ?_), fun z => absurd (nI_pos' (by omega)) z⟩
          rw [q2.2.2.1, ht]
          exact ⟨fun _ => ⟨rfl, hQ _ (INV_m c1 m2 a2)⟩, fun z => absurd rfl z⟩
        | true =>
          obtain ⟨e1, e2, e3, e4, e5⟩ := (c1.2.2.2.2.1 s hs).1 hf
          refine ⟨fun z => absurd z (by decide), fun _ => ⟨k2, ?_⟩⟩
          rw [e3]
          refine pui (as := [nI (S.2.1 s), nI 15]) (by decide) (pu_min15 _ (by omega)) ?_
          refine lup (τ := IV) (W := fun k iv2 => wp X (0, 0) 92 38 [some (.ref 1), some (.int (nI r)), none, some (.ref (66 + 2 * s)), some (.int (nI (min (S.2.1 s) 15))), some (.int (nI k))] [] iv2 (Ri (fun v iv1 => wc X 216 [.ref 74, .int (nI r), .int (nI s)] iv1 (Ri (fun w iv2 => v = w ∧ Q iv2))))) (I := fun k iv2 => (∀ a, a ≠ 67 + 2 * s → iv2 a = iv1 a) ∧ (∀ j, k ≤ j → iv2 (67 + 2 * s) j = iv1 (67 + 2 * s) j) ∧ ∀ j, j < k → iv2 (67 + 2 * s) j = cutV (S.1 s) (aSeen T D (15 * r + j))) (min (S.2.1 s) 15) ?_ ?_ (min (S.2.1 s) 15) 0 iv1 (by omega) ⟨fun _ _ => rfl, fun _ _ => rfl, fun j hj => absurd hj (by omega)⟩
          · rintro iv2 ⟨a2, b2, d2⟩
            refine mk_X10_write_38 ⟨fun _ => ?_, fun z => absurd (nI_le (Nat.le_refl _) (by omega)) z⟩
            have hC2 : CI iv2 T D (shI S s (fun j => if j < min (S.2.1 s) 15 then cutV (S.1 s) (aSeen T D (15 * r + j)) else S.2.2 s j)) F := CI_sh c1 (CSh_I c1.2.2.2.2.1 a2 (fun _ j hj => by
              by_cases q : j < min (S.2.1 s) 15
              · rw [if_pos q]; exact d2 j q
              · rw [if_neg q, b2 j (by omega)]; exact e5 j hj)) (fun a ha => a2 a (by omega))
            have hM2 : MI iv2 T D S F := MI_hi hM1 (fun a ha => a2 a (by omega))
            obtain ⟨g1, g2, g3, g4⟩ := (hM2.2.2.1 s hs).1 hf
            refine mk_X11_write (isPlace_t hr ⟨fun z => absurd z (by decide), fun _ => isSheet_t hs ⟨fun z => absurd z (by decide), fun _ => ⟨vp_in_nI hs (by decide), ?_⟩⟩⟩)
            rw [nI_clamp (by omega), g1]
            refine ⟨fun _ => sp_makesI hM2 (fun iv3 a3 m3 q3 => ?_), fun z => absurd (nI_pos' (by omega)) z⟩
            obtain ⟨o1, o2, o3, o4⟩ := (m3.2.2.1 s hs).1 hf
            rw [q3.2.2.1, ht, o2]
            refine ⟨fun z => absurd z (by decide), fun _ => ⟨vp_in_nI hs (by decide), sp_lesser (by omega) (by decide) ?_⟩⟩
            refine lup (τ := IV) (W := fun k iv4 => wp X (0, 0) 216 33 [some (.ref 74), some (.int (nI r)), some (.int (nI s)), some (.int (nI (min (S.2.1 s) 15))), some (.int (nI k))] [] iv4 (Ri (fun w iv2 => nI (min (S.2.1 s) 15) = w ∧ Q iv2))) (I := fun k iv4 => (∀ a, a ≠ 77 → iv4 a = iv3 a) ∧ (∀ q, ¬ (60 * s ≤ q ∧ q < 60 * s + k) → iv4 77 q = iv3 77 q) ∧ ∀ j, j < k → iv4 77 (60 * s + j) = cutV (S.1 s) (aSeen T D (15 * r + j))) (min (S.2.1 s) 15) ?_ ?_ (min (S.2.1 s) 15) 0 iv3 (by omega) ⟨fun _ _ => rfl, fun _ _ => rfl, fun j hj => absurd hj (by omega)⟩
            · rintro iv4 ⟨a4, b4, d4⟩
              refine mk_X11_write_33 ⟨fun _ => ⟨rfl, hQ _ ⟨T, D, _, F, CI_of hC2 (fun a ha => by rw [a4 a (by omega), a3 a ha]), MI_sh m3 (MSh_I m3.2.2.1 hs (a4 75 (by decide)) (a4 76 (by decide)) (fun q hq => b4 q (by omega)) (fun _ j hj => ?_)) (fun a q1 q2 => a4 a (by omega))⟩⟩, fun z => absurd (nI_le (Nat.le_refl _) (by omega)) z⟩
              by_cases q : j < min (S.2.1 s) 15
              · rw [if_pos q]; exact d4 j q
              · rw [if_neg q, b4 _ (by omega)]; exact o4 j hj
            · rintro k iv4 hk ⟨a4, b4, d4⟩ nx
              have q4 : MK iv4 T := MK_of q3 (fun a _ q => a4 a q)
              have hm4 : SN iv4 (eT T D) D.2.1 := SN_MK q4 (MDr_of m3.2.1.1 (a4 91 (by decide)) (a4 92 (by decide))) ht
              refine mk_X11_write_33 ⟨fun z => absurd z (nI_ge hk (by omega)), fun _ => ⟨vp_in_nI hs (by decide), ?_⟩⟩
              rw [pk_mul, nI_add, nI_clamp (n := s) (by omega), a4 75 (by decide), o1, pk_mul, nI_add, nI_clamp (by omega)]
              refine sp_seenAt hm4 (by omega) (sp_cut hf ⟨vp_in_nI (by omega) (by decide), fun iv5 h5 => ?_⟩)
              obtain ⟨a5, b5, e5'⟩ := up_e h5
              rw [nI_add]
              refine nx iv5 ⟨fun a ha => by rw [a5 a ha, a4 a ha], fun q hq => by rw [b5 q (by omega)]; exact b4 q (by omega), fun j hj => ?_⟩
              by_cases ej : j = k
              · rw [ej, e5']; unfold aSeen; rw [ht]; rfl
              · rw [b5 _ (by omega)]; exact d4 j (by omega)
          · rintro k iv2 hk ⟨a2, b2, d2⟩ nx
            refine mk_X10_write_38 ⟨fun z => absurd z (nI_ge hk (by omega)), fun _ => ?_⟩
            refine sp_seenNow (T := T) (D := D) hr (by omega) (CM_of M1 (fun a q1 q2 => a2 a (by omega))) (CDr_of c1.2.2.2.1.1 (a2 7 (by omega)) (a2 8 (by omega))) ⟨k2, sp_put hs hf (by rw [a2 _ (by omega)]; exact e2) (by omega) (fun iv3 h3 => ?_)⟩
            obtain ⟨a3, b3, e3'⟩ := up_e h3
            rw [nI_add]
            refine nx iv3 ⟨fun a ha => by rw [a3 a ha, a2 a ha], fun j hj => by rw [b3 j (by omega)]; exact b2 j (by omega), fun j hj => ?_⟩
            by_cases ej : j = k
            · rw [ej, e3']
            · rw [b3 j ej]; exact d2 j (by omega)
      · rw [(hC.2.2.2.2.1 s hs).2 hf]
        refine ⟨fun _ => mk_X10_found (fun iv1 h1 => mk_X11_write (isPlace_t hr ⟨fun z => absurd z (by decide), fun _ => isSheet_t hs ⟨fun z => absurd z (by decide), fun _ => ⟨vp_in_nI hs (by decide), ?_⟩⟩⟩)), fun z => absurd rfl z⟩
        rw [nI_clamp (by omega), (up_e h1).1 75 (by decide), (hM.2.2.1 s hs).2 hf]
        exact ⟨fun z => absurd z no_m1, fun _ => mk_X11_finds (fun iv2 h2 => ⟨rfl, hQ _ (find_fin hC hM h1 h2)⟩)⟩
end OPS
