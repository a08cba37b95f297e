/-! THE CLASS'S STRAW, WHOLE; what is worked out when -/
section FIND
variable {X : Nat × (Nat → Int32)} {iv : IV}
set_option maxHeartbeats 1000000 in
theorem sp_find {P : IV → Prop} {D tu lo e : Nat → Bool} (he : e = fun i => xor (D i) (tu i)) (hW : WY iv) (hR : CRd iv 34 e lo) (h21 : iv 21 1 = nI 1) (hD : ∃ w, w < 4 ∧ iv 21 2 = nI w ∧ ∀ r, r < 15 → iv (28 + w) r = nI (rr D r)) (ht : ∀ r, r < 15 → iv 7 r = nI (rr tu r) ∧ iv 8 r = nI (rr lo r)) (h : ∀ iv', FRw iv iv' → iv' 48 0 = oI (str e lo) → P iv') : wc X 51 [.ref 48, .ref 34, .ref 21, .ref 6, .ref 10, .ref 14] iv (Rv P) := by
  have hle := why_le e lo
  have ro : RO 49 := Or.inr rfl
  refine mk_X7_find (fun iv1 h1 => ?_)
  rw [up_row] at h1
  have a1 : ∀ a, a ≠ 48 → iv1 a = iv a := fun a ha => by rw [h1, row_ne ha]
  have e1 : iv1 48 0 = nI 4294967295 := by rw [h1, row_at, if_pos rfl]
  clear h1
  rw [a1 34 (by decide), hR.1]
  refine ⟨fun z => ?_, fun z => ?_⟩
  · have hw : why e lo = 0 := Classical.byContradiction fun q => nI_ne0 (by omega) (by omega) z
    have hst : str e lo = stk e lo 225 := by unfold str; rw [if_pos hw]
    rw [hst] at h
    cases hf : fmt e lo with
    | none => unfold why at hw; rw [hf] at hw; cases hw
    | some f =>
      have key : ∀ m n, n + m = 225 → ∀ iv2 : IV, FRw iv iv2 → iv2 48 0 = oI (stk e lo n) → wp X (0, 0) 51 9 [some (.ref 48), some (.ref 34), some (.ref 21), some (.ref 6), some (.ref 10), some (.ref 14), some (.int (nI n)), none] [] iv2 (Rv P) := by
        intro m
        induction m with
        | zero =>
          intro n hn iv2 f2 c2
          have e' : n = 225 := by omega
          subst e'
          exact mk_X7_find_9 ⟨fun _ => h iv2 f2 c2, fun z => absurd (nI_le (Nat.le_refl 225) (by decide)) z⟩
        | succ m ih =>
          intro n hn iv2 f2 c2
          have hn225 : n < 225 := by omega
          refine mk_X7_find_9 ⟨fun z => absurd z (nI_ge hn225 (by decide)), fun _ => ?_⟩
          rw [c2]
          cases hs : stk e lo n with
          | some x =>
            have hx := stk_lt e lo n x hs
            have hfin := stk_some hs (m + 1)
            rw [show n + (m + 1) = 225 by omega] at hfin
            exact ⟨fun z => absurd z (m1_ne (by omega)), fun _ => h iv2 f2 (by rw [c2, hs, hfin])⟩
          | none =>
            have hnx := stk_next (e := e) (lo := lo) hs
            have bl := rr_lt lo (n / 15)
            refine ⟨fun _ => ?_, fun z => absurd rfl z⟩
            rw [pk_rem (by omega) (by decide) (by decide), pk_div (by omega) (by decide) (by decide), nI_clamp (by omega), f2 8 (by decide) (by decide), (ht (n / 15) (by omega)).2]
            refine ⟨vp_in_nI (by omega) (by decide), sp_bit (by omega) (by omega) ?_⟩
            rw [rr_t (by omega), show 15 * (n / 15) + n % 15 = n by omega, nI_add]
            refine ⟨fun z => ?_, fun z => mk_X9_symbolAt ⟨vp_in_nI hn225 (by decide), fun v1 hv1 => ?_⟩⟩
            · rw [bI_1] at z
              have hbd : bd e lo n = false := by unfold bd; rw [z]; rfl
              rw [hbd] at hnx
              exact ih (n + 1) (by omega) iv2 f2 (by rw [c2, hs, hnx]; rfl)
            · rw [bI_1] at z
              have hlo : lo n = false := by simpa using z
              have hbd : bd e lo n = decide (why (flp e n) lo ≠ 0) := by unfold bd; rw [hlo]; rfl
              -- the end of a round
              have yes : bd e lo n = true → ∀ iv3 iv4 : IV, FRw iv iv3 → iv4 = mm_up2 iv3 48 0 (nI n) → wp X (0, 0) 51 9 [some (.ref 48), some (.ref 34), some (.ref 21), some (.ref 6), some (.ref 10), some (.ref 14), some (.int (nI (n + 1))), none] [] iv4 (Rv P) := by
                intro hb iv3 iv4 f3 h4
                rw [up_row] at h4
                rw [hb] at hnx
                exact ih (n + 1) (by omega) iv4 (fun a q1 q2 => by rw [h4, row_ne (by omega), f3 a q1 q2]) (by rw [h4, row_at, if_pos rfl, hnx]; rfl)
              have nay : bd e lo n = false → ∀ iv3 iv4 : IV, FRw iv iv3 → iv4 = mm_up2 iv3 48 0 (nI 4294967295) → wp X (0, 0) 51 9 [some (.ref 48), some (.ref 34), some (.ref 21), some (.ref 6), some (.ref 10), some (.ref 14), some (.int (nI (n + 1))), none] [] iv4 (Rv P) := by
                intro hb iv3 iv4 f3 h4
                rw [up_row] at h4
                rw [hb] at hnx
                exact ih (n + 1) (by omega) iv4 (fun a q1 q2 => by rw [h4, row_ne (by omega), f3 a q1 q2]) (by rw [h4, row_at, if_pos rfl, hnx]; rfl)
              rw [nI_clamp (by omega), f2 11 (by decide) (by decide), hW.1 n hn225] at hv1
              subst hv1
              -- no symbol has it
              have off : 168 ≤ frN n → wc X 52 [.int (nI n)] iv2 (Ri (fun r6 iv5 => ((r6 = 0 → ((nI 0 = 0 → ∀ iv7 : IV, iv7 = mm_up2 iv5 48 0 (nI 4294967295) → wp X (0, 0) 51 9 [some (.ref 48), some (.ref 34), some (.ref 21), some (.ref 6), some (.ref 10), some (.ref 14), some (.int (nI (n + 1))), none] [] iv7 (Rv P)) ∧ (¬ (nI 0 = 0) → ∀ iv8 : IV, iv8 = mm_up2 iv5 48 0 (nI n) → wp X (0, 0) 51 9 [some (.ref 48), some (.ref 34), some (.ref 21), some (.ref 6), some (.ref 10), some (.ref 14), some (.int (nI (n + 1))), none] [] iv8 (Rv P)))) ∧ (¬ (r6 = 0) → wc X 36 [.ref 49, .ref 21, .ref 6, .int (nI n)] iv5 (Rv (fun iv9 => wc X 37 [.ref 49] iv9 (Rv (fun iv10 => (((iv10 49 1) = (iv10 34 1) → ((nI 0 = 0 → ∀ iv11 : IV, iv11 = mm_up2 iv10 48 0 (nI 4294967295) → wp X (0, 0) 51 9 [some (.ref 48), some (.ref 34), some (.ref 21), some (.ref 6), some (.ref 10), some (.ref 14), some (.int (nI (n + 1))), none] [] iv11 (Rv P)) ∧ (¬ (nI 0 = 0) → ∀ iv12 : IV, iv12 = mm_up2 iv10 48 0 (nI n) → wp X (0, 0) 51 9 [some (.ref 48), some (.ref 34), some (.ref 21), some (.ref 6), some (.ref 10), some (.ref 14), some (.int (nI (n + 1))), none] [] iv12 (Rv P)))) ∧ (¬ ((iv10 49 1) = (iv10 34 1)) → wc X 38 [.ref 49, .ref 10, .ref 14] iv10 (Rv (fun iv13 => ((iv13 49 0 = 0 → ((nI 0 = 0 → ∀ iv14 : IV, iv14 = mm_up2 iv13 48 0 (nI 4294967295) → wp X (0, 0) 51 9 [some (.ref 48), some (.ref 34), some (.ref 21), some (.ref 6), some (.ref 10), some (.ref 14), some (.int (nI (n + 1))), none] [] iv14 (Rv P)) ∧ (¬ (nI 0 = 0) → ∀ iv15 : IV, iv15 = mm_up2 iv13 48 0 (nI n) → wp X (0, 0) 51 9 [some (.ref 48), some (.ref 34), some (.ref 21), some (.ref 6), some (.ref 10), some (.ref 14), some (.int (nI (n + 1))), none] [] iv15 (Rv P)))) ∧ (¬ (iv13 49 0 = 0) → ((nI 1 = 0 → ∀ iv16 : IV, iv16 = mm_up2 iv13 48 0 (nI 4294967295) → wp X (0, 0) 51 9 [some (.ref 48), some (.ref 34), some (.ref 21), some (.ref 6), some (.ref 10), some (.ref 14), some (.int (nI (n + 1))), none] [] iv16 (Rv P)) ∧ (¬ (nI 1 = 0) → ∀ iv17 : IV, iv17 = mm_up2 iv13 48 0 (nI n) → wp X (0, 0) 51 9 [some (.ref 48), some (.ref 34), some (.ref 21), some (.ref 6), some (.ref 10), some (.ref 14), some (.int (nI (n + 1))), none] [] iv17 (Rv P))))))))))))))))) := by
                intro hk
                refine pui (as := [nI n]) (by decide) (pu_isF n hn225) ⟨fun z1 => ⟨fun _ iv7 h7 => ?_, fun z2 => absurd rfl z2⟩, fun z1 => ?_⟩
                · rw [bI_0] at z1
                  have hb : fb n = 4294967295 := by simpa using z1
                  exact nay (by rw [hbd, why_off hb hk hw]; rfl) iv2 iv7 f2 h7
                · rw [bI_0] at z1
                  have hb : fb n ≠ 4294967295 := by simpa using z1
                  have hfr : frN n = 4294967295 := (fb_fr n hn225).resolve_right hb
                  obtain ⟨w, hw4, w1, w2⟩ := hD
                  refine sp_look (x := some n) (D := D) (tu := tu) (lo := lo) (b := true) ro (by rw [f2 21 (by decide) (by decide)]; exact h21) (Or.inr ⟨w, hw4, by rw [f2 21 (by decide) (by decide)]; exact w1, fun r hr => by rw [f2 _ (by omega) (by omega)]; exact w2 r hr⟩) (fun r hr => by rw [f2 7 (by decide) (by decide), f2 8 (by decide) (by decide)]; exact ht r hr) (fun i hi => by cases hi; exact hn225) (fun iv9 a9 b9 c9 l9 => ?_)
                  have l9' : LK iv9 49 (flp e n) lo := by rw [he]; exact l9
                  refine sp_readFormat (e := flp e n) (lo := lo) ro l9' c9 (fun iv10 a10 b10 c10 => ?_)
                  have f10 : FRw iv iv10 := fun a q1 q2 => by rw [a10 a (by omega), a9 a (by omega) (by omega) (by omega), f2 a q1 q2]
                  rw [c10, f10 34 (by decide) (by decide), hR.2.1, oI_eq (fun x hx => by have := fmt_lt hx; omega) (fun x hx => by have := fmt_lt hx; omega)]
                  refine ⟨fun z2 => ⟨fun _ iv11 h11 => nay (by rw [hbd, why_fmt hfr z2 hw]; rfl) iv10 iv11 f10 h11, fun z3 => absurd rfl z3⟩, fun z2 => ?_⟩
                  have W10 : WY iv10 := by unfold WY; rw [f10 11 (by decide) (by decide), f10 12 (by decide) (by decide), f10 13 (by decide) (by decide)]; exact hW
                  refine sp_readBlocks (e := flp e n) (lo := lo) ro W10 (fun r hr => by rw [a10 _ (by omega), a10 _ (by omega)]; exact l9' r hr) (by rw [b10 6 (by decide)]; exact c9) c10 (fun iv13 f13 b13 r13 => ?_)
                  have g13 : FRw iv iv13 := fun a q1 q2 => by rw [f13 a q1 (by omega), f10 a q1 q2]
                  have hle2 := why_le (flp e n) lo
                  rw [r13.1]
                  refine ⟨fun z3 => ⟨fun _ iv14 h14 => nay ?_ iv13 iv14 g13 h14, fun z4 => absurd rfl z4⟩, fun z3 => ⟨fun z4 => absurd z4 (by decide), fun _ iv17 h17 => yes ?_ iv13 iv17 g13 h17⟩⟩
                  · have : why (flp e n) lo = 0 := Classical.byContradiction fun q => nI_ne0 (by omega) (by omega) z3
                    rw [hbd, this]; rfl
                  · rw [hbd]
                    exact decide_eq_true (fun q => z3 (by rw [q]; rfl))
              refine ⟨fun z1 => ⟨fun _ => off ?_, fun z2 => absurd rfl z2⟩, fun z1 => ⟨fun z2 => ⟨fun _ => off ?_, fun z3 => absurd rfl z3⟩, fun z2 => ?_⟩⟩
              · rcases frN_ok n hn225 with q | q
                · omega
                · exact absurd z1 (m1_ne (by omega))
              · rcases frN_ok n hn225 with q | q
                · omega
                · rw [nI_leI (by decide) (by omega)] at z2; exact z2
              · have hk : frN n < 168 := by
                  rcases frN_ok n hn225 with q | q
                  · rw [q] at z1; exact absurd rfl z1
                  · rw [nI_leI (by decide) (by omega)] at z2; omega
                rw [pk_div (by omega) (by decide) (by decide)]
                refine ⟨fun z3 => absurd z3 (m1_ne (by omega)), fun _ => ⟨vp_in_nI hn225 (by decide), ?_⟩⟩
                rw [f2 11 (by decide) (by decide), nI_clamp (by omega), hW.1 n hn225]
                have R2 : CRd iv2 34 e lo := by
                  refine ⟨by rw [f2 34 (by decide) (by decide)]; exact hR.1, by rw [f2 34 (by decide) (by decide)]; exact hR.2.1, fun f' hf' => ⟨fun blk hb => ?_, fun blk hb => ?_⟩⟩
                  · rw [f2 _ (by omega) (by omega), f2 _ (by omega) (by omega)]; exact (hR.2.2 f' hf').1 blk hb
                  · rw [f2 _ (by omega) (by omega), f2 _ (by omega) (by omega)]; exact (hR.2.2 f' hf').2 blk hb
                refine sp_spoils (e := e) (lo := lo) hn225 hk hlo R2 hf hw (fun iv18 f18 s18 => ?_)
                have g18 : FRw iv iv18 := fun a q1 q2 => by rw [f18 a q1 q2, f2 a q1 q2]
                refine ⟨fun z3 iv20 h20 => ?_, fun z3 iv21 h21' => ?_⟩
                · rw [bI_0] at z3
                  exact nay z3 iv18 iv20 g18 h20
                · rw [bI_0] at z3
                  exact yes (by simpa using z3) iv18 iv21 g18 h21'
      exact key 225 0 rfl iv1 (fun a q1 q2 => a1 a (by omega)) (by rw [e1]; rfl)
  · have hw : why e lo ≠ 0 := fun q => z (by rw [q]; rfl)
    refine h iv1 (fun a q1 q2 => a1 a (by omega)) ?_
    unfold str
    rw [if_neg hw, e1]
    rfl
end FIND
/-! what the class keeps -/
abbrev DM : Type := (Nat → Bool) × (Nat → Bool) × List Nat
noncomputable def eT (T : TX) (D : DM) (i : Nat) : Bool := xor (Dt T (mkT T) i) (D.1 i)
noncomputable def strX (T : TX) (D : DM) : Option Nat := if th T then str (eT T D) D.2.1 else none
def CRx (iv : IV) (T : TX) (D : DM) : Prop := (th T = true → CRd iv 34 (eT T D) D.2.1) ∧ (th T = false → iv 34 0 = nI 4 ∧ iv 34 1 = nI 4294967295)
def CSt (iv : IV) (T : TX) (D : DM) (s : Nat) : Prop := ∃ k, s ≤ k ∧ k ≤ 3 ∧ iv 1 10 = nI k ∧ (1 ≤ k → CM iv T) ∧ (2 ≤ k → CRx iv T D) ∧ (3 ≤ k → iv 48 0 = oI (strX T D))
def CDr (iv : IV) (D : DM) : Prop := ∀ r, r < 15 → iv 7 r = nI (rr D.1 r) ∧ iv 8 r = nI (rr D.2.1 r)
/-- what bring may change -/
def FRb (iv iv' : IV) : Prop := (∀ a, a ≠ 1 → ¬ (14 ≤ a ∧ a ≤ 64) → iv' a = iv a) ∧ ∀ j, j ≠ 10 → iv' 1 j = iv 1 j
section BRING
variable {X : Nat × (Nat → Int32)} {iv : IV}
theorem sp_readFormat0 {P : IV → Prop} {r0 : Nat} (hr : RO r0) (h6 : iv r0 6 = nI 0) (h : ∀ iv', (∀ a, a ≠ r0 → iv' a = iv a) → (∀ j, j ≠ 1 → iv' r0 j = iv r0 j) → iv' r0 1 = nI 4294967295 → P iv') : wc X 37 [.ref r0] iv (Rv P) := by
  refine mk_X5_readFormat (ro_k hr) ?_
  rw [h6]
  refine ⟨fun _ iv1 h1 => ?_, fun z => absurd rfl z⟩
  rw [up_row] at h1
  have e1 : iv1 r0 1 = nI 4294967295 := by rw [h1, row_at, if_pos rfl]
  have p1 : P iv1 := h iv1 (fun a ha => by rw [h1, row_ne ha]) (fun j hj => by rw [h1, row_at, if_neg hj]) e1
  refine mk_X5_readFormat_10 (ro_k hr) ⟨fun z => absurd z (by decide), fun _ => ?_⟩
  rw [e1]
  exact ⟨fun _ => ⟨fun _ => p1, fun z => absurd (by decide) z⟩, fun z => absurd rfl z⟩
theorem sp_readBlocks0 {P : IV → Prop} {r0 : Nat} (hr : RO r0) (h6 : iv r0 6 = nI 0) (h1 : iv r0 1 = nI 4294967295) (h : ∀ iv', (∀ a, a ≠ r0 → iv' a = iv a) → (∀ j, j ≠ 0 → iv' r0 j = iv r0 j) → iv' r0 0 = nI 4 → P iv') : wc X 38 [.ref r0, .ref 10, .ref 14] iv (Rv P) := by
  refine mk_X5_readBlocks (ro_k hr) ?_
  rw [h6]
  refine ⟨fun _ => mk_X5_readBlocks_7 (ro_k hr) (ro_k2 hr) (fun iv1 g1 => mk_X5_formatKnown (ro_k hr) ?_), fun z => absurd rfl z⟩
  rw [up_row] at g1
  have e1 : iv1 r0 1 = nI 4294967295 := by rw [g1, row_at, if_neg (by decide), h1]
  rw [e1]
  refine ⟨fun _ => ⟨fun _ => ?_, fun z => absurd rfl z⟩, fun z => absurd rfl z⟩
  exact h iv1 (fun a ha => by rw [g1, row_ne ha]) (fun j hj => by rw [g1, row_at, if_neg hj]) (by rw [g1, row_at, if_pos rfl])
theorem CM_of {iv iv' : IV} {T : TX} (h : CM iv T) (h1 : ∀ a, 21 ≤ a → a ≤ 32 → iv' a = iv a) : CM iv' T := by
  obtain ⟨c0, c1, c2, c3⟩ := h
  refine ⟨by rw [h1 21 (by decide) (by decide)]; exact c0, by rw [h1 21 (by decide) (by decide)]; exact c1, fun q => by rw [h1 21 (by decide) (by decide)]; exact c2 q, fun q => ?_⟩
  obtain ⟨d0, d1, d2, d3, d4, d5⟩ := c3 q
  exact ⟨by rw [h1 21 (by decide) (by decide)]; exact d0, by rw [h1 21 (by decide) (by decide)]; exact d1, fun b hb p hp => by rw [h1 _ (by omega) (by omega)]; exact d2 b hb p hp, fun r hr => by rw [h1 26 (by decide) (by decide)]; exact d3 r hr, fun w hw r hr => by rw [h1 _ (by omega) (by omega)]; exact d4 w hw r hr, fun w hw => by rw [h1 32 (by decide) (by decide)]; exact d5 w hw⟩
theorem CRd_of {iv iv' : IV} {e lo : Nat → Bool} (h : CRd iv 34 e lo) (h1 : ∀ a, 34 ≤ a → a ≤ 47 → iv' a = iv a) : CRd iv' 34 e lo := by
  refine ⟨by rw [h1 34 (by decide) (by decide)]; exact h.1, by rw [h1 34 (by decide) (by decide)]; exact h.2.1, fun f hf => ⟨fun blk hb => ?_, fun blk hb => ?_⟩⟩
  · rw [h1 _ (by omega) (by omega), h1 _ (by omega) (by omega)]; exact (h.2.2 f hf).1 blk hb
  · rw [h1 _ (by omega) (by omega), h1 _ (by omega) (by omega)]; exact (h.2.2 f hf).2 blk hb
theorem CRx_of {iv iv' : IV} {T : TX} {D : DM} (h : CRx iv T D) (h1 : ∀ a, 34 ≤ a → a ≤ 47 → iv' a = iv a) : CRx iv' T D := ⟨fun q => CRd_of (h.1 q) h1, fun q => by rw [h1 34 (by decide) (by decide)]; exact h.2 q⟩
/-- the mark's square, as a reading takes it in -/
theorem CM_D {T : TX} (h : CM iv T) : (iv 21 2 = nI 4294967295 ∧ (fun i => th T && Dt T (mkT T) i) = fun _ => false) ∨ ∃ w, w < 4 ∧ iv 21 2 = nI w ∧ ∀ r, r < 15 → iv (28 + w) r = nI (rr (fun i => th T && Dt T (mkT T) i) r) := by
  cases ht : th T with
  | false => exact Or.inl ⟨(h.2.2.1 ht).1, by simp⟩
  | true =>
    refine Or.inr ⟨mkT T, mkT_lt T, (h.2.2.2 ht).1, fun r hr => ?_⟩
    rw [(h.2.2.2 ht).2.2.2.2.1 (mkT T) (mkT_lt T) r hr]
    congr 1
set_option maxHeartbeats 1000000 in
theorem sp_bring {P : IV → Prop} {T : TX} {D : DM} {s : Nat} (hs : s < 3) (hT : CTx iv T) (hW : WY iv) (hy : SYr iv) (hD : CDr iv D) (hc : CSt iv T D 0) (h : ∀ iv', FRb iv iv' → SYr iv' → CSt iv' T D (s + 1) → P iv') : wc X 109 [.ref 1, .int (nI s)] iv (Rv P) := by
  -- the third step
  have st3 : ∀ iv1 : IV, FRb iv iv1 → SYr iv1 → CSt iv1 T D (min (s + 1) 2) → wp X (0, 0) 109 46 [some (.ref 1), some (.int (nI s))] [] iv1 (Rv P) := by
    intro iv1 f1 y1 ⟨k, hk1, hk2, c0, c1, c2, c3⟩
    refine mk_X10_bring_46 ?_
    rw [nI_ltI (by omega) (by decide), c0, nI_eq (by omega) (by decide)]
    refine ⟨fun z => h iv1 f1 y1 ⟨k, by omega, hk2, c0, c1, c2, c3⟩, fun z => ⟨fun z1 => ?_, fun z1 => h iv1 f1 y1 ⟨k, by omega, hk2, c0, c1, c2, c3⟩⟩⟩
    have R1 := c2 (by omega)
    have M1 := c1 (by omega)
    have fin : ∀ iv2 : IV, FRw iv1 iv2 → iv2 48 0 = oI (strX T D) → ∀ iv3 : IV, iv3 = mm_up2 iv2 1 10 (nI 3) → P iv3 := by
      intro iv2 f2 e2 iv3 h3
      rw [up_row] at h3
      refine h iv3 ⟨fun a q1 q2 => by rw [h3, row_ne q1, f2 a (by omega) (by omega), f1.1 a q1 q2], fun j hj => by rw [h3, row_at, if_neg hj, f2 1 (by decide) (by decide), f1.2 j hj]⟩ (fun b hb p hp => by rw [h3, row_ne (by omega), f2 _ (by omega) (by omega)]; exact y1 b hb p hp) ⟨3, by omega, Nat.le_refl 3, by rw [h3, row_at, if_pos rfl], fun _ => CM_of M1 (fun a q1 q2 => by rw [h3, row_ne (by omega), f2 a (by omega) (by omega)]), fun _ => CRx_of R1 (fun a q1 q2 => by rw [h3, row_ne (by omega), f2 a (by omega) (by omega)]), fun _ => by rw [h3, row_ne (by decide)]; exact e2⟩
    cases ht : th T with
    | true =>
      refine sp_find (D := Dt T (mkT T)) (tu := D.1) (lo := D.2.1) (e := eT T D) rfl (by unfold WY; rw [f1.1 11 (by decide) (by decide), f1.1 12 (by decide) (by decide), f1.1 13 (by decide) (by decide)]; exact hW) (R1.1 ht) (by rw [M1.2.1, ht]; rfl) ⟨mkT T, mkT_lt T, (M1.2.2.2 ht).1, (M1.2.2.2 ht).2.2.2.2.1 _ (mkT_lt T)⟩ (fun r hr => by rw [f1.1 7 (by decide) (by decide), f1.1 8 (by decide) (by decide)]; exact hD r hr) (fun iv2 f2 e2 => fin iv2 f2 (by unfold strX; rw [ht]; exact e2))
    | false =>
      refine mk_X7_find (fun iv2 h2 => ?_)
      rw [up_row] at h2
      rw [h2, row_ne (by decide), (R1.2 ht).1]
      refine ⟨fun z => absurd z (by decide), fun _ => fin _ (fun a q1 q2 => by rw [row_ne (by omega)]) ?_⟩
      unfold strX
      rw [ht, row_at, if_pos rfl]
      rfl
  -- the second
  have st2 : ∀ iv1 : IV, FRb iv iv1 → SYr iv1 → CSt iv1 T D 1 → wp X (0, 0) 109 18 [some (.ref 1), some (.int (nI s))] [] iv1 (Rv P) := by
    intro iv1 f1 y1 ⟨k, hk1, hk2, c0, c1, c2, c3⟩
    have M1 := c1 hk1
    refine mk_X10_bring_18 ?_
    rw [nI_ltI (by omega) (by decide), c0, nI_eq (by omega) (by decide)]
    refine ⟨fun z => st3 iv1 f1 y1 ⟨k, by omega, hk2, c0, c1, c2, c3⟩, fun z => ⟨fun z1 => ?_, fun z1 => st3 iv1 f1 y1 ⟨k, by omega, hk2, c0, c1, c2, c3⟩⟩⟩
    have ro : RO 34 := Or.inl rfl
    refine sp_look (x := none) (D := fun i => th T && Dt T (mkT T) i) (tu := D.1) (lo := D.2.1) (b := th T) ro M1.2.1 (CM_D M1) (fun r hr => by rw [f1.1 7 (by decide) (by decide), f1.1 8 (by decide) (by decide)]; exact hD r hr) (fun i hi => by cases hi) (fun iv2 a2 b2 c2' l2 => ?_)
    have fin : ∀ iv3 : IV, FRc 34 iv1 iv3 → CRx iv3 T D → ∀ iv4 : IV, iv4 = mm_up2 iv3 1 10 (nI 2) → wp X (0, 0) 109 46 [some (.ref 1), some (.int (nI s))] [] iv4 (Rv P) := by
      intro iv3 f3 r3 iv4 h4
      rw [up_row] at h4
      exact st3 iv4 ⟨fun a q1 q2 => by rw [h4, row_ne q1, f3 a (by omega) (by omega), f1.1 a q1 q2], fun j hj => by rw [h4, row_at, if_neg hj, f3 1 (by decide) (by decide), f1.2 j hj]⟩ (fun b hb p hp => by rw [h4, row_ne (by omega), f3 _ (by omega) (by omega)]; exact y1 b hb p hp) ⟨2, by omega, by decide, by rw [h4, row_at, if_pos rfl], fun _ => CM_of M1 (fun a q1 q2 => by rw [h4, row_ne (by omega), f3 a (by omega) (by omega)]), fun _ => CRx_of r3 (fun a q1 q2 => by rw [h4, row_ne (by omega)]), fun q => absurd q (by decide)⟩
    cases ht : th T with
    | true =>
      rw [ht] at c2' l2
      have l2' : LK iv2 34 (eT T D) D.2.1 := l2
      refine sp_readFormat ro l2' c2' (fun iv3 a3 b3 c3' => ?_)
      have W3 : WY iv3 := by unfold WY; rw [a3 11 (by decide), a3 12 (by decide), a3 13 (by decide), a2 11 (by decide) (by decide) (by decide), a2 12 (by decide) (by decide) (by decide), a2 13 (by decide) (by decide) (by decide), f1.1 11 (by decide) (by decide), f1.1 12 (by decide) (by decide), f1.1 13 (by decide) (by decide)]; exact hW
      refine sp_readBlocks ro W3 (fun r hr => by rw [a3 _ (by decide), a3 _ (by decide)]; exact l2' r hr) (by rw [b3 6 (by decide)]; exact c2') c3' (fun iv4 f4 b4 r4 => ?_)
      refine fin iv4 (fun a q1 q2 => by rw [f4 a q1 q2, a3 a (by omega), a2 a (by omega) (by omega) (by omega)]) ⟨fun _ => r4, fun q => by rw [ht] at q; cases q⟩
    | false =>
      rw [ht] at c2'
      refine sp_readFormat0 ro c2' (fun iv3 a3 b3 c3' => ?_)
      refine sp_readBlocks0 ro (by rw [b3 6 (by decide)]; exact c2') c3' (fun iv4 a4 b4 c4 => ?_)
      refine fin iv4 (fun a q1 q2 => by rw [a4 a (by omega), a3 a (by omega), a2 a (by omega) (by omega) (by omega)]) ⟨fun q => (by rw [ht] at q; cases q), fun _ => ⟨c4, by rw [b4 1 (by decide)]; exact c3'⟩⟩
  -- the first
  have fr0 : FRb iv iv := ⟨fun _ _ _ => rfl, fun _ _ => rfl⟩
  obtain ⟨k, -, hk2, c0, c1, c2, c3⟩ := hc
  refine mk_X10_bring ?_
  rw [c0]
  refine ⟨fun z => sp_asLevel hT (sp_make hT hW hy (fun iv1 a1 m1 y1 iv2 h2 => ?_)), fun z => ?_⟩
  · rw [up_row] at h2
    refine st2 iv2 ⟨fun a q1 q2 => by rw [h2, row_ne q1, a1 a (by omega)], fun j hj => by rw [h2, row_at, if_neg hj, a1 1 (by decide)]⟩ (fun b hb p hp => by rw [h2, row_ne (by omega)]; exact y1 b hb p hp) ⟨1, Nat.le_refl 1, by decide, by rw [h2, row_at, if_pos rfl], fun _ => CM_of m1 (fun a q1 q2 => by rw [h2, row_ne (by omega)]), fun q => absurd q (by decide), fun q => absurd q (by decide)⟩
  · have : k ≠ 0 := fun q => z (by rw [q]; rfl)
    exact st2 iv fr0 hy ⟨k, by omega, hk2, c0, c1, c2, c3⟩
end BRING
