/-! THE LAW'S FIRST EIGHT ROWS, OVER THE MODEL -/
section MMB
variable {p : Program} {l : Launch} {e : Env} {R : Room} {s : State} {m : MethodId} {args : Array Value} {below : List Frame} {meth : Method} {c : Code} {H : Heap} {locs : List Loc} {Q : State → Prop}
variable {ls : Array Slot} {g : mm_G} {j : Nat} {μ : mm_M}
theorem mm_ck_at {j i : Nat} {e0 : mm_e} (hckj : mm_ckm j = true) (hen : mm_en j i = some e0) : mm_ck j i = true := by
  have hi : i < (mm_tb j).length := (List.getElem?_eq_some_iff.mp hen).1
  unfold mm_ckm at hckj
  exact List.all_eq_true.mp hckj i (List.mem_range.mpr hi)
theorem mm_go0 {i pc len x y z : Nat} {ins : Instr} {L L' : mm_Lo} {st st' : List Value} {B : Nat × Nat} (hckj : mm_ckm j = true) (hAt : mm_At g j p R s m args meth c) (hen : mm_en j i = some (0, pc, ins, len, x, y, z)) (hp : mm_pure ins y L st = some (L', st')) (hL : mm_L g ls (mm_me j).2.2.1 L)
    (kk : ∀ ls', mm_L g ls' (mm_me j).2.2.1 L' → W p l e R s m args below meth c H locs B.1 B.2 Q (F0 m (mm_pc j (i + 1)) ls' (st'.map (mm_rl g)))) : W p l e R s m args below meth c H locs B.1 B.2 Q (F0 m (mm_pc j i) ls (st.map (mm_rl g))) := by
  obtain ⟨hx, hb, hml, hown, hts, hC, hini, hfr, hlo, hcc, hss⟩ := id hAt
  have hk := mm_ck_at hckj hen
  unfold mm_ck at hk
  rw [hen] at hk
  simp only [Bool.and_eq_true, decide_eq_true_eq] at hk
  obtain ⟨hdg, hk⟩ := hk
  have hpci : mm_pc j i = pc := by
    unfold mm_pc
    rw [hen]
  rw [hpci]
  simp only [Bool.and_eq_true, beq_iff_eq] at hk
  refine mm_pure_W hx hb hown hts hp hk.1 hdg hL (fun ls' hL' => ?_)
  rw [← hk.2]
  exact kk ls' hL'
theorem mm_go3 {i pc len x y z : Nat} {ins : Instr} {st st' : List Value} {B B' : Nat × Nat} {μ1 : mm_M} (hckj : mm_ckm j = true) (hAt : mm_At g j p R s m args meth c) (hen : mm_en j i = some (3, pc, ins, len, x, y, z)) (hp : mm_m3 ins x (mm_nu (mm_me j) 5, mm_nu (mm_me j) 6) st B μ = some (st', B', μ1)) (hR : mm_R g μ H) (hS : va_S (mm_A g) s.heap H locs)
    (kk : ∀ (H1 : Heap) (locs1 : List Loc), mm_R g μ1 H1 → va_S (mm_A g) s.heap H1 locs1 → B'.1 ≤ mm_nu (mm_me j) 5 → B'.2 ≤ mm_nu (mm_me j) 6 → W p l e R s m args below meth c H1 locs1 B'.1 B'.2 Q (F0 m (mm_pc j (i + 1)) ls (st'.map (mm_rl g)))) : W p l e R s m args below meth c H locs B.1 B.2 Q (F0 m (mm_pc j i) ls (st.map (mm_rl g))) := by
  obtain ⟨hx, hb, hml, hown, hts, hC, hini, hfr, hlo, hcc, hss⟩ := id hAt
  have hk := mm_ck_at hckj hen
  unfold mm_ck at hk
  rw [hen] at hk
  simp only [Bool.and_eq_true, decide_eq_true_eq] at hk
  obtain ⟨hdg, hk⟩ := hk
  have hpci : mm_pc j i = pc := by
    unfold mm_pc
    rw [hen]
  rw [hpci]
  simp only [Bool.and_eq_true, beq_iff_eq] at hk
  refine mm_m3_W hx hb hown hts hC hR hS hcc hss hp hk.1 hdg (fun H1 locs1 r1 r2 r3 r4 => ?_)
  rw [← hk.2]
  exact kk H1 locs1 r1 r2 r3 r4
theorem mm_go4 (hck : ∀ j, j < 225 → (mm_ckm j && mm_hd j) = true) (hlaw : mm_ckm 225 = true) {i pc len x y z f : Nat} {ins : Instr} {st as rest : List Value} {B B' : Nat × Nat} {r : Option Value} {μ1 : mm_M} (hckj : mm_ckm j = true) (hAt : mm_At g j p R s m args meth c) (hen : mm_en j i = some (4, pc, ins, len, x, y, z)) (hp : mm_cl j x st B μ = some (as, rest, B')) (hc : mm_x g.2.2.2.2 f x 0 (mm_ini as (mm_me x).2.2.1) [] (0, 0) μ = some (r, μ1)) (hR : mm_R g μ H) (hS : va_S (mm_A g) s.heap H locs) (hls : ls.size = (mm_me j).2.2.1)
    (kk : ∀ (H1 : Heap) (locs1 : List Loc), mm_R g μ1 H1 → va_S (mm_A g) s.heap H1 locs1 → W p l e R s m args below meth c H1 locs1 B'.1 B'.2 Q (F0 m (mm_pc j (i + 1)) ls ((r.toList ++ rest).map (mm_rl g)))) : W p l e R s m args below meth c H locs B.1 B.2 Q (F0 m (mm_pc j i) ls (st.map (mm_rl g))) := by
  have hmet := mm_met_of hck l g f (mm_main hck hlaw l g f)
  obtain ⟨hx, hb, hml, hown, hts, hC, hini, hfr, hlo, hcc, hss⟩ := id hAt
  have hk := mm_ck_at hckj hen
  unfold mm_ck at hk
  rw [hen] at hk
  simp only [Bool.and_eq_true, decide_eq_true_eq] at hk
  obtain ⟨hdg, hk⟩ := hk
  have hpci : mm_pc j i = pc := by
    unfold mm_pc
    rw [hen]
  rw [hpci]
  simp only [Bool.and_eq_true, beq_iff_eq] at hk
  obtain ⟨⟨hk1, rfl⟩, hk3⟩ := hk
  refine mm_call_W hck hmet hAt hR hS hls hp hc hk1 hdg (fun H1 locs1 s1 s2 s3 s4 => ?_)
  rw [← hk3]
  exact kk H1 locs1 s1 s2
end MMB
def mu_a' : mm_M := (2, mm_up1 mm_0.2.1 1 (10 + 9, 0), mm_row mm_0.2.2.1 1 (fun _ => 0), mm_row mm_0.2.2.2 1 (fun _ => 0))
def mu_c' : mm_M := (75, mm_up1 mu_b.2.1 74 (10 + 10, 0), mm_row mu_b.2.2.1 74 (fun _ => 0), mm_row mu_b.2.2.2 74 (fun _ => 0))
theorem mu_a_eqv : mm_eqv mu_a' mu_a = true := by decide +kernel
theorem mu_c_eqv : mm_eqv mu_c' mu_c = true := by decide +kernel
theorem mm_law_at (i : Nat) : mm_en 225 i = mt_L_law[i]? := rfl
theorem mm_law_sz : mm_nu (mm_me 225) 5 = 600000 ∧ mm_nu (mm_me 225) 6 = 7302250 ∧ (mm_me 225).2.2.1 = 4 := by decide +kernel
theorem mm_row0 : mm_m3 (.new 7) 9 (mm_nu (mm_me 225) 5, mm_nu (mm_me 225) 6) [] (0, 0) mm_0 = some ([.ref 1], (1, 11), mu_a') := by
  rw [mm_law_sz.1, mm_law_sz.2.1]
  rfl
theorem mm_row4 : mm_m3 (.new 10) 10 (mm_nu (mm_me 225) 5, mm_nu (mm_me 225) 6) [] (73, 1510) mu_b = some ([.ref 74], (74, 1544), mu_c') := by
  rw [mm_law_sz.1, mm_law_sz.2.1]
  rfl
def mm_clb (o : Option (List Value × List Value × (Nat × Nat))) (a : Nat) (B : Nat × Nat) : Bool := match o with
  | some ([.ref q], [.ref q'], B') => decide (q = a) && decide (q' = a) && decide (B' = B)
  | _ => false
theorem mm_clb_spec {o : Option (List Value × List Value × (Nat × Nat))} {a : Nat} {B : Nat × Nat} (h : mm_clb o a B = true) : o = some ([.ref a], [.ref a], B) := by
  unfold mm_clb at h
  split at h
  · simp only [Bool.and_eq_true, decide_eq_true_eq] at h
    obtain ⟨⟨rfl, rfl⟩, rfl⟩ := h
    rfl
  · cases h
theorem mm_row2 : mm_cl 225 64 [.ref 1, .ref 1] (1, 11) mu_a = some ([.ref 1], [.ref 1], (73, 1510)) := mm_clb_spec (by decide +kernel)
theorem mm_row6 : mm_cl 225 121 [.ref 74, .ref 74] (74, 1544) mu_c = some ([.ref 74], [.ref 74], (100, 3462)) := mm_clb_spec (by decide +kernel)
set_option maxHeartbeats 4000000 in
/-- THE LAW: it is enough that the small machine runs it to 1 from its row 8 on -/
theorem mm_whole2 (hck : ∀ j, j < 225 → (mm_ckm j && mm_hd j) = true) (hlaw : mm_ckm 225 = true) {p : Program} {e : Env} {s : State} {m : MethodId} {below : List Frame} {meth : Method} {c : Code} (l : Launch) {b L : Nat} {xs : Nat → Int32} (hL : L ≤ 3072) (C0 : lw_At p s m meth c b L xs) (h : wp (L, xs) (100, 3462) 225 8 [some (.ref 1000004), some (.ref 1), some (.ref 74), none] [] iv0 (fun r _ => r = some (.int 1))) : W p l e room_1 s m #[Value.ref b] below meth c s.heap [] 0 0 (lw_Z below #[Value.ref b] s) (entryFrame m ([Value.ref b] : List Value).toArray 4) := by
  obtain ⟨f, r, iv', hf, rfl⟩ := h
  obtain ⟨g, hg1, hg2, hg3, hC⟩ := mm_C_start C0 (Nat.lt_of_le_of_lt hL (by decide))
  obtain ⟨hx, hb, hr, hml, hown, hts, hX, hbl, hlocks, hgv⟩ := C0
  have htg : ∀ w ∈ mm_gt, w.before #[Value.ref b] s = true := fun w h => hts w (List.mem_filter.mp h).1
  have hrl : mm_rl g (.ref 1000004) = .ref b := by
    rw [mm_rl_sta g (by decide)]
    show Value.ref (g.2.2.2.1 4) = _
    rw [hg2]
  rw [lg_entry_eq]
  have hent := mm_entry g (as := [.ref 1000004]) (n := 4) (by decide)
  rw [List.map_cons, List.map_nil, hrl] at hent
  have hR : mm_R g mm_0 s.heap := by
    refine ⟨Nat.le_refl 1, hg1.symm, fun k q hq => ?_⟩
    exact absurd hq (by simp [mm_ws, mm_0])
  have hAt : mm_At g 225 p room_1 s m #[Value.ref b] meth c := ⟨hx, hb, hml, hown, htg, hC, fun q => absurd q (by decide +kernel), by decide +kernel, by decide +kernel, by decide +kernel, by decide +kernel⟩
  have key0 : ∀ (H : Heap) (locs : List Loc) (ls : Array Slot), mm_R g (mm_N0 iv0) H → va_S (mm_A g) s.heap H locs → mm_L g ls 4 [some (.ref 1000004), some (.ref 1), some (.ref 74), none] → W p l e room_1 s m #[Value.ref b] below meth c H locs 100 3462 (lw_Z below #[Value.ref b] s) (F0 m (mm_pc 225 8) ls (([] : List Value).map (mm_rl g))) := by
    intro H locs ls h1 h2 h3
    refine mm_main hck hlaw l g f 225 8 _ [] (100, 3462) (mm_N0 iv0) (some (.int 1)) (mm_N0 iv') (by decide) (by rw [hg3]; exact hf) p e room_1 s m #[Value.ref b] below meth c H locs ls (lw_Z below #[Value.ref b] s) hAt (by rw [mm_law_sz.1]; decide) (by rw [mm_law_sz.2.1]; decide) h1 h2 h3 ?_
    intro pc ins H' locs' ls' B' st' hdg hrt hR' hS' hb1 hb2
    unfold mm_rt at hrt
    split at hrt
    · split at hrt
      · split at hrt
        · cases hrt
        · cases hrt
      · cases hrt
    · split at hrt
      · split at hrt
        · cases hrt
          refine va_forget (fun q hq => ?_) ?_
          · have := hS'.2.2 q hq
            show s.heap.size ≤ q.base
            have : g.2.2.1 < q.base := this
            omega
          · refine W.widen hb1 hb2 ?_
            exact lw_ret hx hb hr hlocks hdg
        · cases hrt
      · cases hrt
    · split at hrt
      · split at hrt
        · cases hrt
        · cases hrt
      · cases hrt
    · split at hrt
      · split at hrt
        · cases hrt
        · cases hrt
      · cases hrt
    · cases hrt
  have ha : mm_x g.2.2.2.2 100000 64 0 (mm_ini [.ref 1] (mm_me 64).2.2.1) [] (0, 0) mu_a = some (none, (mm_res_spec mm_run1_ok).choose) := mm_x_X _ _ _ _ _ _ _ _ _ (by decide) (mm_res_spec mm_run1_ok).choose_spec.1
  have hb' : mm_x g.2.2.2.2 100000 121 0 (mm_ini [.ref 74] (mm_me 121).2.2.1) [] (0, 0) mu_c = some (none, (mm_res_spec mm_run2_ok).choose) := mm_x_X _ _ _ _ _ _ _ _ _ (by decide) (mm_res_spec mm_run2_ok).choose_spec.1
  have h1 := (mm_res_spec mm_run1_ok).choose_spec.2
  have h2 := (mm_res_spec mm_run2_ok).choose_spec.2
  generalize (mm_res_spec mm_run1_ok).choose = ν1 at ha h1
  generalize (mm_res_spec mm_run2_ok).choose = ν2 at hb' h2
  show W p l e room_1 s m #[Value.ref b] below meth c s.heap [] (0, 0).1 (0, 0).2 (lw_Z below #[Value.ref b] s) (F0 m (mm_pc 225 0) _ (([] : List Value).map (mm_rl g)))
  refine mm_go3 hlaw hAt (i := 0) rfl mm_row0 hR va_S.rf (fun H1 locs1 r1 r2 _ _ => ?_)
  refine mm_go0 hlaw hAt (i := 1) (B := (1, 11)) rfl rfl hent (fun ls1 hent => ?_)
  refine mm_go4 hck hlaw hlaw hAt (i := 2) rfl mm_row2 ha (mm_R_eqv mu_a_eqv r1) r2 hent.1 (fun H2 locs2 r3 r4 => ?_)
  refine mm_go0 hlaw hAt (i := 3) (B := (73, 1510)) (st := [.ref 1]) rfl rfl hent (fun ls2 hent => ?_)
  refine mm_go3 hlaw hAt (i := 4) rfl mm_row4 (mm_R_eqv h1 r3) r4 (fun H3 locs3 r5 r6 _ _ => ?_)
  refine mm_go0 hlaw hAt (i := 5) (B := (74, 1544)) rfl rfl hent (fun ls3 hent => ?_)
  refine mm_go4 hck hlaw hlaw hAt (i := 6) rfl mm_row6 hb' (mm_R_eqv mu_c_eqv r5) r6 hent.1 (fun H4 locs4 r7 r8 => ?_)
  refine mm_go0 hlaw hAt (i := 7) (B := (100, 3462)) (st := [.ref 74]) rfl rfl hent (fun ls4 hent => ?_)
  exact key0 H4 locs4 ls4 (mm_R_eqv h2 r7) r8 hent
