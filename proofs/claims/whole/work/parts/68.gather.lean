/-! all deeds that can be, and what is done by habit -/
def pm_l (q : Nat → Nat) (w s k : Nat) : List Nat := (List.range k).filter (fun m => decide (pm_wy q w s m = 0))
theorem pm_l_succ (q : Nat → Nat) (w s k : Nat) : pm_l q w s (k + 1) = pm_l q w s k ++ (if pm_wy q w s k = 0 then [k] else []) := by
  unfold pm_l
  rw [List.range_succ, List.filter_append]
  by_cases h : pm_wy q w s k = 0
  · simp [h]
  · simp [h]
def pc_gl (q : Nat → Nat) (w s : Nat) (deeds ends : Nat → Int32) (L : List Nat) : Prop := ∀ i (h : i < L.length), deeds i = nI (pm_dd L[i]) ∧ ends i = nI (pm_ac q w s L[i])
theorem pc_gl_nil {q : Nat → Nat} {w s : Nat} {deeds ends : Nat → Int32} : pc_gl q w s deeds ends [] := fun i h => absurd h (Nat.not_lt_zero i)
theorem pc_keep {q : Nat → Nat} {w s m : Nat} {deeds ends : Nat → Int32} {L : List Nat} {x y : Int32} (hL : L.length < 9) (h : pc_gl q w s deeds ends L) (hx : x = nI (pm_dd m)) (hy : y = nI (pm_ac q w s m)) :
    pu_ok (zf_X3_keep (nI L.length) deeds ends x y) (fun r => r.1 = nI (L ++ [m]).length ∧ pc_gl q w s r.2.1 r.2.2 (L ++ [m])) := by
  unfold zf_X3_keep
  rw [if_neg (fun z => by have := (pv_le 9 (by omega) (by omega)).mp z; omega), pu_st hL (by omega), pu_e1, pu_st hL (by omega), pu_e1, pn_a1, pu_e1]
  refine pu_some.mpr ⟨by simp, ?_⟩
  intro i hi
  have hi' : i < L.length + 1 := by simpa using hi
  by_cases c : i = L.length
  · subst c
    simp only [pu_upe, List.getElem_concat_length]
    exact ⟨hx, hy⟩
  · have hi2 : i < L.length := by omega
    dsimp only
    rw [pu_upn c, pu_upn c, List.getElem_append_left hi2]
    exact h i hi2
theorem pb_cnt : ∀ h, h < 64 → ∀ i, i < 6 → h.testBit i = false → pm_pcn h 6 + i + 1 ≤ 6 + pm_pcn h i := by decide +kernel
theorem pb_cn2 : ∀ h, h < 64 → ∀ i, i < 7 → pm_pcn h i ≤ i ∧ pm_pcn h i ≤ pm_pcn h 6 := by decide +kernel
theorem pm_wyf {q : Nat → Nat} {w s t : Nat} (ht : t < 6) : pm_wy q w s (3 + t) = 0 ↔ (pm_hs s).testBit t = true := by
  unfold pm_wy
  rw [if_neg (by omega), if_neg (by omega), if_neg (by omega), if_pos (by omega), show 3 + t - 3 = t from by omega]
  by_cases c : (pm_hs s).testBit t
  · simp [c]
  · simp [c]
theorem pm_wyt {q : Nat → Nat} {w s t : Nat} : pm_wy q w s (9 + t) = 0 ↔ (pm_hs s).testBit t = false ∧ (q (19 + pm_rg s)).testBit t = true ∧ (q (10 + pm_rg s)).testBit t = false := by
  unfold pm_wy
  rw [if_neg (by omega), if_neg (by omega), if_neg (by omega), if_neg (by omega), show 9 + t - 9 = t from by omega]
  by_cases c : (pm_hs s).testBit t
  · simp [c]
  · by_cases c2 : (q (19 + pm_rg s)).testBit t
    · by_cases c3 : (q (10 + pm_rg s)).testBit t
      · simp [c, c2, c3]
      · simp [c, c2, c3]
    · simp [c, c2]
theorem pm_l3 (q : Nat → Nat) (w s k : Nat) : (pm_l q w s k).length ≤ k := by
  unfold pm_l
  have := List.length_filter_le (fun m => decide (pm_wy q w s m = 0)) (List.range k)
  simpa using this
theorem pm_lf {q : Nat → Nat} {w s : Nat} : ∀ t, t ≤ 6 → (pm_l q w s (3 + t)).length ≤ 3 + pm_pcn (pm_hs s) t := by
  intro t
  induction t with
  | zero => intro _; exact pm_l3 q w s 3
  | succ t ih =>
    intro h
    have h1 := ih (by omega)
    rw [show 3 + (t + 1) = 3 + t + 1 from rfl, pm_l_succ]
    have h2 := pm_wyf (q := q) (w := w) (s := s) (t := t) (by omega)
    show _ ≤ 3 + (pm_pcn (pm_hs s) t + (if (pm_hs s).testBit t then 1 else 0))
    by_cases c : (pm_hs s).testBit t = true
    · rw [if_pos (h2.mpr c), if_pos c]; simp; omega
    · rw [if_neg (fun z => c (h2.mp z)), if_neg c]; simp; omega
theorem pm_lt {q : Nat → Nat} {w s : Nat} : ∀ t, t ≤ 6 → (pm_l q w s (9 + t)).length + pm_pcn (pm_hs s) t ≤ 3 + pm_pcn (pm_hs s) 6 + t := by
  intro t
  induction t with
  | zero => intro _; exact pm_lf 6 (by omega)
  | succ t ih =>
    intro h
    have h1 := ih (by omega)
    rw [show 9 + (t + 1) = 9 + t + 1 from rfl, pm_l_succ]
    have h2 := pm_wyt (q := q) (w := w) (s := s) (t := t)
    show _ + (pm_pcn (pm_hs s) t + (if (pm_hs s).testBit t then 1 else 0)) ≤ _
    by_cases c : (pm_hs s).testBit t = true
    · rw [if_neg (fun z => by have := (h2.mp z).1; rw [c] at this; cases this), if_pos c]; simp; omega
    · rw [if_neg c]
      by_cases c2 : pm_wy q w s (9 + t) = 0
      · rw [if_pos c2]; simp; omega
      · rw [if_neg c2]; simp; omega
theorem pm_l9 {q : Nat → Nat} {w s : Nat} : (pm_l q w s 15).length ≤ 9 := by
  have h1 := pm_lt (q := q) (w := w) (s := s) 6 (by omega)
  have h2 := pb_cn2 _ (pm_hs_lt s) 6 (by omega)
  have h3 : pm_l q w s 15 = pm_l q w s (9 + 6) := rfl
  rw [h3]
  omega
theorem pm_l_room {q : Nat → Nat} {w s : Nat} {base t : Nat} (hb : base = 3 ∨ base = 9) (ht : t < 6) (h0 : pm_wy q w s (base + t) = 0) : (pm_l q w s (base + t)).length < 9 := by
  have hh := pm_hs_lt s
  rcases hb with rfl | rfl
  · have h1 := pm_lf (q := q) (w := w) (s := s) t (by omega)
    have h2 := pb_cn2 _ hh t (by omega)
    omega
  · have h1 := pm_lt (q := q) (w := w) (s := s) t (by omega)
    have h2 := pb_cnt _ hh t ht (pm_wyt.mp h0).1
    omega
theorem pm_ddb {base t : Nat} (hb : base = 3 ∨ base = 9) (ht : t < 6) : pm_dd (base + t) = pm_dd base + t := by
  unfold pm_dd
  rcases hb with rfl | rfl
  · rw [if_neg (by omega), if_pos (by omega), if_neg (by omega), if_pos (by omega)]; omega
  · rw [if_neg (by omega), if_neg (by omega), if_neg (by omega), if_neg (by omega)]; omega
section PG
variable {n : Nat} {q : Nat → Nat} {w s : Nat} {top things tf tt mf mt : Int32} {bars gives rough code told fa sk : Nat → Int32}
theorem pc_gatherThings {deeds ends : Nat → Int32} {base set : Nat} (hn : 1000 ≤ n) (hq : pm_cliff q) (hs : pm_st q s) (hb : base = 3 ∨ base = 9) (hset : set < 64) (hb2 : ∀ t, t < 6 → (set.testBit t = true ↔ pm_wy q w s (base + t) = 0)) (hgl : pc_gl q w s deeds ends (pm_l q w s base)) :
    pu_ok (zf_X3_gatherThings n (nI (pm_l q w s base).length) deeds ends (nI s) (nI set) (nI (pm_dd base))) (fun r => r.1 = nI (pm_l q w s (base + 6)).length ∧ pc_gl q w s r.2.1 r.2.2 (pm_l q w s (base + 6))) := by
  have hlt := pm_st_lt hq hs
  have hh := pm_hs_lt s
  have hg := pm_sg_lt s
  unfold zf_X3_gatherThings
  rw [pc_rungOf hlt, pu_e1, pc_thingsOf hlt, pu_e1, pc_strengthOf hlt, pu_e1]
  refine pu_d5.mpr (pu_up (fun i v => v.1 = nI i ∧ v.2.1 = nI (pm_l q w s (base + i)).length ∧ pc_gl q w s v.2.2.1 v.2.2.2 (pm_l q w s (base + i))) 6 (by omega) ⟨rfl, rfl, hgl⟩ ?_)
  rintro i ⟨v1, v2, a1, a2⟩ hi ⟨e1, e2, e3⟩
  dsimp only at e1 e2 e3 ⊢
  subst e1 e2
  unfold zb_X3_gatherThings_21
  by_cases hc : 6 ≤ i
  · rw [if_pos ((pv_le 6 (by omega) (by omega)).mpr hc)]
    have : i = 6 := by omega
    subst this
    exact pu_out (by decide) (pu_some.mpr ⟨rfl, e3⟩)
  · rw [if_neg (fun z => hc ((pv_le 6 (by omega) (by omega)).mp z))]
    refine pu_d3.mpr (pu_mono (P := fun r => r.1 = nI (pm_l q w s (base + (i + 1))).length ∧ pc_gl q w s r.2.1 r.2.2 (pm_l q w s (base + (i + 1)))) ?_ ?_)
    · rw [show (1 : Int32) = nI 1 from rfl, pb_bit _ hset _ (by omega), show base + (i + 1) = base + i + 1 from rfl, pm_l_succ]
      have h2 := hb2 i (by omega)
      by_cases c : set.testBit i = true
      · have h0 := h2.mp c
        rw [if_pos c, if_neg (show ¬ nI 1 = (0 : Int32) by decide), show nI 1 = (1 : Int32) from rfl, pb_sh _ (by omega), pn_xor, pc_standOf, pu_e1, if_pos h0, pn_add, ← pm_ddb hb (by omega)]
        refine pu_d3.mpr (pu_mono (pc_keep (m := base + i) (pm_l_room hb (by omega) h0) e3 rfl ?_) ?_)
        · congr 1
          have hm15 : base + i < 15 := by omega
          obtain ⟨e, _, _, _, _, _, i3, i4⟩ := pm_acp hq hs hm15 h0
          rw [e, (pb_xor _ hh _ (by omega)).1]
          rcases hb with rfl | rfl
          · have t1 := i3 (by omega) (by omega)
            rw [show 3 + i - 3 = i from by omega] at t1 ⊢
            rw [if_pos t1, if_neg (by omega), if_neg (by omega), if_neg (by omega), if_pos (by omega), if_neg (by omega), if_neg (by omega)]
          · have t1 := i4 (by omega)
            rw [show 9 + i - 9 = i from by omega] at t1 ⊢
            rw [if_neg (by rw [t1]; decide), if_neg (by omega), if_neg (by omega), if_neg (by omega), if_neg (by omega), if_neg (by omega), if_neg (by omega)]
        · rintro ⟨r1, r2, r3⟩ ⟨x1, x2⟩
          exact pu_some.mpr ⟨x1, x2⟩
      · rw [if_neg c, if_pos (show nI 0 = (0 : Int32) from rfl), if_neg (fun z => c (h2.mpr z)), List.append_nil]
        exact pu_some.mpr ⟨rfl, e3⟩
    · rintro ⟨r1, r2, r3⟩ ⟨x1, x2⟩
      dsimp only at x1 x2 ⊢
      rw [pn_a1, pu_e1]
      exact pu_go ⟨by omega, rfl, x1, x2⟩
theorem pc_gather {found : Int32} {deeds ends : Nat → Int32} (hn : 1000 ≤ n) (hq : pm_cliff q) (hK : pc_K q top things tf tt mf mt bars gives rough code) (hT : pc_told q w told) (hs : pm_st q s) (hw : w ≤ 9) :
    pu_ok (zf_X3_gather n found top things tf tt mf mt bars gives rough code (nI w) told fa sk deeds ends (nI s)) (fun r => r.1 = nI (pm_l q w s 15).length ∧ r.2.1 = nI (pm_l q w s 15).length ∧ pc_told q w r.2.2.1 ∧ pc_gl q w s r.2.2.2.2.2.1 r.2.2.2.2.2.2 (pm_l q w s 15)) := by
  have hlt := pm_st_lt hq hs
  have hh := pm_hs_lt s
  have hg := pm_sg_lt s
  obtain ⟨h1, h2, h3, h4, h5, h6⟩ := id hq
  have hK' := hK
  obtain ⟨k1, k2, k3, k4, k5, k6⟩ := hK
  obtain ⟨hs1, hs2⟩ := id hs
  unfold zf_X3_gather
  rw [pc_rungOf hlt, pu_e1, pc_thingsOf hlt, pu_e1, pc_strengthOf hlt, pu_e1]
  -- REST
  refine pu_d1.mpr (pu_mono (P := fun v => v = nI (pm_ac q w s 0)) ?_ ?_)
  · have ea : pm_ac q w s 0 = if pm_sg s < 4 then s + 1 else s := by unfold pm_ac; rw [if_pos rfl]
    rw [ea]
    by_cases c : pm_sg s < 4
    · rw [if_neg (fun z => by have := (pv_le 4 (by omega) (by omega)).mp z; omega), if_pos c, pn_a1]; exact pu_some.mpr rfl
    · rw [if_pos ((pv_le 4 (by omega) (by omega)).mpr (by omega)), if_neg c]; exact pu_some.mpr rfl
  rintro _ rfl
  have l1 : pm_l q w s 1 = [0] := by
    rw [pm_l_succ, if_pos (by unfold pm_wy; rw [if_pos rfl])]; rfl
  refine pu_d3.mpr (pu_mono (pc_keep (m := 0) (L := []) (q := q) (w := w) (s := s) (by decide) pc_gl_nil rfl rfl) ?_)
  rintro ⟨v5, a6, a7⟩ ⟨x1, x2⟩
  dsimp only at x1 x2 ⊢
  rw [show [] ++ [0] = pm_l q w s 1 from l1.symm] at x1 x2
  subst x1
  -- CLIMB
  rw [pn_a1, k1, pc_entry hq (fun r hr => (k3 r hr).1) (by omega), pu_e1]
  refine pu_d6.mpr (pu_mono (P := fun r => r.1 = nI (pm_l q w s 2).length ∧ pc_told q w r.2.1 ∧ pc_gl q w s r.2.2.2.2.1 r.2.2.2.2.2 (pm_l q w s 2)) ?_ ?_)
  · rw [show pm_l q w s 2 = pm_l q w s 1 ++ (if pm_wy q w s 1 = 0 then [1] else []) from pm_l_succ q w s 1]
    have ew : pm_wy q w s 1 = (if pm_rg s = q 1 then 2 else if q (10 + (pm_rg s + 1)) &&& pm_hs s = 0 then (if pm_may q w (pm_rg s + 1) (pm_pc (pm_hs s)) (pm_sg s) then 0 else 4) else 3) := by
      unfold pm_wy; rw [if_neg (by omega), if_pos rfl]
    rw [ew]
    by_cases c1 : pm_rg s = q 1
    · rw [if_pos (show q 1 < pm_rg s + 1 by omega), if_pos c1, if_neg (show ¬ nI 2 = (0 : Int32) by decide), if_neg (by omega), List.append_nil]
      exact pu_some.mpr ⟨rfl, hT, x2⟩
    · rw [if_neg (show ¬ q 1 < pm_rg s + 1 by omega), if_neg c1]
      by_cases c2 : q (10 + (pm_rg s + 1)) &&& pm_hs s = 0
      · rw [if_pos c2, if_pos c2, if_pos (show nI 0 = (0 : Int32) from rfl), ← k1]
        refine pu_d4.mpr (pu_mono (pc_strengthAbove hn hq hK' hT hs (by omega) hw) ?_)
        rintro ⟨r1, r2, r3, r4⟩ ⟨e1, e2⟩
        dsimp only at e1 e2 ⊢
        subst e1
        unfold pc_up
        by_cases c3 : pm_may q w (pm_rg s + 1) (pm_pc (pm_hs s)) (pm_sg s) = true
        · have := pm_tired_le q w (pm_rg s + 1) (pm_pc (pm_hs s)) (pm_sg s)
          rw [if_pos c3, if_pos c3, if_neg (fun z => (pn_ne1 (by omega)).mp z), pc_standOf, pu_e1, if_pos rfl]
          refine pu_d3.mpr (pu_mono (pc_keep (m := 1) (by rw [l1]; decide) x2 rfl ?_) ?_)
          · congr 1
          · rintro ⟨y1, y2, y3⟩ ⟨z1, z2⟩
            exact pu_some.mpr ⟨z1, e2, z2⟩
        · rw [if_neg c3, if_neg c3, if_pos rfl, if_neg (by omega), List.append_nil]
          exact pu_some.mpr ⟨rfl, e2, x2⟩
      · rw [if_neg c2, if_neg c2, if_neg (show ¬ nI 3 = (0 : Int32) by decide), if_neg (by omega), List.append_nil]
        exact pu_some.mpr ⟨rfl, hT, x2⟩
  rintro ⟨v17, a18, a19, a20, a21, a22⟩ ⟨y1, y2, y3⟩
  dsimp only at y1 y2 y3 ⊢
  subst y1
  -- DOWN
  refine pu_d1.mpr (pu_mono (P := fun v => v = nI (pm_wy q w s 2)) ?_ ?_)
  · have ew : pm_wy q w s 2 = (if pm_rg s = 0 then 2 else if q (10 + (pm_rg s - 1)) &&& pm_hs s = 0 then 0 else 3) := by
      unfold pm_wy; rw [if_neg (by omega), if_neg (by omega), if_pos rfl]
    rw [ew]
    by_cases c1 : pm_rg s = 0
    · rw [if_pos c1, c1, pc_entry0]; exact pu_some.mpr rfl
    · rw [if_neg c1, pv_sub 1 (by omega), pc_entry hq (fun r hr => (k3 r hr).1) (by omega), if_neg (show ¬ q 1 < pm_rg s - 1 by omega)]
      exact pu_some.mpr rfl
  rintro _ rfl
  refine pu_d3.mpr (pu_mono (P := fun r => r.1 = nI (pm_l q w s 3).length ∧ pc_gl q w s r.2.1 r.2.2 (pm_l q w s 3)) ?_ ?_)
  · rw [show pm_l q w s 3 = pm_l q w s 2 ++ (if pm_wy q w s 2 = 0 then [2] else []) from pm_l_succ q w s 2]
    by_cases c : pm_wy q w s 2 = 0
    · have hlen := pm_l3 q w s 2
      obtain ⟨_, _, _, _, _, i2, _, _⟩ := pm_acp hq hs (by omega) c
      have := i2 rfl
      rw [c, if_pos (show nI 0 = (0 : Int32) from rfl), if_pos rfl, pu_e1, pv_sub 1 (by omega), pc_standOf, pu_e1]
      refine pu_d3.mpr (pu_mono (pc_keep (m := 2) (by omega) y3 rfl ?_) ?_)
      · have hsd := pm_sd_eq s
        have e2 : pm_sd (pm_rg s - 1) (pm_hs s) (pm_sg s) = pm_ac q w s 2 := by
          unfold pm_ac
          rw [if_neg (by omega), if_neg (by omega), if_pos rfl]
          unfold pm_sd at hsd ⊢
          omega
        rw [e2]
      · rintro ⟨y1, y2, y3⟩ ⟨z1, z2⟩
        exact pu_some.mpr ⟨z1, z2⟩
    · have hw2 : pm_wy q w s 2 < 2147483648 := by
        unfold pm_wy; rw [if_neg (by omega), if_neg (by omega), if_pos rfl]; split <;> (try split) <;> omega
      rw [if_neg (fun z => c ((pv_eq 0 (by omega) hw2).mp z)), if_neg c, List.append_nil]
      exact pu_some.mpr ⟨rfl, y3⟩
  rintro ⟨v29, a30, a31⟩ ⟨z1, z2⟩
  dsimp only at z1 z2 ⊢
  subst z1
  -- things
  refine pu_d3.mpr (pu_mono (pc_gatherThings (base := 3) hn hq hs (Or.inl rfl) hh (fun t ht => (pm_wyf ht).symm) z2) ?_)
  rintro ⟨v32, a33, a34⟩ ⟨t1, t2⟩
  dsimp only at t1 t2 ⊢
  subst t1
  obtain ⟨kb, kg, kr⟩ := k3 (pm_rg s) (by omega)
  have hb64 : q (10 + pm_rg s) < 64 := Nat.lt_of_lt_of_le (h4 _ (by omega)).1 (pm_p6 h2)
  have hg64 : q (19 + pm_rg s) < 64 := Nat.lt_of_lt_of_le (h4 _ (by omega)).2.1 (pm_p6 h2)
  have ha64 : q (19 + pm_rg s) &&& (63 ^^^ q (10 + pm_rg s)) < 64 := Nat.lt_of_le_of_lt Nat.and_le_left hg64
  rw [pu_ld (by omega) (by omega), pu_e1, pu_ld (by omega) (by omega), pu_e1, kb, kg, pb_andn _ hg64 _ hb64, pb_andn _ ha64 _ hh]
  refine pu_d3.mpr (pu_mono (pc_gatherThings (base := 9) hn hq hs (Or.inr rfl) (Nat.lt_of_le_of_lt Nat.and_le_left ha64) ?_ t2) ?_)
  · intro t ht
    have e63 : (63 : Nat).testBit t = true := by
      have : ∀ t, t < 6 → (63 : Nat).testBit t = true := by decide
      exact this t ht
    rw [pm_wyt, Nat.testBit_and, Nat.testBit_and, Nat.testBit_xor, Nat.testBit_xor, e63]
    cases (q (19 + pm_rg s)).testBit t <;> cases (q (10 + pm_rg s)).testBit t <;> cases (pm_hs s).testBit t <;> simp
  · rintro ⟨v37, a38, a39⟩ ⟨u1, u2⟩
    exact pu_some.mpr ⟨u1, u1, y2, u2⟩
end PG
