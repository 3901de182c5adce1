theorem pi_0le {x : Int} (h1 : -2147483648 ≤ x) (h2 : x < 2147483648) : (0 : Int32) ≤ Int32.ofInt x ↔ 0 ≤ x := pi_le (a := 0) (by omega) (by omega) h1 h2
theorem pi_le4 {x : Int} (h1 : -2147483648 ≤ x) (h2 : x < 2147483648) : Int32.ofInt x ≤ (4 : Int32) ↔ x ≤ 4 := pi_le (b := 4) h1 h2 (by omega) (by omega)
theorem pe_wtT {x : Int} (h : pe_wt [true] [x]) : -1000000 ≤ x ∧ x ≤ 1000000 := h.1
theorem pe_wtF {x : Int} (h : pe_wt [false] [x]) : x = 0 ∨ x = 1 := h.1
theorem pr_tiredTo {n : Nat} {all rk wds : Nat → Int32} {q : Nat → Nat} {s w : Nat} (hn : 1000 ≤ n) (ha : pr_all all q) (hq : pm_cliff q) (hs : pm_st q s) (hs1 : pm_rg s < q 1) (hw : w ≤ 9) :
    pu_ok (zf_X11_tiredTo n all rk wds (nI s) (nI w)) (fun r => r.1 = nI (pm_tired q w (pm_rg s + 1) (pm_pc (pm_hs s)) (pm_sg s))) := by
  have hlt := pm_st_lt hq hs
  have hg := pm_sg_lt s
  have h5 := hq.2.2.2.2.1 0 (by omega)
  have key : ∀ (x : Int) (a6 a7 : Nat → Int32), -1000000 ≤ x ∧ x ≤ 1000000 → pm_trd q w (pm_rg s + 1) (pm_pc (pm_hs s)) (pm_sg s) = x → pu_ok (if 0 ≤ Int32.ofInt x then if Int32.ofInt x ≤ (4 : Int32) then some (Int32.ofInt x, a6, a7) else some ((4 : Int32), a6, a7) else some ((0 : Int32), a6, a7)) (fun r => r.1 = nI (pm_tired q w (pm_rg s + 1) (pm_pc (pm_hs s)) (pm_sg s))) := by
    intro x a6 a7 hx e
    unfold pm_tired
    rw [e]
    by_cases h1 : x < 0
    · rw [if_neg (fun z => by have := (pi_0le (x := x) (by omega) (by omega)).mp z; omega), if_pos h1]
      exact pu_some.mpr rfl
    · rw [if_pos ((pi_0le (x := x) (by omega) (by omega)).mpr (by omega)), if_neg h1]
      by_cases h2 : 4 < x
      · rw [if_neg (fun z => by have := (pi_le4 (x := x) (by omega) (by omega)).mp z; omega), if_pos h2]
        exact pu_some.mpr rfl
      · rw [if_pos ((pi_le4 (x := x) (by omega) (by omega)).mpr (by omega)), if_neg h2]
        refine pu_some.mpr ?_
        show Int32.ofInt x = nI x.toNat
        rw [pi_nI]; congr 1; omega
  unfold zf_X11_tiredTo
  rw [show (4 : Int32) = nI 4 from rfl, pu_ld (by omega) (by omega), pu_e1, ha 4 (by omega)]
  rcases h5 with h5 | h5
  · have h5' : q 4 = 0 := h5
    rw [if_neg (by rw [h5']; decide), pu_e3, pn_rem5 hlt]
    have e1 : nI (pm_sg s) - (1 : Int32) = Int32.ofInt ((pm_sg s : Int) - 1) := by rw [Int32.ofInt_sub, ← pi_nI]; rfl
    rw [e1]
    refine key _ _ _ (by omega) ?_
    unfold pm_trd
    rw [if_neg (by omega)]
  · have h5' : q 4 = 1 := h5.1
    rw [if_pos (by rw [h5']; decide)]
    refine pu_d3.mpr (pu_d3.mpr (pu_mono (pr_reckons (law := 0) hn ha hq (by omega) h5.1 hs hs1 hw) ?_))
    rintro ⟨r1, r2, r3⟩ ⟨e1, e2⟩
    dsimp only at e1 ⊢
    subst e1
    refine pu_some.mpr (key _ _ _ (pe_wtT e2) ?_)
    unfold pm_trd
    rw [if_pos h5']
theorem pr_whyBy {n : Nat} {all rk wds : Nat → Int32} {q : Nat → Nat} {s m w : Nat} (hn : 1000 ≤ n) (ha : pr_all all q) (hq : pm_cliff q) (hs : pm_st q s) (hm : m < 15) (hw : w ≤ 9) :
    pu_ok (zf_X11_whyBy n all rk wds (nI s) (nI m) (nI w)) (fun r => r.1 = nI (pm_wy q w s m)) := by
  have hlt := pm_st_lt hq hs
  have hg := pm_sg_lt s
  have hh := pm_hs_lt s
  obtain ⟨h1, h2, h3, h4, h5, h6⟩ := id hq
  have hp := pm_p6 h2
  have hs1 := hs.1
  have e0 : ∀ k : Nat, k < 15 → (nI m = (OfNat.ofNat k : Int32) ↔ m = k) := fun k hk => pv_eq k (by omega) (by omega)
  unfold zf_X11_whyBy pm_wy
  rw [pr_rungIn hlt, pu_e1, pr_hasIn hlt, pu_e1]
  by_cases m0 : m = 0
  · rw [if_pos ((e0 0 (by omega)).mpr m0), if_pos m0]
    exact pu_some.mpr rfl
  rw [if_neg (fun z => m0 ((e0 0 (by omega)).mp z)), if_neg m0]
  by_cases m1 : m = 1
  · rw [if_pos ((e0 1 (by omega)).mpr m1), if_pos m1, show (1 : Int32) = nI 1 from rfl, pu_ld (by omega) (by omega), pu_e1, ha 1 (by omega)]
    by_cases c1 : pm_rg s = q 1
    · rw [if_pos (by rw [c1]), if_pos c1]
      exact pu_some.mpr rfl
    · rw [if_neg (fun z => c1 ((pn_eq (by omega) (by omega)).mp z)), if_neg c1, pn_add, pr_isBarred ha (by omega) (Nat.lt_of_lt_of_le (h4 _ (by omega)).1 hp), pu_e1]
      by_cases c2 : q (10 + (pm_rg s + 1)) &&& pm_hs s = 0
      · rw [if_pos c2, if_pos c2, if_pos (by decide), show (5 : Int32) = nI 5 from rfl, pu_ld (by omega) (by omega), pu_e1, ha 5 (by omega)]
        have h51 := h5 1 (by omega)
        rcases h51 with h51 | h51
        · have h51' : q 5 = 0 := h51
          have hmay : pm_may q w (pm_rg s + 1) (pm_pc (pm_hs s)) (pm_sg s) = decide (0 < pm_sg s) := by unfold pm_may; rw [if_pos h51']
          rw [hmay, h51', if_pos (show nI 0 = (0 : Int32) from rfl), show nI 5 = (5 : Int32) from rfl, pn_rem5 hlt]
          by_cases c3 : 0 < pm_sg s
          · rw [if_neg (fun z => by have := (pv_ge 0 (b := pm_sg s) (by omega) (by omega)).mp z; omega), pu_e3, if_neg (show ¬ nI 1 = (0 : Int32) by decide), if_pos (by simpa using c3)]
            exact pu_some.mpr rfl
          · rw [if_pos ((pv_ge 0 (b := pm_sg s) (by omega) (by omega)).mpr (by omega)), pu_e3, if_pos (show (0 : Int32) = 0 from rfl), if_neg (by simpa using c3)]
            exact pu_some.mpr rfl
        · have h51' : q 5 = 1 := h51.1
          have hmay : pm_may q w (pm_rg s + 1) (pm_pc (pm_hs s)) (pm_sg s) = decide (pm_val q 1 w (pm_rg s + 1) (pm_pc (pm_hs s)) (pm_sg s) = 1) := by unfold pm_may; rw [if_neg (by omega)]
          rw [hmay, if_neg (show ¬ nI (q 5) = (0 : Int32) by rw [h51']; decide)]
          refine pu_d3.mpr (pu_d3.mpr (pu_mono (pr_reckons (law := 1) hn ha hq (by omega) h51.1 hs (by omega) hw) ?_))
          rintro ⟨r1, r2, r3⟩ ⟨e1, e2⟩
          dsimp only at e1 ⊢
          subst e1
          rcases pe_wtF e2 with e3 | e3
          · rw [e3, if_neg (by decide)]
            refine pu_some.mpr ?_
            dsimp only
            rw [if_pos (show (0 : Int32) = 0 from rfl)]
            exact pu_some.mpr rfl
          · rw [e3, if_pos (by decide)]
            refine pu_some.mpr ?_
            dsimp only
            rw [if_neg (show ¬ nI 1 = (0 : Int32) by decide)]
            exact pu_some.mpr rfl
      · rw [if_neg c2, if_neg c2, if_neg (by decide)]
        exact pu_some.mpr rfl
  rw [if_neg (fun z => m1 ((e0 1 (by omega)).mp z)), if_neg m1]
  by_cases m2 : m = 2
  · rw [if_pos ((e0 2 (by omega)).mpr m2), if_pos m2]
    by_cases c1 : pm_rg s = 0
    · rw [if_pos (by rw [c1]; rfl), if_pos c1]
      exact pu_some.mpr rfl
    · rw [if_neg (fun z => c1 ((pv_eq 0 (by omega) (by omega)).mp z)), if_neg c1, show (1 : Int32) = nI 1 from rfl, pn_sub (by omega), pr_isBarred ha (by omega) (Nat.lt_of_lt_of_le (h4 _ (by omega)).1 hp), pu_e1]
      by_cases c2 : q (10 + (pm_rg s - 1)) &&& pm_hs s = 0
      · rw [if_pos c2, if_pos c2, if_pos (by decide)]
        exact pu_some.mpr rfl
      · rw [if_neg c2, if_neg c2, if_neg (by decide)]
        exact pu_some.mpr rfl
  rw [if_neg (fun z => m2 ((e0 2 (by omega)).mp z)), if_neg m2, show (3 : Int32) = nI 3 from rfl, show (6 : Int32) = nI 6 from rfl, pn_sub (by omega), pn_rem (by omega) (by omega), pu_e1]
  by_cases m9 : m < 9
  · rw [if_neg (fun z => by have := (pv_le 9 (by omega) (by omega)).mp z; omega), if_pos m9, show (m - 3) % 6 = m - 3 from by omega, pb_isIn _ hh _ (by omega), pu_e1]
    by_cases c1 : (pm_hs s).testBit (m - 3)
    · rw [if_pos c1, if_pos c1, if_neg (by decide)]
      exact pu_some.mpr rfl
    · rw [if_neg c1, if_neg c1, if_pos (by decide)]
      exact pu_some.mpr rfl
  · rw [if_pos ((pv_le 9 (by omega) (by omega)).mpr (by omega)), if_neg m9, show (m - 3) % 6 = m - 9 from by omega, pb_isIn _ hh _ (by omega), pu_e1]
    by_cases c1 : (pm_hs s).testBit (m - 9)
    · rw [if_pos c1, if_pos c1, if_neg (by decide)]
      exact pu_some.mpr rfl
    · rw [if_neg c1, if_neg c1, if_pos (by decide), show (19 : Int32) + nI (pm_rg s) = nI (19 + pm_rg s) from pn_add _ _, pu_ld (by omega) (by omega), pu_e1, ha _ (by omega), pb_isIn _ (Nat.lt_of_lt_of_le (h4 _ (by omega)).2.1 hp) _ (by omega), pu_e1]
      by_cases c2 : (q (19 + pm_rg s)).testBit (m - 9)
      · rw [if_pos c2, if_pos c2, if_neg (by decide), show (10 : Int32) + nI (pm_rg s) = nI (10 + pm_rg s) from pn_add _ _, pu_ld (by omega) (by omega), pu_e1, ha _ (by omega), pb_isIn _ (Nat.lt_of_lt_of_le (h4 _ (by omega)).1 hp) _ (by omega), pu_e1]
        by_cases c3 : (q (10 + pm_rg s)).testBit (m - 9)
        · rw [if_pos c3, if_pos c3, if_neg (by decide)]
          exact pu_some.mpr rfl
        · rw [if_neg c3, if_neg c3, if_pos (by decide)]
          exact pu_some.mpr rfl
      · rw [if_neg c2, if_neg c2, if_pos (by decide)]
        exact pu_some.mpr rfl
/-- where a deed leads, if it can be -/
theorem pm_tired_le (q : Nat → Nat) (w r c g : Nat) : pm_tired q w r c g < 5 := by
  unfold pm_tired
  by_cases h1 : pm_trd q w r c g < 0
  · rw [if_pos h1]; omega
  · rw [if_neg h1]
    by_cases h2 : 4 < pm_trd q w r c g
    · rw [if_pos h2]; omega
    · rw [if_neg h2]; omega
theorem pb_tb : ∀ h, h < 64 → ∀ k, k < 6 → h.testBit k = true → 2 ^ k ≤ h ∧ h - 2 ^ k < 64 := by decide +kernel
theorem pb_tbn : ∀ h, h < 64 → ∀ k, k < 6 → h.testBit k = false → h + 2 ^ k < 64 := by decide +kernel
theorem pb_tbT : ∀ t, t < 7 → ∀ h, h < 2 ^ t → ∀ k, k < 6 → h.testBit k = true → h - 2 ^ k < 2 ^ t ∧ k < t := by decide +kernel
theorem pb_tbnT : ∀ t, t < 7 → ∀ h, h < 2 ^ t → ∀ k, k < 6 → h.testBit k = false → k < t → h + 2 ^ k < 2 ^ t := by decide +kernel
/-- the parts of the stand behind a deed -/
theorem pm_acp {q : Nat → Nat} {w s m : Nat} (hq : pm_cliff q) (hs : pm_st q s) (hm : m < 15) (h0 : pm_wy q w s m = 0) :
    pm_ac q w s m = pm_sd (if m = 1 then pm_rg s + 1 else if m = 2 then pm_rg s - 1 else pm_rg s) (if m < 3 then pm_hs s else if m < 9 then pm_hs s - 2 ^ (m - 3) else pm_hs s + 2 ^ (m - 9)) (if m = 0 then (if pm_sg s < 4 then pm_sg s + 1 else pm_sg s) else if m = 1 then pm_tired q w (pm_rg s + 1) (pm_pc (pm_hs s)) (pm_sg s) else pm_sg s) ∧ (if m = 1 then pm_rg s + 1 else if m = 2 then pm_rg s - 1 else pm_rg s) ≤ q 1 ∧ (if m < 3 then pm_hs s else if m < 9 then pm_hs s - 2 ^ (m - 3) else pm_hs s + 2 ^ (m - 9)) < 2 ^ q 2 ∧ (if m = 0 then (if pm_sg s < 4 then pm_sg s + 1 else pm_sg s) else if m = 1 then pm_tired q w (pm_rg s + 1) (pm_pc (pm_hs s)) (pm_sg s) else pm_sg s) < 5 ∧ (m = 1 → pm_rg s < q 1) ∧ (m = 2 → 1 ≤ pm_rg s) ∧ (3 ≤ m → m < 9 → (pm_hs s).testBit (m - 3) = true) ∧ (9 ≤ m → (pm_hs s).testBit (m - 9) = false) := by
  have hlt := pm_st_lt hq hs
  have hg := pm_sg_lt s
  have hh := pm_hs_lt s
  have hsd := pm_sd_eq s
  obtain ⟨h1, h2, h3, h4, h5, h6⟩ := id hq
  obtain ⟨hs1, hs2⟩ := hs
  unfold pm_wy at h0
  by_cases m0 : m = 0
  · subst m0
    refine ⟨?_, by simpa using hs1, by simpa using hs2, ?_, by omega, by omega, by omega, by omega⟩
    · unfold pm_ac
      simp only [if_true]
      by_cases c : pm_sg s < 4
      · rw [if_pos c]; simp only [if_pos c]; unfold pm_sd at hsd ⊢; simp; omega
      · rw [if_neg c]; simp only [if_neg c]; simp; exact hsd.symm
    · simp only [if_true]; split <;> omega
  rw [if_neg m0] at h0
  by_cases m1 : m = 1
  · subst m1
    rw [if_pos (by decide)] at h0
    by_cases c1 : pm_rg s = q 1
    · rw [if_pos c1] at h0; omega
    · refine ⟨?_, ?_, by simpa using hs2, ?_, by omega, by omega, by omega, by omega⟩
      · unfold pm_ac; simp
      · simp; omega
      · simpa using pm_tired_le _ _ _ _ _
  rw [if_neg m1] at h0
  by_cases m2 : m = 2
  · subst m2
    rw [if_pos (by decide)] at h0
    by_cases c1 : pm_rg s = 0
    · rw [if_pos c1] at h0; omega
    · refine ⟨?_, ?_, by simpa using hs2, by simpa using hg, by omega, by omega, by omega, by omega⟩
      · unfold pm_ac; simp; unfold pm_sd at hsd ⊢; omega
      · simp; omega
  rw [if_neg m2] at h0
  have n3 : ¬ m < 3 := by omega
  by_cases m9 : m < 9
  · rw [if_pos m9] at h0
    by_cases c1 : (pm_hs s).testBit (m - 3)
    · have t1 := pb_tb _ hh _ (by omega) c1
      have t2 := pb_tbT _ (by omega) _ hs2 _ (by omega) c1
      refine ⟨?_, by simpa [m1, m2] using hs1, by simpa [n3, m9] using t2.1, by simpa [m0, m1] using hg, by omega, by omega, fun _ _ => c1, by omega⟩
      unfold pm_ac
      simp only [if_neg m0, if_neg m1, if_neg m2, if_pos m9, if_neg n3]
      unfold pm_sd at hsd ⊢; omega
    · rw [if_neg c1] at h0; omega
  · rw [if_neg m9] at h0
    by_cases c1 : (pm_hs s).testBit (m - 9)
    · rw [if_pos c1] at h0; omega
    · rw [if_neg c1] at h0
      have c1' : (pm_hs s).testBit (m - 9) = false := by simpa using c1
      by_cases c2 : (q (19 + pm_rg s)).testBit (m - 9)
      · have t0 := (pb_tbT _ (by omega) _ (h4 (pm_rg s) (by omega)).2.1 _ (by omega) c2).2
        have t1 := pb_tbn _ hh _ (by omega) c1'
        have t2 := pb_tbnT _ (by omega) _ hs2 _ (by omega) c1' t0
        refine ⟨?_, by simpa [m1, m2] using hs1, by simpa [n3, m9] using t2, by simpa [m0, m1] using hg, by omega, by omega, by omega, fun _ => c1'⟩
        unfold pm_ac
        simp only [if_neg m0, if_neg m1, if_neg m2, if_neg m9, if_neg n3]
        unfold pm_sd at hsd ⊢; omega
      · rw [if_neg c2] at h0; omega
theorem pm_acst {q : Nat → Nat} {w s m : Nat} (hq : pm_cliff q) (hs : pm_st q s) (hm : m < 15) (h0 : pm_wy q w s m = 0) : pm_st q (pm_ac q w s m) := by
  obtain ⟨e, e1, e2, e3, _⟩ := pm_acp hq hs hm h0
  have hp := pm_p6 hq.2.1
  rw [e]
  constructor
  · rw [pm_rg_sd (by omega) e3]; exact e1
  · rw [pm_hs_sd (by omega) e3]; exact e2
theorem pr_actedTo {n : Nat} {all rk wds : Nat → Int32} {q : Nat → Nat} {s m w : Nat} (hn : 1000 ≤ n) (ha : pr_all all q) (hq : pm_cliff q) (hs : pm_st q s) (hm : m < 15) (hw : w ≤ 9) (h0 : pm_wy q w s m = 0) :
    pu_ok (zf_X11_actedTo n all rk wds (nI s) (nI m) (nI w)) (fun r => r.1 = nI (pm_ac q w s m)) := by
  have hlt := pm_st_lt hq hs
  have hg := pm_sg_lt s
  have hh := pm_hs_lt s
  have hsd := pm_sd_eq s
  obtain ⟨e, e1, e2, e3, i1, i2, i3, i4⟩ := pm_acp hq hs hm h0
  have e0 : ∀ k : Nat, k < 15 → (nI m = (OfNat.ofNat k : Int32) ↔ m = k) := fun k hk => pv_eq k (by omega) (by omega)
  unfold zf_X11_actedTo pm_ac
  rw [pn_rem5 hlt, pu_e1]
  by_cases m0 : m = 0
  · rw [if_pos ((e0 0 (by omega)).mpr m0), if_pos m0]
    by_cases c : pm_sg s < 4
    · rw [if_neg (fun z => by have := (pv_le 4 (by omega) (by omega)).mp z; omega), if_pos c]
      exact pu_some.mpr (pn_a1 s)
    · rw [if_pos ((pv_le 4 (by omega) (by omega)).mpr (by omega)), if_neg c]
      exact pu_some.mpr rfl
  rw [if_neg (fun z => m0 ((e0 0 (by omega)).mp z)), if_neg m0]
  by_cases m1 : m = 1
  · rw [if_pos ((e0 1 (by omega)).mpr m1), if_pos m1, pr_rungIn hlt, pu_e1, pr_hasIn hlt, pu_e1]
    refine pu_d3.mpr (pu_mono (pr_tiredTo hn ha hq hs (i1 m1) hw) ?_)
    rintro ⟨r1, r2, r3⟩ e1
    dsimp only at e1 ⊢
    subst e1
    rw [pn_a1, pr_standOf, pu_e1]
    exact pu_some.mpr rfl
  rw [if_neg (fun z => m1 ((e0 1 (by omega)).mp z)), if_neg m1]
  by_cases m2 : m = 2
  · rw [if_pos ((e0 2 (by omega)).mpr m2), if_pos m2]
    refine pu_some.mpr (pn_sub (a := s) (b := 320) ?_)
    have := i2 m2
    unfold pm_rg at this
    omega
  rw [if_neg (fun z => m2 ((e0 2 (by omega)).mp z)), if_neg m2, show (3 : Int32) = nI 3 from rfl, show (6 : Int32) = nI 6 from rfl, pn_sub (by omega), pn_rem (by omega) (by omega)]
  by_cases m9 : m < 9
  · rw [show (m - 3) % 6 = m - 3 from by omega, pb_sh _ (by omega), pu_e1, if_neg (fun z => by have := (pv_le 9 (b := m) (by omega) (by omega)).mp z; omega), if_pos m9, show (5 : Int32) = nI 5 from rfl, pn_mul]
    have t1 := pb_tb _ hh _ (by omega) (i3 (by omega) m9)
    refine pu_some.mpr (pn_sub ?_)
    unfold pm_sd at hsd
    omega
  · rw [show (m - 3) % 6 = m - 9 from by omega, pb_sh _ (by omega), pu_e1, if_pos ((pv_le 9 (b := m) (by omega) (by omega)).mpr (by omega)), if_neg m9, show (5 : Int32) = nI 5 from rfl, pn_mul, pn_add]
    exact pu_some.mpr rfl
