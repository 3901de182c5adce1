def pm_dd (m : Nat) : Nat := if m < 3 then m else if m < 9 then m + 7 else m + 11
def pm_mv (q : Nat → Nat) (m : Nat) : Prop := m < 3 ∨ m < 15 ∧ (m - 3) % 6 < q 2
theorem pm_mv_lt {q : Nat → Nat} {m : Nat} (h : pm_mv q m) : m < 15 := by
  rcases h with h | h
  · omega
  · exact h.1
theorem pb_tz : ∀ h, h < 64 → ∀ k, k < 6 → (h &&& 2 ^ k = 0 ↔ h.testBit k = false) := by decide +kernel
theorem pc_isRung {t r : Nat} (ht : t < 2147483648) (hr : r < 2147483648) : zf_X0_isRung (nI t) (nI r) = some (nI (if r ≤ t then 1 else 0)) := by
  unfold zf_X0_isRung
  rw [if_neg (fun z => by have := (pv_gt 0 (b := r) (by omega) hr).mp z; omega)]
  by_cases c : r ≤ t
  · rw [if_neg (fun z => by have := (pn_lt ht hr).mp z; omega), if_pos c]; rfl
  · rw [if_pos ((pn_lt ht hr).mpr (by omega)), if_neg c]; rfl
theorem pc_isThing {t r : Nat} (ht : t < 2147483648) (hr : r < 2147483648) : zf_X0_isThing (nI t) (nI r) = some (nI (if r < t then 1 else 0)) := by
  unfold zf_X0_isThing
  rw [if_neg (fun z => by have := (pv_gt 0 (b := r) (by omega) hr).mp z; omega)]
  by_cases c : r < t
  · rw [if_neg (fun z => by have := (pn_le ht hr).mp z; omega), if_pos c]; rfl
  · rw [if_pos ((pn_le ht hr).mpr (by omega)), if_neg c]; rfl
theorem pc_entry {q : Nat → Nat} {bars : Nat → Int32} {r h : Nat} (hq : pm_cliff q) (hb : ∀ r, r < 9 → bars r = nI (q (10 + r))) (hr : r < 100) : zf_X3_entryRefusal (nI (q 1)) bars (nI r) (nI h) = some (nI (if q 1 < r then 2 else if q (10 + r) &&& h = 0 then 0 else 3)) := by
  obtain ⟨h1, h2, h3, h4, h5, h6⟩ := hq
  unfold zf_X3_entryRefusal
  rw [pc_isRung (by omega) (by omega), pu_e1]
  by_cases c : q 1 < r
  · rw [if_neg (show ¬ r ≤ q 1 by omega), if_pos (show nI 0 = (0 : Int32) from rfl), if_pos c]; rfl
  · have hb64 : q (10 + r) < 64 := Nat.lt_of_lt_of_le (h4 _ (by omega)).1 (pm_p6 h2)
    rw [if_pos (show r ≤ q 1 by omega), if_neg (show ¬ nI 1 = (0 : Int32) by decide), if_neg c, pu_ld (by omega) (by omega), pu_e1, hb r (by omega)]
    by_cases c2 : q (10 + r) &&& h = 0
    · rw [if_pos ((pn_and0 (by omega)).mpr c2), if_pos c2]; rfl
    · rw [if_neg (fun z => c2 ((pn_and0 (by omega)).mp z)), if_neg c2]; rfl
theorem pc_entry0 {t : Nat} {bars : Nat → Int32} {h : Int32} : zf_X3_entryRefusal (nI t) bars (nI 0 - (1 : Int32)) h = some (nI 2) := by
  unfold zf_X3_entryRefusal zf_X0_isRung
  rw [if_pos (by decide), pu_e1, if_pos rfl]; rfl
section PC
variable {n : Nat} {q : Nat → Nat} {w s : Nat} {top things tf tt mf mt : Int32} {bars gives rough code told fa sk : Nat → Int32}
theorem pc_refusal {m : Nat} (hn : 1000 ≤ n) (hq : pm_cliff q) (hK : pc_K q top things tf tt mf mt bars gives rough code) (hT : pc_told q w told) (hs : pm_st q s) (hm : pm_mv q m) (hw : w ≤ 9) :
    pu_ok (zf_X3_refusal n top things tf tt mf mt bars gives rough code (nI w) told fa sk (nI s) (nI (pm_dd m))) (fun r => r.1 = nI (pm_wy q w s m) ∧ pc_told q w r.2.1) := by
  have hlt := pm_st_lt hq hs
  have hg := pm_sg_lt s
  have hh := pm_hs_lt s
  obtain ⟨h1, h2, h3, h4, h5, h6⟩ := id hq
  have hK' := hK
  obtain ⟨k1, k2, k3, k4, k5, k6⟩ := hK
  have hp := pm_p6 h2
  have hm15 := pm_mv_lt hm
  obtain ⟨hs1, hs2⟩ := id hs
  unfold zf_X3_refusal pm_wy
  rw [pc_rungOf hlt, pu_e1, pc_thingsOf hlt, pu_e1]
  by_cases m0 : m = 0
  · subst m0
    rw [if_pos (show nI (pm_dd 0) = (0 : Int32) from rfl), if_pos rfl]
    exact pu_some.mpr ⟨rfl, hT⟩
  have hd : pm_dd m < 40 := by unfold pm_dd; split <;> (try split) <;> omega
  rw [if_neg (fun z => m0 (by have := (pv_eq 0 (b := pm_dd m) (by omega) (by omega)).mp z; unfold pm_dd at this; split at this <;> (try split at this) <;> omega)), if_neg m0]
  by_cases m1 : m = 1
  · subst m1
    rw [if_pos (show nI (pm_dd 1) = (1 : Int32) from rfl), if_pos rfl, pn_a1, k1, pc_entry hq (fun r hr => (k3 r hr).1) (by omega), pu_e1]
    by_cases c1 : pm_rg s = q 1
    · rw [if_pos (show q 1 < pm_rg s + 1 by omega), if_pos c1, if_neg (show ¬ nI 2 = (0 : Int32) by decide)]
      exact pu_some.mpr ⟨rfl, hT⟩
    · rw [if_neg (show ¬ q 1 < pm_rg s + 1 by omega), if_neg c1]
      by_cases c2 : q (10 + (pm_rg s + 1)) &&& pm_hs s = 0
      · rw [if_pos c2, if_pos c2, if_pos (show nI 0 = (0 : Int32) from rfl), ← k1]
        refine pu_d4.mpr (pu_mono (pc_strengthAbove hn hq hK' hT hs (by omega) hw) ?_)
        rintro ⟨r1, r2, r3, r4⟩ ⟨e1, e2⟩
        dsimp only at e1 e2 ⊢
        subst e1
        unfold pc_up
        by_cases c3 : pm_may q w (pm_rg s + 1) (pm_pc (pm_hs s)) (pm_sg s) = true
        · have := pm_tired_le q w (pm_rg s + 1) (pm_pc (pm_hs s)) (pm_sg s)
          rw [if_pos c3, if_pos c3, if_neg (fun z => (pn_ne1 (by omega)).mp z)]
          exact pu_some.mpr ⟨rfl, e2⟩
        · rw [if_neg c3, if_neg c3, if_pos rfl]
          exact pu_some.mpr ⟨rfl, e2⟩
      · rw [if_neg c2, if_neg c2, if_neg (show ¬ nI 3 = (0 : Int32) by decide)]
        exact pu_some.mpr ⟨rfl, hT⟩
  rw [if_neg (fun z => m1 (by have := (pv_eq 1 (b := pm_dd m) (by omega) (by omega)).mp z; unfold pm_dd at this; split at this <;> (try split at this) <;> omega)), if_neg m1]
  by_cases m2 : m = 2
  · subst m2
    rw [if_pos (show nI (pm_dd 2) = (2 : Int32) from rfl), if_pos rfl, k1]
    by_cases c1 : pm_rg s = 0
    · rw [if_pos c1, c1, pc_entry0, pu_e1]
      exact pu_some.mpr ⟨rfl, hT⟩
    · rw [if_neg c1, pv_sub 1 (by omega), pc_entry hq (fun r hr => (k3 r hr).1) (by omega), pu_e1, if_neg (show ¬ q 1 < pm_rg s - 1 by omega)]
      exact pu_some.mpr ⟨rfl, hT⟩
  rw [if_neg (fun z => m2 (by have := (pv_eq 2 (b := pm_dd m) (by omega) (by omega)).mp z; unfold pm_dd at this; split at this <;> (try split at this) <;> omega)), if_neg m2, k2]
  have ht : (m - 3) % 6 < q 2 := by rcases hm with h | h <;> omega
  by_cases m9 : m < 9
  · have ed : pm_dd m = m + 7 := by unfold pm_dd; rw [if_neg (by omega), if_pos m9]
    rw [if_pos m9, ed, pv_sub 10 (by omega), show m + 7 - 10 = m - 3 from by omega, pc_isThing (by omega) (by omega), pu_e1, if_pos (show m - 3 < q 2 by omega), if_neg (show ¬ nI 1 = (0 : Int32) by decide), show (1 : Int32) = nI 1 from rfl, pb_bit _ hh _ (by omega)]
    by_cases c1 : (pm_hs s).testBit (m - 3)
    · rw [if_pos c1, if_pos c1, if_neg (show ¬ nI 1 = (0 : Int32) by decide)]
      exact pu_some.mpr ⟨rfl, hT⟩
    · rw [if_neg c1, if_neg c1, if_pos (show nI 0 = (0 : Int32) from rfl)]
      exact pu_some.mpr ⟨rfl, hT⟩
  · have ed : pm_dd m = m + 11 := by unfold pm_dd; rw [if_neg (by omega), if_neg m9]
    obtain ⟨kb, kg, kr⟩ := k3 (pm_rg s) (by omega)
    have hb64 : q (10 + pm_rg s) < 64 := Nat.lt_of_lt_of_le (h4 _ (by omega)).1 (pm_p6 h2)
    have hg64 : q (19 + pm_rg s) < 64 := Nat.lt_of_lt_of_le (h4 _ (by omega)).2.1 (pm_p6 h2)
    rw [if_neg m9, ed, pv_sub 10 (by omega), pc_isThing (by omega) (by omega), pu_e1, if_neg (show ¬ m + 11 - 10 < q 2 by omega), if_pos (show nI 0 = (0 : Int32) from rfl), pv_sub 20 (by omega), show m + 11 - 20 = m - 9 from by omega, pc_isThing (by omega) (by omega), pu_e1, if_pos (show m - 9 < q 2 by omega), if_neg (show ¬ nI 1 = (0 : Int32) by decide), pb_sh _ (by omega)]
    unfold zf_X3_takeRefusal
    by_cases c1 : (pm_hs s).testBit (m - 9)
    · rw [if_pos c1, if_neg (fun z => by have := (pb_tz _ hh _ (by omega)).mp ((pn_and0 (by omega)).mp z); rw [c1] at this; cases this), pu_e1]
      exact pu_some.mpr ⟨rfl, hT⟩
    · rw [if_neg c1, if_pos ((pn_and0 (by omega)).mpr ((pb_tz _ hh _ (by omega)).mpr (by simpa using c1))), pu_ld (by omega) (by omega), pu_e1, kg]
      by_cases c2 : (q (19 + pm_rg s)).testBit (m - 9)
      · rw [if_pos c2, if_neg (fun z => by have := (pb_tz _ hg64 _ (by omega)).mp ((pn_and0 (by omega)).mp z); rw [c2] at this; cases this), pu_ld (by omega) (by omega), pu_e1, kb]
        by_cases c3 : (q (10 + pm_rg s)).testBit (m - 9)
        · rw [if_pos c3, if_neg (fun z => by have := (pb_tz _ hb64 _ (by omega)).mp ((pn_and0 (by omega)).mp z); rw [c3] at this; cases this), pu_e1]
          exact pu_some.mpr ⟨rfl, hT⟩
        · rw [if_neg c3, if_pos ((pn_and0 (by omega)).mpr ((pb_tz _ hb64 _ (by omega)).mpr (by simpa using c3))), pu_e1]
          exact pu_some.mpr ⟨rfl, hT⟩
      · rw [if_neg c2, if_pos ((pn_and0 (by omega)).mpr ((pb_tz _ hg64 _ (by omega)).mpr (by simpa using c2))), pu_e1]
        exact pu_some.mpr ⟨rfl, hT⟩
theorem pc_norefusal {p : Int32} (hq : pm_cliff q) (hK : pc_K q top things tf tt mf mt bars gives rough code) (hs : pm_st q s) (hp : ∀ m, pm_mv q m → ¬ p = nI (pm_dd m)) :
    zf_X3_refusal n top things tf tt mf mt bars gives rough code (nI w) told fa sk (nI s) p = some ((1 : Int32), told, fa, sk) := by
  have hlt := pm_st_lt hq hs
  obtain ⟨h1, h2, h3, h4, h5, h6⟩ := id hq
  obtain ⟨k1, k2, k3, k4, k5, k6⟩ := hK
  have key : ∀ (x : Int32), zf_X0_isThing (nI (q 2)) x = some (0 : Int32) ∨ ∃ t, t < q 2 ∧ x = nI t := by
    intro x
    by_cases hx : 0 ≤ x.toInt
    · obtain ⟨k, rfl, hk, _⟩ := pn_of hx
      by_cases c : k < q 2
      · exact Or.inr ⟨k, c, rfl⟩
      · left
        rw [pc_isThing (by omega) hk, if_neg c]; rfl
    · left
      unfold zf_X0_isThing
      rw [if_pos (by rw [Int32.lt_iff_toInt_lt]; show x.toInt < 0; omega)]
  unfold zf_X3_refusal
  rw [pc_rungOf hlt, pu_e1, pc_thingsOf hlt, pu_e1, if_neg (show ¬ p = (0 : Int32) from hp 0 (Or.inl (by omega))), if_neg (show ¬ p = (1 : Int32) from hp 1 (Or.inl (by omega))), if_neg (show ¬ p = (2 : Int32) from hp 2 (Or.inl (by omega))), k2]
  have e10 : zf_X0_isThing (nI (q 2)) (p - (10 : Int32)) = some (0 : Int32) := by
    rcases key (p - (10 : Int32)) with e | ⟨t, t1, t2⟩
    · exact e
    · exfalso
      refine hp (3 + t) (Or.inr ⟨by omega, by omega⟩) ?_
      have : p = nI t + nI 10 := by rw [← t2]; exact (Int32.sub_add_cancel p 10).symm
      rw [this, pn_add]
      congr 1
      unfold pm_dd
      rw [if_neg (by omega), if_pos (by omega)]; omega
  have e20 : zf_X0_isThing (nI (q 2)) (p - (20 : Int32)) = some (0 : Int32) := by
    rcases key (p - (20 : Int32)) with e | ⟨t, t1, t2⟩
    · exact e
    · exfalso
      refine hp (9 + t) (Or.inr ⟨by omega, by omega⟩) ?_
      have : p = nI t + nI 20 := by rw [← t2]; exact (Int32.sub_add_cancel p 20).symm
      rw [this, pn_add]
      congr 1
      unfold pm_dd
      rw [if_neg (by omega), if_neg (by omega)]; omega
  rw [e10, pu_e1, if_pos rfl, e20, pu_e1, if_pos rfl]
theorem pc_behind {m : Nat} (hn : 1000 ≤ n) (hq : pm_cliff q) (hK : pc_K q top things tf tt mf mt bars gives rough code) (hT : pc_told q w told) (hs : pm_st q s) (hm : m < 15) (hw : w ≤ 9) (h0 : pm_wy q w s m = 0) :
    pu_ok (zf_X3_behind n top things tf tt mf mt bars rough code (nI w) told fa sk (nI s) (nI (pm_dd m))) (fun r => r.1 = nI (pm_ac q w s m) ∧ pc_told q w r.2.1) := by
  have hlt := pm_st_lt hq hs
  have hg := pm_sg_lt s
  have hh := pm_hs_lt s
  have hsd := pm_sd_eq s
  obtain ⟨e, e1, e2, e3, i1, i2, i3, i4⟩ := pm_acp hq hs hm h0
  have hd : pm_dd m < 40 := by unfold pm_dd; split <;> (try split) <;> omega
  unfold zf_X3_behind
  rw [pc_rungOf hlt, pu_e1, pc_thingsOf hlt, pu_e1, pc_strengthOf hlt, pu_e1, e]
  by_cases m0 : m = 0
  · subst m0
    rw [if_pos (show nI (pm_dd 0) = (0 : Int32) from rfl), pn_a1]
    by_cases c : pm_sg s + 1 < 4
    · rw [if_pos ((pv_gt 4 (by omega) (by omega)).mpr c), pu_e1, pc_standOf, pu_e1]
      refine pu_some.mpr ⟨?_, hT⟩
      simp [show pm_sg s < 4 from by omega]
    · rw [if_neg (fun z => c ((pv_gt 4 (by omega) (by omega)).mp z)), pu_e1, show (4 : Int32) = nI 4 from rfl, pc_standOf, pu_e1]
      refine pu_some.mpr ⟨?_, hT⟩
      by_cases c2 : pm_sg s < 4
      · simp [show pm_sg s = 3 from by omega]
      · simp [show pm_sg s = 4 from by omega]
  rw [if_neg (fun z => m0 (by have := (pv_eq 0 (b := pm_dd m) (by omega) (by omega)).mp z; unfold pm_dd at this; split at this <;> (try split at this) <;> omega))]
  by_cases m1 : m = 1
  · subst m1
    rw [if_pos (show nI (pm_dd 1) = (1 : Int32) from rfl)]
    refine pu_d4.mpr (pu_mono (pc_strengthAbove hn hq hK hT hs (i1 rfl) hw) ?_)
    rintro ⟨r1, r2, r3, r4⟩ ⟨x1, x2⟩
    dsimp only at x1 x2 ⊢
    subst x1
    have hmay : pm_may q w (pm_rg s + 1) (pm_pc (pm_hs s)) (pm_sg s) = true := by
      unfold pm_wy at h0
      rw [if_neg (by omega), if_pos rfl, if_neg (by have := i1 rfl; omega)] at h0
      by_cases c2 : q (10 + (pm_rg s + 1)) &&& pm_hs s = 0
      · rw [if_pos c2] at h0
        by_cases c3 : pm_may q w (pm_rg s + 1) (pm_pc (pm_hs s)) (pm_sg s) = true
        · exact c3
        · rw [if_neg c3] at h0; cases h0
      · rw [if_neg c2] at h0; cases h0
    unfold pc_up
    rw [if_pos hmay, pn_a1, pc_standOf, pu_e1]
    exact pu_some.mpr ⟨by simp, x2⟩
  rw [if_neg (fun z => m1 (by have := (pv_eq 1 (b := pm_dd m) (by omega) (by omega)).mp z; unfold pm_dd at this; split at this <;> (try split at this) <;> omega))]
  by_cases m2 : m = 2
  · subst m2
    rw [if_pos (show nI (pm_dd 2) = (2 : Int32) from rfl), pv_sub 1 (i2 rfl), pc_standOf, pu_e1]
    exact pu_some.mpr ⟨by simp, hT⟩
  rw [if_neg (fun z => m2 (by have := (pv_eq 2 (b := pm_dd m) (by omega) (by omega)).mp z; unfold pm_dd at this; split at this <;> (try split at this) <;> omega))]
  by_cases m9 : m < 9
  · have ed : pm_dd m = m + 7 := by unfold pm_dd; rw [if_neg (by omega), if_pos m9]
    rw [ed, if_neg (fun z => by have := (pv_le 20 (by omega) (by omega)).mp z; omega), pv_sub 10 (by omega), show m + 7 - 10 = m - 3 from by omega, pb_sh _ (by omega), pu_e1, pn_xor, (pb_xor _ hh _ (by omega)).1, if_pos (i3 (by omega) m9), pc_standOf, pu_e1]
    refine pu_some.mpr ⟨?_, hT⟩
    simp only [if_neg m0, if_neg m1, if_neg m2, if_pos m9, if_neg (show ¬ m < 3 by omega)]
  · have ed : pm_dd m = m + 11 := by unfold pm_dd; rw [if_neg (by omega), if_neg m9]
    rw [ed, if_pos ((pv_le 20 (by omega) (by omega)).mpr (by omega)), pv_sub 20 (by omega), show m + 11 - 20 = m - 9 from by omega, pb_sh _ (by omega), pu_e1, pn_xor, (pb_xor _ hh _ (by omega)).1, if_neg (by rw [i4 (by omega)]; decide), pc_standOf, pu_e1]
    refine pu_some.mpr ⟨?_, hT⟩
    simp only [if_neg m0, if_neg m1, if_neg m2, if_neg m9, if_neg (show ¬ m < 3 by omega)]
end PC
