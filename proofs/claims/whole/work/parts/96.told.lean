/-! deeds told in trays, and years -/
theorem pu_two {V1 V2 : Type} {b1 : V1 → Option (Nat × V1)} {b2 : V2 → Option (Nat × V2)} (I : Nat → V1 → V2 → Prop) {P : Nat × V1 → Nat × V2 → Prop} {n : Nat} {v1 : V1} {v2 : V2} (K : Nat) (hn : K < n) (h0 : I 0 v1 v2)
    (hs : ∀ i x y, i ≤ K → I i x y → ∃ r1 r2, b1 x = some r1 ∧ b2 y = some r2 ∧ ((r1.1 = 0 ∧ r2.1 = 0 ∧ i < K ∧ I (i + 1) r1.2 r2.2) ∨ (r1.1 ≠ 0 ∧ r2.1 ≠ 0 ∧ P r1 r2))) : ∃ r1 r2, za_it b1 n v1 = some r1 ∧ za_it b2 n v2 = some r2 ∧ P r1 r2 := by
  have key : ∀ m i x y, i ≤ K → K < m + i → I i x y → ∃ r1 r2, za_it b1 m x = some r1 ∧ za_it b2 m y = some r2 ∧ P r1 r2 := by
    intro m
    induction m with
    | zero => intro i x y h1 h2; omega
    | succ m ih =>
      intro i x y h1 h2 h3
      obtain ⟨r1, r2, e1, e2, h⟩ := hs i x y h1 h3
      have f1 : za_it b1 (m + 1) x = if r1.1 = 0 then za_it b1 m r1.2 else some r1 := by
        show (b1 x).bind (fun q => if q.1 = 0 then za_it b1 m q.2 else some q) = _
        rw [e1]; rfl
      have f2 : za_it b2 (m + 1) y = if r2.1 = 0 then za_it b2 m r2.2 else some r2 := by
        show (b2 y).bind (fun q => if q.1 = 0 then za_it b2 m q.2 else some q) = _
        rw [e2]; rfl
      rw [f1, f2]
      rcases h with ⟨z1, z2, z3, z4⟩ | ⟨z1, z2, z3⟩
      · rw [if_pos z1, if_pos z2]
        exact ih (i + 1) _ _ (by omega) (by omega) z4
      · rw [if_neg z1, if_neg z2]
        exact ⟨r1, r2, rfl, rfl, z3⟩
  exact key n 0 v1 v2 (Nat.zero_le _) (by omega) h0
theorem pr_all_put {q : Nat → Nat} {all : Nat → Int32} {s w a s' w' a' : Nat} (h : pr_all all (pm_put (pm_put q s w a) s' w' a')) : pr_all all (pm_put q s' w' a') := by
  intro j hj
  rw [h j hj]
  congr 1
  unfold pm_put
  by_cases c37 : j = 37
  · subst c37; rfl
  by_cases c38 : j = 38
  · subst c38; rfl
  by_cases c39 : j = 39
  · subst c39; rfl
  by_cases c40 : j = 40
  · subst c40; rfl
  by_cases c41 : j = 41
  · subst c41; rfl
  rw [if_neg c37, if_neg c38, if_neg c39, if_neg c40, if_neg c41, if_neg c37, if_neg c38, if_neg c39, if_neg c40, if_neg c41, if_neg c37, if_neg c38, if_neg c39, if_neg c40, if_neg c41]
section PTo
variable {n : Nat} {q : Nat → Nat} {w s0 : Nat} {top things tf tt mf mt : Int32} {bars gives rough code told fa sk : Nat → Int32}
/-- one told deed, on both sides -/
theorem pp_step1 {all : Nat → Int32} {s a : Nat} {p : Int32} {pl : Int64} (hn : 1000 ≤ n) (hq : pm_cliff q) (hK : pc_K q top things tf tt mf mt bars gives rough code) (ha : pr_all all (pm_put q s w a)) (hw9 : w ≤ 9) (hs : pm_st q s) (hT : pc_told q w told) (hpl : pl.toInt = p.toInt ∨ (p.toInt < 0 ∨ 40 ≤ p.toInt) ∧ (pl.toInt < 0 ∨ 40 ≤ pl.toInt)) :
    ∃ v s' w' a', v < 5 ∧ pm_st q s' ∧ w' ≤ 9 ∧ (¬ v = 0 → s' = s ∧ w' = w ∧ a' = a ∧ ∀ told2 fa2 sk2, pc_told q w told2 → pu_ok (zf_X3_refusal n top things tf tt mf mt bars gives rough code (nI w) told2 fa2 sk2 (nI s) p) (fun r => r.1 = nI v ∧ pc_told q w r.2.1)) ∧ pu_ok (zf_X10_step n top things tf tt mf mt bars gives rough code (nI s) (nI w) (nI a) (nI w) told fa sk p) (fun y => y.1 = nI v ∧ y.2.1 = nI s' ∧ y.2.2.1 = nI w' ∧ y.2.2.2.1 = nI a' ∧ y.2.2.2.2.1 = nI w' ∧ pc_told q w' y.2.2.2.2.2.1) ∧ (∀ rk wds, pu_ok (zf_X11_whyNot n all rk wds pl) (fun r => r.1 = nI v)) ∧ (v = 0 → ∀ rk wds, pu_ok (zf_X11_does n all rk wds (Int64.toInt32 pl)) (fun y => pr_all y.1 (pm_put q s' w' a') ∧ ∀ k, 994 ≤ k → y.1 k = all k)) := by
  have hsm := pm_put_same q s w a
  have hq1 := pm_same_cliff hsm hq
  have hK1 := pc_same_K hsm hK
  have hT1 := pc_same_told hsm hq hT
  have hs1 := pm_same_st hsm hs
  have hnow : pm_now (pm_put q s w a) = s := pm_put_now q s w a
  by_cases hwd : 30 ≤ p.toInt ∧ p.toInt ≤ 39
  · -- another wind
    have hple : pl.toInt = p.toInt := by rcases hpl with h | ⟨h, _⟩; exact h; omega
    obtain ⟨x, rfl, hx, ex⟩ := pn_of (show 0 ≤ p.toInt by omega)
    rw [pn_toInt hx] at hwd hple
    have hpx : pl = nL x := pl_ofI hple (by omega)
    have hx32 : Int64.toInt32 (nL x) = nI x := by
      have e : Int64.toInt32 (nL x) = Int32.ofInt (nL x).toInt := (Int32.ofInt_int64ToInt _).symm
      rw [e, pl_toInt (by omega), ← pi_nI]
    refine ⟨0, s, x - 30, a, by omega, hs, by omega, fun z => absurd rfl z, ?_, ?_, ?_⟩
    · unfold zf_X10_step
      rw [if_neg (fun z => by have := (pv_gt 30 (by omega) (by omega)).mp z; omega), if_neg (fun z => by have := (pv_le 40 (by omega) (by omega)).mp z; omega), pv_sub 30 (by omega), pu_e1]
      refine pu_d2.mpr (pu_mono (pc_useWind hn hq hw9 (show x - 30 ≤ 9 by omega) hT) ?_)
      rintro ⟨u1, u2⟩ ⟨g1, g2⟩
      exact pu_some.mpr ⟨rfl, rfl, rfl, rfl, g1, g2⟩
    · intro rk wds
      unfold zf_X11_whyNot
      rw [pr_within, pu_e1, hple, show (30 : Int64).toInt = 30 from rfl, show (39 : Int64).toInt = 39 from rfl, if_pos hwd, if_neg (by decide)]
      exact pu_some.mpr rfl
    · intro _ rk wds
      unfold zf_X11_does
      rw [hpx, hx32, if_neg (fun z => by have := (pv_gt 30 (by omega) (by omega)).mp z; omega), pv_sub 30 (by omega), pv_st 40 (by omega) (by omega), pu_e1]
      refine pu_some.mpr ⟨?_, fun k hk => pu_upn (by omega)⟩
      intro j hj
      dsimp only
      by_cases c : j = 40
      · subst c; rw [pu_upe]; rfl
      · rw [pu_upn c, ha j hj]
        unfold pm_put
        rw [if_neg c, if_neg c]
  -- a deed
  have hpl' : pl.toInt = p.toInt ∨ (p.toInt < 0 ∨ 30 ≤ p.toInt) ∧ (pl.toInt < 0 ∨ 30 ≤ pl.toInt) := by
    rcases hpl with h | ⟨h1, h2⟩
    · exact Or.inl h
    · right; constructor <;> omega
  have hnotwd : ¬ (30 ≤ pl.toInt ∧ pl.toInt ≤ 39) := by
    rcases hpl with h | ⟨_, h2⟩
    · rw [h]; exact hwd
    · omega
  have main := fun told2 fa2 sk2 (h2 : pc_told q w told2) rk wds => pp_whyP (n := n) (told := told2) (fa := fa2) (sk := sk2) (rk := rk) (wds := wds) (p := p) (pl := pl) hn ha hq1 rfl hw9 hnow hs1 hK1 (pc_same_told hsm hq h2) hpl'
  obtain ⟨v, hv5, h1, h2, h3⟩ := main told fa sk hT (fun _ => 0) (fun _ => 0)
  have hdet : ∀ told2 fa2 sk2, pc_told q w told2 → ∀ rk wds, pu_ok (zf_X3_refusal n top things tf tt mf mt bars gives rough code (nI w) told2 fa2 sk2 (nI s) p) (fun r => r.1 = nI v ∧ pc_told q w r.2.1) ∧ pu_ok (zf_X11_whyAct n all rk wds pl) (fun r => r.1 = nI v) := by
    intro told2 fa2 sk2 ht2 rk wds
    -- the same reason each time
    obtain ⟨v2, hv25, k1, k2, k3⟩ := main told2 fa2 sk2 ht2 (fun _ => 0) (fun _ => 0)
    obtain ⟨v3, hv35, l1, l2, l3⟩ := main told fa sk hT rk wds
    obtain ⟨y, y1, y2⟩ := h2
    obtain ⟨y', y1', y2'⟩ := k2
    rw [y1] at y1'
    cases y1'
    have e12 : v2 = v := (pn_eq (by omega) (by omega)).mp (y2'.symm.trans y2)
    obtain ⟨z, z1, z2⟩ := h1
    obtain ⟨z', z1', z2'⟩ := l1
    rw [z1] at z1'
    cases z1'
    have e13 : v3 = v := (pn_eq (by omega) (by omega)).mp (z2'.1.symm.trans z2.1)
    rw [e12] at k1
    rw [e13] at l2
    refine ⟨pu_mono k1 ?_, l2⟩
    rintro r ⟨r1, r2⟩
    have hback : pm_same (pm_put q s w a) q := fun k hk => (hsm k hk).symm
    exact ⟨r1, pc_same_told hback hq1 r2⟩
  have hwhy : ∀ rk wds, pu_ok (zf_X11_whyNot n all rk wds pl) (fun r => r.1 = nI v) := by
    intro rk wds
    unfold zf_X11_whyNot
    rw [pr_within, pu_e1, show (30 : Int64).toInt = 30 from rfl, show (39 : Int64).toInt = 39 from rfl, if_neg hnotwd, if_pos rfl]
    refine pu_d3.mpr (pu_mono (hdet told fa sk hT rk wds).2 ?_)
    rintro ⟨r1, r2, r3⟩ e
    exact pu_some.mpr e
  have hstepE : ∀ (P : Int32 × Int32 × Int32 × Int32 × Int32 × (Nat → Int32) × (Nat → Int32) × (Nat → Int32) → Prop), pu_ok (zd_4 (zf_X3_refusal n top things tf tt mf mt bars gives rough code (nI w) told fa sk (nI s) p) (fun v1 a2 a3 a4 => zd_5 (if v1 = 0 then zd_4 (zf_X3_behind n top things tf tt mf mt bars rough code (nI w) a2 a3 a4 (nI s) p) (fun v5 a6 a7 a8 => zd_1 (some ((nI a + (1 : Int32)))) (fun v9 => some (v5, v9, a6, a7, a8))) else some (nI s, nI a, a2, a3, a4)) (fun v10 v11 a12 a13 a14 => some (v1, v10, nI w, v11, nI w, a12, a13, a14)))) P → pu_ok (zf_X10_step n top things tf tt mf mt bars gives rough code (nI s) (nI w) (nI a) (nI w) told fa sk p) P := by
    intro P h
    unfold zf_X10_step
    by_cases c : p < (30 : Int32)
    · rw [if_pos c]; exact h
    · rw [if_neg c]
      have hc30 : 30 ≤ p.toInt := by
        rw [Int32.lt_iff_toInt_lt] at c
        have : ¬ p.toInt < 30 := c
        omega
      rw [if_pos (show (40 : Int32) ≤ p by rw [Int32.le_iff_toInt_le]; show (40 : Int) ≤ p.toInt; omega)]
      exact h
  by_cases hv0 : v = 0
  · obtain ⟨m, hm, hm15, hc, hpe, hmo⟩ := h3 hv0
    subst hv0
    have hc : pm_wy q w s m = 0 := (pm_same_wy hsm hq hs).symm.trans hc
    have hm' : pm_mv q m := by
      rcases hm with h | ⟨h, h'⟩
      · exact Or.inl h
      · rw [hsm 2 (Or.inl (by omega))] at h'; exact Or.inr ⟨h, h'⟩
    have hd30 := pm_dd_lt hm15
    have hple : pl.toInt = p.toInt := by
      rcases hpl with h | ⟨h, _⟩
      · exact h
      · rw [hpe, pn_toInt (by omega)] at h; omega
    have hpx : pl = nL (pm_dd m) := pl_ofI (by rw [hple, hpe, pn_toInt (by omega)]) (by omega)
    have hx32 : Int64.toInt32 pl = nI (pm_dd m) := by
      have e : Int64.toInt32 pl = Int32.ofInt pl.toInt := (Int32.ofInt_int64ToInt _).symm
      rw [e, hple, hpe, pn_toInt (by omega), ← pi_nI]
    refine ⟨0, pm_ac q w s m, w, a + 1, by omega, pm_acst hq hs hm15 hc, hw9, fun z => absurd rfl z, ?_, hwhy, ?_⟩
    · rw [hpe]
      refine pu_mono (pc_step (w1 := w) (a := a) hn hq hK hT hs hw9 hm' hc) ?_
      rintro y ⟨f1, f2, f3, f4, f5, f6⟩
      exact ⟨f1, f2, f3, f4, f5, f6⟩
    · intro _ rk wds
      unfold zf_X11_does
      rw [hx32, if_pos ((pv_gt 30 (by omega) (by omega)).mpr hd30), pl_of (by omega), ← hpx, hmo, pu_e1]
      refine pu_d3.mpr (pu_mono (pr_acts (w := w) hn ha hq1 rfl hw9 hnow hs1 hm15 (by rw [pm_same_wy hsm hq hs]; exact hc)) ?_)
      rintro ⟨a2, a3, a4⟩ ⟨g1, g2⟩
      dsimp only at g1 g2 ⊢
      refine pu_some.mpr ⟨?_, g2⟩
      have := pr_all_put g1
      rw [show pm_ac (pm_put q s w a) w s m = pm_ac q w s m from pm_same_ac hsm hq hs hc] at this
      exact this
  · refine ⟨v, s, w, a, hv5, hs, hw9, fun _ => ⟨rfl, rfl, rfl, fun told2 fa2 sk2 ht2 => (hdet told2 fa2 sk2 ht2 (fun _ => 0) (fun _ => 0)).1⟩, ?_, hwhy, fun z => absurd z hv0⟩
    apply hstepE
    refine pu_d4.mpr (pu_mono (hdet told fa sk hT (fun _ => 0) (fun _ => 0)).1 ?_)
    rintro ⟨r1, r2, r3, r4⟩ ⟨g1, g2⟩
    dsimp only at g1 g2 ⊢
    subst g1
    rw [if_neg (fun z => hv0 ((pv_eq 0 (by omega) (by omega)).mp z)), pu_e5]
    exact pu_some.mpr ⟨rfl, rfl, rfl, rfl, rfl, g2⟩
end PTo
