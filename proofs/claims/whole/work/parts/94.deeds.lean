/-! deeds done, and undone -/
theorem pp_10 {m : Nat} (h : m < 10) : m = 0 ∨ m = 1 ∨ m = 2 ∨ m = 3 ∨ m = 4 ∨ m = 5 ∨ m = 6 ∨ m = 7 ∨ m = 8 ∨ m = 9 := by omega
section PDe
variable {n : Nat} {q : Nat → Nat} {w s0 : Nat} {top things tf tt mf mt : Int32} {bars gives rough code told fa sk : Nat → Int32}
theorem pc_remember {p : Nat → Nat} {und nst nwi nde : Int32} {apast : Nat → Nat} {pst pwi pde : Nat → Int32} (hP : pp_past q und pst pwi pde) (h1 : nst = nI (pm_sd (p 0) (p 1) (p 2))) (h2 : nwi = nI (p 3)) (h3 : nde = nI (p 4)) (hb : p 0 ≤ q 1 ∧ p 1 < 2 ^ q 2 ∧ p 2 < 5 ∧ p 3 ≤ 9) :
    pu_ok (zf_X10_remember und nst nwi nde apast pst pwi pde) (fun r => pp_past (pm_nt q p) r.1 r.2.2.1 r.2.2.2.1 r.2.2.2.2) := by
  obtain ⟨rfl, hu, hk⟩ := hP
  unfold zf_X10_remember
  have e1 : pm_nt q p 1 = q 1 := pm_nt_o hu (Or.inl (by omega))
  have e2 : pm_nt q p 2 = q 2 := pm_nt_o hu (Or.inl (by omega))
  refine pu_d5.mpr (pu_mono (P := fun r => ∃ m, m < 10 ∧ r.1 = nI m ∧ pm_nt q p 42 = m + 1 ∧ (∀ k, k < 5 → pm_nt q p (43 + 5 * m + k) = p k) ∧ ∀ k, k < m → r.2.2.1 k = nI (pm_sd (pm_nt q p (43 + 5 * k)) (pm_nt q p (44 + 5 * k)) (pm_nt q p (45 + 5 * k))) ∧ r.2.2.2.1 k = nI (pm_nt q p (46 + 5 * k)) ∧ r.2.2.2.2 k = nI (pm_nt q p (47 + 5 * k)) ∧ pm_nt q p (43 + 5 * k) ≤ q 1 ∧ pm_nt q p (44 + 5 * k) < 2 ^ q 2 ∧ pm_nt q p (45 + 5 * k) < 5 ∧ pm_nt q p (46 + 5 * k) ≤ 9) ?_ ?_)
  · by_cases c : q 42 = 10
    · rw [if_pos (by rw [c]; rfl), c, pv_sub 1 (by omega), pu_e1]
      refine pu_some.mpr ⟨9, by omega, rfl, ?_, ?_, ?_⟩
      · unfold pm_nt; rw [if_pos c, if_pos rfl]
      · intro k hk5
        unfold pm_nt
        rw [if_pos c, if_neg (by omega), if_neg (by omega), if_pos (by omega)]
        congr 1; omega
      · intro k hk9
        have hz : ∀ x, 43 ≤ x → x < 88 → pm_nt q p x = q (x + 5) := by
          intro x hx1 hx2
          unfold pm_nt
          rw [if_pos c, if_neg (by omega), if_pos ⟨hx1, hx2⟩]
        have hk' := hk (k + 1) (by omega)
        rw [hz (43 + 5 * k) (by omega) (by omega), hz (44 + 5 * k) (by omega) (by omega), hz (45 + 5 * k) (by omega) (by omega), hz (46 + 5 * k) (by omega) (by omega), hz (47 + 5 * k) (by omega) (by omega)]
        rw [show 43 + 5 * (k + 1) = 43 + 5 * k + 5 from by omega, show 44 + 5 * (k + 1) = 44 + 5 * k + 5 from by omega, show 45 + 5 * (k + 1) = 45 + 5 * k + 5 from by omega, show 46 + 5 * (k + 1) = 46 + 5 * k + 5 from by omega, show 47 + 5 * (k + 1) = 47 + 5 * k + 5 from by omega] at hk'
        dsimp only
        unfold za_rot
        rw [if_neg (by omega), if_neg (by omega), if_neg (by omega)]
        exact hk'
    · rw [if_neg (fun z => c ((pv_eq 10 (by omega) (by omega)).mp z))]
      refine pu_some.mpr ⟨q 42, by omega, rfl, ?_, ?_, ?_⟩
      · unfold pm_nt; rw [if_neg c, if_pos rfl]
      · intro k hk5
        unfold pm_nt
        rw [if_neg c, if_neg (by omega), if_pos (by omega)]
        congr 1; omega
      · intro k hk9
        have hz : ∀ x, 43 ≤ x → x < 43 + 5 * q 42 → pm_nt q p x = q x := by
          intro x hx1 hx2
          unfold pm_nt
          rw [if_neg c, if_neg (by omega), if_neg (by omega)]
        rw [hz (43 + 5 * k) (by omega) (by omega), hz (44 + 5 * k) (by omega) (by omega), hz (45 + 5 * k) (by omega) (by omega), hz (46 + 5 * k) (by omega) (by omega), hz (47 + 5 * k) (by omega) (by omega)]
        exact hk k hk9
  rintro ⟨v2, a3, a4, a5, a6⟩ ⟨m, hm, g1, g2, g3, g4⟩
  dsimp only at g1 g4 ⊢
  subst g1
  have key : pu_ok (zd_3 (zf_X4_copyFrom (a4 m) (a5 m) (a6 m) nst nwi nde) (fun v7 v8 v9 => zd_1 (some (nI m + (1 : Int32))) (fun v10 => some (v10, a3, va_up a4 m v7, va_up a5 m v8, va_up a6 m v9)))) (fun r => pp_past (pm_nt q p) r.1 r.2.2.1 r.2.2.2.1 r.2.2.2.2) := by
    show pu_ok (zd_1 (some (nI m + (1 : Int32))) (fun v10 => some (v10, a3, va_up a4 m nst, va_up a5 m nwi, va_up a6 m nde))) _
    rw [pn_a1, pu_e1]
    refine pu_some.mpr ⟨by rw [g2], by omega, ?_⟩
    intro k hk2
    rw [g2] at hk2
    rw [e1, e2]
    dsimp only
    by_cases c : k = m
    · subst c
      have g30 := g3 0 (by omega)
      have g31 := g3 1 (by omega)
      have g32 := g3 2 (by omega)
      have g33 := g3 3 (by omega)
      have g34 := g3 4 (by omega)
      rw [show 43 + 5 * k + 0 = 43 + 5 * k from rfl] at g30
      rw [show 43 + 5 * k + 1 = 44 + 5 * k from by omega] at g31
      rw [show 43 + 5 * k + 2 = 45 + 5 * k from by omega] at g32
      rw [show 43 + 5 * k + 3 = 46 + 5 * k from by omega] at g33
      rw [show 43 + 5 * k + 4 = 47 + 5 * k from by omega] at g34
      rw [pu_upe, pu_upe, pu_upe, g30, g31, g32, g33, g34]
      exact ⟨h1, h2, h3, hb⟩
    · rw [pu_upn c, pu_upn c, pu_upn c]
      exact g4 k (by omega)
  rcases pp_10 hm with rfl | rfl | rfl | rfl | rfl | rfl | rfl | rfl | rfl | rfl
  · rw [if_pos (by decide)]; exact key
  · rw [if_neg (by decide), if_pos (by decide)]; exact key
  · rw [if_neg (by decide), if_neg (by decide), if_pos (by decide)]; exact key
  · rw [if_neg (by decide), if_neg (by decide), if_neg (by decide), if_pos (by decide)]; exact key
  · rw [if_neg (by decide), if_neg (by decide), if_neg (by decide), if_neg (by decide), if_pos (by decide)]; exact key
  · rw [if_neg (by decide), if_neg (by decide), if_neg (by decide), if_neg (by decide), if_neg (by decide), if_pos (by decide)]; exact key
  · rw [if_neg (by decide), if_neg (by decide), if_neg (by decide), if_neg (by decide), if_neg (by decide), if_neg (by decide), if_pos (by decide)]; exact key
  · rw [if_neg (by decide), if_neg (by decide), if_neg (by decide), if_neg (by decide), if_neg (by decide), if_neg (by decide), if_neg (by decide), if_pos (by decide)]; exact key
  · rw [if_neg (by decide), if_neg (by decide), if_neg (by decide), if_neg (by decide), if_neg (by decide), if_neg (by decide), if_neg (by decide), if_neg (by decide), if_pos (by decide)]; exact key
  · rw [if_neg (by decide), if_neg (by decide), if_neg (by decide), if_neg (by decide), if_neg (by decide), if_neg (by decide), if_neg (by decide), if_neg (by decide), if_neg (by decide), if_pos (by decide)]; exact key
theorem pc_forget {told : Nat → Int32} (hn : 1000 ≤ n) (hq : pm_cliff q) : pu_ok (zf_X2_forget n told) (fun a => ∀ w, pc_told q w a) := by
  have h1 := hq.1
  unfold zf_X2_forget
  refine pu_d1.mpr (pu_mono (pc_fill (by omega) (by omega)) ?_)
  intro a ha
  refine pu_some.mpr ?_
  intro w r c g r1 r2 c6 g5
  left
  exact ha _ (by omega)
theorem pc_useWind {w' : Nat} (hn : 1000 ≤ n) (hq : pm_cliff q) (hw : w ≤ 9) (hw' : w' ≤ 9) (hT : pc_told q w told) : pu_ok (zf_X2_useWind n (nI w) told (nI w')) (fun y => y.1 = nI w' ∧ pc_told q w' y.2) := by
  unfold zf_X2_useWind
  by_cases c : w' = w
  · subst c
    rw [if_pos rfl]
    exact pu_some.mpr ⟨rfl, hT⟩
  · rw [if_neg (fun z => c ((pn_eq (by omega) (by omega)).mp z))]
    refine pu_d1.mpr (pu_mono (pc_forget hn hq) ?_)
    intro a ha
    exact pu_some.mpr ⟨rfl, ha w'⟩
/-- what a call leaves behind -/
def pp_new (q : Nat → Nat) (und nst nwi nde ww : Int32) (told pst pwi pde : Nat → Int32) : Prop := pp_now q nst nwi nde ∧ pp_past q und pst pwi pde ∧ ww = nI (q 40) ∧ pc_told q (q 40) told
theorem pp_past_put {s a : Nat} {und : Int32} {pst pwi pde : Nat → Int32} (hP : pp_past q und pst pwi pde) : pp_past (pm_put q s w a) und pst pwi pde := by
  obtain ⟨h1, h2, h3⟩ := hP
  unfold pp_past
  rw [pm_put_o (Or.inr (by omega)), pm_put_o (k := 1) (Or.inl (by omega)), pm_put_o (k := 2) (Or.inl (by omega))]
  refine ⟨h1, h2, ?_⟩
  intro k hk
  rw [pm_put_o (Or.inr (by omega)), pm_put_o (Or.inr (by omega)), pm_put_o (Or.inr (by omega)), pm_put_o (Or.inr (by omega)), pm_put_o (Or.inr (by omega))]
  exact h3 k hk
/-- the trial is kept: it stands at s, in wind w' -/
theorem pc_keepTrial {s w1 w2 a : Nat} {und nst nwi nde known : Int32} {apast : Nat → Nat} {pst pwi pde : Nat → Int32} (hn : 1000 ≤ n) (hq : pm_cliff q) (hN : pp_now q nst nwi nde) (hP : pp_past q und pst pwi pde) (hs : pm_st q s) (hw1 : w1 ≤ 9) (hw2 : w2 ≤ 9) (hT : pc_told q w2 told) :
    pu_ok (zf_X10_keepTrial n und nst nwi nde (nI s) (nI w1) (nI a) (nI w2) told known apast pst pwi pde) (fun r => pp_new (pm_nt (pm_put q s w1 a) (fun k => q (37 + k))) r.1 r.2.1 r.2.2.1 r.2.2.2.1 r.2.2.2.2.1 r.2.2.2.2.2.1 r.2.2.2.2.2.2.2.2.1 r.2.2.2.2.2.2.2.2.2.1 r.2.2.2.2.2.2.2.2.2.2 ∧ r.2.2.2.2.2.2.1 = 0 ∧ r.2.1 = nI s) := by
  have hPm := pp_past_put (w := w1) (s := s) (a := a) hP
  have hu : pm_put q s w1 a 42 ≤ 10 := hPm.2.1
  have hsm := pm_same_tr (pm_put_same q s w1 a) (pm_nt_same (p := fun k => q (37 + k)) hu)
  unfold zf_X10_keepTrial
  refine pu_d5.mpr (pu_mono (pc_remember (q := pm_put q s w1 a) (p := fun k => q (37 + k)) (apast := apast) hPm hN.1 hN.2.1 hN.2.2.1 ?_) ?_)
  · rw [pm_put_o (k := 1) (Or.inl (by omega)), pm_put_o (k := 2) (Or.inl (by omega))]
    exact hN.2.2.2
  rintro ⟨v1, a2, a3, a4, a5⟩ h1
  dsimp only at h1 ⊢
  show pu_ok (zd_3 (zf_X10_settle n (nI w1) (nI w2) told known) (fun v9 a10 v11 => some (v1, nI s, nI w1, nI a, v9, a10, v11, a2, a3, a4, a5))) _
  unfold zf_X10_settle
  refine pu_d3.mpr (pu_d2.mpr (pu_mono (pc_useWind hn hq hw2 hw1 hT) ?_))
  rintro ⟨u1, u2⟩ ⟨g1, g2⟩
  dsimp only at g1 g2 ⊢
  subst g1
  show pu_ok (some (nI w1, u2, (0 : Int32))) _
  refine pu_some.mpr (pu_some.mpr ⟨⟨?_, h1, ?_, ?_⟩, rfl, rfl⟩)
  · obtain ⟨k1, k2, k3, k4, k5, k6, k7⟩ := pp_put_now (a := a) hs hw1
    have ho : ∀ k, k < 42 → pm_nt (pm_put q s w1 a) (fun k => q (37 + k)) k = pm_put q s w1 a k := fun k hk => pm_nt_o hu (Or.inl hk)
    unfold pp_now pm_now
    rw [ho 37 (by omega), ho 38 (by omega), ho 39 (by omega), ho 40 (by omega), ho 41 (by omega), ho 1 (by omega), ho 2 (by omega)]
    exact ⟨k1, k2, k3, k4, k5, k6, k7⟩
  · rw [pm_nt_o hu (Or.inl (by omega))]; rfl
  · rw [pm_nt_o hu (Or.inl (by omega))]
    exact pc_same_told hsm hq g2
/-- a step of the trial, as a deed that can be -/
theorem pc_step {s w1 a m : Nat} (hn : 1000 ≤ n) (hq : pm_cliff q) (hK : pc_K q top things tf tt mf mt bars gives rough code) (hT : pc_told q w told) (hs : pm_st q s) (hw : w ≤ 9) (hm : pm_mv q m) (hc : pm_wy q w s m = 0) :
    pu_ok (zf_X10_step n top things tf tt mf mt bars gives rough code (nI s) (nI w1) (nI a) (nI w) told fa sk (nI (pm_dd m))) (fun y => y.1 = 0 ∧ y.2.1 = nI (pm_ac q w s m) ∧ y.2.2.1 = nI w1 ∧ y.2.2.2.1 = nI (a + 1) ∧ y.2.2.2.2.1 = nI w ∧ pc_told q w y.2.2.2.2.2.1) := by
  have hm15 := pm_mv_lt hm
  have hd := pm_dd_lt hm15
  unfold zf_X10_step
  rw [if_pos ((pv_gt 30 (by omega) (by omega)).mpr hd)]
  refine pu_d4.mpr (pu_mono (pc_refusal hn hq hK hT hs hm hw) ?_)
  rintro ⟨r1, r2, r3, r4⟩ ⟨g1, g2⟩
  dsimp only at g1 g2 ⊢
  rw [g1, hc, if_pos (by decide)]
  refine pu_d5.mpr (pu_d4.mpr (pu_mono (pc_behind hn hq hK g2 hs hm15 hw hc) ?_))
  rintro ⟨u1, u2, u3, u4⟩ ⟨g3, g4⟩
  dsimp only at g3 g4 ⊢
  subst g3
  rw [pn_a1, pu_e1]
  exact pu_some.mpr (pu_some.mpr ⟨rfl, rfl, rfl, rfl, rfl, g4⟩)
theorem pp_act {all rk wds was : Nat → Int32} {thrown und nst nwi nde tst twi tde known p1 : Int32} {apast : Nat → Nat} {pst pwi pde : Nat → Int32} (hn : 1000 ≤ n) (ha : pr_all all q) (hq : pm_cliff q) (hw : q 40 = w) (hK : pc_K q top things tf tt mf mt bars gives rough code) (hT : pc_told q w told) (hN : pp_now q nst nwi nde) (hP : pp_past q und pst pwi pde) :
    ∃ v q', pm_same q q' ∧ pu_ok (zf_X10_act n und top things tf tt mf mt bars gives rough code nst nwi nde tst twi tde (nI w) told fa sk known apast pst pwi pde p1) (fun r => r.1 = v ∧ pp_new q' r.2.1 r.2.2.1 r.2.2.2.1 r.2.2.2.2.1 r.2.2.2.2.2.2.2.2.1 r.2.2.2.2.2.2.2.2.2.1 r.2.2.2.2.2.2.2.2.2.2.2.2.2.2.1 r.2.2.2.2.2.2.2.2.2.2.2.2.2.2.2.1 r.2.2.2.2.2.2.2.2.2.2.2.2.2.2.2.2 ∧ (r.2.2.2.2.2.2.2.2.2.2.2.2.1 = 0 ∨ r.2.2.2.2.2.2.2.2.2.2.2.2.1 = known ∧ q' = q)) ∧ pu_ok (zf_X11_act n thrown all rk wds was p1) (fun r => r.1 = v ∧ pr_all r.2.2.1 q' ∧ ∀ k, 994 ≤ k → r.2.2.1 k = all k) := by
  obtain ⟨h0, hrg, hhs, hsg⟩ := pp_now_st hq hN
  have hw9 : w ≤ 9 := by rw [← hw]; exact hN.2.2.2.2.2.2
  obtain ⟨v, hv5, h1, h2, h3⟩ := pp_whyP (n := n) (fa := fa) (sk := sk) (rk := rk) (wds := wds) (p := p1) (pl := Int32.toInt64 p1) hn ha hq hw hw9 rfl h0 hK hT (Or.inl (Int32.toInt_toInt64 p1))
  have hst := hN.1
  unfold zf_X10_act zf_X11_act
  rw [hst]
  by_cases hv0 : v = 0
  rotate_left
  · have hne : ¬ nI v = (0 : Int32) := fun z => hv0 ((pv_eq 0 (by omega) (by omega)).mp z)
    refine ⟨(-10 : Int32) - nI v, q, pm_same_rf q, ?_, ?_⟩
    · refine pu_d4.mpr (pu_mono h1 ?_)
      rintro ⟨r1, r2, r3, r4⟩ ⟨g1, g2⟩
      dsimp only at g1 g2 ⊢
      rw [g1, if_neg hne]
      refine pu_some.mpr ⟨rfl, ⟨⟨rfl, hN.2⟩, hP, by rw [hw], by rw [hw]; exact g2⟩, Or.inr ⟨rfl, rfl⟩⟩
    · refine pu_d3.mpr (pu_mono h2 ?_)
      rintro ⟨r1, r2, r3⟩ g1
      dsimp only at g1 ⊢
      rw [g1, if_neg hne]
      exact pu_some.mpr ⟨rfl, ha, fun _ _ => rfl⟩
  subst hv0
  obtain ⟨m, hm, hm15, hc, rfl, hmo⟩ := h3 rfl
  have hacst := pm_acst hq h0 hm15 hc
  have hac := pm_st_lt hq hacst
  have hu : pm_put q (pm_ac q w (pm_now q) m) w (q 41 + 1) 42 ≤ 10 := hP.2.1
  refine ⟨nI (pm_rg (pm_ac q w (pm_now q) m)), pm_nt (pm_put q (pm_ac q w (pm_now q) m) w (q 41 + 1)) (fun k => q (37 + k)), pm_same_tr (pm_put_same _ _ _ _) (pm_nt_same hu), ?_, ?_⟩
  · refine pu_d4.mpr (pu_mono h1 ?_)
    rintro ⟨r1, r2, r3, r4⟩ ⟨g1, g2⟩
    dsimp only at g1 g2 ⊢
    rw [g1, if_pos (by decide)]
    have hwi : nwi = nI w := by rw [hN.2.1, hw]
    have hde := hN.2.2.1
    subst hwi hde
    unfold zf_X4_copyFrom
    rw [pu_e3]
    refine pu_d8.mpr (pu_mono (pc_step hn hq hK g2 h0 hw9 hm hc) ?_)
    rintro ⟨y1, y2, y3, y4, y5, y6, y7, y8⟩ ⟨_, f2, f3, f4, f5, f6⟩
    dsimp only at f2 f3 f4 f5 f6 ⊢
    subst f2 f3 f4 f5
    rw [hst] at hN
    refine pu_d11.mpr (pu_mono (pc_keepTrial hn hq hN hP hacst hw9 hw9 f6) ?_)
    rintro ⟨z1, z2, z3, z4, z5, z6, z7, z8, z9, z10, z11⟩ ⟨k1, k2, k3⟩
    dsimp only at k1 k2 k3 ⊢
    rw [k3, pc_rungOf hac, pu_e1, ← k3]
    exact pu_some.mpr ⟨rfl, k1, Or.inl k2⟩
  · refine pu_d3.mpr (pu_mono h2 ?_)
    rintro ⟨r1, r2, r3⟩ g1
    dsimp only at g1 ⊢
    rw [g1, if_pos (by decide)]
    refine pu_d1.mpr (pu_mono (pr_keeps (by omega) ha) ?_)
    intro a4 ha4
    rw [hmo, pu_e1]
    refine pu_d3.mpr (pu_mono (pr_acts hn ha hq hw hw9 rfl h0 hm15 hc) ?_)
    rintro ⟨a6, a7, a8⟩ ⟨g2, g3⟩
    dsimp only at g2 g3 ⊢
    refine pu_d1.mpr (pu_mono (pr_notes (p := fun k => q (37 + k)) (by omega) g2 hu ha4) ?_)
    rintro a9 ⟨g4, g5⟩
    rw [pv_ld 37 (by omega) (by omega), pu_e1]
    refine pu_some.mpr ⟨?_, g4, fun k hk => (g5 k hk).trans (g3 k hk)⟩
    rw [g4 37 (by omega), pm_nt_o hu (Or.inl (by omega))]; rfl
end PDe
