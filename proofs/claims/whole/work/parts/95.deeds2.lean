/-! wind, habit, undo -/
section PDf
variable {n : Nat} {q : Nat → Nat} {w s0 : Nat} {top things tf tt mf mt : Int32} {bars gives rough code told fa sk : Nat → Int32}
theorem pp_wind {all was : Nat → Int32} {thrown und nst nwi nde tst twi tde known p1 : Int32} {apast : Nat → Nat} {pst pwi pde : Nat → Int32} (hn : 1000 ≤ n) (ha : pr_all all q) (hq : pm_cliff q) (hw : q 40 = w) (hT : pc_told q w told) (hN : pp_now q nst nwi nde) (hP : pp_past q und pst pwi pde) :
    ∃ v q', pm_same q q' ∧ pu_ok (zf_X10_wind n und top things tf tt mf mt bars gives rough code nst nwi nde tst twi tde (nI w) told fa sk known apast pst pwi pde p1) (fun r => r.1 = v ∧ pp_new q' r.2.1 r.2.2.1 r.2.2.2.1 r.2.2.2.2.1 r.2.2.2.2.2.2.2.2.1 r.2.2.2.2.2.2.2.2.2.1 r.2.2.2.2.2.2.2.2.2.2.2.2.2.2.1 r.2.2.2.2.2.2.2.2.2.2.2.2.2.2.2.1 r.2.2.2.2.2.2.2.2.2.2.2.2.2.2.2.2 ∧ (r.2.2.2.2.2.2.2.2.2.2.2.2.1 = 0 ∨ r.2.2.2.2.2.2.2.2.2.2.2.2.1 = known ∧ q' = q)) ∧ pu_ok (zf_X11_wind n thrown all was p1) (fun r => r.1 = v ∧ pr_all r.2.2.1 q' ∧ ∀ k, 994 ≤ k → r.2.2.1 k = all k) := by
  obtain ⟨h0, hrg, hhs, hsg⟩ := pp_now_st hq hN
  have hw9 : w ≤ 9 := by rw [← hw]; exact hN.2.2.2.2.2.2
  unfold zf_X10_wind zf_X11_wind
  rw [pr_within, pu_e1, Int32.toInt_toInt64, show (0 : Int64).toInt = 0 from rfl, show (9 : Int64).toInt = 9 from rfl]
  have hold : pp_new q und nst nwi nde (nI w) told pst pwi pde := ⟨hN, hP, by rw [hw], by rw [hw]; exact hT⟩
  by_cases d1 : 0 ≤ p1.toInt
  rotate_left
  · refine ⟨(-11 : Int32), q, pm_same_rf q, ?_, ?_⟩
    · rw [if_pos (pn_neg d1)]; exact pu_some.mpr ⟨rfl, hold, Or.inr ⟨rfl, rfl⟩⟩
    · rw [if_neg (show ¬ (0 ≤ p1.toInt ∧ p1.toInt ≤ 9) by omega), if_pos rfl]; exact pu_some.mpr ⟨rfl, ha, fun _ _ => rfl⟩
  obtain ⟨k, rfl, hk, _⟩ := pn_of d1
  rw [pn_toInt hk]
  by_cases d2 : k < 10
  rotate_left
  · refine ⟨(-11 : Int32), q, pm_same_rf q, ?_, ?_⟩
    · rw [if_neg (pn_nn hk), if_neg (fun z => d2 ((pv_gt 10 (by omega) hk).mp z))]; exact pu_some.mpr ⟨rfl, hold, Or.inr ⟨rfl, rfl⟩⟩
    · rw [if_neg (show ¬ (0 ≤ (k : Int) ∧ (k : Int) ≤ 9) by omega), if_pos rfl]; exact pu_some.mpr ⟨rfl, ha, fun _ _ => rfl⟩
  have hu : pm_put q (pm_now q) k (q 41) 42 ≤ 10 := hP.2.1
  have hputn : ∀ j, j < 994 → pm_put q (pm_now q) k (q 41) j = if j = 40 then k else q j := by
    intro j _
    unfold pm_put
    rw [hrg, hhs, hsg]
    by_cases c37 : j = 37
    · subst c37; rfl
    by_cases c38 : j = 38
    · subst c38; rfl
    by_cases c39 : j = 39
    · subst c39; rfl
    by_cases c40 : j = 40
    · subst c40; rfl
    by_cases c41 : j = 41
    · subst c41; rfl
    rw [if_neg c37, if_neg c38, if_neg c39, if_neg c40, if_neg c41, if_neg c40]
  refine ⟨nI w, pm_nt (pm_put q (pm_now q) k (q 41)) (fun j => q (37 + j)), pm_same_tr (pm_put_same _ _ _ _) (pm_nt_same hu), ?_, ?_⟩
  · rw [if_neg (pn_nn hk), if_pos ((pv_gt 10 (by omega) hk).mpr d2)]
    have hN' := hN
    obtain ⟨n1, n2, n3, _⟩ := hN
    rw [hw] at n2
    subst n1 n2 n3
    unfold zf_X4_copyFrom
    rw [pu_e3]
    unfold zf_X10_step
    rw [pv_add 30, if_neg (fun z => by have := (pv_gt 30 (by omega) (by omega)).mp z; omega), if_neg (fun z => by have := (pv_le 40 (by omega) (by omega)).mp z; omega), pv_sub 30 (by omega), show 30 + k - 30 = k from by omega, pu_e1]
    refine pu_d8.mpr (pu_d2.mpr (pu_mono (pc_useWind hn hq hw9 (show k ≤ 9 by omega) hT) ?_))
    rintro ⟨u1, u2⟩ ⟨g1, g2⟩
    dsimp only at g1 g2 ⊢
    subst g1
    refine pu_some.mpr ?_
    dsimp only
    refine pu_d11.mpr (pu_mono (pc_keepTrial hn hq hN' hP h0 (by omega) (by omega) g2) ?_)
    rintro ⟨z1, z2, z3, z4, z5, z6, z7, z8, z9, z10, z11⟩ ⟨k1, k2, k3⟩
    exact pu_some.mpr ⟨rfl, k1, Or.inl k2⟩
  · rw [if_pos (show 0 ≤ (k : Int) ∧ (k : Int) ≤ 9 by omega), if_neg (by decide)]
    refine pu_d1.mpr (pu_mono (pr_keeps (by omega) ha) ?_)
    intro a2 ha2
    rw [pv_st 40 (by omega) (by omega), pu_e1]
    have hmid : pr_all (va_up all 40 (nI k)) (pm_put q (pm_now q) k (q 41)) := by
      intro j hj
      rw [hputn j hj]
      by_cases c : j = 40
      · rw [c, pu_upe, if_pos rfl]
      · rw [pu_upn c, if_neg c]; exact ha j hj
    refine pu_d1.mpr (pu_mono (pr_notes (p := fun j => q (37 + j)) (by omega) hmid hu ha2) ?_)
    rintro a4 ⟨g4, g5⟩
    rw [pv_ld 3 (by omega) (by omega), pu_e1]
    refine pu_some.mpr ⟨?_, g4, fun j hj => (g5 j hj).trans (pu_upn (by omega))⟩
    dsimp only
    rw [ha2 3 (by omega), hw]
theorem pp_habit {all rk wds was : Nat → Int32} {thrown und nst nwi nde tst twi tde known p1 : Int32} {apast : Nat → Nat} {pst pwi pde : Nat → Int32} (hn : 1000 ≤ n) (ha : pr_all all q) (hq : pm_cliff q) (hw : q 40 = w) (hK : pc_K q top things tf tt mf mt bars gives rough code) (hT : pc_told q w told) (hN : pp_now q nst nwi nde) (hP : pp_past q und pst pwi pde) :
    ∃ v q', pm_same q q' ∧ pu_ok (zf_X10_habit n und top things tf tt mf mt bars gives rough code nst nwi nde tst twi tde (nI w) told fa sk known apast pst pwi pde p1) (fun r => r.1 = v ∧ pp_new q' r.2.1 r.2.2.1 r.2.2.2.1 r.2.2.2.2.1 r.2.2.2.2.2.2.2.2.1 r.2.2.2.2.2.2.2.2.2.1 r.2.2.2.2.2.2.2.2.2.2.2.2.2.2.1 r.2.2.2.2.2.2.2.2.2.2.2.2.2.2.2.1 r.2.2.2.2.2.2.2.2.2.2.2.2.2.2.2.2 ∧ (r.2.2.2.2.2.2.2.2.2.2.2.2.1 = 0 ∨ r.2.2.2.2.2.2.2.2.2.2.2.2.1 = known ∧ q' = q)) ∧ pu_ok (zf_X11_habit n thrown all rk wds was p1) (fun r => r.1 = v ∧ pr_all r.2.2.1 q' ∧ ∀ k, 994 ≤ k → r.2.2.1 k = all k) := by
  obtain ⟨h0, hrg, hhs, hsg⟩ := pp_now_st hq hN
  have hw9 : w ≤ 9 := by rw [← hw]; exact hN.2.2.2.2.2.2
  unfold zf_X10_habit zf_X11_habit
  rw [pr_within, pu_e1, Int32.toInt_toInt64, show (1 : Int64).toInt = 1 from rfl, show (99 : Int64).toInt = 99 from rfl]
  have hold : pp_new q und nst nwi nde (nI w) told pst pwi pde := ⟨hN, hP, by rw [hw], by rw [hw]; exact hT⟩
  by_cases d1 : 1 ≤ p1.toInt
  rotate_left
  · refine ⟨(-3 : Int32), q, pm_same_rf q, ?_, ?_⟩
    · rw [if_pos (by rw [Int32.lt_iff_toInt_lt]; show p1.toInt < 1; omega)]; exact pu_some.mpr ⟨rfl, hold, Or.inr ⟨rfl, rfl⟩⟩
    · rw [if_neg (show ¬ (1 ≤ p1.toInt ∧ p1.toInt ≤ 99) by omega), if_pos rfl]; exact pu_some.mpr ⟨rfl, ha, fun _ _ => rfl⟩
  obtain ⟨N, rfl, hNl, eN⟩ := pn_of (show 0 ≤ p1.toInt by omega)
  rw [pn_toInt hNl] at d1 ⊢
  rw [if_neg (show ¬ nI N < (1 : Int32) from fun z => by have := (pv_gt 1 (by omega) hNl).mp z; omega)]
  by_cases d2 : N ≤ 99
  rotate_left
  · refine ⟨(-3 : Int32), q, pm_same_rf q, ?_, ?_⟩
    · rw [if_neg (fun z => d2 ((pv_ge 99 (by omega) hNl).mp z))]; exact pu_some.mpr ⟨rfl, hold, Or.inr ⟨rfl, rfl⟩⟩
    · rw [if_neg (show ¬ (1 ≤ (N : Int) ∧ (N : Int) ≤ 99) by omega), if_pos rfl]; exact pu_some.mpr ⟨rfl, ha, fun _ _ => rfl⟩
  have hst := pm_hi1_st (w := w) hq h0
  have hu : pm_put q (pm_hi1 q w (pm_now q) N) w (q 41 + N) 42 ≤ 10 := hP.2.1
  have hltN := pm_st_lt hq (hst N)
  refine ⟨nI (pm_rg (pm_hi1 q w (pm_now q) N)), pm_nt (pm_put q (pm_hi1 q w (pm_now q) N) w (q 41 + N)) (fun j => q (37 + j)), pm_same_tr (pm_put_same _ _ _ _) (pm_nt_same hu), ?_, ?_⟩
  · rw [if_pos ((pv_ge 99 (by omega) hNl).mpr d2)]
    have hN' := hN
    obtain ⟨n1, n2, n3, _⟩ := hN
    rw [hw] at n2
    subst n1 n2 n3
    unfold zf_X4_copyFrom
    rw [pu_e3]
    refine pu_d9.mpr (pu_up (fun i v => v.1 = nI i ∧ v.2.1 = nI (pm_hi1 q w (pm_now q) i) ∧ v.2.2.1 = nI w ∧ v.2.2.2.1 = nI (q 41 + i) ∧ v.2.2.2.2.1 = nI w ∧ pc_told q w v.2.2.2.2.2.1) N (by omega) ⟨rfl, rfl, rfl, rfl, rfl, hT⟩ ?_)
    rintro i ⟨v4, v5, v6, v7, v8, a9, a10, a11⟩ hi ⟨e1, e2, e3, e4, e5, e6⟩
    dsimp only at e1 e2 e3 e4 e5 e6 ⊢
    subst e1 e2 e3 e4 e5
    unfold zb_X10_habit_27
    by_cases c : N ≤ i
    · have : i = N := by omega
      subst this
      rw [if_pos ((pn_le (by omega) (by omega)).mpr c)]
      refine pu_out (by decide) ?_
      dsimp only
      refine pu_d11.mpr (pu_mono (pc_keepTrial hn hq hN' hP (hst i) hw9 hw9 e6) ?_)
      rintro ⟨z1, z2, z3, z4, z5, z6, z7, z8, z9, z10, z11⟩ ⟨k1, k2, k3⟩
      dsimp only at k1 k2 k3 ⊢
      rw [k3, pc_rungOf hltN, pu_e1, ← k3]
      exact pu_some.mpr ⟨rfl, k1, Or.inl k2⟩
    · rw [if_neg (fun z => c ((pn_le (by omega) (by omega)).mp z))]
      refine pu_d4.mpr (pu_mono (pc_habitual hn hq hK e6 (hst i) hw9) ?_)
      rintro ⟨v12, a13, a14, a15⟩ ⟨g1, g2⟩
      dsimp only at g1 g2 ⊢
      subst g1
      refine pu_d8.mpr (pu_mono (pc_step hn hq hK g2 (hst i) hw9 (pm_hb_mv hq (hst i)) (pm_hb_c q w _).2.1) ?_)
      rintro ⟨y1, y2, y3, y4, y5, y6, y7, y8⟩ ⟨_, f2, f3, f4, f5, f6⟩
      dsimp only at f2 f3 f4 f5 f6 ⊢
      rw [pn_a1, pu_e1]
      exact pu_go ⟨by omega, rfl, f2, f3, f4, f5, f6⟩
  · rw [if_pos (show 1 ≤ (N : Int) ∧ (N : Int) ≤ 99 by omega), if_neg (by decide)]
    refine pu_d1.mpr (pu_mono (pr_keeps (by omega) ha) ?_)
    intro a2 ha2
    have hput0 : pr_all all (pm_put q (pm_now q) w (q 41 + 0)) := by
      intro j hj
      rw [ha j hj]
      unfold pm_put
      rw [hrg, hhs, hsg]
      by_cases c37 : j = 37
      · subst c37; rfl
      by_cases c38 : j = 38
      · subst c38; rfl
      by_cases c39 : j = 39
      · subst c39; rfl
      by_cases c40 : j = 40
      · subst c40; rw [if_neg (by omega), if_neg (by omega), if_neg (by omega), if_pos rfl, hw]
      by_cases c41 : j = 41
      · subst c41; rfl
      rw [if_neg c37, if_neg c38, if_neg c39, if_neg c40, if_neg c41]
    refine pu_d5.mpr (pu_up (fun i v => v.1 = nI i ∧ pr_all v.2.1 (pm_put q (pm_hi1 q w (pm_now q) i) w (q 41 + i)) ∧ ∀ k, 994 ≤ k → v.2.1 k = all k) N (by omega) ⟨rfl, hput0, fun _ _ => rfl⟩ ?_)
    rintro i ⟨v3, a4, a5, a6⟩ hi ⟨e1, e2, e3⟩
    dsimp only at e1 e2 e3 ⊢
    subst e1
    unfold zb_X11_habit_26
    by_cases c : N ≤ i
    · have : i = N := by omega
      subst this
      rw [if_pos ((pn_le (by omega) (by omega)).mpr c)]
      refine pu_out (by decide) ?_
      dsimp only
      refine pu_d1.mpr (pu_mono (pr_notes (p := fun j => q (37 + j)) (by omega) e2 hu ha2) ?_)
      rintro a20 ⟨g4, g5⟩
      rw [pv_ld 37 (by omega) (by omega), pu_e1]
      refine pu_some.mpr ⟨?_, g4, fun j hj => (g5 j hj).trans (e3 j hj)⟩
      dsimp only
      rw [g4 37 (by omega), pm_nt_o hu (Or.inl (by omega))]; rfl
    · have hsm := pm_put_same q (pm_hi1 q w (pm_now q) i) w (q 41 + i)
      have hq' := pm_same_cliff hsm hq
      have hst' := pm_same_st hsm (hst i)
      have hnow : pm_now (pm_put q (pm_hi1 q w (pm_now q) i) w (q 41 + i)) = pm_hi1 q w (pm_now q) i := pm_put_now _ _ _ _
      rw [if_neg (fun z => c ((pn_le (by omega) (by omega)).mp z)), pr_standNow e2, hnow, pu_e1]
      refine pu_d3.mpr (pu_mono (pr_habitOf (w := w) hn e2 hq' rfl hw9 hst') ?_)
      rintro ⟨v8, a9, a10⟩ g1
      dsimp only at g1 ⊢
      rw [pm_same_hb hsm hq (hst i)] at g1
      subst g1
      obtain ⟨hb1, hb2, _⟩ := pm_hb_c q w (pm_hi1 q w (pm_now q) i)
      refine pu_d3.mpr (pu_mono (pr_acts (w := w) hn e2 hq' rfl hw9 hnow hst' (show pm_hb q w (pm_hi1 q w (pm_now q) i) < 15 by omega) (by rw [pm_same_wy hsm hq (hst i)]; exact hb2)) ?_)
      rintro ⟨a11, a12, a13⟩ ⟨g2, g3⟩
      dsimp only at g2 g3 ⊢
      rw [pn_a1, pu_e1]
      refine pu_go ⟨by omega, rfl, ?_, fun j hj => (g3 j hj).trans (e3 j hj)⟩
      intro j hj
      dsimp only
      rw [g2 j hj, pm_same_ac hsm hq (hst i) hb2]
      congr 1
      unfold pm_put
      by_cases c37 : j = 37
      · subst c37; rfl
      by_cases c38 : j = 38
      · subst c38; rfl
      by_cases c39 : j = 39
      · subst c39; rfl
      by_cases c40 : j = 40
      · subst c40; rfl
      by_cases c41 : j = 41
      · subst c41; rfl
      rw [if_neg c37, if_neg c38, if_neg c39, if_neg c40, if_neg c41, if_neg c37, if_neg c38, if_neg c39, if_neg c40, if_neg c41, if_neg c37, if_neg c38, if_neg c39, if_neg c40, if_neg c41]
/-- undone -/
def pm_ud (q : Nat → Nat) (m : Nat) : Nat → Nat := fun k => if k = 42 then m else if 37 ≤ k ∧ k < 42 then q (43 + 5 * m + (k - 37)) else q k
theorem pp_undo {all : Nat → Int32} {thrown und nst nwi nde known p1 : Int32} {pst pwi pde : Nat → Int32} (hn : 1000 ≤ n) (ha : pr_all all q) (hq : pm_cliff q) (hw : q 40 = w) (hT : pc_told q w told) (hN : pp_now q nst nwi nde) (hP : pp_past q und pst pwi pde) :
    ∃ v q', pm_same q q' ∧ pu_ok (zf_X10_undo n und nst nwi nde (nI w) told known pst pwi pde p1) (fun r => r.1 = v ∧ pp_new q' r.2.1 r.2.2.1 r.2.2.2.1 r.2.2.2.2.1 r.2.2.2.2.2.1 r.2.2.2.2.2.2.1 pst pwi pde ∧ (r.2.2.2.2.2.2.2 = 0 ∨ r.2.2.2.2.2.2.2 = known ∧ q' = q)) ∧ pu_ok (zf_X11_undo n thrown all p1) (fun r => r.1 = v ∧ pr_all r.2.2 q' ∧ ∀ k, 994 ≤ k → r.2.2 k = all k) := by
  have hw9 : w ≤ 9 := by rw [← hw]; exact hN.2.2.2.2.2.2
  have hold : pp_new q und nst nwi nde (nI w) told pst pwi pde := ⟨hN, hP, by rw [hw], by rw [hw]; exact hT⟩
  obtain ⟨hu1, hu2, hu3⟩ := id hP
  unfold zf_X10_undo zf_X11_undo
  rw [pr_within, Int32.toInt_toInt64, show (1 : Int64).toInt = 1 from rfl, show (10 : Int64).toInt = 10 from rfl]
  simp only [pu_e1]
  by_cases d1 : 1 ≤ p1.toInt
  rotate_left
  · refine ⟨(-3 : Int32), q, pm_same_rf q, ?_, ?_⟩
    · rw [if_pos (by rw [Int32.lt_iff_toInt_lt]; show p1.toInt < 1; omega)]; exact pu_some.mpr ⟨rfl, hold, Or.inr ⟨rfl, rfl⟩⟩
    · rw [if_neg (show ¬ (1 ≤ p1.toInt ∧ p1.toInt ≤ 10) by omega), if_pos rfl]; exact pu_some.mpr ⟨rfl, ha, fun _ _ => rfl⟩
  obtain ⟨N, rfl, hNl, eN⟩ := pn_of (show 0 ≤ p1.toInt by omega)
  rw [pn_toInt hNl] at d1 ⊢
  rw [if_neg (show ¬ nI N < (1 : Int32) from fun z => by have := (pv_gt 1 (by omega) hNl).mp z; omega), hu1]
  by_cases d2 : N ≤ q 42
  rotate_left
  · refine ⟨(-3 : Int32), q, pm_same_rf q, ?_, ?_⟩
    · rw [if_neg (fun z => d2 ((pn_le (by omega) (by omega)).mp z))]; exact pu_some.mpr ⟨rfl, by rw [← hu1]; exact hold, Or.inr ⟨rfl, rfl⟩⟩
    · by_cases d3 : N ≤ 10
      · rw [if_pos (show 1 ≤ (N : Int) ∧ (N : Int) ≤ 10 by omega), if_neg (show ¬ (1 : Int32) = 0 by decide), pv_ld 42 (by omega) (by omega), pu_e1, ha 42 (by omega), if_neg (fun z => d2 ((pn_le (by omega) (by omega)).mp z))]; exact pu_some.mpr ⟨rfl, ha, fun _ _ => rfl⟩
      · rw [if_neg (show ¬ (1 ≤ (N : Int) ∧ (N : Int) ≤ 10) by omega), if_pos rfl]; exact pu_some.mpr ⟨rfl, ha, fun _ _ => rfl⟩
  obtain ⟨m, hm⟩ : ∃ m, m = q 42 - N := ⟨_, rfl⟩
  have hm10 : m < 10 := by omega
  have hsm : pm_same q (pm_ud q m) := by
    intro k hk
    unfold pm_ud
    rw [if_neg (by omega), if_neg (by omega)]
  obtain ⟨p1', p2', p3', p4', p5', p6', p7'⟩ := hu3 m (by omega)
  have hud : ∀ j, j < 5 → pm_ud q m (37 + j) = q (43 + 5 * m + j) := by
    intro j hj
    unfold pm_ud
    rw [if_neg (by omega), if_pos (by omega)]
    congr 1; omega
  have h37 := hud 0 (by omega)
  have h38 := hud 1 (by omega)
  have h39 := hud 2 (by omega)
  have h40 := hud 3 (by omega)
  have h41 := hud 4 (by omega)
  rw [show 43 + 5 * m + 0 = 43 + 5 * m from rfl] at h37
  rw [show 43 + 5 * m + 1 = 44 + 5 * m from by omega] at h38
  rw [show 43 + 5 * m + 2 = 45 + 5 * m from by omega] at h39
  rw [show 43 + 5 * m + 3 = 46 + 5 * m from by omega] at h40
  rw [show 43 + 5 * m + 4 = 47 + 5 * m from by omega] at h41
  have h37 : pm_ud q m 37 = _ := h37
  have h38 : pm_ud q m 38 = _ := h38
  have h39 : pm_ud q m 39 = _ := h39
  have h40 : pm_ud q m 40 = _ := h40
  have h41 : pm_ud q m 41 = _ := h41
  have h42 : pm_ud q m 42 = m := by unfold pm_ud; rw [if_pos rfl]
  have hhi : ∀ j, 43 ≤ j → pm_ud q m j = q j := by
    intro j hj
    unfold pm_ud
    rw [if_neg (by omega), if_neg (by omega)]
  have hnow' : pp_now (pm_ud q m) (pst m) (pwi m) (pde m) := by
    unfold pp_now pm_now
    rw [h37, h38, h39, h40, h41, hsm 1 (Or.inl (by omega)), hsm 2 (Or.inl (by omega))]
    exact ⟨p1', p2', p3', p4', p5', p6', p7'⟩
  have hpast' : pp_past (pm_ud q m) (nI m) pst pwi pde := by
    unfold pp_past
    rw [h42, hsm 1 (Or.inl (by omega)), hsm 2 (Or.inl (by omega))]
    refine ⟨rfl, by omega, ?_⟩
    intro k hk
    rw [hhi _ (by omega), hhi _ (by omega), hhi _ (by omega), hhi _ (by omega), hhi _ (by omega)]
    exact hu3 k (by omega)
  refine ⟨nI m, pm_ud q m, hsm, ?_, ?_⟩
  · rw [if_pos ((pn_le (by omega) (by omega)).mpr d2), pn_sub d2, ← hm]
    have key : pu_ok (zd_3 (zf_X4_copyFrom nst nwi nde (pst m) (pwi m) (pde m)) (fun v2 v3 v4 => zd_3 (zf_X10_settle n v3 (nI w) told known) (fun v5 a6 v7 => some (nI m, nI m, v2, v3, v4, v5, a6, v7)))) (fun r => r.1 = nI m ∧ pp_new (pm_ud q m) r.2.1 r.2.2.1 r.2.2.2.1 r.2.2.2.2.1 r.2.2.2.2.2.1 r.2.2.2.2.2.2.1 pst pwi pde ∧ (r.2.2.2.2.2.2.2 = 0 ∨ r.2.2.2.2.2.2.2 = known ∧ pm_ud q m = q)) := by
      unfold zf_X4_copyFrom
      rw [pu_e3]
      unfold zf_X10_settle
      rw [p2']
      refine pu_d3.mpr (pu_d2.mpr (pu_mono (pc_useWind hn hq hw9 p7' hT) ?_))
      rintro ⟨u1, u2⟩ ⟨g1, g2⟩
      dsimp only at g1 g2 ⊢
      subst g1
      show pu_ok (some (nI (q (46 + 5 * m)), u2, (0 : Int32))) _
      refine pu_some.mpr (pu_some.mpr ⟨rfl, ⟨by rw [← p2']; exact hnow', hpast', by rw [h40], ?_⟩, Or.inl rfl⟩)
      rw [h40]
      exact pc_same_told hsm hq g2
    rcases pp_10 hm10 with z | z | z | z | z | z | z | z | z | z <;> rw [z] at key ⊢
    · rw [if_pos (by decide)]; exact key
    · rw [if_neg (by decide), if_pos (by decide)]; exact key
    · rw [if_neg (by decide), if_neg (by decide), if_pos (by decide)]; exact key
    · rw [if_neg (by decide), if_neg (by decide), if_neg (by decide), if_pos (by decide)]; exact key
    · rw [if_neg (by decide), if_neg (by decide), if_neg (by decide), if_neg (by decide), if_pos (by decide)]; exact key
    · rw [if_neg (by decide), if_neg (by decide), if_neg (by decide), if_neg (by decide), if_neg (by decide), if_pos (by decide)]; exact key
    · rw [if_neg (by decide), if_neg (by decide), if_neg (by decide), if_neg (by decide), if_neg (by decide), if_neg (by decide), if_pos (by decide)]; exact key
    · rw [if_neg (by decide), if_neg (by decide), if_neg (by decide), if_neg (by decide), if_neg (by decide), if_neg (by decide), if_neg (by decide), if_pos (by decide)]; exact key
    · rw [if_neg (by decide), if_neg (by decide), if_neg (by decide), if_neg (by decide), if_neg (by decide), if_neg (by decide), if_neg (by decide), if_neg (by decide), if_pos (by decide)]; exact key
    · rw [if_neg (by decide), if_neg (by decide), if_neg (by decide), if_neg (by decide), if_neg (by decide), if_neg (by decide), if_neg (by decide), if_neg (by decide), if_neg (by decide), if_pos (by decide)]; exact key
  · rw [if_pos (show 1 ≤ (N : Int) ∧ (N : Int) ≤ 10 by omega), if_neg (show ¬ (1 : Int32) = 0 by decide), pv_ld 42 (by omega) (by omega), pu_e1, ha 42 (by omega), if_pos ((pn_le (by omega) (by omega)).mpr d2), pu_e1, pn_sub d2, ← hm, pv_st 42 (by omega) (by omega), pu_e1]
    refine pu_d3.mpr (pu_up (fun i v => v.1 = nI i ∧ (∀ k, k < 994 → v.2 k = nI (if k = 42 then m else if 37 ≤ k ∧ k < 37 + i then q (43 + 5 * m + (k - 37)) else q k)) ∧ ∀ k, 994 ≤ k → v.2 k = all k) 5 (by omega) ⟨rfl, fun k hk => ?_, fun k hk => by dsimp only; rw [pu_upn (by omega)]⟩ ?_)
    · dsimp only
      by_cases g : k = 42
      · rw [g, pu_upe, if_pos rfl]
      · rw [pu_upn g, if_neg g, if_neg (show ¬ (37 ≤ k ∧ k < 37 + 0) by omega)]; exact ha k hk
    rintro i ⟨v5, a6⟩ hi ⟨e1, e2, e3⟩
    dsimp only at e1 e2 e3 ⊢
    subst e1
    have e42 := e2 42 (by omega)
    rw [if_pos rfl] at e42
    unfold zb_X11_undo_44
    by_cases c : 5 ≤ i
    · have : i = 5 := by omega
      subst this
      rw [if_pos (by decide)]
      refine pu_out (by decide) ?_
      dsimp only
      rw [pv_ld 42 (by omega) (by omega), pu_e1, e42]
      exact pu_some.mpr ⟨rfl, fun k hk => e2 k hk, e3⟩
    · rw [if_neg (fun z => c ((pv_le 5 (by omega) (by omega)).mp z)), pv_ld 42 (by omega) (by omega), pu_e1, e42, pv_mul 5, pv_add 43, pn_add, pu_ld (by omega) (by omega), pu_e1, pv_add 37, pu_st (by omega) (by omega), pu_e1, pn_a1, pu_e1, e2 (43 + 5 * m + i) (by omega), if_neg (by omega), if_neg (by omega)]
      refine pu_go ⟨by omega, rfl, ?_, fun k hk => by dsimp only; rw [pu_upn (by omega)]; exact e3 k hk⟩
      intro k hk
      dsimp only
      by_cases g : k = 37 + i
      · rw [g, pu_upe, if_neg (by omega), if_pos (by omega), show 37 + i - 37 = i from by omega]
      · rw [pu_upn g, e2 k hk]
        by_cases g2 : k = 42
        · rw [if_pos g2, if_pos g2]
        · rw [if_neg g2, if_neg g2]
          by_cases g3 : 37 ≤ k ∧ k < 37 + i
          · rw [if_pos g3, if_pos (by omega)]
          · rw [if_neg g3, if_neg (show ¬ (37 ≤ k ∧ k < 37 + (i + 1)) by omega)]
end PDf
