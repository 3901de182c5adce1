/-! judge, perform, year -/
def pc_kept (n : Nat) (und nst nwi nde known : Int32) (apast : Nat → Nat) (pst pwi pde : Nat → Int32) (v2 v3 v4 v5 v6 : Int32) (a7 a8 a9 : Nat → Int32) : Option (Int32 × Int32 × Int32 × Int32 × Int32 × Int32 × Int32 × Int32 × Int32 × (Nat → Int32) × (Nat → Int32) × (Nat → Int32) × Int32 × (Nat → Nat) × (Nat → Int32) × (Nat → Int32) × (Nat → Int32)) :=
  zd_11 (if v2 ≤ 0 then some (und, nst, nwi, nde, v6, known, a7, apast, pst, pwi, pde) else zd_11 (zf_X10_keepTrial n und nst nwi nde v3 v4 v5 v6 a7 known apast pst pwi pde) (fun v10 v11 v12 v13 v14 a15 v16 a17 a18 a19 a20 => some (v10, v11, v12, v13, v14, v16, a15, a17, a18, a19, a20))) (fun v21 v22 v23 v24 v25 v26 a27 a28 a29 a30 a31 => some (v2, v21, v22, v23, v24, v3, v4, v5, v25, a27, a8, a9, v26, a28, a29, a30, a31))
def pr_kept (n : Nat) (v3 v4 : Int32) (a5 a6 a7 a2 : Nat → Int32) : Option (Int32 × Int32 × Int32 × (Nat → Int32) × (Nat → Int32) × (Nat → Int32) × (Nat → Int32)) :=
  zd_1 (if v3 ≤ 0 then some a5 else zd_1 (zf_X11_notes n a5 a2) (fun a8 => some a8)) (fun a9 => some (v3, (0 : Int32), v4, a9, a6, a7, a2))
section PJu
variable {n : Nat} {q : Nat → Nat} {w s0 : Nat} {top things tf tt mf mt : Int32} {bars gives rough code told fa sk : Nat → Int32}
theorem pm_put0 {nst nwi nde : Int32} (hq : pm_cliff q) (hN : pp_now q nst nwi nde) (hw : q 40 = w) (j : Nat) : pm_put q (pm_now q) w (q 41) j = q j := by
  obtain ⟨h0, hrg, hhs, hsg⟩ := pp_now_st hq hN
  unfold pm_put
  rw [hrg, hhs, hsg]
  by_cases c37 : j = 37
  · subst c37; rfl
  by_cases c38 : j = 38
  · subst c38; rfl
  by_cases c39 : j = 39
  · subst c39; rfl
  by_cases c40 : j = 40
  · subst c40; rw [if_neg (by omega), if_neg (by omega), if_neg (by omega), if_pos rfl, hw]
  by_cases c41 : j = 41
  · subst c41; rfl
  rw [if_neg c37, if_neg c38, if_neg c39, if_neg c40, if_neg c41]
/-- what was tried is kept, if a deed was done -/
theorem pp_kept {all rk wds was : Nat → Int32} {und nst nwi nde known why : Int32} {apast : Nat → Nat} {pst pwi pde : Nat → Int32} {m s' w' a' : Nat} (hn : 1000 ≤ n) (ha : pr_all all (pm_put q s' w' a')) (hq : pm_cliff q) (hw : q 40 = w) (hN : pp_now q nst nwi nde) (hP : pp_past q und pst pwi pde) (hs : pm_st q s') (hw' : w' ≤ 9) (hT : pc_told q w' told) (hm : m < 1000) (h0 : m = 0 → s' = pm_now q ∧ w' = w ∧ a' = q 41) (hwas : ∀ k, k < 5 → was k = nI (q (37 + k))) :
    ∃ q', pm_same q q' ∧ pu_ok (pc_kept n und nst nwi nde known apast pst pwi pde (nI m) (nI s') (nI w') (nI a') (nI w') told fa sk) (fun r => r.1 = nI m ∧ pp_new q' r.2.1 r.2.2.1 r.2.2.2.1 r.2.2.2.2.1 r.2.2.2.2.2.2.2.2.1 r.2.2.2.2.2.2.2.2.2.1 r.2.2.2.2.2.2.2.2.2.2.2.2.2.2.1 r.2.2.2.2.2.2.2.2.2.2.2.2.2.2.2.1 r.2.2.2.2.2.2.2.2.2.2.2.2.2.2.2.2 ∧ (r.2.2.2.2.2.2.2.2.2.2.2.2.1 = 0 ∨ r.2.2.2.2.2.2.2.2.2.2.2.2.1 = known ∧ q' = q)) ∧ pu_ok (pr_kept n (nI m) why all rk wds was) (fun r => r.1 = nI m ∧ pr_all r.2.2.2.1 q' ∧ ∀ k, 994 ≤ k → r.2.2.2.1 k = all k) := by
  by_cases c : m = 0
  · obtain ⟨rfl, rfl, rfl⟩ := h0 c
    subst c
    refine ⟨q, pm_same_rf q, ?_, ?_⟩
    · unfold pc_kept
      rw [if_pos (by decide), pu_e11]
      exact pu_some.mpr ⟨rfl, ⟨hN, hP, by rw [hw], by rw [hw]; exact hT⟩, Or.inr ⟨rfl, rfl⟩⟩
    · unfold pr_kept
      rw [if_pos (by decide), pu_e1]
      refine pu_some.mpr ⟨rfl, ?_, fun _ _ => rfl⟩
      intro j hj
      show all j = _
      rw [ha j hj, pm_put0 hq hN hw]
  · have hu : pm_put q s' w' a' 42 ≤ 10 := (pp_past_put (w := w') (s := s') (a := a') hP).2.1
    have hle : ¬ nI m ≤ (0 : Int32) := fun z => c (by have := (pv_ge 0 (by omega) (by omega)).mp z; omega)
    refine ⟨pm_nt (pm_put q s' w' a') (fun j => q (37 + j)), pm_same_tr (pm_put_same _ _ _ _) (pm_nt_same hu), ?_, ?_⟩
    · unfold pc_kept
      rw [if_neg hle]
      refine pu_d11.mpr (pu_d11.mpr (pu_mono (pc_keepTrial hn hq hN hP hs hw' hw' hT) ?_))
      rintro ⟨z1, z2, z3, z4, z5, z6, z7, z8, z9, z10, z11⟩ ⟨k1, k2, k3⟩
      exact pu_some.mpr (pu_some.mpr ⟨rfl, k1, Or.inl k2⟩)
    · unfold pr_kept
      rw [if_neg hle]
      refine pu_d1.mpr (pu_d1.mpr (pu_mono (pr_notes (p := fun j => q (37 + j)) (by omega) ha hu hwas) ?_))
      rintro a4 ⟨g4, g5⟩
      exact pu_some.mpr (pu_some.mpr ⟨rfl, g4, g5⟩)
theorem pp_perform {all rk wds was missing tsize tsort rs rm : Nat → Int32} {trn : Nat → Nat → Int64} {num : Nat → Int64} {thrown why und nst nwi nde tst twi tde known p1 : Int32} {apast : Nat → Nat} {pst pwi pde : Nat → Int32} (hn : 1000 ≤ n) (ha : pr_all all q) (hq : pm_cliff q) (hw : q 40 = w) (hK : pc_K q top things tf tt mf mt bars gives rough code) (hT : pc_told q w told) (hN : pp_now q nst nwi nde) (hP : pp_past q und pst pwi pde) (htr : pp_tr missing tsize tsort trn rs rm num) :
    ∃ v q', pm_same q q' ∧ pu_ok (zf_X10_perform n und top things tf tt mf mt bars gives rough code nst nwi nde tst twi tde (nI w) told fa sk known apast pst pwi pde missing tsize trn p1) (fun r => r.1 = v ∧ pp_new q' r.2.1 r.2.2.1 r.2.2.2.1 r.2.2.2.2.1 r.2.2.2.2.2.2.2.2.1 r.2.2.2.2.2.2.2.2.2.1 r.2.2.2.2.2.2.2.2.2.2.2.2.2.2.1 r.2.2.2.2.2.2.2.2.2.2.2.2.2.2.2.1 r.2.2.2.2.2.2.2.2.2.2.2.2.2.2.2.2 ∧ (r.2.2.2.2.2.2.2.2.2.2.2.2.1 = 0 ∨ r.2.2.2.2.2.2.2.2.2.2.2.2.1 = known ∧ q' = q)) ∧ pu_ok (zf_X11_perform n thrown why all rk wds was rs rm num p1) (fun r => r.1 = v ∧ pr_all r.2.2.2.1 q' ∧ ∀ k, 994 ≤ k → r.2.2.2.1 k = all k) := by
  obtain ⟨c, c1, c2, c3⟩ := pp_tray htr p1
  rcases c3 with c3 | ⟨rfl, t, ht, rfl, hmi⟩
  · refine ⟨c, q, pm_same_rf q, ?_, ?_⟩
    · unfold zf_X10_perform
      rw [c1, pu_e1, if_neg c3]
      exact pu_some.mpr ⟨rfl, ⟨hN, hP, by rw [hw], by rw [hw]; exact hT⟩, Or.inr ⟨rfl, rfl⟩⟩
    · unfold zf_X11_perform
      rw [c2, pu_e1, if_neg c3]
      exact pu_some.mpr ⟨rfl, ha, fun _ _ => rfl⟩
  obtain ⟨_, sz, s1, s2, s3, s4⟩ := htr t ht
  obtain ⟨a2, k1, k2⟩ := pr_keeps (n := n) (all := all) (was := was) (by omega) ha
  obtain ⟨m, v, s', w', a', f1, f2, f3, f4, f5, f6, ⟨y, y1, y2⟩, ⟨z, z1, z2⟩⟩ := pp_tells (n := n) (rk := rk) (wds := wds) (fa := fa) (sk := sk) (tst := tst) (twi := twi) (tde := tde) (why := why) hn ha hq hw hK hT hN ht s1 s3 s4
  obtain ⟨z1', z2', z3', z4', z5'⟩ := z
  obtain ⟨b1, b2, b3, b4, b5, b6, b7, b8⟩ := y
  obtain ⟨g1, g2, g3, g4⟩ := z2
  obtain ⟨o1, o2, o3, o4, o5, o6⟩ := y2
  dsimp only at g1 g2 g3 g4 o1 o2 o3 o4 o5 o6
  subst g1 g2 o1 o2 o3 o4 o5
  obtain ⟨q', p1, p2, p3⟩ := pp_kept (n := n) (fa := b7) (sk := b8) (known := known) (apast := apast) (rk := z4') (wds := z5') (why := nI v) hn g3 hq hw hN hP f3 f4 o6 (show m < 1000 by omega) f5 k2
  refine ⟨nI m, q', p1, ?_, ?_⟩
  · have key : zf_X10_perform n und top things tf tt mf mt bars gives rough code nst nwi nde tst twi tde (nI w) told fa sk known apast pst pwi pde missing tsize trn (nI t) = zd_8 (zf_X10_follow n top things tf tt mf mt bars gives rough code nst nwi nde tst twi tde (nI w) told fa sk (tsize t) (trn t)) (fun v2 v3 v4 v5 v6 a7 a8 a9 => pc_kept n und nst nwi nde known apast pst pwi pde v2 v3 v4 v5 v6 a7 a8 a9) := by
      unfold zf_X10_perform
      rw [c1, pu_e1, if_pos rfl]
      rcases pp_4 ht with rfl | rfl | rfl | rfl
      · rw [if_pos (by decide)]; rfl
      · rw [if_neg (by decide), if_pos (by decide)]; rfl
      · rw [if_neg (by decide), if_neg (by decide), if_pos (by decide)]; rfl
      · rw [if_neg (by decide), if_neg (by decide), if_neg (by decide), if_pos (by decide)]; rfl
    rw [key, s2, y1, pu_e8]
    exact p2
  · have key : zf_X11_perform n thrown why all rk wds was rs rm num (nI t) = pr_kept n (nI m) (nI v) z3' z4' z5' a2 := by
      unfold zf_X11_perform
      rw [c2, pu_e1, if_pos rfl, k1, pu_e1, z1, pu_e5]
      rfl
    rw [key]
    refine pu_mono p3 ?_
    rintro r ⟨h1, h2, h3⟩
    exact ⟨h1, h2, fun k hk => (h3 k hk).trans (g4 k hk)⟩
def pc_jb (n : Nat) (top things tf tt mf mt : Int32) (bars gives rough code : Nat → Int32) (nst nwi nde tst twi tde ww : Int32) (told fa sk : Nat → Int32) (sz : Int32) (a : Nat → Int64) (p2 : Int32) : Option (Int32 × Int32 × Int32 × Int32 × Int32 × (Nat → Int32) × (Nat → Int32) × (Nat → Int32)) :=
  zd_8 (zf_X10_follow n top things tf tt mf mt bars gives rough code nst nwi nde tst twi tde ww told fa sk sz a) (fun v2 v3 v4 v5 v6 a7 a8 a9 =>
    zd_1 (if v2 = sz then some (1 : Int32) else some (0 : Int32)) (fun v10 =>
    zd_4 (if v10 = 0 then zd_1 (zf_X9_deedAt a v2) (fun v11 => zd_4 (zf_X3_refusal n top things tf tt mf mt bars gives rough code v6 a7 a8 a9 v3 v11) (fun v12 a13 a14 a15 => some (v12, a13, a14, a15))) else some ((0 : Int32), a7, a8, a9)) (fun v16 a17 a18 a19 =>
    zd_2 (zf_X2_useWind n v6 a17 nwi) (fun v20 a21 =>
    if p2 = (0 : Int32) then if v10 = 0 then some (v2, v3, v4, v5, v20, a21, a18, a19) else some ((-1 : Int32), v3, v4, v5, v20, a21, a18, a19)
    else if p2 = (1 : Int32) then some (v16, v3, v4, v5, v20, a21, a18, a19)
    else if p2 = (2 : Int32) then zd_1 (zf_X10_rungOf v3) (fun v22 => some (v22, v3, v4, v5, v20, a21, a18, a19))
    else zd_1 (zf_X10_thingsOf v3) (fun v23 => some (v23, v3, v4, v5, v20, a21, a18, a19))))))
theorem pp_judge {all rk wds was missing tsize tsort rs rm : Nat → Int32} {trn : Nat → Nat → Int64} {num : Nat → Int64} {thrown why nst nwi nde tst twi tde p1 p2 : Int32} (hn : 1000 ≤ n) (ha : pr_all all q) (hq : pm_cliff q) (hw : q 40 = w) (hK : pc_K q top things tf tt mf mt bars gives rough code) (hT : pc_told q w told) (hN : pp_now q nst nwi nde) (htr : pp_tr missing tsize tsort trn rs rm num) :
    ∃ v, pu_ok (zf_X10_judge n top things tf tt mf mt bars gives rough code nst nwi nde tst twi tde (nI w) told fa sk missing tsize trn p1 p2) (fun r => r.1 = v ∧ r.2.2.2.2.1 = nI w ∧ pc_told q w r.2.2.2.2.2.1) ∧ pu_ok (zf_X11_judge n thrown why all rk wds was rs rm num p1 p2) (fun r => r.1 = v ∧ pr_all r.2.2.2.1 q ∧ ∀ k, 994 ≤ k → r.2.2.2.1 k = all k) := by
  have hw9 : w ≤ 9 := by rw [← hw]; exact hN.2.2.2.2.2.2
  have hwi : nwi = nI w := by rw [hN.2.1, hw]
  obtain ⟨c, c1, c2, c3⟩ := pp_tray htr p1
  by_cases d : 0 ≤ p2.toInt ∧ p2.toInt ≤ 3
  rotate_left
  · refine ⟨(-2 : Int32), ?_, ?_⟩
    · unfold zf_X10_judge
      have hit : ∃ b, zf_X10_isTray p1 = some b := by
        unfold zf_X10_isTray
        split
        · exact ⟨_, rfl⟩
        · split <;> exact ⟨_, rfl⟩
      obtain ⟨b, hb⟩ := hit
      rw [hb, pu_e1]
      by_cases e1 : b = 0
      · rw [if_pos e1]; exact pu_some.mpr ⟨rfl, rfl, hT⟩
      rw [if_neg e1]
      by_cases e2 : 0 ≤ p2.toInt
      · rw [if_neg (fun z => by rw [Int32.lt_iff_toInt_lt] at z; have : p2.toInt < 0 := z; omega), if_neg (fun z => by rw [Int32.le_iff_toInt_le] at z; have : p2.toInt ≤ 3 := z; omega)]
        exact pu_some.mpr ⟨rfl, rfl, hT⟩
      · rw [if_pos (pn_neg e2)]; exact pu_some.mpr ⟨rfl, rfl, hT⟩
    · unfold zf_X11_judge
      rw [pr_within, pu_e1, Int32.toInt_toInt64, show (0 : Int64).toInt = 0 from rfl, show (3 : Int64).toInt = 3 from rfl, if_neg d, if_pos rfl]
      exact pu_some.mpr ⟨rfl, ha, fun _ _ => rfl⟩
  obtain ⟨j, rfl, hj, ej⟩ := pn_of d.1
  have hj4 : j < 4 := by rw [← ej] at d; omega
  have hwi2 : zf_X11_within (Int32.toInt64 (nI j)) (0 : Int64) (3 : Int64) = some 1 := by
    rw [pr_within, Int32.toInt_toInt64, show (0 : Int64).toInt = 0 from rfl, show (3 : Int64).toInt = 3 from rfl, if_pos d]
  have hj0 : ¬ nI j < (0 : Int32) := pn_nn hj
  have hj3 : nI j ≤ (3 : Int32) := (pv_ge 3 (by omega) hj).mpr (by omega)
  rcases c3 with c3 | ⟨rfl, t, ht, rfl, hmi⟩
  · refine ⟨c, ?_, ?_⟩
    · -- no tray, or one that is missing
      unfold zf_X10_trayRefused at c1
      unfold zf_X10_judge
      by_cases e1 : zf_X10_isTray p1 = some 0
      · rw [e1, pu_e1, if_pos rfl] at c1
        cases c1
        rw [e1, pu_e1, if_pos rfl]
        exact pu_some.mpr ⟨rfl, rfl, hT⟩
      · have e1' : zf_X10_isTray p1 = some 1 ∧ ∃ t, t < 4 ∧ p1 = nI t := by
          revert e1
          unfold zf_X10_isTray
          by_cases g1 : p1 < 0
          · rw [if_pos g1]; intro h; exact absurd rfl h
          · rw [if_neg g1]
            by_cases g2 : (4 : Int32) ≤ p1
            · rw [if_pos g2]; intro h; exact absurd rfl h
            · rw [if_neg g2]; intro _
              refine ⟨rfl, ?_⟩
              by_cases g3 : 0 ≤ p1.toInt
              · obtain ⟨t, rfl, ht, _⟩ := pn_of g3
                exact ⟨t, by by_cases g : 4 ≤ t; exact absurd ((pv_le 4 (by omega) ht).mpr g) g2; omega, rfl⟩
              · exact absurd (pn_neg g3) g1
        obtain ⟨e2, t, ht, rfl⟩ := e1'
        rw [e2, pu_e1, if_neg (by decide)] at c1
        rw [e2, pu_e1, if_neg (by decide), if_neg hj0, if_pos hj3]
        have c4 := pc_trayRef (missing := missing) ht
        by_cases hmi : missing t = 0
        · exfalso
          rw [if_pos hmi] at c4
          unfold zf_X10_trayRefused at c4
          rw [e2, pu_e1, if_neg (by decide)] at c4
          rw [c4] at c1
          cases c1
          exact c3 rfl
        · have hc6 : c = (-6 : Int32) := by
            rw [if_neg hmi] at c4
            unfold zf_X10_trayRefused at c4
            rw [e2, pu_e1, if_neg (by decide)] at c4
            rw [c4] at c1
            cases c1; rfl
          subst hc6
          rcases pp_4 ht with rfl | rfl | rfl | rfl
          · rw [if_pos (by decide), if_neg hmi]; exact pu_some.mpr ⟨rfl, rfl, hT⟩
          · rw [if_neg (by decide), if_pos (by decide), if_neg hmi]; exact pu_some.mpr ⟨rfl, rfl, hT⟩
          · rw [if_neg (by decide), if_neg (by decide), if_pos (by decide), if_neg hmi]; exact pu_some.mpr ⟨rfl, rfl, hT⟩
          · rw [if_neg (by decide), if_neg (by decide), if_neg (by decide), if_pos (by decide), if_neg hmi]; exact pu_some.mpr ⟨rfl, rfl, hT⟩
    · unfold zf_X11_judge
      rw [hwi2, pu_e1, if_neg (by decide), c2, pu_e1, if_neg c3]
      exact pu_some.mpr ⟨rfl, ha, fun _ _ => rfl⟩
  obtain ⟨_, sz, s1, s2, s3, s4⟩ := htr t ht
  obtain ⟨a2, k1, k2⟩ := pr_keeps (n := n) (all := all) (was := was) (by omega) ha
  obtain ⟨m, v, s', w', a', f1, f2, f3, f4, f5, f6, ⟨y, y1, y2⟩, ⟨z, z1, z2⟩⟩ := pp_tells (n := n) (rk := rk) (wds := wds) (fa := fa) (sk := sk) (tst := tst) (twi := twi) (tde := tde) (why := why) hn ha hq hw hK hT hN ht s1 s3 s4
  obtain ⟨z1', z2', z3', z4', z5'⟩ := z
  obtain ⟨b1, b2, b3, b4, b5, b6, b7, b8⟩ := y
  obtain ⟨g1, g2, g3, g4⟩ := z2
  obtain ⟨o1, o2, o3, o4, o5, o6⟩ := y2
  dsimp only at g1 g2 g3 g4 o1 o2 o3 o4 o5 o6
  subst g1 g2 o1 o2 o3 o4 o5
  have hs28 := pm_st_lt hq f3
  refine ⟨if j = 0 then (if v = 0 then (-1 : Int32) else nI m) else if j = 1 then nI v else if j = 2 then nI (pm_rg s') else nI (pm_hs s'), ?_, ?_⟩
  · have key : zf_X10_judge n top things tf tt mf mt bars gives rough code nst nwi nde tst twi tde (nI w) told fa sk missing tsize trn (nI t) (nI j) = pc_jb n top things tf tt mf mt bars gives rough code nst nwi nde tst twi tde (nI w) told fa sk (tsize t) (trn t) (nI j) := by
      unfold zf_X10_judge zf_X10_isTray
      rw [if_neg (pn_nn (by omega)), if_neg (fun z => by have := (pv_le 4 (b := t) (by omega) (by omega)).mp z; omega), pu_e1, if_neg (by decide), if_neg hj0, if_pos hj3]
      rcases pp_4 ht with rfl | rfl | rfl | rfl
      · rw [if_pos (by decide), if_pos hmi]; rfl
      · rw [if_neg (by decide), if_pos (by decide), if_pos hmi]; rfl
      · rw [if_neg (by decide), if_neg (by decide), if_pos (by decide), if_pos hmi]; rfl
      · rw [if_neg (by decide), if_neg (by decide), if_neg (by decide), if_pos (by decide), if_pos hmi]; rfl
    rw [key, s2, hwi]
    rw [hwi] at y1
    unfold pc_jb
    rw [y1, pu_e8]
    have hmid : pu_ok (zd_1 (if nI m = nI sz then some (1 : Int32) else some (0 : Int32)) (fun v10 => zd_4 (if v10 = 0 then zd_1 (zf_X9_deedAt (trn t) (nI m)) (fun v11 => zd_4 (zf_X3_refusal n top things tf tt mf mt bars gives rough code (nI w') b6 b7 b8 (nI s') v11) (fun v12 a13 a14 a15 => some (v12, a13, a14, a15))) else some ((0 : Int32), b6, b7, b8)) (fun v16 a17 a18 a19 => some (v10, v16, a17, a18, a19)))) (fun r => (r.1 = 0 ↔ ¬ v = 0) ∧ r.2.1 = nI v ∧ pc_told q w' r.2.2.1) := by
      rcases f6 with ⟨h1, h2⟩ | ⟨h1, h2, dd, h3, h4⟩
      · subst h1 h2
        rw [if_pos rfl, pu_e1, if_neg (by decide), pu_e4]
        exact pu_some.mpr ⟨⟨fun z => absurd z (show ¬ (1 : Int32) = 0 by decide), fun z => absurd rfl z⟩, rfl, o6⟩
      · rw [if_neg (fun z => by have := (pn_eq (by omega) (by omega)).mp z; omega), pu_e1, if_pos rfl, h3, pu_e1]
        refine pu_d4.mpr (pu_d4.mpr (pu_mono (h4 b6 b7 b8 o6) ?_))
        rintro ⟨r1, r2, r3, r4⟩ ⟨u1, u2⟩
        exact pu_some.mpr (pu_some.mpr ⟨⟨fun _ => h2, fun _ => rfl⟩, u1, u2⟩)
    have hsplit : ∀ {β : Type} (o : Option Int32) (g : Int32 → Option (Int32 × (Nat → Int32) × (Nat → Int32) × (Nat → Int32))) (f : Int32 → Int32 → (Nat → Int32) → (Nat → Int32) → (Nat → Int32) → Option β) (P : β → Prop), pu_ok (zd_1 o (fun v10 => zd_4 (g v10) (fun v16 a17 a18 a19 => some (v10, v16, a17, a18, a19)))) (fun r => pu_ok (f r.1 r.2.1 r.2.2.1 r.2.2.2.1 r.2.2.2.2) P) → pu_ok (zd_1 o (fun v10 => zd_4 (g v10) (fun v16 a17 a18 a19 => f v10 v16 a17 a18 a19))) P := by
      intro β o g f P h
      refine pu_d1.mpr (pu_mono (pu_d1.mp h) ?_)
      intro x hx
      refine pu_d4.mpr (pu_mono (pu_d4.mp hx) ?_)
      intro y hy
      have hy2 := pu_some.mp hy
      exact hy2
    refine hsplit _ _ _ _ (pu_mono hmid ?_)
    rintro ⟨r1, r2, r3, r4, r5⟩ ⟨u1, u2, u3⟩
    dsimp only at u1 u2 u3 ⊢
    subst u2
    refine pu_d2.mpr (pu_mono (pc_useWind hn hq f4 hw9 u3) ?_)
    rintro ⟨x1, x2⟩ ⟨x3, x4⟩
    dsimp only at x3 x4 ⊢
    rcases pp_4 hj4 with rfl | rfl | rfl | rfl
    · rw [if_pos (show nI 0 = (0 : Int32) by decide), if_pos rfl]
      by_cases hv : v = 0
      · rw [if_neg (fun z => (u1.mp z) hv), if_pos hv]
        exact pu_some.mpr ⟨rfl, x3, x4⟩
      · rw [if_pos (u1.mpr hv), if_neg hv]
        exact pu_some.mpr ⟨rfl, x3, x4⟩
    · rw [if_neg (show ¬ nI 1 = (0 : Int32) by decide), if_pos (show nI 1 = (1 : Int32) by decide)]
      exact pu_some.mpr ⟨rfl, x3, x4⟩
    · rw [if_neg (show ¬ nI 2 = (0 : Int32) by decide), if_neg (show ¬ nI 2 = (1 : Int32) by decide), if_pos (show nI 2 = (2 : Int32) by decide), pc_rungOf hs28, pu_e1]
      exact pu_some.mpr ⟨rfl, x3, x4⟩
    · rw [if_neg (show ¬ nI 3 = (0 : Int32) by decide), if_neg (show ¬ nI 3 = (1 : Int32) by decide), if_neg (show ¬ nI 3 = (2 : Int32) by decide), pc_thingsOf hs28, pu_e1]
      exact pu_some.mpr ⟨rfl, x3, x4⟩
  · unfold zf_X11_judge
    rw [hwi2, pu_e1, if_neg (by decide), c2, pu_e1, if_pos rfl, k1, pu_e1, z1, pu_e5, pr_standNow g3, pm_put_now, pu_e1]
    refine pu_d1.mpr (pu_mono (pr_isAgain (by omega) g3 k2 (fun k _ hk => pm_put_o hk)) ?_)
    rintro a10 ⟨i1, i2⟩
    have i3 : ∀ k, 994 ≤ k → a10 k = all k := fun k hk => (i2 k hk).trans (g4 k hk)
    rcases pp_4 hj4 with rfl | rfl | rfl | rfl
    · rw [if_pos (show nI 0 = (0 : Int32) by decide), if_pos rfl]
      by_cases hv : v = 0
      · rw [if_pos ((pv_eq 0 (by omega) (by omega)).mpr hv), if_pos hv]
        exact pu_some.mpr ⟨rfl, i1, i3⟩
      · rw [if_neg (fun z => hv ((pv_eq 0 (by omega) (by omega)).mp z)), if_neg hv]
        exact pu_some.mpr ⟨rfl, i1, i3⟩
    · rw [if_neg (show ¬ nI 1 = (0 : Int32) by decide), if_pos (show nI 1 = (1 : Int32) by decide)]
      exact pu_some.mpr ⟨rfl, i1, i3⟩
    · rw [if_neg (show ¬ nI 2 = (0 : Int32) by decide), if_neg (show ¬ nI 2 = (1 : Int32) by decide), if_pos (show nI 2 = (2 : Int32) by decide), pr_rungIn hs28, pu_e1]
      exact pu_some.mpr ⟨rfl, i1, i3⟩
    · rw [if_neg (show ¬ nI 3 = (0 : Int32) by decide), if_neg (show ¬ nI 3 = (1 : Int32) by decide), if_neg (show ¬ nI 3 = (2 : Int32) by decide), pr_hasIn hs28, pu_e1]
      exact pu_some.mpr ⟨rfl, i1, i3⟩
end PJu
