/-! year -/
def pc_drawn {β : Type} (x : Int32) (k : Int32 → Int32 → Option β) : Option β :=
  zd_1 (zf_X10_nextSeed x) (fun v14 =>
    zd_1 (some (((Int32.toUInt32 v14 >>> (Int32.toUInt32 (16 : Int32) &&& Int32.toUInt32 31)).toInt32))) (fun v15 =>
    zd_1 (some ((za_rem v15 (8 : Int32)))) (fun v16 =>
    zd_2 (if v16 < (5 : Int32) then some (v14, (0 : Int32)) else zd_1 (zf_X10_nextSeed v14) (fun v17 => zd_1 (some (((Int32.toUInt32 v17 >>> (Int32.toUInt32 (16 : Int32) &&& Int32.toUInt32 31)).toInt32))) (fun v18 => zd_1 (some ((za_rem v18 (6 : Int32)))) (fun v19 => some (v17, v19))))) (fun v20 v21 =>
    zd_1 (zf_X10_drawnDeed v16 v21) (fun v22 => k v20 v22)))))
theorem pr_draw (x p : Int32) (h : ¬ p = 0) : zf_X11_draw x p = some (za_rem (((Int32.toUInt32 (((1103515245 : Int32) * x) + (12345 : Int32)) >>> (Int32.toUInt32 (16 : Int32) &&& Int32.toUInt32 31)).toInt32)) p, (((1103515245 : Int32) * x) + (12345 : Int32))) := by
  unfold zf_X11_draw za_nz
  rw [pu_e1, pu_e1, if_neg h, pu_e1]
theorem pp_drawn (x : Int32) : ∃ d x2, zf_X11_drawn x = some (d, x2) ∧ ∀ (β : Type) (k : Int32 → Int32 → Option β), pc_drawn x k = k x2 d := by
  unfold zf_X11_drawn
  rw [pr_draw x 8 (by decide), pu_e2]
  unfold pc_drawn zf_X10_nextSeed
  simp only [pu_e1]
  generalize ((1103515245 : Int32) * x) + (12345 : Int32) = y
  rw [pr_draw y 6 (by decide)]
  generalize za_rem ((Int32.toUInt32 y >>> (Int32.toUInt32 (16 : Int32) &&& Int32.toUInt32 31)).toInt32) (8 : Int32) = v
  by_cases c0 : v = 0
  · refine ⟨0, y, by rw [if_pos c0], ?_⟩
    intro β k
    rw [if_pos (by rw [c0]; decide), pu_e2]
    unfold zf_X10_drawnDeed
    rw [if_pos c0, pu_e1]
  by_cases c1 : (4 : Int32) ≤ v
  rotate_left
  · refine ⟨1, y, by rw [if_neg c0, if_neg c1], ?_⟩
    intro β k
    have h4 : ¬ (4 : Int) ≤ v.toInt := fun z => c1 (by rw [Int32.le_iff_toInt_le]; exact z)
    rw [if_pos (by rw [Int32.lt_iff_toInt_lt]; show v.toInt < 5; omega), pu_e2]
    unfold zf_X10_drawnDeed
    rw [if_neg c0, if_neg (by rw [Int32.lt_iff_toInt_lt]; show ¬ (3 : Int) < v.toInt; omega), pu_e1]
  have h4 : (4 : Int) ≤ v.toInt := by rw [Int32.le_iff_toInt_le] at c1; exact c1
  have h3 : (3 : Int32) < v := by rw [Int32.lt_iff_toInt_lt]; show (3 : Int) < v.toInt; omega
  by_cases c2 : v = (4 : Int32)
  · refine ⟨2, y, by rw [if_neg c0, if_pos c1, if_pos c2], ?_⟩
    intro β k
    rw [if_pos (by rw [c2]; decide), pu_e2]
    unfold zf_X10_drawnDeed
    rw [if_neg c0, if_pos h3, if_pos c2, pu_e1]
  have h5 : ¬ v < (5 : Int32) := by
    intro z
    rw [Int32.lt_iff_toInt_lt] at z
    have z' : v.toInt < 5 := z
    exact c2 (Int32.toInt_inj.mp (show v.toInt = (4 : Int) by omega))
  by_cases c3 : v = (5 : Int32)
  · refine ⟨_, _, by rw [if_neg c0, if_pos c1, if_neg c2, if_pos c3, pu_e2], ?_⟩
    intro β k
    rw [if_neg h5, pu_e2]
    unfold zf_X10_drawnDeed
    rw [if_neg c0, if_pos h3, if_neg c2, if_pos c3, pu_e1]
  · refine ⟨_, _, by rw [if_neg c0, if_pos c1, if_neg c2, if_neg c3, pu_e2], ?_⟩
    intro β k
    rw [if_neg h5, pu_e2]
    unfold zf_X10_drawnDeed
    rw [if_neg c0, if_pos h3, if_neg c2, if_neg c3, pu_e1]
section PYe
variable {n : Nat} {q : Nat → Nat} {w s0 : Nat} {top things tf tt mf mt : Int32} {bars gives rough code told fa sk : Nat → Int32}
theorem pp_year {all rk wds was : Nat → Int32} {thrown x und nst nwi nde tst twi tde known p1 p2 : Int32} {apast : Nat → Nat} {pst pwi pde : Nat → Int32} (hn : 1000 ≤ n) (ha : pr_all all q) (hq : pm_cliff q) (hw : q 40 = w) (hK : pc_K q top things tf tt mf mt bars gives rough code) (hT : pc_told q w told) (hN : pp_now q nst nwi nde) (hP : pp_past q und pst pwi pde) :
    ∃ v q', pm_same q q' ∧ pu_ok (zf_X10_year n und top things tf tt mf mt bars gives rough code nst nwi nde tst twi tde (nI w) told fa sk known apast pst pwi pde p1 p2) (fun r => r.1 = v ∧ pp_new q' r.2.1 r.2.2.1 r.2.2.2.1 r.2.2.2.2.1 r.2.2.2.2.2.2.2.2.1 r.2.2.2.2.2.2.2.2.2.1 r.2.2.2.2.2.2.2.2.2.2.2.2.2.2.1 r.2.2.2.2.2.2.2.2.2.2.2.2.2.2.2.1 r.2.2.2.2.2.2.2.2.2.2.2.2.2.2.2.2 ∧ (r.2.2.2.2.2.2.2.2.2.2.2.2.1 = 0 ∨ r.2.2.2.2.2.2.2.2.2.2.2.2.1 = known ∧ q' = q)) ∧ pu_ok (zf_X11_year n thrown x all rk wds was p1 p2) (fun r => r.1 = v ∧ pr_all r.2.2.2.1 q' ∧ ∀ k, 994 ≤ k → r.2.2.2.1 k = all k) := by
  obtain ⟨h0, _⟩ := pp_now_st hq hN
  have hw9 : w ≤ 9 := by rw [← hw]; exact hN.2.2.2.2.2.2
  have hold : pp_new q und nst nwi nde (nI w) told pst pwi pde := ⟨hN, hP, by rw [hw], by rw [hw]; exact hT⟩
  have hwith : zf_X11_within (Int32.toInt64 p2) (1 : Int64) (40 : Int64) = some (if 1 ≤ p2.toInt ∧ p2.toInt ≤ 40 then 1 else 0) := by
    rw [pr_within, Int32.toInt_toInt64, show (1 : Int64).toInt = 1 from rfl, show (40 : Int64).toInt = 40 from rfl]
  by_cases d : 1 ≤ p2.toInt ∧ p2.toInt ≤ 40
  rotate_left
  · refine ⟨(-3 : Int32), q, pm_same_rf q, ?_, ?_⟩
    · unfold zf_X10_year
      by_cases e : p2 < (1 : Int32)
      · rw [if_pos e]; exact pu_some.mpr ⟨rfl, hold, Or.inr ⟨rfl, rfl⟩⟩
      · rw [if_neg e, if_neg (fun z => by
          rw [Int32.le_iff_toInt_le] at z
          rw [Int32.lt_iff_toInt_lt] at e
          have z' : p2.toInt ≤ 40 := z
          have e' : ¬ p2.toInt < 1 := e
          omega)]
        exact pu_some.mpr ⟨rfl, hold, Or.inr ⟨rfl, rfl⟩⟩
    · unfold zf_X11_year
      rw [hwith, pu_e1, if_neg d, if_pos rfl]
      exact pu_some.mpr ⟨rfl, ha, fun _ _ => rfl⟩
  obtain ⟨N, rfl, hN1, eN⟩ := pn_of (show 0 ≤ p2.toInt by omega)
  rw [pn_toInt hN1] at d
  have hput0 := pr_put0 hq hN hw ha
  obtain ⟨a2, k1, k2⟩ := pr_keeps (n := n) (all := all) (was := was) (by omega) ha
  obtain ⟨r1, r2, e1, e2, m, s', w', a', f⟩ := pu_two (b1 := fun v => zb_X10_year_33 (nI N) n top things tf tt mf mt bars gives rough code v.1 v.2.1 v.2.2.1 v.2.2.2.1 v.2.2.2.2.1 v.2.2.2.2.2.1 v.2.2.2.2.2.2.1 v.2.2.2.2.2.2.2.1 v.2.2.2.2.2.2.2.2.1 v.2.2.2.2.2.2.2.2.2) (b2 := fun v => zb_X11_year_34 (nI N) n v.1 v.2.1 v.2.2.1 v.2.2.2.1 v.2.2.2.2.1 v.2.2.2.2.2) (n := n) (v1 := ((0 : Int32), p1, (0 : Int32), nI (pm_now q), nI w, nI (q 41), nI w, told, fa, sk)) (v2 := ((0 : Int32), (0 : Int32), p1, all, rk, wds))
    (fun i x y => ∃ m s' w' a', m ≤ i ∧ pm_st q s' ∧ w' ≤ 9 ∧ (m = 0 → s' = pm_now q ∧ w' = w ∧ a' = q 41) ∧ x.1 = nI m ∧ x.2.2.1 = nI i ∧ x.2.2.2.1 = nI s' ∧ x.2.2.2.2.1 = nI w' ∧ x.2.2.2.2.2.1 = nI a' ∧ x.2.2.2.2.2.2.1 = nI w' ∧ pc_told q w' x.2.2.2.2.2.2.2.1 ∧ y.1 = nI m ∧ y.2.1 = nI i ∧ y.2.2.1 = x.2.1 ∧ pr_all y.2.2.2.1 (pm_put q s' w' a') ∧ ∀ k, 994 ≤ k → y.2.2.2.1 k = all k)
    (P := fun r1 r2 => ∃ m s' w' a', m ≤ N ∧ pm_st q s' ∧ w' ≤ 9 ∧ (m = 0 → s' = pm_now q ∧ w' = w ∧ a' = q 41) ∧ r1.2.1 = nI m ∧ r1.2.2.2.2.1 = nI s' ∧ r1.2.2.2.2.2.1 = nI w' ∧ r1.2.2.2.2.2.2.1 = nI a' ∧ r1.2.2.2.2.2.2.2.1 = nI w' ∧ pc_told q w' r1.2.2.2.2.2.2.2.2.1 ∧ r2.2.1 = nI m ∧ pr_all r2.2.2.2.2.1 (pm_put q s' w' a') ∧ ∀ k, 994 ≤ k → r2.2.2.2.2.1 k = all k)
    N (by omega) ⟨0, pm_now q, w, q 41, by omega, h0, hw9, fun _ => ⟨rfl, rfl, rfl⟩, rfl, rfl, rfl, rfl, rfl, rfl, hT, rfl, rfl, rfl, hput0, fun _ _ => rfl⟩ (by
      rintro i ⟨v4, v5, v6, v7, v8, v9, v10, a11, a12, a13⟩ ⟨u1, u2, u3, a4, a5, a6⟩ hi ⟨m, s', w', a', m1, j1, j2, j3, j4, j5, j6, j7, j8, j9, j10, l1, l2, l3, l4, l5⟩
      dsimp only at j4 j5 j6 j7 j8 j9 j10 l1 l2 l3 l4 l5 ⊢
      subst j4 j5 j6 j7 j8 j9 l1 l2 l3
      by_cases c : N ≤ i
      · have : i = N := by omega
        subst this
        refine ⟨(1, nI m, u3, nI i, nI s', nI w', nI a', nI w', a11, a12, a13), (1, nI m, nI i, u3, a4, a5, a6), ?_, ?_, Or.inr ⟨fun z => Nat.noConfusion z, fun z => Nat.noConfusion z, m, s', w', a', m1, j1, j2, j3, rfl, rfl, rfl, rfl, rfl, j10, rfl, l4, l5⟩⟩
        · unfold zb_X10_year_33
          rw [if_pos ((pn_le (by omega) (by omega)).mpr c)]
        · unfold zb_X11_year_34
          rw [if_pos ((pn_le (by omega) (by omega)).mpr c)]
      obtain ⟨dd, x2, d1, d2⟩ := pp_drawn u3
      obtain ⟨v, s2, w2, a2, x1, x2', x3, x4, ⟨y, y1, y2⟩, x6, x7⟩ := pp_step1 (n := n) (told := a11) (fa := a12) (sk := a13) (all := a4) (s := s') (a := a') (w := w') (p := dd) (pl := Int32.toInt64 dd) hn hq hK l4 j2 j1 j10 (Or.inl (Int32.toInt_toInt64 dd))
      obtain ⟨z, z1, z2⟩ := x6 a5 a6
      have hcls : ∀ r, zb_X10_year_33 (nI N) n top things tf tt mf mt bars gives rough code (nI m) u3 (nI i) (nI s') (nI w') (nI a') (nI w') a11 a12 a13 = r ↔ zd_8 (zf_X10_step n top things tf tt mf mt bars gives rough code (nI s') (nI w') (nI a') (nI w') a11 a12 a13 dd) (fun v23 v24 v25 v26 v27 a28 a29 a30 => zd_1 (if v23 = 0 then zd_1 (some (nI m + (1 : Int32))) (fun v31 => some v31) else some (nI m)) (fun v32 => zd_1 (some (nI i + (1 : Int32))) (fun v33 => some (0, v32, x2, v33, v24, v25, v26, v27, a28, a29, a30)))) = r := by
        intro r
        unfold zb_X10_year_33
        rw [if_neg (fun z => c ((pn_le (by omega) (by omega)).mp z))]
        rw [← d2 _ (fun x2 dd => zd_8 (zf_X10_step n top things tf tt mf mt bars gives rough code (nI s') (nI w') (nI a') (nI w') a11 a12 a13 dd) (fun v23 v24 v25 v26 v27 a28 a29 a30 => zd_1 (if v23 = 0 then zd_1 (some (nI m + (1 : Int32))) (fun v31 => some v31) else some (nI m)) (fun v32 => zd_1 (some (nI i + (1 : Int32))) (fun v33 => some (0, v32, x2, v33, v24, v25, v26, v27, a28, a29, a30)))))]
        exact Iff.rfl
      by_cases hv : v = 0
      · subst hv
        obtain ⟨g, g1, g2, g3⟩ := x7 rfl z.2.1 z.2.2
        refine ⟨(0, nI (m + 1), x2, nI (i + 1), y.2), (0, nI (m + 1), nI (i + 1), x2, g), ?_, ?_, Or.inl ⟨rfl, rfl, by omega, m + 1, s2, w2, a2, by omega, x2', x3, fun z => by omega, rfl, rfl, y2.2.1, y2.2.2.1, y2.2.2.2.1, y2.2.2.2.2.1, y2.2.2.2.2.2, rfl, rfl, rfl, g2, fun k hk => (g3 k hk).trans (l5 k hk)⟩⟩
        · rw [hcls, y1]
          obtain ⟨b1, b2, b3, b4, b5, b6, b7, b8⟩ := y
          obtain ⟨y2, _⟩ := y2
          dsimp only at y2
          subst y2
          rw [pu_e8, if_pos (by decide), pn_a1, pn_a1]
          rfl
        · unfold zb_X11_year_34
          rw [if_neg (fun z => c ((pn_le (by omega) (by omega)).mp z)), d1, pu_e2, z1]
          obtain ⟨b1, b2, b3⟩ := z
          dsimp only at z2 g1
          subst z2
          rw [Int32.toInt32_toInt64] at g1
          rw [pu_e3, if_pos (by decide), g1]
          obtain ⟨f1, f2, f3⟩ := g
          rw [pn_a1, pn_a1]
          rfl
      · obtain ⟨rfl, rfl, rfl, x5⟩ := x4 hv
        refine ⟨(0, nI m, x2, nI (i + 1), y.2), (0, nI m, nI (i + 1), x2, a4, z.2.1, z.2.2), ?_, ?_, Or.inl ⟨rfl, rfl, by omega, m, s2, w2, a2, by omega, x2', x3, j3, rfl, rfl, y2.2.1, y2.2.2.1, y2.2.2.2.1, y2.2.2.2.2.1, y2.2.2.2.2.2, rfl, rfl, rfl, l4, l5⟩⟩
        · rw [hcls, y1]
          obtain ⟨b1, b2, b3, b4, b5, b6, b7, b8⟩ := y
          obtain ⟨y2, _⟩ := y2
          dsimp only at y2
          subst y2
          rw [pu_e8, if_neg (fun z => hv ((pv_eq 0 (by omega) (by omega)).mp z)), pn_a1]
          rfl
        · unfold zb_X11_year_34
          rw [if_neg (fun z => c ((pn_le (by omega) (by omega)).mp z)), d1, pu_e2, z1]
          obtain ⟨b1, b2, b3⟩ := z
          dsimp only at z2
          subst z2
          rw [pu_e3, if_neg (fun z => hv ((pv_eq 0 (by omega) (by omega)).mp z)), pn_a1]
          rfl)
  obtain ⟨f1, f3, f4, f5, o1, o2, o3, o4, o5, o6, o8, o10, o11⟩ := f
  obtain ⟨t0, t1, t2, t3, t4, t5, t6, t7, t8, t9, t10⟩ := r1
  obtain ⟨b0, b1, b2, b3, b4, b5, b6⟩ := r2
  dsimp only at o1 o2 o3 o4 o5 o6 o8 o10 o11
  subst o1 o2 o3 o4 o5 o8
  obtain ⟨q', p1', p2', p3'⟩ := pp_kept (n := n) (fa := t9) (sk := t10) (known := known) (apast := apast) (rk := b5) (wds := b6) (why := b3) hn o10 hq hw hN hP f3 f4 o6 (show m < 1000 by omega) f5 k2
  refine ⟨nI m, q', p1', ?_, ?_⟩
  · have key : zf_X10_year n und top things tf tt mf mt bars gives rough code nst nwi nde tst twi tde (nI w) told fa sk known apast pst pwi pde p1 (nI N) = pc_kept n und nst nwi nde known apast pst pwi pde (nI m) (nI s') (nI w') (nI a') (nI w') t8 t9 t10 := by
      unfold zf_X10_year zf_X4_copyFrom
      rw [if_neg (show ¬ nI N < (1 : Int32) from fun z => by have := (pv_gt 1 (by omega) hN1).mp z; omega), if_pos ((pv_ge 40 (by omega) hN1).mpr (by omega)), pu_e3]
      have hnow := hN
      obtain ⟨n1, n2, n3, _⟩ := hnow
      rw [hw] at n2
      have e1' : za_it (fun v => zb_X10_year_33 (nI N) n top things tf tt mf mt bars gives rough code v.1 v.2.1 v.2.2.1 v.2.2.2.1 v.2.2.2.2.1 v.2.2.2.2.2.1 v.2.2.2.2.2.2.1 v.2.2.2.2.2.2.2.1 v.2.2.2.2.2.2.2.2.1 v.2.2.2.2.2.2.2.2.2) n ((0 : Int32), p1, (0 : Int32), nst, nwi, nde, nI w, told, fa, sk) = some (t0, nI m, t2, t3, nI s', nI w', nI a', nI w', t8, t9, t10) := by
        rw [n1, n2, n3]; exact e1
      rw [e1', pu_e11]
      rfl
    rw [key]
    exact p2'
  · have key : zf_X11_year n thrown x all rk wds was p1 (nI N) = pr_kept n (nI m) b3 b4 b5 b6 a2 := by
      unfold zf_X11_year
      rw [hwith, pn_toInt hN1, if_pos d, pu_e1, if_neg (by decide), k1, pu_e1, e2, pu_e7]
      rfl
    rw [key]
    refine pu_mono p3' ?_
    rintro r ⟨h1, h2, h3⟩
    exact ⟨h1, h2, fun k hk => (h3 k hk).trans (o11 k hk)⟩
end PYe
