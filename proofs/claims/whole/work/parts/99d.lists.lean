/-! lists -/
def pc_lsb (t : Nat) (v17 : Int32) (n : Nat) (top things tf tt mf mt : Int32) (bars gives rough code : Nat → Int32) (ww : Int32) (a13 a14 : Nat → Int32) (v15 : Int32) (tsort : Nat → Int32) (a18 : Nat → Nat → Int64) (v19 v20 : Int32) (a21 a22 a23 a24 a25 : Nat → Int32) : Option (Nat × (Nat → Nat → Int64) × Int32 × Int32 × (Nat → Int32) × (Nat → Int32) × (Nat → Int32) × (Nat → Int32) × (Nat → Int32)) :=
  if v17 ≤ v19 then some (1, a18, v19, v20, a21, a22, a23, a24, a25) else
    zd_7 (zf_X1_deedOnTheWay n v20 top things tf tt mf mt bars gives rough code ww a21 a22 a23 a24 a25 a13 a14 v15 v19) (fun v26 v27 a28 a29 a30 a31 a32 =>
    zd_2 (zf_X9_put (tsort t) (a18 t) v19 (Int32.toInt64 v26)) (fun v33 a34 =>
    zd_1 (some (v19 + (1 : Int32))) (fun v35 =>
    some (0, (va_up a18 t a34), v35, v27, a28, a29, a30, a31, a32))))
def pc_lsg (t : Nat) (n : Nat) (top things tf tt mf mt : Int32) (bars gives rough code : Nat → Int32) (nst ww : Int32) (told fa sk : Nat → Int32) (found : Int32) (deeds ends : Nat → Int32) (gs gk : Int32) (order depth from1 missing tsize tsort : Nat → Int32) (trn : Nat → Nat → Int64) (p2 p3 : Int32) : Option (Int32 × (Nat → Int32) × (Nat → Int32) × (Nat → Int32) × Int32 × (Nat → Int32) × (Nat → Int32) × Int32 × Int32 × (Nat → Int32) × (Nat → Int32) × (Nat → Int32) × (Nat → Nat → Int64)) :=
  if (missing t) = 0 then
    zd_1 (zf_X0_isSet things p3) (fun v3 =>
    if v3 = 0 then some ((-3 : Int32), told, fa, sk, found, deeds, ends, gs, gk, order, depth, from1, trn)
    else
      zd_11 (zf_X1_explore n gs gk found top things tf tt mf mt bars gives rough code ww told fa sk deeds ends order depth from1 nst) (fun v4 v5 v6 a7 a8 a9 a10 a11 a12 a13 a14 =>
      zd_1 (zf_X1_goal n v4 a12 p2 p3) (fun v15 =>
      if v15 = (-1 : Int32) then some ((-5 : Int32), a7, a8, a9, v6, a10, a11, v4, v5, a12, a13, a14, trn)
      else
        zd_1 (zf_X1_deedsTo a13 v15) (fun v16 =>
        zd_1 (some ((if (tsize t) < v16 then (tsize t) else v16))) (fun v17 =>
        zd_9 (za_it (fun v => pc_lsb t v17 n top things tf tt mf mt bars gives rough code ww a13 a14 v15 tsort v.1 v.2.1 v.2.2.1 v.2.2.2.1 v.2.2.2.2.1 v.2.2.2.2.2.1 v.2.2.2.2.2.2.1 v.2.2.2.2.2.2.2) n (trn, (0 : Int32), v6, a7, a8, a9, a10, a11)) (fun g44 a36 v37 v38 a39 a40 a41 a42 a43 =>
        some (v17, a39, a40, a41, v38, a42, a43, v4, v5, a12, a13, a14, a36)))))))
  else some ((-6 : Int32), told, fa, sk, found, deeds, ends, gs, gk, order, depth, from1, trn)
section PLi
variable {n : Nat} {q : Nat → Nat} {w s0 : Nat} {top things tf tt mf mt : Int32} {bars gives rough code told fa sk : Nat → Int32}
theorem pp_lists {all rk wds stand th far known1 missing tsize tsort rs rm : Nat → Int32} {trn : Nat → Nat → Int64} {num : Nat → Int64} {thrown many size known found : Int32} {deeds ends order depth from1 : Nat → Int32} {p1 p2 p3 : Int32} (hn : 10000000000000 ≤ n) (ha : pr_all all q) (hq : pm_cliff q) (hw : q 40 = w) (hw9 : w ≤ 9) (hs : pm_now q = s0) (h0 : pm_st q s0) (hK : pc_K q top things tf tt mf mt bars gives rough code) (hT : pc_told q w told) (hC : pc_com q w s0 size known order depth from1) (htr : pp_tr missing tsize tsort trn rs rm num) :
    ∃ v, pu_ok (zf_X10_lists n top things tf tt mf mt bars gives rough code (nI s0) (nI w) told fa sk found deeds ends size known order depth from1 missing tsize tsort trn p1 p2 p3) (fun r => r.1 = v ∧ pc_told q w r.2.1 ∧ pc_com q w s0 r.2.2.2.2.2.2.2.1 r.2.2.2.2.2.2.2.2.1 r.2.2.2.2.2.2.2.2.2.1 r.2.2.2.2.2.2.2.2.2.2.1 r.2.2.2.2.2.2.2.2.2.2.2.1 ∧ pu_ok (zf_X11_lists n thrown many all rk wds stand th far known1 rs rm num p1 p2 p3) (fun y => y.1 = v ∧ pp_tr missing tsize tsort r.2.2.2.2.2.2.2.2.2.2.2.2 rs rm y.2.2.2.2.2.2.2.2.2)) := by
  have hl := pm_L_len (w := w) hq h0
  have hp := pm_p6 hq.2.1
  have hq1 := hq.1
  have hwi : zf_X11_within (Int32.toInt64 p1) (0 : Int64) (3 : Int64) = some (if 0 ≤ p1.toInt ∧ p1.toInt ≤ 3 then 1 else 0) := by
    rw [pr_within, Int32.toInt_toInt64, show (0 : Int64).toInt = 0 from rfl, show (3 : Int64).toInt = 3 from rfl]
  by_cases d1 : 0 ≤ p1.toInt ∧ p1.toInt ≤ 3
  rotate_left
  · refine ⟨(-2 : Int32), ?_⟩
    have : zf_X10_isTray p1 = some 0 := by
      unfold zf_X10_isTray
      by_cases e : p1 < 0
      · rw [if_pos e]
      · rw [if_neg e, if_pos]
        rw [Int32.lt_iff_toInt_lt] at e
        rw [Int32.le_iff_toInt_le]
        have e' : ¬ p1.toInt < 0 := e
        show (4 : Int) ≤ p1.toInt
        omega
    unfold zf_X10_lists
    rw [this, pu_e1, if_pos rfl]
    refine pu_some.mpr ⟨rfl, hT, hC, ?_⟩
    unfold zf_X11_lists
    rw [hwi, pu_e1, if_neg d1, if_pos rfl]
    exact pu_some.mpr ⟨rfl, htr⟩
  obtain ⟨t, rfl, ht1, et⟩ := pn_of d1.1
  have ht : t < 4 := by omega
  have hit : zf_X10_isTray (nI t) = some 1 := by
    unfold zf_X10_isTray
    rw [if_neg (pn_nn ht1), if_neg (fun z => by have := (pv_le 4 (b := t) (by omega) (by omega)).mp z; omega)]
  obtain ⟨c, c1, c2, c3⟩ := pp_rung ha hq p2
  rw [← hK.1] at c1
  have hkey : zf_X10_lists n top things tf tt mf mt bars gives rough code (nI s0) (nI w) told fa sk found deeds ends size known order depth from1 missing tsize tsort trn (nI t) p2 p3 = if c = 0 then some ((-2 : Int32), told, fa, sk, found, deeds, ends, size, known, order, depth, from1, trn) else pc_lsg t n top things tf tt mf mt bars gives rough code (nI s0) (nI w) told fa sk found deeds ends size known order depth from1 missing tsize tsort trn p2 p3 := by
    unfold zf_X10_lists
    rw [hit, pu_e1, if_neg (show ¬ (1 : Int32) = 0 by decide), c1, pu_e1]
    rcases pp_4 ht with rfl | rfl | rfl | rfl
    · rw [if_pos (show nI 0 = (0 : Int32) by decide)]; rfl
    · rw [if_neg (show ¬ nI 1 = (0 : Int32) by decide), if_pos (show nI 1 = (1 : Int32) by decide)]; rfl
    · rw [if_neg (show ¬ nI 2 = (0 : Int32) by decide), if_neg (show ¬ nI 2 = (1 : Int32) by decide), if_pos (show nI 2 = (2 : Int32) by decide)]; rfl
    · rw [if_neg (show ¬ nI 3 = (0 : Int32) by decide), if_neg (show ¬ nI 3 = (1 : Int32) by decide), if_neg (show ¬ nI 3 = (2 : Int32) by decide), if_pos (show nI 3 = (3 : Int32) by decide)]; rfl
  rw [hkey]
  unfold zf_X11_lists
  rw [hwi, pu_e1, if_pos d1, if_neg (show ¬ (1 : Int32) = 0 by decide), c2, pu_e1]
  rcases c3 with rfl | ⟨rfl, r, rfl, hr⟩
  · refine ⟨(-2 : Int32), ?_⟩
    rw [if_pos rfl]
    refine pu_some.mpr ⟨rfl, hT, hC, ?_⟩
    rw [if_pos rfl]
    exact pu_some.mpr ⟨rfl, htr⟩
  rw [if_neg (show ¬ (1 : Int32) = 0 by decide), if_neg (show ¬ (1 : Int32) = 0 by decide)]
  obtain ⟨b, b1, b2, b3⟩ := pp_tray htr (nI t)
  rw [pc_trayRef ht] at b1
  rw [b2, pu_e1]
  unfold pc_lsg
  by_cases hmi : missing t = 0
  rotate_left
  · rw [if_neg hmi] at b1
    refine ⟨(-6 : Int32), ?_⟩
    rw [if_neg hmi]
    refine pu_some.mpr ⟨rfl, hT, hC, ?_⟩
    cases b1
    rw [if_neg (show ¬ (-6 : Int32) = 0 by decide)]
    exact pu_some.mpr ⟨rfl, htr⟩
  rw [if_pos hmi] at b1
  cases b1
  obtain ⟨hh, sz, s1, s2, s3, s4⟩ := htr t ht
  rw [if_pos hmi, if_pos (show (0 : Int32) = 0 from rfl)]
  obtain ⟨e, e1, e2, e3⟩ := pp_set ha hq p3
  rw [← hK.2.1] at e1
  rw [e1, e2, pu_e1, pu_e1]
  rcases e3 with rfl | ⟨rfl, ts, rfl, hts⟩
  · refine ⟨(-3 : Int32), ?_⟩
    rw [if_pos rfl]
    refine pu_some.mpr ⟨rfl, hT, hC, ?_⟩
    rw [if_pos rfl]
    exact pu_some.mpr ⟨rfl, htr⟩
  rw [if_neg (show ¬ (1 : Int32) = 0 by decide), if_neg (show ¬ (1 : Int32) = 0 by decide)]
  obtain ⟨x, hx, fr, f1, f2, f3, f4⟩ := pr_laysFar (stand := stand) (th := th) (far := far) (known := known1) (many := many) (rk := rk) (wds := wds) (r := r) (set := ts) hn ha hq hw hw9 hs h0 (by omega) (by omega)
  obtain ⟨x1, x2, x3, x4, x5, x6, x7, x8⟩ := x
  dsimp only at f2 f3 f4
  subst f2
  rw [hx]
  obtain ⟨y, hy, hX, hy1, hy2⟩   := pc_explore (n := n) (found := found) (fa := fa) (sk := sk) (deeds := deeds) (ends := ends) (by omega) hq hK hT hw9 h0 hC
  obtain ⟨y1, y2, y3, y4, y5, y6, y7, y8, y9, y10, y11⟩ := y
  dsimp only at hX hy1 hy2
  rw [hy]
  have hC' : pc_com q w s0 y1 y2 y9 y10 y11 := Or.inr ⟨hy1, hX⟩
  rw [pu_e8, pu_e11]
  obtain ⟨g, hg, hg2⟩ := pc_goal (n := n) (by omega) hq h0 hX (show r < 100 by omega) (show ts < 64 by omega)
  rw [hg, pu_e1]
  rcases hg2 with ⟨j, hj, rfl⟩ | ⟨rfl, hno⟩
  rotate_left
  · refine ⟨(-5 : Int32), ?_⟩
    rw [if_pos rfl]
    refine pu_some.mpr ⟨rfl, hy2, hC', ?_⟩
    rw [pm_far_none hq h0 f1 hno, if_pos (show nI 268435456 = (268435456 : Int32) from rfl)]
    exact pu_some.mpr ⟨rfl, htr⟩
  have efr := pm_far_de hq h0 f1 hj.1 hj.2.1 hj.2.2
  have hd := pm_de_le (tg := pm_tg q w) (s0 := s0) j hj.1
  have hj1 := hj.1
  have hlt := pm_st_lt hq (pm_L_st (w := w) hq h0 hj.1)
  rw [if_neg (fun z => (pn_ne1 (by omega)).mp z)]
  unfold zf_X1_deedsTo
  rw [if_neg (fun z => (pn_ne1 (by omega)).mp z), pu_ld hlt (by omega), pu_e1, ((pc_X_at hX).2 j hj.1).2.1, pu_e1, pu_e1, efr, if_neg (show ¬ nI (pm_de (pm_tg q w) s0 j) = (268435456 : Int32) from fun z => by have := (pv_eq 268435456 (b := pm_de (pm_tg q w) s0 j) (by omega) (by omega)).mp z; omega), pu_ld ht (by omega), pu_e1, s3, s2]
  have hM1 : (if nI sz < nI (pm_de (pm_tg q w) s0 j) then nI sz else nI (pm_de (pm_tg q w) s0 j)) = nI (min sz (pm_de (pm_tg q w) s0 j)) := by
    by_cases z : sz < pm_de (pm_tg q w) s0 j
    · rw [if_pos ((pn_lt (by omega) (by omega)).mpr z), Nat.min_eq_left (by omega)]
    · rw [if_neg (fun y => z ((pn_lt (by omega) (by omega)).mp y)), Nat.min_eq_right (by omega)]
  have hM2 : (if nI sz ≤ nI (pm_de (pm_tg q w) s0 j) then zd_1 (some (nI sz)) (fun v14 => some v14) else some (nI (pm_de (pm_tg q w) s0 j))) = some (nI (min sz (pm_de (pm_tg q w) s0 j))) := by
    by_cases z : sz ≤ pm_de (pm_tg q w) s0 j
    · rw [if_pos ((pn_le (by omega) (by omega)).mpr z), Nat.min_eq_left (by omega)]; rfl
    · rw [if_neg (fun y => z ((pn_le (by omega) (by omega)).mp y)), Nat.min_eq_right (by omega)]
  rw [hM1, hM2, pu_e1]
  generalize hMd : min sz (pm_de (pm_tg q w) s0 j) = M
  have hM : M ≤ sz ∧ M ≤ pm_de (pm_tg q w) s0 j := by omega
  refine ⟨nI M, ?_⟩
  rcases hh with ⟨h1, _⟩ | ⟨_, so, hso, r1, r2⟩
  · rw [hmi] at h1; exact absurd h1 (by decide)
  have hway : ∀ i, i < M → ∃ dd, dd < 30 ∧ pm_way q w s0 j i = nI dd := by
    intro i hi
    unfold pm_way
    rw [if_pos (by omega)]
    exact ⟨_, pm_dd_lt (pm_wd1_at (q := q) (w := w) (s0 := s0) (t := pm_de (pm_tg q w) s0 j - 1 - i) hj.1 (by omega)).1, rfl⟩
  refine pu_d9.mpr (pu_up (fun i v => (∃ b, v.1 = va_up trn t b ∧ ∀ k, b k = if k < i then Int32.toInt64 (pm_way q w s0 j k) else trn t k) ∧ v.2.1 = nI i ∧ pc_told q w v.2.2.2.1) M (by omega) ⟨⟨trn t, ?_, fun k => by rw [if_neg (by omega)]⟩, rfl, hy2⟩ ?_)
  · funext u
    by_cases z : u = t
    · subst z; rw [pu_upe]
    · rw [pu_upn z]
  rintro i ⟨a18, v19, v20, a21, a22, a23, a24, a25⟩ hi ⟨⟨b, g1, g2⟩, g3, g4⟩
  dsimp only at g1 g3 g4 ⊢
  subst g1 g3
  unfold pc_lsb
  by_cases hc : M ≤ i
  · have : i = M := by omega
    subst this
    rw [if_pos ((pn_le (by omega) (by omega)).mpr hc)]
    refine pu_out (by decide) (pu_some.mpr ⟨rfl, g4, hC', ?_⟩)
    dsimp only
    refine pu_d3.mpr (pu_up (fun i v => v.1 = nI i ∧ ∀ k, v.2 k = if 40 * t ≤ k ∧ k < 40 * t + i then Int32.toInt64 (pm_way q w s0 j (k - 40 * t)) else num k) i (by omega) ⟨rfl, fun k => by rw [if_neg (by omega)]⟩ ?_)
    rintro k ⟨v16, a17⟩ hk ⟨k1, k2⟩
    dsimp only at k1 k2 ⊢
    subst k1
    unfold zb_X11_lists_100
    by_cases hc2 : i ≤ k
    · have : k = i := by omega
      subst this
      rw [if_pos ((pn_le (by omega) (by omega)).mpr hc2)]
      refine pu_out (by decide) (pu_some.mpr ⟨rfl, ?_⟩)
      dsimp only
      refine pp_tr_put htr (fun l hl => by rw [k2, if_neg (by omega)]) ?_
      intro sz' hs1 hs2 l hl
      have : sz' = sz := by rw [s3] at hs2; exact ((pn_eq (by omega) (by omega)).mp hs2).symm
      subst this
      rw [g2, k2]
      by_cases z : l < k
      · rw [if_pos z, if_pos (by omega), show 40 * t + l - 40 * t = l from by omega]
      · rw [if_neg z, if_neg (by omega), s4 l hl]
    · rw [if_neg (fun z => hc2 ((pn_le (by omega) (by omega)).mp z)), pr_deedAt (by omega) ha hq hs h0 f1 f3 f4 hj (by omega), pu_e1, pv_mul 40, pn_add, pu_st (by omega) (by omega), pu_e1, pn_a1, pu_e1]
      refine pu_go ⟨by omega, rfl, ?_⟩
      intro l
      dsimp only
      by_cases z : l = 40 * t + k
      · subst z; rw [pu_upe, if_pos (by omega), show 40 * t + k - 40 * t = k from by omega]
      · rw [pu_upn z, k2]
        by_cases z2 : 40 * t ≤ l ∧ l < 40 * t + k
        · rw [if_pos z2, if_pos (by omega)]
        · rw [if_neg z2, if_neg (by omega)]
  · rw [if_neg (fun z => hc ((pn_le (by omega) (by omega)).mp z))]
    refine pu_d7.mpr (pu_mono (pc_deedOnTheWay (by omega) hq hK g4 hw9 h0 hX hj.1 (show i < 2147483648 by omega)) ?_)
    rintro ⟨v26, v27, a28, a29, a30, a31, a32⟩ ⟨z1, z2⟩
    dsimp only at z1 z2 ⊢
    subst z1
    obtain ⟨dd, hdd, hwd⟩ := hway i (by omega)
    obtain ⟨yy, yy1, yy2⟩ := pc_put (a := b) (so := so) (k := i) (x := Int32.toInt64 (pm_way q w s0 j i)) hso (by omega)
    rw [hwd, pb_cut so hso dd hdd] at yy1
    cases yy1
    rw [r2, pu_upe, yy2, pu_e2, pn_a1, pu_e1]
    refine pu_go ⟨by omega, ⟨va_up b i (Int32.toInt64 (nI dd)), ?_, ?_⟩, rfl, z2⟩
    · dsimp only
      funext u
      by_cases z : u = t
      · subst z; rw [pu_upe, pu_upe]
      · rw [pu_upn z, pu_upn z, pu_upn z]
    · intro k
      by_cases z : k = i
      · subst z; rw [pu_upe, if_pos (by omega), hwd]
      · rw [pu_upn z, g2]
        by_cases z2 : k < i
        · rw [if_pos z2, if_pos (by omega)]
        · rw [if_neg z2, if_neg (by omega)]
end PLi
