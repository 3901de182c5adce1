/-! coming: the class; soonest and way on both sides -/
theorem pn_neg {p : Int32} (h : ¬ 0 ≤ p.toInt) : p < 0 := by rw [Int32.lt_iff_toInt_lt]; show p.toInt < 0; omega
theorem pn_nn {k : Nat} (hk : k < 2147483648) : ¬ nI k < (0 : Int32) := fun z => by have := (pv_gt 0 (by omega) hk).mp z; omega
theorem pp_rung {all : Nat → Int32} {q : Nat → Nat} (ha : pr_all all q) (hq : pm_cliff q) (p : Int32) : ∃ c, zf_X0_isRung (nI (q 1)) p = some c ∧ zf_X11_isRung all p = some c ∧ (c = 0 ∨ (c = 1 ∧ ∃ r, p = nI r ∧ r ≤ q 1)) := by
  have h1 := hq.1
  unfold zf_X11_isRung
  rw [pv_ld 1 (by omega) (by omega), pu_e1, ha 1 (by omega), pr_within, pu_e1, Int32.toInt_toInt64, Int32.toInt_toInt64, pn_toInt (by omega), show (0 : Int64).toInt = 0 from rfl]
  by_cases h : 0 ≤ p.toInt
  · obtain ⟨k, rfl, hk, e⟩ := pn_of h
    rw [pc_isRung (by omega) hk, pn_toInt hk]
    by_cases c : k ≤ q 1
    · rw [if_pos c, if_pos (by omega), pu_zb (Or.inr rfl), pu_e1]
      exact ⟨1, rfl, rfl, Or.inr ⟨rfl, k, rfl, c⟩⟩
    · rw [if_neg c, if_neg (by omega), pu_zb (Or.inl rfl), pu_e1]
      exact ⟨0, rfl, rfl, Or.inl rfl⟩
  · rw [if_neg (by omega), pu_zb (Or.inl rfl), pu_e1]
    refine ⟨0, ?_, rfl, Or.inl rfl⟩
    unfold zf_X0_isRung
    rw [if_pos (pn_neg h)]
theorem pb_shT : ∀ t, t < 7 → ((1 : Int32) <<< (nI t &&& 31)) = nI (2 ^ t) := by decide +kernel
theorem pp_set {all : Nat → Int32} {q : Nat → Nat} (ha : pr_all all q) (hq : pm_cliff q) (p : Int32) : ∃ c, zf_X0_isSet (nI (q 2)) p = some c ∧ zf_X11_isSet all p = some c ∧ (c = 0 ∨ (c = 1 ∧ ∃ t, p = nI t ∧ t < 2 ^ q 2)) := by
  have h2 := hq.2.1
  have hp := pm_p6 h2
  unfold zf_X11_isSet zf_X0_isSet
  by_cases h : 0 ≤ p.toInt
  · obtain ⟨k, rfl, hk, e⟩ := pn_of h
    rw [if_neg (pn_nn hk), if_neg (pn_nn hk), pv_ld 2 (by omega) (by omega), pu_e1, ha 2 (by omega), pb_shT _ (by omega)]
    by_cases c : 2 ^ q 2 ≤ k
    · rw [if_pos ((pn_le (by omega) hk).mpr c)]
      exact ⟨0, rfl, rfl, Or.inl rfl⟩
    · rw [if_neg (fun z => c ((pn_le (by omega) hk).mp z))]
      exact ⟨1, rfl, rfl, Or.inr ⟨rfl, k, rfl, by omega⟩⟩
  · rw [if_pos (pn_neg h), if_pos (pn_neg h)]
    exact ⟨0, rfl, rfl, Or.inl rfl⟩
theorem pp_thing {all : Nat → Int32} {q : Nat → Nat} (ha : pr_all all q) (hq : pm_cliff q) (p : Int32) : ∃ c, zf_X0_isThing (nI (q 2)) p = some c ∧ zf_X11_isThing all (Int32.toInt64 p) = some c ∧ (c = 0 ∨ (c = 1 ∧ ∃ t, p = nI t ∧ t < q 2)) := by
  have h2 := hq.2.1
  by_cases h : 0 ≤ p.toInt
  · obtain ⟨k, rfl, hk, e⟩ := pn_of h
    rw [pc_isThing (by omega) hk, pr_isThing ha h2 hk]
    by_cases c : k < q 2
    · rw [if_pos c]
      exact ⟨1, rfl, rfl, Or.inr ⟨rfl, k, rfl, c⟩⟩
    · rw [if_neg c]
      exact ⟨0, rfl, rfl, Or.inl rfl⟩
  · refine ⟨0, ?_, ?_, Or.inl rfl⟩
    · unfold zf_X0_isThing
      rw [if_pos (pn_neg h)]
    · unfold zf_X11_isThing
      rw [pv_ld 2 (by omega) (by omega), pu_e1, pr_within, pu_e1, Int32.toInt_toInt64, if_neg (by show ¬ ((0 : Int) ≤ _ ∧ _); omega), pu_zb (Or.inl rfl), pu_e1]
theorem pp_coming {all : Nat → Int32} {q : Nat → Nat} (ha : pr_all all q) (hq : pm_cliff q) (p1 p2 : Int32) : ∃ c, zf_X10_comingRefused (nI (q 1)) (nI (q 2)) p1 p2 = some c ∧ zf_X11_noComing all p1 p2 = some c ∧ (¬ c = 0 ∨ (c = 0 ∧ ∃ r t, p1 = nI r ∧ r ≤ q 1 ∧ p2 = nI t ∧ t < 2 ^ q 2)) := by
  obtain ⟨c1, a1, a2, a3⟩ := pp_rung ha hq p1
  obtain ⟨c2, b1, b2, b3⟩ := pp_set ha hq p2
  unfold zf_X10_comingRefused zf_X11_noComing
  rw [a1, a2, pu_e1, pu_e1, b1, b2]
  rcases a3 with rfl | ⟨rfl, r, r1, r2⟩
  · rw [if_pos rfl]
    exact ⟨_, rfl, rfl, Or.inl (by decide)⟩
  · rw [if_neg (by decide), pu_e1]
    rcases b3 with rfl | ⟨rfl, t, t1, t2⟩
    · rw [if_pos rfl]
      exact ⟨_, rfl, rfl, Or.inl (by decide)⟩
    · rw [if_neg (by decide)]
      exact ⟨_, rfl, rfl, Or.inr ⟨rfl, r, t, r1, r2, t1, t2⟩⟩
theorem pb_sub : ∀ t, t < 64 → ∀ h, h < 64 → ((nI t &&& (nI h ^^^ (-1 : Int32))) = 0 ↔ h &&& t = t) := by decide +kernel
section PW
variable {n : Nat} {q : Nat → Nat} {w s0 : Nat} {top things tf tt mf mt : Int32} {bars gives rough code told fa sk : Nat → Int32}
theorem pc_X_at {size : Int32} {order depth from1 : Nat → Int32} (hX : pc_X q w s0 size order depth from1) : size = nI (pm_F (pm_tg q w) s0).length ∧ (∀ i, i < (pm_F (pm_tg q w) s0).length → order i = nI ((pm_F (pm_tg q w) s0).getD i 0) ∧ depth ((pm_F (pm_tg q w) s0).getD i 0) = nI (pm_de (pm_tg q w) s0 i) ∧ (1 ≤ i → from1 ((pm_F (pm_tg q w) s0).getD i 0) = nI ((pm_F (pm_tg q w) s0).getD (pm_co (pm_tg q w) s0 i / 15) 0))) := ⟨hX.1, hX.2.1⟩
theorem pc_goal {size : Int32} {order depth from1 : Nat → Int32} {r t : Nat} (hn : 10000 ≤ n) (hq : pm_cliff q) (h0 : pm_st q s0) (hX : pc_X q w s0 size order depth from1) (hr : r < 100) (ht : t < 64) :
    pu_ok (zf_X1_goal n size order (nI r) (nI t)) (fun v => (∃ j, pm_fst (pm_F (pm_tg q w) s0) (pm_G r t) j ∧ v = nI ((pm_F (pm_tg q w) s0).getD j 0)) ∨ (v = (-1 : Int32) ∧ ∀ j, j < (pm_F (pm_tg q w) s0).length → ¬ pm_G r t ((pm_F (pm_tg q w) s0).getD j 0))) := by
  have hl := pm_L_len (w := w) hq h0
  obtain ⟨rfl, hO⟩ := pc_X_at hX
  unfold zf_X1_goal
  refine pu_d2.mpr (pu_up (fun i v => v = nI i ∧ ∀ j, j < i → ¬ pm_G r t ((pm_F (pm_tg q w) s0).getD j 0)) (pm_F (pm_tg q w) s0).length (by omega) ⟨rfl, fun j h => absurd h (by omega)⟩ ?_)
  rintro i v hi ⟨e1, e2⟩
  subst e1
  unfold zb_X1_goal_2
  by_cases hc : (pm_F (pm_tg q w) s0).length ≤ i
  · rw [if_pos ((pn_le (by omega) (by omega)).mpr hc)]
    refine pu_out (by decide) ?_
    dsimp only
    rw [if_neg (by decide), if_pos rfl]
    exact pu_some.mpr (Or.inr ⟨rfl, fun j h => e2 j (by omega)⟩)
  · have hst := pm_L_st (w := w) hq h0 (i := i) (by omega)
    have hlt := pm_st_lt hq hst
    have hrg : pm_rg ((pm_F (pm_tg q w) s0).getD i 0) < 9 := by unfold pm_rg; omega
    rw [if_neg (fun z => hc ((pn_le (by omega) (by omega)).mp z)), pu_ld (by omega) (by omega), pu_e1, (hO i (by omega)).1, pc_rungOf hlt, pu_e1]
    have hnx : ∀ (hg : ¬ pm_G r t ((pm_F (pm_tg q w) s0).getD i 0)), ∀ j, j < i + 1 → ¬ pm_G r t ((pm_F (pm_tg q w) s0).getD j 0) := by
      intro hg j hj
      by_cases d : j = i
      · subst d; exact hg
      · exact e2 j (by omega)
    by_cases c1 : pm_rg ((pm_F (pm_tg q w) s0).getD i 0) = r
    · rw [if_pos (by rw [c1]), pu_e1, pc_thingsOf hlt, pu_e1]
      by_cases c2 : pm_hs ((pm_F (pm_tg q w) s0).getD i 0) &&& t = t
      · rw [if_pos ((pb_sub _ ht _ (pm_hs_lt _)).mpr c2)]
        refine pu_out (by decide) ?_
        dsimp only
        rw [if_pos rfl, pu_ld (by omega) (by omega), pu_e1, (hO i (by omega)).1]
        exact pu_some.mpr (Or.inl ⟨i, ⟨by omega, ⟨c1, c2⟩, e2⟩, rfl⟩)
      · rw [if_neg (fun z => c2 ((pb_sub _ ht _ (pm_hs_lt _)).mp z)), pn_a1, pu_e1]
        exact pu_go ⟨by omega, rfl, hnx (fun z => c2 z.2)⟩
    · rw [if_neg (fun z => c1 ((pn_eq (by omega) (by omega)).mp z)), pn_a1, pu_e1]
      exact pu_go ⟨by omega, rfl, hnx (fun z => c1 z.1)⟩
theorem pc_deedOnTheWay {size found : Int32} {deeds ends order depth from1 : Nat → Int32} {j i : Nat} (hn : 10000 ≤ n) (hq : pm_cliff q) (hK : pc_K q top things tf tt mf mt bars gives rough code) (hT : pc_told q w told) (hw : w ≤ 9) (h0 : pm_st q s0) (hX : pc_X q w s0 size order depth from1) (hj : j < (pm_F (pm_tg q w) s0).length) (hi : i < 2147483648) :
    pu_ok (zf_X1_deedOnTheWay n found top things tf tt mf mt bars gives rough code (nI w) told fa sk deeds ends depth from1 (nI ((pm_F (pm_tg q w) s0).getD j 0)) (nI i)) (fun r => r.1 = pm_way q w s0 j i ∧ pc_told q w r.2.2.1) := by
  have hl := pm_L_len (w := w) hq h0
  obtain ⟨hsz, hO⟩ := pc_X_at hX
  have hst := pm_L_st (w := w) hq h0 hj
  have hlt := pm_st_lt hq hst
  have hdl := pm_de_le (tg := pm_tg q w) (s0 := s0) j hj
  unfold zf_X1_deedOnTheWay pm_way
  rw [if_neg (fun z => (pn_ne1 (by omega)).mp z), pu_ld hlt (by omega), pu_e1, (hO j hj).2.1]
  by_cases hc : i < pm_de (pm_tg q w) s0 j
  rotate_left
  · rw [if_neg (fun z => hc ((pn_lt (by omega) (by omega)).mp z)), if_neg hc]
    exact pu_some.mpr ⟨rfl, hT⟩
  rw [if_pos ((pn_lt (by omega) (by omega)).mpr hc), if_pos hc, pu_e1, pv_sub 1 (by omega), pu_e1]
  refine pu_d3.mpr (pu_up (fun k v => v.1 = nI ((pm_F (pm_tg q w) s0).getD (pm_anc q w s0 j k) 0) ∧ v.2 = nI (pm_de (pm_tg q w) s0 j - 1 - k)) (pm_de (pm_tg q w) s0 j - 1 - i) (by omega) ⟨rfl, rfl⟩ ?_)
  rintro k ⟨v4, v5⟩ hk ⟨e1, e2⟩
  dsimp only at e1 e2 ⊢
  subst e1 e2
  obtain ⟨x1, x2⟩ := pm_anc_de (q := q) (w := w) (s0 := s0) hj k (by omega)
  have hp := pm_anc_pos (q := q) (w := w) (s0 := s0) (t := k) hj (by omega)
  have hst1 := pm_L_st (w := w) hq h0 x1
  have hlt1 := pm_st_lt hq hst1
  have hfrom := (hO _ x1).2.2 hp
  unfold zb_X1_deedOnTheWay_29
  by_cases hc2 : k = pm_de (pm_tg q w) s0 j - 1 - i
  rotate_left
  · rw [if_neg (fun z => by have := (pn_le (by omega) (by omega)).mp z; omega), pu_ld hlt1 (by omega), pu_e1, hfrom, pn_p1, pv_sub 1 (by omega), pu_e1]
    refine pu_go ⟨by omega, rfl, ?_⟩
    dsimp only
    congr 1
  rw [if_pos ((pn_le (by omega) (by omega)).mpr (by omega))]
  refine pu_out (by decide) ?_
  dsimp only
  rw [pu_ld hlt1 (by omega), pu_e1, hfrom]
  have hanc : pm_co (pm_tg q w) s0 (pm_anc q w s0 j k) / 15 = pm_anc q w s0 j (k + 1) := rfl
  rw [hanc]
  obtain ⟨y1, y2⟩ := pm_anc_de (q := q) (w := w) (s0 := s0) hj (k + 1) (by omega)
  have hst2 := pm_L_st (w := w) hq h0 y1
  obtain ⟨w1, w2, w3⟩ := pm_wd1_at (q := q) (w := w) (s0 := s0) (t := k) hj (by omega)
  unfold zf_X1_firstDeed
  refine pu_d7.mpr ?_
  refine pu_d7.mpr (pu_mono (pc_gather (by omega) hq hK hT hst2 hw) ?_)
  rintro ⟨v1, v2, a3, a4, a5, a6, a7⟩ ⟨g1, g2, g3, g4⟩
  dsimp only at g1 g2 g3 g4 ⊢
  subst g1
  have hl9 := pm_l9 (q := q) (w := w) (s := (pm_F (pm_tg q w) s0).getD (pm_anc q w s0 j (k + 1)) 0)
  refine pu_d2.mpr (pu_gl (q := q) (w := w) (s := (pm_F (pm_tg q w) s0).getD (pm_anc q w s0 j (k + 1)) 0) (fun i m v => v = nI i ∧ m ≤ pm_wd1 q w s0 j k) (by omega) ⟨rfl, by omega⟩ ?_ ?_ ?_)
  · rintro i m v hm hcm ⟨h1, h2⟩
    refine ⟨h1, ?_⟩
    have : ¬ m = pm_wd1 q w s0 j k := by intro z; rw [z] at hcm; exact hcm w2
    omega
  · rintro v ⟨h1, h2⟩; omega
  · rintro i m v hk2 hm hcm hg ⟨h1, h2⟩
    subst h1
    have hac := pm_st_lt hq (pm_acst hq hst2 hm hcm)
    unfold zb_X1_firstDeed_12
    rw [if_neg (fun z => by have := (pn_le (by omega) (by omega)).mp z; omega), pu_ld (by omega) (by omega), pu_e1, (g4 i hk2).2, hg]
    by_cases d : pm_ac q w ((pm_F (pm_tg q w) s0).getD (pm_anc q w s0 j (k + 1)) 0) m = (pm_F (pm_tg q w) s0).getD (pm_anc q w s0 j k) 0
    · have := pm_wd1_cls (q := q) (w := w) (s0 := s0) hq h0 hj (show k < pm_de (pm_tg q w) s0 j by omega) hm hcm d
      rw [if_pos (by rw [d])]
      refine pu_out (by decide) ?_
      dsimp only
      rw [if_pos rfl, pu_ld (by omega) (by omega), pu_e1, (g4 i hk2).1, hg]
      refine pu_some.mpr (pu_some.mpr ⟨?_, g3⟩)
      dsimp only
      rw [← hc2, show m = pm_wd1 q w s0 j k from by omega]
    · rw [if_neg (fun z => d ((pn_eq (by omega) (by omega)).mp z)), pn_a1, pu_e1]
      refine pu_go ⟨rfl, ?_⟩
      have : ¬ m = pm_wd1 q w s0 j k := by intro z; rw [z] at d; exact d w3
      omega
theorem pp_soonest {all rk wds stand th far known1 : Nat → Int32} {thrown many size known found : Int32} {deeds ends order depth from1 : Nat → Int32} {p1 p2 : Int32} (hn : 10000000000000 ≤ n) (ha : pr_all all q) (hq : pm_cliff q) (hw : q 40 = w) (hw9 : w ≤ 9) (hs : pm_now q = s0) (h0 : pm_st q s0) (hK : pc_K q top things tf tt mf mt bars gives rough code) (hT : pc_told q w told) (hC : pc_com q w s0 size known order depth from1) :
    ∃ v, pu_ok (zf_X10_soonest n top things tf tt mf mt bars gives rough code (nI s0) (nI w) told fa sk found deeds ends size known order depth from1 p1 p2) (fun r => r.1 = v ∧ pc_told q w r.2.1 ∧ pc_com q w s0 r.2.2.2.2.2.2.2.1 r.2.2.2.2.2.2.2.2.1 r.2.2.2.2.2.2.2.2.2.1 r.2.2.2.2.2.2.2.2.2.2.1 r.2.2.2.2.2.2.2.2.2.2.2) ∧ pu_ok (zf_X11_soonest n thrown many all rk wds stand th far known1 p1 p2) (fun r => r.1 = v) := by
  have hl := pm_L_len (w := w) hq h0
  obtain ⟨c, c1, c2, c3⟩ := pp_coming ha hq p1 p2
  have hp := pm_p6 hq.2.1
  have hq1 := hq.1
  unfold zf_X10_soonest zf_X11_soonest
  rw [c2, pu_e1, hK.1, hK.2.1, c1, pu_e1, ← hK.1, ← hK.2.1]
  rcases c3 with c3 | ⟨rfl, r, t, rfl, hr, rfl, ht⟩
  · rw [if_neg c3, if_neg c3]
    exact ⟨c, pu_some.mpr ⟨rfl, hT, hC⟩, pu_some.mpr rfl⟩
  rw [if_pos rfl, if_pos rfl]
  obtain ⟨x, hx, fr, f1, f2, f3, f4⟩ := pr_laysFar (stand := stand) (th := th) (far := far) (known := known1) (many := many) (rk := rk) (wds := wds) (r := r) (set := t) hn ha hq hw hw9 hs h0 (by omega) (by omega)
  obtain ⟨x1, x2, x3, x4, x5, x6, x7, x8⟩ := x
  dsimp only at f2 f3 f4
  subst f2
  rw [hx]
  obtain ⟨y, hy, hX, hy1, hy2⟩   := pc_explore (n := n) (found := found) (fa := fa) (sk := sk) (deeds := deeds) (ends := ends) (by omega) hq hK hT hw9 h0 hC
  obtain ⟨y1, y2, y3, y4, y5, y6, y7, y8, y9, y10, y11⟩ := y
  dsimp only at hX hy1 hy2
  rw [hy]
  have hC' : pc_com q w s0 y1 y2 y9 y10 y11 := Or.inr ⟨hy1, hX⟩
  rw [pu_e8, pu_e11]
  obtain ⟨g, hg, hg2⟩ := pc_goal (n := n) (by omega) hq h0 hX (show r < 100 by omega) (show t < 64 by omega)
  rw [hg, pu_e1]
  unfold zf_X1_deedsTo
  rcases hg2 with ⟨j, hj, rfl⟩ | ⟨rfl, hno⟩
  · have e := pm_far_de hq h0 f1 hj.1 hj.2.1 hj.2.2
    have hd := pm_de_le (tg := pm_tg q w) (s0 := s0) j hj.1
    have hj1 := hj.1
    have hlt := pm_st_lt hq (pm_L_st (w := w) hq h0 hj.1)
    refine ⟨nI (pm_de (pm_tg q w) s0 j), ?_, ?_⟩
    · rw [if_neg (fun z => (pn_ne1 (by omega)).mp z), pu_ld hlt (by omega), pu_e1, ((pc_X_at hX).2 j hj.1).2.1, pu_e1]
      exact pu_some.mpr ⟨rfl, hy2, hC'⟩
    · rw [e, if_neg (fun z => by have := (pv_eq 268435456 (b := pm_de (pm_tg q w) s0 j) (by omega) (by omega)).mp z; omega)]
      exact pu_some.mpr rfl
  · refine ⟨(-1 : Int32), ?_, ?_⟩
    · rw [if_pos rfl, pu_e1]
      exact pu_some.mpr ⟨rfl, hy2, hC'⟩
    · rw [pm_far_none hq h0 f1 hno, if_pos (show nI 268435456 = (268435456 : Int32) from rfl)]
      exact pu_some.mpr rfl
theorem pp_way {all rk wds stand th far known1 : Nat → Int32} {thrown many size known found : Int32} {deeds ends order depth from1 : Nat → Int32} {p1 p2 p3 : Int32} (hn : 10000000000000 ≤ n) (ha : pr_all all q) (hq : pm_cliff q) (hw : q 40 = w) (hw9 : w ≤ 9) (hs : pm_now q = s0) (h0 : pm_st q s0) (hK : pc_K q top things tf tt mf mt bars gives rough code) (hT : pc_told q w told) (hC : pc_com q w s0 size known order depth from1) :
    ∃ v, pu_ok (zf_X10_way n top things tf tt mf mt bars gives rough code (nI s0) (nI w) told fa sk found deeds ends size known order depth from1 p1 p2 p3) (fun r => r.1 = v ∧ pc_told q w r.2.1 ∧ pc_com q w s0 r.2.2.2.2.2.2.2.1 r.2.2.2.2.2.2.2.2.1 r.2.2.2.2.2.2.2.2.2.1 r.2.2.2.2.2.2.2.2.2.2.1 r.2.2.2.2.2.2.2.2.2.2.2) ∧ pu_ok (zf_X11_way n thrown many all rk wds stand th far known1 p1 p2 p3) (fun r => r.1 = v) := by
  have hl := pm_L_len (w := w) hq h0
  obtain ⟨c, c1, c2, c3⟩ := pp_coming ha hq p1 p2
  have hp := pm_p6 hq.2.1
  have hq1 := hq.1
  unfold zf_X10_way zf_X11_way
  rw [c2, pu_e1, hK.1, hK.2.1, c1, pu_e1, ← hK.1, ← hK.2.1]
  rcases c3 with c3 | ⟨rfl, r, t, rfl, hr, rfl, ht⟩
  · rw [if_neg c3, if_neg c3]
    exact ⟨c, pu_some.mpr ⟨rfl, hT, hC⟩, pu_some.mpr rfl⟩
  rw [if_pos rfl, if_pos rfl]
  by_cases h3 : 0 ≤ p3.toInt
  rotate_left
  · have : ¬ 0 ≤ p3 := by rw [Int32.le_iff_toInt_le]; exact h3
    rw [if_neg this, if_neg this]
    exact ⟨_, pu_some.mpr ⟨rfl, hT, hC⟩, pu_some.mpr rfl⟩
  obtain ⟨i, rfl, hi, _⟩ := pn_of h3
  have : (0 : Int32) ≤ nI i := (pv_le 0 (by omega) hi).mpr (by omega)
  rw [if_pos this, if_pos this]
  obtain ⟨x, hx, fr, f1, f2, f3, f4⟩ := pr_laysFar (stand := stand) (th := th) (far := far) (known := known1) (many := many) (rk := rk) (wds := wds) (r := r) (set := t) hn ha hq hw hw9 hs h0 (by omega) (by omega)
  obtain ⟨x1, x2, x3, x4, x5, x6, x7, x8⟩ := x
  dsimp only at f2 f3 f4
  rw [hx]
  obtain ⟨y, hy, hX, hy1, hy2⟩   := pc_explore (n := n) (found := found) (fa := fa) (sk := sk) (deeds := deeds) (ends := ends) (by omega) hq hK hT hw9 h0 hC
  obtain ⟨y1, y2, y3, y4, y5, y6, y7, y8, y9, y10, y11⟩ := y
  dsimp only at hX hy1 hy2
  rw [hy]
  have hC' : pc_com q w s0 y1 y2 y9 y10 y11 := Or.inr ⟨hy1, hX⟩
  rw [pu_e8, pu_e11]
  obtain ⟨g, hg, hg2⟩ := pc_goal (n := n) (by omega) hq h0 hX (show r < 100 by omega) (show t < 64 by omega)
  rw [hg, pu_e1]
  rcases hg2 with ⟨j, hj, rfl⟩ | ⟨rfl, hno⟩
  · refine ⟨pm_way q w s0 j i, ?_, ?_⟩
    · refine pu_d7.mpr (pu_mono (pc_deedOnTheWay (by omega) hq hK hy2 hw9 h0 hX hj.1 hi) ?_)
      rintro ⟨r1, r2, r3, r4, r5, r6, r7⟩ ⟨z1, z2⟩
      exact pu_some.mpr ⟨z1, z2, hC'⟩
    · rw [pr_deedAt (by omega) ha hq hs h0 f1 f3 f4 hj hi, pu_e1]
      exact pu_some.mpr rfl
  · refine ⟨(-1 : Int32), ?_, ?_⟩
    · unfold zf_X1_deedOnTheWay
      rw [if_pos rfl, pu_e7]
      exact pu_some.mpr ⟨rfl, hy2, hC'⟩
    · rw [pr_deedAt0 (by omega) ha hq hs h0 f1 f3 hno, pu_e1]
      exact pu_some.mpr rfl
end PW
