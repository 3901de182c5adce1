/-! why, by, hole, lands, count, fault -/
theorem pb_rl : ∀ v, v < 30 → za_reml (nL v) (10 : Int64) = Int32.toInt64 (nI (v % 10)) ∧ Int64.toInt32 (nL v) = nI v ∧ za_rem (nI v) (10 : Int32) = nI (v % 10) := by decide +kernel
theorem pl_ofI {p : Int64} {v : Nat} (h : p.toInt = (v : Int)) (hv : v < 9223372036854775808) : p = nL v := by
  apply Int64.toInt_inj.mp
  rw [h, pl_toInt hv]
theorem pm_wy_lt (q : Nat → Nat) (w s m : Nat) : pm_wy q w s m < 5 := by unfold pm_wy; repeat (first | omega | split)
theorem pr_moveOf {all : Nat → Int32} {q : Nat → Nat} (ha : pr_all all q) (hq : pm_cliff q) (p : Int64) : ∃ c, zf_X11_moveOf all p = some c ∧ ((c = (-1 : Int32) ∧ ∀ m, pm_mv q m → ¬ p.toInt = (pm_dd m : Int)) ∨ ∃ m, pm_mv q m ∧ c = nI m ∧ p.toInt = (pm_dd m : Int)) := by
  have h2 := hq.2.1
  have hdd : ∀ m, pm_mv q m → (m < 3 ∧ pm_dd m = m) ∨ (3 ≤ m ∧ m < 9 ∧ m - 3 < q 2 ∧ pm_dd m = m + 7) ∨ (9 ≤ m ∧ m < 15 ∧ m - 9 < q 2 ∧ pm_dd m = m + 11) := by
    intro m hm
    unfold pm_dd
    rcases hm with h | ⟨h, h'⟩
    · left; rw [if_pos h]; exact ⟨h, rfl⟩
    · by_cases c : m < 3
      · left; rw [if_pos c]; exact ⟨c, rfl⟩
      · by_cases d : m < 9
        · right; left; rw [if_neg c, if_pos d]; exact ⟨by omega, d, by omega, rfl⟩
        · right; right; rw [if_neg c, if_neg d]; exact ⟨by omega, h, by omega, rfl⟩
  unfold zf_X11_moveOf
  rw [pr_within, pr_within, pu_e1, show (0 : Int64).toInt = 0 from rfl, show (2 : Int64).toInt = 2 from rfl, show (10 : Int64).toInt = 10 from rfl, show (29 : Int64).toInt = 29 from rfl]
  by_cases c1 : 0 ≤ p.toInt ∧ p.toInt ≤ 2
  · obtain ⟨v, hv⟩ : ∃ v : Nat, p.toInt = (v : Int) := ⟨p.toInt.toNat, by omega⟩
    rw [if_pos c1, if_neg (by decide)]
    have hv3 : v < 3 := by omega
    rw [pl_ofI hv (by omega), (pb_rl v (by omega)).2.1]
    refine ⟨nI v, rfl, Or.inr ⟨v, Or.inl hv3, rfl, ?_⟩⟩
    rw [pl_toInt (by omega)]
    unfold pm_dd
    rw [if_pos hv3]
  rw [if_neg c1, if_pos rfl, pu_e1]
  by_cases c2 : 10 ≤ p.toInt ∧ p.toInt ≤ 29
  rotate_left
  · rw [if_neg c2, if_pos rfl]
    refine ⟨_, rfl, Or.inl ⟨rfl, ?_⟩⟩
    intro m hm z
    rcases hdd m hm with ⟨h1, h3⟩ | ⟨h1, h3, h4, h5⟩ | ⟨h1, h3, h4, h5⟩ <;> omega
  obtain ⟨v, hv⟩ : ∃ v : Nat, p.toInt = (v : Int) := ⟨p.toInt.toNat, by omega⟩
  have hv30 : v < 30 := by omega
  obtain ⟨r1, r2, r3⟩ := pb_rl v hv30
  rw [if_pos c2, if_neg (by decide), pl_ofI hv (by omega), r1, pr_isThing ha h2 (by omega), pu_e1]
  by_cases c3 : v % 10 < q 2
  rotate_left
  · rw [if_neg c3, if_pos (by decide)]
    refine ⟨_, rfl, Or.inl ⟨rfl, ?_⟩⟩
    intro m hm z
    rw [pl_toInt (by omega)] at z
    rcases hdd m hm with ⟨h1, h3⟩ | ⟨h1, h3, h4, h5⟩ | ⟨h1, h3, h4, h5⟩ <;> omega
  rw [if_pos c3, if_neg (by decide), r2, r3]
  by_cases c4 : 20 ≤ v
  · rw [if_pos (by rw [lg_ge, pl_toInt (by omega), show (20 : Int64).toInt = 20 from rfl]; omega), pu_e1, pv_add 9]
    refine ⟨_, rfl, Or.inr ⟨9 + v % 10, Or.inr ⟨by omega, by omega⟩, rfl, ?_⟩⟩
    rw [pl_toInt (by omega)]
    unfold pm_dd
    rw [if_neg (by omega), if_neg (by omega)]; omega
  · rw [if_neg (by rw [lg_ge, pl_toInt (by omega), show (20 : Int64).toInt = 20 from rfl]; omega), pu_e1, pv_add 3]
    refine ⟨_, rfl, Or.inr ⟨3 + v % 10, Or.inr ⟨by omega, by omega⟩, rfl, ?_⟩⟩
    rw [pl_toInt (by omega)]
    unfold pm_dd
    rw [if_neg (by omega), if_pos (by omega)]; omega
theorem pm_dd_lt {m : Nat} (h : m < 15) : pm_dd m < 30 := by unfold pm_dd; split <;> (try split) <;> omega
section PWy
variable {n : Nat} {q : Nat → Nat} {w s0 : Nat} {top things tf tt mf mt : Int32} {bars gives rough code told fa sk : Nat → Int32}
/-- why a deed can't be, on both sides: a deed of the class as an int, of the reference as a long -/
theorem pp_whyP {all rk wds : Nat → Int32} {p : Int32} {pl : Int64} (hn : 1000 ≤ n) (ha : pr_all all q) (hq : pm_cliff q) (hw : q 40 = w) (hw9 : w ≤ 9) (hs : pm_now q = s0) (h0 : pm_st q s0) (hK : pc_K q top things tf tt mf mt bars gives rough code) (hT : pc_told q w told) (hpl : pl.toInt = p.toInt ∨ (p.toInt < 0 ∨ 30 ≤ p.toInt) ∧ (pl.toInt < 0 ∨ 30 ≤ pl.toInt)) :
    ∃ v, v < 5 ∧ pu_ok (zf_X3_refusal n top things tf tt mf mt bars gives rough code (nI w) told fa sk (nI s0) p) (fun r => r.1 = nI v ∧ pc_told q w r.2.1) ∧ pu_ok (zf_X11_whyAct n all rk wds pl) (fun r => r.1 = nI v) ∧ (v = 0 → ∃ m, pm_mv q m ∧ m < 15 ∧ pm_wy q w s0 m = 0 ∧ p = nI (pm_dd m) ∧ zf_X11_moveOf all pl = some (nI m)) := by
  obtain ⟨c, c1, c2⟩ := pr_moveOf ha hq pl
  rcases c2 with ⟨rfl, c3⟩ | ⟨m, hm, rfl, c3⟩
  · refine ⟨1, by omega, ?_, ?_, fun h => absurd h (by omega)⟩
    · rw [pc_norefusal hq hK h0 (fun m hm z => ?_)]
      · exact pu_some.mpr ⟨rfl, hT⟩
      · have hm15 := pm_dd_lt (pm_mv_lt hm)
        have h1 : p.toInt = (pm_dd m : Int) := by rw [z, pn_toInt (by omega)]
        rcases hpl with h | ⟨h, _⟩
        · exact c3 m hm (by rw [h, h1])
        · omega
    · unfold zf_X11_whyAct
      rw [c1, pu_e1, if_pos rfl]
      exact pu_some.mpr rfl
  · have hm15 := pm_mv_lt hm
    have hd30 := pm_dd_lt hm15
    have hpe : p = nI (pm_dd m) := by
      apply Int32.toInt_inj.mp
      rw [pn_toInt (by omega)]
      rcases hpl with h | ⟨_, h⟩
      · rw [← h, c3]
      · omega
    refine ⟨pm_wy q w s0 m, pm_wy_lt q w s0 m, ?_, ?_, fun h => ⟨m, hm, hm15, h, hpe, c1⟩⟩
    · rw [hpe]
      exact pc_refusal hn hq hK hT h0 hm hw9
    · unfold zf_X11_whyAct
      rw [c1, pu_e1, if_neg (fun z => (pn_ne1 (by omega)).mp z), pr_standNow ha, hs, pu_e1, pv_ld 40 (by omega) (by omega), pu_e1, ha 40 (by omega), hw]
      refine pu_d3.mpr (pu_mono (pr_whyBy hn ha hq h0 hm15 hw9) ?_)
      rintro ⟨r1, r2, r3⟩ e
      exact pu_some.mpr e
theorem pp_why {all rk wds : Nat → Int32} {thrown p1 : Int32} (hn : 1000 ≤ n) (ha : pr_all all q) (hq : pm_cliff q) (hw : q 40 = w) (hw9 : w ≤ 9) (hs : pm_now q = s0) (h0 : pm_st q s0) (hK : pc_K q top things tf tt mf mt bars gives rough code) (hT : pc_told q w told) :
    ∃ v, pu_ok (zf_X10_why n top things tf tt mf mt bars gives rough code (nI s0) (nI w) told fa sk p1) (fun r => r.1 = v ∧ pc_told q w r.2.1) ∧ pu_ok (zf_X11_why n thrown all rk wds p1) (fun r => r.1 = v) := by
  obtain ⟨v, _, h1, h2, _⟩ := pp_whyP (n := n) (fa := fa) (sk := sk) (rk := rk) (wds := wds) (p := p1) (pl := Int32.toInt64 p1) hn ha hq hw hw9 hs h0 hK hT (Or.inl (Int32.toInt_toInt64 p1))
  refine ⟨nI v, ?_, ?_⟩
  · unfold zf_X10_why
    refine pu_d4.mpr (pu_mono h1 ?_)
    rintro ⟨r1, r2, r3, r4⟩ e
    exact pu_some.mpr e
  · unfold zf_X11_why
    refine pu_d3.mpr (pu_mono h2 ?_)
    rintro ⟨r1, r2, r3⟩ e
    exact pu_some.mpr e
theorem pp_by {all rk wds : Nat → Int32} {thrown p1 p2 : Int32} (hn : 1000 ≤ n) (ha : pr_all all q) (hq : pm_cliff q) (hw : q 40 = w) (hw9 : w ≤ 9) (hs : pm_now q = s0) (h0 : pm_st q s0) (hK : pc_K q top things tf tt mf mt bars gives rough code) (hT : pc_told q w told) :
    ∃ v, pu_ok (zf_X10_by n top things tf tt mf mt bars gives rough code (nI s0) (nI w) told fa sk p1 p2) (fun r => r.1 = v ∧ pc_told q w r.2.1) ∧ pu_ok (zf_X11_by n thrown all rk wds p1 p2) (fun r => r.1 = v) := by
  obtain ⟨v, hv5, h1, h2, h3⟩ := pp_whyP (n := n) (fa := fa) (sk := sk) (rk := rk) (wds := wds) (p := p1) (pl := Int32.toInt64 p1) hn ha hq hw hw9 hs h0 hK hT (Or.inl (Int32.toInt_toInt64 p1))
  unfold zf_X10_by zf_X11_by
  rw [pr_within, pu_e1, Int32.toInt_toInt64, show (0 : Int64).toInt = 0 from rfl, show (2 : Int64).toInt = 2 from rfl]
  by_cases d1 : 0 ≤ p2.toInt
  rotate_left
  · refine ⟨(-2 : Int32), ?_, ?_⟩
    · rw [if_pos (pn_neg d1)]; exact pu_some.mpr ⟨rfl, hT⟩
    · rw [if_neg (show ¬ (0 ≤ p2.toInt ∧ p2.toInt ≤ 2) by omega), if_pos rfl]; exact pu_some.mpr rfl
  obtain ⟨k, rfl, hk, e⟩ := pn_of d1
  rw [if_neg (pn_nn hk), pn_toInt hk]
  by_cases d2 : k ≤ 2
  rotate_left
  · refine ⟨(-2 : Int32), ?_, ?_⟩
    · rw [if_neg (fun z => d2 ((pv_ge 2 (by omega) hk).mp z))]; exact pu_some.mpr ⟨rfl, hT⟩
    · rw [if_neg (show ¬ (0 ≤ (k : Int) ∧ (k : Int) ≤ 2) by omega), if_pos rfl]; exact pu_some.mpr rfl
  rw [if_pos ((pv_ge 2 (by omega) hk).mpr d2), if_pos (show 0 ≤ (k : Int) ∧ (k : Int) ≤ 2 by omega), if_neg (show ¬ (1 : Int32) = 0 by decide)]
  unfold zf_X3_after
  by_cases hv0 : v = 0
  rotate_left
  · have hne : ¬ nI v = (0 : Int32) := fun z => hv0 ((pv_eq 0 (by omega) (by omega)).mp z)
    refine ⟨(-5 : Int32), ?_, ?_⟩
    · refine pu_d4.mpr (pu_d4.mpr (pu_mono h1 ?_))
      rintro ⟨r1, r2, r3, r4⟩ ⟨g1, g2⟩
      dsimp only at g1 g2 ⊢
      rw [g1, if_neg hne]
      refine pu_some.mpr ?_
      dsimp only
      rw [if_pos rfl]
      exact pu_some.mpr ⟨rfl, g2⟩
    · refine pu_d3.mpr (pu_mono h2 ?_)
      rintro ⟨r1, r2, r3⟩ g1
      dsimp only at g1 ⊢
      rw [g1, if_neg hne]
      exact pu_some.mpr rfl
  subst hv0
  obtain ⟨m, hm, hm15, hc, rfl, hmo⟩ := h3 rfl
  have hac := pm_st_lt hq (pm_acst hq h0 hm15 hc)
  refine ⟨if k = 0 then nI (pm_rg (pm_ac q w s0 m)) else if k = 1 then nI (pm_hs (pm_ac q w s0 m)) else nI (pm_sg (pm_ac q w s0 m)), ?_, ?_⟩
  · refine pu_d4.mpr (pu_d4.mpr (pu_mono h1 ?_))
    rintro ⟨r1, r2, r3, r4⟩ ⟨g1, g2⟩
    dsimp only at g1 g2 ⊢
    rw [g1, if_pos (by decide)]
    refine pu_d4.mpr (pu_mono (pc_behind hn hq hK g2 h0 hm15 hw9 hc) ?_)
    rintro ⟨u1, u2, u3, u4⟩ ⟨g3, g4⟩
    dsimp only at g3 g4 ⊢
    subst g3
    refine pu_some.mpr ?_
    dsimp only
    rw [if_neg (fun z => (pn_ne1 (by omega)).mp z)]
    by_cases k0 : k = 0
    · rw [if_pos (by rw [k0]; rfl), if_pos k0, pc_rungOf hac, pu_e1]; exact pu_some.mpr ⟨rfl, g4⟩
    · rw [if_neg (fun z => k0 ((pv_eq 0 (by omega) hk).mp z)), if_neg k0]
      by_cases k1 : k = 1
      · rw [if_pos (by rw [k1]; rfl), if_pos k1, pc_thingsOf hac, pu_e1]; exact pu_some.mpr ⟨rfl, g4⟩
      · rw [if_neg (fun z => k1 ((pv_eq 1 (by omega) hk).mp z)), if_neg k1, pc_strengthOf hac, pu_e1]; exact pu_some.mpr ⟨rfl, g4⟩
  · refine pu_d3.mpr (pu_mono h2 ?_)
    rintro ⟨r1, r2, r3⟩ g1
    dsimp only at g1 ⊢
    rw [g1, if_pos (by decide), pr_standNow ha, hs, pu_e1, hmo, pu_e1, pv_ld 40 (by omega) (by omega), pu_e1, ha 40 (by omega), hw]
    refine pu_d3.mpr (pu_mono (pr_actedTo hn ha hq h0 hm15 hw9 hc) ?_)
    rintro ⟨u1, u2, u3⟩ g3
    dsimp only at g3 ⊢
    subst g3
    by_cases k0 : k = 0
    · rw [if_pos (by rw [k0]; rfl), if_pos k0, pr_rungIn hac, pu_e1]; exact pu_some.mpr rfl
    · rw [if_neg (fun z => k0 ((pv_eq 0 (by omega) hk).mp z)), if_neg k0]
      by_cases k1 : k = 1
      · rw [if_pos (by rw [k1]; rfl), if_pos k1, pr_hasIn hac, pu_e1]; exact pu_some.mpr rfl
      · rw [if_neg (fun z => k1 ((pv_eq 1 (by omega) hk).mp z)), if_neg k1, pn_rem5 hac]; exact pu_some.mpr rfl
theorem pp_hole {all : Nat → Int32} {thrown p1 p2 : Int32} (ha : pr_all all q) (hq : pm_cliff q) (hK : pc_K q top things tf tt mf mt bars gives rough code) :
    ∃ v, zf_X10_hole top bars gives rough p1 p2 = some v ∧ pu_ok (zf_X11_hole thrown all p1 p2) (fun r => r.1 = v) := by
  have hq1 := hq.1
  obtain ⟨c, c1, c2, c3⟩ := pp_rung ha hq p1
  unfold zf_X10_hole zf_X11_hole
  rw [c2, pu_e1, hK.1, c1, pu_e1]
  rcases c3 with rfl | ⟨rfl, r, rfl, hr⟩
  · refine ⟨(-2 : Int32), ?_, ?_⟩
    · rw [if_pos rfl]
    · rw [if_pos rfl]; exact pu_some.mpr rfl
  rw [if_neg (show ¬ (1 : Int32) = 0 by decide), if_neg (show ¬ (1 : Int32) = 0 by decide)]
  obtain ⟨k1, k2, k3⟩ := hK.2.2.1 r (by omega)
  by_cases e0 : p2 = (0 : Int32)
  · refine ⟨nI (q (10 + r)), ?_, ?_⟩
    · rw [if_pos e0, pu_ld (by omega) (by omega), pu_e1, k1]
    · rw [if_pos e0, pv_add 10, pu_ld (by omega) (by omega), pu_e1, ha _ (by omega)]; exact pu_some.mpr rfl
  by_cases e1 : p2 = (1 : Int32)
  · refine ⟨nI (q (19 + r)), ?_, ?_⟩
    · rw [if_neg e0, if_pos e1, pu_ld (by omega) (by omega), pu_e1, k2]
    · rw [if_neg e0, if_pos e1, pv_add 19, pu_ld (by omega) (by omega), pu_e1, ha _ (by omega)]; exact pu_some.mpr rfl
  by_cases e2 : p2 = (2 : Int32)
  · refine ⟨nI (q (28 + r)), ?_, ?_⟩
    · rw [if_neg e0, if_neg e1, if_pos e2, pu_ld (by omega) (by omega), pu_e1, k3]
    · rw [if_neg e0, if_neg e1, if_pos e2, pv_add 28, pu_ld (by omega) (by omega), pu_e1, ha _ (by omega)]; exact pu_some.mpr rfl
  · refine ⟨(-2 : Int32), ?_, ?_⟩
    · rw [if_neg e0, if_neg e1, if_neg e2]
    · rw [if_neg e0, if_neg e1, if_neg e2]; exact pu_some.mpr rfl
/-- where a thing can lie -/
def pm_ho (q : Nat → Nat) (r k : Nat) : Bool := !((q (10 + r) ||| q (19 + r)).testBit k)
theorem pp_holds {all : Nat → Int32} {r k : Nat} (ha : pr_all all q) (hq : pm_cliff q) (hK : pc_K q top things tf tt mf mt bars gives rough code) (hr : r < 9) (hk : k < 6) : zf_X0_holds bars gives (nI r) (nI k) = some (if pm_ho q r k = true then (1 : Int32) else 0) ∧ zf_X11_isLanding all (nI r) (nI k) = some (if pm_ho q r k = true then (1 : Int32) else 0) := by
  obtain ⟨k1, k2, k3⟩ := hK.2.2.1 r hr
  have hp := pm_p6 hq.2.1
  obtain ⟨h1, h2, _⟩ := hq.2.2.2.1 r hr
  have hx : q (10 + r) ||| q (19 + r) < 64 := Nat.or_lt_two_pow (n := 6) (by omega) (by omega)
  unfold zf_X0_holds zf_X11_isLanding pm_ho
  rw [pu_ld hr (by omega), pu_e1, pu_ld hr (by omega), pu_e1, k1, k2, pn_or, show (1 : Int32) = nI 1 from rfl, pb_bit _ hx _ (by omega), pv_add 10, pu_ld (by omega) (by omega), pu_e1, pv_add 19, pu_ld (by omega) (by omega), pu_e1, ha _ (by omega), ha _ (by omega), pn_or, pb_isIn _ hx _ (by omega), pu_e1]
  cases hb : (q (10 + r) ||| q (19 + r)).testBit k <;> constructor <;> rfl
theorem pp_lands {all : Nat → Int32} {thrown p1 p2 : Int32} (hn : 100 ≤ n) (ha : pr_all all q) (hq : pm_cliff q) (hK : pc_K q top things tf tt mf mt bars gives rough code) :
    ∃ v, zf_X10_lands n top things bars gives p1 p2 = some v ∧ pu_ok (zf_X11_lands n thrown all p1 p2) (fun r => r.1 = v) := by
  have hq1 := hq.1
  have hq2 := hq.2.1
  obtain ⟨c, c1, c2, c3⟩ := pp_rung ha hq p1
  obtain ⟨d, d1, d2, d3⟩ := pp_thing ha hq p2
  unfold zf_X10_lands zf_X11_lands
  rw [c2, hK.1, c1, hK.2.1, d1, d2]
  simp only [pu_e1]
  rcases c3 with rfl | ⟨rfl, r, rfl, hr⟩
  · refine ⟨(-2 : Int32), ?_, ?_⟩
    · rw [if_pos rfl]
    · rw [if_pos rfl]; exact pu_some.mpr rfl
  rw [if_neg (show ¬ (1 : Int32) = 0 by decide), if_neg (show ¬ (1 : Int32) = 0 by decide)]
  rcases d3 with rfl | ⟨rfl, k, rfl, hk⟩
  · refine ⟨(-2 : Int32), ?_, ?_⟩
    · rw [if_pos rfl]
    · rw [if_pos rfl]; exact pu_some.mpr rfl
  rw [if_neg (show ¬ (1 : Int32) = 0 by decide), if_neg (show ¬ (1 : Int32) = 0 by decide)]
  have hres : (∃ x, x < r ∧ pm_ho q x k = true ∧ ∀ y, x < y → y < r → pm_ho q y k = false) ∨ ∀ y, y < r → pm_ho q y k = false := by
    clear c1 c2
    induction r with
    | zero => right; intro y hy; omega
    | succ r ih =>
      cases hb : pm_ho q r k
      · rcases ih (by omega) with ⟨x, x1, x2, x3⟩ | h
        · refine Or.inl ⟨x, by omega, x2, ?_⟩
          intro y hy1 hy2
          by_cases f : y = r
          · subst f; exact hb
          · exact x3 y hy1 (by omega)
        · right
          intro y hy
          by_cases f : y = r
          · subst f; exact hb
          · exact h y (by omega)
      · exact Or.inl ⟨r, by omega, hb, fun y h1 h2 => by omega⟩
  obtain ⟨v, hv⟩ : ∃ v : Int32, (∃ x, x < r ∧ pm_ho q x k = true ∧ (∀ y, x < y → y < r → pm_ho q y k = false) ∧ v = nI x) ∨ ((∀ y, y < r → pm_ho q y k = false) ∧ v = (-1 : Int32)) := by
    rcases hres with ⟨x, x1, x2, x3⟩ | h
    · exact ⟨nI x, Or.inl ⟨x, x1, x2, x3, rfl⟩⟩
    · exact ⟨_, Or.inr ⟨h, rfl⟩⟩
  refine ⟨v, ?_, ?_⟩
  · apply pu_ex
    refine pu_d2.mpr (pu_up (fun i x => x = nI (r - i) - (1 : Int32) ∧ ∀ y, r - i ≤ y → y < r → pm_ho q y k = false) r (by omega) ⟨(by rw [Nat.sub_zero]), fun y h1 h2 => by omega⟩ ?_)
    rintro i x hi ⟨rfl, e2⟩
    unfold zb_X10_lands_29
    by_cases hc : i = r
    · have hz : r - i = 0 := by omega
      rw [hz] at e2 ⊢
      rw [if_pos (by decide)]
      refine pu_out (by decide) ?_
      dsimp only
      rw [if_pos (by decide)]
      refine pu_some.mpr ?_
      rcases hv with ⟨x, x1, x2, _, _⟩ | ⟨_, h⟩
      · rw [e2 x (by omega) x1] at x2; cases x2
      · exact h.symm
    obtain ⟨m, hm⟩ : ∃ m, r - i = m + 1 := ⟨r - i - 1, by omega⟩
    rw [hm] at e2 ⊢
    rw [pn_s1, if_neg (pn_nn (by omega)), (pp_holds ha hq hK (by omega) (by omega)).1, pu_e1]
    cases hb : pm_ho q m k
    · rw [if_neg (show ¬ false = true by decide), if_pos rfl, pn_p1, pu_e1]
      refine pu_go ⟨by omega, by rw [show r - (i + 1) = m from by omega], ?_⟩
      intro y hy1 hy2
      by_cases f : y = m
      · subst f; exact hb
      · exact e2 y (by omega) hy2
    · rw [if_pos rfl, if_neg (by decide)]
      refine pu_out (by decide) ?_
      dsimp only
      rw [if_neg (pn_nn (by omega))]
      refine pu_some.mpr ?_
      rcases hv with ⟨x, x1, x2, x3, x4⟩ | ⟨h, _⟩
      · rw [x4]
        congr 1
        rcases Nat.lt_trichotomy x m with z | z | z
        · rw [x3 m z (by omega)] at hb; cases hb
        · exact z.symm
        · rw [e2 x (by omega) x1] at x2; cases x2
      · rw [h m (by omega)] at hb; cases hb
  · refine pu_d2.mpr (pu_up (fun i x => x = nI (r - i) - (1 : Int32) ∧ ∀ y, r - i ≤ y → y < r → pm_ho q y k = false) r (by omega) ⟨(by rw [Nat.sub_zero]), fun y h1 h2 => by omega⟩ ?_)
    rintro i x hi ⟨rfl, e2⟩
    unfold zb_X11_lands_29
    by_cases hc : i = r
    · have hz : r - i = 0 := by omega
      rw [hz] at e2 ⊢
      rw [if_pos (by decide)]
      refine pu_out (by decide) ?_
      dsimp only
      rw [if_neg (by decide), if_pos rfl]
      refine pu_some.mpr ?_
      rcases hv with ⟨x, x1, x2, _, _⟩ | ⟨_, h⟩
      · rw [e2 x (by omega) x1] at x2; cases x2
      · exact h.symm
    obtain ⟨m, hm⟩ : ∃ m, r - i = m + 1 := ⟨r - i - 1, by omega⟩
    rw [hm] at e2 ⊢
    rw [pn_s1, if_neg (pn_nn (by omega)), (pp_holds ha hq hK (by omega) (by omega)).2, pu_e1]
    cases hb : pm_ho q m k
    · rw [if_neg (show ¬ false = true by decide), if_pos rfl, pn_p1, pu_e1]
      refine pu_go ⟨by omega, by rw [show r - (i + 1) = m from by omega], ?_⟩
      intro y hy1 hy2
      by_cases f : y = m
      · subst f; exact hb
      · exact e2 y (by omega) hy2
    · rw [if_pos rfl, if_neg (by decide)]
      refine pu_out (by decide) ?_
      dsimp only
      rw [if_pos rfl]
      refine pu_some.mpr ?_
      rcases hv with ⟨x, x1, x2, x3, x4⟩ | ⟨h, _⟩
      · rw [x4]
        show nI m = nI x
        congr 1
        rcases Nat.lt_trichotomy x m with z | z | z
        · rw [x3 m z (by omega)] at hb; cases hb
        · exact z.symm
        · rw [e2 x (by omega) x1] at x2; cases x2
      · rw [h m (by omega)] at hb; cases hb
theorem pp_count {all : Nat → Int32} {thrown taped undoable lines stand wind dn p1 : Int32} (ha : pr_all all q) (hq : pm_cliff q) (hK : pc_K q top things tf tt mf mt bars gives rough code) (hs : pm_now q = s0) (h0 : pm_st q s0) (hsd : q 38 < 64 ∧ q 39 < 5) (hst : stand = nI s0) (hwi : wind = nI (q 40)) (hdn : dn = nI (q 41)) (hun : undoable = nI (q 42)) (hli : lines = nI (q 0)) :
    ∃ v, zf_X10_count taped undoable top things lines stand wind dn p1 = some v ∧ pu_ok (zf_X11_count thrown taped all p1) (fun r => r.1 = v) := by
  have hlt := pm_st_lt hq h0
  have e37 : pm_rg s0 = q 37 := by rw [← hs]; exact pm_rg_sd hsd.1 hsd.2
  have e38 : pm_hs s0 = q 38 := by rw [← hs]; exact pm_hs_sd hsd.1 hsd.2
  have e39 : pm_sg s0 = q 39 := by rw [← hs]; exact pm_sg_sd hsd.2
  subst hst hwi hdn hun hli
  unfold zf_X10_count zf_X11_count
  rw [hK.1, hK.2.1, pc_rungOf hlt, pc_thingsOf hlt, pc_strengthOf hlt, pu_e1, pu_e1, pu_e1, pv_ld 1 (by omega) (by omega), pv_ld 2 (by omega) (by omega), pv_ld 37 (by omega) (by omega), pv_ld 38 (by omega) (by omega), pv_ld 39 (by omega) (by omega), pv_ld 40 (by omega) (by omega), pv_ld 41 (by omega) (by omega), pv_ld 42 (by omega) (by omega), pv_ld 0 (by omega) (by omega), ha 1 (by omega), ha 2 (by omega), ha 37 (by omega), ha 38 (by omega), ha 39 (by omega), ha 40 (by omega), ha 41 (by omega), ha 42 (by omega), ha 0 (by omega), e37, e38, e39]
  by_cases d0 : p1 = (0 : Int32)
  · exact ⟨_, by rw [if_pos d0], by rw [if_pos d0]; exact pu_some.mpr rfl⟩
  by_cases d1 : p1 = (1 : Int32)
  · exact ⟨_, by rw [if_neg d0, if_pos d1], by rw [if_neg d0, if_pos d1]; exact pu_some.mpr rfl⟩
  by_cases d2 : p1 = (2 : Int32)
  · exact ⟨_, by rw [if_neg d0, if_neg d1, if_pos d2], by rw [if_neg d0, if_neg d1, if_pos d2]; exact pu_some.mpr rfl⟩
  by_cases d3 : p1 = (3 : Int32)
  · exact ⟨_, by rw [if_neg d0, if_neg d1, if_neg d2, if_pos d3], by rw [if_neg d0, if_neg d1, if_neg d2, if_pos d3]; exact pu_some.mpr rfl⟩
  by_cases d4 : p1 = (4 : Int32)
  · exact ⟨_, by rw [if_neg d0, if_neg d1, if_neg d2, if_neg d3, if_pos d4], by rw [if_neg d0, if_neg d1, if_neg d2, if_neg d3, if_pos d4]; exact pu_some.mpr rfl⟩
  by_cases d5 : p1 = (5 : Int32)
  · exact ⟨_, by rw [if_neg d0, if_neg d1, if_neg d2, if_neg d3, if_neg d4, if_pos d5], by rw [if_neg d0, if_neg d1, if_neg d2, if_neg d3, if_neg d4, if_pos d5]; exact pu_some.mpr rfl⟩
  by_cases d6 : p1 = (6 : Int32)
  · exact ⟨_, by rw [if_neg d0, if_neg d1, if_neg d2, if_neg d3, if_neg d4, if_neg d5, if_pos d6], by rw [if_neg d0, if_neg d1, if_neg d2, if_neg d3, if_neg d4, if_neg d5, if_pos d6]; exact pu_some.mpr rfl⟩
  by_cases d7 : p1 = (7 : Int32)
  · exact ⟨_, by rw [if_neg d0, if_neg d1, if_neg d2, if_neg d3, if_neg d4, if_neg d5, if_neg d6, if_pos d7], by rw [if_neg d0, if_neg d1, if_neg d2, if_neg d3, if_neg d4, if_neg d5, if_neg d6, if_pos d7]; exact pu_some.mpr rfl⟩
  by_cases d8 : p1 = (8 : Int32)
  · exact ⟨_, by rw [if_neg d0, if_neg d1, if_neg d2, if_neg d3, if_neg d4, if_neg d5, if_neg d6, if_neg d7, if_pos d8], by rw [if_neg d0, if_neg d1, if_neg d2, if_neg d3, if_neg d4, if_neg d5, if_neg d6, if_neg d7, if_pos d8]; exact pu_some.mpr rfl⟩
  by_cases d9 : p1 = (9 : Int32)
  · exact ⟨_, by rw [if_neg d0, if_neg d1, if_neg d2, if_neg d3, if_neg d4, if_neg d5, if_neg d6, if_neg d7, if_neg d8, if_pos d9], by rw [if_neg d0, if_neg d1, if_neg d2, if_neg d3, if_neg d4, if_neg d5, if_neg d6, if_neg d7, if_neg d8, if_pos d9]; exact pu_some.mpr rfl⟩
  exact ⟨_, by rw [if_neg d0, if_neg d1, if_neg d2, if_neg d3, if_neg d4, if_neg d5, if_neg d6, if_neg d7, if_neg d8, if_neg d9], by rw [if_neg d0, if_neg d1, if_neg d2, if_neg d3, if_neg d4, if_neg d5, if_neg d6, if_neg d7, if_neg d8, if_neg d9]; exact pu_some.mpr rfl⟩
theorem pp_fault {thrown fk fp p1 : Int32} : ∃ v, zf_X10_fault fk fp p1 = some v ∧ pu_ok (zf_X11_fault thrown fk fp p1) (fun r => r.1 = v) := by
  unfold zf_X10_fault zf_X11_fault
  by_cases d0 : p1 = 0
  · exact ⟨_, by rw [if_pos d0], by rw [if_pos d0]; exact pu_some.mpr rfl⟩
  by_cases d1 : p1 = (1 : Int32)
  · exact ⟨_, by rw [if_neg d0, if_pos d1], by rw [if_neg d0, if_pos d1]; exact pu_some.mpr rfl⟩
  exact ⟨_, by rw [if_neg d0, if_neg d1], by rw [if_neg d0, if_neg d1]; exact pu_some.mpr rfl⟩
end PWy
