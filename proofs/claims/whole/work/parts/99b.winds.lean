/-! winds -/
def pm_rm (q : Nat → Nat) (w s : Nat) : Nat := if pm_wy q w s 1 = 0 then 1 else 0
theorem pm_rm_c (q : Nat → Nat) (w s : Nat) : pm_rm q w s < 15 ∧ pm_wy q w s (pm_rm q w s) = 0 := by
  unfold pm_rm
  by_cases c : pm_wy q w s 1 = 0
  · rw [if_pos c]; exact ⟨by omega, c⟩
  · rw [if_neg c]; exact ⟨by omega, rfl⟩
def pm_rh (q : Nat → Nat) (w s0 : Nat) : Nat → Nat
  | 0 => s0
  | k + 1 => pm_ac q w (pm_rh q w s0 k) (pm_rm q w (pm_rh q w s0 k))
theorem pm_rh_st {q : Nat → Nat} {w s0 : Nat} (hq : pm_cliff q) (h0 : pm_st q s0) : ∀ k, pm_st q (pm_rh q w s0 k) := by
  intro k
  induction k with
  | zero => exact h0
  | succ k ih => exact pm_acst hq ih (pm_rm_c q w _).1 (pm_rm_c q w _).2
def pm_tt (q : Nat → Nat) (w s0 : Nat) (c : Nat → Int) : Nat → Nat
  | 0 => 1
  | k + 1 => if (pm_sg (pm_rh q w s0 (k + 1)) : Int) = c k then pm_tt q w s0 c k else 0
theorem pm_tt_1 (q : Nat → Nat) (w s0 : Nat) (c : Nat → Int) : ∀ k, pm_tt q w s0 c k = 0 ∨ pm_tt q w s0 c k = 1 := by
  intro k
  induction k with
  | zero => exact Or.inr rfl
  | succ k ih =>
    unfold pm_tt
    split
    · exact ih
    · exact Or.inl rfl
theorem pm_tt_0 {q : Nat → Nat} {w s0 : Nat} {c : Nat → Int} {i : Nat} (h : pm_tt q w s0 c i = 0) : ∀ d, pm_tt q w s0 c (i + d) = 0 := by
  intro d
  induction d with
  | zero => exact h
  | succ d ih =>
    show (if _ then pm_tt q w s0 c (i + d) else 0) = 0
    rw [ih]
    split <;> rfl
def pm_ws (q : Nat → Nat) (s0 : Nat) (c : Nat → Int) (sz : Nat) : Nat → Int32
  | 0 => 0
  | w + 1 => if pm_tt q w s0 c sz = 0 then pm_ws q s0 c sz w else pm_ws q s0 c sz w ||| nI (2 ^ w)
section PWi
variable {n : Nat} {q : Nat → Nat} {w s0 : Nat} {top things tf tt mf mt : Int32} {bars gives rough code told fa sk : Nat → Int32}
theorem pc_after {s m : Nat} (hn : 1000 ≤ n) (hq : pm_cliff q) (hK : pc_K q top things tf tt mf mt bars gives rough code) (hT : pc_told q w told) (hs : pm_st q s) (hm : pm_mv q m) (hw : w ≤ 9) : pu_ok (zf_X3_after n top things tf tt mf mt bars gives rough code (nI w) told fa sk (nI s) (nI (pm_dd m))) (fun r => (pm_wy q w s m = 0 ∧ r.1 = nI (pm_ac q w s m) ∨ ¬ pm_wy q w s m = 0 ∧ r.1 = (-1 : Int32)) ∧ pc_told q w r.2.1) := by
  have h5 := pm_wy_lt q w s m
  unfold zf_X3_after
  refine pu_d4.mpr (pu_mono (pc_refusal hn hq hK hT hs hm hw) ?_)
  rintro ⟨v1, a2, a3, a4⟩ ⟨e1, e2⟩
  dsimp only at e1 e2 ⊢
  subst e1
  by_cases c : pm_wy q w s m = 0
  · rw [if_pos ((pv_eq 0 (by omega) (by omega)).mpr c)]
    refine pu_d4.mpr (pu_mono (pc_behind hn hq hK e2 hs (pm_mv_lt hm) hw c) ?_)
    rintro ⟨v5, a6, a7, a8⟩ ⟨e3, e4⟩
    exact pu_some.mpr ⟨Or.inl ⟨c, e3⟩, e4⟩
  · rw [if_neg (fun z => c ((pv_eq 0 (by omega) (by omega)).mp z))]
    exact pu_some.mpr ⟨Or.inr ⟨c, rfl⟩, e2⟩
theorem pc_tires {sz : Nat} {a : Nat → Int64} {c : Nat → Int} (hn : 1000 ≤ n) (hq : pm_cliff q) (hK : pc_K q top things tf tt mf mt bars gives rough code) (hT : pc_told q w told) (h0 : pm_st q s0) (hw : w ≤ 9) (hsz : sz ≤ 40) (hc : ∀ k, k < sz → (a k).toInt = c k) : pu_ok (zf_X10_tiresAsTold n top things tf tt mf mt bars gives rough code (nI s0) (nI w) told fa sk (nI sz) a) (fun r => r.1 = nI (pm_tt q w s0 c sz) ∧ pc_told q w r.2.1) := by
  have hst := pm_rh_st (w := w) hq h0
  unfold zf_X10_tiresAsTold
  refine pu_d6.mpr (pu_up (fun i v => v.1 = nI (pm_rh q w s0 i) ∧ v.2.1 = nI i ∧ pc_told q w v.2.2.1 ∧ pm_tt q w s0 c i = 1) sz (by omega) ⟨rfl, rfl, hT, rfl⟩ ?_)
  rintro i ⟨v1, v2, a3, a4, a5⟩ hi ⟨e1, e2, e3, e4⟩
  dsimp only at e1 e2 e3 ⊢
  subst e1 e2
  unfold zb_X10_tiresAsTold_10
  by_cases hd : sz ≤ i
  · have : i = sz := by omega
    subst this
    rw [if_pos ((pn_le (by omega) (by omega)).mpr hd)]
    refine pu_out (by decide) ?_
    dsimp only
    rw [if_neg (by decide), if_pos rfl, e4]
    exact pu_some.mpr ⟨rfl, e3⟩
  rw [if_neg (fun z => hd ((pn_le (by omega) (by omega)).mp z))]
  refine pu_d4.mpr (pu_mono (pc_after (m := 1) hn hq hK e3 (hst i) (Or.inl (by omega)) hw) ?_)
  rintro ⟨v6, a7, a8, a9⟩ ⟨g1, g2⟩
  dsimp only at g1 g2 ⊢
  have hnext : pu_ok (if v6 = (-1 : Int32) then zd_4 (zf_X3_after n top things tf tt mf mt bars gives rough code (nI w) a7 a8 a9 (nI (pm_rh q w s0 i)) (0 : Int32)) (fun v10 a11 a12 a13 => some (v10, a11, a12, a13)) else some (v6, a7, a8, a9)) (fun r => r.1 = nI (pm_rh q w s0 (i + 1)) ∧ pc_told q w r.2.1) := by
    rcases g1 with ⟨k1, k2⟩ | ⟨k1, k2⟩
    · have hlt := pm_st_lt hq (pm_acst (w := w) hq (hst i) (show 1 < 15 by omega) k1)
      rw [if_neg (by rw [k2]; exact fun z => (pn_ne1 (by omega)).mp z)]
      refine pu_some.mpr ⟨?_, g2⟩
      dsimp only
      rw [k2]
      show _ = nI (pm_ac q w _ (pm_rm q w _))
      rw [show pm_rm q w (pm_rh q w s0 i) = 1 from if_pos k1]
    · rw [if_pos k2]
      refine pu_d4.mpr (pu_mono (pc_after (m := 0) hn hq hK g2 (hst i) (Or.inl (by omega)) hw) ?_)
      rintro ⟨v10, a11, a12, a13⟩ ⟨l1, l2⟩
      dsimp only at l1 l2 ⊢
      refine pu_some.mpr ⟨?_, l2⟩
      rcases l1 with ⟨_, l3⟩ | ⟨l3, _⟩
      · dsimp only
        rw [l3]
        show _ = nI (pm_ac q w _ (pm_rm q w _))
        rw [show pm_rm q w (pm_rh q w s0 i) = 0 from if_neg k1]
      · exact absurd rfl l3
  refine pu_d4.mpr (pu_mono hnext ?_)
  rintro ⟨v14, a15, a16, a17⟩ ⟨o1, o2⟩
  dsimp only at o1 o2 ⊢
  subst o1
  have hlt := pm_st_lt hq (hst (i + 1))
  have hg5 := pm_sg_lt (pm_rh q w s0 (i + 1))
  rw [pc_strengthOf hlt, pu_e1, pu_ld (by omega) (by omega), pu_e1]
  have hiff : lg_cmp (Int32.toInt64 (nI (pm_sg (pm_rh q w s0 (i + 1))))) (a i) = 0 ↔ (pm_sg (pm_rh q w s0 (i + 1)) : Int) = c i := by
    rw [lg_eq, ← Int64.toInt_inj, Int32.toInt_toInt64, pn_toInt (by omega), hc i (by omega)]
  by_cases ce : (pm_sg (pm_rh q w s0 (i + 1)) : Int) = c i
  · rw [if_pos (hiff.mpr ce), pn_a1, pu_e1]
    refine pu_go ⟨by omega, rfl, rfl, o2, ?_⟩
    show (if _ then _ else _) = 1
    rw [if_pos ce, e4]
  · rw [if_neg (fun z => ce (hiff.mp z))]
    refine pu_out (by decide) ?_
    dsimp only
    rw [if_pos rfl]
    refine pu_some.mpr ⟨?_, o2⟩
    have h1 : pm_tt q w s0 c (i + 1) = 0 := if_neg ce
    have := pm_tt_0 h1 (sz - (i + 1))
    rw [show i + 1 + (sz - (i + 1)) = sz by omega] at this
    rw [this]; rfl
theorem pc_windsTire {sz : Nat} {a : Nat → Int64} {c : Nat → Int} (hn : 1000 ≤ n) (hq : pm_cliff q) (hK : pc_K q top things tf tt mf mt bars gives rough code) (hT : pc_told q w told) (h0 : pm_st q s0) (hw : w ≤ 9) (hsz : sz ≤ 40) (hc : ∀ k, k < sz → (a k).toInt = c k) : pu_ok (zf_X10_windsThatTire n top things tf tt mf mt bars gives rough code (nI s0) (nI w) (nI w) told fa sk (nI sz) a) (fun r => r.1 = pm_ws q s0 c sz 10 ∧ r.2.1 = nI w ∧ pc_told q w r.2.2.1) := by
  unfold zf_X10_windsThatTire
  refine pu_d7.mpr (pu_up (fun i v => v.1 = pm_ws q s0 c sz i ∧ v.2.1 = nI i ∧ ∃ w1, w1 ≤ 9 ∧ v.2.2.1 = nI w1 ∧ pc_told q w1 v.2.2.2.1) 10 (by omega) ⟨rfl, rfl, w, hw, rfl, hT⟩ ?_)
  rintro i ⟨v1, v2, v3, a4, a5, a6⟩ hi ⟨e1, e2, w1, e3, e4, e5⟩
  dsimp only at e1 e2 e4 e5 ⊢
  subst e1 e2 e4
  unfold zb_X10_windsThatTire_4
  by_cases hd : 10 ≤ i
  · have : i = 10 := by omega
    subst this
    rw [if_pos ((pv_le 10 (by omega) (by omega)).mpr hd)]
    refine pu_out (by decide) ?_
    refine pu_d2.mpr (pu_mono (pc_useWind hn hq e3 hw e5) ?_)
    rintro ⟨x1, x2⟩ ⟨x3, x4⟩
    exact pu_some.mpr ⟨rfl, x3, x4⟩
  rw [if_neg (fun z => hd ((pv_le 10 (by omega) (by omega)).mp z))]
  refine pu_d2.mpr (pu_mono (pc_useWind hn hq e3 (show i ≤ 9 by omega) e5) ?_)
  rintro ⟨x1, x2⟩ ⟨x3, x4⟩
  dsimp only at x3 x4 ⊢
  subst x3
  refine pu_d4.mpr (pu_mono (pc_tires hn hq hK x4 h0 (show i ≤ 9 by omega) hsz hc) ?_)
  rintro ⟨v9, a10, a11, a12⟩ ⟨g1, g2⟩
  dsimp only at g1 g2 ⊢
  subst g1
  have h01 := pm_tt_1 q i s0 c sz
  by_cases ce : pm_tt q i s0 c sz = 0
  · rw [if_pos ((pv_eq 0 (by omega) (by omega)).mpr ce), pu_e1, pn_a1, pu_e1]
    refine pu_go ⟨by omega, ?_, rfl, i, by omega, rfl, g2⟩
    show _ = (if _ then _ else _)
    rw [if_pos ce]
  · rw [if_neg (fun z => ce ((pv_eq 0 (by omega) (by omega)).mp z)), pu_e1, pu_e1, pn_a1, pu_e1, pb_sh i (by omega)]
    refine pu_go ⟨by omega, ?_, rfl, i, by omega, rfl, g2⟩
    show _ = (if _ then _ else _)
    rw [if_neg ce]
theorem pr_windsOf {all rk wds rm : Nat → Int32} {num : Nat → Int64} {t sz : Nat} {c : Nat → Int} (hn : 1000 ≤ n) (ha : pr_all all q) (hq : pm_cliff q) (hs : pm_now q = s0) (h0 : pm_st q s0) (ht : t < 4) (hsz : sz ≤ 40) (hr : rm t = nI sz) (hc : ∀ k, k < sz → (num (40 * t + k)).toInt = c k) : pu_ok (zf_X11_windsOf n all rk wds rm num (nI t)) (fun r => r.1 = pm_ws q s0 c sz 10) := by
  unfold zf_X11_windsOf
  refine pu_d5.mpr (pu_up (fun i v => v.1 = pm_ws q s0 c sz i ∧ v.2.1 = nI i) 10 (by omega) ⟨rfl, rfl⟩ ?_)
  rintro i ⟨v1, v2, a3, a4⟩ hi ⟨e1, e2⟩
  dsimp only at e1 e2 ⊢
  subst e1 e2
  unfold zb_X11_windsOf_4
  by_cases hd : 10 ≤ i
  · have : i = 10 := by omega
    subst this
    rw [if_pos ((pv_le 10 (by omega) (by omega)).mpr hd)]
    exact pu_out (by decide) (pu_some.mpr rfl)
  rw [if_neg (fun z => hd ((pv_le 10 (by omega) (by omega)).mp z)), pr_standNow ha, hs, pu_e1]
  have hst := pm_rh_st (w := i) hq h0
  have h01 := pm_tt_1 q i s0 c
  refine pu_d6.mpr (pu_up (fun k v => v.1 = nI (pm_rh q i s0 k) ∧ v.2.1 = nI (pm_tt q i s0 c k) ∧ v.2.2.1 = nI k) sz (by omega) ⟨rfl, rfl, rfl⟩ ?_)
  rintro k ⟨v6, v7, v8, a9, a10⟩ hk ⟨g1, g2, g3⟩
  dsimp only at g1 g2 g3 ⊢
  subst g1 g2 g3
  unfold zb_X11_windsOf_22
  rw [pu_ld ht (by omega), pu_e1, hr]
  by_cases hd2 : sz ≤ k
  · have : k = sz := by omega
    subst this
    rw [if_pos ((pn_le (by omega) (by omega)).mpr hd2)]
    refine pu_out (by decide) ?_
    dsimp only
    rcases h01 k with ce | ce
    · rw [if_pos ((pv_eq 0 (by omega) (by omega)).mpr ce), pu_e1, pu_e1, pn_a1, pu_e1, Int32.or_zero]
      refine pu_go ⟨by omega, ?_, rfl⟩
      show _ = (if _ then _ else _)
      rw [if_pos ce]
    · rw [if_neg (fun z => by have := (pv_eq 0 (by omega) (by omega)).mp z; omega), pu_e1, pu_e1, pn_a1, pu_e1, pb_sh i (by omega)]
      refine pu_go ⟨by omega, ?_, rfl⟩
      show _ = (if _ then _ else _)
      rw [if_neg (by omega)]
  rw [if_neg (fun z => hd2 ((pn_le (by omega) (by omega)).mp z))]
  refine pu_d3.mpr (pu_mono (pr_whyBy (m := 1) (w := i) hn ha hq (hst k) (by omega) (by omega)) ?_)
  rintro ⟨v12, a13, a14⟩ f1
  dsimp only at f1 ⊢
  subst f1
  have h5 := pm_wy_lt q i (pm_rh q i s0 k) 1
  have hrm : (if nI (pm_wy q i (pm_rh q i s0 k) 1) = 0 then some (1 : Int32) else some (0 : Int32)) = some (nI (pm_rm q i (pm_rh q i s0 k))) := by
    unfold pm_rm
    by_cases ce : pm_wy q i (pm_rh q i s0 k) 1 = 0
    · rw [if_pos ((pv_eq 0 (by omega) (by omega)).mpr ce), if_pos ce]; rfl
    · rw [if_neg (fun z => ce ((pv_eq 0 (by omega) (by omega)).mp z)), if_neg ce]; rfl
  rw [hrm, pu_e1]
  obtain ⟨m1, m2⟩ := pm_rm_c q i (pm_rh q i s0 k)
  refine pu_d3.mpr (pu_mono (pr_actedTo (w := i) hn ha hq (hst k) m1 (by omega) m2) ?_)
  rintro ⟨v16, a17, a18⟩ f2
  dsimp only at f2 ⊢
  have f3 : v16 = nI (pm_rh q i s0 (k + 1)) := f2
  subst f3
  have hlt := pm_st_lt hq (hst (k + 1))
  have hg5 := pm_sg_lt (pm_rh q i s0 (k + 1))
  have hsg : za_rem (nI (pm_rh q i s0 (k + 1))) (5 : Int32) = nI (pm_sg (pm_rh q i s0 (k + 1))) := by
    have := pc_strengthOf hlt
    unfold zf_X10_strengthOf at this
    exact Option.some.inj this
  rw [pv_mul 40, pn_add, pu_ld (by omega) (by omega), pu_e1, hsg]
  have hiff : lg_cmp (Int32.toInt64 (nI (pm_sg (pm_rh q i s0 (k + 1))))) (num (40 * t + k)) = 0 ↔ (pm_sg (pm_rh q i s0 (k + 1)) : Int) = c k := by
    rw [lg_eq, ← Int64.toInt_inj, Int32.toInt_toInt64, pn_toInt (by omega), hc k (by omega)]
  by_cases ce : (pm_sg (pm_rh q i s0 (k + 1)) : Int) = c k
  · rw [if_pos (hiff.mpr ce), pu_e1, pu_e1, pn_a1, pu_e1]
    refine pu_go ⟨by omega, rfl, ?_, rfl⟩
    dsimp only
    show _ = nI (if _ then _ else _)
    rw [if_pos ce]
    rcases h01 k with h | h <;> rw [h] <;> decide
  · rw [if_neg (fun z => ce (hiff.mp z)), pu_e1, pu_e1, pn_a1, pu_e1]
    refine pu_go ⟨by omega, rfl, ?_, rfl⟩
    dsimp only
    show _ = nI (if _ then _ else _)
    rw [if_neg ce]
    rcases h01 k with h | h <;> rw [h] <;> decide
theorem pp_winds {all rk wds missing tsize tsort rs rm : Nat → Int32} {trn : Nat → Nat → Int64} {num : Nat → Int64} {thrown p1 : Int32} (hn : 1000 ≤ n) (ha : pr_all all q) (hq : pm_cliff q) (hw9 : w ≤ 9) (hs : pm_now q = s0) (h0 : pm_st q s0) (hK : pc_K q top things tf tt mf mt bars gives rough code) (hT : pc_told q w told) (htr : pp_tr missing tsize tsort trn rs rm num) :
    ∃ v, pu_ok (zf_X10_winds n top things tf tt mf mt bars gives rough code (nI s0) (nI w) (nI w) told fa sk missing tsize trn p1) (fun r => r.1 = v ∧ r.2.1 = nI w ∧ pc_told q w r.2.2.1) ∧ pu_ok (zf_X11_winds n thrown all rk wds rs rm num p1) (fun r => r.1 = v) := by
  obtain ⟨c, c1, c2, c3⟩ := pp_tiredR (n := n) (p := p1) (by omega) htr
  rcases c3 with c3 | ⟨rfl, t, L, ht, rfl, hL1, hL, hsz, hrm, hnum⟩
  · refine ⟨c, ?_, ?_⟩
    · unfold zf_X10_winds
      rw [c1, pu_e1, if_neg c3]
      exact pu_some.mpr ⟨rfl, rfl, hT⟩
    · unfold zf_X11_winds
      rw [c2, pu_e1, if_neg c3]
      exact pu_some.mpr rfl
  refine ⟨pm_ws q s0 (fun k => (trn t k).toInt) L 10, ?_, ?_⟩
  · have key : zf_X10_winds n top things tf tt mf mt bars gives rough code (nI s0) (nI w) (nI w) told fa sk missing tsize trn (nI t) = zd_5 (zf_X10_windsThatTire n top things tf tt mf mt bars gives rough code (nI s0) (nI w) (nI w) told fa sk (tsize t) (trn t)) (fun v2 v3 a4 a5 a6 => some (v2, v3, a4, a5, a6)) := by
      unfold zf_X10_winds
      rw [c1, pu_e1, if_pos rfl]
      rcases pp_4 ht with rfl | rfl | rfl | rfl
      · rw [if_pos (by decide)]
      · rw [if_neg (by decide), if_pos (by decide)]
      · rw [if_neg (by decide), if_neg (by decide), if_pos (by decide)]
      · rw [if_neg (by decide), if_neg (by decide), if_neg (by decide), if_pos (by decide)]
    rw [key, hsz]
    refine pu_d5.mpr (pu_mono (pc_windsTire hn hq hK hT h0 hw9 (show L ≤ 40 by omega) (fun k _ => rfl)) ?_)
    rintro ⟨v2, v3, a4, a5, a6⟩ ⟨g1, g2, g3⟩
    exact pu_some.mpr ⟨g1, g2, g3⟩
  · unfold zf_X11_winds
    rw [c2, pu_e1, if_pos rfl]
    refine pu_d3.mpr (pu_mono (pr_windsOf (sz := L) (c := fun k => (trn t k).toInt) hn ha hq hs h0 ht (by omega) hrm (fun k hk => by rw [(hnum k hk).1])) ?_)
    rintro ⟨v2, a3, a4⟩ g1
    exact pu_some.mpr g1
end PWi
