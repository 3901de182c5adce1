/-! what a cliff tells doesn't hang on the pilgrim -/
def pm_same (q q' : Nat → Nat) : Prop := ∀ k, (k < 37 ∨ 93 ≤ k) → q' k = q k
theorem pm_same_rf (q : Nat → Nat) : pm_same q q := fun _ _ => rfl
theorem pm_same_tr {q q' q'' : Nat → Nat} (h : pm_same q q') (h' : pm_same q' q'') : pm_same q q'' := fun k hk => by rw [h' k hk, h k hk]
section PSm
variable {q q' : Nat → Nat}
theorem pm_same_cd (h : pm_same q q') : pm_cd q' = pm_cd q := by
  funext k
  exact h (94 + k) (Or.inr (by omega))
theorem pm_same_wd {w r c g : Nat} (h : pm_same q q') (hr : r < 9) : pm_wd q' w r c g = pm_wd q w r c g := by
  funext i
  unfold pm_wd
  rw [h (28 + r) (Or.inl (by omega)), h 2 (Or.inl (by omega)), h (10 + r) (Or.inl (by omega))]
theorem pm_same_val {law w r c g : Nat} (h : pm_same q q') (hr : r < 9) (hl : law < 2) : pm_val q' law w r c g = pm_val q law w r c g := by
  unfold pm_val
  rw [pm_same_wd h hr, pm_same_cd h, h (6 + law) (Or.inl (by omega)), h (8 + law) (Or.inl (by omega))]
theorem pm_same_may {w r c g : Nat} (h : pm_same q q') (hr : r < 9) : pm_may q' w r c g = pm_may q w r c g := by
  unfold pm_may
  rw [pm_same_val h hr (by omega), h 5 (Or.inl (by omega))]
theorem pm_same_tired {w r c g : Nat} (h : pm_same q q') (hr : r < 9) : pm_tired q' w r c g = pm_tired q w r c g := by
  have e : pm_trd q' w r c g = pm_trd q w r c g := by
    unfold pm_trd
    rw [pm_same_val h hr (by omega), h 4 (Or.inl (by omega))]
  unfold pm_tired
  rw [e]
theorem pm_same_cliff (h : pm_same q q') (hq : pm_cliff q) : pm_cliff q' := by
  obtain ⟨h1, h2, h3, h4, h5, h6⟩ := hq
  unfold pm_cliff
  rw [h 1 (Or.inl (by omega)), h 2 (Or.inl (by omega)), h 3 (Or.inl (by omega)), h 93 (Or.inr (by omega)), pm_same_cd h]
  refine ⟨h1, h2, h3, ?_, ?_, h6⟩
  · intro r hr
    rw [h (10 + r) (Or.inl (by omega)), h (19 + r) (Or.inl (by omega)), h (28 + r) (Or.inl (by omega))]
    exact h4 r hr
  · intro law hl
    rw [h (4 + law) (Or.inl (by omega)), h (6 + law) (Or.inl (by omega)), h (8 + law) (Or.inl (by omega))]
    exact h5 law hl
theorem pm_same_st {s : Nat} (h : pm_same q q') (hs : pm_st q s) : pm_st q' s := by
  unfold pm_st
  rw [h 1 (Or.inl (by omega)), h 2 (Or.inl (by omega))]
  exact hs
theorem pm_same_wy {w s m : Nat} (h : pm_same q q') (hq : pm_cliff q) (hs : pm_st q s) : pm_wy q' w s m = pm_wy q w s m := by
  have h1 := hq.1
  have hs1 := hs.1
  have hr : pm_rg s < 9 := by omega
  unfold pm_wy
  by_cases m0 : m = 0
  · rw [if_pos m0, if_pos m0]
  rw [if_neg m0, if_neg m0]
  by_cases m1 : m = 1
  · rw [if_pos m1, if_pos m1, h 1 (Or.inl (by omega))]
    by_cases c : pm_rg s = q 1
    · rw [if_pos c, if_pos c]
    · rw [if_neg c, if_neg c, h (10 + (pm_rg s + 1)) (Or.inl (by omega)), pm_same_may h (by omega)]
  rw [if_neg m1, if_neg m1]
  by_cases m2 : m = 2
  · rw [if_pos m2, if_pos m2, h (10 + (pm_rg s - 1)) (Or.inl (by omega))]
  rw [if_neg m2, if_neg m2, h (19 + pm_rg s) (Or.inl (by omega)), h (10 + pm_rg s) (Or.inl (by omega))]
theorem pm_same_ac {w s m : Nat} (h : pm_same q q') (hq : pm_cliff q) (hs : pm_st q s) (hc : pm_wy q w s m = 0) : pm_ac q' w s m = pm_ac q w s m := by
  have h1 := hq.1
  have hs1 := hs.1
  unfold pm_ac
  by_cases m0 : m = 0
  · rw [if_pos m0, if_pos m0]
  rw [if_neg m0, if_neg m0]
  by_cases m1 : m = 1
  · have : pm_rg s < q 1 := by
      subst m1
      unfold pm_wy at hc
      rw [if_neg (by omega), if_pos rfl] at hc
      by_cases c : pm_rg s = q 1
      · rw [if_pos c] at hc; omega
      · omega
    rw [if_pos m1, if_pos m1, pm_same_tired h (by omega)]
  rw [if_neg m1, if_neg m1]
theorem pm_same_hb {w s : Nat} (h : pm_same q q') (hq : pm_cliff q) (hs : pm_st q s) : pm_hb q' w s = pm_hb q w s := by
  have h1 := hq.1
  unfold pm_hb
  rw [pm_same_wy h hq hs, h 1 (Or.inl (by omega))]
  by_cases c : pm_wy q w s 1 = 0
  · rw [if_pos c, if_pos c]
  rw [if_neg c, if_neg c]
  by_cases d : pm_rg s < q 1
  · rw [if_pos d, if_pos d, h (10 + (pm_rg s + 1)) (Or.inl (by omega))]
  · rw [if_neg d, if_neg d]
theorem pm_same_af {w s : Nat} (h : pm_same q q') (hq : pm_cliff q) (hs : pm_st q s) : pm_af q' w s = pm_af q w s := by
  unfold pm_af
  rw [pm_same_hb h hq hs, pm_same_ac h hq hs (pm_hb_c q w s).2.1]
theorem pc_same_K {top things tf tt mf mt : Int32} {bars gives rough code : Nat → Int32} (h : pm_same q q') (hK : pc_K q top things tf tt mf mt bars gives rough code) : pc_K q' top things tf tt mf mt bars gives rough code := by
  obtain ⟨k1, k2, k3, k4, k5, k6⟩ := hK
  unfold pc_K
  rw [h 1 (Or.inl (by omega)), h 2 (Or.inl (by omega)), h 4 (Or.inl (by omega)), h 5 (Or.inl (by omega)), h 6 (Or.inl (by omega)), h 7 (Or.inl (by omega)), h 8 (Or.inl (by omega)), h 9 (Or.inl (by omega)), h 93 (Or.inr (by omega))]
  refine ⟨k1, k2, ?_, k4, k5, ?_⟩
  · intro r hr
    rw [h (10 + r) (Or.inl (by omega)), h (19 + r) (Or.inl (by omega)), h (28 + r) (Or.inl (by omega))]
    exact k3 r hr
  · intro k hk
    rw [h (94 + k) (Or.inr (by omega))]
    exact k6 k hk
theorem pc_same_told {w : Nat} {told : Nat → Int32} (h : pm_same q q') (hq : pm_cliff q) (hT : pc_told q w told) : pc_told q' w told := by
  have h1 := hq.1
  intro r c g r1 r2 c6 g5
  rw [h 1 (Or.inl (by omega))] at r2
  unfold pc_up
  rw [pm_same_may h (by omega), pm_same_tired h (by omega)]
  exact hT r c g r1 r2 c6 g5
end PSm
/-! the pilgrim, and what can be undone -/
def pp_now (q : Nat → Nat) (st wi de : Int32) : Prop := st = nI (pm_now q) ∧ wi = nI (q 40) ∧ de = nI (q 41) ∧ q 37 ≤ q 1 ∧ q 38 < 2 ^ q 2 ∧ q 39 < 5 ∧ q 40 ≤ 9
def pp_past (q : Nat → Nat) (und : Int32) (pst pwi pde : Nat → Int32) : Prop := und = nI (q 42) ∧ q 42 ≤ 10 ∧ ∀ k, k < q 42 → pst k = nI (pm_sd (q (43 + 5 * k)) (q (44 + 5 * k)) (q (45 + 5 * k))) ∧ pwi k = nI (q (46 + 5 * k)) ∧ pde k = nI (q (47 + 5 * k)) ∧ q (43 + 5 * k) ≤ q 1 ∧ q (44 + 5 * k) < 2 ^ q 2 ∧ q (45 + 5 * k) < 5 ∧ q (46 + 5 * k) ≤ 9
theorem pp_now_st {q : Nat → Nat} {st wi de : Int32} (hq : pm_cliff q) (h : pp_now q st wi de) : pm_st q (pm_now q) ∧ pm_rg (pm_now q) = q 37 ∧ pm_hs (pm_now q) = q 38 ∧ pm_sg (pm_now q) = q 39 := by
  obtain ⟨_, _, _, h1, h2, h3, _⟩ := h
  have hp := pm_p6 hq.2.1
  unfold pm_now
  refine ⟨⟨?_, ?_⟩, pm_rg_sd (by omega) h3, pm_hs_sd (by omega) h3, pm_sg_sd h3⟩
  · rw [pm_rg_sd (by omega) h3]; exact h1
  · rw [pm_hs_sd (by omega) h3]; exact h2
/-- the pilgrim elsewhere -/
def pm_put (q : Nat → Nat) (s w a : Nat) : Nat → Nat := fun k => if k = 37 then pm_rg s else if k = 38 then pm_hs s else if k = 39 then pm_sg s else if k = 40 then w else if k = 41 then a else q k
theorem pm_put_same (q : Nat → Nat) (s w a : Nat) : pm_same q (pm_put q s w a) := by
  intro k hk
  unfold pm_put
  rw [if_neg (by omega), if_neg (by omega), if_neg (by omega), if_neg (by omega), if_neg (by omega)]
theorem pm_put_o {q : Nat → Nat} {s w a k : Nat} (h : k < 37 ∨ 42 ≤ k) : pm_put q s w a k = q k := by
  unfold pm_put
  rw [if_neg (by omega), if_neg (by omega), if_neg (by omega), if_neg (by omega), if_neg (by omega)]
theorem pm_put_now (q : Nat → Nat) (s w a : Nat) : pm_now (pm_put q s w a) = s := by
  show pm_sd (pm_rg s) (pm_hs s) (pm_sg s) = s
  exact pm_sd_eq s
theorem pp_put_now {q : Nat → Nat} {s w a : Nat} (hs : pm_st q s) (hw : w ≤ 9) : pp_now (pm_put q s w a) (nI s) (nI w) (nI a) := by
  refine ⟨by rw [pm_put_now], rfl, rfl, ?_, ?_, ?_, hw⟩
  · show pm_rg s ≤ q 1; exact hs.1
  · show pm_hs s < 2 ^ q 2; exact hs.2
  · exact pm_sg_lt s
section PNt
variable {n : Nat} {q : Nat → Nat}
theorem pr_isStand {all : Nat → Int32} {s : Nat} (ha : pr_all all q) (hs : s < 2880) : pu_ok (zf_X11_isStand all (nI s)) (fun a => pr_all a (pm_put q s (q 40) (q 41)) ∧ ∀ k, 994 ≤ k → a k = all k) := by
  unfold zf_X11_isStand
  rw [pr_rungIn hs, pu_e1, pv_st 37 (by omega) (by omega), pu_e1, pr_hasIn hs, pu_e1, pv_st 38 (by omega) (by omega), pu_e1, pn_rem5 hs, pv_st 39 (by omega) (by omega), pu_e1]
  refine pu_some.mpr ⟨?_, ?_⟩
  · intro k hk
    unfold pm_put
    by_cases c39 : k = 39
    · subst c39; rw [pu_upe]; rfl
    rw [pu_upn c39]
    by_cases c38 : k = 38
    · subst c38; rw [pu_upe]; rfl
    rw [pu_upn c38]
    by_cases c37 : k = 37
    · subst c37; rw [pu_upe]; rfl
    rw [pu_upn c37, if_neg c37, if_neg c38, if_neg c39]
    by_cases c40 : k = 40
    · rw [if_pos c40, c40]; exact ha 40 (by omega)
    rw [if_neg c40]
    by_cases c41 : k = 41
    · rw [if_pos c41, c41]; exact ha 41 (by omega)
    rw [if_neg c41]
    exact ha k hk
  · intro k hk
    rw [pu_upn (by omega), pu_upn (by omega), pu_upn (by omega)]
theorem pr_acts {all rk wds : Nat → Int32} {w s0 m : Nat} (hn : 1000 ≤ n) (ha : pr_all all q) (hq : pm_cliff q) (hw : q 40 = w) (hw9 : w ≤ 9) (hs : pm_now q = s0) (h0 : pm_st q s0) (hm : m < 15) (hc : pm_wy q w s0 m = 0) : pu_ok (zf_X11_acts n all rk wds (nI m)) (fun y => pr_all y.1 (pm_put q (pm_ac q w s0 m) w (q 41 + 1)) ∧ ∀ k, 994 ≤ k → y.1 k = all k) := by
  have hac := pm_st_lt hq (pm_acst hq h0 hm hc)
  unfold zf_X11_acts
  rw [pr_standNow ha, hs, pu_e1, pv_ld 40 (by omega) (by omega), pu_e1, ha 40 (by omega), hw]
  refine pu_d3.mpr (pu_mono (pr_actedTo hn ha hq h0 hm hw9 hc) ?_)
  rintro ⟨v3, a4, a5⟩ e1
  dsimp only at e1 ⊢
  subst e1
  refine pu_d1.mpr (pu_mono (pr_isStand ha hac) ?_)
  rintro a6 ⟨h6, h6'⟩
  rw [pv_ld 41 (by omega) (by omega), pu_e1, pv_st 41 (by omega) (by omega), pu_e1]
  refine pu_some.mpr ⟨?_, ?_⟩
  · intro k hk
    dsimp only
    by_cases c : k = 41
    · subst c; rw [pu_upe, h6 41 (by omega), pn_a1]; rfl
    · rw [pu_upn c, h6 k hk]
      unfold pm_put
      rw [hw]
      by_cases d : k = 40
      · subst d; rfl
      · rw [if_neg c, if_neg c]
  · intro k hk
    dsimp only
    rw [pu_upn (by omega)]
    exact h6' k hk
theorem pr_keeps {all was : Nat → Int32} (hn : 100 ≤ n) (ha : pr_all all q) : pu_ok (zf_X11_keeps n all was) (fun a => ∀ k, k < 5 → a k = nI (q (37 + k))) := by
  unfold zf_X11_keeps
  refine pu_d3.mpr (pu_up (fun i v => v.1 = nI i ∧ ∀ k, k < i → v.2 k = nI (q (37 + k))) 5 (by omega) ⟨rfl, fun k h => absurd h (by omega)⟩ ?_)
  rintro i ⟨v1, a2⟩ hi ⟨e1, e2⟩
  dsimp only at e1 e2 ⊢
  subst e1
  unfold zb_X11_keeps_2
  by_cases c : 5 ≤ i
  · rw [if_pos ((pv_le 5 (by omega) (by omega)).mpr c)]
    exact pu_out (by decide) (pu_some.mpr (fun k hk => e2 k (by omega)))
  · rw [if_neg (fun z => c ((pv_le 5 (by omega) (by omega)).mp z)), pv_add 37, pu_ld (by omega) (by omega), pu_e1, ha _ (by omega), pu_st (by omega) (by omega), pu_e1, pn_a1, pu_e1]
    refine pu_go ⟨by omega, rfl, ?_⟩
    intro k hk
    dsimp only
    by_cases g : k = i
    · subst g; rw [pu_upe]
    · rw [pu_upn g]; exact e2 k (by omega)
/-- noted: what can be undone -/
def pm_nt (q p : Nat → Nat) : Nat → Nat := fun k => if q 42 = 10 then (if k = 42 then 10 else if 43 ≤ k ∧ k < 88 then q (k + 5) else if 88 ≤ k ∧ k < 93 then p (k - 88) else q k) else (if k = 42 then q 42 + 1 else if 43 + 5 * q 42 ≤ k ∧ k < 48 + 5 * q 42 then p (k - (43 + 5 * q 42)) else q k)
theorem pm_nt_same {p : Nat → Nat} (h : q 42 ≤ 10) : pm_same q (pm_nt q p) := by
  intro k hk
  unfold pm_nt
  by_cases c : q 42 = 10
  · rw [if_pos c, if_neg (by omega), if_neg (by omega), if_neg (by omega)]
  · rw [if_neg c, if_neg (by omega), if_neg (by omega)]
theorem pm_nt_o {p : Nat → Nat} {k : Nat} (h : q 42 ≤ 10) (hk : k < 42 ∨ 93 ≤ k) : pm_nt q p k = q k := by
  unfold pm_nt
  by_cases c : q 42 = 10
  · rw [if_pos c, if_neg (by omega), if_neg (by omega), if_neg (by omega)]
  · rw [if_neg c, if_neg (by omega), if_neg (by omega)]
theorem pr_notes {all was : Nat → Int32} {p : Nat → Nat} (hn : 100 ≤ n) (ha : pr_all all q) (hq42 : q 42 ≤ 10) (hp : ∀ k, k < 5 → was k = nI (p k)) : pu_ok (zf_X11_notes n all was) (fun a => pr_all a (pm_nt q p) ∧ ∀ k, 994 ≤ k → a k = all k) := by
  unfold zf_X11_notes
  rw [pv_ld 42 (by omega) (by omega), pu_e1, ha 42 (by omega)]
  -- the eldest goes
  refine pu_d1.mpr (pu_mono (P := fun a => ∃ m, m < 10 ∧ (∀ k, k < 994 → a k = nI (if k = 42 then m else if q 42 = 10 ∧ 43 ≤ k ∧ k < 88 then q (k + 5) else q k)) ∧ (m = if q 42 = 10 then 9 else q 42) ∧ ∀ k, 994 ≤ k → a k = all k) ?_ ?_)
  · by_cases c : q 42 = 10
    · rw [if_pos (by rw [c]; rfl)]
      refine pu_d3.mpr (pu_up (fun i v => v.1 = nI i ∧ (∀ k, k < 994 → v.2 k = nI (if 43 ≤ k ∧ k < 43 + i then q (k + 5) else q k)) ∧ ∀ k, 994 ≤ k → v.2 k = all k) 45 (by omega) ⟨rfl, fun k hk => by dsimp only; rw [if_neg (by omega)]; exact ha k hk, fun k _ => rfl⟩ ?_)
      rintro i ⟨v2, a3⟩ hi ⟨e1, e2, e3⟩
      dsimp only at e1 e2 e3 ⊢
      subst e1
      unfold zb_X11_notes_14
      by_cases d : 45 ≤ i
      · have : i = 45 := by omega
        subst this
        rw [if_pos (by decide)]
        refine pu_out (by decide) ?_
        dsimp only
        rw [pv_ld 42 (by omega) (by omega), pu_e1, e2 42 (by omega), if_neg (by omega), c, pv_st 42 (by omega) (by omega), pu_e1]
        refine pu_some.mpr ⟨9, by omega, ?_, by rw [if_pos rfl], ?_⟩
        · intro k hk
          by_cases g : k = 42
          · rw [g, pu_upe, if_pos rfl]; rfl
          · rw [pu_upn g, if_neg g, e2 k hk]
            by_cases g2 : 43 ≤ k ∧ k < 88
            · rw [if_pos g2, if_pos ⟨rfl, g2⟩]
            · rw [if_neg g2, if_neg (fun z => g2 z.2)]
        · intro k hk
          rw [pu_upn (by omega)]; exact e3 k hk
      · rw [if_neg (fun z => d ((pv_le 45 (by omega) (by omega)).mp z)), pv_add 48, pu_ld (by omega) (by omega), pu_e1, pv_add 43, pu_st (by omega) (by omega), pu_e1, pn_a1, pu_e1, e2 (48 + i) (by omega), if_neg (by omega)]
        refine pu_go ⟨by omega, rfl, ?_, ?_⟩
        · intro k hk
          dsimp only
          by_cases g : k = 43 + i
          · rw [g, pu_upe, if_pos ⟨by omega, by omega⟩, show 43 + i + 5 = 48 + i from by omega]
          · rw [pu_upn g, e2 k hk]
            by_cases g2 : 43 ≤ k ∧ k < 43 + i
            · rw [if_pos g2, if_pos ⟨g2.1, by omega⟩]
            · rw [if_neg g2, if_neg (by omega)]
        · intro k hk
          dsimp only
          rw [pu_upn (by omega)]; exact e3 k hk
    · rw [if_neg (fun z => c ((pv_eq 10 (by omega) (by omega)).mp z))]
      refine pu_some.mpr ⟨q 42, by omega, ?_, by rw [if_neg c], fun _ _ => rfl⟩
      intro k hk
      by_cases g : k = 42
      · rw [if_pos g, g]; exact ha 42 (by omega)
      · rw [if_neg g, if_neg (fun z => c z.1)]; exact ha k hk
  rintro a12 ⟨m, hm, hA, hmE, hO⟩
  refine pu_d3.mpr (pu_up (fun i v => v.1 = nI i ∧ (∀ k, k < 994 → v.2 k = nI (if k = 42 then m else if 43 + 5 * m ≤ k ∧ k < 43 + 5 * m + i then p (k - (43 + 5 * m)) else if q 42 = 10 ∧ 43 ≤ k ∧ k < 88 then q (k + 5) else q k)) ∧ ∀ k, 994 ≤ k → v.2 k = all k) 5 (by omega) ⟨rfl, fun k hk => ?_, hO⟩ ?_)
  · dsimp only
    rw [hA k hk]
    by_cases g : k = 42
    · rw [if_pos g, if_pos g]
    · rw [if_neg g, if_neg g, if_neg (show ¬ (43 + 5 * m ≤ k ∧ k < 43 + 5 * m + 0) by omega)]
  rintro i ⟨v13, a14⟩ hi ⟨e1, e2, e3⟩
  dsimp only at e1 e2 e3 ⊢
  subst e1
  unfold zb_X11_notes_57
  have e42 := e2 42 (by omega)
  rw [if_pos rfl] at e42
  by_cases d : 5 ≤ i
  · have : i = 5 := by omega
    subst this
    rw [if_pos (by decide)]
    refine pu_out (by decide) ?_
    dsimp only
    rw [pv_ld 42 (by omega) (by omega), pu_e1, e42, pn_a1, pv_st 42 (by omega) (by omega), pu_e1]
    refine pu_some.mpr ⟨?_, fun k hk => by rw [pu_upn (by omega)]; exact e3 k hk⟩
    intro k hk
    unfold pm_nt
    by_cases g : k = 42
    · rw [g, pu_upe]
      by_cases c : q 42 = 10
      · rw [if_pos c, if_pos rfl, hmE, if_pos c]
      · rw [if_neg c, if_pos rfl, hmE, if_neg c]
    · rw [pu_upn g, e2 k hk, if_neg g]
      by_cases c : q 42 = 10
      · rw [if_pos c] at hmE
        subst hmE
        rw [if_pos c, if_neg g]
        by_cases g2 : 88 ≤ k ∧ k < 93
        · rw [if_pos (by omega), if_neg (by omega), if_pos g2]
        · rw [if_neg (by omega)]
          by_cases g3 : 43 ≤ k ∧ k < 88
          · rw [if_pos ⟨c, g3⟩, if_pos g3]
          · rw [if_neg (fun z => g3 z.2), if_neg g3, if_neg g2]
      · rw [if_neg c] at hmE
        subst hmE
        rw [if_neg c, if_neg g, if_neg (fun z : q 42 = 10 ∧ _ => c z.1)]
        by_cases g2 : 43 + 5 * q 42 ≤ k ∧ k < 48 + 5 * q 42
        · rw [if_pos (by omega), if_pos g2]
        · rw [if_neg (by omega), if_neg g2]
  · rw [if_neg (fun z => d ((pv_le 5 (by omega) (by omega)).mp z)), pv_ld 42 (by omega) (by omega), pu_e1, e42, pu_ld (by omega) (by omega), pu_e1, pv_mul 5, pv_add 43, pn_add, pu_st (by omega) (by omega), pu_e1, pn_a1, pu_e1, hp i (by omega)]
    refine pu_go ⟨by omega, rfl, ?_, ?_⟩
    · intro k hk
      dsimp only
      by_cases g : k = 43 + 5 * m + i
      · rw [g, pu_upe, if_neg (by omega), if_pos ⟨by omega, by omega⟩, show 43 + 5 * m + i - (43 + 5 * m) = i from by omega]
      · rw [pu_upn g, e2 k hk]
        by_cases g2 : k = 42
        · rw [if_pos g2, if_pos g2]
        · rw [if_neg g2, if_neg g2]
          by_cases g3 : 43 + 5 * m ≤ k ∧ k < 43 + 5 * m + i
          · rw [if_pos g3, if_pos ⟨g3.1, by omega⟩]
          · rw [if_neg g3, if_neg (show ¬ (43 + 5 * m ≤ k ∧ k < 43 + 5 * m + (i + 1)) by omega)]
    · intro k hk
      dsimp only
      rw [pu_upn (by omega)]; exact e3 k hk
end PNt
