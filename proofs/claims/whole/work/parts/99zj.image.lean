/-! images -/
section PIm
variable {n : Nat} {q q' : Nat → Nat}
theorem pp_same_K {top things sl li co tf tt mf mt : Int32} {bars gives rough code : Nat → Int32} (h : pm_same q q') (hK : pp_K q top things sl li co tf tt mf mt bars gives rough code) : pp_K q' top things sl li co tf tt mf mt bars gives rough code := by
  obtain ⟨h1, h2, h3, h4, h5⟩ := hK
  exact ⟨pm_same_cliff h h1, pc_same_K h h2, by rw [h 0 (by omega)]; exact h3, by rw [h 3 (by omega)]; exact h4, by rw [h 93 (by omega)]; exact h5⟩
def pp_im (all : Nat → Int32) (i : Nat) (qi : Nat → Nat) : Prop := ∀ k, k < 994 → all (994 * (i + 1) + k) = nI (qi k)
theorem pp_img (p1 : Int32) : (zf_X10_isImage p1 = some 0 ∧ ¬ (0 ≤ p1.toInt ∧ p1.toInt ≤ 1)) ∨ p1 = (0 : Int32) ∨ p1 = (1 : Int32) := by
  unfold zf_X10_isImage
  by_cases d1 : 0 ≤ p1.toInt
  rotate_left
  · exact Or.inl ⟨by rw [if_pos (pn_neg d1)], by omega⟩
  obtain ⟨k, rfl, hk, _⟩ := pn_of d1
  by_cases d2 : 2 ≤ k
  · refine Or.inl ⟨by rw [if_neg (pn_nn hk), if_pos ((pv_le 2 (by omega) hk).mpr d2)], ?_⟩
    rw [pn_toInt hk]; omega
  · have : k = 0 ∨ k = 1 := by omega
    rcases this with rfl | rfl
    · exact Or.inr (Or.inl rfl)
    · exact Or.inr (Or.inr rfl)
theorem pr_image_no {thrown p1 : Int32} {all him : Nat → Int32} (h : ¬ (0 ≤ p1.toInt ∧ p1.toInt ≤ 1)) : zf_X11_image n thrown all him p1 = some ((-2 : Int32), 0, all, him) := by
  unfold zf_X11_image
  rw [pr_within, pu_e1, Int32.toInt_toInt64, show (0 : Int64).toInt = 0 from rfl, show (1 : Int64).toInt = 1 from rfl, if_neg h, if_pos rfl]
theorem pr_restore_no {thrown p1 : Int32} {all him : Nat → Int32} (h : ¬ (0 ≤ p1.toInt ∧ p1.toInt ≤ 1)) : zf_X11_restore n thrown all him p1 = some ((-2 : Int32), 0, all) := by
  unfold zf_X11_restore
  rw [pr_within, pu_e1, Int32.toInt_toInt64, show (0 : Int64).toInt = 0 from rfl, show (1 : Int64).toInt = 1 from rfl, if_neg h, if_pos rfl]
theorem pr_image {thrown : Int32} {all him : Nat → Int32} {i : Nat} (hn : 1000 ≤ n) (hi : i < 2) : pu_ok (zf_X11_image n thrown all him (nI i)) (fun r => r.1 = 0 ∧ (∀ k, r.2.2.1 k = if 994 * (i + 1) ≤ k ∧ k < 994 * (i + 1) + 994 then all (k - 994 * (i + 1)) else all k) ∧ r.2.2.2 = va_up him i 1) := by
  unfold zf_X11_image
  rw [pr_within, pu_e1, Int32.toInt_toInt64, show (0 : Int64).toInt = 0 from rfl, show (1 : Int64).toInt = 1 from rfl, pn_toInt (by omega), if_pos (show 0 ≤ (i : Int) ∧ (i : Int) ≤ 1 by omega), if_neg (show ¬ (1 : Int32) = 0 by decide)]
  refine pu_d3.mpr (pu_up (fun j v => v.1 = nI j ∧ ∀ k, v.2 k = if 994 * (i + 1) ≤ k ∧ k < 994 * (i + 1) + j then all (k - 994 * (i + 1)) else all k) 994 (by omega) ⟨rfl, fun k => by rw [if_neg (by omega)]⟩ ?_)
  rintro j ⟨v2, a3⟩ hj ⟨e1, e2⟩
  dsimp only at e1 e2 ⊢
  subst e1
  unfold zb_X11_image_20
  by_cases hd : 994 ≤ j
  · have : j = 994 := by omega
    subst this
    rw [if_pos ((pv_le 994 (by omega) (by omega)).mpr hd)]
    refine pu_out (by decide) ?_
    dsimp only
    rw [pu_st (by omega) (by omega), pu_e1]
    exact pu_some.mpr ⟨rfl, e2, rfl⟩
  · have ea : (994 : Int32) * (nI i + (1 : Int32)) + nI j = nI (994 * (i + 1) + j) := by
      rw [pn_a1, show (994 : Int32) = nI 994 from rfl, pn_mul, pn_add]
    rw [if_neg (fun z => hd ((pv_le 994 (by omega) (by omega)).mp z)), pu_ld (by omega) (by omega), pu_e1, ea, pu_st (by omega) (by omega), pu_e1, pn_a1, pu_e1]
    refine pu_go ⟨by omega, rfl, fun k => ?_⟩
    dsimp only
    by_cases f : k = 994 * (i + 1) + j
    · rw [f, pu_upe, if_pos (by omega), e2 j, if_neg (by omega), show 994 * (i + 1) + j - 994 * (i + 1) = j from by omega]
    · rw [pu_upn f, e2 k]
      by_cases g : 994 * (i + 1) ≤ k ∧ k < 994 * (i + 1) + j
      · rw [if_pos g, if_pos (by omega)]
      · rw [if_neg g, if_neg (by omega)]
theorem pr_restore_e {thrown : Int32} {all him : Nat → Int32} {i : Nat} (hi : i < 2) (h : him i = 0) : zf_X11_restore n thrown all him (nI i) = some ((-5 : Int32), 0, all) := by
  unfold zf_X11_restore
  rw [pr_within, pu_e1, Int32.toInt_toInt64, show (0 : Int64).toInt = 0 from rfl, show (1 : Int64).toInt = 1 from rfl, pn_toInt (by omega), if_pos (show 0 ≤ (i : Int) ∧ (i : Int) ≤ 1 by omega), if_neg (show ¬ (1 : Int32) = 0 by decide), pu_ld (by omega) (by omega), pu_e1, if_pos h]
theorem pr_restore_f {thrown : Int32} {all him : Nat → Int32} {i : Nat} {qi : Nat → Nat} (hn : 1000 ≤ n) (hi : i < 2) (h : ¬ him i = 0) (hI : pp_im all i qi) : pu_ok (zf_X11_restore n thrown all him (nI i)) (fun r => r.1 = 0 ∧ pr_all r.2.2 (pm_wx qi 42 0) ∧ ∀ k, 994 ≤ k → r.2.2 k = all k) := by
  unfold zf_X11_restore
  rw [pr_within, pu_e1, Int32.toInt_toInt64, show (0 : Int64).toInt = 0 from rfl, show (1 : Int64).toInt = 1 from rfl, pn_toInt (by omega), if_pos (show 0 ≤ (i : Int) ∧ (i : Int) ≤ 1 by omega), if_neg (show ¬ (1 : Int32) = 0 by decide), pu_ld (by omega) (by omega), pu_e1, if_neg h]
  refine pu_d3.mpr (pu_up (fun j v => v.1 = nI j ∧ (∀ k, k < j → v.2 k = all (994 * (i + 1) + k)) ∧ ∀ k, 994 ≤ k → v.2 k = all k) 994 (by omega) ⟨rfl, fun k z => by omega, fun _ _ => rfl⟩ ?_)
  rintro j ⟨v2, a3⟩ hj ⟨e1, e2, e3⟩
  dsimp only at e1 e2 e3 ⊢
  subst e1
  unfold zb_X11_restore_32
  by_cases hd : 994 ≤ j
  · have : j = 994 := by omega
    subst this
    rw [if_pos ((pv_le 994 (by omega) (by omega)).mpr hd)]
    refine pu_out (by decide) ?_
    dsimp only
    rw [pv_st 42 (by omega) (by omega), pu_e1]
    refine pu_some.mpr ⟨rfl, fun k hk => ?_, fun k hk => ?_⟩
    · dsimp only
      by_cases f : k = 42
      · rw [f, pu_upe, pm_wx_e]; rfl
      · rw [pu_upn f, pm_wx_n f, e2 k hk]; exact hI k hk
    · dsimp only
      rw [pu_upn (by omega)]; exact e3 k hk
  · have ea : (994 : Int32) * (nI i + (1 : Int32)) + nI j = nI (994 * (i + 1) + j) := by
      rw [pn_a1, show (994 : Int32) = nI 994 from rfl, pn_mul, pn_add]
    rw [if_neg (fun z => hd ((pv_le 994 (by omega) (by omega)).mp z)), ea, pu_ld (by omega) (by omega), pu_e1, pu_st (by omega) (by omega), pu_e1, pn_a1, pu_e1]
    refine pu_go ⟨by omega, rfl, fun k hk => ?_, fun k hk => ?_⟩
    · dsimp only
      by_cases f : k = j
      · rw [f, pu_upe]; exact e3 _ (by omega)
      · rw [pu_upn f]; exact e2 k (by omega)
    · dsimp only
      rw [pu_upn (by omega)]; exact e3 k hk
section
variable {nst nwi nde und ww known : Int32} {top things sr sth ss sw sl li co tf tt mf mt : Int32} {bars gives rough code told : Nat → Int32}
theorem pc_image_e0 (h : pp_K q top things sl li co tf tt mf mt bars gives rough code) : pu_ok (zf_X10_image_e0 top things sr sth ss sw sl li co tf tt mf mt bars gives rough code nst nwi nde) (fun r => r.1 = 0 ∧ pp_K q r.2.1 r.2.2.1 r.2.2.2.2.2.2.2.1 r.2.2.2.2.2.2.2.2.1 r.2.2.2.2.2.2.2.2.2.1 r.2.2.2.2.2.2.2.2.2.2.1 r.2.2.2.2.2.2.2.2.2.2.2.1 r.2.2.2.2.2.2.2.2.2.2.2.2.1 r.2.2.2.2.2.2.2.2.2.2.2.2.2.1 r.2.2.2.2.2.2.2.2.2.2.2.2.2.2.1 r.2.2.2.2.2.2.2.2.2.2.2.2.2.2.2.1 r.2.2.2.2.2.2.2.2.2.2.2.2.2.2.2.2.1 r.2.2.2.2.2.2.2.2.2.2.2.2.2.2.2.2.2.1 ∧ r.2.2.2.2.2.2.2.2.2.2.2.2.2.2.2.2.2.2.1 = nst ∧ r.2.2.2.2.2.2.2.2.2.2.2.2.2.2.2.2.2.2.2.1 = nwi ∧ r.2.2.2.2.2.2.2.2.2.2.2.2.2.2.2.2.2.2.2.2 = nde) := by
  unfold zf_X10_image_e0
  refine pu_d17.mpr (pu_mono (pc_copyK (c := 0) h) ?_)
  rintro ⟨u1, u2, u3, u4, u5, u6, u7, u8, u9, u10, u11, u12, u13, u14, u15, u16, u17⟩ ⟨v1, v2, v3, v4, v5, v6, v7, v8, v9, v10, v11, v12, v13, v14⟩
  dsimp only at v1 v2 v3 v4 v5 v6 v7 v8 v9 v10 v11 v12 v13 v14 ⊢
  subst v1 v2 v3 v4 v5 v6 v7 v8 v9 v10 v11 v12 v13
  unfold zf_X4_copyFrom
  rw [pu_e3]
  exact pu_some.mpr ⟨rfl, v14, rfl, rfl, rfl⟩
theorem pc_image_f0 {j1 j2 j3 j4 j5 j6 j7 j8 j9 j10 j11 j12 j13 k1 k2 k3 : Int32} {b1 b2 b3 b4 : Nat → Int32} (h : pp_K q top things sl li co tf tt mf mt bars gives rough code) : pu_ok (zf_X10_image_f0 top things sr sth ss sw sl li co tf tt mf mt bars gives rough code nst nwi nde j1 j2 j3 j4 j5 j6 j7 j8 j9 j10 j11 j12 j13 b1 b2 b3 b4 k1 k2 k3) (fun r => r.1 = 0 ∧ pp_K q r.2.1 r.2.2.1 r.2.2.2.2.2.2.2.1 r.2.2.2.2.2.2.2.2.1 r.2.2.2.2.2.2.2.2.2.1 r.2.2.2.2.2.2.2.2.2.2.1 r.2.2.2.2.2.2.2.2.2.2.2.1 r.2.2.2.2.2.2.2.2.2.2.2.2.1 r.2.2.2.2.2.2.2.2.2.2.2.2.2.1 r.2.2.2.2.2.2.2.2.2.2.2.2.2.2.1 r.2.2.2.2.2.2.2.2.2.2.2.2.2.2.2.1 r.2.2.2.2.2.2.2.2.2.2.2.2.2.2.2.2.1 r.2.2.2.2.2.2.2.2.2.2.2.2.2.2.2.2.2.1 ∧ r.2.2.2.2.2.2.2.2.2.2.2.2.2.2.2.2.2.2.1 = nst ∧ r.2.2.2.2.2.2.2.2.2.2.2.2.2.2.2.2.2.2.2.1 = nwi ∧ r.2.2.2.2.2.2.2.2.2.2.2.2.2.2.2.2.2.2.2.2 = nde) := by
  unfold zf_X10_image_f0
  refine pu_d17.mpr (pu_mono (pc_copyK (c := 0) h) ?_)
  rintro ⟨u1, u2, u3, u4, u5, u6, u7, u8, u9, u10, u11, u12, u13, u14, u15, u16, u17⟩ ⟨v1, v2, v3, v4, v5, v6, v7, v8, v9, v10, v11, v12, v13, v14⟩
  dsimp only at v1 v2 v3 v4 v5 v6 v7 v8 v9 v10 v11 v12 v13 v14 ⊢
  subst v1 v2 v3 v4 v5 v6 v7 v8 v9 v10 v11 v12 v13
  unfold zf_X4_copyFrom
  rw [pu_e3]
  exact pu_some.mpr ⟨rfl, v14, rfl, rfl, rfl⟩
theorem pc_restore_f0 {j1 j2 j3 j4 j5 j6 j7 j8 j9 j10 j11 j12 j13 k1 k2 k3 : Int32} {b1 b2 b3 b4 pst pwi pde : Nat → Int32} (hn : 1000 ≤ n) (h : pp_K q top things sl li co tf tt mf mt bars gives rough code) (hN : pp_now q nst nwi nde) : pu_ok (zf_X10_restore_f0 n und j1 j2 j3 j4 j5 j6 j7 j8 j9 j10 j11 j12 j13 b1 b2 b3 b4 k1 k2 k3 ww told known top things sr sth ss sw sl li co tf tt mf mt bars gives rough code nst nwi nde) (fun r => r.1 = 0 ∧ pp_K (pm_wx q 42 0) r.2.2.1 r.2.2.2.1 r.2.2.2.2.2.2.2.2.1 r.2.2.2.2.2.2.2.2.2.1 r.2.2.2.2.2.2.2.2.2.2.1 r.2.2.2.2.2.2.2.2.2.2.2.1 r.2.2.2.2.2.2.2.2.2.2.2.2.1 r.2.2.2.2.2.2.2.2.2.2.2.2.2.1 r.2.2.2.2.2.2.2.2.2.2.2.2.2.2.1 r.2.2.2.2.2.2.2.2.2.2.2.2.2.2.2.1 r.2.2.2.2.2.2.2.2.2.2.2.2.2.2.2.2.1 r.2.2.2.2.2.2.2.2.2.2.2.2.2.2.2.2.2.1 r.2.2.2.2.2.2.2.2.2.2.2.2.2.2.2.2.2.2.1 ∧ pp_new (pm_wx q 42 0) r.2.1 r.2.2.2.2.2.2.2.2.2.2.2.2.2.2.2.2.2.2.2.1 r.2.2.2.2.2.2.2.2.2.2.2.2.2.2.2.2.2.2.2.2.1 r.2.2.2.2.2.2.2.2.2.2.2.2.2.2.2.2.2.2.2.2.2.1 r.2.2.2.2.2.2.2.2.2.2.2.2.2.2.2.2.2.2.2.2.2.2.1 r.2.2.2.2.2.2.2.2.2.2.2.2.2.2.2.2.2.2.2.2.2.2.2.1 pst pwi pde ∧ r.2.2.2.2.2.2.2.2.2.2.2.2.2.2.2.2.2.2.2.2.2.2.2.2 = 0) := by
  unfold zf_X10_restore_f0
  have hsm : pm_same q (pm_wx q 42 0) := fun k hk => pm_wx_n (by omega)
  have hne : ∀ k, ¬ k = 42 → pm_wx q 42 0 k = q k := fun k hk => pm_wx_n hk
  refine pu_d17.mpr (pu_mono (pc_copyK (c := 0) h) ?_)
  rintro ⟨u1, u2, u3, u4, u5, u6, u7, u8, u9, u10, u11, u12, u13, u14, u15, u16, u17⟩ ⟨v1, v2, v3, v4, v5, v6, v7, v8, v9, v10, v11, v12, v13, v14⟩
  dsimp only at v1 v2 v3 v4 v5 v6 v7 v8 v9 v10 v11 v12 v13 v14 ⊢
  subst v1 v2 v3 v4 v5 v6 v7 v8 v9 v10 v11 v12 v13
  obtain ⟨n1, n2, n3, n4, n5, n6, n7⟩ := hN
  unfold zf_X4_copyFrom
  rw [pu_e3, n2]
  refine pu_d4.mpr (pu_mono (pc_anew (q := q) hn h.1 n7) ?_)
  rintro ⟨w1, w2, w3, w4⟩ ⟨x1, x2, x3, x4⟩
  dsimp only at x1 x2 x3 x4 ⊢
  subst x1 x2 x4
  refine pu_some.mpr ⟨rfl, pp_same_K hsm v14, ⟨⟨?_, ?_, ?_, ?_, ?_, ?_, ?_⟩, ⟨?_, ?_, ?_⟩, ?_, ?_⟩, rfl⟩
  · rw [n1]; unfold pm_now; rw [hne 37 (by omega), hne 38 (by omega), hne 39 (by omega)]
  · rw [hne 40 (by omega)]
  · rw [hne 41 (by omega)]; exact n3
  · rw [hne 37 (by omega), hne 1 (by omega)]; exact n4
  · rw [hne 38 (by omega), hne 2 (by omega)]; exact n5
  · rw [hne 39 (by omega)]; exact n6
  · rw [hne 40 (by omega)]; exact n7
  · rw [pm_wx_e]; rfl
  · rw [pm_wx_e]; omega
  · intro k hk; rw [pm_wx_e] at hk; omega
  · rw [hne 40 (by omega)]
  · rw [hne 40 (by omega)]; exact pc_same_told hsm h.1 x3
theorem pc_image_e1 (h : pp_K q top things sl li co tf tt mf mt bars gives rough code) : pu_ok (zf_X10_image_e1 top things sr sth ss sw sl li co tf tt mf mt bars gives rough code nst nwi nde) (fun r => r.1 = 0 ∧ pp_K q r.2.1 r.2.2.1 r.2.2.2.2.2.2.2.1 r.2.2.2.2.2.2.2.2.1 r.2.2.2.2.2.2.2.2.2.1 r.2.2.2.2.2.2.2.2.2.2.1 r.2.2.2.2.2.2.2.2.2.2.2.1 r.2.2.2.2.2.2.2.2.2.2.2.2.1 r.2.2.2.2.2.2.2.2.2.2.2.2.2.1 r.2.2.2.2.2.2.2.2.2.2.2.2.2.2.1 r.2.2.2.2.2.2.2.2.2.2.2.2.2.2.2.1 r.2.2.2.2.2.2.2.2.2.2.2.2.2.2.2.2.1 r.2.2.2.2.2.2.2.2.2.2.2.2.2.2.2.2.2.1 ∧ r.2.2.2.2.2.2.2.2.2.2.2.2.2.2.2.2.2.2.1 = nst ∧ r.2.2.2.2.2.2.2.2.2.2.2.2.2.2.2.2.2.2.2.1 = nwi ∧ r.2.2.2.2.2.2.2.2.2.2.2.2.2.2.2.2.2.2.2.2 = nde) := by
  unfold zf_X10_image_e1
  refine pu_d17.mpr (pu_mono (pc_copyK (c := 0) h) ?_)
  rintro ⟨u1, u2, u3, u4, u5, u6, u7, u8, u9, u10, u11, u12, u13, u14, u15, u16, u17⟩ ⟨v1, v2, v3, v4, v5, v6, v7, v8, v9, v10, v11, v12, v13, v14⟩
  dsimp only at v1 v2 v3 v4 v5 v6 v7 v8 v9 v10 v11 v12 v13 v14 ⊢
  subst v1 v2 v3 v4 v5 v6 v7 v8 v9 v10 v11 v12 v13
  unfold zf_X4_copyFrom
  rw [pu_e3]
  exact pu_some.mpr ⟨rfl, v14, rfl, rfl, rfl⟩
theorem pc_image_f1 {j1 j2 j3 j4 j5 j6 j7 j8 j9 j10 j11 j12 j13 k1 k2 k3 : Int32} {b1 b2 b3 b4 : Nat → Int32} (h : pp_K q top things sl li co tf tt mf mt bars gives rough code) : pu_ok (zf_X10_image_f1 top things sr sth ss sw sl li co tf tt mf mt bars gives rough code nst nwi nde j1 j2 j3 j4 j5 j6 j7 j8 j9 j10 j11 j12 j13 b1 b2 b3 b4 k1 k2 k3) (fun r => r.1 = 0 ∧ pp_K q r.2.1 r.2.2.1 r.2.2.2.2.2.2.2.1 r.2.2.2.2.2.2.2.2.1 r.2.2.2.2.2.2.2.2.2.1 r.2.2.2.2.2.2.2.2.2.2.1 r.2.2.2.2.2.2.2.2.2.2.2.1 r.2.2.2.2.2.2.2.2.2.2.2.2.1 r.2.2.2.2.2.2.2.2.2.2.2.2.2.1 r.2.2.2.2.2.2.2.2.2.2.2.2.2.2.1 r.2.2.2.2.2.2.2.2.2.2.2.2.2.2.2.1 r.2.2.2.2.2.2.2.2.2.2.2.2.2.2.2.2.1 r.2.2.2.2.2.2.2.2.2.2.2.2.2.2.2.2.2.1 ∧ r.2.2.2.2.2.2.2.2.2.2.2.2.2.2.2.2.2.2.1 = nst ∧ r.2.2.2.2.2.2.2.2.2.2.2.2.2.2.2.2.2.2.2.1 = nwi ∧ r.2.2.2.2.2.2.2.2.2.2.2.2.2.2.2.2.2.2.2.2 = nde) := by
  unfold zf_X10_image_f1
  refine pu_d17.mpr (pu_mono (pc_copyK (c := 0) h) ?_)
  rintro ⟨u1, u2, u3, u4, u5, u6, u7, u8, u9, u10, u11, u12, u13, u14, u15, u16, u17⟩ ⟨v1, v2, v3, v4, v5, v6, v7, v8, v9, v10, v11, v12, v13, v14⟩
  dsimp only at v1 v2 v3 v4 v5 v6 v7 v8 v9 v10 v11 v12 v13 v14 ⊢
  subst v1 v2 v3 v4 v5 v6 v7 v8 v9 v10 v11 v12 v13
  unfold zf_X4_copyFrom
  rw [pu_e3]
  exact pu_some.mpr ⟨rfl, v14, rfl, rfl, rfl⟩
theorem pc_restore_f1 {j1 j2 j3 j4 j5 j6 j7 j8 j9 j10 j11 j12 j13 k1 k2 k3 : Int32} {b1 b2 b3 b4 pst pwi pde : Nat → Int32} (hn : 1000 ≤ n) (h : pp_K q top things sl li co tf tt mf mt bars gives rough code) (hN : pp_now q nst nwi nde) : pu_ok (zf_X10_restore_f1 n und j1 j2 j3 j4 j5 j6 j7 j8 j9 j10 j11 j12 j13 b1 b2 b3 b4 k1 k2 k3 ww told known top things sr sth ss sw sl li co tf tt mf mt bars gives rough code nst nwi nde) (fun r => r.1 = 0 ∧ pp_K (pm_wx q 42 0) r.2.2.1 r.2.2.2.1 r.2.2.2.2.2.2.2.2.1 r.2.2.2.2.2.2.2.2.2.1 r.2.2.2.2.2.2.2.2.2.2.1 r.2.2.2.2.2.2.2.2.2.2.2.1 r.2.2.2.2.2.2.2.2.2.2.2.2.1 r.2.2.2.2.2.2.2.2.2.2.2.2.2.1 r.2.2.2.2.2.2.2.2.2.2.2.2.2.2.1 r.2.2.2.2.2.2.2.2.2.2.2.2.2.2.2.1 r.2.2.2.2.2.2.2.2.2.2.2.2.2.2.2.2.1 r.2.2.2.2.2.2.2.2.2.2.2.2.2.2.2.2.2.1 r.2.2.2.2.2.2.2.2.2.2.2.2.2.2.2.2.2.2.1 ∧ pp_new (pm_wx q 42 0) r.2.1 r.2.2.2.2.2.2.2.2.2.2.2.2.2.2.2.2.2.2.2.1 r.2.2.2.2.2.2.2.2.2.2.2.2.2.2.2.2.2.2.2.2.1 r.2.2.2.2.2.2.2.2.2.2.2.2.2.2.2.2.2.2.2.2.2.1 r.2.2.2.2.2.2.2.2.2.2.2.2.2.2.2.2.2.2.2.2.2.2.1 r.2.2.2.2.2.2.2.2.2.2.2.2.2.2.2.2.2.2.2.2.2.2.2.1 pst pwi pde ∧ r.2.2.2.2.2.2.2.2.2.2.2.2.2.2.2.2.2.2.2.2.2.2.2.2 = 0) := by
  unfold zf_X10_restore_f1
  have hsm : pm_same q (pm_wx q 42 0) := fun k hk => pm_wx_n (by omega)
  have hne : ∀ k, ¬ k = 42 → pm_wx q 42 0 k = q k := fun k hk => pm_wx_n hk
  refine pu_d17.mpr (pu_mono (pc_copyK (c := 0) h) ?_)
  rintro ⟨u1, u2, u3, u4, u5, u6, u7, u8, u9, u10, u11, u12, u13, u14, u15, u16, u17⟩ ⟨v1, v2, v3, v4, v5, v6, v7, v8, v9, v10, v11, v12, v13, v14⟩
  dsimp only at v1 v2 v3 v4 v5 v6 v7 v8 v9 v10 v11 v12 v13 v14 ⊢
  subst v1 v2 v3 v4 v5 v6 v7 v8 v9 v10 v11 v12 v13
  obtain ⟨n1, n2, n3, n4, n5, n6, n7⟩ := hN
  unfold zf_X4_copyFrom
  rw [pu_e3, n2]
  refine pu_d4.mpr (pu_mono (pc_anew (q := q) hn h.1 n7) ?_)
  rintro ⟨w1, w2, w3, w4⟩ ⟨x1, x2, x3, x4⟩
  dsimp only at x1 x2 x3 x4 ⊢
  subst x1 x2 x4
  refine pu_some.mpr ⟨rfl, pp_same_K hsm v14, ⟨⟨?_, ?_, ?_, ?_, ?_, ?_, ?_⟩, ⟨?_, ?_, ?_⟩, ?_, ?_⟩, rfl⟩
  · rw [n1]; unfold pm_now; rw [hne 37 (by omega), hne 38 (by omega), hne 39 (by omega)]
  · rw [hne 40 (by omega)]
  · rw [hne 41 (by omega)]; exact n3
  · rw [hne 37 (by omega), hne 1 (by omega)]; exact n4
  · rw [hne 38 (by omega), hne 2 (by omega)]; exact n5
  · rw [hne 39 (by omega)]; exact n6
  · rw [hne 40 (by omega)]; exact n7
  · rw [pm_wx_e]; rfl
  · rw [pm_wx_e]; omega
  · intro k hk; rw [pm_wx_e] at hk; omega
  · rw [hne 40 (by omega)]
  · rw [hne 40 (by omega)]; exact pc_same_told hsm h.1 x3
end
end PIm
