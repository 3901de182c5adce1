/-! the laws' readers: units of truth -/
theorem pe_un {x : Nat → Nat} {c c1 z bu : Nat} {tl ty : Bool} (h1 : c ≤ c1) (hl : ∀ ts : List Bool, ts.length + bu ≤ 60 → pe_tc x c (c1 - c) ts = some (tl :: ts)) (ho : ∀ ts : List Bool, pe_ot z (tl :: ts) = some (ty :: ts)) : ∀ ts : List Bool, ts.length + bu ≤ 60 → pe_tc (pm_wx x c1 z) c (c1 + 1 - c) ts = some (ty :: ts) := by
  intro ts hts
  rw [show c1 + 1 - c = (c1 - c) + 1 from by omega, pe_tc_app, show pe_tc (pm_wx x c1 z) c (c1 - c) ts = some (tl :: ts) from by
    rw [← hl ts hts]
    exact pe_tc_cg _ _ _ (fun i i1 i2 => by rw [pm_wx_n (by omega)])]
  show pe_tc (pm_wx x c1 z) (c + (c1 - c)) 1 (tl :: ts) = _
  rw [show c + (c1 - c) = c1 from by omega]
  show (pe_ot (pm_wx x c1 z c1) (tl :: ts)).bind (pe_tc (pm_wx x c1 z) (c1 + 1) 0) = _
  rw [pm_wx_e, ho]
  rfl
section PUn
variable {n sz : Nat} {B : Nat → Nat} {ct rt : Nat → Int32} {may rd : Int32}
theorem pp_Unit {d dp : Nat} (hn : 1000 ≤ n) (hx : pp_tx B sz ct rt) (hdp : dp ≤ 6) (hd : 3 ≤ d) (hS : pp_R n B sz ct rt may rd d 3 dp) (hU : dp < 6 → pp_R n B sz ct rt may rd d 2 (dp + 1)) (hT : dp < 6 → pp_R n B sz ct rt may rd d 0 (dp + 1)) : pp_R n B sz ct rt may rd (d + 1) 2 dp := by
  have h9 := hx.1
  intro F0 a c x st en ki va fa pl co code at1 be rk nu wa fresh hta hC hca
  show ∃ g st' en' ki' va' f p co' code' at' be' rk' nu' wr wa' fresh', zh_X5_readUnit n (zg_X5p n d) (nI sz) st en ki va may fa pl ct co code (nI dp) = some (g, st', en', ki', va', f, p, co', code') ∧ zh_X11_readUnit n (zg_X11p n d) at1 be (nI sz) rk nu 0 wa rd rt fresh (nI dp) = some (at', be', rk', nu', wr, wa', fresh') ∧ _
  unfold zh_X5_readUnit zh_X11_readUnit
  rw [pr_is, pu_e1]
  rcases pp_isT (i := 20) (c := 23) hn hx hta (by unfold pm_cc; decide) with ⟨h1, h2, h3⟩ | ⟨h1, h2⟩
  · -- not
    rw [h1, pu_e1, if_neg (show ¬ (1 : Int32) = 0 by decide), if_pos (show rk = (23 : Int32) from h2), if_neg (show ¬ (1 : Int32) = 0 by decide)]
    rcases pp_goin (fa := fa) (pl := pl) (wa := wa) hn hx hta h3 hdp with ⟨hdl, st3, en3, ki3, va3, at3, be3, rk3, nu3, a3, y1, y2, y3, y4⟩ | ⟨f, f1, f2, f3⟩
    rotate_left
    · rw [f2, f3, pu_e7, pu_e7, if_pos rfl, if_pos rfl]
      exact ⟨_, _, _, _, _, _, _, _, _, _, _, _, _, _, _, _, rfl, rfl, Or.inr ⟨rfl, f1, rfl, rfl⟩⟩
    rw [y1, y2, pu_e7, pu_e7, if_neg (show ¬ (1 : Int32) = 0 by decide), if_neg (show ¬ (1 : Int32) = 0 by decide), pn_a1]
    obtain ⟨g4, st4, en4, ki4, va4, f4, p4, co4, code4, at4, be4, rk4, nu4, wr4, wa4, fresh4, i1, i2, i3⟩ := hU hdl F0 a3 c x st3 en3 ki3 va3 fa pl co code at3 be3 rk3 nu3 wa fresh y4 hC (by omega)
    rw [i1, i2, pu_e9, pu_e7]
    rcases i3 with ⟨j1, j2, j3, j4, a5, c5, x5, j5, j6, j7, j8, j9, j10, j11⟩ | ⟨j1, j2, j3, j4⟩
    · have hle5 := pp_ta_le j8
      obtain ⟨code6, fresh6, m1, m2, m3⟩ := pp_emit (z := 3006) j9 (by omega)
      rw [j1, if_neg (show ¬ (1 : Int32) = 0 by decide), show (1018 : Int32) = nI (pe_cm 3006) from by decide, m1, pu_e3, if_neg (show ¬ (1 : Int32) = 0 by decide), j2, show (3006 : Int32) = nI 3006 from rfl, m2, pu_e1]
      refine ⟨_, _, _, _, _, _, _, _, _, _, _, _, _, _, _, _, rfl, rfl, Or.inl ⟨rfl, rfl, j3, j4, a5, c5 + 1, pm_wx x5 c5 3006, by omega, by omega, by omega, j8, m3, ?_, ?_⟩⟩
      · intro l hl
        rw [pm_wx_n (by omega), j10 l (by omega)]
      · exact pe_un j6 (fun ts h => j11 ts (by omega)) (fun ts => rfl)
    · rw [j1, if_pos rfl, pr_codesW j2, pu_e1]
      exact ⟨_, _, _, _, _, _, _, _, _, _, _, _, _, _, _, _, rfl, rfl, Or.inr ⟨rfl, j2, j3, j4⟩⟩
  rw [h1, pu_e1, if_pos (show (0 : Int32) = 0 from rfl), if_neg (show ¬ rk = (23 : Int32) from h2), if_pos (show (0 : Int32) = 0 from rfl), pr_is, pu_e1]
  rcases pp_isT (i := 21) (c := 37) hn hx hta (by unfold pm_cc; decide) with ⟨h1, h2, h3⟩ | ⟨h1, h2⟩
  · -- [ ]
    rw [h1, pu_e1, if_neg (show ¬ (1 : Int32) = 0 by decide), if_pos (show rk = (37 : Int32) from h2), if_neg (show ¬ (1 : Int32) = 0 by decide)]
    rcases pp_goin (fa := fa) (pl := pl) (wa := wa) hn hx hta h3 hdp with ⟨hdl, st3, en3, ki3, va3, at3, be3, rk3, nu3, a3, y1, y2, y3, y4⟩ | ⟨f, f1, f2, f3⟩
    rotate_left
    · rw [f2, f3, pu_e7, pu_e7, if_pos rfl, if_pos rfl]
      exact ⟨_, _, _, _, _, _, _, _, _, _, _, _, _, _, _, _, rfl, rfl, Or.inr ⟨rfl, f1, rfl, rfl⟩⟩
    rw [y1, y2, pu_e7, pu_e7, if_neg (show ¬ (1 : Int32) = 0 by decide), if_neg (show ¬ (1 : Int32) = 0 by decide), pn_a1]
    obtain ⟨g4, st4, en4, ki4, va4, f4, p4, co4, code4, at4, be4, rk4, nu4, wr4, wa4, fresh4, i1, i2, i3⟩ := hT hdl F0 a3 c x st3 en3 ki3 va3 fa pl co code at3 be3 rk3 nu3 wa fresh y4 hC (by omega)
    rw [i1, i2, pu_e9, pu_e7]
    rcases i3 with ⟨j1, j2, j3, j4, a5, c5, x5, j5, j6, j7, j8, j9, j10, j11⟩ | ⟨j1, j2, j3, j4⟩
    · subst j1 j2 j3 j4
      rw [if_neg (show ¬ (1 : Int32) = 0 by decide)]
      rcases pp_exp (i := 22) 38 (fa := f4) (pl := p4) hn hx j8 (by unfold pm_cc; decide) with ⟨st6, en6, ki6, va6, at6, be6, rk6, nu6, a6, l1, l2, l3, l4⟩ | ⟨f, l1, l2, l3, l4⟩
      · rw [l1, l2, pu_e7, pu_e5, if_neg (show ¬ (1 : Int32) = 0 by decide), if_neg (show ¬ (1 : Int32) = 0 by decide)]
        exact ⟨_, _, _, _, _, _, _, _, _, _, _, _, _, _, _, _, rfl, rfl, Or.inl ⟨rfl, rfl, rfl, rfl, a6, c5, x5, by omega, by omega, by omega, l4, j9, j10, fun ts h => j11 ts (by omega)⟩⟩
      · rw [l2, l3, pu_e7, pu_e5, if_pos rfl, if_pos rfl, l4, pu_e2]
        exact ⟨_, _, _, _, _, _, _, _, _, _, _, _, _, _, _, _, rfl, rfl, Or.inr ⟨rfl, l1, rfl, rfl⟩⟩
    · rw [j1, if_pos rfl, pr_eatsW j2, pu_e5, if_pos rfl, pr_failsW j2, pu_e2]
      exact ⟨_, _, _, _, _, _, _, _, _, _, _, _, _, _, _, _, rfl, rfl, Or.inr ⟨rfl, j2, j3, j4⟩⟩
  -- two sums
  rw [h1, pu_e1, if_pos (show (0 : Int32) = 0 from rfl), if_neg (show ¬ rk = (37 : Int32) from h2), if_pos (show (0 : Int32) = 0 from rfl)]
  obtain ⟨g4, st4, en4, ki4, va4, f4, p4, co4, code4, at4, be4, rk4, nu4, wr4, wa4, fresh4, i1, i2, i3⟩ := hS F0 a c x st en ki va fa pl co code at1 be rk nu wa fresh hta hC hca
  rw [i1, i2, pu_e9, pu_e7]
  rcases i3 with ⟨j1, j2, j3, j4, a5, c5, x5, j5, j6, j7, j8, j9, j10, j11⟩ | ⟨j1, j2, j3, j4⟩
  rotate_left
  · rw [j1, if_pos rfl, pr_isW j2, pu_e1, if_pos rfl, pr_isW j2, pu_e1, if_pos rfl, pu_e1, pu_e1, if_pos rfl, pu_e1, if_pos rfl, pr_isW j2, pu_e1, if_pos rfl, pr_failsW j2, pu_e2, pu_e6, pr_idle (by omega) j2 d 3 (by omega) (by omega), pu_e7, pr_codesW j2, pu_e1]
    exact ⟨_, _, _, _, _, _, _, _, _, _, _, _, _, _, _, _, rfl, rfl, Or.inr ⟨rfl, j2, j3, j4⟩⟩
  subst j1 j2 j3 j4
  rw [if_neg (show ¬ (1 : Int32) = 0 by decide)]
  have hrest : ∀ (z : Nat) (u : Int32), (z = 3003 ∨ z = 3004 ∨ z = 3005) → u = nI (pe_cm z) → ∀ st6 en6 ki6 va6 at6 be6 rk6 nu6 a6, a5 < a6 → pp_ta B sz a6 st6 en6 ki6 va6 at6 be6 rk6 nu6 → ∃ g st' en' ki' va' f p co' code' at' be' rk' nu' wr wa' fresh', zd_9 (zg_X5p n d 3 (nI sz) st6 en6 ki6 va6 may f4 p4 ct co4 code4 (nI dp)) (fun v21 v22 v23 v24 v25 v26 v27 v28 a29 => if v21 = 0 then some ((0 : Int32), v22, v23, v24, v25, v26, v27, v28, a29) else zd_3 (zf_X0_addSign v28 a29 u) (fun v30 v31 a32 => if v30 = 0 then some ((0 : Int32), v22, v23, v24, v25, v26, v27, v31, a32) else some ((1 : Int32), v22, v23, v24, v25, v26, v27, v31, a32))) = some (g, st', en', ki', va', f, p, co', code') ∧ zd_7 (zg_X11p n d 3 at6 be6 (nI sz) rk6 nu6 0 wa4 rd rt fresh4 (nI dp)) (fun v36 v37 v38 v39 v40 v41 a42 => zd_1 (zf_X11_codes v40 a42 (nI z)) (fun a43 => some (v36, v37, v38, v39, v40, v41, a43))) = some (at', be', rk', nu', wr, wa', fresh') ∧ pp_Q B sz F0 f4 p4 1 a c x ((6 - 2) + 5 * (6 - dp)) false g st' en' ki' va' f p co' code' at' be' rk' nu' wr wa' fresh' := by
    intro z u hz hu st6 en6 ki6 va6 at6 be6 rk6 nu6 a6 k3 k4
    obtain ⟨g7, st7, en7, ki7, va7, f7, p7, co7, code7, at7, be7, rk7, nu7, wr7, wa7, fresh7, s1, s2, s3⟩ := hS F0 a6 c5 x5 st6 en6 ki6 va6 f4 p4 co4 code4 at6 be6 rk6 nu6 wa4 fresh4 k4 j9 (by omega)
    rw [s1, s2, pu_e9, pu_e7]
    rcases s3 with ⟨o1, o2, o3, o4, a8, c8, x8, o5, o6, o7, o8, o9, o10, o11⟩ | ⟨o1, o2, o3, o4⟩
    · have hle8 := pp_ta_le o8
      obtain ⟨code6, fresh6, m1, m2, m3⟩ := pp_emit (z := z) o9 (by omega)
      rw [o1, if_neg (show ¬ (1 : Int32) = 0 by decide), hu, m1, pu_e3, if_neg (show ¬ (1 : Int32) = 0 by decide), o2, m2, pu_e1]
      refine ⟨_, _, _, _, _, _, _, _, _, _, _, _, _, _, _, _, rfl, rfl, Or.inl ⟨rfl, rfl, o3, o4, a8, c8 + 1, pm_wx x8 c8 z, by omega, by omega, by omega, o8, m3, ?_, ?_⟩⟩
      · intro l hl
        rw [pm_wx_n (by omega), o10 l (by omega), j10 l hl]
      · refine pe_bin j6 o6 o10 (fun ts h => j11 ts (by omega)) (fun ts h => o11 ts (by omega)) (by omega) (fun ts => ?_)
        rcases hz with rfl | rfl | rfl <;> rfl
    · rw [o1, if_pos rfl, pr_codesW o2, pu_e1]
      exact ⟨_, _, _, _, _, _, _, _, _, _, _, _, _, _, _, _, rfl, rfl, Or.inr ⟨rfl, o2, o3, o4⟩⟩
  unfold zf_X5_comparison
  rw [pr_is, pr_is]
  rcases pp_isT (i := 23) (c := 39) hn hx j8 (by unfold pm_cc; decide) with ⟨h1, h2, h3⟩ | ⟨h1, h2⟩
  · obtain ⟨st6, en6, ki6, va6, at6, be6, rk6, nu6, a6, k1, k2, k3, k4⟩ := pp_go hn hx j8 (by rw [h3]; decide)
    rw [h1, pu_e1, if_neg (show ¬ (1 : Int32) = 0 by decide), pu_e1, if_neg (show ¬ (1013 : Int32) = -1 by decide), k1, pu_e4, if_pos (show rk4 = (39 : Int32) from h2), pu_e1, if_neg (show ¬ (1 : Int32) = 0 by decide), pu_e1, pu_e1, if_neg (show ¬ (1 : Int32) = 0 by decide), k2, pu_e4, pu_e6]
    exact hrest 3003 1013 (by omega) (by decide) st6 en6 ki6 va6 at6 be6 rk6 nu6 a6 k3 k4
  rw [h1, pu_e1, if_pos (show (0 : Int32) = 0 from rfl), if_neg (show ¬ rk4 = (39 : Int32) from h2), pu_e1, if_pos (show (0 : Int32) = 0 from rfl), pr_is]
  rcases pp_isT (i := 24) (c := 40) hn hx j8 (by unfold pm_cc; decide) with ⟨h3, h4, h5⟩ | ⟨h3, h4⟩
  · obtain ⟨st6, en6, ki6, va6, at6, be6, rk6, nu6, a6, k1, k2, k3, k4⟩ := pp_go hn hx j8 (by rw [h5]; decide)
    rw [h3, pu_e1, if_neg (show ¬ (1 : Int32) = 0 by decide), pu_e1, if_neg (show ¬ (1014 : Int32) = -1 by decide), k1, pu_e4, if_pos (show rk4 = (40 : Int32) from h4), pu_e1, if_neg (show ¬ (1 : Int32) = 0 by decide), pu_e1, pu_e1, if_pos (show (0 : Int32) = 0 from rfl), pu_e1, if_neg (show ¬ (1 : Int32) = 0 by decide), k2, pu_e4, pu_e6]
    exact hrest 3004 1014 (by omega) (by decide) st6 en6 ki6 va6 at6 be6 rk6 nu6 a6 k3 k4
  rw [h3, pu_e1, if_pos (show (0 : Int32) = 0 from rfl), if_neg (show ¬ rk4 = (40 : Int32) from h4), pu_e1, if_pos (show (0 : Int32) = 0 from rfl), pu_e1, pu_e1, if_pos (show (0 : Int32) = 0 from rfl), pu_e1, if_pos (show (0 : Int32) = 0 from rfl)]
  rcases pp_isT (i := 25) (c := 41) hn hx j8 (by unfold pm_cc; decide) with ⟨h5, h6, h7⟩ | ⟨h5, h6⟩
  · obtain ⟨st6, en6, ki6, va6, at6, be6, rk6, nu6, a6, k1, k2, k3, k4⟩ := pp_go hn hx j8 (by rw [h7]; decide)
    rw [h5, pu_e1, if_neg (show ¬ (1 : Int32) = 0 by decide), pu_e1, if_neg (show ¬ (1015 : Int32) = -1 by decide), k1, pu_e4, if_pos (show rk4 = (41 : Int32) from h6), pu_e1, if_neg (show ¬ (1 : Int32) = 0 by decide), k2, pu_e4, pu_e6]
    exact hrest 3005 1015 (by omega) (by decide) st6 en6 ki6 va6 at6 be6 rk6 nu6 a6 k3 k4
  obtain ⟨f, f1, f2, f3, f5⟩ := pp_ref j8 hx
  rw [h5, pu_e1, if_pos (show (0 : Int32) = 0 from rfl), pu_e1, if_pos (show (-1 : Int32) = -1 from rfl), f2, pu_e3, show za_zb (0 : Int32) = some 0 from rfl, pu_e1, if_neg (show ¬ rk4 = (41 : Int32) from h6), pu_e1, if_pos (show (0 : Int32) = 0 from rfl), f3, pu_e2, pu_e6, pr_idle (by omega) f1 d 3 (by omega) (by omega), pu_e7, pr_codesW f1, pu_e1]
  exact ⟨_, _, _, _, _, _, _, _, _, _, _, _, _, _, _, _, rfl, rfl, Or.inr ⟨rfl, f1, rfl, f5⟩⟩
end PUn
