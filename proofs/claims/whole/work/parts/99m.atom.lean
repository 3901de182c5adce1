/-! the laws' readers: if, atoms, all -/
theorem pe_tri {x1 x2 x3 : Nat → Nat} {c c1 c2 c3 bu : Nat} (h1 : c ≤ c1) (h2 : c1 ≤ c2) (h3 : c2 ≤ c3) (hx2 : ∀ k, k < c1 → x2 k = x1 k) (hx3 : ∀ k, k < c2 → x3 k = x2 k) (hl : ∀ ts : List Bool, ts.length + bu ≤ 60 → pe_tc x1 c (c1 - c) ts = some (false :: ts)) (hm : ∀ ts : List Bool, ts.length + (bu - 2) ≤ 60 → pe_tc x2 c1 (c2 - c1) ts = some (true :: ts)) (hr : ∀ ts : List Bool, ts.length + (bu - 2) ≤ 60 → pe_tc x3 c2 (c3 - c2) ts = some (true :: ts)) (hb : 2 ≤ bu) : ∀ ts : List Bool, ts.length + bu ≤ 60 → pe_tc (pm_wx x3 c3 3009) c (c3 + 1 - c) ts = some (true :: ts) := by
  intro ts hts
  rw [show c3 + 1 - c = (c1 - c) + ((c2 - c1) + ((c3 - c2) + 1)) from by omega, pe_tc_app, show pe_tc (pm_wx x3 c3 3009) c (c1 - c) ts = some (false :: ts) from by
    rw [← hl ts hts]
    exact pe_tc_cg _ _ _ (fun i i1 i2 => by rw [pm_wx_n (by omega), hx3 i (by omega), hx2 i (by omega)])]
  show pe_tc (pm_wx x3 c3 3009) (c + (c1 - c)) ((c2 - c1) + ((c3 - c2) + 1)) (false :: ts) = _
  rw [show c + (c1 - c) = c1 from by omega, pe_tc_app, show pe_tc (pm_wx x3 c3 3009) c1 (c2 - c1) (false :: ts) = some (true :: false :: ts) from by
    rw [← hm (false :: ts) (by rw [List.length_cons]; omega)]
    exact pe_tc_cg _ _ _ (fun i i1 i2 => by rw [pm_wx_n (by omega), hx3 i (by omega)])]
  show pe_tc (pm_wx x3 c3 3009) (c1 + (c2 - c1)) ((c3 - c2) + 1) (true :: false :: ts) = _
  rw [show c1 + (c2 - c1) = c2 from by omega, pe_tc_app, show pe_tc (pm_wx x3 c3 3009) c2 (c3 - c2) (true :: false :: ts) = some (true :: true :: false :: ts) from by
    rw [← hr (true :: false :: ts) (by rw [List.length_cons, List.length_cons]; omega)]
    exact pe_tc_cg _ _ _ (fun i i1 i2 => by rw [pm_wx_n (by omega)])]
  show pe_tc (pm_wx x3 c3 3009) (c2 + (c3 - c2)) 1 (true :: true :: false :: ts) = _
  rw [show c2 + (c3 - c2) = c3 from by omega]
  show (pe_ot (pm_wx x3 c3 3009 c3) (true :: true :: false :: ts)).bind (pe_tc (pm_wx x3 c3 3009) (c3 + 1) 0) = _
  rw [pm_wx_e]
  rfl
def pr_ift (n : Nat) (rec : Nat → Int32 → Int32 → Int32 → Int32 → Int32 → Int32 → Int32 → Int32 → (Nat → Int32) → (Nat → Int32) → Int32 → Option (Int32 × Int32 × Int32 × Int32 × Int32 × Int32 × (Nat → Int32))) (v2 v3 f_size v4 v5 v6 v7 f_reading : Int32) (b_tape b_fresh : Nat → Int32) (q1 : Int32) : Option (Int32 × Int32 × Int32 × Int32 × Int32 × Int32 × (Nat → Int32)) :=
    zd_7 (rec 0 v2 v3 f_size v4 v5 v6 v7 f_reading b_tape b_fresh q1) (fun v8 v9 v10 v11 v12 v13 a14 =>
    zd_5 (zf_X11_eats n v8 v9 f_size v10 v11 v12 b_tape (16 : Int32)) (fun v15 v16 v17 v18 v19 =>
    zd_2 (if v15 = 0 then zd_2 (zf_X11_fails v16 v18 v12 v13 (2 : Int32)) (fun v20 v21 => some (v20, v21)) else some (v12, v13)) (fun v22 v23 =>
    zd_7 (rec 3 v16 v17 f_size v18 v19 v22 v23 f_reading b_tape a14 q1) (fun v24 v25 v26 v27 v28 v29 a30 =>
    zd_5 (zf_X11_eats n v24 v25 f_size v26 v27 v28 b_tape (17 : Int32)) (fun v31 v32 v33 v34 v35 =>
    zd_2 (if v31 = 0 then zd_2 (zf_X11_fails v32 v34 v28 v29 (2 : Int32)) (fun v36 v37 => some (v36, v37)) else some (v28, v29)) (fun v38 v39 =>
    zd_7 (rec 3 v32 v33 f_size v34 v35 v38 v39 f_reading b_tape a30 q1) (fun v40 v41 v42 v43 v44 v45 a46 =>
    zd_5 (zf_X11_eats n v40 v41 f_size v42 v43 v44 b_tape (18 : Int32)) (fun v47 v48 v49 v50 v51 =>
    zd_2 (if v47 = 0 then zd_2 (zf_X11_fails v48 v50 v44 v45 (2 : Int32)) (fun v52 v53 => some (v52, v53)) else some (v44, v45)) (fun v54 v55 =>
    zd_1 (zf_X11_codes v54 a46 (3009 : Int32)) (fun a56 => some (v48, v49, v50, v51, v54, v55, a56)))))))))))
theorem pm_itm {p : Prop} [Decidable p] {a b : Option Int32} (h : ¬ p → b = a) : (if p then a else b) = a := by
  by_cases c : p
  · rw [if_pos c]
  · rw [if_neg c]; exact h c
section PAt
variable {n sz : Nat} {B : Nat → Nat} {ct rt : Nat → Int32} {may rd : Int32}
theorem pp_If {d dp a c : Nat} {F0 : Nat → Int32} {x : Nat → Nat} {st en ki va fa pl co at1 be rk nu wa : Int32} {code fresh : Nat → Int32} (hn : 1000 ≤ n) (hx : pp_tx B sz ct rt) (hdp : dp < 6) (hd : 3 ≤ d) (hT : pp_R n B sz ct rt may rd d 0 (dp + 1)) (hS : pp_R n B sz ct rt may rd d 3 (dp + 1)) (hta : pp_ta B sz a st en ki va at1 be rk nu) (hC : pp_C F0 c x co code fresh) (hca : c ≤ a) :
    ∃ g st' en' ki' va' f p co' code' at' be' rk' nu' wr wa' fresh', zh_X5_readIf n (zg_X5p n d) (nI sz) st en ki va may fa pl ct co code (nI (dp + 1)) = some (g, st', en', ki', va', f, p, co', code') ∧ pr_ift n (zg_X11p n d) at1 be (nI sz) rk nu 0 wa rd rt fresh (nI (dp + 1)) = some (at', be', rk', nu', wr, wa', fresh') ∧ pp_Q B sz F0 fa pl 1 a c x ((6 - 5) + 5 * (6 - dp)) true g st' en' ki' va' f p co' code' at' be' rk' nu' wr wa' fresh' := by
  have h9 := hx.1
  unfold zh_X5_readIf pr_ift
  obtain ⟨g4, st4, en4, ki4, va4, f4, p4, co4, code4, at4, be4, rk4, nu4, wr4, wa4, fresh4, i1, i2, i3⟩ := hT F0 a c x st en ki va fa pl co code at1 be rk nu wa fresh hta hC hca
  rw [i1, i2, pu_e9, pu_e7]
  rcases i3 with ⟨j1, j2, j3, j4, a5, c5, x5, j5, j6, j7, j8, j9, j10, j11⟩ | ⟨j1, w, j3, j4⟩
  rotate_left
  · rw [j1, if_pos rfl, pr_eatsW w, pu_e5, if_pos rfl, pr_failsW w, pu_e2, pu_e2, pr_idle (by omega) w d 3 (by omega) (by omega), pu_e7, pr_eatsW w, pu_e5, if_pos rfl, pr_failsW w, pu_e2, pu_e2, pr_idle (by omega) w d 3 (by omega) (by omega), pu_e7, pr_eatsW w, pu_e5, if_pos rfl, pr_failsW w, pu_e2, pu_e2, pr_codesW w, pu_e1]
    exact ⟨_, _, _, _, _, _, _, _, _, _, _, _, _, _, _, _, rfl, rfl, Or.inr ⟨rfl, w, j3, j4⟩⟩
  subst j1 j2 j3 j4
  rw [if_neg (show ¬ (1 : Int32) = 0 by decide)]
  rcases pp_exp (i := 28) 16 (fa := f4) (pl := p4) hn hx j8 (by unfold pm_cc; decide) with ⟨st6, en6, ki6, va6, at6, be6, rk6, nu6, a6, l1, l2, l3, l4⟩ | ⟨f, w, l2, l3, l4⟩
  rotate_left
  · rw [l2, l3, pu_e7, pu_e5, if_pos rfl, if_pos rfl, l4, pu_e2, pu_e2, pr_idle (by omega) w d 3 (by omega) (by omega), pu_e7, pr_eatsW w, pu_e5, if_pos rfl, pr_failsW w, pu_e2, pu_e2, pr_idle (by omega) w d 3 (by omega) (by omega), pu_e7, pr_eatsW w, pu_e5, if_pos rfl, pr_failsW w, pu_e2, pu_e2, pr_codesW w, pu_e1]
    exact ⟨_, _, _, _, _, _, _, _, _, _, _, _, _, _, _, _, rfl, rfl, Or.inr ⟨rfl, w, rfl, rfl⟩⟩
  rw [l1, l2, pu_e7, pu_e5, if_neg (show ¬ (1 : Int32) = 0 by decide), if_neg (show ¬ (1 : Int32) = 0 by decide), pu_e2]
  obtain ⟨g7, st7, en7, ki7, va7, f7, p7, co7, code7, at7, be7, rk7, nu7, wr7, wa7, fresh7, s1, s2, s3⟩ := hS F0 a6 c5 x5 st6 en6 ki6 va6 f4 p4 co4 code4 at6 be6 rk6 nu6 wa4 fresh4 l4 j9 (by omega)
  rw [s1, s2, pu_e9, pu_e7]
  rcases s3 with ⟨o1, o2, o3, o4, a8, c8, x8, o5, o6, o7, o8, o9, o10, o11⟩ | ⟨o1, w, o3, o4⟩
  rotate_left
  · rw [o1, if_pos rfl, pr_eatsW w, pu_e5, if_pos rfl, pr_failsW w, pu_e2, pu_e2, pr_idle (by omega) w d 3 (by omega) (by omega), pu_e7, pr_eatsW w, pu_e5, if_pos rfl, pr_failsW w, pu_e2, pu_e2, pr_codesW w, pu_e1]
    exact ⟨_, _, _, _, _, _, _, _, _, _, _, _, _, _, _, _, rfl, rfl, Or.inr ⟨rfl, w, o3, o4⟩⟩
  subst o1 o2 o3 o4
  rw [if_neg (show ¬ (1 : Int32) = 0 by decide)]
  rcases pp_exp (i := 29) 17 (fa := f7) (pl := p7) hn hx o8 (by unfold pm_cc; decide) with ⟨st9, en9, ki9, va9, at9, be9, rk9, nu9, a9, k1, k2, k3, k4⟩ | ⟨f, w, k2, k3, k4⟩
  rotate_left
  · rw [k2, k3, pu_e7, pu_e5, if_pos rfl, if_pos rfl, k4, pu_e2, pu_e2, pr_idle (by omega) w d 3 (by omega) (by omega), pu_e7, pr_eatsW w, pu_e5, if_pos rfl, pr_failsW w, pu_e2, pu_e2, pr_codesW w, pu_e1]
    exact ⟨_, _, _, _, _, _, _, _, _, _, _, _, _, _, _, _, rfl, rfl, Or.inr ⟨rfl, w, rfl, rfl⟩⟩
  rw [k1, k2, pu_e7, pu_e5, if_neg (show ¬ (1 : Int32) = 0 by decide), if_neg (show ¬ (1 : Int32) = 0 by decide), pu_e2]
  obtain ⟨g10, st10, en10, ki10, va10, f10, p10, co10, code10, at10, be10, rk10, nu10, wr10, wa10, fresh10, t1, t2, t3⟩ := hS F0 a9 c8 x8 st9 en9 ki9 va9 f7 p7 co7 code7 at9 be9 rk9 nu9 wa7 fresh7 k4 o9 (by omega)
  rw [t1, t2, pu_e9, pu_e7]
  rcases t3 with ⟨u1, u2, u3, u4, a11, c11, x11, u5, u6, u7, u8, u9, u10, u11⟩ | ⟨u1, w, u3, u4⟩
  rotate_left
  · rw [u1, if_pos rfl, pr_eatsW w, pu_e5, if_pos rfl, pr_failsW w, pu_e2, pu_e2, pr_codesW w, pu_e1]
    exact ⟨_, _, _, _, _, _, _, _, _, _, _, _, _, _, _, _, rfl, rfl, Or.inr ⟨rfl, w, u3, u4⟩⟩
  subst u1 u2 u3 u4
  rw [if_neg (show ¬ (1 : Int32) = 0 by decide)]
  rcases pp_exp (i := 30) 18 (fa := f10) (pl := p10) hn hx u8 (by unfold pm_cc; decide) with ⟨st12, en12, ki12, va12, at12, be12, rk12, nu12, a12, v1, v2, v3, v4⟩ | ⟨f, w, v2, v3, v4⟩
  rotate_left
  · rw [v2, v3, pu_e7, pu_e5, if_pos rfl, if_pos rfl, v4, pu_e2, pu_e2, pr_codesW w, pu_e1]
    exact ⟨_, _, _, _, _, _, _, _, _, _, _, _, _, _, _, _, rfl, rfl, Or.inr ⟨rfl, w, rfl, rfl⟩⟩
  have hle12 := pp_ta_le v4
  obtain ⟨code13, fresh13, m1, m2, m3⟩ := pp_emit (z := 3009) u9 (by omega)
  rw [v1, v2, pu_e7, pu_e5, if_neg (show ¬ (1 : Int32) = 0 by decide), if_neg (show ¬ (1 : Int32) = 0 by decide), pu_e2, show (1019 : Int32) = nI (pe_cm 3009) from by decide, m1, pu_e3, if_neg (show ¬ (1 : Int32) = 0 by decide), show (3009 : Int32) = nI 3009 from rfl, m2, pu_e1]
  refine ⟨_, _, _, _, _, _, _, _, _, _, _, _, _, _, _, _, rfl, rfl, Or.inl ⟨rfl, rfl, rfl, rfl, a12, c11 + 1, pm_wx x11 c11 3009, by omega, by omega, by omega, v4, m3, ?_, ?_⟩⟩
  · intro l hl
    rw [pm_wx_n (by omega), u10 l (by omega), o10 l (by omega), j10 l hl]
  · exact pe_tri j6 o6 u6 o10 u10 (fun ts h => j11 ts (by omega)) (fun ts h => o11 ts (by omega)) (fun ts h => u11 ts (by omega)) (by omega)
theorem pp_fact {a : Nat} {st en ki va at1 be rk nu : Int32} (hn : 1000 ≤ n) (hx : pp_tx B sz ct rt) (hta : pp_ta B sz a st en ki va at1 be rk nu) (hm : may = 0 ∧ ¬ rd = 1 ∨ may = 1 ∧ rd = 1) : ∃ v, zf_X5_factTold n st en ki may ct = some v ∧ zf_X11_wordOf rd rk = some v ∧ (v = (-1 : Int32) ∨ ∃ w, w < 6 ∧ v = nI w ∧ ki = 3) := by
  unfold zf_X5_factTold
  rcases pp_isT (i := 31) (c := 19) hn hx hta (by unfold pm_cc; decide) with ⟨h1, h2, h3⟩ | ⟨h1, k1⟩
  · refine ⟨0, by rw [h1, pu_e1, if_neg (by decide)], ?_, Or.inr ⟨0, by omega, rfl, h3⟩⟩
    rw [h2]; rfl
  rw [h1, pu_e1, if_pos rfl]
  rcases pp_isT (i := 8) (c := 6) hn hx hta (by unfold pm_cc; decide) with ⟨h1, h2, h3⟩ | ⟨h1, k2⟩
  · refine ⟨1, by rw [h1, pu_e1, if_neg (by decide)], ?_, Or.inr ⟨1, by omega, rfl, h3⟩⟩
    rw [h2]; rfl
  rw [h1, pu_e1, if_pos rfl]
  rcases pp_isT (i := 11) (c := 9) hn hx hta (by unfold pm_cc; decide) with ⟨h1, h2, h3⟩ | ⟨h1, k3⟩
  · refine ⟨2, by rw [h1, pu_e1, if_neg (by decide)], ?_, Or.inr ⟨2, by omega, rfl, h3⟩⟩
    rw [h2]; rfl
  rw [h1, pu_e1, if_pos rfl]
  rcases pp_isT (i := 3) (c := 2) hn hx hta (by unfold pm_cc; decide) with ⟨h1, h2, h3⟩ | ⟨h1, k4⟩
  · refine ⟨3, by rw [h1, pu_e1, if_neg (by decide)], ?_, Or.inr ⟨3, by omega, rfl, h3⟩⟩
    rw [h2]; rfl
  rw [h1, pu_e1, if_pos rfl]
  rcases pp_isT (i := 13) (c := 11) hn hx hta (by unfold pm_cc; decide) with ⟨h1, h2, h3⟩ | ⟨h1, k5⟩
  · refine ⟨4, by rw [h1, pu_e1, if_neg (by decide)], ?_, Or.inr ⟨4, by omega, rfl, h3⟩⟩
    rw [h2]; rfl
  rw [h1, pu_e1, if_pos rfl]
  replace k1 : ¬ rk = (19 : Int32) := k1
  replace k2 : ¬ rk = (6 : Int32) := k2
  replace k3 : ¬ rk = (9 : Int32) := k3
  replace k4 : ¬ rk = (2 : Int32) := k4
  replace k5 : ¬ rk = (11 : Int32) := k5
  have hno : ¬ rk = (20 : Int32) → zf_X11_wordOf rd rk = some (-1 : Int32) := by
    intro k6
    unfold zf_X11_wordOf
    rw [if_neg k4]
    refine pm_itm (fun _ => ?_)
    refine pm_itm (fun _ => ?_)
    refine pm_itm (fun _ => ?_)
    rw [if_neg k2]
    refine pm_itm (fun _ => ?_)
    refine pm_itm (fun _ => ?_)
    rw [if_neg k3]
    refine pm_itm (fun _ => ?_)
    rw [if_neg k5]
    refine pm_itm (fun _ => ?_)
    refine pm_itm (fun _ => ?_)
    refine pm_itm (fun _ => ?_)
    refine pm_itm (fun _ => ?_)
    refine pm_itm (fun _ => ?_)
    refine pm_itm (fun _ => ?_)
    refine pm_itm (fun _ => ?_)
    rw [if_neg k1, if_neg k6]
  rcases pp_isT (i := 32) (c := 20) hn hx hta (by unfold pm_cc; decide) with ⟨h1, h2, h3⟩ | ⟨h1, k6⟩
  · rcases hm with ⟨m1, m2⟩ | ⟨m1, m2⟩
    · refine ⟨-1, by rw [if_pos m1], ?_, Or.inl rfl⟩
      rw [h2]
      show (if rd = (1 : Int32) then some (5 : Int32) else some (-1 : Int32)) = _
      rw [if_neg m2]
    · refine ⟨5, by rw [m1, if_neg (by decide), h1, pu_e1, if_neg (by decide)], ?_, Or.inr ⟨5, by omega, rfl, h3⟩⟩
      rw [h2]
      show (if rd = (1 : Int32) then some (5 : Int32) else some (-1 : Int32)) = _
      rw [if_pos m2]
  · refine ⟨-1, ?_, hno k6, Or.inl rfl⟩
    by_cases m : may = 0
    · rw [if_pos m]
    · rw [if_neg m, h1, pu_e1, if_pos rfl]
theorem pp_Atom {d dp : Nat} (hn : 1000 ≤ n) (hx : pp_tx B sz ct rt) (hdp : dp ≤ 6) (hd : dp < 6 → 4 ≤ d) (hm : may = 0 ∧ ¬ rd = 1 ∨ may = 1 ∧ rd = 1) (hS : dp < 6 → pp_R n B sz ct rt may rd d 3 (dp + 1)) (hT' : dp < 6 → pp_R n B sz ct rt may rd (d - 1) 0 (dp + 1)) (hS' : dp < 6 → pp_R n B sz ct rt may rd (d - 1) 3 (dp + 1)) (hd1 : 1 ≤ d) : pp_R n B sz ct rt may rd (d + 1) 5 dp := by
  have h9 := hx.1
  intro F0 a c x st en ki va fa pl co code at1 be rk nu wa fresh hta hC hca
  show ∃ g st' en' ki' va' f p co' code' at' be' rk' nu' wr wa' fresh', zh_X5_readAtom n (zg_X5p n d) (nI sz) st en ki va may fa pl ct co code (nI dp) = some (g, st', en', ki', va', f, p, co', code') ∧ zh_X11_readAtom n (zg_X11p n d) at1 be (nI sz) rk nu 0 wa rd rt fresh (nI dp) = some (at', be', rk', nu', wr, wa', fresh') ∧ _
  unfold zh_X5_readAtom zh_X11_readAtom
  rw [pr_is, pu_e1]
  have hkr : ki = 2 ↔ rk = 25 := by
    obtain ⟨b, _, _, _, _, h5, h6, h7⟩ := hta
    rcases h7 with ⟨_, rfl, rfl⟩ | ⟨_, rfl, rfl⟩ | ⟨_, rfl, rfl, _⟩ | ⟨_, rfl, _, rfl⟩ | ⟨_, rfl, h1, rfl⟩
    · decide
    · decide
    · decide
    · have hle : pm_ix pm_kw (pm_L B a b) ≤ 24 := pm_ix_le pm_kw _
      exact ⟨fun z => absurd z (by decide), fun z => by have := (pv_eq 25 (by omega) (by omega)).mp z; omega⟩
    · exact ⟨fun z => absurd z (by decide), fun z => by have := (pv_eq 25 (by omega) (by omega)).mp z; omega⟩
  have h1t : ∀ (z : Nat) (x : Nat → Nat), z < 1006 → ∀ ts : List Bool, ts.length + ((6 - 5) + 5 * (6 - dp)) ≤ 60 → pe_tc (pm_wx x c z) c (c + 1 - c) ts = some (true :: ts) := by
    intro z x hz ts hts
    rw [show c + 1 - c = 1 from by omega]
    show (pe_ot (pm_wx x c z c) ts).bind (pe_tc (pm_wx x c z) (c + 1) 0) = _
    rw [pm_wx_e]
    unfold pe_ot
    rw [if_pos hz, if_pos (by omega)]
    rfl
  by_cases hk : ki = 2
  · -- a number
    have hv : ∃ v, v ≤ 999 ∧ va = nI v ∧ nu = nI v := by
      obtain ⟨b, _, _, _, _, h5, h6, h7⟩ := hta
      rcases h7 with ⟨_, h7, _⟩ | ⟨_, h7, _⟩ | ⟨_, _, _, h7⟩ | ⟨_, h7, _⟩ | ⟨_, h7, _⟩
      · rw [h7] at hk; exact absurd hk (by decide)
      · rw [h7] at hk; exact absurd hk (by decide)
      · exact h7
      · rw [h7] at hk; exact absurd hk (by decide)
      · rw [h7] at hk; exact absurd hk (by decide)
    obtain ⟨v, v1, v2, v3⟩ := hv
    obtain ⟨st6, en6, ki6, va6, at6, be6, rk6, nu6, a6, k1, k2, k3, k4⟩ := pp_go hn hx hta (by rw [hk]; decide)
    have hle6 := pp_ta_le k4
    obtain ⟨code13, fresh13, m1, m2, m3⟩ := pp_emit (z := v) hC (by omega)
    have hcm : pe_cm v = v := by unfold pe_cm; rw [if_pos (by omega)]
    rw [hcm, ← v2] at m1
    rw [← v3] at m2
    rw [if_pos hk, m1, pu_e3, k1, pu_e4, if_pos (hkr.mp hk), if_neg (show ¬ (1 : Int32) = 0 by decide), m2, pu_e1, k2, pu_e4]
    refine ⟨_, _, _, _, _, _, _, _, _, _, _, _, _, _, _, _, rfl, rfl, Or.inl ⟨rfl, rfl, rfl, rfl, a6, c + 1, pm_wx x c v, by omega, by omega, by omega, k4, m3, fun l hl => pm_wx_n (by omega), h1t v x (by omega)⟩⟩
  rw [if_neg hk, if_neg (fun z => hk (hkr.mpr z)), if_pos (show (0 : Int32) = 0 from rfl), if_pos (show (0 : Int32) = 0 from rfl)]
  rcases pp_isT (i := 17) (c := 35) hn hx hta (by unfold pm_cc; decide) with ⟨h1, h2, h3⟩ | ⟨h1, h2⟩
  · -- ( )
    have hwo : zf_X11_wordOf rd rk = some (-1 : Int32) := by rw [h2]; rfl
    rw [h1, pu_e1, if_neg (show ¬ (1 : Int32) = 0 by decide), hwo, pu_e1, if_pos (show (-1 : Int32) = -1 from rfl), pr_is, if_pos (show rk = (35 : Int32) from h2), pu_e1, if_neg (show ¬ (1 : Int32) = 0 by decide)]
    rcases pp_goin (fa := fa) (pl := pl) (wa := wa) hn hx hta h3 hdp with ⟨hdl, st3, en3, ki3, va3, at3, be3, rk3, nu3, a3, y1, y2, y3, y4⟩ | ⟨f, f1, f2, f3⟩
    rotate_left
    · rw [f2, f3, pu_e7, pu_e7, if_pos rfl, if_pos rfl]
      exact ⟨_, _, _, _, _, _, _, _, _, _, _, _, _, _, _, _, rfl, rfl, Or.inr ⟨rfl, f1, rfl, rfl⟩⟩
    rw [y1, y2, pu_e7, pu_e7, if_neg (show ¬ (1 : Int32) = 0 by decide), if_neg (show ¬ (1 : Int32) = 0 by decide), pn_a1]
    obtain ⟨g4, st4, en4, ki4, va4, f4, p4, co4, code4, at4, be4, rk4, nu4, wr4, wa4, fresh4, i1, i2, i3⟩ := hS hdl F0 a3 c x st3 en3 ki3 va3 fa pl co code at3 be3 rk3 nu3 wa fresh y4 hC (by omega)
    rw [i1, i2, pu_e9, pu_e7]
    rcases i3 with ⟨j1, j2, j3, j4, a5, c5, x5, j5, j6, j7, j8, j9, j10, j11⟩ | ⟨j1, j2, j3, j4⟩
    · subst j1 j2 j3 j4
      rw [if_neg (show ¬ (1 : Int32) = 0 by decide)]
      rcases pp_exp (i := 18) 36 (fa := f4) (pl := p4) hn hx j8 (by unfold pm_cc; decide) with ⟨st6, en6, ki6, va6, at6, be6, rk6, nu6, a6, l1, l2, l3, l4⟩ | ⟨f, l1, l2, l3, l4⟩
      · rw [l1, l2, pu_e7, pu_e5, if_neg (show ¬ (1 : Int32) = 0 by decide), if_neg (show ¬ (1 : Int32) = 0 by decide)]
        exact ⟨_, _, _, _, _, _, _, _, _, _, _, _, _, _, _, _, rfl, rfl, Or.inl ⟨rfl, rfl, rfl, rfl, a6, c5, x5, by omega, by omega, by omega, l4, j9, j10, fun ts h => j11 ts (by omega)⟩⟩
      · rw [l2, l3, pu_e7, pu_e5, if_pos rfl, if_pos rfl, l4, pu_e2]
        exact ⟨_, _, _, _, _, _, _, _, _, _, _, _, _, _, _, _, rfl, rfl, Or.inr ⟨rfl, l1, rfl, rfl⟩⟩
    · rw [j1, if_pos rfl, pr_eatsW j2, pu_e5, if_pos rfl, pr_failsW j2, pu_e2]
      exact ⟨_, _, _, _, _, _, _, _, _, _, _, _, _, _, _, _, rfl, rfl, Or.inr ⟨rfl, j2, j3, j4⟩⟩
  rw [h1, pu_e1, if_pos (show (0 : Int32) = 0 from rfl)]
  rcases pp_isT (i := 19) (c := 15) hn hx hta (by unfold pm_cc; decide) with ⟨h3, h4, h5⟩ | ⟨h3, h4⟩
  · -- if
    have hwo : zf_X11_wordOf rd rk = some (-1 : Int32) := by rw [h4]; rfl
    rw [h3, pu_e1, if_neg (show ¬ (1 : Int32) = 0 by decide), hwo, pu_e1, if_pos (show (-1 : Int32) = -1 from rfl), pr_is, if_neg (show ¬ rk = (35 : Int32) from h2), pu_e1, if_pos (show (0 : Int32) = 0 from rfl), pr_is, if_pos (show rk = (15 : Int32) from h4), pu_e1, if_neg (show ¬ (1 : Int32) = 0 by decide)]
    obtain ⟨d', rfl⟩ := Nat.exists_eq_add_of_le hd1
    rw [Nat.add_comm 1 d']
    have hif : ∀ u1 u2 u3 u4 u5 u6 u7 u8 u9 u10 u11, zg_X11p n (d' + 1) 6 u1 u2 u3 u4 u5 u6 u7 u8 u9 u10 u11 = zd_7 (zf_X11_goesIn n u1 u2 u3 u4 u5 u6 u7 u9 u11) (fun v1 v2 v3 v4 v5 v6 v7 => if v1 = 0 then some (v2, v3, v4, v5, v6, v7, u10) else pr_ift n (zg_X11p n d') v2 v3 u3 v4 v5 v6 v7 u8 u9 u10 (u11 + (1 : Int32))) := by
      intros; rfl
    have hif2 : ∀ u1 u2 u3 u4 u5 u6 u7 u8 u9 u10 u11 u12, zg_X5p n (d' + 1) 6 u1 u2 u3 u4 u5 u6 u7 u8 u9 u10 u11 u12 = zh_X5_readIf n (zg_X5p n d') u1 u2 u3 u4 u5 u6 u7 u8 u9 u10 u11 u12 := by
      intros; rfl
    rw [hif]
    rcases pp_goin (fa := fa) (pl := pl) (wa := wa) hn hx hta h5 hdp with ⟨hdl, st3, en3, ki3, va3, at3, be3, rk3, nu3, a3, y1, y2, y3, y4⟩ | ⟨f, f1, f2, f3⟩
    rotate_left
    · rw [f2, f3, pu_e7, pu_e7, if_pos rfl, if_pos rfl, pu_e7]
      exact ⟨_, _, _, _, _, _, _, _, _, _, _, _, _, _, _, _, rfl, rfl, Or.inr ⟨rfl, f1, rfl, rfl⟩⟩
    have hd4 := hd hdl
    have e1 := hT' hdl
    have e2 := hS' hdl
    rw [show 1 + d' - 1 = d' from by omega] at e1 e2
    obtain ⟨g4, st4, en4, ki4, va4, f4, p4, co4, code4, at4, be4, rk4, nu4, wr4, wa4, fresh4, i1, i2, i3⟩ := pp_If (fa := fa) (pl := pl) (wa := wa) hn hx hdl (by omega) e1 e2 y4 hC (by omega)
    rw [y1, y2, pu_e7, pu_e7, if_neg (show ¬ (1 : Int32) = 0 by decide), if_neg (show ¬ (1 : Int32) = 0 by decide), pn_a1, hif2, i1, i2, pu_e9, pu_e7]
    have hg : (if g4 = 0 then some ((0 : Int32), st4, en4, ki4, va4, f4, p4, co4, code4) else some ((1 : Int32), st4, en4, ki4, va4, f4, p4, co4, code4)) = some (g4, st4, en4, ki4, va4, f4, p4, co4, code4) := by
      rcases i3 with ⟨rfl, _⟩ | ⟨rfl, _⟩ <;> rfl
    rw [hg]
    refine ⟨_, _, _, _, _, _, _, _, _, _, _, _, _, _, _, _, rfl, rfl, ?_⟩
    rcases i3 with ⟨j1, j2, j3, j4, a5, c5, x5, j5, j6, j7, j8, j9, j10, j11⟩ | j
    · exact Or.inl ⟨j1, j2, j3, j4, a5, c5, x5, by omega, j6, by omega, j8, j9, j10, j11⟩
    · exact Or.inr j
  rw [h3, pu_e1, if_pos (show (0 : Int32) = 0 from rfl)]
  obtain ⟨v, v1, v2, v3⟩ := pp_fact hn hx hta hm
  rw [v1, v2, pu_e1, pu_e1]
  rcases v3 with rfl | ⟨w, w1, rfl, w3⟩
  · obtain ⟨f, f1, f2, f3, f5⟩ := pp_ref hta hx
    rw [if_pos rfl, f2, pu_e3, show za_zb (0 : Int32) = some 0 from rfl, pu_e1, if_pos rfl, pr_is, if_neg (show ¬ rk = (35 : Int32) from h2), pu_e1, if_pos (show (0 : Int32) = 0 from rfl), pr_is, if_neg (show ¬ rk = (15 : Int32) from h4), pu_e1, if_pos (show (0 : Int32) = 0 from rfl), f3, pu_e2]
    exact ⟨_, _, _, _, _, _, _, _, _, _, _, _, _, _, _, _, rfl, rfl, Or.inr ⟨rfl, f1, rfl, f5⟩⟩
  · obtain ⟨st6, en6, ki6, va6, at6, be6, rk6, nu6, a6, k1, k2, k3, k4⟩ := pp_go hn hx hta (by rw [w3]; decide)
    have hle6 := pp_ta_le k4
    obtain ⟨code13, fresh13, m1, m2, m3⟩ := pp_emit (z := 1000 + w) hC (by omega)
    have hcm : pe_cm (1000 + w) = 1000 + w := by unfold pe_cm; rw [if_pos (by omega)]
    rw [hcm] at m1
    have hn1 : ¬ nI w = (-1 : Int32) := fun z => (pn_ne1 (by omega)).mp z
    rw [if_neg hn1, if_neg hn1, pv_add 1000, m1, pu_e3, k1, pu_e4, pu_e1, show (1000 : Int32) + nI w = nI (1000 + w) from pn_add 1000 w, m2, pu_e1, k2, pu_e4]
    refine ⟨_, _, _, _, _, _, _, _, _, _, _, _, _, _, _, _, rfl, rfl, Or.inl ⟨rfl, rfl, rfl, rfl, a6, c + 1, pm_wx x c (1000 + w), by omega, by omega, by omega, k4, m3, fun l hl => pm_wx_n (by omega), h1t (1000 + w) x (by omega)⟩⟩
/-- every reader of a law, on both sides -/
theorem pp_Rall (hn : 1000 ≤ n) (hx : pp_tx B sz ct rt) (hm : may = 0 ∧ ¬ rd = 1 ∨ may = 1 ∧ rd = 1) : ∀ e dp, dp + e = 6 → ∀ t d, t ≤ 5 → 7 * e + 7 - t ≤ d → pp_R n B sz ct rt may rd d t dp := by
  intro e
  induction e with
  | zero =>
    intro dp hdp
    have hno : ¬ dp < 6 := by omega
    have h5 : ∀ d, 2 ≤ d → pp_R n B sz ct rt may rd d 5 dp := by
      intro d hd
      obtain ⟨d', rfl⟩ := Nat.exists_eq_add_of_le (show 1 ≤ d by omega)
      rw [Nat.add_comm]
      exact pp_Atom hn hx (by omega) (fun z => absurd z hno) hm (fun z => absurd z hno) (fun z => absurd z hno) (fun z => absurd z hno) (by omega)
    have h4 : ∀ d, 3 ≤ d → pp_R n B sz ct rt may rd d 4 dp := by
      intro d hd
      obtain ⟨d', rfl⟩ := Nat.exists_eq_add_of_le (show 1 ≤ d by omega)
      rw [Nat.add_comm]
      exact pp_Term hn hx (h5 d' (by omega))
    have h3 : ∀ d, 4 ≤ d → pp_R n B sz ct rt may rd d 3 dp := by
      intro d hd
      obtain ⟨d', rfl⟩ := Nat.exists_eq_add_of_le (show 1 ≤ d by omega)
      rw [Nat.add_comm]
      exact pp_Sum hn hx (h4 d' (by omega))
    have h2 : ∀ d, 5 ≤ d → pp_R n B sz ct rt may rd d 2 dp := by
      intro d hd
      obtain ⟨d', rfl⟩ := Nat.exists_eq_add_of_le (show 1 ≤ d by omega)
      rw [Nat.add_comm]
      exact pp_Unit hn hx (by omega) (by omega) (h3 d' (by omega)) (fun z => absurd z hno) (fun z => absurd z hno)
    have h1 : ∀ d, 6 ≤ d → pp_R n B sz ct rt may rd d 1 dp := by
      intro d hd
      obtain ⟨d', rfl⟩ := Nat.exists_eq_add_of_le (show 1 ≤ d by omega)
      rw [Nat.add_comm]
      exact pp_Both hn hx (h2 d' (by omega))
    have h0 : ∀ d, 7 ≤ d → pp_R n B sz ct rt may rd d 0 dp := by
      intro d hd
      obtain ⟨d', rfl⟩ := Nat.exists_eq_add_of_le (show 1 ≤ d by omega)
      rw [Nat.add_comm]
      exact pp_Truth hn hx (h1 d' (by omega))
    intro t d ht hd
    have ht : t = 0 ∨ t = 1 ∨ t = 2 ∨ t = 3 ∨ t = 4 ∨ t = 5 := by omega
    rcases ht with rfl | rfl | rfl | rfl | rfl | rfl
    · exact h0 d (by omega)
    · exact h1 d (by omega)
    · exact h2 d (by omega)
    · exact h3 d (by omega)
    · exact h4 d (by omega)
    · exact h5 d (by omega)
  | succ e ih =>
    intro dp hdp
    have hI := ih (dp + 1) (by omega)
    have h5 : ∀ d, 7 * (e + 1) + 2 ≤ d → pp_R n B sz ct rt may rd d 5 dp := by
      intro d hd
      obtain ⟨d', rfl⟩ := Nat.exists_eq_add_of_le (show 1 ≤ d by omega)
      rw [Nat.add_comm]
      exact pp_Atom hn hx (by omega) (fun _ => by omega) hm (fun _ => hI 3 d' (by omega) (by omega)) (fun _ => hI 0 (d' - 1) (by omega) (by omega)) (fun _ => hI 3 (d' - 1) (by omega) (by omega)) (by omega)
    have h4 : ∀ d, 7 * (e + 1) + 3 ≤ d → pp_R n B sz ct rt may rd d 4 dp := by
      intro d hd
      obtain ⟨d', rfl⟩ := Nat.exists_eq_add_of_le (show 1 ≤ d by omega)
      rw [Nat.add_comm]
      exact pp_Term hn hx (h5 d' (by omega))
    have h3 : ∀ d, 7 * (e + 1) + 4 ≤ d → pp_R n B sz ct rt may rd d 3 dp := by
      intro d hd
      obtain ⟨d', rfl⟩ := Nat.exists_eq_add_of_le (show 1 ≤ d by omega)
      rw [Nat.add_comm]
      exact pp_Sum hn hx (h4 d' (by omega))
    have h2 : ∀ d, 7 * (e + 1) + 5 ≤ d → pp_R n B sz ct rt may rd d 2 dp := by
      intro d hd
      obtain ⟨d', rfl⟩ := Nat.exists_eq_add_of_le (show 1 ≤ d by omega)
      rw [Nat.add_comm]
      exact pp_Unit hn hx (by omega) (by omega) (h3 d' (by omega)) (fun _ => hI 2 d' (by omega) (by omega)) (fun _ => hI 0 d' (by omega) (by omega))
    have h1 : ∀ d, 7 * (e + 1) + 6 ≤ d → pp_R n B sz ct rt may rd d 1 dp := by
      intro d hd
      obtain ⟨d', rfl⟩ := Nat.exists_eq_add_of_le (show 1 ≤ d by omega)
      rw [Nat.add_comm]
      exact pp_Both hn hx (h2 d' (by omega))
    have h0 : ∀ d, 7 * (e + 1) + 7 ≤ d → pp_R n B sz ct rt may rd d 0 dp := by
      intro d hd
      obtain ⟨d', rfl⟩ := Nat.exists_eq_add_of_le (show 1 ≤ d by omega)
      rw [Nat.add_comm]
      exact pp_Truth hn hx (h1 d' (by omega))
    intro t d ht hd
    have ht : t = 0 ∨ t = 1 ∨ t = 2 ∨ t = 3 ∨ t = 4 ∨ t = 5 := by omega
    rcases ht with rfl | rfl | rfl | rfl | rfl | rfl
    · exact h0 d (by omega)
    · exact h1 d (by omega)
    · exact h2 d (by omega)
    · exact h3 d (by omega)
    · exact h4 d (by omega)
    · exact h5 d (by omega)
end PAt
