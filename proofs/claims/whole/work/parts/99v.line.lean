/-! a line -/
section PLi2
variable {n sz : Nat} {B : Nat → Nat} {ct rt : Nat → Int32}
theorem pp_line {q x : Nat → Nat} {a c : Nat} {im rd st en ki va fa pl at1 be rk nu wa top things sr sth ss sw sl co tf tt mf mt : Int32} {bars gives rough code fresh : Nat → Int32} (hn : 1000 ≤ n) (hx : pp_tx B sz ct rt) (hta : pp_ta B sz a st en ki va at1 be rk nu) (hJ : pp_J q c x top things sr sth ss sw sl co tf tt mf mt bars gives rough code fresh) (hca : c ≤ a) :
    ∃ g st' en' ki' va' im' f p sr' sth' ss' sw' sl' co' tf' tt' mf' mt' bars' gives' rough' code' at' be' rk' nu' wr wa' rd' fresh', zf_X5_readLine n (nI sz) st en ki va im fa pl ct top things sr sth ss sw sl co tf tt mf mt bars gives rough code = some (g, st', en', ki', va', im', f, p, sr', sth', ss', sw', sl', co', tf', tt', mf', mt', bars', gives', rough', code') ∧ zf_X11_readLine n at1 be (nI sz) rk nu 0 wa rd rt fresh = some (at', be', rk', nu', wr, wa', rd', fresh') ∧ ((g = 1 ∧ wr = 0 ∧ f = fa ∧ p = pl ∧ ∃ a' q' c' x', a < a' ∧ c' ≤ a' ∧ pp_ta B sz a' st' en' ki' va' at' be' rk' nu' ∧ pp_J q' c' x' top things sr' sth' ss' sw' sl' co' tf' tt' mf' mt' bars' gives' rough' code' fresh' ∧ ∀ k, (k = 0 ∨ 41 ≤ k) → k < 93 → fresh' k = fresh k) ∨ (g = 0 ∧ ¬ wr = 0 ∧ f = wr ∧ p = wa')) := by
  have h9 := hx.1
  have hq1 := hJ.1.1
  have hq2 := hJ.1.2.1
  have hF := hJ.2.2.2.2.2.2.2.2
  have hF1 : fresh 1 = nI (q 1) := hF 1 (by omega)
  have hF2 : fresh 2 = nI (q 2) := hF 2 (by omega)
  have htop := hJ.1.2.2.1
  have hthi := hJ.1.2.2.2
  unfold zf_X5_readLine zf_X11_readLine
  rw [if_pos rfl, pr_is, pu_e1]
  rcases pp_acc2 (i := 5) 3 hn hx hta (by unfold pm_cc; decide) with ⟨y0, st1, en1, ki1, va1, at2, be2, rk2, nu2, a1, y1, y2, y3, y4⟩ | ⟨y1, y0⟩
  · -- hole
    obtain ⟨g, st', en', ki', va', f, p, bars', gives', rough', at', be', rk', nu', wr, wa', fresh', e1, e2, e3⟩ := pp_hole3 (fa := fa) (pl := pl) (wa := wa) hn hx y4 hq1.2 hq2 hF1 hF2 (pp_J_H1 hJ)
    rw [y1, pu_e5, if_neg (show ¬ (1 : Int32) = 0 by decide), if_pos (show rk = (3 : Int32) from y0), if_neg (show ¬ (1 : Int32) = 0 by decide), htop, hthi, e1, pu_e10, show zf_X11_readHole n at1 be (nI sz) rk nu 0 wa rt fresh = zd_4 (zf_X11_next n at1 be (nI sz) rk nu rt) (fun v1 v2 v3 v4 => pr_hol n (nI sz) v1 v2 v3 v4 0 wa rt fresh) from rfl, y2, pu_e4, e2, pu_e7]
    rcases e3 with ⟨rfl, z2, z3, z4, a', z5, z6, z7⟩ | ⟨rfl, z2, z3, z4⟩
    · obtain ⟨q', hq'⟩ := pp_J_H2 hJ z7
      rw [show za_zb (1 : Int32) = some 1 from rfl, pu_e1, ← htop, ← hthi]
      exact ⟨_, _, _, _, _, _, _, _, _, _, _, _, _, _, _, _, _, _, _, _, _, _, _, _, _, _, _, _, _, _, rfl, rfl, Or.inl ⟨rfl, z2, z3, z4, a', q', c, x, by omega, by omega, z6, hq', fun k hk _ => z7.2 k (by omega)⟩⟩
    · rw [show za_zb (0 : Int32) = some 0 from rfl, pu_e1]
      exact ⟨_, _, _, _, _, _, _, _, _, _, _, _, _, _, _, _, _, _, _, _, _, _, _, _, _, _, _, _, _, _, rfl, rfl, Or.inr ⟨rfl, z2, z3, z4⟩⟩
  rw [y1, pu_e5, if_pos (show (0 : Int32) = 0 from rfl), if_neg (show ¬ rk = (3 : Int32) from y0), if_pos (show (0 : Int32) = 0 from rfl), pr_is, pu_e1]
  rcases pp_acc2 (i := 9) 7 hn hx hta (by unfold pm_cc; decide) with ⟨y0, st1, en1, ki1, va1, at2, be2, rk2, nu2, a1, y1, y2, y3, y4⟩ | ⟨y1, y0⟩
  · -- pilgrim
    obtain ⟨g, st', en', ki', va', f, p, sr', sth', ss', at', be', rk', nu', wr, wa', fresh', e1, e2, e3⟩ := pp_pilgrim (fa := fa) (pl := pl) (wa := wa) (sr := sr) (sth := sth) (ss := ss) hn hx y4 hq1.2 hq2 hF1 hF2
    rw [y1, pu_e5, if_neg (show ¬ (1 : Int32) = 0 by decide), if_pos (show rk = (7 : Int32) from y0), if_neg (show ¬ (1 : Int32) = 0 by decide), htop, hthi, e1, pu_e10, show zf_X11_readPilgrim n at1 be (nI sz) rk nu 0 wa rt fresh = zd_4 (zf_X11_next n at1 be (nI sz) rk nu rt) (fun v1 v2 v3 v4 => pr_pil n (nI sz) v1 v2 v3 v4 0 wa rt fresh) from rfl, y2, pu_e4, e2, pu_e7]
    rcases e3 with ⟨rfl, z2, z3, z4, a', r, s, q5, z5, z6, z7, z8, z9, rfl, rfl, rfl, z10, z11, z12, z13⟩ | ⟨rfl, z2, z3, z4⟩
    · obtain ⟨q', hq'⟩ := pp_J_P hJ z6 z7 z8 z10 z11 z12 z13
      rw [show za_zb (1 : Int32) = some 1 from rfl, pu_e1, ← htop, ← hthi]
      exact ⟨_, _, _, _, _, _, _, _, _, _, _, _, _, _, _, _, _, _, _, _, _, _, _, _, _, _, _, _, _, _, rfl, rfl, Or.inl ⟨rfl, z2, z3, z4, a', q', c, x, by omega, by omega, z9, hq', fun k hk _ => z13 k (by omega) (by omega) (by omega)⟩⟩
    · rw [show za_zb (0 : Int32) = some 0 from rfl, pu_e1]
      exact ⟨_, _, _, _, _, _, _, _, _, _, _, _, _, _, _, _, _, _, _, _, _, _, _, _, _, _, _, _, _, _, rfl, rfl, Or.inr ⟨rfl, z2, z3, z4⟩⟩
  rw [y1, pu_e5, if_pos (show (0 : Int32) = 0 from rfl), if_neg (show ¬ rk = (7 : Int32) from y0), if_pos (show (0 : Int32) = 0 from rfl)]
  rcases pp_acc (i := 13) 11 hn hx hta (by unfold pm_cc; decide) with ⟨st1, en1, ki1, va1, at2, be2, rk2, nu2, a1, y1, y2, y3, y4⟩ | ⟨y1, y2, y0⟩
  · -- wind
    rw [y1, y2, pu_e5, pu_e5, if_neg (show ¬ (1 : Int32) = 0 by decide), if_neg (show ¬ (1 : Int32) = 0 by decide)]
    rcases pp_num (fa := fa) (pl := pl) (wa := wa) (p1 := (0 : Int32)) (p2 := (9 : Int32)) hn hx y4 with ⟨v, st4, en4, ki4, va4, at4, be4, rk4, nu4, a4, o1, o2, o3, x1, x2, x3, x4⟩ | ⟨f, x0, x1, x2⟩
    · replace o3 : (v : Int) ≤ 9 := o3
      obtain ⟨q', hq'⟩ := pp_J_w (v := v) hJ (by omega)
      rw [x1, x2, pu_e7, pu_e7, if_neg (fun z => (pn_ne1 (a := v) (by omega)).mp z), pv_st 40 (by omega) (by omega), pu_e1]
      exact ⟨_, _, _, _, _, _, _, _, _, _, _, _, _, _, _, _, _, _, _, _, _, _, _, _, _, _, _, _, _, _, rfl, rfl, Or.inl ⟨rfl, rfl, rfl, rfl, a4, q', c, x, by omega, by omega, x4, hq', fun k hk _ => show va_up fresh 40 (nI v) k = fresh k from pu_upn (by omega)⟩⟩
    · rw [x1, x2, pu_e7, pu_e7, if_pos rfl, pv_st 40 (by omega) (by omega), pu_e1]
      exact ⟨_, _, _, _, _, _, _, _, _, _, _, _, _, _, _, _, _, _, _, _, _, _, _, _, _, _, _, _, _, _, rfl, rfl, Or.inr ⟨rfl, x0, rfl, rfl⟩⟩
  rw [y1, y2, pu_e5, pu_e5, if_pos (show (0 : Int32) = 0 from rfl), if_pos (show (0 : Int32) = 0 from rfl)]
  rcases pp_acc (i := 14) 12 hn hx hta (by unfold pm_cc; decide) with ⟨st1, en1, ki1, va1, at2, be2, rk2, nu2, a1, y1, y2, y3, y4⟩ | ⟨y1, y2, y0⟩
  · -- slips
    rw [y1, y2, pu_e5, pu_e5, if_neg (show ¬ (1 : Int32) = 0 by decide), if_neg (show ¬ (1 : Int32) = 0 by decide)]
    rcases pp_num (fa := fa) (pl := pl) (wa := wa) (p1 := (0 : Int32)) (p2 := (10 : Int32)) hn hx y4 with ⟨v, st4, en4, ki4, va4, at4, be4, rk4, nu4, a4, o1, o2, o3, x1, x2, x3, x4⟩ | ⟨f, x0, x1, x2⟩
    · replace o3 : (v : Int) ≤ 10 := o3
      obtain ⟨q', hq'⟩ := pp_J_s (v := v) hJ (by omega)
      rw [x1, x2, pu_e7, pu_e7, if_neg (fun z => (pn_ne1 (a := v) (by omega)).mp z), pv_st 3 (by omega) (by omega), pu_e1]
      exact ⟨_, _, _, _, _, _, _, _, _, _, _, _, _, _, _, _, _, _, _, _, _, _, _, _, _, _, _, _, _, _, rfl, rfl, Or.inl ⟨rfl, rfl, rfl, rfl, a4, q', c, x, by omega, by omega, x4, hq', fun k hk _ => show va_up fresh 3 (nI v) k = fresh k from pu_upn (by omega)⟩⟩
    · rw [x1, x2, pu_e7, pu_e7, if_pos rfl, pv_st 3 (by omega) (by omega), pu_e1]
      exact ⟨_, _, _, _, _, _, _, _, _, _, _, _, _, _, _, _, _, _, _, _, _, _, _, _, _, _, _, _, _, _, rfl, rfl, Or.inr ⟨rfl, x0, rfl, rfl⟩⟩
  rw [y1, y2, pu_e5, pu_e5, if_pos (show (0 : Int32) = 0 from rfl), if_pos (show (0 : Int32) = 0 from rfl), pr_is, pu_e1]
  have hlaw : ∀ p1 u1 u2 u3 u4, zf_X11_readLaw n u1 u2 (nI sz) u3 u4 0 wa rd rt fresh p1 = zd_4 (zf_X11_next n u1 u2 (nI sz) u3 u4 rt) (fun v1 v2 v3 v4 => pr_law n (nI sz) v1 v2 v3 v4 0 wa rt fresh p1) := by
    intros; rfl
  rcases pp_acc2 (i := 15) 13 hn hx hta (by unfold pm_cc; decide) with ⟨y0, st1, en1, ki1, va1, at2, be2, rk2, nu2, a1, y1, y2, y3, y4⟩ | ⟨y1, y0⟩
  · -- tires
    rw [y1, pu_e5, if_neg (show ¬ (1 : Int32) = 0 by decide), if_pos (show rk = (13 : Int32) from y0), if_neg (show ¬ (1 : Int32) = 0 by decide), hlaw, y2, pu_e4, show rk - (13 : Int32) = nI 0 from by rw [y0]; decide]
    rcases pp_law (law := 0) (t := 3) (may := 0) (fa := fa) (pl := pl) (wa := wa) hn hx (Or.inl ⟨rfl, rfl, rfl⟩) y4 hJ.2.2.2.2.2 (by omega) with ⟨f, w, l1, at', be', rk', nu', fresh', l2⟩ | ⟨st2, en2, ki2, va2, l1, g, st', en', ki', va', f, p, co', code', at', be', rk', nu', wr, wa', fresh', l2, l3, l4⟩
    · rw [l1, l2, pu_e7, pu_e8, if_pos rfl]
      exact ⟨_, _, _, _, _, _, _, _, _, _, _, _, _, _, _, _, _, _, _, _, _, _, _, _, _, _, _, _, _, _, rfl, rfl, Or.inr ⟨rfl, w, rfl, rfl⟩⟩
    · rw [l1, l3, pu_e7, pu_e8, if_neg (show ¬ (1 : Int32) = 0 by decide), show ∀ z, zf_X5_readTires n (nI sz) st2 en2 ki2 va2 z fa pl ct co tf tt code = zd_9 (zg_X5p n 60 3 (nI sz) st2 en2 ki2 va2 0 fa pl ct co code (0 : Int32)) (fun v1 v2 v3 v4 v5 v6 v7 v8 a9 => zd_1 (za_zb v1) (fun v10 => some (v10, v2, v3, v4, v5, (0 : Int32), v6, v7, v8, co, v8, a9))) from fun _ => rfl, l2, pu_e9]
      rcases l4 with ⟨rfl, z2, z3, z4, a', c', x', z5, z6, z7, z8, z9, z10, z11⟩ | ⟨rfl, z2, z3, z4⟩
      · obtain ⟨q', hq'⟩ := pp_J_L (law := 0) (by omega) hJ z6 z9 z10 z11
        rw [if_pos rfl, if_pos rfl, if_pos rfl, if_pos rfl] at hq'
        have hco : co = nI c := hJ.2.2.2.2.2.1
        have hco' : co' = nI c' := z9.1
        rw [← hco, ← hco'] at hq'
        rw [show za_zb (1 : Int32) = some 1 from rfl, pu_e1, pu_e12, if_neg (show ¬ (1 : Int32) = 0 by decide)]
        exact ⟨_, _, _, _, _, _, _, _, _, _, _, _, _, _, _, _, _, _, _, _, _, _, _, _, _, _, _, _, _, _, rfl, rfl, Or.inl ⟨rfl, z2, z3, z4, a', q', c', x', by omega, z7, z8, hq', fun k hk hk2 => (z9.2.2.2 k (by omega)).trans (by rw [pu_upn (by omega), pu_upn (by omega), pu_upn (by omega)]; exact (hF k (by omega)).symm)⟩⟩
      · rw [show za_zb (0 : Int32) = some 0 from rfl, pu_e1, pu_e12, if_pos rfl]
        exact ⟨_, _, _, _, _, _, _, _, _, _, _, _, _, _, _, _, _, _, _, _, _, _, _, _, _, _, _, _, _, _, rfl, rfl, Or.inr ⟨rfl, z2, z3, z4⟩⟩
  rw [y1, pu_e5, if_pos (show (0 : Int32) = 0 from rfl), if_neg (show ¬ rk = (13 : Int32) from y0), if_pos (show (0 : Int32) = 0 from rfl), pr_is, pu_e1]
  rcases pp_acc2 (i := 36) 14 hn hx hta (by unfold pm_cc; decide) with ⟨y0, st1, en1, ki1, va1, at2, be2, rk2, nu2, a1, y1, y2, y3, y4⟩ | ⟨y1, y0⟩
  · -- may
    rw [y1, pu_e5, if_neg (show ¬ (1 : Int32) = 0 by decide), if_pos (show rk = (14 : Int32) from y0), if_neg (show ¬ (1 : Int32) = 0 by decide), hlaw, y2, pu_e4, show rk - (13 : Int32) = nI 1 from by rw [y0]; decide]
    rcases pp_law (law := 1) (t := 0) (may := 1) (fa := fa) (pl := pl) (wa := wa) hn hx (Or.inr ⟨rfl, rfl, rfl⟩) y4 hJ.2.2.2.2.2 (by omega) with ⟨f, w, l1, at', be', rk', nu', fresh', l2⟩ | ⟨st2, en2, ki2, va2, l1, g, st', en', ki', va', f, p, co', code', at', be', rk', nu', wr, wa', fresh', l2, l3, l4⟩
    · rw [l1, l2, pu_e7, pu_e8, if_pos rfl]
      exact ⟨_, _, _, _, _, _, _, _, _, _, _, _, _, _, _, _, _, _, _, _, _, _, _, _, _, _, _, _, _, _, rfl, rfl, Or.inr ⟨rfl, w, rfl, rfl⟩⟩
    · rw [l1, l3, pu_e7, pu_e8, if_neg (show ¬ (1 : Int32) = 0 by decide), show ∀ z, zf_X5_readMay n (nI sz) st2 en2 ki2 va2 z fa pl ct co mf mt code = zd_9 (zg_X5p n 60 0 (nI sz) st2 en2 ki2 va2 1 fa pl ct co code (0 : Int32)) (fun v1 v2 v3 v4 v5 v6 v7 v8 a9 => zd_1 (za_zb v1) (fun v10 => some (v10, v2, v3, v4, v5, (1 : Int32), v6, v7, v8, co, v8, a9))) from fun _ => rfl, l2, pu_e9]
      rcases l4 with ⟨rfl, z2, z3, z4, a', c', x', z5, z6, z7, z8, z9, z10, z11⟩ | ⟨rfl, z2, z3, z4⟩
      · obtain ⟨q', hq'⟩ := pp_J_L (law := 1) (by omega) hJ z6 z9 z10 z11
        rw [if_neg (by decide), if_neg (by decide), if_neg (by decide), if_neg (by decide)] at hq'
        have hco : co = nI c := hJ.2.2.2.2.2.1
        have hco' : co' = nI c' := z9.1
        rw [← hco, ← hco'] at hq'
        rw [show za_zb (1 : Int32) = some 1 from rfl, pu_e1, pu_e12, if_neg (show ¬ (1 : Int32) = 0 by decide)]
        exact ⟨_, _, _, _, _, _, _, _, _, _, _, _, _, _, _, _, _, _, _, _, _, _, _, _, _, _, _, _, _, _, rfl, rfl, Or.inl ⟨rfl, z2, z3, z4, a', q', c', x', by omega, z7, z8, hq', fun k hk hk2 => (z9.2.2.2 k (by omega)).trans (by rw [pu_upn (by omega), pu_upn (by omega), pu_upn (by omega)]; exact (hF k (by omega)).symm)⟩⟩
      · rw [show za_zb (0 : Int32) = some 0 from rfl, pu_e1, pu_e12, if_pos rfl]
        exact ⟨_, _, _, _, _, _, _, _, _, _, _, _, _, _, _, _, _, _, _, _, _, _, _, _, _, _, _, _, _, _, rfl, rfl, Or.inr ⟨rfl, z2, z3, z4⟩⟩
  obtain ⟨f, f1, f2, f3, f5⟩ := pp_ref hta hx
  rw [y1, pu_e5, if_pos (show (0 : Int32) = 0 from rfl), f2, pu_e3, show za_zb (0 : Int32) = some 0 from rfl, pu_e1, if_neg (show ¬ rk = (14 : Int32) from y0), if_pos (show (0 : Int32) = 0 from rfl), f3, pu_e2]
  exact ⟨_, _, _, _, _, _, _, _, _, _, _, _, _, _, _, _, _, _, _, _, _, _, _, _, _, _, _, _, _, _, rfl, rfl, Or.inr ⟨rfl, f1, rfl, f5⟩⟩
end PLi2
