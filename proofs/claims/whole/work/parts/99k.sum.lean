/-! the laws' readers: sums -/
section PSu
variable {n sz : Nat} {B : Nat → Nat} {ct rt : Nat → Int32} {may rd : Int32}
theorem pp_acc2 {a i : Nat} (c : Nat) {st en ki va at1 be rk nu : Int32} (hn : 1000 ≤ n) (hx : pp_tx B sz ct rt) (h : pp_ta B sz a st en ki va at1 be rk nu) (hc : pm_cc i c) :
    (rk = nI c ∧ ∃ st' en' ki' va' at' be' rk' nu' a', zf_X5_accept n (nI sz) st en ki va ct i = some (1, st', en', ki', va') ∧ zf_X11_next n at1 be (nI sz) rk nu rt = some (at', be', rk', nu') ∧ a < a' ∧ pp_ta B sz a' st' en' ki' va' at' be' rk' nu') ∨ (zf_X5_accept n (nI sz) st en ki va ct i = some (0, st, en, ki, va) ∧ ¬ rk = nI c) := by
  unfold zf_X5_accept
  rcases pp_isT hn hx h hc with ⟨h1, h2, h3⟩ | ⟨h1, h2⟩
  · obtain ⟨st', en', ki', va', at', be', rk', nu', a', e1, e2, e3, e4⟩ := pp_go hn hx h (by rw [h3]; decide)
    refine Or.inl ⟨h2, st', en', ki', va', at', be', rk', nu', a', ?_, e2, e3, e4⟩
    rw [h1, pu_e1, if_neg (by decide), e1, pu_e4]
  · refine Or.inr ⟨?_, h2⟩
    rw [h1, pu_e1, if_pos rfl]
theorem pp_Sum {d dp : Nat} (hn : 1000 ≤ n) (hx : pp_tx B sz ct rt) (hR : pp_R n B sz ct rt may rd d 4 dp) : pp_R n B sz ct rt may rd (d + 1) 3 dp := by
  have h9 := hx.1
  intro F0 a c x st en ki va fa pl co code at1 be rk nu wa fresh hta hC hca
  show ∃ g st' en' ki' va' f p co' code' at' be' rk' nu' wr wa' fresh', zh_X5_readSum n (zg_X5p n d) (nI sz) st en ki va may fa pl ct co code (nI dp) = some (g, st', en', ki', va', f, p, co', code') ∧ zh_X11_readSum n (zg_X11p n d) at1 be (nI sz) rk nu 0 wa rd rt fresh (nI dp) = some (at', be', rk', nu', wr, wa', fresh') ∧ _
  unfold zh_X5_readSum zh_X11_readSum
  obtain ⟨g, st1, en1, ki1, va1, f1, p1, co1, code1, at2, be2, rk2, nu2, wr2, wa2, fresh2, e1, e2, e3⟩ := hR F0 a c x st en ki va fa pl co code at1 be rk nu wa fresh hta hC hca
  rw [e1, e2, pu_e9, pu_e7]
  have hQ0 : pp_Q B sz F0 fa pl (1 + 0) a c x ((6 - 3) + 5 * (6 - dp)) true g st1 en1 ki1 va1 f1 p1 co1 code1 at2 be2 rk2 nu2 wr2 wa2 fresh2 := by
    rcases e3 with ⟨z1, z2, z3, z4, a', c', x', z5, z6, z7, z8, z9, z10, z11⟩ | z
    · exact Or.inl ⟨z1, z2, z3, z4, a', c', x', z5, z6, z7, z8, z9, z10, fun ts h => z11 ts (by omega)⟩
    · exact Or.inr z
  obtain ⟨r1, r2, q1, q2, q3, q4⟩ := pu_two (b1 := fun v => zb_X5_readSum_8 n (nI sz) ct (zg_X5p n d) may (nI dp) v.1 v.2.1 v.2.2.1 v.2.2.2.1 v.2.2.2.2.1 v.2.2.2.2.2.1 v.2.2.2.2.2.2.1 v.2.2.2.2.2.2.2.1 v.2.2.2.2.2.2.2.2.1 v.2.2.2.2.2.2.2.2.2) (b2 := fun v => zb_X11_readSum_5 n (nI sz) rt (zg_X11p n d) rd (nI dp) v.1 v.2.1 v.2.2.1 v.2.2.2.1 v.2.2.2.2.1 v.2.2.2.2.2.1 v.2.2.2.2.2.2) (n := n) (v1 := (g, (0 : Int32), st1, en1, ki1, va1, f1, p1, co1, code1)) (v2 := (at2, be2, rk2, nu2, wr2, wa2, fresh2))
    (fun k u y => u.2.1 = nI k ∧ pp_Q B sz F0 fa pl (1 + k) a c x ((6 - 3) + 5 * (6 - dp)) true u.1 u.2.2.1 u.2.2.2.1 u.2.2.2.2.1 u.2.2.2.2.2.1 u.2.2.2.2.2.2.1 u.2.2.2.2.2.2.2.1 u.2.2.2.2.2.2.2.2.1 u.2.2.2.2.2.2.2.2.2 y.1 y.2.1 y.2.2.1 y.2.2.2.1 y.2.2.2.2.1 y.2.2.2.2.2.1 y.2.2.2.2.2.2)
    (P := fun r1 r2 => pp_Q B sz F0 fa pl 1 a c x ((6 - 3) + 5 * (6 - dp)) true r1.2.1 r1.2.2.2.1 r1.2.2.2.2.1 r1.2.2.2.2.2.1 r1.2.2.2.2.2.2.1 r1.2.2.2.2.2.2.2.1 r1.2.2.2.2.2.2.2.2.1 r1.2.2.2.2.2.2.2.2.2.1 r1.2.2.2.2.2.2.2.2.2.2 r2.2.1 r2.2.2.1 r2.2.2.2.1 r2.2.2.2.2.1 r2.2.2.2.2.2.1 r2.2.2.2.2.2.2.1 r2.2.2.2.2.2.2.2 ∧ (r1.1 = 1 ∧ r1.2.1 = 1 ∨ r1.1 = 2))
    900 (by omega) ⟨rfl, hQ0⟩ (by
      rintro k ⟨v10, v11, v12, v13, v14, v15, v16, v17, v18, a19⟩ ⟨u8, u9, u10, u11, u12, u13, a14⟩ hk ⟨w1, w2⟩
      dsimp only at w1 w2 ⊢
      subst w1
      rcases w2 with ⟨z1, z2, z3, z4, a', c', x', z5, z6, z7, z8, z9, z10, z11⟩ | ⟨z1, z2, z3, z4⟩
      rotate_left
      · refine ⟨(2, v10, nI k, v12, v13, v14, v15, v16, v17, v18, a19), (1, u8, u9, u10, u11, u12, u13, a14), ?_, ?_, Or.inr ⟨fun z => Nat.noConfusion z, fun z => Nat.noConfusion z, Or.inr ⟨z1, z2, z3, z4⟩, Or.inr rfl⟩⟩
        · unfold zb_X5_readSum_8
          by_cases q : (900 : Int32) ≤ nI k
          · rw [if_pos q]
          · rw [if_neg q, if_pos z1]
        · unfold zb_X11_readSum_5
          rw [pr_isW z2, pu_e1, if_pos rfl, pr_isW z2, pu_e1, if_pos rfl]
      have hle := pp_ta_le z8
      subst z1 z2 z3 z4
      have hone : ∀ (z : Nat) (w : Int32), (z = 3000 ∨ z = 3001) → w = nI (pe_cm z) → ∀ st3 en3 ki3 va3 at3 be3 rk3 nu3 a3, a' < a3 → pp_ta B sz a3 st3 en3 ki3 va3 at3 be3 rk3 nu3 → ∃ ra rb, zd_9 (zg_X5p n d 4 (nI sz) st3 en3 ki3 va3 may v16 v17 ct v18 a19 (nI dp)) (fun v46 v47 v48 v49 v50 v51 v52 v53 a54 => zd_3 (if v46 = 0 then some ((0 : Int32), v53, a54) else zd_3 (zf_X0_addSign v53 a54 w) (fun v55 v56 a57 => if v55 = 0 then some ((0 : Int32), v56, a57) else some ((1 : Int32), v56, a57))) (fun v58 v59 a60 => zd_1 (some (nI k + (1 : Int32))) (fun v61 => some ((0 : Nat), v58, v61, v47, v48, v49, v50, v51, v52, v59, a60)))) = some (0, ra) ∧ zd_7 (zg_X11p n d 4 at3 be3 (nI sz) rk3 nu3 0 u13 rd rt a14 (nI dp)) (fun v35 v36 v37 v38 v39 v40 a41 => zd_1 (zf_X11_codes v39 a41 (nI z)) (fun a42 => some ((0 : Nat), v35, v36, v37, v38, v39, v40, a42))) = some (0, rb) ∧ ra.2.1 = nI (k + 1) ∧ pp_Q B sz F0 v16 v17 (1 + (k + 1)) a c x ((6 - 3) + 5 * (6 - dp)) true ra.1 ra.2.2.1 ra.2.2.2.1 ra.2.2.2.2.1 ra.2.2.2.2.2.1 ra.2.2.2.2.2.2.1 ra.2.2.2.2.2.2.2.1 ra.2.2.2.2.2.2.2.2.1 ra.2.2.2.2.2.2.2.2.2 rb.1 rb.2.1 rb.2.2.1 rb.2.2.2.1 rb.2.2.2.2.1 rb.2.2.2.2.2.1 rb.2.2.2.2.2.2 := by
        intro z w hz hw st3 en3 ki3 va3 at3 be3 rk3 nu3 a3 y3 y4
        obtain ⟨g4, st4, en4, ki4, va4, f4, p4, co4, code4, at4, be4, rk4, nu4, wr4, wa4, fresh4, i1, i2, i3⟩ := hR F0 a3 c' x' st3 en3 ki3 va3 v16 v17 v18 a19 at3 be3 rk3 nu3 u13 a14 y4 z9 (by omega)
        rw [i1, i2, pu_e9, pu_e7]
        rcases i3 with ⟨j1, j2, j3, j4, a5, c5, x5, j5, j6, j7, j8, j9, j10, j11⟩ | ⟨j1, j2, j3, j4⟩
        · have hle5 := pp_ta_le j8
          obtain ⟨code6, fresh6, m1, m2, m3⟩ := pp_emit (z := z) j9 (by omega)
          refine ⟨(1, nI (k + 1), st4, en4, ki4, va4, f4, p4, nI (c5 + 1), code6), (at4, be4, rk4, nu4, wr4, wa4, fresh6), ?_, ?_, rfl, Or.inl ⟨rfl, j2, j3, j4, a5, c5 + 1, pm_wx x5 c5 z, by omega, by omega, by omega, j8, m3, ?_, ?_⟩⟩
          · rw [j1, if_neg (by decide), hw, m1, pu_e3, if_neg (by decide), pu_e3, pn_a1, pu_e1]
          · rw [j2, m2, pu_e1]
          · intro l hl
            rw [pm_wx_n (by omega), j10 l (by omega), z10 l hl]
          · refine pe_bin z6 j6 j10 z11 (fun ts h => j11 ts (by omega)) (by omega) (fun ts => ?_)
            rcases hz with rfl | rfl <;> rfl
        · refine ⟨(0, nI (k + 1), st4, en4, ki4, va4, f4, p4, co4, code4), (at4, be4, rk4, nu4, wr4, wa4, fresh4), ?_, ?_, rfl, Or.inr ⟨rfl, j2, j3, j4⟩⟩
          · rw [j1, if_pos rfl, pu_e3, pn_a1, pu_e1]
          · rw [pr_codesW j2, pu_e1]
      have hk9 : ¬ (900 : Int32) ≤ nI k := fun z => by have := (pv_le 900 (by omega) (by omega)).mp z; omega
      rcases pp_acc2 (i := 34) 32 hn hx z8 (by unfold pm_cc; decide) with ⟨y0, st3, en3, ki3, va3, at3, be3, rk3, nu3, a3, y1, y2, y3, y4⟩ | ⟨y1, y0⟩
      · obtain ⟨ra, rb, o1, o2, o3, o4⟩ := hone 3000 1010 (Or.inl rfl) (by decide) st3 en3 ki3 va3 at3 be3 rk3 nu3 a3 y3 y4
        refine ⟨(0, ra), (0, rb), ?_, ?_, Or.inl ⟨rfl, rfl, by omega, o3, o4⟩⟩
        · unfold zb_X5_readSum_8
          rw [if_neg hk9, if_neg (by decide), y1, pu_e5, if_neg (by decide)]
          exact o1
        · unfold zb_X11_readSum_5
          rw [pr_is, if_pos (show u10 = (32 : Int32) from y0), pu_e1, if_neg (by decide), if_pos (show u10 = (32 : Int32) from y0), pu_e1, y2, pu_e4]
          exact o2
      · rcases pp_acc2 (i := 35) 33 hn hx z8 (by unfold pm_cc; decide) with ⟨x0, st3, en3, ki3, va3, at3, be3, rk3, nu3, a3, x1, x2, x3, x4⟩ | ⟨x1, x0⟩
        · obtain ⟨ra, rb, o1, o2, o3, o4⟩ := hone 3001 1011 (Or.inr rfl) (by decide) st3 en3 ki3 va3 at3 be3 rk3 nu3 a3 x3 x4
          refine ⟨(0, ra), (0, rb), ?_, ?_, Or.inl ⟨rfl, rfl, by omega, o3, o4⟩⟩
          · unfold zb_X5_readSum_8
            rw [if_neg hk9, if_neg (by decide), y1, pu_e5, if_pos rfl, x1, pu_e5, if_neg (by decide)]
            exact o1
          · unfold zb_X11_readSum_5
            rw [pr_is, if_neg (show ¬ u10 = (32 : Int32) from y0), pu_e1, if_pos rfl, pr_is, if_pos (show u10 = (33 : Int32) from x0), pu_e1, if_neg (by decide), if_neg (show ¬ u10 = (32 : Int32) from y0), pu_e1, x2, pu_e4]
            exact o2
        · refine ⟨(1, 1, nI k, v12, v13, v14, v15, v16, v17, v18, a19), (1, u8, u9, u10, u11, 0, u13, a14), ?_, ?_, Or.inr ⟨fun z => Nat.noConfusion z, fun z => Nat.noConfusion z, Or.inl ⟨rfl, rfl, rfl, rfl, a', c', x', by omega, z6, z7, z8, z9, z10, z11⟩, Or.inl ⟨rfl, rfl⟩⟩⟩
          · unfold zb_X5_readSum_8
            rw [if_neg hk9, if_neg (by decide), y1, pu_e5, if_pos rfl, x1, pu_e5, if_pos rfl]
          · unfold zb_X11_readSum_5
            rw [pr_is, if_neg (show ¬ u10 = (32 : Int32) from y0), pu_e1, if_pos rfl, pr_is, if_neg (show ¬ u10 = (33 : Int32) from x0), pu_e1, if_pos rfl])
  obtain ⟨t0, t1, t2, t3, t4, t5, t6, t7, t8, t9, t10⟩ := r1
  obtain ⟨b0, b1, b2, b3, b4, b5, b6, b7⟩ := r2
  dsimp only at q3 q4
  rw [q1, q2, pu_e11, pu_e8]
  have hzb : za_zb t1 = some t1 := by
    rcases q3 with ⟨rfl, _⟩ | ⟨rfl, _⟩ <;> rfl
  rcases q4 with ⟨rfl, h1⟩ | rfl
  · rw [if_pos rfl]
    rw [h1] at q3
    exact ⟨_, _, _, _, _, _, _, _, _, _, _, _, _, _, _, _, rfl, rfl, q3⟩
  · rw [if_neg (by decide), if_pos rfl, hzb, pu_e1]
    exact ⟨_, _, _, _, _, _, _, _, _, _, _, _, _, _, _, _, rfl, rfl, q3⟩
end PSu
