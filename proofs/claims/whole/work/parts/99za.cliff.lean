/-! cliff -/
theorem pc_cpy {f g : Nat → Int32} {N c : Nat} (hc : c ≤ N) (hN : N < 2147483648) : za_cpy f N g N (0 : Int32) (0 : Int32) (nI c) = some (va_cpy f g 0 0 c) := by
  unfold za_cpy
  have h0 : (0 : Int32).toNatClampNeg = 0 := rfl
  have hc2 : (nI c).toNatClampNeg = c := by
    show (nI c).toInt.toNat = c
    rw [pn_toInt (by omega)]; exact Int.toNat_natCast c
  rw [h0, hc2, if_neg]
  rintro (z | z | z | z | z)
  · exact absurd z (by decide)
  · exact absurd z (by decide)
  · exact pn_nn (by omega) z
  · omega
  · omega
theorem pc_copyK {q : Nat → Nat} {c : Nat} {t1 t2 t3 t4 t5 t6 t7 t8 t9 t10 t11 t12 t13 top things sr sth ss sw sl li co tf tt mf mt : Int32} {b1 b2 b3 b4 bars gives rough code : Nat → Int32} (h : pp_K q top things sl li co tf tt mf mt bars gives rough code) : pu_ok (zf_X0_copyFrom t1 t2 t3 t4 t5 t6 t7 t8 t9 t10 t11 t12 t13 b1 b2 b3 b4 top things sr sth ss sw sl li co tf tt mf mt bars gives rough code) (fun r => r.1 = top ∧ r.2.1 = things ∧ r.2.2.1 = sr ∧ r.2.2.2.1 = sth ∧ r.2.2.2.2.1 = ss ∧ r.2.2.2.2.2.1 = sw ∧ r.2.2.2.2.2.2.1 = sl ∧ r.2.2.2.2.2.2.2.1 = li ∧ r.2.2.2.2.2.2.2.2.1 = co ∧ r.2.2.2.2.2.2.2.2.2.1 = tf ∧ r.2.2.2.2.2.2.2.2.2.2.1 = tt ∧ r.2.2.2.2.2.2.2.2.2.2.2.1 = mf ∧ r.2.2.2.2.2.2.2.2.2.2.2.2.1 = mt ∧ pp_K q top things sl li co tf tt mf mt r.2.2.2.2.2.2.2.2.2.2.2.2.2.1 r.2.2.2.2.2.2.2.2.2.2.2.2.2.2.1 r.2.2.2.2.2.2.2.2.2.2.2.2.2.2.2.1 r.2.2.2.2.2.2.2.2.2.2.2.2.2.2.2.2) := by
  obtain ⟨h1, ⟨k1, k2, k3, k4, k5, k6⟩, h3, h4, h5⟩ := h
  have h93 : q 93 ≤ 900 := h1.2.2.2.2.2
  unfold zf_X0_copyFrom
  rw [show (9 : Int32) = nI 9 from rfl, pc_cpy (by omega) (by omega), pu_e1, pc_cpy (by omega) (by omega), pu_e1, pc_cpy (by omega) (by omega), pu_e1, h5, pc_cpy h93 (by omega), pu_e1]
  refine pu_some.mpr ⟨rfl, rfl, rfl, rfl, rfl, rfl, rfl, rfl, rfl, rfl, rfl, rfl, rfl, h1, ⟨k1, k2, ?_, k4, k5, ?_⟩, h3, h4, rfl⟩
  · intro r hr
    dsimp only
    rw [pk_cpy_in (Nat.zero_le _) (by omega), pk_cpy_in (Nat.zero_le _) (by omega), pk_cpy_in (Nat.zero_le _) (by omega), show 0 + (r - 0) = r from by omega]
    exact k3 r hr
  · intro k hk
    dsimp only
    rw [pk_cpy_in (Nat.zero_le _) (by omega), show 0 + (k - 0) = k from by omega]
    exact k6 k hk
theorem pp_tape_le {T T' : Nat} {ct rt : Nat → Int32} (h : pp_tape T ct rt) (hT : T' ≤ T) : pp_tape T' ct rt := ⟨Nat.le_trans hT h.1, fun k hk => h.2 k (by omega)⟩
theorem pp_tape_tx {T sz : Nat} {ct rt : Nat → Int32} (h : pp_tape T ct rt) (hT : sz ≤ T) : ∃ B, pp_tx B sz ct rt := by
  refine ⟨fun k => (rt k).toInt.toNat, Nat.le_trans hT h.1, fun k hk => ?_⟩
  obtain ⟨h1, b, h2, h3⟩ := h.2 k (by omega)
  show ct k = nI (rt k).toInt.toNat ∧ rt k = nI (rt k).toInt.toNat ∧ (rt k).toInt.toNat < 256
  rw [h1, h3, pn_back (by omega)]
  exact ⟨rfl, rfl, h2⟩
/-- the wind is settled behind a new cliff -/
theorem pc_anew {n : Nat} {q : Nat → Nat} {w : Nat} {und ww known : Int32} {told : Nat → Int32} (hn : 1000 ≤ n) (hq : pm_cliff q) (hw : w ≤ 9) : pu_ok (zf_X10_startAnew n und (nI w) ww told known) (fun r => r.1 = 0 ∧ r.2.1 = nI w ∧ pc_told q w r.2.2.1 ∧ r.2.2.2 = 0) := by
  unfold zf_X10_startAnew
  refine pu_d1.mpr (pu_mono (pc_forget hn hq) ?_)
  intro a1 h1
  unfold zf_X10_settle
  by_cases c : nI w = ww
  · unfold zf_X2_useWind zf_X1_forget
    rw [if_pos c, pu_e2, pu_e1, pu_e3]
    exact pu_some.mpr ⟨rfl, c.symm, h1 w, rfl⟩
  · unfold zf_X2_useWind zf_X1_forget
    rw [if_neg c]
    refine pu_d3.mpr (pu_d2.mpr (pu_d1.mpr (pu_mono (pc_forget hn hq) ?_)))
    intro a2 h2
    refine pu_some.mpr ?_
    rw [pu_e1]
    refine pu_some.mpr ?_
    exact pu_some.mpr ⟨rfl, rfl, h2 w, rfl⟩
section PCl
variable {n : Nat} {q : Nat → Nat}
theorem pp_cliff {T a_sp : Nat} {wc : Value} {ct rt all fresh : Nat → Int32} {thrown at1 be sz rk nu wr wa fk fp rd und top things sr sth ss sw sl li co tf tt mf mt t1 t2 t3 t4 t5 t6 t7 t8 t9 t10 t11 t12 t13 rl st en ki va im nst nwi nde ww known p1 : Int32} {bars gives rough code b1 b2 b3 b4 told pst pwi pde : Nat → Int32} (hn : 1000 ≤ n) (ht : pp_tape T ct rt) (ha : pr_all all q) (hK : pp_K q top things sl li co tf tt mf mt bars gives rough code) (hN : pp_new q und nst nwi nde ww told pst pwi pde) :
    ∃ v q' T' F P, T' ≤ T ∧ pu_ok (zf_X10_cliff n (nI T) und ct top things sr sth ss sw sl li co tf tt mf mt bars gives rough code a_sp t1 t2 t3 t4 t5 t6 t7 t8 t9 t10 t11 t12 t13 b1 b2 b3 b4 rl st en ki va wc im fk fp nst nwi nde ww told known p1) (fun r => r.1 = v ∧ r.2.1 = nI T' ∧ pp_K q' r.2.2.2.1 r.2.2.2.2.1 r.2.2.2.2.2.2.2.2.2.1 r.2.2.2.2.2.2.2.2.2.2.1 r.2.2.2.2.2.2.2.2.2.2.2.1 r.2.2.2.2.2.2.2.2.2.2.2.2.1 r.2.2.2.2.2.2.2.2.2.2.2.2.2.1 r.2.2.2.2.2.2.2.2.2.2.2.2.2.2.1 r.2.2.2.2.2.2.2.2.2.2.2.2.2.2.2.1 r.2.2.2.2.2.2.2.2.2.2.2.2.2.2.2.2.1 r.2.2.2.2.2.2.2.2.2.2.2.2.2.2.2.2.2.1 r.2.2.2.2.2.2.2.2.2.2.2.2.2.2.2.2.2.2.1 r.2.2.2.2.2.2.2.2.2.2.2.2.2.2.2.2.2.2.2.1 ∧ r.2.2.2.2.2.2.2.2.2.2.2.2.2.2.2.2.2.2.2.2.2.2.2.2.2.2.2.2.2.2.2.2.2.2.2.2.2.2.2.2.2.2.2.2.1 = F ∧ r.2.2.2.2.2.2.2.2.2.2.2.2.2.2.2.2.2.2.2.2.2.2.2.2.2.2.2.2.2.2.2.2.2.2.2.2.2.2.2.2.2.2.2.2.2.1 = P ∧ pp_new q' r.2.2.1 r.2.2.2.2.2.2.2.2.2.2.2.2.2.2.2.2.2.2.2.2.2.2.2.2.2.2.2.2.2.2.2.2.2.2.2.2.2.2.2.2.2.2.2.2.2.2.1 r.2.2.2.2.2.2.2.2.2.2.2.2.2.2.2.2.2.2.2.2.2.2.2.2.2.2.2.2.2.2.2.2.2.2.2.2.2.2.2.2.2.2.2.2.2.2.2.1 r.2.2.2.2.2.2.2.2.2.2.2.2.2.2.2.2.2.2.2.2.2.2.2.2.2.2.2.2.2.2.2.2.2.2.2.2.2.2.2.2.2.2.2.2.2.2.2.2.1 r.2.2.2.2.2.2.2.2.2.2.2.2.2.2.2.2.2.2.2.2.2.2.2.2.2.2.2.2.2.2.2.2.2.2.2.2.2.2.2.2.2.2.2.2.2.2.2.2.2.1 r.2.2.2.2.2.2.2.2.2.2.2.2.2.2.2.2.2.2.2.2.2.2.2.2.2.2.2.2.2.2.2.2.2.2.2.2.2.2.2.2.2.2.2.2.2.2.2.2.2.2.1 pst pwi pde ∧ (r.2.2.2.2.2.2.2.2.2.2.2.2.2.2.2.2.2.2.2.2.2.2.2.2.2.2.2.2.2.2.2.2.2.2.2.2.2.2.2.2.2.2.2.2.2.2.2.2.2.2.2 = 0 ∨ r.2.2.2.2.2.2.2.2.2.2.2.2.2.2.2.2.2.2.2.2.2.2.2.2.2.2.2.2.2.2.2.2.2.2.2.2.2.2.2.2.2.2.2.2.2.2.2.2.2.2.2 = known ∧ q' = q)) ∧ pu_ok (zf_X11_cliff n thrown (nI T) at1 be sz rk nu wr wa fk fp rd all rt fresh p1) (fun y => y.1 = v ∧ y.2.2.1 = nI T' ∧ y.2.2.2.2.2.2.2.2.2.2.1 = F ∧ y.2.2.2.2.2.2.2.2.2.2.2.1 = P ∧ pr_all y.2.2.2.2.2.2.2.2.2.2.2.2.2.1 q' ∧ ∀ k, 994 ≤ k → y.2.2.2.2.2.2.2.2.2.2.2.2.2.1 k = all k) := by
  have h9 := ht.1
  rw [pr_cliff_t, pr_within, pu_e1, Int32.toInt_toInt64, Int32.toInt_toInt64, show (0 : Int64).toInt = 0 from rfl, pn_toInt (by omega)]
  unfold zf_X10_cliff
  by_cases d1 : 0 ≤ p1.toInt
  rotate_left
  · refine ⟨(-3 : Int32), q, T, fk, fp, Nat.le_refl _, ?_, ?_⟩
    · rw [if_pos (pn_neg d1)]; exact pu_some.mpr ⟨rfl, rfl, hK, rfl, rfl, hN, Or.inr ⟨rfl, rfl⟩⟩
    · rw [if_neg (show ¬ (0 ≤ p1.toInt ∧ p1.toInt ≤ (T : Int)) by omega), if_pos rfl]; exact pu_some.mpr ⟨rfl, rfl, rfl, rfl, ha, fun _ _ => rfl⟩
  obtain ⟨k, rfl, hk, _⟩ := pn_of d1
  rw [pn_toInt hk]
  by_cases d2 : k ≤ T
  rotate_left
  · refine ⟨(-3 : Int32), q, T, fk, fp, Nat.le_refl _, ?_, ?_⟩
    · rw [if_neg (pn_nn hk), if_neg (fun z => d2 ((pn_le hk (by omega)).mp z))]; exact pu_some.mpr ⟨rfl, rfl, hK, rfl, rfl, hN, Or.inr ⟨rfl, rfl⟩⟩
    · rw [if_neg (show ¬ (0 ≤ (k : Int) ∧ (k : Int) ≤ (T : Int)) by omega), if_pos rfl]; exact pu_some.mpr ⟨rfl, rfl, rfl, rfl, ha, fun _ _ => rfl⟩
  rw [if_neg (pn_nn hk), if_pos ((pn_le hk (by omega)).mpr d2), if_pos (show 0 ≤ (k : Int) ∧ (k : Int) ≤ (T : Int) by omega), if_neg (show ¬ (1 : Int32) = 0 by decide)]
  obtain ⟨B, hx⟩ := pp_tape_tx ht d2
  rcases pp_text (rl := rl) (st := st) (en := en) (ki := ki) (va := va) (wc := wc) (im := im) (fa := fk) (pl := fp) (top := t1) (things := t2) (sr := t3) (sth := t4) (ss := t5) (sw := t6) (sl := t7) (li := t8) (co := t9) (tf := t10) (tt := t11) (mf := t12) (mt := t13) (rd := rd) (at1 := at1) (rk := rk) (nu := nu) (wa := wa) (a_sp := a_sp) (bars := b1) (gives := b2) (rough := b3) (code := b4) (all := all) (fresh := fresh) hn hx with ⟨f, p, f0, ⟨⟨z1, z2, z3, z4, z5, z6, z7, z8, z9, z10, z11, z12, z13, z14, z15, z16, z17, z18, z19, z20, z21, z22, z23, z24, z25, z26, z27⟩, y1, y2, y3, y4⟩, ⟨at', be', sz', rk', nu', rd', fr', y5⟩⟩ | ⟨⟨z1, z2, z3, z4, z5, z6, z7, z8, z9, z10, z11, z12, z13, z14, z15, z16, z17, z18, z19, z20, z21, z22, z23, z24, z25, z26, z27⟩, a, b, d, e, f, g, h, al, fr, y1, y2, y3, y4, y5, y6, y7, y8, y9, y10, q1, c, x, hc, hJ⟩
  · dsimp only at y2 y3 y4
    subst y2 y3 y4
    refine ⟨(-30 : Int32) - z9, q, 0, z9, z10, Nat.zero_le _, ?_, ?_⟩
    · rw [y1, pu_e27, if_pos rfl]
      exact pu_some.mpr ⟨rfl, rfl, hK, rfl, rfl, hN, Or.inr ⟨rfl, rfl⟩⟩
    · rw [y5]
      exact pu_some.mpr ⟨rfl, rfl, rfl, rfl, ha, fun _ _ => rfl⟩
  · dsimp only at y2 y3 y4 y9 hJ
    subst y2 y3 y4 y9
    obtain ⟨q', j1, j2, rfl, rfl, rfl, rfl, j3, j4, j5, j6, j7, j8, j9⟩ := pp_J_K hJ hc y8 y10
    refine ⟨nI h, q', 0, 0, (-1 : Int32), Nat.zero_le _, ?_, ?_⟩
    · rw [y1, pu_e27, if_neg (show ¬ (1 : Int32) = 0 by decide)]
      refine pu_d17.mpr (pu_mono (pc_copyK (c := c) j2) ?_)
      rintro ⟨u1, u2, u3, u4, u5, u6, u7, u8, u9, u10, u11, u12, u13, u14, u15, u16, u17⟩ ⟨v1, v2, v3, v4, v5, v6, v7, v8, v9, v10, v11, v12, v13, v14⟩
      dsimp only at v1 v2 v3 v4 v5 v6 v7 v8 v9 v10 v11 v12 v13 v14 ⊢
      subst v1 v2 v3 v4 v5 v6 v7 v8 v9 v10 v11 v12 v13
      unfold zf_X4_begin
      rw [pc_standOf, pu_e1, pu_e3]
      refine pu_d4.mpr (pu_mono (pc_anew (q := q') hn j2.1 j8) ?_)
      rintro ⟨w1, w2, w3, w4⟩ ⟨x1, x2, x3, x4⟩
      dsimp only at x1 x2 x3 x4 ⊢
      subst x1 x2 x4
      exact pu_some.mpr ⟨rfl, rfl, v14, rfl, rfl, ⟨⟨rfl, rfl, by show (0 : Int32) = nI (q' 41); rw [j3]; rfl, j5, j6, j7, j8⟩, ⟨by show (0 : Int32) = nI (q' 42); rw [j4]; rfl, by rw [j4]; omega, fun k hk => by rw [j4] at hk; omega⟩, rfl, x3⟩, Or.inl rfl⟩
    · rw [y5]
      refine pu_some.mpr ⟨rfl, rfl, rfl, rfl, fun k hk => ?_, y7⟩
      exact (y6 k hk).trans (j1 k hk)
end PCl
