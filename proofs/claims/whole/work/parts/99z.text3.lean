/-! a whole text, on both sides -/
def pc_bd (o : Option (Int32 × Int32 × Int32 × Int32 × Int32 × Int32 × Value × Int32 × Int32 × Int32 × Int32 × Int32 × Int32 × Int32 × Int32 × Int32 × Int32 × Int32 × Int32 × Int32 × Int32 × Int32 × Int32 × (Nat → Int32) × (Nat → Int32) × (Nat → Int32) × (Nat → Int32))) (wr wa : Int32) : Prop := ∃ r, o = some r ∧ r.1 = 0 ∧ r.2.2.2.2.2.2.2.2.1 = wr ∧ r.2.2.2.2.2.2.2.2.2.1 = wa
theorem pc_linesW {n : Nat} {sz top things ii st en ki va im f p sr sth ss sw sl li co tf tt mf mt : Int32} {ct bars gives rough code : Nat → Int32} (hn : 1 ≤ n) : za_it (fun v => zb_X5_readText_52 n sz ct top things v.1 v.2.1 v.2.2.1 v.2.2.2.1 v.2.2.2.2.1 v.2.2.2.2.2.1 v.2.2.2.2.2.2.1 v.2.2.2.2.2.2.2.1 v.2.2.2.2.2.2.2.2.1 v.2.2.2.2.2.2.2.2.2.1 v.2.2.2.2.2.2.2.2.2.2.1 v.2.2.2.2.2.2.2.2.2.2.2.1 v.2.2.2.2.2.2.2.2.2.2.2.2.1 v.2.2.2.2.2.2.2.2.2.2.2.2.2.1 v.2.2.2.2.2.2.2.2.2.2.2.2.2.2.1 v.2.2.2.2.2.2.2.2.2.2.2.2.2.2.2.1 v.2.2.2.2.2.2.2.2.2.2.2.2.2.2.2.2.1 v.2.2.2.2.2.2.2.2.2.2.2.2.2.2.2.2.2.1 v.2.2.2.2.2.2.2.2.2.2.2.2.2.2.2.2.2.2.1 v.2.2.2.2.2.2.2.2.2.2.2.2.2.2.2.2.2.2.2.1 v.2.2.2.2.2.2.2.2.2.2.2.2.2.2.2.2.2.2.2.2.1 v.2.2.2.2.2.2.2.2.2.2.2.2.2.2.2.2.2.2.2.2.2.1 v.2.2.2.2.2.2.2.2.2.2.2.2.2.2.2.2.2.2.2.2.2.2.1 v.2.2.2.2.2.2.2.2.2.2.2.2.2.2.2.2.2.2.2.2.2.2.2) n (0, ii, st, en, ki, va, im, f, p, sr, sth, ss, sw, sl, li, co, tf, tt, mf, mt, bars, gives, rough, code) = some (1, 0, ii, st, en, ki, va, im, f, p, sr, sth, ss, sw, sl, li, co, tf, tt, mf, mt, bars, gives, rough, code) := by
  obtain ⟨m, rfl⟩ := Nat.exists_eq_add_of_le' hn
  show (zb_X5_readText_52 (m + 1) sz ct top things 0 ii st en ki va im f p sr sth ss sw sl li co tf tt mf mt bars gives rough code).bind _ = _
  unfold zb_X5_readText_52
  rw [if_pos (show (0 : Int32) = 0 from rfl), ite_self]; rfl
theorem pr_cp188 {n : Nat} {all fr : Nat → Int32} (hn : 1000 ≤ n) : pu_ok (za_it (fun v => zb_X11_cliff_188 fr v.1 v.2) n ((0 : Int32), all)) (fun y => (∀ k, k < 994 → y.2.2 k = fr k) ∧ ∀ k, 994 ≤ k → y.2.2 k = all k) := by
  refine pu_up (fun j y => y.1 = nI j ∧ (∀ k, k < j → y.2 k = fr k) ∧ ∀ k, 994 ≤ k → y.2 k = all k) 994 (by omega) ⟨rfl, fun k z => by omega, fun _ _ => rfl⟩ ?_
  rintro j ⟨v1, a2⟩ hj ⟨j1, j2, j3⟩
  dsimp only at j1 j2 j3 ⊢
  subst j1
  unfold zb_X11_cliff_188
  by_cases hc : 994 ≤ j
  · have : j = 994 := by omega
    subst this
    rw [if_pos ((pv_le 994 (by omega) (by omega)).mpr hc)]
    exact pu_out (by decide) ⟨j2, j3⟩
  · rw [if_neg (fun z => hc ((pv_le 994 (by omega) (by omega)).mp z)), pu_ld (by omega) (by omega), pu_e1, pu_st (by omega) (by omega), pu_e1, pn_a1, pu_e1]
    refine pu_go ⟨by omega, rfl, fun k z => ?_, fun k z => ?_⟩
    · dsimp only
      by_cases f : k = j
      · rw [f, pu_upe]
      · rw [pu_upn f]; exact j2 k (by omega)
    · dsimp only
      rw [pu_upn (by omega)]; exact j3 k z
section PTz
variable {n sz : Nat} {B : Nat → Nat} {ct rt : Nat → Int32}
/-- the class's text behind its first word, the reference's likewise: `W` a fault on both sides -/
theorem pp_text {rl st en ki va : Int32} {wc : Value} {im fa pl top things sr sth ss sw sl li co tf tt mf mt rd at1 rk nu wa : Int32} {a_sp : Nat} {bars gives rough code all fresh : Nat → Int32} (hn : 1000 ≤ n) (hx : pp_tx B sz ct rt) :
    (∃ f p, ¬ f = 0 ∧ pc_bd (zf_X5_readText n rl st en ki va wc im fa pl ct a_sp top things sr sth ss sw sl li co tf tt mf mt bars gives rough code (nI sz)) f p ∧ pr_bd (pr_t0 n (nI sz) all rt rd at1 rk nu wa fresh) f p all) ∨
    (∃ r a b d e f g h al fr, zf_X5_readText n rl st en ki va wc im fa pl ct a_sp top things sr sth ss sw sl li co tf tt mf mt bars gives rough code (nI sz) = some r ∧ r.1 = 1 ∧ r.2.2.2.2.2.2.2.2.1 = 0 ∧ r.2.2.2.2.2.2.2.2.2.1 = (-1 : Int32) ∧ pr_t0 n (nI sz) all rt rd at1 rk nu wa fresh = some (nI h, (0 : Int32), (0 : Int32), a, b, nI sz, d, e, 0, f, 0, (-1 : Int32), g, al, fr) ∧ (∀ k, k < 994 → al k = fr k) ∧ (∀ k, 994 ≤ k → al k = all k) ∧ fr 0 = nI h ∧ r.2.2.2.2.2.2.2.2.2.2.2.2.2.2.2.2.2.1 = nI h ∧ (∀ k, 41 ≤ k → k < 93 → fr k = 0) ∧ ∃ q c x, c ≤ 900 ∧ pp_J q c x r.2.2.2.2.2.2.2.2.2.2.1 r.2.2.2.2.2.2.2.2.2.2.2.1 r.2.2.2.2.2.2.2.2.2.2.2.2.1 r.2.2.2.2.2.2.2.2.2.2.2.2.2.1 r.2.2.2.2.2.2.2.2.2.2.2.2.2.2.1 r.2.2.2.2.2.2.2.2.2.2.2.2.2.2.2.1 r.2.2.2.2.2.2.2.2.2.2.2.2.2.2.2.2.1 r.2.2.2.2.2.2.2.2.2.2.2.2.2.2.2.2.2.2.1 r.2.2.2.2.2.2.2.2.2.2.2.2.2.2.2.2.2.2.2.1 r.2.2.2.2.2.2.2.2.2.2.2.2.2.2.2.2.2.2.2.2.1 r.2.2.2.2.2.2.2.2.2.2.2.2.2.2.2.2.2.2.2.2.2.1 r.2.2.2.2.2.2.2.2.2.2.2.2.2.2.2.2.2.2.2.2.2.2.1 r.2.2.2.2.2.2.2.2.2.2.2.2.2.2.2.2.2.2.2.2.2.2.2.1 r.2.2.2.2.2.2.2.2.2.2.2.2.2.2.2.2.2.2.2.2.2.2.2.2.1 r.2.2.2.2.2.2.2.2.2.2.2.2.2.2.2.2.2.2.2.2.2.2.2.2.2.1 r.2.2.2.2.2.2.2.2.2.2.2.2.2.2.2.2.2.2.2.2.2.2.2.2.2.2 fr) := by
  have h9 := hx.1
  unfold zf_X5_readText pr_t0
  rw [if_neg (fun z => by have := (pv_lt 900 (by omega) (by omega)).mp z; omega), pu_e1]
  obtain ⟨fr0, y0, y1, y2, y3, _⟩ := pr_plain (N := 994) (a := fresh) hn (by omega) (by omega)
  obtain ⟨b1, g1, g1'⟩ := pc_fill (n := n) (N := 9) (a := bars) (x := 0) (by omega) (by omega)
  obtain ⟨b2, g2, g2'⟩ := pc_fill (n := n) (N := 9) (a := gives) (x := 0) (by omega) (by omega)
  obtain ⟨b3, g3, g3'⟩ := pc_fill (n := n) (N := 9) (a := rough) (x := 0) (by omega) (by omega)
  have hcl : zf_X0_clear n top things sr sth ss sw sl li co tf tt mf mt bars gives rough = some (1, 0, 0, 0, 4, 0, 0, 0, 0, 0, 0, 0, 0, b1, b2, b3) := by
    unfold zf_X0_clear
    rw [g1, pu_e1, g2, pu_e1, g3, pu_e1]
  rw [hcl, pu_e16, y0, pu_e1]
  obtain ⟨st1, en1, ki1, va1, at2, be2, rk2, nu2, b', e1, e2, e3, e4, a, e5, e6, e7, e8, e9, e10, e11⟩ := pp_adv (n := n) (e := 0) (st := st) (ki := ki) (va := va) (at1 := at1) (rk := rk) (nu := nu) hn hx (Nat.zero_le _)
  have hta : pp_ta B sz a st1 en1 ki1 va1 at2 be2 rk2 nu2 := ⟨b', e5, e6, e7, e8, e9, e10, e11⟩
  rw [show zf_X5_advance n (nI sz) st (0 : Int32) ki va ct = some (st1, en1, ki1, va1) from e1, pu_e4, show zf_X11_next n at1 (0 : Int32) (nI sz) rk nu rt = some (at2, be2, rk2, nu2) from e2, pu_e4]
  have hbad : ∀ s1 s2 s3 s4 f p top li l0, ¬ f = 0 → pc_bd (zd_25 (za_it (fun v => zb_X5_readText_52 n (nI sz) ct top li v.1 v.2.1 v.2.2.1 v.2.2.2.1 v.2.2.2.2.1 v.2.2.2.2.2.1 v.2.2.2.2.2.2.1 v.2.2.2.2.2.2.2.1 v.2.2.2.2.2.2.2.2.1 v.2.2.2.2.2.2.2.2.2.1 v.2.2.2.2.2.2.2.2.2.2.1 v.2.2.2.2.2.2.2.2.2.2.2.1 v.2.2.2.2.2.2.2.2.2.2.2.2.1 v.2.2.2.2.2.2.2.2.2.2.2.2.2.1 v.2.2.2.2.2.2.2.2.2.2.2.2.2.2.1 v.2.2.2.2.2.2.2.2.2.2.2.2.2.2.2.1 v.2.2.2.2.2.2.2.2.2.2.2.2.2.2.2.2.1 v.2.2.2.2.2.2.2.2.2.2.2.2.2.2.2.2.2.1 v.2.2.2.2.2.2.2.2.2.2.2.2.2.2.2.2.2.2.1 v.2.2.2.2.2.2.2.2.2.2.2.2.2.2.2.2.2.2.2.1 v.2.2.2.2.2.2.2.2.2.2.2.2.2.2.2.2.2.2.2.2.1 v.2.2.2.2.2.2.2.2.2.2.2.2.2.2.2.2.2.2.2.2.2.1 v.2.2.2.2.2.2.2.2.2.2.2.2.2.2.2.2.2.2.2.2.2.2.1 v.2.2.2.2.2.2.2.2.2.2.2.2.2.2.2.2.2.2.2.2.2.2.2) n (0, 0, s1, s2, s3, s4, im, f, p, 0, 0, 4, 0, 0, l0, 0, 0, 0, 0, 0, b1, b2, b3, code)) (fun g118 v94 v95 v96 v97 v98 v99 v100 v101 v102 v103 v104 v105 v106 v107 v108 v109 v110 v111 v112 v113 a114 a115 a116 a117 =>
      zd_1 (za_zb v94) (fun v119 =>
      some (v119, nI sz, v96, v97, v98, v99, (Value.ref a_sp), v100, v101, v102, top, li, v103, v104, v105, v106, v107, v108, v109, v110, v111, v112, v113, a114, a115, a116, a117)))) f p := by
    intro s1 s2 s3 s4 f p top li l0 hf
    rw [pc_linesW (by omega), pu_e25, show za_zb (0 : Int32) = some 0 from rfl, pu_e1]
    exact ⟨_, rfl, rfl, rfl, rfl⟩
  unfold zf_X5_readFirstLine
  rcases pp_exp (i := 1) (fa := 0) (pl := -1) 0 hn hx hta (by unfold pm_cc; decide) with ⟨st', en', ki', va', at', be', rk', nu', a', i1, i2, i3, hta⟩ | ⟨f, f0, f1, f2, f3⟩
  rotate_left
  · refine Or.inl ⟨f, at2, f0, ?_, ?_⟩
    · rw [f1, pu_e7, if_pos rfl, pu_e10]
      exact hbad _ _ _ _ _ _ _ _ _ f0
    · rw [show zf_X11_eats n at2 be2 (nI sz) rk2 nu2 0 rt (0 : Int32) = some (0, at2, be2, rk2, nu2) from f2, pu_e5, if_pos rfl, f3, pu_e2, pu_e6]
      exact pr_t1W (by omega) f0
  rw [i1, pu_e7, if_neg (show ¬ (1 : Int32) = 0 by decide), show zf_X11_eats n at2 be2 (nI sz) rk2 nu2 0 rt (0 : Int32) = some (1, at', be', rk', nu') from i2, pu_e5, if_neg (show ¬ (1 : Int32) = 0 by decide)]
  clear i1 i2 i3
  rcases pp_exp (i := 2) (fa := 0) (pl := -1) 1 hn hx hta (by unfold pm_cc; decide) with ⟨st3, en3, ki3, va3, at3, be3, rk3, nu3, a3, i1, i2, i3, hta⟩ | ⟨f, f0, f1, f2, f3⟩
  rotate_left
  · refine Or.inl ⟨f, at', f0, ?_, ?_⟩
    · rw [f1, pu_e7, if_pos rfl, pu_e10]
      exact hbad _ _ _ _ _ _ _ _ _ f0
    · rw [show zf_X11_eats n at' be' (nI sz) rk' nu' 0 rt (1 : Int32) = some (0, at', be', rk', nu') from f2, pu_e5, if_pos rfl, f3, pu_e2, pu_e6]
      exact pr_t1W (by omega) f0
  rw [i1, pu_e7, if_neg (show ¬ (1 : Int32) = 0 by decide), show zf_X11_eats n at' be' (nI sz) rk' nu' 0 rt (1 : Int32) = some (1, at3, be3, rk3, nu3) from i2, pu_e5, if_neg (show ¬ (1 : Int32) = 0 by decide), pu_e6]
  clear i1 i2 i3
  unfold pr_t1
  rcases pp_num (fa := 0) (pl := -1) (wa := wa) (p1 := (1 : Int32)) (p2 := (8 : Int32)) hn hx hta with ⟨v, st4, en4, ki4, va4, at4, be4, rk4, nu4, a4, o1, o2, o3, x1, x2, x3, hta⟩ | ⟨f, f0, x1, x2⟩
  rotate_left
  · refine Or.inl ⟨f, at3, f0, ?_, ?_⟩
    · rw [x1, pu_e7, if_pos rfl, pu_e10]
      exact hbad _ _ _ _ _ _ _ _ _ f0
    · rw [x2, pu_e7, pv_st 1 (by omega) (by omega), pu_e1]
      exact pr_t2W (by omega) f0
  replace o2 : 1 ≤ (v : Int) := o2
  replace o3 : (v : Int) ≤ 8 := o3
  rw [x1, pu_e7, if_neg (fun z => (pn_ne1 (a := v) (by omega)).mp z), x2, pu_e7, pv_st 1 (by omega) (by omega), pu_e1]
  clear x1 x2
  unfold pr_t2
  rcases pp_exp (i := 3) (fa := 0) (pl := -1) 2 hn hx hta (by unfold pm_cc; decide) with ⟨st5, en5, ki5, va5, at5, be5, rk5, nu5, a5, i1, i2, i3, hta⟩ | ⟨f, f0, f1, f2, f3⟩
  rotate_left
  · refine Or.inl ⟨f, at4, f0, ?_, ?_⟩
    · rw [f1, pu_e7, if_pos rfl, pu_e10]
      exact hbad _ _ _ _ _ _ _ _ _ f0
    · rw [show zf_X11_eats n at4 be4 (nI sz) rk4 nu4 0 rt (2 : Int32) = some (0, at4, be4, rk4, nu4) from f2, pu_e5, if_pos rfl, f3, pu_e2, pu_e2]
      exact pr_t3W (by omega) f0
  rw [i1, pu_e7, if_neg (show ¬ (1 : Int32) = 0 by decide), show zf_X11_eats n at4 be4 (nI sz) rk4 nu4 0 rt (2 : Int32) = some (1, at5, be5, rk5, nu5) from i2, pu_e5, if_neg (show ¬ (1 : Int32) = 0 by decide), pu_e2]
  clear i1 i2 i3
  unfold pr_t3
  rcases pp_num (fa := 0) (pl := -1) (wa := wa) (p1 := (0 : Int32)) (p2 := (6 : Int32)) hn hx hta with ⟨w, st6, en6, ki6, va6, at6, be6, rk6, nu6, a6, u1, u2, u3, x1, x2, x3, hta⟩ | ⟨f, f0, x1, x2⟩
  rotate_left
  · refine Or.inl ⟨f, at5, f0, ?_, ?_⟩
    · rw [x1, pu_e7, if_pos rfl, pu_e10]
      exact hbad _ _ _ _ _ _ _ _ _ f0
    · rw [x2, pu_e7, pv_st 2 (by omega) (by omega), pu_e1]
      exact pr_t4W (by omega) f0
  replace u3 : (w : Int) ≤ 6 := u3
  rw [x1, pu_e7, if_neg (fun z => (pn_ne1 (a := w) (by omega)).mp z), x2, pu_e7, pv_st 2 (by omega) (by omega), pu_e1]
  clear x1 x2
  unfold pr_t4
  rcases pp_closes (fa := 0) (pl := -1) (wa := wa) (fresh := va_up (va_up fr0 1 (nI v)) 2 (nI w)) hn hx hta with ⟨st7, en7, ki7, va7, at7, be7, rk7, nu7, a7, i1, i2, i3, hta⟩ | ⟨f, f0, f1, f2⟩
  rotate_left
  · refine Or.inl ⟨f, at6, f0, ?_, ?_⟩
    · rw [f1, pu_e7, show za_zb (0 : Int32) = some 0 from rfl, pu_e1, pu_e10]
      exact hbad _ _ _ _ _ _ _ _ _ f0
    · rw [f2, pu_e7]
      exact pr_t5W (by omega) f0
  rw [i1, pu_e7, show za_zb (1 : Int32) = some 1 from rfl, pu_e1, pu_e10, i2, pu_e7]
  have hl0 : va_up (va_up fr0 1 (nI v)) 2 (nI w) 0 + 1 = nI 1 := by rw [pu_upn (by omega), pu_upn (by omega), y3 0 (by omega) (by omega) (by omega)]; rfl
  rw [hl0]
  unfold pr_t5
  have hJ := pp_J_1 (v := v) (w := w) (x := fun _ => 0) (code := code) (by omega) (by omega) (by omega) y1 y2 y3 g1' g2' g3'
  obtain ⟨⟨z1, z2, z3, z4, z5, z6, z7, z8, z9, z10, z11, z12, z13, z14, z15, z16, z17, z18, z19, z20, z21, z22, z23, z24, z25⟩, ⟨t1, t2, t3, t4, t5, t6, t7, t8, t9⟩, k1, k2, i, hi, hI⟩ := pp_lines (B := B) (sz := sz) (ct := ct) (rt := rt) (top := nI v) (things := nI w) (fa := 0) (pl := -1)
    (v1 := (1, 0, st7, en7, ki7, va7, im, 0, -1, 0, 0, 4, 0, 0, 1, 0, 0, 0, 0, 0, b1, b2, b3, code)) (v2 := (at7, be7, rk7, nu7, 0, wa, rd, va_up (va_up (va_up fr0 1 (nI v)) 2 (nI w)) 0 (nI 1))) hn hx
    (Or.inr ⟨rfl, rfl, rfl, rfl, rfl, a7, _, 0, _, Nat.zero_le _, Nat.zero_le _, hta, hJ, rfl, (show va_up (va_up (va_up fr0 1 (nI v)) 2 (nI w)) 0 (nI 1) 0 = nI 1 from pu_upe), fun k m1 m2 => by
      show va_up (va_up (va_up fr0 1 (nI v)) 2 (nI w)) 0 (nI 1) k = 0
      rw [pu_upn (by omega), pu_upn (by omega), pu_upn (by omega)]; exact y3 k (by omega) (by omega) (by omega)⟩)
  replace hI : pp_I B sz (nI v) (nI w) 0 (-1) i z2 z3 z4 z5 z6 z7 z9 z10 z11 z12 z13 z14 z15 z16 z17 z18 z19 z20 z21 z22 z23 z24 z25 t2 t3 t4 t5 t6 t7 t9 := hI
  rw [k1, pu_e25, k2, pu_e9]
  rcases hI with ⟨rfl, m1, rfl, rfl⟩ | ⟨rfl, rfl, rfl, rfl, rfl, a8, q, c, x, m1, m2, m3, m4, rfl, m5, m6⟩
  · refine Or.inl ⟨z9, z10, m1, ?_, ?_⟩
    · rw [show za_zb (0 : Int32) = some 0 from rfl, pu_e1]
      exact ⟨_, rfl, rfl, rfl, rfl⟩
    · rw [if_neg m1, pu_e1, if_neg m1]
      exact ⟨_, _, _, _, _, _, _, rfl⟩
  · rw [show za_zb (1 : Int32) = some 1 from rfl, pu_e1, if_pos rfl, pu_e1, if_pos rfl]
    obtain ⟨_, ha8, _⟩ := pp_end hx m3
    obtain ⟨⟨c1, c2, al⟩, c4, c5, c6⟩ := pr_cp188 (n := n) (all := all) (fr := t9) hn
    rw [c4, pu_e3, pv_ld 0 (by omega) (by omega), pu_e1, show al 0 = nI (i + 1) from (c5 0 (by omega)).trans m5]
    exact Or.inr ⟨_, t2, t3, t4, t5, t7, t8, i + 1, al, t9, rfl, rfl, rfl, rfl, rfl, c5, c6, m5, rfl, m6, q, c, x, by omega, m4⟩
end PTz
