/-! the loop of lines -/
theorem pp_J_0 {q x : Nat → Nat} {c v : Nat} {top things sr sth ss sw sl co tf tt mf mt : Int32} {bars gives rough code fresh : Nat → Int32} (h : pp_J q c x top things sr sth ss sw sl co tf tt mf mt bars gives rough code fresh) : ∃ q', pp_J q' c x top things sr sth ss sw sl co tf tt mf mt bars gives rough code (va_up fresh 0 (nI v)) := by
  obtain ⟨h1, h2, h3, h4, h5, h6⟩ := h
  have hq : ∀ k, ¬ k = 0 → pm_wx q 0 v k = q k := fun k a => pm_wx_n a
  refine ⟨pm_wx q 0 v, ?_⟩
  unfold pp_J pp_W at *
  rw [hq 1 (by omega), hq 2 (by omega), hq 37 (by omega), hq 38 (by omega), hq 39 (by omega), hq 40 (by omega), hq 3 (by omega), hq (4 + 0) (by omega), hq (6 + 0) (by omega), hq (8 + 0) (by omega), hq (4 + 1) (by omega), hq (6 + 1) (by omega), hq (8 + 1) (by omega)]
  refine ⟨h1, h2, ?_, h4, h5, ?_⟩
  · intro l hl
    rw [hq (10 + l) (by omega), hq (19 + l) (by omega), hq (28 + l) (by omega)]
    exact h3 l hl
  · obtain ⟨k1, k2, k3, k4⟩ := h6
    refine ⟨k1, fun k hk => ?_, ?_, fun k hk => ?_⟩
    · rw [pu_upn (by omega)]; exact k2 k hk
    · rw [pu_upn (by omega)]; exact k3
    · show va_up fresh 0 (nI v) k = nI (pm_wx q 0 v k)
      by_cases a : k = 0
      · rw [a, pu_upe, pm_wx_e]
      · rw [pu_upn a, hq k a]; exact k4 k hk
theorem pr_closesW {n : Nat} {at1 be sz rk nu wr wa : Int32} {rt fresh : Nat → Int32} (h : ¬ wr = 0) : zf_X11_closes n at1 be sz rk nu wr wa rt fresh = some (at1, be, rk, nu, wr, wa, va_up fresh 0 (fresh 0 + 1)) := by
  unfold zf_X11_closes
  rw [pr_eatsW h, pu_e5, if_pos rfl, pr_failsW h, pu_e2, pu_e2, pv_ld 0 (by omega) (by omega), pu_e1, pv_st 0 (by omega) (by omega), pu_e1]
section PLo
variable {n sz : Nat} {B : Nat → Nat} {ct rt : Nat → Int32}
theorem pp_end {a : Nat} {st en ki va at1 be rk nu : Int32} (hx : pp_tx B sz ct rt) (h : pp_ta B sz a st en ki va at1 be rk nu) : (ki = 0 ↔ rk = 26) ∧ a ≤ sz ∧ (¬ ki = 0 → a < sz) := by
  have h9 := hx.1
  obtain ⟨b, _, _, _, _, h5, h6, h7⟩ := h
  rcases h7 with ⟨_, rfl, rfl⟩ | ⟨_, rfl, rfl⟩ | ⟨_, rfl, rfl, _⟩ | ⟨_, rfl, _, rfl⟩ | ⟨_, rfl, h1, rfl⟩
  · exact ⟨by decide, by omega, fun z => absurd rfl z⟩
  · exact ⟨by decide, by omega, fun _ => by omega⟩
  · exact ⟨by decide, by omega, fun _ => by omega⟩
  · have hle : pm_ix pm_kw (pm_L B a b) ≤ 24 := pm_ix_le pm_kw _
    exact ⟨⟨fun z => absurd z (by decide), fun z => by have := (pv_eq 26 (by omega) (by omega)).mp z; omega⟩, by omega, fun _ => by omega⟩
  · exact ⟨⟨fun z => absurd z (by decide), fun z => by have := (pv_eq 26 (by omega) (by omega)).mp z; omega⟩, by omega, fun _ => by omega⟩
theorem pp_closes {a : Nat} {st en ki va fa pl at1 be rk nu wa : Int32} {fresh : Nat → Int32} (hn : 1000 ≤ n) (hx : pp_tx B sz ct rt) (h : pp_ta B sz a st en ki va at1 be rk nu) :
    (∃ st' en' ki' va' at' be' rk' nu' a', zf_X5_expect n (nI sz) st en ki va fa pl ct 4 = some (1, st', en', ki', va', fa, pl) ∧ zf_X11_closes n at1 be (nI sz) rk nu 0 wa rt fresh = some (at', be', rk', nu', 0, wa, va_up fresh 0 (fresh 0 + 1)) ∧ a < a' ∧ pp_ta B sz a' st' en' ki' va' at' be' rk' nu') ∨ (∃ f : Int32, ¬ f = 0 ∧ zf_X5_expect n (nI sz) st en ki va fa pl ct 4 = some (0, st, en, ki, va, f, at1) ∧ zf_X11_closes n at1 be (nI sz) rk nu 0 wa rt fresh = some (at1, be, rk, nu, f, at1, va_up fresh 0 (fresh 0 + 1))) := by
  unfold zf_X11_closes
  rcases pp_exp (i := 4) (fa := fa) (pl := pl) 30 hn hx h (by unfold pm_cc; decide) with ⟨st', en', ki', va', at', be', rk', nu', a', e1, e2, e3, e4⟩ | ⟨f, e0, e1, e2, e3⟩
  · refine Or.inl ⟨st', en', ki', va', at', be', rk', nu', a', e1, ?_, e3, e4⟩
    rw [e2, pu_e5, if_neg (show ¬ (1 : Int32) = 0 by decide), pu_e2, pv_ld 0 (by omega) (by omega), pu_e1, pv_st 0 (by omega) (by omega), pu_e1]
  · refine Or.inr ⟨f, e0, e1, ?_⟩
    rw [e2, pu_e5, if_pos rfl, e3, pu_e2, pu_e2, pv_ld 0 (by omega) (by omega), pu_e1, pv_st 0 (by omega) (by omega), pu_e1]
def pp_I (B : Nat → Nat) (sz : Nat) (top things fa pl : Int32) (i : Nat) (g ii st en ki va f p sr sth ss sw sl li co tf tt mf mt : Int32) (bars gives rough code : Nat → Int32) (at1 be rk nu wr wa : Int32) (fresh : Nat → Int32) : Prop :=
  (g = 0 ∧ ¬ wr = 0 ∧ f = wr ∧ p = wa) ∨ (g = 1 ∧ wr = 0 ∧ ii = nI i ∧ f = fa ∧ p = pl ∧ ∃ a q c x, i ≤ a ∧ c ≤ a ∧ pp_ta B sz a st en ki va at1 be rk nu ∧ pp_J q c x top things sr sth ss sw sl co tf tt mf mt bars gives rough code fresh ∧ li = nI (i + 1) ∧ fresh 0 = nI (i + 1) ∧ ∀ k, 41 ≤ k → k < 93 → fresh k = 0)
theorem pp_lines {top things fa pl : Int32} {v1 : Int32 × Int32 × Int32 × Int32 × Int32 × Int32 × Int32 × Int32 × Int32 × Int32 × Int32 × Int32 × Int32 × Int32 × Int32 × Int32 × Int32 × Int32 × Int32 × Int32 × (Nat → Int32) × (Nat → Int32) × (Nat → Int32) × (Nat → Int32)} {v2 : Int32 × Int32 × Int32 × Int32 × Int32 × Int32 × Int32 × (Nat → Int32)} (hn : 1000 ≤ n) (hx : pp_tx B sz ct rt)
    (h0 : pp_I B sz top things fa pl 0 v1.1 v1.2.1 v1.2.2.1 v1.2.2.2.1 v1.2.2.2.2.1 v1.2.2.2.2.2.1 v1.2.2.2.2.2.2.2.1 v1.2.2.2.2.2.2.2.2.1 v1.2.2.2.2.2.2.2.2.2.1 v1.2.2.2.2.2.2.2.2.2.2.1 v1.2.2.2.2.2.2.2.2.2.2.2.1 v1.2.2.2.2.2.2.2.2.2.2.2.2.1 v1.2.2.2.2.2.2.2.2.2.2.2.2.2.1 v1.2.2.2.2.2.2.2.2.2.2.2.2.2.2.1 v1.2.2.2.2.2.2.2.2.2.2.2.2.2.2.2.1 v1.2.2.2.2.2.2.2.2.2.2.2.2.2.2.2.2.1 v1.2.2.2.2.2.2.2.2.2.2.2.2.2.2.2.2.2.1 v1.2.2.2.2.2.2.2.2.2.2.2.2.2.2.2.2.2.2.1 v1.2.2.2.2.2.2.2.2.2.2.2.2.2.2.2.2.2.2.2.1 v1.2.2.2.2.2.2.2.2.2.2.2.2.2.2.2.2.2.2.2.2.1 v1.2.2.2.2.2.2.2.2.2.2.2.2.2.2.2.2.2.2.2.2.2.1 v1.2.2.2.2.2.2.2.2.2.2.2.2.2.2.2.2.2.2.2.2.2.2.1 v1.2.2.2.2.2.2.2.2.2.2.2.2.2.2.2.2.2.2.2.2.2.2.2 v2.1 v2.2.1 v2.2.2.1 v2.2.2.2.1 v2.2.2.2.2.1 v2.2.2.2.2.2.1 v2.2.2.2.2.2.2.2) :
    ∃ r1 r2, za_it (fun v => zb_X5_readText_52 n (nI sz) ct top things v.1 v.2.1 v.2.2.1 v.2.2.2.1 v.2.2.2.2.1 v.2.2.2.2.2.1 v.2.2.2.2.2.2.1 v.2.2.2.2.2.2.2.1 v.2.2.2.2.2.2.2.2.1 v.2.2.2.2.2.2.2.2.2.1 v.2.2.2.2.2.2.2.2.2.2.1 v.2.2.2.2.2.2.2.2.2.2.2.1 v.2.2.2.2.2.2.2.2.2.2.2.2.1 v.2.2.2.2.2.2.2.2.2.2.2.2.2.1 v.2.2.2.2.2.2.2.2.2.2.2.2.2.2.1 v.2.2.2.2.2.2.2.2.2.2.2.2.2.2.2.1 v.2.2.2.2.2.2.2.2.2.2.2.2.2.2.2.2.1 v.2.2.2.2.2.2.2.2.2.2.2.2.2.2.2.2.2.1 v.2.2.2.2.2.2.2.2.2.2.2.2.2.2.2.2.2.2.1 v.2.2.2.2.2.2.2.2.2.2.2.2.2.2.2.2.2.2.2.1 v.2.2.2.2.2.2.2.2.2.2.2.2.2.2.2.2.2.2.2.2.1 v.2.2.2.2.2.2.2.2.2.2.2.2.2.2.2.2.2.2.2.2.2.1 v.2.2.2.2.2.2.2.2.2.2.2.2.2.2.2.2.2.2.2.2.2.2.1 v.2.2.2.2.2.2.2.2.2.2.2.2.2.2.2.2.2.2.2.2.2.2.2) n v1 = some r1 ∧ za_it (fun v => zb_X11_cliff_117 n (nI sz) rt v.1 v.2.1 v.2.2.1 v.2.2.2.1 v.2.2.2.2.1 v.2.2.2.2.2.1 v.2.2.2.2.2.2.1 v.2.2.2.2.2.2.2) n v2 = some r2 ∧ ∃ i, i ≤ 900 ∧ pp_I B sz top things fa pl i r1.2.1 r1.2.2.1 r1.2.2.2.1 r1.2.2.2.2.1 r1.2.2.2.2.2.1 r1.2.2.2.2.2.2.1 r1.2.2.2.2.2.2.2.2.1 r1.2.2.2.2.2.2.2.2.2.1 r1.2.2.2.2.2.2.2.2.2.2.1 r1.2.2.2.2.2.2.2.2.2.2.2.1 r1.2.2.2.2.2.2.2.2.2.2.2.2.1 r1.2.2.2.2.2.2.2.2.2.2.2.2.2.1 r1.2.2.2.2.2.2.2.2.2.2.2.2.2.2.1 r1.2.2.2.2.2.2.2.2.2.2.2.2.2.2.2.1 r1.2.2.2.2.2.2.2.2.2.2.2.2.2.2.2.2.1 r1.2.2.2.2.2.2.2.2.2.2.2.2.2.2.2.2.2.1 r1.2.2.2.2.2.2.2.2.2.2.2.2.2.2.2.2.2.2.1 r1.2.2.2.2.2.2.2.2.2.2.2.2.2.2.2.2.2.2.2.1 r1.2.2.2.2.2.2.2.2.2.2.2.2.2.2.2.2.2.2.2.2.1 r1.2.2.2.2.2.2.2.2.2.2.2.2.2.2.2.2.2.2.2.2.2.1 r1.2.2.2.2.2.2.2.2.2.2.2.2.2.2.2.2.2.2.2.2.2.2.1 r1.2.2.2.2.2.2.2.2.2.2.2.2.2.2.2.2.2.2.2.2.2.2.2.1 r1.2.2.2.2.2.2.2.2.2.2.2.2.2.2.2.2.2.2.2.2.2.2.2.2 r2.2.1 r2.2.2.1 r2.2.2.2.1 r2.2.2.2.2.1 r2.2.2.2.2.2.1 r2.2.2.2.2.2.2.1 r2.2.2.2.2.2.2.2.2 := by
  have h9 := hx.1
  refine pu_two (fun i x y => pp_I B sz top things fa pl i x.1 x.2.1 x.2.2.1 x.2.2.2.1 x.2.2.2.2.1 x.2.2.2.2.2.1 x.2.2.2.2.2.2.2.1 x.2.2.2.2.2.2.2.2.1 x.2.2.2.2.2.2.2.2.2.1 x.2.2.2.2.2.2.2.2.2.2.1 x.2.2.2.2.2.2.2.2.2.2.2.1 x.2.2.2.2.2.2.2.2.2.2.2.2.1 x.2.2.2.2.2.2.2.2.2.2.2.2.2.1 x.2.2.2.2.2.2.2.2.2.2.2.2.2.2.1 x.2.2.2.2.2.2.2.2.2.2.2.2.2.2.2.1 x.2.2.2.2.2.2.2.2.2.2.2.2.2.2.2.2.1 x.2.2.2.2.2.2.2.2.2.2.2.2.2.2.2.2.2.1 x.2.2.2.2.2.2.2.2.2.2.2.2.2.2.2.2.2.2.1 x.2.2.2.2.2.2.2.2.2.2.2.2.2.2.2.2.2.2.2.1 x.2.2.2.2.2.2.2.2.2.2.2.2.2.2.2.2.2.2.2.2.1 x.2.2.2.2.2.2.2.2.2.2.2.2.2.2.2.2.2.2.2.2.2.1 x.2.2.2.2.2.2.2.2.2.2.2.2.2.2.2.2.2.2.2.2.2.2.1 x.2.2.2.2.2.2.2.2.2.2.2.2.2.2.2.2.2.2.2.2.2.2.2 y.1 y.2.1 y.2.2.1 y.2.2.2.1 y.2.2.2.2.1 y.2.2.2.2.2.1 y.2.2.2.2.2.2.2) 900 (by omega) h0 ?_
  rintro i ⟨g, ii, st, en, ki, va, im, f, p, sr, sth, ss, sw, sl, li, co, tf, tt, mf, mt, bars, gives, rough, code⟩ ⟨at1, be, rk, nu, wr, wa, rd, fresh⟩ hi hI
  replace hI : pp_I B sz top things fa pl i g ii st en ki va f p sr sth ss sw sl li co tf tt mf mt bars gives rough code at1 be rk nu wr wa fresh := hI
  show ∃ r1 r2, zb_X5_readText_52 n (nI sz) ct top things g ii st en ki va im f p sr sth ss sw sl li co tf tt mf mt bars gives rough code = some r1 ∧ zb_X11_cliff_117 n (nI sz) rt at1 be rk nu wr wa rd fresh = some r2 ∧ _
  unfold zb_X5_readText_52 zb_X11_cliff_117
  have hI0 := hI
  rcases hI with ⟨rfl, hwr, hf, hp⟩ | ⟨rfl, rfl, rfl, rfl, rfl, a, q, c, x, h1, h2, hta, hJ, rfl, hf0, hf41⟩
  · rw [if_neg hwr, if_pos (show (0 : Int32) = 0 from rfl), ite_self]
    exact ⟨_, _, rfl, rfl, Or.inr ⟨show ¬ (1 : Nat) = 0 by decide, show ¬ (1 : Nat) = 0 by decide, i, hi, hI0⟩⟩
  · obtain ⟨hk1, hk2, hk3⟩ := pp_end hx hta
    by_cases c0 : ki = 0
    · rw [if_pos (show (0 : Int32) = 0 from rfl), if_pos (hk1.mp c0), if_pos c0, ite_self, ite_self]
      exact ⟨_, _, rfl, rfl, Or.inr ⟨show ¬ (1 : Nat) = 0 by decide, show ¬ (1 : Nat) = 0 by decide, i, hi, hI0⟩⟩
    · have hi9 : i < 900 := by have := hk3 c0; omega
      rw [if_pos (show (0 : Int32) = 0 from rfl), if_neg (fun z => c0 (hk1.mpr z)), if_neg c0, if_neg (show ¬ (1 : Int32) = 0 by decide), if_neg (fun z => by have := (pv_le 900 (by omega) (by omega)).mp z; omega)]
      obtain ⟨g, st', en', ki', va', im', f', p', sr', sth', ss', sw', sl', co', tf', tt', mf', mt', bars', gives', rough', code', at', be', rk', nu', wr, wa', rd', fresh', e1, e2, e3⟩ := pp_line (im := im) (fa := f) (pl := p) (wa := wa) (rd := rd) hn hx hta hJ h2
      rw [e1, pu_e22, e2, pu_e8]
      rcases e3 with ⟨rfl, rfl, rfl, rfl, a', q', c', x', k1, k2, k3, k4, k5⟩ | ⟨rfl, k1, rfl, rfl⟩
      · rw [if_neg (show ¬ (1 : Int32) = 0 by decide)]
        rcases pp_closes (fa := f') (pl := p') (wa := wa') (fresh := fresh') hn hx k3 with ⟨st2, en2, ki2, va2, at2, be2, rk2, nu2, a2, y1, y2, y3, y4⟩ | ⟨f2, y0, y1, y2⟩
        · rw [y1, pu_e7, if_neg (show ¬ (1 : Int32) = 0 by decide), pu_e7, pu_e1, pu_e1, y2, pu_e7]
          have hl0 : fresh' 0 + 1 = nI (i + 1 + 1) := by rw [k5 0 (by omega) (by omega), hf0]; exact pn_add _ 1
          obtain ⟨q2, hq2⟩ := pp_J_0 (v := i + 1 + 1) k4
          refine ⟨_, _, rfl, rfl, Or.inl ⟨rfl, rfl, hi9, Or.inr ⟨rfl, rfl, pn_add _ 1, rfl, rfl, a2, q2, c', x', by omega, by omega, y4, ?_, pn_add _ 1, ?_, ?_⟩⟩⟩
          · show pp_J _ _ _ _ _ _ _ _ _ _ _ _ _ _ _ _ _ _ _ (va_up fresh' 0 (fresh' 0 + 1))
            rw [hl0]; exact hq2
          · show va_up fresh' 0 (fresh' 0 + 1) 0 = nI (i + 1 + 1)
            rw [pu_upe, hl0]
          · intro k z1 z2
            show va_up fresh' 0 (fresh' 0 + 1) k = 0
            rw [pu_upn (by omega), k5 k (by omega) z2]
            exact hf41 k z1 z2
        · rw [y1, pu_e7, if_pos rfl, pu_e7, pu_e1, pu_e1, y2, pu_e7]
          exact ⟨_, _, rfl, rfl, Or.inl ⟨rfl, rfl, hi9, Or.inl ⟨rfl, y0, rfl, rfl⟩⟩⟩
      · rw [if_pos rfl, pu_e7, pu_e1, pu_e1, pr_closesW k1, pu_e7]
        exact ⟨_, _, rfl, rfl, Or.inl ⟨rfl, rfl, hi9, Or.inl ⟨rfl, k1, rfl, rfl⟩⟩⟩
end PLo
