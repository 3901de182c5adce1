/-! the line of a hole -/
theorem pu_two2 {V1 V2 : Type} {b1 : V1 → Option (Nat × V1)} {b2 : V2 → Option (Nat × V2)} (I : Nat → V1 → V2 → Prop) {P : Nat × V1 → Nat × V2 → Prop} {n : Nat} {v1 : V1} {v2 : V2} (K : Nat) (hn : K < n) (h0 : I 0 v1 v2)
    (hs : ∀ i x y, i ≤ K → I i x y → ∃ r1 r2, b1 x = some r1 ∧ b2 y = some r2 ∧ ((r1.1 = 0 ∧ r2.1 = 0 ∧ i < K ∧ I (i + 1) r1.2 r2.2) ∨ (r1.1 ≠ 0 ∧ r2.1 ≠ 0 ∧ P r1 r2) ∨ (r1.1 = 0 ∧ r2.1 ≠ 0 ∧ i < K ∧ ∃ r3, b1 r1.2 = some r3 ∧ r3.1 ≠ 0 ∧ P r3 r2))) : ∃ r1 r2, za_it b1 n v1 = some r1 ∧ za_it b2 n v2 = some r2 ∧ P r1 r2 := by
  have key : ∀ m i x y, i ≤ K → K < m + i → I i x y → ∃ r1 r2, za_it b1 m x = some r1 ∧ za_it b2 m y = some r2 ∧ P r1 r2 := by
    intro m
    induction m with
    | zero => intro i x y h1 h2; omega
    | succ m ih =>
      intro i x y h1 h2 h3
      obtain ⟨r1, r2, e1, e2, h⟩ := hs i x y h1 h3
      have f1 : za_it b1 (m + 1) x = if r1.1 = 0 then za_it b1 m r1.2 else some r1 := by
        show (b1 x).bind (fun q => if q.1 = 0 then za_it b1 m q.2 else some q) = _
        rw [e1]; rfl
      have f2 : za_it b2 (m + 1) y = if r2.1 = 0 then za_it b2 m r2.2 else some r2 := by
        show (b2 y).bind (fun q => if q.1 = 0 then za_it b2 m q.2 else some q) = _
        rw [e2]; rfl
      rw [f1, f2]
      rcases h with ⟨z1, z2, z3, z4⟩ | ⟨z1, z2, z3⟩ | ⟨z1, z2, z3, r3, z4, z5, z6⟩
      · rw [if_pos z1, if_pos z2]
        exact ih (i + 1) _ _ (by omega) (by omega) z4
      · rw [if_neg z1, if_neg z2]
        exact ⟨r1, r2, rfl, rfl, z3⟩
      · rw [if_pos z1, if_neg z2, pu_it1 (by omega) z4 z5]
        exact ⟨r3, r2, rfl, rfl, z6⟩
  exact key n 0 v1 v2 (Nat.zero_le _) (by omega) h0
def pp_H (T : Nat) (F0 bars gives rough fresh : Nat → Int32) : Prop := (∀ r, r < 9 → (∃ b, b < 2 ^ T ∧ bars r = nI b ∧ fresh (10 + r) = nI b) ∧ (∃ b, b < 2 ^ T ∧ gives r = nI b ∧ fresh (19 + r) = nI b) ∧ (∃ b, b ≤ 9 ∧ rough r = nI b ∧ fresh (28 + r) = nI b)) ∧ ∀ k, (k < 10 ∨ 37 ≤ k) → fresh k = F0 k
theorem pp_H_b {T r b : Nat} {F0 bars gives rough fresh : Nat → Int32} (h : pp_H T F0 bars gives rough fresh) (hr : r < 9) (hb : b < 2 ^ T) : pp_H T F0 (va_up bars r (nI b)) gives rough (va_up fresh (10 + r) (nI b)) := by
  refine ⟨fun s hs => ⟨?_, ?_, ?_⟩, fun k hk => (pu_upn (by omega)).trans (h.2 k hk)⟩
  · by_cases c : s = r
    · subst c; exact ⟨b, hb, pu_upe, pu_upe⟩
    · rw [pu_upn c, pu_upn (by omega)]; exact (h.1 s hs).1
  · rw [pu_upn (by omega)]; exact (h.1 s hs).2.1
  · rw [pu_upn (by omega)]; exact (h.1 s hs).2.2
theorem pp_H_g {T r b : Nat} {F0 bars gives rough fresh : Nat → Int32} (h : pp_H T F0 bars gives rough fresh) (hr : r < 9) (hb : b < 2 ^ T) : pp_H T F0 bars (va_up gives r (nI b)) rough (va_up fresh (19 + r) (nI b)) := by
  refine ⟨fun s hs => ⟨?_, ?_, ?_⟩, fun k hk => (pu_upn (by omega)).trans (h.2 k hk)⟩
  · rw [pu_upn (by omega)]; exact (h.1 s hs).1
  · by_cases c : s = r
    · subst c; exact ⟨b, hb, pu_upe, pu_upe⟩
    · rw [pu_upn c, pu_upn (by omega)]; exact (h.1 s hs).2.1
  · rw [pu_upn (by omega)]; exact (h.1 s hs).2.2
theorem pp_H_r {T r b : Nat} {F0 bars gives rough fresh : Nat → Int32} (h : pp_H T F0 bars gives rough fresh) (hr : r < 9) (hb : b ≤ 9) : pp_H T F0 bars gives (va_up rough r (nI b)) (va_up fresh (28 + r) (nI b)) := by
  refine ⟨fun s hs => ⟨?_, ?_, ?_⟩, fun k hk => (pu_upn (by omega)).trans (h.2 k hk)⟩
  · rw [pu_upn (by omega)]; exact (h.1 s hs).1
  · rw [pu_upn (by omega)]; exact (h.1 s hs).2.1
  · by_cases c : s = r
    · subst c; exact ⟨b, hb, pu_upe, pu_upe⟩
    · rw [pu_upn c, pu_upn (by omega)]; exact (h.1 s hs).2.2
section PHo
variable {n sz : Nat} {B : Nat → Nat} {ct rt : Nat → Int32}
theorem pp_flags {a T r : Nat} {st en ki va fa pl at1 be rk nu wa : Int32} {F0 bars gives rough fresh : Nat → Int32} (hn : 1000 ≤ n) (hx : pp_tx B sz ct rt) (hT : T ≤ 6) (hr : r < 9) (hf : F0 2 = nI T) (ha : 1 ≤ a) (hta : pp_ta B sz a st en ki va at1 be rk nu) (hH : pp_H T F0 bars gives rough fresh) :
    ∃ r1 r2, za_it (fun v => zb_X5_readHole_26 n (nI sz) ct (nI r) (nI T) v.1 v.2.1 v.2.2.1 v.2.2.2.1 v.2.2.2.2.1 v.2.2.2.2.2.1 v.2.2.2.2.2.2.1 v.2.2.2.2.2.2.2.1 v.2.2.2.2.2.2.2.2.1 v.2.2.2.2.2.2.2.2.2.1 v.2.2.2.2.2.2.2.2.2.2) n ((1 : Int32), (0 : Int32), st, en, ki, va, fa, pl, rough, gives, bars) = some r1 ∧ za_it (fun v => zb_X11_readHole_16 n (nI sz) rt (nI r) v.1 v.2.1 v.2.2.1 v.2.2.2.1 v.2.2.2.2.1 v.2.2.2.2.2.1 v.2.2.2.2.2.2) n (at1, be, rk, nu, (0 : Int32), wa, fresh) = some r2 ∧ (((r1.1 = 1 ∧ r2.2.2.2.2.2.1 = 0 ∧ r1.2.2.2.2.2.2.2.1 = fa ∧ r1.2.2.2.2.2.2.2.2.1 = pl ∧ (∃ a', a ≤ a' ∧ pp_ta B sz a' r1.2.2.2.1 r1.2.2.2.2.1 r1.2.2.2.2.2.1 r1.2.2.2.2.2.2.1 r2.2.1 r2.2.2.1 r2.2.2.2.1 r2.2.2.2.2.1 ∧ pp_H T F0 r1.2.2.2.2.2.2.2.2.2.2.2 r1.2.2.2.2.2.2.2.2.2.2.1 r1.2.2.2.2.2.2.2.2.2.1 r2.2.2.2.2.2.2.2)) ∨ (r1.1 = 2 ∧ r1.2.1 = 0 ∧ ¬ r2.2.2.2.2.2.1 = 0 ∧ r1.2.2.2.2.2.2.2.1 = r2.2.2.2.2.2.1 ∧ r1.2.2.2.2.2.2.2.2.1 = r2.2.2.2.2.2.2.1))) := by
  have h9 := hx.1
  have hp := pm_p6 hT
  refine pu_two2 (b1 := fun v => zb_X5_readHole_26 n (nI sz) ct (nI r) (nI T) v.1 v.2.1 v.2.2.1 v.2.2.2.1 v.2.2.2.2.1 v.2.2.2.2.2.1 v.2.2.2.2.2.2.1 v.2.2.2.2.2.2.2.1 v.2.2.2.2.2.2.2.2.1 v.2.2.2.2.2.2.2.2.2.1 v.2.2.2.2.2.2.2.2.2.2) (b2 := fun v => zb_X11_readHole_16 n (nI sz) rt (nI r) v.1 v.2.1 v.2.2.1 v.2.2.2.1 v.2.2.2.2.1 v.2.2.2.2.2.1 v.2.2.2.2.2.2)
    (fun k u y => u.1 = 1 ∧ u.2.1 = nI k ∧ y.2.2.2.2.1 = 0 ∧ u.2.2.2.2.2.2.1 = fa ∧ u.2.2.2.2.2.2.2.1 = pl ∧ ∃ a', a + k ≤ a' ∧ pp_ta B sz a' u.2.2.1 u.2.2.2.1 u.2.2.2.2.1 u.2.2.2.2.2.1 y.1 y.2.1 y.2.2.1 y.2.2.2.1 ∧ pp_H T F0 u.2.2.2.2.2.2.2.2.2.2 u.2.2.2.2.2.2.2.2.2.1 u.2.2.2.2.2.2.2.2.1 y.2.2.2.2.2.2)
    900 (by omega) ⟨rfl, rfl, rfl, rfl, rfl, a, by omega, hta, hH⟩ ?_
  rintro k ⟨v9, v10, v11, v12, v13, v14, v15, v16, a17, a18, a19⟩ ⟨u13, u14, u15, u16, u17, u18, b19⟩ hk ⟨z1, z2, z3, z4, z5, a', z6, z7, z8⟩
  dsimp only at z1 z2 z3 z4 z5 z6 z7 z8 ⊢
  subst z1 z2 z3 z4 z5
  have hle := pp_ta_le z7
  have hk9 : ¬ (900 : Int32) ≤ nI k := fun z => by have := (pv_le 900 (by omega) (by omega)).mp z; omega
  have hf2 : b19 2 = nI T := by rw [z8.2 2 (by omega), hf]
  obtain ⟨⟨b, hb, hb1, hb2⟩, ⟨gb, hg, hg1, hg2⟩, ⟨ro, hro, hro1, hro2⟩⟩ := z8.1 r hr
  have hbad : ∀ (s1 s2 s3 s4 s5 s6 : Int32) (q1 q2 q3 : Nat → Int32), zb_X5_readHole_26 n (nI sz) ct (nI r) (nI T) 0 (nI (k + 1)) s1 s2 s3 s4 s5 s6 q1 q2 q3 = some (2, 0, nI (k + 1), s1, s2, s3, s4, s5, s6, q1, q2, q3) := by
    intro s1 s2 s3 s4 s5 s6 q1 q2 q3
    unfold zb_X5_readHole_26
    by_cases q : (900 : Int32) ≤ nI (k + 1)
    · rw [if_pos q]
    · rw [if_neg q, if_pos rfl]
  rcases pp_acc (i := 6) 4 hn hx z7 (by unfold pm_cc; decide) with ⟨st3, en3, ki3, va3, at3, be3, rk3, nu3, a3, y1, y2, y3, y4⟩ | ⟨y1, y2, y3⟩
  · -- bars
    rcases pp_thing2 (fa := v15) (pl := v16) (wa := u18) (fresh := b19) hn hx y4 hT hf2 with ⟨v, st4, en4, ki4, va4, at4, be4, rk4, nu4, a4, x0, x1, x2, x3, x4⟩ | ⟨f, u, x0, x1, x2⟩
    · refine ⟨(0, 1, nI (k + 1), st4, en4, ki4, va4, v15, v16, a17, a18, va_up a19 r (nI (b ||| 2 ^ v))), (0, at4, be4, rk4, nu4, 0, u18, va_up b19 (10 + r) (nI (b ||| 2 ^ v))), ?_, ?_, Or.inl ⟨rfl, rfl, by omega, rfl, rfl, rfl, rfl, rfl, a4, by omega, x4, pp_H_b z8 hr (pb_orT T (by omega) b hb v x0)⟩⟩
      · unfold zb_X5_readHole_26
        rw [if_neg hk9, if_neg (by decide), y1, pu_e5, if_neg (by decide), x1, pu_e7, if_neg (fun z => (pn_ne1 (a := v) (by omega)).mp z), pu_e1, pu_ld hr (by omega), pu_e1, hb1, if_neg (by decide), pb_sh v (by omega), pu_e1, pb_or6 b (by omega) v (by omega), pu_st hr (by omega), pu_e1, pn_a1, pu_e1]
      · unfold zb_X11_readHole_16 zf_X11_readFlag
        rw [if_pos rfl, y2, pu_e5, if_neg (by decide), pv_add 10, pu_ld (by omega) (by omega), pu_e1, hb2, x2, pu_e7, pb_or6 b (by omega) v (by omega), pu_st (by omega) (by omega), pu_e1, if_pos rfl, pu_e8, if_neg (by decide)]
    · refine ⟨(0, 0, nI (k + 1), st3, en3, ki3, va3, f, at3, a17, a18, va_up a19 r (nI b ||| 0)), (1, at3, be3, rk3, nu3, f, at3, va_up b19 (10 + r) (nI b ||| u)), ?_, ?_, Or.inr (Or.inr ⟨rfl, fun z => Nat.noConfusion z, by omega, _, hbad _ _ _ _ _ _ _ _ _, fun z => Nat.noConfusion z, Or.inr ⟨rfl, rfl, x0, rfl, rfl⟩⟩)⟩
      · unfold zb_X5_readHole_26
        rw [if_neg hk9, if_neg (by decide), y1, pu_e5, if_neg (by decide), x1, pu_e7, if_pos rfl, pu_e1, pu_ld hr (by omega), pu_e1, hb1, if_pos rfl, pu_e1, pu_st hr (by omega), pu_e1, pn_a1, pu_e1]
      · unfold zb_X11_readHole_16 zf_X11_readFlag
        rw [if_pos rfl, y2, pu_e5, if_neg (by decide), pv_add 10, pu_ld (by omega) (by omega), pu_e1, hb2, x2, pu_e7, pu_st (by omega) (by omega), pu_e1, if_neg x0, pu_e8, if_pos rfl]
  rcases pp_acc (i := 7) 5 hn hx z7 (by unfold pm_cc; decide) with ⟨st3, en3, ki3, va3, at3, be3, rk3, nu3, a3, w1, w2, w3, w4⟩ | ⟨w1, w2, w3⟩
  · -- gives
    rcases pp_thing2 (fa := v15) (pl := v16) (wa := u18) (fresh := b19) hn hx w4 hT hf2 with ⟨v, st4, en4, ki4, va4, at4, be4, rk4, nu4, a4, x0, x1, x2, x3, x4⟩ | ⟨f, u, x0, x1, x2⟩
    · refine ⟨(0, 1, nI (k + 1), st4, en4, ki4, va4, v15, v16, a17, va_up a18 r (nI (gb ||| 2 ^ v)), a19), (0, at4, be4, rk4, nu4, 0, u18, va_up b19 (19 + r) (nI (gb ||| 2 ^ v))), ?_, ?_, Or.inl ⟨rfl, rfl, by omega, rfl, rfl, rfl, rfl, rfl, a4, by omega, x4, pp_H_g z8 hr (pb_orT T (by omega) gb hg v x0)⟩⟩
      · unfold zb_X5_readHole_26
        rw [if_neg hk9, if_neg (by decide), y1, pu_e5, if_pos rfl, w1, pu_e5, if_neg (by decide), x1, pu_e7, if_neg (fun z => (pn_ne1 (a := v) (by omega)).mp z), pu_e1, pu_ld hr (by omega), pu_e1, hg1, if_neg (by decide), pb_sh v (by omega), pu_e1, pb_or6 gb (by omega) v (by omega), pu_st hr (by omega), pu_e1, pn_a1, pu_e1]
      · unfold zb_X11_readHole_16 zf_X11_readFlag
        rw [if_pos rfl, y2, pu_e5, if_pos rfl, w2, pu_e5, if_neg (by decide), pv_add 19, pu_ld (by omega) (by omega), pu_e1, hg2, x2, pu_e7, pb_or6 gb (by omega) v (by omega), pu_st (by omega) (by omega), pu_e1, if_pos rfl, pu_e8, if_neg (by decide)]
    · refine ⟨(0, 0, nI (k + 1), st3, en3, ki3, va3, f, at3, a17, va_up a18 r (nI gb ||| 0), a19), (1, at3, be3, rk3, nu3, f, at3, va_up b19 (19 + r) (nI gb ||| u)), ?_, ?_, Or.inr (Or.inr ⟨rfl, fun z => Nat.noConfusion z, by omega, _, hbad _ _ _ _ _ _ _ _ _, fun z => Nat.noConfusion z, Or.inr ⟨rfl, rfl, x0, rfl, rfl⟩⟩)⟩
      · unfold zb_X5_readHole_26
        rw [if_neg hk9, if_neg (by decide), y1, pu_e5, if_pos rfl, w1, pu_e5, if_neg (by decide), x1, pu_e7, if_pos rfl, pu_e1, pu_ld hr (by omega), pu_e1, hg1, if_pos rfl, pu_e1, pu_st hr (by omega), pu_e1, pn_a1, pu_e1]
      · unfold zb_X11_readHole_16 zf_X11_readFlag
        rw [if_pos rfl, y2, pu_e5, if_pos rfl, w2, pu_e5, if_neg (by decide), pv_add 19, pu_ld (by omega) (by omega), pu_e1, hg2, x2, pu_e7, pu_st (by omega) (by omega), pu_e1, if_neg x0, pu_e8, if_pos rfl]
  rcases pp_acc (i := 8) 6 hn hx z7 (by unfold pm_cc; decide) with ⟨st3, en3, ki3, va3, at3, be3, rk3, nu3, a3, q1, q2, q3, q4⟩ | ⟨q1, q2, q3⟩
  · -- rough
    rcases pp_num (fa := v15) (pl := v16) (wa := u18) (p1 := (0 : Int32)) (p2 := (9 : Int32)) hn hx q4 with ⟨v, st4, en4, ki4, va4, at4, be4, rk4, nu4, a4, o1, o2, o3, x1, x2, x3, x4⟩ | ⟨f, x0, x1, x2⟩
    · replace o3 : (v : Int) ≤ 9 := o3
      refine ⟨(0, 1, nI (k + 1), st4, en4, ki4, va4, v15, v16, va_up a17 r (nI v), a18, a19), (0, at4, be4, rk4, nu4, 0, u18, va_up b19 (28 + r) (nI v)), ?_, ?_, Or.inl ⟨rfl, rfl, by omega, rfl, rfl, rfl, rfl, rfl, a4, by omega, x4, pp_H_r z8 hr (by omega)⟩⟩
      · unfold zb_X5_readHole_26
        rw [if_neg hk9, if_neg (by decide), y1, pu_e5, if_pos rfl, w1, pu_e5, if_pos rfl, q1, pu_e5, if_neg (by decide), x1, pu_e7, pu_st hr (by omega), pu_e1, pu_ld hr (by omega), pu_e1, pu_upe, if_neg (fun z => (pn_ne1 (a := v) (by omega)).mp z), pu_e1, pn_a1, pu_e1]
      · unfold zb_X11_readHole_16 zf_X11_readFlag
        rw [if_pos rfl, y2, pu_e5, if_pos rfl, w2, pu_e5, if_pos rfl, q2, pu_e5, if_neg (by decide), x2, pu_e7, pv_add 28, pu_st (by omega) (by omega), pu_e1, if_pos rfl, pu_e8, if_neg (by decide)]
    · refine ⟨(0, 0, nI (k + 1), st3, en3, ki3, va3, f, at3, va_up a17 r (-1), a18, a19), (1, at3, be3, rk3, nu3, f, at3, va_up b19 (28 + r) nu3), ?_, ?_, Or.inr (Or.inr ⟨rfl, fun z => Nat.noConfusion z, by omega, _, hbad _ _ _ _ _ _ _ _ _, fun z => Nat.noConfusion z, Or.inr ⟨rfl, rfl, x0, rfl, rfl⟩⟩)⟩
      · unfold zb_X5_readHole_26
        rw [if_neg hk9, if_neg (by decide), y1, pu_e5, if_pos rfl, w1, pu_e5, if_pos rfl, q1, pu_e5, if_neg (by decide), x1, pu_e7, pu_st hr (by omega), pu_e1, pu_ld hr (by omega), pu_e1, pu_upe, if_pos rfl, pu_e1, pn_a1, pu_e1]
      · unfold zb_X11_readHole_16 zf_X11_readFlag
        rw [if_pos rfl, y2, pu_e5, if_pos rfl, w2, pu_e5, if_pos rfl, q2, pu_e5, if_neg (by decide), x2, pu_e7, pv_add 28, pu_st (by omega) (by omega), pu_e1, if_neg x0, pu_e8, if_pos rfl]
  · refine ⟨(1, 1, nI k, v11, v12, v13, v14, v15, v16, a17, a18, a19), (1, u13, u14, u15, u16, 0, u18, b19), ?_, ?_, Or.inr (Or.inl ⟨fun z => Nat.noConfusion z, fun z => Nat.noConfusion z, Or.inl ⟨rfl, rfl, rfl, rfl, a', by omega, z7, z8⟩⟩)⟩
    · unfold zb_X5_readHole_26
      rw [if_neg hk9, if_neg (by decide), y1, pu_e5, if_pos rfl, w1, pu_e5, if_pos rfl, q1, pu_e5, if_pos rfl]
    · unfold zb_X11_readHole_16 zf_X11_readFlag
      rw [if_pos rfl, y2, pu_e5, if_pos rfl, w2, pu_e5, if_pos rfl, q2, pu_e5, if_pos rfl, pu_e8, if_pos rfl]
end PHo
