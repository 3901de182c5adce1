/-! judge, perform -/
theorem pp_deedAt {a : Nat → Int64} {i : Nat} (hi : i < 40) : ∃ d, zf_X9_deedAt a (nI i) = some d ∧ ((a i).toInt = d.toInt ∨ (d.toInt < 0 ∨ 40 ≤ d.toInt) ∧ ((a i).toInt < 0 ∨ 40 ≤ (a i).toInt)) := by
  unfold zf_X9_deedAt
  rw [pu_ld hi (by omega), pu_e1]
  by_cases c1 : (a i).toInt < 0
  · refine ⟨(-1 : Int32), ?_, Or.inr ⟨Or.inl (by decide), Or.inl c1⟩⟩
    rw [if_pos (lg_lt.mpr c1)]
  rw [if_neg (fun z => c1 (lg_lt.mp z))]
  by_cases c2 : 40 ≤ (a i).toInt
  · refine ⟨(-1 : Int32), ?_, Or.inr ⟨Or.inl (by decide), Or.inr c2⟩⟩
    rw [if_pos (lg_ge.mpr (show (40 : Int64).toInt ≤ (a i).toInt from c2))]
  · refine ⟨Int64.toInt32 (a i), ?_, Or.inl ?_⟩
    · rw [if_neg (fun z => c2 (show (40 : Int64).toInt ≤ (a i).toInt from lg_ge.mp z))]
    · have e : Int64.toInt32 (a i) = Int32.ofInt (a i).toInt := (Int32.ofInt_int64ToInt _).symm
      rw [e, pi_to (by omega) (by omega)]
theorem pr_put0 {q : Nat → Nat} {all : Nat → Int32} {w : Nat} {nst nwi nde : Int32} (hq : pm_cliff q) (hN : pp_now q nst nwi nde) (hw : q 40 = w) (ha : pr_all all q) : pr_all all (pm_put q (pm_now q) w (q 41)) := by
  obtain ⟨h0, hrg, hhs, hsg⟩ := pp_now_st hq hN
  intro j hj
  rw [ha j hj]
  unfold pm_put
  rw [hrg, hhs, hsg]
  by_cases c37 : j = 37
  · subst c37; rfl
  by_cases c38 : j = 38
  · subst c38; rfl
  by_cases c39 : j = 39
  · subst c39; rfl
  by_cases c40 : j = 40
  · subst c40; rw [if_neg (by omega), if_neg (by omega), if_neg (by omega), if_pos rfl, hw]
  by_cases c41 : j = 41
  · subst c41; rfl
  rw [if_neg c37, if_neg c38, if_neg c39, if_neg c40, if_neg c41]
theorem pr_isAgain {n : Nat} {q p : Nat → Nat} {all was : Nat → Int32} (hn : 100 ≤ n) (ha : pr_all all p) (hw : ∀ k, k < 5 → was k = nI (q (37 + k))) (hs : ∀ k, k < 994 → (k < 37 ∨ 42 ≤ k) → p k = q k) : pu_ok (zf_X11_isAgain n all was) (fun a => pr_all a q ∧ ∀ k, 994 ≤ k → a k = all k) := by
  unfold zf_X11_isAgain
  refine pu_d3.mpr (pu_up (fun i v => v.1 = nI i ∧ (∀ k, k < 994 → v.2 k = if 37 ≤ k ∧ k < 37 + i then nI (q k) else all k) ∧ ∀ k, 994 ≤ k → v.2 k = all k) 5 (by omega) ⟨rfl, fun k hk => by rw [if_neg (by omega)], fun _ _ => rfl⟩ ?_)
  rintro i ⟨v1, a2⟩ hi ⟨e1, e2, e3⟩
  dsimp only at e1 e2 e3 ⊢
  subst e1
  unfold zb_X11_isAgain_2
  by_cases c : 5 ≤ i
  · have : i = 5 := by omega
    subst this
    rw [if_pos ((pv_le 5 (by omega) (by omega)).mpr c)]
    refine pu_out (by decide) (pu_some.mpr ⟨?_, e3⟩)
    intro k hk
    dsimp only
    rw [e2 k hk]
    by_cases d : 37 ≤ k ∧ k < 37 + 5
    · rw [if_pos d]
    · rw [if_neg d, ha k hk, hs k hk (by omega)]
  · rw [if_neg (fun z => c ((pv_le 5 (by omega) (by omega)).mp z)), pu_ld (by omega) (by omega), pu_e1, pv_add 37, pu_st (by omega) (by omega), pu_e1, pn_a1, pu_e1]
    refine pu_go ⟨by omega, rfl, ?_, fun k hk => (pu_upn (by omega)).trans (e3 k hk)⟩
    intro k hk
    dsimp only
    by_cases d : k = 37 + i
    · subst d; rw [pu_upe, if_pos (by omega), hw i (by omega)]
    · rw [pu_upn d, e2 k hk]
      by_cases d2 : 37 ≤ k ∧ k < 37 + i
      · rw [if_pos d2, if_pos (by omega)]
      · rw [if_neg d2, if_neg (by omega)]
section PTp
variable {n : Nat} {q : Nat → Nat} {w s0 : Nat} {top things tf tt mf mt : Int32} {bars gives rough code told fa sk : Nat → Int32}
/-- the deeds told in a tray, on both sides -/
theorem pp_tells {all rk wds : Nat → Int32} {t sz : Nat} {nst nwi nde tst twi tde why : Int32} {a num : Nat → Int64} {rm : Nat → Int32} (hn : 1000 ≤ n) (ha : pr_all all q) (hq : pm_cliff q) (hw : q 40 = w) (hK : pc_K q top things tf tt mf mt bars gives rough code) (hT : pc_told q w told) (hN : pp_now q nst nwi nde) (ht : t < 4) (hsz : sz ≤ 40) (hr : rm t = nI sz) (hnum : ∀ k, k < sz → a k = num (40 * t + k)) :
    ∃ m v s' w' a', m ≤ sz ∧ v < 5 ∧ pm_st q s' ∧ w' ≤ 9 ∧ (m = 0 → s' = pm_now q ∧ w' = w ∧ a' = q 41) ∧ (m = sz ∧ v = 0 ∨ m < sz ∧ ¬ v = 0 ∧ ∃ d, zf_X9_deedAt a (nI m) = some d ∧ ∀ told2 fa2 sk2, pc_told q w' told2 → pu_ok (zf_X3_refusal n top things tf tt mf mt bars gives rough code (nI w') told2 fa2 sk2 (nI s') d) (fun r => r.1 = nI v ∧ pc_told q w' r.2.1)) ∧ pu_ok (zf_X10_follow n top things tf tt mf mt bars gives rough code nst nwi nde tst twi tde (nI w) told fa sk (nI sz) a) (fun y => y.1 = nI m ∧ y.2.1 = nI s' ∧ y.2.2.1 = nI w' ∧ y.2.2.2.1 = nI a' ∧ y.2.2.2.2.1 = nI w' ∧ pc_told q w' y.2.2.2.2.2.1) ∧ pu_ok (zf_X11_tells n why all rk wds rm num (nI t)) (fun y => y.1 = nI m ∧ y.2.1 = nI v ∧ pr_all y.2.2.1 (pm_put q s' w' a') ∧ ∀ k, 994 ≤ k → y.2.2.1 k = all k) := by
  obtain ⟨h0, _⟩ := pp_now_st hq hN
  have hw9 : w ≤ 9 := by rw [← hw]; exact hN.2.2.2.2.2.2
  have hput0 := pr_put0 hq hN hw ha
  obtain ⟨n1, n2, n3, _⟩ := hN
  rw [hw] at n2
  subst n1 n2 n3
  obtain ⟨r1, r2, e1, e2, m, v, s', w', a', f⟩ := pu_two (b1 := fun v => zb_X10_follow_13 (nI sz) a n top things tf tt mf mt bars gives rough code v.1 v.2.1 v.2.2.1 v.2.2.2.1 v.2.2.2.2.1 v.2.2.2.2.2.1 v.2.2.2.2.2.2.1 v.2.2.2.2.2.2.2) (b2 := fun v => zb_X11_tells_7 rm (nI t) num n v.1 v.2.1 v.2.2.1 v.2.2.2.1 v.2.2.2.2) (n := n) (v1 := ((0 : Int32), nI (pm_now q), nI w, nI (q 41), nI w, told, fa, sk)) (v2 := ((0 : Int32), (0 : Int32), all, rk, wds))
    (fun i x y => ∃ s' w' a', pm_st q s' ∧ w' ≤ 9 ∧ (i = 0 → s' = pm_now q ∧ w' = w ∧ a' = q 41) ∧ x.1 = nI i ∧ x.2.1 = nI s' ∧ x.2.2.1 = nI w' ∧ x.2.2.2.1 = nI a' ∧ x.2.2.2.2.1 = nI w' ∧ pc_told q w' x.2.2.2.2.2.1 ∧ y.1 = nI i ∧ y.2.1 = 0 ∧ pr_all y.2.2.1 (pm_put q s' w' a') ∧ ∀ k, 994 ≤ k → y.2.2.1 k = all k)
    (P := fun r1 r2 => ∃ m v s' w' a', m ≤ sz ∧ v < 5 ∧ pm_st q s' ∧ w' ≤ 9 ∧ (m = 0 → s' = pm_now q ∧ w' = w ∧ a' = q 41) ∧ (m = sz ∧ v = 0 ∨ m < sz ∧ ¬ v = 0 ∧ ∃ d, zf_X9_deedAt a (nI m) = some d ∧ ∀ told2 fa2 sk2, pc_told q w' told2 → pu_ok (zf_X3_refusal n top things tf tt mf mt bars gives rough code (nI w') told2 fa2 sk2 (nI s') d) (fun r => r.1 = nI v ∧ pc_told q w' r.2.1)) ∧ r1.2.1 = nI m ∧ r1.2.2.1 = nI s' ∧ r1.2.2.2.1 = nI w' ∧ r1.2.2.2.2.1 = nI a' ∧ r1.2.2.2.2.2.1 = nI w' ∧ pc_told q w' r1.2.2.2.2.2.2.1 ∧ (r2.1 = 2 ∧ m = sz ∨ r2.1 = 1) ∧ r2.2.1 = nI m ∧ r2.2.2.1 = nI v ∧ pr_all r2.2.2.2.1 (pm_put q s' w' a') ∧ ∀ k, 994 ≤ k → r2.2.2.2.1 k = all k)
    sz (by omega) ⟨pm_now q, w, q 41, h0, hw9, fun _ => ⟨rfl, rfl, rfl⟩, rfl, rfl, rfl, rfl, rfl, hT, rfl, rfl, hput0, fun _ _ => rfl⟩ (by
      rintro i ⟨v4, v5, v6, v7, v8, a9, a10, a11⟩ ⟨u1, u2, a3, a4, a5⟩ hi ⟨s', w', a', k1, k2, k3, k4, k5, k6, k7, k8, k9, l1, l2, l3, l4⟩
      dsimp only at k4 k5 k6 k7 k8 k9 l1 l2 l3 l4 ⊢
      subst k4 k5 k6 k7 k8 l1 l2
      by_cases c : sz ≤ i
      · have : i = sz := by omega
        subst this
        refine ⟨(1, nI i, nI s', nI w', nI a', nI w', a9, a10, a11), (2, nI i, 0, a3, a4, a5), ?_, ?_, Or.inr ⟨fun z => Nat.noConfusion z, fun z => Nat.noConfusion z, i, 0, s', w', a', by omega, by omega, k1, k2, k3, Or.inl ⟨rfl, rfl⟩, rfl, rfl, rfl, rfl, rfl, k9, Or.inl ⟨rfl, rfl⟩, rfl, rfl, l3, l4⟩⟩
        · unfold zb_X10_follow_13
          rw [if_pos ((pn_le (by omega) (by omega)).mpr c)]
        · unfold zb_X11_tells_7
          rw [pu_ld ht (by omega), pu_e1, hr, if_pos ((pn_le (by omega) (by omega)).mpr c)]
      obtain ⟨d, d1, d2⟩ := pp_deedAt (a := a) (show i < 40 by omega)
      obtain ⟨v, s2, w2, a2, x1, x2, x3, x4, ⟨y, y1, y2⟩, x6, x7⟩ := pp_step1 (n := n) (told := a9) (fa := a10) (sk := a11) (all := a3) (s := s') (a := a') (w := w') (p := d) (pl := a i) hn hq hK l3 k2 k1 k9 d2
      obtain ⟨z, z1, z2⟩ := x6 a4 a5
      have hnm := hnum i (by omega)
      by_cases hv : v = 0
      · subst hv
        obtain ⟨g, g1, g2, g3⟩ := x7 rfl z.2.1 z.2.2
        refine ⟨(0, nI (i + 1), y.2), (0, nI (i + 1), 0, g), ?_, ?_, Or.inl ⟨rfl, rfl, by omega, s2, w2, a2, x2, x3, fun z => by omega, rfl, y2.2.1, y2.2.2.1, y2.2.2.2.1, y2.2.2.2.2.1, y2.2.2.2.2.2, rfl, rfl, g2, fun k hk => (g3 k hk).trans (l4 k hk)⟩⟩
        · unfold zb_X10_follow_13
          rw [if_neg (fun z => c ((pn_le (by omega) (by omega)).mp z)), d1, pu_e1, y1]
          obtain ⟨b1, b2, b3, b4, b5, b6, b7, b8⟩ := y
          obtain ⟨y2, _⟩ := y2
          dsimp only at y2
          subst y2
          rw [pu_e8, if_pos (by decide), pn_a1, pu_e1]
        · unfold zb_X11_tells_7
          rw [pu_ld ht (by omega), pu_e1, hr, if_neg (fun z => c ((pn_le (by omega) (by omega)).mp z)), pv_mul 40, pn_add, pu_ld (by omega) (by omega), pu_e1, ← hnm, z1]
          obtain ⟨b1, b2, b3⟩ := z
          dsimp only at z2 g1
          subst z2
          rw [pu_e3, if_pos (by decide), pu_e1, g1]
          obtain ⟨f1, f2, f3⟩ := g
          rw [pu_e3, pn_a1, pu_e1]
          rfl
      · obtain ⟨rfl, rfl, rfl, x5⟩ := x4 hv
        refine ⟨(1, nI i, y.2), (1, nI i, nI v, a3, z.2.1, z.2.2), ?_, ?_, Or.inr ⟨fun z => Nat.noConfusion z, fun z => Nat.noConfusion z, i, v, s2, w2, a2, by omega, x1, k1, k2, k3, Or.inr ⟨by omega, hv, d, d1, x5⟩, rfl, y2.2.1, y2.2.2.1, y2.2.2.2.1, y2.2.2.2.2.1, y2.2.2.2.2.2, Or.inr rfl, rfl, rfl, l3, l4⟩⟩
        · unfold zb_X10_follow_13
          rw [if_neg (fun z => c ((pn_le (by omega) (by omega)).mp z)), d1, pu_e1, y1]
          obtain ⟨b1, b2, b3, b4, b5, b6, b7, b8⟩ := y
          obtain ⟨y2, _⟩ := y2
          dsimp only at y2
          subst y2
          rw [pu_e8, if_neg (fun z => hv ((pv_eq 0 (by omega) (by omega)).mp z))]
        · unfold zb_X11_tells_7
          rw [pu_ld ht (by omega), pu_e1, hr, if_neg (fun z => c ((pn_le (by omega) (by omega)).mp z)), pv_mul 40, pn_add, pu_ld (by omega) (by omega), pu_e1, ← hnm, z1]
          obtain ⟨b1, b2, b3⟩ := z
          dsimp only at z2
          subst z2
          rw [pu_e3, if_neg (fun z => hv ((pv_eq 0 (by omega) (by omega)).mp z))])
  obtain ⟨f1, f2, f3, f4, f5, f6, o1, o2, o3, o4, o5, o6, o7, o8, o9, o10, o11⟩ := f
  refine ⟨m, v, s', w', a', f1, f2, f3, f4, f5, f6, ?_, ?_⟩
  · unfold zf_X10_follow zf_X4_copyFrom
    rw [pu_e3, e1]
    obtain ⟨b0, b1, b2, b3, b4, b5, b6, b7, b8⟩ := r1
    rw [pu_e9]
    exact pu_some.mpr ⟨o1, o2, o3, o4, o5, o6⟩
  · unfold zf_X11_tells
    rw [e2]
    obtain ⟨b0, b1, b2, b3, b4, b5⟩ := r2
    dsimp only at o7 o8 o9 o10 o11
    rw [pu_e6]
    rcases o7 with ⟨rfl, rfl⟩ | rfl
    · rw [if_neg (by decide), if_pos rfl, pu_ld ht (by omega), pu_e1, hr]
      exact pu_some.mpr ⟨rfl, o9, o10, o11⟩
    · rw [if_pos rfl]
      exact pu_some.mpr ⟨o8, o9, o10, o11⟩
end PTp
