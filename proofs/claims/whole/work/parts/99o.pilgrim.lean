/-! the pilgrim's line -/
theorem pr_pilW {n : Nat} {sz at1 be rk nu wr wa : Int32} {rt fr : Nat → Int32} (hn : 1 ≤ n) (h : ¬ wr = 0) : za_it (fun v => zb_X11_readPilgrim_71 n sz rt v.1 v.2.1 v.2.2.1 v.2.2.2.1 v.2.2.2.2.1 v.2.2.2.2.2.1 v.2.2.2.2.2.2) n (at1, be, rk, nu, wr, wa, fr) = some (1, at1, be, rk, nu, wr, wa, fr) := by
  refine pu_it1 hn ?_ (fun z => Nat.noConfusion z)
  unfold zb_X11_readPilgrim_71
  rw [if_neg h]
section PPi
variable {n sz : Nat} {B : Nat → Nat} {ct rt : Nat → Int32}
theorem pp_pilgrim {a top T : Nat} {st en ki va fa pl sr sth ss at1 be rk nu wa : Int32} {fresh : Nat → Int32} (hn : 1000 ≤ n) (hx : pp_tx B sz ct rt) (hta : pp_ta B sz a st en ki va at1 be rk nu) (htop : top ≤ 8) (hT : T ≤ 6) (hf1 : fresh 1 = nI top) (hf2 : fresh 2 = nI T) :
    ∃ g st' en' ki' va' f p sr' sth' ss' at' be' rk' nu' wr wa' fresh', zf_X5_readPilgrim n (nI sz) st en ki va fa pl ct (nI top) (nI T) sr sth ss = some (g, st', en', ki', va', f, p, sr', sth', ss') ∧ pr_pil n (nI sz) at1 be rk nu 0 wa rt fresh = some (at', be', rk', nu', wr, wa', fresh') ∧ ((g = 1 ∧ wr = 0 ∧ f = fa ∧ p = pl ∧ ∃ a' r s q5, a < a' ∧ r ≤ top ∧ s < 2 ^ T ∧ q5 ≤ 4 ∧ pp_ta B sz a' st' en' ki' va' at' be' rk' nu' ∧ sr' = nI r ∧ sth' = nI s ∧ ss' = nI q5 ∧ fresh' 37 = nI r ∧ fresh' 38 = nI s ∧ fresh' 39 = nI q5 ∧ ∀ k, ¬ k = 37 → ¬ k = 38 → ¬ k = 39 → fresh' k = fresh k) ∨ (g = 0 ∧ ¬ wr = 0 ∧ f = wr ∧ p = wa')) := by
  have h9 := hx.1
  unfold zf_X5_readPilgrim pr_pil
  rcases pp_exp (i := 10) 8 (fa := fa) (pl := pl) hn hx hta (by unfold pm_cc; decide) with ⟨st1, en1, ki1, va1, at2, be2, rk2, nu2, a1, l1, l2, l3, l4⟩ | ⟨f, w, l2, l3, l4⟩
  rotate_left
  · rw [l2, l3, pu_e7, pu_e5, if_pos rfl, if_pos rfl, l4, pu_e2, pu_e2, pv_ld 1 (by omega) (by omega), pu_e1, pr_takesW w, pu_e7, pv_st 37 (by omega) (by omega), pu_e1, pr_eatsW w, pu_e5, if_pos rfl, pr_failsW w, pu_e2, pu_e2, pr_takesW w, pu_e7, pv_st 39 (by omega) (by omega), pu_e1, pv_st 38 (by omega) (by omega), pu_e1, pr_pilW (by omega) w, pu_e8]
    exact ⟨_, _, _, _, _, _, _, _, _, _, _, _, _, _, _, _, _, rfl, rfl, Or.inr ⟨rfl, w, rfl, rfl⟩⟩
  rw [l1, l2, pu_e7, pu_e5, if_neg (show ¬ (1 : Int32) = 0 by decide), if_neg (show ¬ (1 : Int32) = 0 by decide), pu_e2, pv_ld 1 (by omega) (by omega), pu_e1, hf1]
  rcases pp_num (fa := fa) (pl := pl) (wa := wa) (p1 := (0 : Int32)) (p2 := nI top) hn hx l4 with ⟨r, st3, en3, ki3, va3, at3, be3, rk3, nu3, a3, v1, v2, v3, e1, e2, e3, e4⟩ | ⟨f, w, f2, f3⟩
  rotate_left
  · rw [f2, f3, pu_e7, pu_e7, if_pos rfl, pv_st 37 (by omega) (by omega), pu_e1, pr_eatsW w, pu_e5, if_pos rfl, pr_failsW w, pu_e2, pu_e2, pr_takesW w, pu_e7, pv_st 39 (by omega) (by omega), pu_e1, pv_st 38 (by omega) (by omega), pu_e1, pr_pilW (by omega) w, pu_e8]
    exact ⟨_, _, _, _, _, _, _, _, _, _, _, _, _, _, _, _, _, rfl, rfl, Or.inr ⟨rfl, w, rfl, rfl⟩⟩
  rw [pn_toInt (by omega)] at v3
  rw [e1, e2, pu_e7, pu_e7, if_neg (fun z => (pn_ne1 (a := r) (by omega)).mp z), pv_st 37 (by omega) (by omega), pu_e1]
  rcases pp_exp (i := 11) 9 (fa := fa) (pl := pl) hn hx e4 (by unfold pm_cc; decide) with ⟨st5, en5, ki5, va5, at5, be5, rk5, nu5, a5, k1, k2, k3, k4⟩ | ⟨f, w, k2, k3, k4⟩
  rotate_left
  · rw [k2, k3, pu_e7, pu_e5, if_pos rfl, if_pos rfl, k4, pu_e2, pu_e2, pr_takesW w, pu_e7, pv_st 39 (by omega) (by omega), pu_e1, pv_st 38 (by omega) (by omega), pu_e1, pr_pilW (by omega) w, pu_e8]
    exact ⟨_, _, _, _, _, _, _, _, _, _, _, _, _, _, _, _, _, rfl, rfl, Or.inr ⟨rfl, w, rfl, rfl⟩⟩
  rw [k1, k2, pu_e7, pu_e5, if_neg (show ¬ (1 : Int32) = 0 by decide), if_neg (show ¬ (1 : Int32) = 0 by decide), pu_e2]
  rcases pp_num (fa := fa) (pl := pl) (wa := wa) (p1 := (0 : Int32)) (p2 := (4 : Int32)) hn hx k4 with ⟨q5, st7, en7, ki7, va7, at7, be7, rk7, nu7, a7, o1, o2, o3, s1, s2, s3, s4⟩ | ⟨f, w, f2, f3⟩
  rotate_left
  · obtain ⟨r1, r2, t1, t2, t3⟩ := pp_has (a := 1) (T := T) (g := 0) (st := st5) (en := en5) (ki := ki5) (va := va5) (fa := fa) (pl := pl) (f := f) (p := at5) (at1 := at5) (be := be5) (rk := rk5) (nu := nu5) (wr := f) (wa := at5) (fresh := va_up (va_up (va_up fresh 37 (nI r)) 39 nu5) 38 0) hn hx hT (by rw [pu_upn (by omega), pu_upn (by omega), pu_upn (by omega), hf2]) (by rw [pu_upe]; rfl) (Or.inr ⟨rfl, w, rfl, rfl⟩)
    rw [f2, f3, pu_e7, pu_e7, if_pos rfl, pu_e1, pv_st 39 (by omega) (by omega), pu_e1, pv_st 38 (by omega) (by omega), pu_e1, t1, t2]
    obtain ⟨b0, b1, b2, b3, b4, b5, b6, b7, b8, b9⟩ := r1
    obtain ⟨c0, c1, c2, c3, c4, c5, c6, c7⟩ := r2
    have hw2 := pr_pilW (n := n) (sz := nI sz) (at1 := at5) (be := be5) (rk := rk5) (nu := nu5) (wr := f) (wa := at5) (rt := rt) (fr := va_up (va_up (va_up fresh 37 (nI r)) 39 nu5) 38 0) (by omega) w
    rw [t2] at hw2
    cases hw2
    dsimp only at t3
    rcases t3 with ⟨_, z, _⟩ | ⟨z1, z2, z3, z4⟩
    · exact absurd z w
    · rw [pu_e10, pu_e8, z1, show za_zb (0 : Int32) = some 0 from rfl, pu_e1]
      exact ⟨_, _, _, _, _, _, _, _, _, _, _, _, _, _, _, _, _, rfl, rfl, Or.inr ⟨rfl, z2, z3, z4⟩⟩
  replace o3 : (q5 : Int) ≤ 4 := o3
  rw [s1, s2, pu_e7, pu_e7, if_neg (fun z => (pn_ne1 (a := q5) (by omega)).mp z), pu_e1, pv_st 39 (by omega) (by omega), pu_e1, pv_st 38 (by omega) (by omega), pu_e1]
  obtain ⟨r1, r2, t1, t2, t3⟩ := pp_has (a := a7) (T := T) (g := 1) (st := st7) (en := en7) (ki := ki7) (va := va7) (fa := fa) (pl := pl) (f := fa) (p := pl) (at1 := at7) (be := be7) (rk := rk7) (nu := nu7) (wr := 0) (wa := wa) (fresh := va_up (va_up (va_up fresh 37 (nI r)) 39 (nI q5)) 38 0) hn hx hT (by rw [pu_upn (by omega), pu_upn (by omega), pu_upn (by omega), hf2]) (by rw [pu_upe]; rfl) (Or.inl ⟨rfl, rfl, rfl, rfl, by omega, s4⟩)
  rw [t1, t2]
  obtain ⟨b0, b1, b2, b3, b4, b5, b6, b7, b8, b9⟩ := r1
  obtain ⟨c0, c1, c2, c3, c4, c5, c6, c7⟩ := r2
  rw [pu_e10, pu_e8]
  dsimp only at t3
  rcases t3 with ⟨z1, z2, z3, z4, a', s, z5, z6, z7, z8, z9, z10⟩ | ⟨z1, z2, z3, z4⟩
  · rw [z1, show za_zb (1 : Int32) = some 1 from rfl, pu_e1]
    refine ⟨_, _, _, _, _, _, _, _, _, _, _, _, _, _, _, _, _, rfl, rfl, Or.inl ⟨rfl, z2, z3, z4, a', r, s, q5, by omega, by omega, z6, by omega, z7, rfl, z8, rfl, ?_, z9, ?_, ?_⟩⟩
    · rw [z10 37 (by omega), pu_upn (by omega), pu_upn (by omega), pu_upe]
    · rw [z10 39 (by omega), pu_upn (by omega), pu_upe]
    · intro k h1 h2 h3
      rw [z10 k h2, pu_upn h2, pu_upn h3, pu_upn h1]
  · rw [z1, show za_zb (0 : Int32) = some 0 from rfl, pu_e1]
    exact ⟨_, _, _, _, _, _, _, _, _, _, _, _, _, _, _, _, _, rfl, rfl, Or.inr ⟨rfl, z2, z3, z4⟩⟩
end PPi
