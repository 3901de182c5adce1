/-! lines of a cliff: things, the pilgrim -/
theorem pr_takesW {n : Nat} {at1 be sz rk nu wr wa p1 p2 : Int32} {rt : Nat → Int32} (h : ¬ wr = 0) : zf_X11_takes n at1 be sz rk nu wr wa rt p1 p2 = some (nu, at1, be, rk, nu, wr, wa) := by
  unfold zf_X11_takes
  rw [pr_isW h, pu_e1, if_pos rfl, pr_failsW h, pu_e2, pu_e2, if_neg h, pu_e4]
theorem pb_or6 : ∀ h, h < 64 → ∀ k, k < 6 → nI h ||| nI (2 ^ k) = nI (h ||| 2 ^ k) := by decide +kernel
theorem pb_orT : ∀ t, t < 7 → ∀ h, h < 2 ^ t → ∀ k, k < t → h ||| 2 ^ k < 2 ^ t := by decide +kernel
def pr_pil (n : Nat) (f_size v1 v2 v3 v4 f_wrong f_wrongAt : Int32) (b_tape b_fresh : Nat → Int32) : Option (Int32 × Int32 × Int32 × Int32 × Int32 × Int32 × (Nat → Int32)) :=
  zd_5 (zf_X11_eats n v1 v2 f_size v3 v4 f_wrong b_tape (8 : Int32)) (fun v5 v6 v7 v8 v9 =>
  zd_2 (if v5 = 0 then zd_2 (zf_X11_fails v6 v8 f_wrong f_wrongAt (2 : Int32)) (fun v10 v11 => some (v10, v11)) else some (f_wrong, f_wrongAt)) (fun v12 v13 =>
  zd_1 (za_ld b_fresh 994 (1 : Int32)) (fun v14 =>
  zd_7 (zf_X11_takes n v6 v7 f_size v8 v9 v12 v13 b_tape (0 : Int32) v14) (fun v15 v16 v17 v18 v19 v20 v21 =>
  zd_1 (za_st b_fresh 994 (37 : Int32) v15) (fun a22 =>
  zd_5 (zf_X11_eats n v16 v17 f_size v18 v19 v20 b_tape (9 : Int32)) (fun v23 v24 v25 v26 v27 =>
  zd_2 (if v23 = 0 then zd_2 (zf_X11_fails v24 v26 v20 v21 (2 : Int32)) (fun v28 v29 => some (v28, v29)) else some (v20, v21)) (fun v30 v31 =>
  zd_7 (zf_X11_takes n v24 v25 f_size v26 v27 v30 v31 b_tape (0 : Int32) (4 : Int32)) (fun v32 v33 v34 v35 v36 v37 v38 =>
  zd_1 (za_st a22 994 (39 : Int32) v32) (fun a39 =>
  zd_1 (za_st a39 994 (38 : Int32) (0 : Int32)) (fun a40 =>
  zd_8 (za_it (fun v => zb_X11_readPilgrim_71 n f_size b_tape v.1 v.2.1 v.2.2.1 v.2.2.2.1 v.2.2.2.2.1 v.2.2.2.2.2.1 v.2.2.2.2.2.2) n (v33, v34, v35, v36, v37, v38, a40)) (fun g69 v62 v63 v64 v65 v66 v67 a68 =>
  some (v62, v63, v64, v65, v66, v67, a68))))))))))))
section PLn
variable {n sz : Nat} {B : Nat → Nat} {ct rt : Nat → Int32}
theorem pp_thing2 {a T : Nat} {st en ki va fa pl at1 be rk nu wa : Int32} {fresh : Nat → Int32} (hn : 1000 ≤ n) (hx : pp_tx B sz ct rt) (h : pp_ta B sz a st en ki va at1 be rk nu) (hT : T ≤ 6) (hf : fresh 2 = nI T) :
    (∃ (v : Nat) (st' en' ki' va' at' be' rk' nu' : Int32) (a' : Nat), v < T ∧ zf_X5_readThing n (nI sz) st en ki va fa pl ct (nI T) = some (nI v, st', en', ki', va', fa, pl) ∧ zf_X11_readThing n at1 be (nI sz) rk nu 0 wa rt fresh = some (nI (2 ^ v), at', be', rk', nu', 0, wa) ∧ a < a' ∧ pp_ta B sz a' st' en' ki' va' at' be' rk' nu') ∨ (∃ f u : Int32, ¬ f = 0 ∧ zf_X5_readThing n (nI sz) st en ki va fa pl ct (nI T) = some (-1, st, en, ki, va, f, at1) ∧ zf_X11_readThing n at1 be (nI sz) rk nu 0 wa rt fresh = some (u, at1, be, rk, nu, f, at1)) := by
  have hm1 : (nI T - (1 : Int32)).toInt = (T : Int) - 1 := by
    by_cases z : T = 0
    · subst z; decide
    · rw [pv_sub 1 (by omega), pn_toInt (by omega)]; omega
  unfold zf_X5_readThing zf_X11_readThing
  rw [pv_ld 2 (by omega) (by omega), pu_e1, hf]
  rcases pp_num (fa := fa) (pl := pl) (wa := wa) (p1 := (0 : Int32)) (p2 := nI T - (1 : Int32)) hn hx h with ⟨v, st', en', ki', va', at', be', rk', nu', a', v1, v2, v3, e1, e2, e3, e4⟩ | ⟨f, f1, f2, f3⟩
  · rw [hm1] at v3
    refine Or.inl ⟨v, st', en', ki', va', at', be', rk', nu', a', by omega, ?_, ?_, e3, e4⟩
    · rw [e1, pu_e7]
    · rw [e2, pu_e7, pb_sh v (by omega)]
  · refine Or.inr ⟨f, (1 : Int32) <<< (nu &&& 31), f1, ?_, ?_⟩
    · rw [f2, pu_e7]
    · rw [f3, pu_e7]
/-- the pilgrim's things -/
theorem pp_has {a T : Nat} {g st en ki va fa pl f p at1 be rk nu wr wa : Int32} {fresh : Nat → Int32} (hn : 1000 ≤ n) (hx : pp_tx B sz ct rt) (hT : T ≤ 6) (hf : fresh 2 = nI T) (hf38 : fresh 38 = nI 0) (h : (g = 1 ∧ wr = 0 ∧ f = fa ∧ p = pl ∧ 1 ≤ a ∧ pp_ta B sz a st en ki va at1 be rk nu) ∨ (g = 0 ∧ ¬ wr = 0 ∧ f = wr ∧ p = wa)) :
    ∃ r1 r2, za_it (fun v => zb_X5_readPilgrim_92 n (nI sz) ct (nI T) v.1 v.2.1 v.2.2.1 v.2.2.2.1 v.2.2.2.2.1 v.2.2.2.2.2.1 v.2.2.2.2.2.2.1 v.2.2.2.2.2.2.2.1 v.2.2.2.2.2.2.2.2) n (g, (0 : Int32), st, en, ki, va, f, p, (0 : Int32)) = some r1 ∧ za_it (fun v => zb_X11_readPilgrim_71 n (nI sz) rt v.1 v.2.1 v.2.2.1 v.2.2.2.1 v.2.2.2.2.1 v.2.2.2.2.2.1 v.2.2.2.2.2.2) n (at1, be, rk, nu, wr, wa, fresh) = some r2 ∧ ((r1.2.1 = 1 ∧ r2.2.2.2.2.2.1 = 0 ∧ r1.2.2.2.2.2.2.2.1 = fa ∧ r1.2.2.2.2.2.2.2.2.1 = pl ∧ (∃ a' s, a ≤ a' ∧ s < 2 ^ T ∧ pp_ta B sz a' r1.2.2.2.1 r1.2.2.2.2.1 r1.2.2.2.2.2.1 r1.2.2.2.2.2.2.1 r2.2.1 r2.2.2.1 r2.2.2.2.1 r2.2.2.2.2.1 ∧ r1.2.2.2.2.2.2.2.2.2 = nI s ∧ r2.2.2.2.2.2.2.2 38 = nI s ∧ ∀ k, ¬ k = 38 → r2.2.2.2.2.2.2.2 k = fresh k)) ∨ (r1.2.1 = 0 ∧ ¬ r2.2.2.2.2.2.1 = 0 ∧ r1.2.2.2.2.2.2.2.1 = r2.2.2.2.2.2.1 ∧ r1.2.2.2.2.2.2.2.2.1 = r2.2.2.2.2.2.2.1)) := by
  have h9 := hx.1
  have hp := pm_p6 hT
  refine pu_two (b1 := fun v => zb_X5_readPilgrim_92 n (nI sz) ct (nI T) v.1 v.2.1 v.2.2.1 v.2.2.2.1 v.2.2.2.2.1 v.2.2.2.2.2.1 v.2.2.2.2.2.2.1 v.2.2.2.2.2.2.2.1 v.2.2.2.2.2.2.2.2) (b2 := fun v => zb_X11_readPilgrim_71 n (nI sz) rt v.1 v.2.1 v.2.2.1 v.2.2.2.1 v.2.2.2.2.1 v.2.2.2.2.2.1 v.2.2.2.2.2.2)
    (fun k u y => u.2.1 = nI k ∧ ((u.1 = 1 ∧ y.2.2.2.2.1 = 0 ∧ u.2.2.2.2.2.2.1 = fa ∧ u.2.2.2.2.2.2.2.1 = pl ∧ (∃ a' s, a + k ≤ a' ∧ 1 ≤ a ∧ s < 2 ^ T ∧ pp_ta B sz a' u.2.2.1 u.2.2.2.1 u.2.2.2.2.1 u.2.2.2.2.2.1 y.1 y.2.1 y.2.2.1 y.2.2.2.1 ∧ u.2.2.2.2.2.2.2.2 = nI s ∧ y.2.2.2.2.2.2 38 = nI s ∧ ∀ k, ¬ k = 38 → y.2.2.2.2.2.2 k = fresh k)) ∨ (u.1 = 0 ∧ ¬ y.2.2.2.2.1 = 0 ∧ u.2.2.2.2.2.2.1 = y.2.2.2.2.1 ∧ u.2.2.2.2.2.2.2.1 = y.2.2.2.2.2.1)))
    900 (by omega) ⟨rfl, ?_⟩ ?_
  · rcases h with ⟨h1, h2, h3, h4, h5, h6⟩ | h
    · exact Or.inl ⟨h1, h2, h3, h4, a, 0, by omega, h5, Nat.pos_of_ne_zero (by have := Nat.two_pow_pos T; omega), h6, rfl, hf38, fun _ _ => rfl⟩
    · exact Or.inr h
  rintro k ⟨v30, v31, v32, v33, v34, v35, v36, v37, v38⟩ ⟨u41, u42, u43, u44, u45, u46, a47⟩ hk ⟨w1, w2⟩
  dsimp only at w1 w2 ⊢
  subst w1
  rcases w2 with ⟨z1, z2, z3, z4, a', s, z5, z6, z7, z8, z9, z10, z11⟩ | ⟨z1, z2, z3, z4⟩
  rotate_left
  · refine ⟨(1, v30, nI k, v32, v33, v34, v35, v36, v37, v38), (1, u41, u42, u43, u44, u45, u46, a47), ?_, ?_, Or.inr ⟨fun z => Nat.noConfusion z, fun z => Nat.noConfusion z, Or.inr ⟨z1, z2, z3, z4⟩⟩⟩
    · unfold zb_X5_readPilgrim_92
      by_cases q : (900 : Int32) ≤ nI k
      · rw [if_pos q]
      · rw [if_neg q, if_pos z1]
    · unfold zb_X11_readPilgrim_71
      rw [if_neg z2]
  have hle := pp_ta_le z8
  subst z1 z2 z3 z4 z9
  have hk9 : ¬ (900 : Int32) ≤ nI k := fun z => by have := (pv_le 900 (by omega) (by omega)).mp z; omega
  rcases pp_acc (i := 12) 10 hn hx z8 (by unfold pm_cc; decide) with ⟨st3, en3, ki3, va3, at3, be3, rk3, nu3, a3, y1, y2, y3, y4⟩ | ⟨y1, y2, y3⟩
  rotate_left
  · refine ⟨(1, 1, nI k, v32, v33, v34, v35, v36, v37, nI s), (1, u41, u42, u43, u44, 0, u46, a47), ?_, ?_, Or.inr ⟨fun z => Nat.noConfusion z, fun z => Nat.noConfusion z, Or.inl ⟨rfl, rfl, rfl, rfl, a', s, by omega, z7, z8, rfl, z10, z11⟩⟩⟩
    · unfold zb_X5_readPilgrim_92
      rw [if_neg hk9, if_neg (by decide), y1, pu_e5, if_pos rfl]
    · unfold zb_X11_readPilgrim_71
      rw [if_pos rfl, y2, pu_e5, if_pos rfl]
  rcases pp_thing2 (fa := v36) (pl := v37) (wa := u46) (fresh := a47) hn hx y4 hT (by rw [z11 2 (by omega), hf]) with ⟨v, st4, en4, ki4, va4, at4, be4, rk4, nu4, a4, x0, x1, x2, x3, x4⟩ | ⟨f, u, x0, x1, x2⟩
  · refine ⟨(0, 1, nI (k + 1), st4, en4, ki4, va4, v36, v37, nI (s ||| 2 ^ v)), (0, at4, be4, rk4, nu4, 0, u46, va_up a47 38 (nI (s ||| 2 ^ v))), ?_, ?_, Or.inl ⟨rfl, rfl, by omega, rfl, Or.inl ⟨rfl, rfl, rfl, rfl, a4, s ||| 2 ^ v, by omega, z6, pb_orT T (by omega) s z7 v x0, x4, rfl, show va_up a47 38 (nI (s ||| 2 ^ v)) 38 = nI (s ||| 2 ^ v) from pu_upe, fun l hl => (show va_up a47 38 (nI (s ||| 2 ^ v)) l = a47 l from pu_upn hl).trans (z11 l hl)⟩⟩⟩
    · unfold zb_X5_readPilgrim_92
      rw [if_neg hk9, if_neg (by decide), y1, pu_e5, if_neg (by decide), x1, pu_e7, if_neg (fun z => (pn_ne1 (by omega)).mp z), pu_e1, if_neg (by decide), pb_sh v (by omega), pu_e1, pb_or6 s (by omega) v (by omega), pu_e1, pn_a1, pu_e1]
    · unfold zb_X11_readPilgrim_71
      rw [if_pos rfl, y2, pu_e5, if_neg (by decide), pv_ld 38 (by omega) (by omega), pu_e1, z10, x2, pu_e7, pb_or6 s (by omega) v (by omega), pv_st 38 (by omega) (by omega), pu_e1]
  · refine ⟨(0, 0, nI (k + 1), st3, en3, ki3, va3, f, at3, nI s ||| 0), (0, at3, be3, rk3, nu3, f, at3, va_up a47 38 (nI s ||| u)), ?_, ?_, Or.inl ⟨rfl, rfl, by omega, rfl, Or.inr ⟨rfl, x0, rfl, rfl⟩⟩⟩
    · unfold zb_X5_readPilgrim_92
      rw [if_neg hk9, if_neg (by decide), y1, pu_e5, if_neg (by decide), x1, pu_e7, if_pos rfl, pu_e1, if_pos rfl, pu_e1, pu_e1, pn_a1, pu_e1]
    · unfold zb_X11_readPilgrim_71
      rw [if_pos rfl, y2, pu_e5, if_neg (by decide), pv_ld 38 (by omega) (by omega), pu_e1, z10, x2, pu_e7, pv_st 38 (by omega) (by omega), pu_e1]
end PLn
