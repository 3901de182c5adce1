/-! the line of a law -/
def pr_law (n : Nat) (f_size v1 v2 v3 v4 f_wrong f_wrongAt : Int32) (b_tape b_fresh : Nat → Int32) (p1 : Int32) : Option (Int32 × Int32 × Int32 × Int32 × Int32 × Int32 × Int32 × (Nat → Int32)) :=
  zd_5 (zf_X11_eats n v1 v2 f_size v3 v4 f_wrong b_tape (31 : Int32)) (fun v5 v6 v7 v8 v9 =>
  zd_2 (if v5 = 0 then zd_2 (zf_X11_fails v6 v8 f_wrong f_wrongAt (2 : Int32)) (fun v10 v11 => some (v10, v11)) else some (f_wrong, f_wrongAt)) (fun v12 v13 =>
  zd_1 (za_ld b_fresh 994 (93 : Int32)) (fun v14 =>
  zd_7 (if p1 = 0 then zd_7 (zf_X11_readSum n v6 v7 f_size v8 v9 v12 v13 p1 b_tape b_fresh (0 : Int32)) (fun v15 v16 v17 v18 v19 v20 a21 => some (v15, v16, v17, v18, v19, v20, a21)) else zd_7 (zf_X11_readTruth n v6 v7 f_size v8 v9 v12 v13 p1 b_tape b_fresh (0 : Int32)) (fun v22 v23 v24 v25 v26 v27 a28 => some (v22, v23, v24, v25, v26, v27, a28))) (fun v29 v30 v31 v32 v33 v34 a35 =>
  if v33 = 0 then
    zd_1 (za_st a35 994 ((4 : Int32) + p1) (1 : Int32)) (fun a36 =>
    zd_1 (za_st a36 994 ((6 : Int32) + p1) v14) (fun a37 =>
    zd_1 (za_ld a37 994 (93 : Int32)) (fun v38 =>
    zd_1 (za_st a37 994 ((8 : Int32) + p1) (v38 - v14)) (fun a39 =>
    some (v29, v30, v31, v32, v33, v34, p1, a39)))))
  else some (v29, v30, v31, v32, v33, v34, p1, a35)))))
theorem pp_C_up {F0 : Nat → Int32} {c k0 : Nat} {x : Nat → Nat} {co y : Int32} {code fresh : Nat → Int32} (h : pp_C F0 c x co code fresh) (hk : k0 < 93) : pp_C (va_up F0 k0 y) c x co code (va_up fresh k0 y) := by
  obtain ⟨h1, h2, h3, h4⟩ := h
  refine ⟨h1, fun k hk2 => ?_, by rw [pu_upn (by omega)]; exact h3, fun k hk2 => ?_⟩
  · rw [pu_upn (by omega)]; exact h2 k hk2
  · by_cases z : k = k0
    · subst z; rw [pu_upe, pu_upe]
    · rw [pu_upn z, pu_upn z]; exact h4 k hk2
section PLw
variable {n sz : Nat} {B : Nat → Nat} {ct rt : Nat → Int32}
theorem pp_law {law t a c : Nat} {F0 : Nat → Int32} {x : Nat → Nat} {may st en ki va fa pl co at1 be rk nu wa : Int32} {code fresh : Nat → Int32} (hn : 1000 ≤ n) (hx : pp_tx B sz ct rt) (hl : law = 0 ∧ t = 3 ∧ may = 0 ∨ law = 1 ∧ t = 0 ∧ may = 1) (hta : pp_ta B sz a st en ki va at1 be rk nu) (hC : pp_C F0 c x co code fresh) (hca : c ≤ a) :
    (∃ f : Int32, ¬ f = 0 ∧ zf_X5_expect n (nI sz) st en ki va fa pl ct 16 = some (0, st, en, ki, va, f, at1) ∧ ∃ at' be' rk' nu' fresh', pr_law n (nI sz) at1 be rk nu 0 wa rt fresh (nI law) = some (at', be', rk', nu', f, at1, nI law, fresh')) ∨ (∃ st1 en1 ki1 va1, zf_X5_expect n (nI sz) st en ki va fa pl ct 16 = some (1, st1, en1, ki1, va1, fa, pl) ∧ ∃ g st' en' ki' va' f p co' code' at' be' rk' nu' wr wa' fresh', zg_X5p n 60 t (nI sz) st1 en1 ki1 va1 may fa pl ct co code (0 : Int32) = some (g, st', en', ki', va', f, p, co', code') ∧ pr_law n (nI sz) at1 be rk nu 0 wa rt fresh (nI law) = some (at', be', rk', nu', wr, wa', nI law, fresh') ∧ ((g = 1 ∧ wr = 0 ∧ f = fa ∧ p = pl ∧ ∃ a' c' x', a < a' ∧ c ≤ c' ∧ c' ≤ a' ∧ pp_ta B sz a' st' en' ki' va' at' be' rk' nu' ∧ pp_C (va_up (va_up (va_up F0 (4 + law) 1) (6 + law) (nI c)) (8 + law) (nI (c' - c))) c' x' co' code' fresh' ∧ (∀ k, k < c → x' k = x k) ∧ pe_tc x' c (c' - c) [] = some [decide (law = 0)]) ∨ (g = 0 ∧ ¬ wr = 0 ∧ f = wr ∧ p = wa'))) := by
  have h9 := hx.1
  have hrec : ∀ u1 u2 u3 u4 u5 u6 (fr : Nat → Int32), (if nI law = 0 then zd_7 (zf_X11_readSum n u1 u2 (nI sz) u3 u4 u5 u6 (nI law) rt fr (0 : Int32)) (fun v15 v16 v17 v18 v19 v20 a21 => some (v15, v16, v17, v18, v19, v20, a21)) else zd_7 (zf_X11_readTruth n u1 u2 (nI sz) u3 u4 u5 u6 (nI law) rt fr (0 : Int32)) (fun v22 v23 v24 v25 v26 v27 a28 => some (v22, v23, v24, v25, v26, v27, a28))) = zg_X11p n 60 t u1 u2 (nI sz) u3 u4 u5 u6 (nI law) rt fr (0 : Int32) := by
    intro u1 u2 u3 u4 u5 u6 fr
    rcases hl with ⟨rfl, rfl, _⟩ | ⟨rfl, rfl, _⟩
    · rw [if_pos (by decide)]
      show zd_7 (zg_X11p n 60 3 u1 u2 (nI sz) u3 u4 u5 u6 (nI 0) rt fr (0 : Int32)) _ = _
      cases zg_X11p n 60 3 u1 u2 (nI sz) u3 u4 u5 u6 (nI 0) rt fr (0 : Int32) with
      | none => rfl
      | some w => rfl
    · rw [if_neg (by decide)]
      show zd_7 (zg_X11p n 60 0 u1 u2 (nI sz) u3 u4 u5 u6 (nI 1) rt fr (0 : Int32)) _ = _
      cases zg_X11p n 60 0 u1 u2 (nI sz) u3 u4 u5 u6 (nI 1) rt fr (0 : Int32) with
      | none => rfl
      | some w => rfl
  have hR : pp_R n B sz ct rt may (nI law) 60 t 0 := by
    rcases hl with ⟨rfl, rfl, h⟩ | ⟨rfl, rfl, h⟩
    · exact pp_Rall hn hx (Or.inl ⟨h, by decide⟩) 6 0 rfl 3 60 (by omega) (by omega)
    · exact pp_Rall hn hx (Or.inr ⟨h, by decide⟩) 6 0 rfl 0 60 (by omega) (by omega)
  have ht5 : t ≤ 5 := by omega
  have hl2 : law < 2 := by omega
  unfold pr_law
  rw [pv_ld 93 (by omega) (by omega), hC.2.2.1]
  rcases pp_exp (i := 16) 31 (fa := fa) (pl := pl) hn hx hta (by unfold pm_cc; decide) with ⟨st1, en1, ki1, va1, at2, be2, rk2, nu2, a1, l1, l2, l3, l4⟩ | ⟨f, w, l2, l3, l4⟩
  rotate_left
  · refine Or.inl ⟨f, w, l2, at1, be, rk, nu, fresh, ?_⟩
    rw [l3, pu_e5, if_pos rfl, l4, pu_e2, pu_e2, pu_e1, hrec, pr_idle (by omega) w 60 t ht5 (by omega), pu_e7, if_neg w]
  refine Or.inr ⟨st1, en1, ki1, va1, l1, ?_⟩
  rw [l2, pu_e5, if_neg (show ¬ (1 : Int32) = 0 by decide), pu_e2, pu_e1, hrec]
  obtain ⟨g4, st4, en4, ki4, va4, f4, p4, co4, code4, at4, be4, rk4, nu4, wr4, wa4, fresh4, i1, i2, i3⟩ := hR F0 a1 c x st1 en1 ki1 va1 fa pl co code at2 be2 rk2 nu2 wa fresh l4 hC (by omega)
  have i1' : zg_X5p n 60 t (nI sz) st1 en1 ki1 va1 may fa pl ct co code (0 : Int32) = some (g4, st4, en4, ki4, va4, f4, p4, co4, code4) := i1
  have i2' : zg_X11p n 60 t at2 be2 (nI sz) rk2 nu2 0 wa (nI law) rt fresh (0 : Int32) = some (at4, be4, rk4, nu4, wr4, wa4, fresh4) := i2
  rw [i1', i2', pu_e7]
  rcases i3 with ⟨j1, j2, j3, j4, a5, c5, x5, j5, j6, j7, j8, j9, j10, j11⟩ | ⟨j1, j2, j3, j4⟩
  · have hc93 := j9.2.2.1
    have hle5 := pp_ta_le j8
    rw [if_pos j2, pv_add 4, pu_st (by omega) (by omega), pu_e1, pv_add 6, pu_st (by omega) (by omega), pu_e1, pv_ld 93 (by omega) (by omega), pu_e1, pu_upn (by omega), pu_upn (by omega), hc93, pn_sub (by omega), pv_add 8, pu_st (by omega) (by omega), pu_e1]
    refine ⟨_, _, _, _, _, _, _, _, _, _, _, _, _, _, _, _, rfl, rfl, Or.inl ⟨j1, j2, j3, j4, a5, c5, x5, by omega, j6, by omega, j8, pp_C_up (pp_C_up (pp_C_up j9 (by omega)) (by omega)) (by omega), j10, ?_⟩⟩
    have := j11 [] (by rw [List.length_nil]; omega)
    rw [this]
    rcases hl with ⟨rfl, rfl, _⟩ | ⟨rfl, rfl, _⟩ <;> rfl
  · rw [if_neg j2]
    exact ⟨_, _, _, _, _, _, _, _, _, _, _, _, _, _, _, _, rfl, rfl, Or.inr ⟨j1, j2, j3, j4⟩⟩
end PLw
