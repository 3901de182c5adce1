/-! a whole text -/
theorem pr_plain {n N : Nat} {a : Nat → Int32} (hn : 1000 ≤ n) (hN : 994 ≤ N) (hN2 : N < 2147483648) : pu_ok (zf_X11_plain n N a) (fun b => b 1 = 1 ∧ b 39 = 4 ∧ (∀ k, k < 994 → ¬ k = 1 → ¬ k = 39 → b k = 0) ∧ ∀ k, 994 ≤ k → b k = a k) := by
  unfold zf_X11_plain
  refine pu_d3.mpr (pu_up (fun i v => v.1 = nI i ∧ (∀ k, k < i → v.2 k = 0) ∧ ∀ k, 994 ≤ k → v.2 k = a k) 994 (by omega) ⟨rfl, fun k z => by omega, fun _ _ => rfl⟩ ?_)
  rintro i ⟨v1, a2⟩ hi ⟨e1, e2, e3⟩
  dsimp only at e1 e2 e3 ⊢
  subst e1
  unfold zb_X11_plain_2
  by_cases hc : 994 ≤ i
  · have : i = 994 := by omega
    subst this
    rw [if_pos ((pv_le 994 (by omega) (by omega)).mpr hc)]
    refine pu_out (by decide) ?_
    dsimp only
    rw [pv_st 1 (by omega) (by omega), pu_e1, pv_st 39 (by omega) (by omega), pu_e1]
    refine pu_some.mpr ⟨by rw [pu_upn (by omega), pu_upe], by rw [pu_upe], fun k z1 z2 z3 => ?_, fun k z => ?_⟩
    · rw [pu_upn z3, pu_upn z2]; exact e2 k z1
    · rw [pu_upn (by omega), pu_upn (by omega)]; exact e3 k z
  · rw [if_neg (fun z => hc ((pv_le 994 (by omega) (by omega)).mp z)), pu_st (by omega) (by omega), pu_e1, pn_a1, pu_e1]
    refine pu_go ⟨by omega, rfl, fun k z => ?_, fun k z => ?_⟩
    · dsimp only
      by_cases f : k = i
      · rw [f, pu_upe]
      · rw [pu_upn f]; exact e2 k (by omega)
    · dsimp only
      rw [pu_upn (by omega)]; exact e3 k z
def pr_t5 (n : Nat) (p1 : Int32) (all rt : Nat → Int32) (rd v52 v53 v54 v55 v56 v57 : Int32) (a58 : Nat → Int32) : Option (Int32 × Int32 × Int32 × Int32 × Int32 × Int32 × Int32 × Int32 × Int32 × Int32 × Int32 × Int32 × Int32 × (Nat → Int32) × (Nat → Int32)) :=
    zd_9 (za_it (fun v => zb_X11_cliff_117 n p1 rt v.1 v.2.1 v.2.2.1 v.2.2.2.1 v.2.2.2.2.1 v.2.2.2.2.2.1 v.2.2.2.2.2.2.1 v.2.2.2.2.2.2.2) n (v52, v53, v54, v55, v56, v57, rd, a58)) (fun g90 v82 v83 v84 v85 v86 v87 v88 a89 =>
    zd_1 (
      if v86 = 0 then
        some (-1 : Int32)
      else
        some v87) (fun v91 =>
    if v86 = 0 then
      zd_3 (za_it (fun v => zb_X11_cliff_188 a89 v.1 v.2) n ((0 : Int32), all)) (fun g99 v97 a98 =>
      zd_1 (za_ld a98 2982 (0 : Int32)) (fun v100 =>
      some (v100, (0 : Int32), (0 : Int32), v82, v83, p1, v84, v85, v86, v87, v86, v91, v88, a98, a89)))
    else
      some (((-30 : Int32) - v86), (0 : Int32), (0 : Int32), v82, v83, p1, v84, v85, v86, v87, v86, v91, v88, all, a89)))
def pr_t4 (n : Nat) (p1 : Int32) (all rt : Nat → Int32) (rd v45 v46 v47 v48 v49 v50 : Int32) (a51 : Nat → Int32) := zd_7 (zf_X11_closes n v45 v46 p1 v47 v48 v49 v50 rt a51) (fun v52 v53 v54 v55 v56 v57 a58 => pr_t5 n p1 all rt rd v52 v53 v54 v55 v56 v57 a58)
def pr_t3 (n : Nat) (p1 : Int32) (all rt : Nat → Int32) (rd v36 v37 v38 v39 v42 v43 : Int32) (a34 : Nat → Int32) := zd_7 (zf_X11_takes n v36 v37 p1 v38 v39 v42 v43 rt (0 : Int32) (6 : Int32)) (fun v44 v45 v46 v47 v48 v49 v50 => zd_1 (za_st a34 994 (2 : Int32) v44) (fun a51 => pr_t4 n p1 all rt rd v45 v46 v47 v48 v49 v50 a51))
def pr_t2 (n : Nat) (p1 : Int32) (all rt : Nat → Int32) (rd v28 v29 v30 v31 v32 v33 : Int32) (a34 : Nat → Int32) := zd_5 (zf_X11_eats n v28 v29 p1 v30 v31 v32 rt (2 : Int32)) (fun v35 v36 v37 v38 v39 =>
    zd_2 (
      if v35 = 0 then
        zd_2 (zf_X11_fails v36 v38 v32 v33 (2 : Int32)) (fun v40 v41 =>
        some (v40, v41))
      else
        some (v32, v33)) (fun v42 v43 => pr_t3 n p1 all rt rd v36 v37 v38 v39 v42 v43 a34))
def pr_t1 (n : Nat) (p1 : Int32) (all rt : Nat → Int32) (rd v21 v22 v23 v24 v25 v26 : Int32) (a2 : Nat → Int32) := zd_7 (zf_X11_takes n v21 v22 p1 v23 v24 v25 v26 rt (1 : Int32) (8 : Int32)) (fun v27 v28 v29 v30 v31 v32 v33 => zd_1 (za_st a2 994 (1 : Int32) v27) (fun a34 => pr_t2 n p1 all rt rd v28 v29 v30 v31 v32 v33 a34))
def pr_t0 (n : Nat) (p1 : Int32) (all rt : Nat → Int32) (rd at1 rk nu wa : Int32) (fresh : Nat → Int32) := zd_1 (zf_X11_plain n 994 fresh) (fun a2 =>
    zd_4 (zf_X11_next n at1 (0 : Int32) p1 rk nu rt) (fun v3 v4 v5 v6 =>
    zd_5 (zf_X11_eats n v3 v4 p1 v5 v6 (0 : Int32) rt (0 : Int32)) (fun v7 v8 v9 v10 v11 =>
    zd_6 (
      if v7 = 0 then
        zd_2 (zf_X11_fails v8 v10 (0 : Int32) wa (2 : Int32)) (fun v12 v13 =>
        some (v8, v9, v10, v11, v12, v13))
      else
        zd_5 (zf_X11_eats n v8 v9 p1 v10 v11 (0 : Int32) rt (1 : Int32)) (fun v14 v15 v16 v17 v18 =>
        if v14 = 0 then
          zd_2 (zf_X11_fails v15 v17 (0 : Int32) wa (2 : Int32)) (fun v19 v20 =>
          some (v15, v16, v17, v18, v19, v20))
        else
          some (v15, v16, v17, v18, (0 : Int32), wa))) (fun v21 v22 v23 v24 v25 v26 => pr_t1 n p1 all rt rd v21 v22 v23 v24 v25 v26 a2))))
theorem pr_cliff_t {n : Nat} {thrown tp at1 be sz rk nu wr wa fk fp rd p1 : Int32} {all rt fresh : Nat → Int32} : zf_X11_cliff n thrown tp at1 be sz rk nu wr wa fk fp rd all rt fresh p1 = zd_1 (zf_X11_within (Int32.toInt64 p1) (0 : Int64) (Int32.toInt64 tp)) (fun v1 =>
  if v1 = 0 then
    some ((-3 : Int32), (0 : Int32), tp, at1, be, sz, rk, nu, wr, wa, fk, fp, rd, all, fresh)
  else pr_t0 n p1 all rt rd at1 rk nu wa fresh) := rfl
def pr_bd (o : Option (Int32 × Int32 × Int32 × Int32 × Int32 × Int32 × Int32 × Int32 × Int32 × Int32 × Int32 × Int32 × Int32 × (Nat → Int32) × (Nat → Int32))) (wr wa : Int32) (all : Nat → Int32) : Prop := ∃ at1 be sz rk nu rd fr, o = some ((-30 : Int32) - wr, 0, 0, at1, be, sz, rk, nu, wr, wa, wr, wa, rd, all, fr)
section PTx
variable {n : Nat} {p1 rd at1 be rk nu wr wa : Int32} {all rt fr : Nat → Int32}
theorem pr_t5W (hn : 1 ≤ n) (h : ¬ wr = 0) : pr_bd (pr_t5 n p1 all rt rd at1 be rk nu wr wa fr) wr wa all := by
  obtain ⟨m, rfl⟩ := Nat.exists_eq_add_of_le' hn
  have e : za_it (fun v => zb_X11_cliff_117 (m + 1) p1 rt v.1 v.2.1 v.2.2.1 v.2.2.2.1 v.2.2.2.2.1 v.2.2.2.2.2.1 v.2.2.2.2.2.2.1 v.2.2.2.2.2.2.2) (m + 1) (at1, be, rk, nu, wr, wa, rd, fr) = some (1, at1, be, rk, nu, wr, wa, rd, fr) := by
    show (zb_X11_cliff_117 (m + 1) p1 rt at1 be rk nu wr wa rd fr).bind _ = _
    unfold zb_X11_cliff_117
    rw [if_neg h]; rfl
  unfold pr_t5
  rw [e, pu_e9, if_neg h, pu_e1, if_neg h]
  exact ⟨_, _, _, _, _, _, _, rfl⟩
theorem pr_t4W (hn : 1 ≤ n) (h : ¬ wr = 0) : pr_bd (pr_t4 n p1 all rt rd at1 be rk nu wr wa fr) wr wa all := by
  unfold pr_t4
  rw [pr_closesW h, pu_e7]
  exact pr_t5W hn h
theorem pr_t3W (hn : 1 ≤ n) (h : ¬ wr = 0) : pr_bd (pr_t3 n p1 all rt rd at1 be rk nu wr wa fr) wr wa all := by
  unfold pr_t3
  rw [pr_takesW h, pu_e7, pv_st 2 (by omega) (by omega), pu_e1]
  exact pr_t4W hn h
theorem pr_t2W (hn : 1 ≤ n) (h : ¬ wr = 0) : pr_bd (pr_t2 n p1 all rt rd at1 be rk nu wr wa fr) wr wa all := by
  unfold pr_t2
  rw [pr_eatsW h, pu_e5, if_pos rfl, pr_failsW h, pu_e2, pu_e2]
  exact pr_t3W hn h
theorem pr_t1W (hn : 1 ≤ n) (h : ¬ wr = 0) : pr_bd (pr_t1 n p1 all rt rd at1 be rk nu wr wa fr) wr wa all := by
  unfold pr_t1
  rw [pr_takesW h, pu_e7, pv_st 1 (by omega) (by omega), pu_e1]
  exact pr_t2W hn h
end PTx
