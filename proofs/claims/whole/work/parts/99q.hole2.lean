/-! the line of a hole, whole -/
def pr_hol (n : Nat) (f_size v1 v2 v3 v4 wr wa : Int32) (b_tape b_fresh : Nat → Int32) : Option (Int32 × Int32 × Int32 × Int32 × Int32 × Int32 × (Nat → Int32)) :=
  zd_1 (za_ld b_fresh 994 (1 : Int32)) (fun v5 =>
  zd_7 (zf_X11_takes n v1 v2 f_size v3 v4 wr wa b_tape (0 : Int32) v5) (fun v6 v7 v8 v9 v10 v11 v12 =>
  zd_8 (za_it (fun v => zb_X11_readHole_16 n f_size b_tape v6 v.1 v.2.1 v.2.2.1 v.2.2.2.1 v.2.2.2.2.1 v.2.2.2.2.2.1 v.2.2.2.2.2.2) n (v7, v8, v9, v10, v11, v12, b_fresh)) (fun g35 v28 v29 v30 v31 v32 v33 a34 =>
  some (v28, v29, v30, v31, v32, v33, a34))))
section PHp
variable {n sz : Nat} {B : Nat → Nat} {ct rt : Nat → Int32}
theorem pp_hole3 {a top T : Nat} {st en ki va fa pl at1 be rk nu wa : Int32} {F0 bars gives rough fresh : Nat → Int32} (hn : 1000 ≤ n) (hx : pp_tx B sz ct rt) (hta : pp_ta B sz a st en ki va at1 be rk nu) (htop : top ≤ 8) (hT : T ≤ 6) (hf1 : F0 1 = nI top) (hf2 : F0 2 = nI T) (hH : pp_H T F0 bars gives rough fresh) :
    ∃ g st' en' ki' va' f p bars' gives' rough' at' be' rk' nu' wr wa' fresh', zf_X5_readHole n (nI sz) st en ki va fa pl ct (nI top) (nI T) bars gives rough = some (g, st', en', ki', va', f, p, bars', gives', rough') ∧ pr_hol n (nI sz) at1 be rk nu 0 wa rt fresh = some (at', be', rk', nu', wr, wa', fresh') ∧ ((g = 1 ∧ wr = 0 ∧ f = fa ∧ p = pl ∧ ∃ a', a < a' ∧ pp_ta B sz a' st' en' ki' va' at' be' rk' nu' ∧ pp_H T F0 bars' gives' rough' fresh') ∨ (g = 0 ∧ ¬ wr = 0 ∧ f = wr ∧ p = wa')) := by
  have h9 := hx.1
  unfold zf_X5_readHole pr_hol
  rw [pv_ld 1 (by omega) (by omega), pu_e1, hH.2 1 (by omega), hf1]
  rcases pp_num (fa := fa) (pl := pl) (wa := wa) (p1 := (0 : Int32)) (p2 := nI top) hn hx hta with ⟨r, st3, en3, ki3, va3, at3, be3, rk3, nu3, a3, v1, v2, v3, e1, e2, e3, e4⟩ | ⟨f, w, f2, f3⟩
  rotate_left
  · rw [f2, f3, pu_e7, pu_e7, if_pos rfl, pu_e1]
    rw [pu_it1 (b := fun v => zb_X5_readHole_26 n (nI sz) ct (-1) (nI T) v.1 v.2.1 v.2.2.1 v.2.2.2.1 v.2.2.2.2.1 v.2.2.2.2.2.1 v.2.2.2.2.2.2.1 v.2.2.2.2.2.2.2.1 v.2.2.2.2.2.2.2.2.1 v.2.2.2.2.2.2.2.2.2.1 v.2.2.2.2.2.2.2.2.2.2) (r := (2, 0, 0, st, en, ki, va, f, at1, rough, gives, bars)) (by omega) (by unfold zb_X5_readHole_26; rw [if_neg (show ¬ (900 : Int32) ≤ 0 by decide), if_pos rfl]) (fun z => Nat.noConfusion z)]
    rw [pu_it1 (b := fun v => zb_X11_readHole_16 n (nI sz) rt nu v.1 v.2.1 v.2.2.1 v.2.2.2.1 v.2.2.2.2.1 v.2.2.2.2.2.1 v.2.2.2.2.2.2) (r := (1, at1, be, rk, nu, f, at1, fresh)) (by omega) (by unfold zb_X11_readHole_16; rw [if_neg w]) (fun z => Nat.noConfusion z)]
    rw [pu_e12, pu_e8, if_neg (by decide), if_pos rfl, show za_zb (0 : Int32) = some 0 from rfl, pu_e1]
    exact ⟨_, _, _, _, _, _, _, _, _, _, _, _, _, _, _, _, _, rfl, rfl, Or.inr ⟨rfl, w, rfl, rfl⟩⟩
  rw [pn_toInt (by omega)] at v3
  rw [e1, e2, pu_e7, pu_e7, if_neg (fun z => (pn_ne1 (a := r) (by omega)).mp z), pu_e1]
  obtain ⟨r1, r2, t1, t2, t3⟩ := pp_flags (n := n) (a := a3) (T := T) (r := r) (fa := fa) (pl := pl) (wa := wa) hn hx hT (by omega) hf2 (by omega) e4 hH
  rw [t1, t2]
  obtain ⟨b0, b1, b2, b3, b4, b5, b6, b7, b8, b9, b10, b11⟩ := r1
  obtain ⟨c0, c1, c2, c3, c4, c5, c6, c7⟩ := r2
  rw [pu_e12, pu_e8]
  dsimp only at t3
  rcases t3 with ⟨z0, z2, z3, z4, a', z5, z6, z7⟩ | ⟨z0, z1, z2, z3, z4⟩
  · rw [if_pos z0]
    exact ⟨_, _, _, _, _, _, _, _, _, _, _, _, _, _, _, _, _, rfl, rfl, Or.inl ⟨rfl, z2, z3, z4, a', by omega, z6, z7⟩⟩
  · rw [z0, if_neg (by decide), if_pos rfl, z1, show za_zb (0 : Int32) = some 0 from rfl, pu_e1]
    exact ⟨_, _, _, _, _, _, _, _, _, _, _, _, _, _, _, _, _, rfl, rfl, Or.inr ⟨rfl, z2, z3, z4⟩⟩
end PHp
