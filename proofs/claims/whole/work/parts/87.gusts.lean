/-! gusts withstood -/
def pm_re (q : Nat → Nat) (w r s : Nat) : Prop := ∃ k, pm_R q w (fun s => pm_rg s = r) k s
/-- a list that is closed, of gusts too -/
def pm_clm (q : Nat → Nat) (w : Nat) (F : List Nat) : Prop := pm_cl q w F ∧ (∀ s ∈ F, pm_st q s) ∧ F.length ≤ 2880 ∧ (∀ s ∈ F, pm_wy q w s 1 = 0 → pm_gust (pm_ac q w s 1) ∈ F ∧ pm_ac q w s 1 - 320 ∈ F)
theorem pm_clm_F {q : Nat → Nat} {w s0 : Nat} (hq : pm_cliff q) (h0 : pm_st q s0) : pm_clm q w (pm_F (pm_tgm q w) s0) ∧ s0 ∈ pm_F (pm_tgm q w) s0 := by
  have hP := pm_tgm_st (w := w) hq
  have hl : (pm_F (pm_tgm q w) s0).length ≤ 2880 := pm_F_len hq h0 hP pm_N
  have hF0 := pm_F_0 (pm_tgm q w) s0
  have hin : ∀ s ∈ pm_F (pm_tgm q w) s0, ∀ m, m < 15 → ∀ t ∈ pm_tgm q w s m, t ∈ pm_F (pm_tgm q w) s0 := by
    intro s hs m hm t ht
    obtain ⟨i, i1, i2⟩ := pm_mem_get hs
    exact pm_F_closed i1 (by omega) hm (by rw [i2]; exact ht)
  refine ⟨⟨⟨pm_B_nd _ _ _, ?_⟩, fun s hs => pm_B_P (P := pm_st q) h0 hP pm_N _ hs, hl, ?_⟩, ?_⟩
  · intro s hs m hm hc
    refine hin s hs m hm _ ?_
    unfold pm_tgm
    rw [if_pos hc]
    split
    · exact List.mem_cons_self
    · exact List.mem_singleton.mpr rfl
  · intro s hs hc
    constructor
    · refine hin s hs 1 (by omega) _ ?_
      unfold pm_tgm
      rw [if_pos hc, if_pos rfl]
      exact List.mem_cons_of_mem _ List.mem_cons_self
    · refine hin s hs 1 (by omega) _ ?_
      unfold pm_tgm
      rw [if_pos hc, if_pos rfl]
      exact List.mem_cons_of_mem _ (List.mem_cons_of_mem _ List.mem_cons_self)
  · have := pm_getD_mem hF0.2
    rw [hF0.1] at this
    exact this
section PGu
variable {n : Nat} {q : Nat → Nat} {w s0 r N : Nat} {F : List Nat}
/-- a gust takes no more than a rest gives back -/
theorem pm_re_gust {s : Nat} (hs : s < 2880) (h : pm_re q w r s) : pm_re q w r (pm_gust s) := by
  unfold pm_gust
  by_cases c : s % 5 = 0
  · rw [if_pos c]; exact h
  · rw [if_neg c]
    obtain ⟨k, hk⟩ := h
    refine ⟨k + 1, 0, by omega, by unfold pm_wy; rw [if_pos rfl], ?_⟩
    have e : pm_ac q w (s - 1) 0 = s := by
      unfold pm_ac
      rw [if_pos rfl, if_pos (by unfold pm_sg; omega)]; omega
    rw [e]; exact hk
def pr_SI (q : Nat → Nat) (w r N : Nat) (F : List Nat) (a : Nat → Int32) (z : Nat → Nat) : Prop := (∀ s ∈ F, a (2880 * N + s) = nI (1 - z s) ∧ z s ≤ 1 ∧ (z s = 0 → pm_re q w r s) ∧ (pm_rg s = r → z s = 0)) ∧ (∀ i, i < N → ∀ s ∈ F, (a (2880 * i + s) = 0 ∧ ¬ pm_re q w r s) ∨ (a (2880 * i + s) = 1 ∧ pm_re q w r s))
def pm_sb (q : Nat → Nat) (w r N : Nat) (z : Nat → Nat) (s m : Nat) : Prop := pm_wy q w s m = 0 ∧ z (pm_ac q w s m) = 0 ∧ (m = 1 → ¬ N = 0 → pm_re q w r (pm_gust (pm_ac q w s m)))
theorem pr_standsBy {th a : Nat → Int32} {z : Nat → Nat} {s m : Nat} (hq : pm_cliff q) (hF : pm_clm q w F) (hN : N < 10) (hs : s ∈ F) (hm : m < 15) (hth : th (15 * s + m) = pr_v q w s m) (hSI : pr_SI q w r N F a z) :
    pu_ok (zf_X11_standsBy th a (nI s) (nI m) (nI N)) (fun v => (v = 0 ∧ ¬ pm_sb q w r N z s m) ∨ (v = 1 ∧ pm_sb q w r N z s m)) := by
  have hlt := pm_st_lt hq (hF.2.1 s hs)
  unfold zf_X11_standsBy pm_sb
  rw [pv_mul 15, pn_add, pu_ld (by omega) (by omega), pu_e1, hth]
  unfold pr_v
  by_cases c : pm_wy q w s m = 0
  rotate_left
  · rw [if_neg c, if_pos (show pz_m1 = (-1 : Int32) from rfl)]
    exact pu_some.mpr (Or.inl ⟨rfl, fun z => c z.1⟩)
  have hin := hF.1.2 s hs m hm c
  have hacl := pm_st_lt hq (hF.2.1 _ hin)
  obtain ⟨g1, g2, g3, g4⟩ := hSI.1 _ hin
  rw [if_pos c, if_neg (fun z => (pn_ne1 (by omega)).mp z), pv_mul 2880, pn_add, pu_ld (by omega) (by omega), pu_e1, g1]
  by_cases cz : z (pm_ac q w s m) = 0
  rotate_left
  · have : z (pm_ac q w s m) = 1 := by omega
    rw [this, if_pos (by decide)]
    exact pu_some.mpr (Or.inl ⟨rfl, fun h => absurd h.2.1 (by omega)⟩)
  rw [cz, if_neg (by decide)]
  by_cases m1 : m = 1
  rotate_left
  · rw [if_neg (fun z => m1 ((pv_eq 1 (by omega) (by omega)).mp z))]
    exact pu_some.mpr (Or.inr ⟨rfl, c, rfl, fun h => absurd h m1⟩)
  rw [if_pos (by rw [m1]; rfl)]
  by_cases n0 : N = 0
  · rw [if_pos (by rw [n0]; rfl)]
    exact pu_some.mpr (Or.inr ⟨rfl, c, rfl, fun _ h => absurd n0 h⟩)
  rw [if_neg (fun z => n0 ((pv_eq 0 (by omega) (by omega)).mp z)), pr_gust hacl, pu_e1, pv_sub 1 (by omega), pv_mul 2880, pn_add]
  have hgin : pm_gust (pm_ac q w s m) ∈ F := by subst m1; exact (hF.2.2.2 s hs c).1
  have hgl := pm_st_lt hq (hF.2.1 _ hgin)
  rw [pu_ld (by omega) (by omega), pu_e1]
  rcases hSI.2 (N - 1) (by omega) _ hgin with ⟨h1, h2⟩ | ⟨h1, h2⟩
  · rw [h1, if_pos rfl]
    exact pu_some.mpr (Or.inl ⟨rfl, fun h => h2 (h.2.2 m1 n0)⟩)
  · rw [h1, if_neg (by decide)]
    exact pu_some.mpr (Or.inr ⟨rfl, c, rfl, fun _ _ => h2⟩)
theorem pr_SI_up {a : Nat → Int32} {z : Nat → Nat} {s m : Nat} (hq : pm_cliff q) (hF : pm_clm q w F) (hN : N < 10) (h : pr_SI q w r N F a z) (hs : s ∈ F) (hm : m < 15) (hsb : pm_sb q w r N z s m) : pr_SI q w r N F (va_up a (2880 * N + s) (1 : Int32)) (va_up z s 0) := by
  obtain ⟨h1, h2⟩ := h
  refine ⟨?_, ?_⟩
  · intro t ht
    by_cases d : t = s
    · subst d
      rw [pu_upe, pu_upe]
      refine ⟨rfl, by omega, fun _ => ?_, fun _ => rfl⟩
      obtain ⟨k, hk⟩ := (h1 _ (hF.1.2 t ht m hm hsb.1)).2.2.1 hsb.2.1
      exact ⟨k + 1, m, hm, hsb.1, hk⟩
    · rw [pu_upn (by omega), pu_upn d]
      exact h1 t ht
  · intro i hi t ht
    have hl1 := pm_st_lt hq (hF.2.1 t ht)
    rw [pu_upn (by omega)]
    exact h2 i hi t ht
def pr_SQ (q : Nat → Nat) (w r N : Nat) (F : List Nat) (z0 : Nat → Nat) (C : Prop) (flag : Int32) (a : Nat → Int32) : Prop := ∃ z, pr_SI q w r N F a z ∧ ((flag = 0 ∧ z = z0 ∧ C) ∨ (flag = 1 ∧ pm_sm z F < pm_sm z0 F))
theorem pr_stIn {stand th a : Nat → Int32} {many flag : Int32} {z0 : Nat → Nat} {k : Nat} {C : Prop} (hn : 1000 ≤ n) (hq : pm_cliff q) (hF : pm_clm q w F) (hN : N < 10) (hls : pr_ls q w F many stand th) (hk : k < F.length) (hQ : pr_SQ q w r N F z0 C flag a) :
    pu_ok (za_it (fun v => zb_X11_laysStood_75 stand (nI k) (nI N) th v.1 v.2.1 v.2.2) n (flag, (0 : Int32), a)) (fun x => pr_SQ q w r N F z0 (C ∧ ∀ m, m < 15 → ¬ z0 (F.getD k 0) = 0 → ¬ pm_sb q w r N z0 (F.getD k 0) m) x.2.1 x.2.2.2) := by
  have hl := hF.2.2.1
  have hmem := pm_getD_mem hk
  have hskE := hls.2.1 k hk
  have hlt := pm_st_lt hq (hF.2.1 _ hmem)
  generalize F.getD k 0 = s at hmem hskE hlt
  refine pu_up (fun m v => v.2.1 = nI m ∧ pr_SQ q w r N F z0 (C ∧ ∀ m', m' < m → ¬ z0 s = 0 → ¬ pm_sb q w r N z0 s m') v.1 v.2.2) 15 (by omega) ⟨rfl, ?_⟩ ?_
  · obtain ⟨z, f1, f2⟩ := hQ
    refine ⟨z, f1, ?_⟩
    rcases f2 with ⟨g1, g2, g3⟩ | g
    · exact Or.inl ⟨g1, g2, g3, fun m' h => absurd h (by omega)⟩
    · exact Or.inr g
  rintro m ⟨v19, v20, a21⟩ hm ⟨e1, z, f1, f2⟩
  dsimp only at e1 f1 f2 ⊢
  subst e1
  unfold zb_X11_laysStood_75
  by_cases hc : 15 ≤ m
  · rw [if_pos ((pv_le 15 (by omega) (by omega)).mpr hc)]
    refine pu_out (by decide) ⟨z, f1, ?_⟩
    rcases f2 with ⟨g1, g2, g3, g4⟩ | g
    · exact Or.inl ⟨g1, g2, g3, fun m' h => g4 m' (by omega)⟩
    · exact Or.inr g
  obtain ⟨i1, i2, i3, i4⟩ := f1.1 s hmem
  rw [if_neg (fun z => hc ((pv_le 15 (by omega) (by omega)).mp z)), pu_ld (by omega) (by omega), pu_e1, hskE, pv_mul 2880, pn_add, pu_ld (by omega) (by omega), pu_e1, i1]
  by_cases hz : z s = 0
  · rw [hz, if_neg (by decide)]
    refine pu_out (by decide) ⟨z, f1, ?_⟩
    rcases f2 with ⟨g1, g2, g3, g4⟩ | g
    · exact Or.inl ⟨g1, g2, g3, fun m' _ h => by rw [← g2] at h; exact absurd hz h⟩
    · exact Or.inr g
  have hz1 : z s = 1 := by omega
  rw [hz1, if_pos (by decide), pu_e1]
  refine pu_d1.mpr (pu_mono (pr_standsBy (th := th) hq hF hN hmem (by omega) (hls.2.2 s hmem m (by omega)) f1) ?_)
  intro v hv
  refine pu_d2.mpr (pu_mono (P := fun x => pr_SQ q w r N F z0 (C ∧ ∀ m', m' < m + 1 → ¬ z0 s = 0 → ¬ pm_sb q w r N z0 s m') x.1 x.2) ?_ ?_)
  · rcases hv with ⟨rfl, hv⟩ | ⟨rfl, hv⟩
    · rw [if_pos rfl]
      refine pu_some.mpr ⟨z, f1, ?_⟩
      rcases f2 with ⟨g1, g2, g3, g4⟩ | g
      · refine Or.inl ⟨g1, g2, g3, ?_⟩
        intro m' hm' h
        by_cases d : m' = m
        · subst d; rw [← g2]; exact hv
        · exact g4 m' (by omega) h
      · exact Or.inr g
    · rw [if_neg (by decide), pu_e1, pn_add, pu_st (by omega) (by omega), pu_e1]
      refine pu_some.mpr ⟨va_up z s 0, pr_SI_up hq hF hN f1 hmem (by omega) hv, Or.inr ⟨rfl, ?_⟩⟩
      have h5 := pm_sm_lt (fr := z) (s := s) (v := 0) (by omega) F hmem
      rcases f2 with ⟨g1, g2, g3, g4⟩ | ⟨g1, g2⟩
      · rw [← g2]; exact h5
      · omega
  · rintro ⟨v28, a29⟩ hQ2
    dsimp only at hQ2 ⊢
    rw [pn_a1, pu_e1]
    exact pu_go ⟨by omega, rfl, hQ2⟩
theorem pr_stPass {stand th a : Nat → Int32} {many : Int32} {z0 : Nat → Nat} (hn : 10000 ≤ n) (hq : pm_cliff q) (hF : pm_clm q w F) (hN : N < 10) (hls : pr_ls q w F many stand th) (hI : pr_SI q w r N F a z0) :
    pu_ok (za_it (fun v => zb_X11_laysStood_67 stand (nI N) th n v.1 v.2.1 v.2.2) n ((0 : Int32), nI F.length - (1 : Int32), a)) (fun x => pr_SQ q w r N F z0 (∀ i, i < F.length → ∀ m, m < 15 → ¬ z0 (F.getD i 0) = 0 → ¬ pm_sb q w r N z0 (F.getD i 0) m) x.2.1 x.2.2.2) := by
  have hl := hF.2.2.1
  refine pu_up (fun i v => v.2.1 = nI (F.length - i) - (1 : Int32) ∧ pr_SQ q w r N F z0 (∀ j, F.length - i ≤ j → j < F.length → ∀ m, m < 15 → ¬ z0 (F.getD j 0) = 0 → ¬ pm_sb q w r N z0 (F.getD j 0) m) v.1 v.2.2) F.length (by omega) ⟨(by dsimp only; rw [Nat.sub_zero]), z0, hI, Or.inl ⟨rfl, rfl, fun j h1 h2 => absurd h2 (by omega)⟩⟩ ?_
  rintro i ⟨v16, v17, a18⟩ hi ⟨e1, hQ⟩
  dsimp only at e1 hQ ⊢
  subst e1
  unfold zb_X11_laysStood_67
  by_cases hc : i = F.length
  · have hz : F.length - i = 0 := by omega
    rw [hz] at hQ ⊢
    rw [if_pos (by decide)]
    refine pu_out (by decide) ?_
    obtain ⟨z, f1, f2⟩ := hQ
    refine ⟨z, f1, ?_⟩
    rcases f2 with ⟨g1, g2, g3⟩ | g
    · exact Or.inl ⟨g1, g2, fun j h => g3 j (Nat.zero_le _) h⟩
    · exact Or.inr g
  have e2 : nI (F.length - i) - (1 : Int32) = nI (F.length - i - 1) := pv_sub 1 (by omega)
  rw [e2, if_neg (pn_nn (by omega))]
  refine pu_d4.mpr (pu_mono (pr_stIn (k := F.length - i - 1) (by omega) hq hF hN hls (by omega) hQ) ?_)
  rintro ⟨g34, v31, v32, a33⟩ hQ2
  dsimp only at hQ2 ⊢
  rw [pn_p1, pu_e1]
  refine pu_go ⟨by omega, by rw [Nat.sub_sub], ?_⟩
  obtain ⟨z, f1, f2⟩ := hQ2
  refine ⟨z, f1, ?_⟩
  rcases f2 with ⟨g1, g2, g3, g4⟩ | g
  · refine Or.inl ⟨g1, g2, ?_⟩
    intro j hj1 hj2 m hm
    by_cases d : j = F.length - i - 1
    · subst d; exact g4 m hm
    · exact g3 j (by omega) hj2 m hm
  · exact Or.inr g
theorem pr_laysStood {stand th a : Nat → Int32} {many : Int32} (hn : 100000 ≤ n) (hq : pm_cliff q) (hF : pm_clm q w F) (hN : N < 10) (hr : r < 100) (hls : pr_ls q w F many stand th) (hlo : ∀ i, i < N → ∀ s ∈ F, (a (2880 * i + s) = 0 ∧ ¬ pm_re q w r s) ∨ (a (2880 * i + s) = 1 ∧ pm_re q w r s)) :
    pu_ok (zf_X11_laysStood n many stand th a (nI r) (nI N)) (fun b => ∀ i, i < N + 1 → ∀ s ∈ F, (b (2880 * i + s) = 0 ∧ ¬ pm_re q w r s) ∨ (b (2880 * i + s) = 1 ∧ pm_re q w r s)) := by
  have hl := hF.2.2.1
  obtain ⟨hm, hS, hth⟩ := id hls
  unfold zf_X11_laysStood
  rw [hm]
  refine pu_d3.mpr (pu_up (fun i v => v.1 = nI i ∧ (∀ j, j < i → v.2 (2880 * N + F.getD j 0) = nI (if pm_rg (F.getD j 0) = r then 1 else 0)) ∧ (∀ i, i < N → ∀ s ∈ F, (v.2 (2880 * i + s) = 0 ∧ ¬ pm_re q w r s) ∨ (v.2 (2880 * i + s) = 1 ∧ pm_re q w r s))) F.length (by omega) ⟨rfl, fun s h => absurd h (by omega), hlo⟩ ?_)
  rintro i ⟨v1, a2⟩ hi ⟨e1, e2, e3⟩
  dsimp only at e1 e2 e3 ⊢
  subst e1
  unfold zb_X11_laysStood_2
  by_cases hc : F.length ≤ i
  rotate_left
  · have hst := hF.2.1 _ (pm_getD_mem (show i < F.length by omega))
    have hlt := pm_st_lt hq hst
    have hrg : pm_rg (F.getD i 0) < 9 := by unfold pm_rg; omega
    rw [if_neg (fun z => hc ((pn_le (by omega) (by omega)).mp z)), pu_ld (by omega) (by omega), pu_e1, pu_e1, hS i (by omega), pr_rungIn hlt, pu_e1]
    refine pu_d1.mpr (pu_mono (P := fun x => x = nI (if pm_rg (F.getD i 0) = r then 1 else 0)) ?_ ?_)
    · by_cases f : pm_rg (F.getD i 0) = r
      · rw [if_pos (by rw [f]), if_pos f]; exact pu_some.mpr rfl
      · rw [if_neg (fun z => f ((pn_eq (by omega) (by omega)).mp z)), if_neg f]; exact pu_some.mpr rfl
    · rintro x rfl
      rw [pu_zb (by split; exact Or.inr rfl; exact Or.inl rfl), pu_e1, pv_mul 2880, pn_add, pu_st (by omega) (by omega), pu_e1, pn_a1, pu_e1]
      refine pu_go ⟨by omega, rfl, ?_, ?_⟩
      · intro j hj
        dsimp only
        by_cases d : j = i
        · subst d; rw [pu_upe]
        · have hne : ¬ F.getD j 0 = F.getD i 0 := fun z => d (pm_nd_inj hF.1.1 (by omega) (by omega) z)
          rw [pu_upn (by omega)]
          exact e2 j (by omega)
      · intro i' hi' s hs
        have := pm_st_lt hq (hF.2.1 s hs)
        dsimp only
        rw [pu_upn (by omega)]
        exact e3 i' hi' s hs
  rw [if_pos ((pn_le (by omega) (by omega)).mpr hc)]
  refine pu_out (by decide) ?_
  dsimp only
  have hI0 : pr_SI q w r N F a2 (fun s => if pm_rg s = r then 0 else 1) := by
    refine ⟨?_, e3⟩
    intro s hs
    obtain ⟨j, j1, j2⟩ := pm_mem_get hs
    have h := e2 j (by omega)
    rw [j2] at h
    dsimp only
    by_cases f : pm_rg s = r
    · rw [if_pos f] at h ⊢
      exact ⟨h, by omega, fun _ => ⟨0, f⟩, fun _ => rfl⟩
    · rw [if_neg f] at h ⊢
      exact ⟨h, by omega, fun z => absurd z (by omega), fun z => absurd z f⟩
  generalize (fun s => if pm_rg s = r then 0 else 1) = z0 at hI0
  have hb0 := pm_sm_b (fr := z0) (b := 1) F (fun s hs' => (hI0.1 s hs').2.1)
  refine pu_d3.mpr (pu_dn (fun μ v => ∃ z, pr_SI q w r N F v.2 z ∧ ((v.1 = 0 ∧ μ = 2 * pm_sm z F ∧ ∀ i, i < F.length → ∀ m, m < 15 → ¬ z (F.getD i 0) = 0 → ¬ pm_sb q w r N z (F.getD i 0) m) ∨ (v.1 = 1 ∧ μ = 2 * pm_sm z F + 1))) (2 * pm_sm z0 F + 1) (by omega) ⟨z0, hI0, Or.inr ⟨rfl, rfl⟩⟩ ?_)
  rintro μ ⟨v13, a14⟩ ⟨z, f1, f2⟩
  dsimp only at f1 f2 ⊢
  unfold zb_X11_laysStood_53
  rcases f2 with ⟨z1, z2, f3⟩ | ⟨z1, z2⟩
  · subst z1
    rw [if_pos rfl]
    refine pu_out (by decide) (pu_some.mpr ?_)
    intro i' hi' s hs
    by_cases f : i' < N
    · exact f1.2 i' f s hs
    have : i' = N := by omega
    subst this
    have hcomp : ∀ k s, s ∈ F → pm_R q w (fun s => pm_rg s = r) k s → z s = 0 := by
      intro k
      induction k with
      | zero => intro s hs h; exact (f1.1 s hs).2.2.2 h
      | succ k ih =>
        intro s hs h
        obtain ⟨m, hm, hc2, h3⟩ := h
        by_cases hz : z s = 0
        · exact hz
        · exfalso
          have hin := hF.1.2 s hs m hm hc2
          obtain ⟨j, j1, j2⟩ := pm_mem_get hs
          have h4 := f3 j j1 m hm
          rw [j2] at h4
          refine h4 hz ⟨hc2, ih _ hin h3, fun _ _ => ?_⟩
          exact pm_re_gust (pm_st_lt hq (hF.2.1 _ hin)) ⟨k, h3⟩
    obtain ⟨i1, i2, i3, i4⟩ := f1.1 s hs
    by_cases hz : z s = 0
    · right
      refine ⟨?_, i3 hz⟩
      dsimp only
      rw [i1, hz]; rfl
    · left
      refine ⟨?_, fun ⟨k, hk⟩ => hz (hcomp k s hs hk)⟩
      dsimp only
      rw [i1, show z s = 1 from by omega]; rfl
  · subst z1
    rw [if_neg (by decide), pu_e1]
    refine pu_d4.mpr (pu_mono (pr_stPass (by omega) hq hF hN hls f1) ?_)
    rintro ⟨g39, v36, v37, a38⟩ ⟨z', f1', f2'⟩
    dsimp only at f1' f2' ⊢
    refine pu_go ?_
    rcases f2' with ⟨g1, g2, g3⟩ | ⟨g1, g2⟩
    · subst g2
      exact ⟨2 * pm_sm z' F, by omega, z', f1', Or.inl ⟨g1, rfl, g3⟩⟩
    · exact ⟨2 * pm_sm z' F + 1, by omega, z', f1', Or.inr ⟨g1, rfl⟩⟩
end PGu
section PGw
variable {n : Nat} {q : Nat → Nat} {w s0 : Nat} {top things tf tt mf mt : Int32} {bars gives rough code told fa sk : Nat → Int32}
theorem pp_withstands {all rk wds stand th known1 : Nat → Int32} {thrown many : Int32} {size known found : Int32} {deeds ends order depth from1 : Nat → Int32} {stood : Nat → Int32} {p1 : Int32} (hn : 100000 ≤ n) (ha : pr_all all q) (hq : pm_cliff q) (hw : q 40 = w) (hw9 : w ≤ 9) (hs : pm_now q = s0) (h0 : pm_st q s0) (hK : pc_K q top things tf tt mf mt bars gives rough code) (hT : pc_told q w told) (hC : pc_com q w s0 size known order depth from1) :
    ∃ v, pu_ok (zf_X10_withstands n top things tf tt mf mt bars gives rough code (nI s0) (nI w) told fa sk found deeds ends size known order depth from1 p1) (fun r => r.1 = v ∧ pc_told q w r.2.1 ∧ pc_com q w s0 r.2.2.2.2.2.2.2.1 r.2.2.2.2.2.2.2.2.1 r.2.2.2.2.2.2.2.2.2.1 r.2.2.2.2.2.2.2.2.2.2.1 r.2.2.2.2.2.2.2.2.2.2.2) ∧ pu_ok (zf_X11_withstands n thrown many all rk wds stand th known1 stood p1) (fun r => r.1 = v) := by
  have hq1 := hq.1
  obtain ⟨c, c1, c2, c3⟩ := pp_rung ha hq p1
  unfold zf_X10_withstands zf_X11_withstands
  rw [c2, pu_e1, hK.1, c1, pu_e1, ← hK.1]
  rcases c3 with rfl | ⟨rfl, r, rfl, hr⟩
  · refine ⟨(-2 : Int32), ?_, ?_⟩
    · rw [if_pos rfl]; exact pu_some.mpr ⟨rfl, hT, hC⟩
    · rw [if_pos rfl]; exact pu_some.mpr rfl
  have hcls : pu_ok (zf_X10_withstands n top things tf tt mf mt bars gives rough code (nI s0) (nI w) told fa sk found deeds ends size known order depth from1 (nI r)) (fun x => ((x.1 = 9 ∧ pm_re q w r s0) ∨ (x.1 = (-1 : Int32) ∧ ¬ pm_re q w r s0)) ∧ pc_told q w x.2.1 ∧ pc_com q w s0 x.2.2.2.2.2.2.2.1 x.2.2.2.2.2.2.2.2.1 x.2.2.2.2.2.2.2.2.2.1 x.2.2.2.2.2.2.2.2.2.2.1 x.2.2.2.2.2.2.2.2.2.2.2) := by
    unfold zf_X10_withstands
    rw [hK.1, c1, pu_e1, ← hK.1, if_neg (by decide)]
    refine pu_d11.mpr (pu_mono (pc_explore (by omega) hq hK hT hw9 h0 hC) ?_)
    rintro ⟨y1, y2, y3, y4, y5, y6, y7, y8, y9, y10, y11⟩ ⟨hX, hy1, hy2⟩
    dsimp only at hX hy1 hy2 ⊢
    refine pu_d1.mpr (pu_mono (pc_goal (t := 0) (by omega) hq h0 hX (show r < 100 by omega) (by omega)) ?_)
    intro v hv
    have hF0 := pm_F_0 (pm_tg q w) s0
    have hl := pm_L_len (w := w) hq h0
    rcases hv with ⟨j, hj, rfl⟩ | ⟨rfl, hno⟩
    · have hlt := pm_st_lt hq (pm_L_st (w := w) hq h0 hj.1)
      rw [if_neg (fun z => (pn_ne1 (by omega)).mp z)]
      refine pu_some.mpr ⟨Or.inl ⟨rfl, ?_⟩, hy2, Or.inr ⟨hy1, hX⟩⟩
      exact ⟨_, pm_R_up (q := q) (w := w) (s0 := s0) (G := fun s => pm_rg s = r) j hj.1 0 hj.2.1.1⟩
    · rw [if_pos rfl]
      refine pu_some.mpr ⟨Or.inr ⟨rfl, ?_⟩, hy2, Or.inr ⟨hy1, hX⟩⟩
      rintro ⟨k, hk⟩
      rw [← hF0.1] at hk
      obtain ⟨j, j1, j2, _⟩ := pm_R_in (q := q) (w := w) hq h0 k 0 hF0.2 hk
      exact hno j j1 ⟨j2, Nat.and_zero _⟩
  obtain ⟨x, hx, hx2, hx3⟩ := hcls
  unfold zf_X10_withstands at hx
  rw [hK.1, c1, pu_e1, ← hK.1] at hx
  refine ⟨x.1, ⟨x, hx, rfl, hx3⟩, ?_⟩
  rw [if_neg (by decide)]
  obtain ⟨hF, hs0⟩ := pm_clm_F (w := w) hq h0
  refine pu_d6.mpr (pu_mono (pr_laysStands (more := 1) (by omega) ha hq (by omega) (by rw [hs]; exact h0) (Or.inr rfl)) ?_)
  rintro ⟨x1, x2, x3, x4, x5, x6⟩ hls
  dsimp only at hls ⊢
  rw [pm_tgx1, hw, hs] at hls
  generalize pm_F (pm_tgm q w) s0 = F at hF hs0 hls
  have hlt0 := pm_st_lt hq h0
  refine pu_d4.mpr (pu_up (fun N v => v.2.1 = nI N ∧ ((pm_re q w r s0 ∧ 1 ≤ N → v.1 = nI (N - 1)) ∧ (¬ (pm_re q w r s0 ∧ 1 ≤ N) → v.1 = (-1 : Int32))) ∧ (∀ i, i < N → ∀ s ∈ F, (v.2.2 (2880 * i + s) = 0 ∧ ¬ pm_re q w r s) ∨ (v.2.2 (2880 * i + s) = 1 ∧ pm_re q w r s))) 10 (by omega) ⟨rfl, ⟨fun h => absurd h.2 (by omega), fun _ => rfl⟩, fun i h => absurd h (by omega)⟩ ?_)
  rintro N ⟨v8, v9, a10⟩ hN ⟨e1, e2, e3⟩
  dsimp only at e1 e2 e3 ⊢
  subst e1
  unfold zb_X11_withstands_25
  by_cases hcN : 10 ≤ N
  · have : N = 10 := by omega
    subst this
    rw [if_pos (by decide)]
    refine pu_out (by decide) (pu_some.mpr ?_)
    dsimp only
    rcases hx2 with ⟨h1, h2⟩ | ⟨h1, h2⟩
    · rw [h1, e2.1 ⟨h2, by omega⟩]; rfl
    · rw [h1, e2.2 (fun z => h2 z.1)]
  rw [if_neg (fun z => hcN ((pv_le 10 (by omega) (by omega)).mp z))]
  refine pu_d1.mpr (pu_mono (pr_laysStood hn hq hF (by omega) (by omega) hls e3) ?_)
  intro a11 ha11
  rw [pr_standNow ha, hs, pu_e1, pv_mul 2880, pn_add, pu_ld (by omega) (by omega), pu_e1]
  rcases ha11 N (by omega) s0 hs0 with ⟨h1, h2⟩ | ⟨h1, h2⟩
  · rw [h1, if_pos rfl, pu_e1, pn_a1, pu_e1]
    exact pu_go ⟨by omega, rfl, ⟨fun z => absurd z.1 h2, fun _ => e2.2 (fun z => h2 z.1)⟩, ha11⟩
  · rw [h1, if_neg (by decide), pu_e1, pn_a1, pu_e1]
    exact pu_go ⟨by omega, rfl, ⟨fun _ => rfl, fun z => absurd ⟨h2, by omega⟩ z⟩, ha11⟩
end PGw
