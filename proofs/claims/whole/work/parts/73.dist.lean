/-! how far it is: mathematics -/
def pm_R (q : Nat → Nat) (w : Nat) (G : Nat → Prop) : Nat → Nat → Prop
  | 0, s => G s
  | k + 1, s => ∃ m, m < 15 ∧ pm_wy q w s m = 0 ∧ pm_R q w G k (pm_ac q w s m)
theorem pm_tg_mem {q : Nat → Nat} {w s m t : Nat} : t ∈ pm_tg q w s m ↔ pm_wy q w s m = 0 ∧ t = pm_ac q w s m := by
  unfold pm_tg
  by_cases c : pm_wy q w s m = 0
  · rw [if_pos c]; simp [c]
  · rw [if_neg c]; simp [c]
section PD
variable {q : Nat → Nat} {w s0 : Nat} {G : Nat → Prop}
theorem pm_L_len (hq : pm_cliff q) (h0 : pm_st q s0) : (pm_F (pm_tg q w) s0).length ≤ 2880 := pm_F_len hq h0 (pm_tg_st hq) pm_N
theorem pm_L_st (hq : pm_cliff q) (h0 : pm_st q s0) {i : Nat} (hi : i < (pm_F (pm_tg q w) s0).length) : pm_st q ((pm_F (pm_tg q w) s0).getD i 0) := pm_B_P (P := pm_st q) h0 (pm_tg_st hq) pm_N _ (pm_getD_mem hi)
theorem pm_L_nd : (pm_F (pm_tg q w) s0).Nodup := pm_B_nd _ _ _
theorem pm_L_src {j : Nat} (h0 : 1 ≤ j) (h : j < (pm_F (pm_tg q w) s0).length) : pm_co (pm_tg q w) s0 j / 15 < j ∧ pm_co (pm_tg q w) s0 j % 15 < 15 ∧ pm_wy q w ((pm_F (pm_tg q w) s0).getD (pm_co (pm_tg q w) s0 j / 15) 0) (pm_co (pm_tg q w) s0 j % 15) = 0 ∧ (pm_F (pm_tg q w) s0).getD j 0 = pm_ac q w ((pm_F (pm_tg q w) s0).getD (pm_co (pm_tg q w) s0 j / 15) 0) (pm_co (pm_tg q w) s0 j % 15) := by
  obtain ⟨h1, h2, h3⟩ := pm_co_src h0 h
  obtain ⟨h4, h5⟩ := pm_tg_mem.mp h3
  exact ⟨h1, by omega, h4, h5⟩
theorem pm_L_tgt (hq : pm_cliff q) (h0 : pm_st q s0) {i m : Nat} (hi : i < (pm_F (pm_tg q w) s0).length) (hm : m < 15) (hc : pm_wy q w ((pm_F (pm_tg q w) s0).getD i 0) m = 0) : ∃ k, k < (pm_F (pm_tg q w) s0).length ∧ (pm_F (pm_tg q w) s0).getD k 0 = pm_ac q w ((pm_F (pm_tg q w) s0).getD i 0) m ∧ (k = 0 ∨ pm_co (pm_tg q w) s0 k ≤ 15 * i + m) :=
  pm_co_tgt hi (by have := pm_L_len (w := w) hq h0; omega) hm (pm_tg_mem.mpr ⟨hc, rfl⟩)
/-- a way from a stand of the list is one from the first -/
theorem pm_R_up : ∀ j, j < (pm_F (pm_tg q w) s0).length → ∀ k, pm_R q w G k ((pm_F (pm_tg q w) s0).getD j 0) → pm_R q w G (k + pm_de (pm_tg q w) s0 j) s0 := by
  intro j
  induction j using Nat.strongRecOn with
  | _ j ih =>
    intro hj k hk
    by_cases c : j = 0
    · subst c
      rw [(pm_F_0 _ s0).1] at hk
      exact hk
    · obtain ⟨h1, h2, h3, h4⟩ := pm_L_src (q := q) (w := w) (s0 := s0) (by omega) hj
      have := ih _ h1 (by omega) (k + 1) ⟨_, h2, h3, by rw [← h4]; exact hk⟩
      rw [pm_de_s (by omega) hj, show k + (pm_de (pm_tg q w) s0 (pm_co (pm_tg q w) s0 j / 15) + 1) = k + 1 + pm_de (pm_tg q w) s0 (pm_co (pm_tg q w) s0 j / 15) from by omega]
      exact this
/-- a way ends in the list, not farther than it is long -/
theorem pm_R_in (hq : pm_cliff q) (h0 : pm_st q s0) : ∀ k i, i < (pm_F (pm_tg q w) s0).length → pm_R q w G k ((pm_F (pm_tg q w) s0).getD i 0) → ∃ j, j < (pm_F (pm_tg q w) s0).length ∧ G ((pm_F (pm_tg q w) s0).getD j 0) ∧ pm_de (pm_tg q w) s0 j ≤ pm_de (pm_tg q w) s0 i + k := by
  intro k
  induction k with
  | zero => intro i hi h; exact ⟨i, hi, h, by omega⟩
  | succ k ih =>
    intro i hi h
    obtain ⟨m, hm, hc, h2⟩ := h
    obtain ⟨x, x1, x2, x3⟩ := pm_L_tgt (q := q) (w := w) hq h0 hi hm hc
    rw [← x2] at h2
    obtain ⟨j, j1, j2, j3⟩ := ih x x1 h2
    have := pm_de_tgt hi x1 hm x3
    exact ⟨j, j1, j2, by omega⟩
/-- what the reference lays: how far it is -/
def pm_far (q : Nat → Nat) (w : Nat) (F : List Nat) (G : Nat → Prop) (fr : Nat → Nat) : Prop :=
  (∀ s ∈ F, fr s ≤ 268435456 ∧ (fr s = 0 ↔ G s) ∧ (fr s < 268435456 → pm_R q w G (fr s) s)) ∧ (∀ s ∈ F, ∀ m, m < 15 → pm_wy q w s m = 0 → fr (pm_ac q w s m) < 268435456 → fr s ≤ fr (pm_ac q w s m) + 1)
theorem pm_far_le {fr : Nat → Nat} (hq : pm_cliff q) (h0 : pm_st q s0) (hf : pm_far q w (pm_F (pm_tg q w) s0) G fr) : ∀ k, k < 268435456 → ∀ i, i < (pm_F (pm_tg q w) s0).length → pm_R q w G k ((pm_F (pm_tg q w) s0).getD i 0) → fr ((pm_F (pm_tg q w) s0).getD i 0) ≤ k := by
  intro k
  induction k with
  | zero =>
    intro _ i hi h
    have := ((hf.1 _ (pm_getD_mem hi)).2.1).mpr h
    omega
  | succ k ih =>
    intro hk i hi h
    obtain ⟨m, hm, hc, h2⟩ := h
    obtain ⟨x, x1, x2, x3⟩ := pm_L_tgt (q := q) (w := w) hq h0 hi hm hc
    have h3 := ih (by omega) x x1 (by rw [x2]; exact h2)
    rw [x2] at h3
    have := hf.2 _ (pm_getD_mem hi) m hm hc (by omega)
    omega
/-- none: it is nowhere -/
theorem pm_far_none {fr : Nat → Nat} (hq : pm_cliff q) (h0 : pm_st q s0) (hf : pm_far q w (pm_F (pm_tg q w) s0) G fr) (hno : ∀ j, j < (pm_F (pm_tg q w) s0).length → ¬ G ((pm_F (pm_tg q w) s0).getD j 0)) : fr s0 = 268435456 := by
  have hF0 := pm_F_0 (pm_tg q w) s0
  have h1 := hf.1 _ (pm_getD_mem hF0.2)
  rw [hF0.1] at h1
  rcases Nat.lt_or_ge (fr s0) 268435456 with c | c
  · exfalso
    have h2 := h1.2.2 c
    rw [← hF0.1] at h2
    obtain ⟨j, j1, j2, _⟩ := pm_R_in (q := q) (w := w) hq h0 _ 0 hF0.2 h2
    exact hno j j1 j2
  · omega
/-- the first that fits is the nearest -/
theorem pm_far_de {fr : Nat → Nat} {j : Nat} (hq : pm_cliff q) (h0 : pm_st q s0) (hf : pm_far q w (pm_F (pm_tg q w) s0) G fr) (hj : j < (pm_F (pm_tg q w) s0).length) (hG : G ((pm_F (pm_tg q w) s0).getD j 0)) (hfi : ∀ i, i < j → ¬ G ((pm_F (pm_tg q w) s0).getD i 0)) : fr s0 = pm_de (pm_tg q w) s0 j := by
  have hF0 := pm_F_0 (pm_tg q w) s0
  have hl := pm_L_len (w := w) hq h0
  have hd := pm_de_le (tg := pm_tg q w) (s0 := s0) j hj
  have hR : pm_R q w G (pm_de (pm_tg q w) s0 j) s0 := by
    have := pm_R_up (q := q) (w := w) (s0 := s0) (G := G) j hj 0 hG
    rw [Nat.zero_add] at this; exact this
  have h1 : fr s0 ≤ pm_de (pm_tg q w) s0 j := by
    have := pm_far_le hq h0 hf (pm_de (pm_tg q w) s0 j) (by omega) 0 hF0.2 (by rw [hF0.1]; exact hR)
    rw [hF0.1] at this; exact this
  have h2 := hf.1 _ (pm_getD_mem hF0.2)
  rw [hF0.1] at h2
  have h3 := h2.2.2 (by omega)
  rw [← hF0.1] at h3
  obtain ⟨i, i1, i2, i3⟩ := pm_R_in (q := q) (w := w) hq h0 _ 0 hF0.2 h3
  have h4 : j ≤ i := by
    rcases Nat.lt_or_ge i j with c | c
    · exact absurd i2 (hfi i c)
    · exact c
  have h5 := pm_de_mono (tg := pm_tg q w) (s0 := s0) i i1 j h4
  rw [pm_de_0, hF0.1] at i3
  omega
/-- the way back -/
noncomputable def pm_anc (q : Nat → Nat) (w s0 j : Nat) : Nat → Nat
  | 0 => j
  | t + 1 => pm_co (pm_tg q w) s0 (pm_anc q w s0 j t) / 15
theorem pm_anc_de {j : Nat} (hj : j < (pm_F (pm_tg q w) s0).length) : ∀ t, t ≤ pm_de (pm_tg q w) s0 j → pm_anc q w s0 j t < (pm_F (pm_tg q w) s0).length ∧ pm_de (pm_tg q w) s0 (pm_anc q w s0 j t) + t = pm_de (pm_tg q w) s0 j := by
  intro t
  induction t with
  | zero => intro _; exact ⟨hj, rfl⟩
  | succ t ih =>
    intro h
    obtain ⟨h1, h2⟩ := ih (by omega)
    have hne : 1 ≤ pm_anc q w s0 j t := by
      rcases Nat.eq_zero_or_pos (pm_anc q w s0 j t) with c | c
      · rw [c, pm_de_0] at h2; omega
      · exact c
    have h3 := pm_L_src (q := q) (w := w) (s0 := s0) hne h1
    have h4 := pm_de_s (tg := pm_tg q w) (s0 := s0) hne h1
    show pm_co (pm_tg q w) s0 (pm_anc q w s0 j t) / 15 < _ ∧ pm_de (pm_tg q w) s0 (pm_co (pm_tg q w) s0 (pm_anc q w s0 j t) / 15) + (t + 1) = _
    exact ⟨by omega, by omega⟩
theorem pm_anc_pos {j t : Nat} (hj : j < (pm_F (pm_tg q w) s0).length) (h : t < pm_de (pm_tg q w) s0 j) : 1 ≤ pm_anc q w s0 j t := by
  obtain ⟨h1, h2⟩ := pm_anc_de (q := q) (w := w) (s0 := s0) hj t (by omega)
  rcases Nat.eq_zero_or_pos (pm_anc q w s0 j t) with c | c
  · rw [c, pm_de_0] at h2; omega
  · exact c
theorem pm_anc_R {j : Nat} (hj : j < (pm_F (pm_tg q w) s0).length) (hG : G ((pm_F (pm_tg q w) s0).getD j 0)) : ∀ t, t ≤ pm_de (pm_tg q w) s0 j → pm_R q w G t ((pm_F (pm_tg q w) s0).getD (pm_anc q w s0 j t) 0) := by
  intro t
  induction t with
  | zero => intro _; exact hG
  | succ t ih =>
    intro h
    have h1 := ih (by omega)
    have h2 := (pm_anc_de (q := q) (w := w) (s0 := s0) hj t (by omega)).1
    obtain ⟨h3, h4, h5, h6⟩ := pm_L_src (q := q) (w := w) (s0 := s0) (pm_anc_pos hj h) h2
    rw [h6] at h1
    exact ⟨_, h4, h5, h1⟩
/-- one with a way to the goal is as far as can be -/
theorem pm_far_lo {fr : Nat → Nat} {j : Nat} (hq : pm_cliff q) (h0 : pm_st q s0) (hf : pm_far q w (pm_F (pm_tg q w) s0) G fr) (hj : j < (pm_F (pm_tg q w) s0).length) (hG : G ((pm_F (pm_tg q w) s0).getD j 0)) (hfi : ∀ i, i < j → ¬ G ((pm_F (pm_tg q w) s0).getD i 0)) {x k : Nat} (hx : x < (pm_F (pm_tg q w) s0).length) (hk : k < 100000000) (hR : pm_R q w G k ((pm_F (pm_tg q w) s0).getD x 0)) : pm_de (pm_tg q w) s0 j ≤ k + pm_de (pm_tg q w) s0 x := by
  have hF0 := pm_F_0 (pm_tg q w) s0
  have h1 := pm_R_up (q := q) (w := w) (s0 := s0) x hx k hR
  have hl := pm_L_len (w := w) hq h0
  have hd := pm_de_le (tg := pm_tg q w) (s0 := s0) x hx
  have h2 := pm_far_le hq h0 hf (k + pm_de (pm_tg q w) s0 x) (by omega) 0 hF0.2 (by rw [hF0.1]; exact h1)
  rw [hF0.1, pm_far_de hq h0 hf hj hG hfi] at h2
  exact h2
/-- the way back goes through the first ones -/
theorem pm_anc_first {fr : Nat → Nat} {j : Nat} (hq : pm_cliff q) (h0 : pm_st q s0) (hf : pm_far q w (pm_F (pm_tg q w) s0) G fr) (hj : j < (pm_F (pm_tg q w) s0).length) (hG : G ((pm_F (pm_tg q w) s0).getD j 0)) (hfi : ∀ i, i < j → ¬ G ((pm_F (pm_tg q w) s0).getD i 0)) : ∀ t, t ≤ pm_de (pm_tg q w) s0 j → ∀ x, x < (pm_F (pm_tg q w) s0).length → pm_de (pm_tg q w) s0 x + t = pm_de (pm_tg q w) s0 j → pm_R q w G t ((pm_F (pm_tg q w) s0).getD x 0) → pm_anc q w s0 j t ≤ x := by
  have hl := pm_L_len (w := w) hq h0
  have hdj := pm_de_le (tg := pm_tg q w) (s0 := s0) j hj
  intro t
  induction t with
  | zero =>
    intro _ x hx _ hR
    show j ≤ x
    rcases Nat.lt_or_ge x j with c | c
    · exact absurd hR (hfi x c)
    · exact c
  | succ t ih =>
    intro ht x hx hd hR
    obtain ⟨m, hm, hc, h2⟩ := hR
    obtain ⟨k, k1, k2, k3⟩ := pm_L_tgt (q := q) (w := w) hq h0 hx hm hc
    rw [← k2] at h2
    have d1 := pm_de_tgt hx k1 hm k3
    have d2 := pm_far_lo hq h0 hf hj hG hfi k1 (k := t) (by omega) h2
    have h3 := ih (by omega) k k1 (by omega) h2
    have hp := pm_anc_pos (q := q) (w := w) (s0 := s0) (t := t) hj (by omega)
    have h4 := pm_co_le (tg := pm_tg q w) (s0 := s0) hp h3 k1
    have h5 := k3.resolve_left (by omega)
    show pm_co (pm_tg q w) s0 (pm_anc q w s0 j t) / 15 ≤ x
    omega
/-- the deed on the way -/
noncomputable def pm_wd1 (q : Nat → Nat) (w s0 j t : Nat) : Nat := pm_co (pm_tg q w) s0 (pm_anc q w s0 j t) % 15
theorem pm_wd1_at {j t : Nat} (hj : j < (pm_F (pm_tg q w) s0).length) (ht : t < pm_de (pm_tg q w) s0 j) : pm_wd1 q w s0 j t < 15 ∧ pm_wy q w ((pm_F (pm_tg q w) s0).getD (pm_anc q w s0 j (t + 1)) 0) (pm_wd1 q w s0 j t) = 0 ∧ pm_ac q w ((pm_F (pm_tg q w) s0).getD (pm_anc q w s0 j (t + 1)) 0) (pm_wd1 q w s0 j t) = (pm_F (pm_tg q w) s0).getD (pm_anc q w s0 j t) 0 := by
  have h2 := (pm_anc_de (q := q) (w := w) (s0 := s0) hj t (by omega)).1
  obtain ⟨h3, h4, h5, h6⟩ := pm_L_src (q := q) (w := w) (s0 := s0) (pm_anc_pos hj ht) h2
  exact ⟨h4, h5, h6.symm⟩
/-- by the class: the first deed that leads there -/
theorem pm_wd1_cls {j t m : Nat} (hq : pm_cliff q) (h0 : pm_st q s0) (hj : j < (pm_F (pm_tg q w) s0).length) (ht : t < pm_de (pm_tg q w) s0 j) (hm : m < 15) (hc : pm_wy q w ((pm_F (pm_tg q w) s0).getD (pm_anc q w s0 j (t + 1)) 0) m = 0) (he : pm_ac q w ((pm_F (pm_tg q w) s0).getD (pm_anc q w s0 j (t + 1)) 0) m = (pm_F (pm_tg q w) s0).getD (pm_anc q w s0 j t) 0) : pm_wd1 q w s0 j t ≤ m := by
  have h1 := (pm_anc_de (q := q) (w := w) (s0 := s0) hj (t + 1) (by omega)).1
  have h2 := (pm_anc_de (q := q) (w := w) (s0 := s0) hj t (by omega)).1
  obtain ⟨k, k1, k2, k3⟩ := pm_L_tgt (q := q) (w := w) hq h0 h1 hm hc
  rw [he] at k2
  have hk := pm_nd_inj (pm_L_nd (q := q) (w := w) (s0 := s0)) k1 h2 k2
  subst hk
  have hp := pm_anc_pos (q := q) (w := w) (s0 := s0) hj ht
  have h5 := k3.resolve_left (by omega)
  have h6 : pm_anc q w s0 j (t + 1) = pm_co (pm_tg q w) s0 (pm_anc q w s0 j t) / 15 := rfl
  unfold pm_wd1
  omega
/-- by the reference: the first deed that brings one nearer -/
theorem pm_wd1_ref {fr : Nat → Nat} {j t m : Nat} (hq : pm_cliff q) (h0 : pm_st q s0) (hf : pm_far q w (pm_F (pm_tg q w) s0) G fr) (hj : j < (pm_F (pm_tg q w) s0).length) (hG : G ((pm_F (pm_tg q w) s0).getD j 0)) (hfi : ∀ i, i < j → ¬ G ((pm_F (pm_tg q w) s0).getD i 0)) (ht : t < pm_de (pm_tg q w) s0 j) (hm : m < 15) (hc : pm_wy q w ((pm_F (pm_tg q w) s0).getD (pm_anc q w s0 j (t + 1)) 0) m = 0) (he : fr (pm_ac q w ((pm_F (pm_tg q w) s0).getD (pm_anc q w s0 j (t + 1)) 0) m) = t) : pm_wd1 q w s0 j t ≤ m := by
  have hl := pm_L_len (w := w) hq h0
  have hdj := pm_de_le (tg := pm_tg q w) (s0 := s0) j hj
  obtain ⟨h1, h1d⟩ := pm_anc_de (q := q) (w := w) (s0 := s0) hj (t + 1) (by omega)
  obtain ⟨k, k1, k2, k3⟩ := pm_L_tgt (q := q) (w := w) hq h0 h1 hm hc
  rw [← k2] at he
  have hR := (hf.1 _ (pm_getD_mem k1)).2.2 (by omega)
  rw [he] at hR
  have d1 := pm_de_tgt h1 k1 hm k3
  have d2 := pm_far_lo hq h0 hf hj hG hfi k1 (k := t) (by omega) hR
  have h3 := pm_anc_first hq h0 hf hj hG hfi t (by omega) k k1 (by omega) hR
  have hp := pm_anc_pos (q := q) (w := w) (s0 := s0) (t := t) hj (by omega)
  have h4 := pm_co_le (tg := pm_tg q w) (s0 := s0) hp h3 k1
  have h5 := k3.resolve_left (by omega)
  have h6 : pm_anc q w s0 j (t + 1) = pm_co (pm_tg q w) s0 (pm_anc q w s0 j t) / 15 := rfl
  unfold pm_wd1
  omega
theorem pm_anc_far {fr : Nat → Nat} {j t : Nat} (hq : pm_cliff q) (h0 : pm_st q s0) (hf : pm_far q w (pm_F (pm_tg q w) s0) G fr) (hj : j < (pm_F (pm_tg q w) s0).length) (hG : G ((pm_F (pm_tg q w) s0).getD j 0)) (hfi : ∀ i, i < j → ¬ G ((pm_F (pm_tg q w) s0).getD i 0)) (ht : t ≤ pm_de (pm_tg q w) s0 j) : fr ((pm_F (pm_tg q w) s0).getD (pm_anc q w s0 j t) 0) = t := by
  have hl := pm_L_len (w := w) hq h0
  have hdj := pm_de_le (tg := pm_tg q w) (s0 := s0) j hj
  obtain ⟨h1, h1d⟩ := pm_anc_de (q := q) (w := w) (s0 := s0) hj t ht
  have h2 := pm_far_le hq h0 hf t (by omega) _ h1 (pm_anc_R hj hG t ht)
  have h3 := (hf.1 _ (pm_getD_mem h1)).2.2 (by omega)
  have h4 := pm_far_lo hq h0 hf hj hG hfi h1 (by omega) h3
  omega
theorem pm_anc_d {j : Nat} (hj : j < (pm_F (pm_tg q w) s0).length) : pm_anc q w s0 j (pm_de (pm_tg q w) s0 j) = 0 := by
  obtain ⟨h1, h2⟩ := pm_anc_de (q := q) (w := w) (s0 := s0) hj (pm_de (pm_tg q w) s0 j) (Nat.le_refl _)
  rcases Nat.eq_zero_or_pos (pm_anc q w s0 j (pm_de (pm_tg q w) s0 j)) with c | c
  · exact c
  · have := pm_de_s (tg := pm_tg q w) (s0 := s0) c h1
    omega
end PD
