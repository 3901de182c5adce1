/-! all stands that can be: a list that grows -/
def pm_add (L : List Nat) (t : Nat) : List Nat := if t ∈ L then L else L ++ [t]
def pm_adds (L : List Nat) (ts : List Nat) : List Nat := ts.foldl pm_add L
def pm_B (tg : Nat → Nat → List Nat) (s0 : Nat) : Nat → List Nat
  | 0 => [s0]
  | c + 1 => if c / 15 < (pm_B tg s0 c).length then pm_adds (pm_B tg s0 c) (tg ((pm_B tg s0 c).getD (c / 15) 0) (c % 15)) else pm_B tg s0 c
theorem pm_add_app (L : List Nat) (t : Nat) : ∃ r, pm_add L t = L ++ r := by
  unfold pm_add
  split
  · exact ⟨[], by simp⟩
  · exact ⟨[t], rfl⟩
theorem pm_adds_app : ∀ (ts L : List Nat), ∃ r, pm_adds L ts = L ++ r := by
  intro ts
  induction ts with
  | nil => intro L; exact ⟨[], by simp [pm_adds]⟩
  | cons t ts ih =>
    intro L
    obtain ⟨r1, h1⟩ := pm_add_app L t
    obtain ⟨r2, h2⟩ := ih (pm_add L t)
    refine ⟨r1 ++ r2, ?_⟩
    show pm_adds (pm_add L t) ts = _
    rw [h2, h1, List.append_assoc]
theorem pm_add_mem {L : List Nat} {t x : Nat} : x ∈ pm_add L t ↔ x ∈ L ∨ x = t := by
  unfold pm_add
  split
  · constructor
    · exact Or.inl
    · rintro (h | rfl)
      · exact h
      · assumption
  · simp
theorem pm_adds_mem {x : Nat} : ∀ {ts L : List Nat}, x ∈ pm_adds L ts ↔ x ∈ L ∨ x ∈ ts := by
  intro ts
  induction ts with
  | nil => intro L; simp [pm_adds]
  | cons t ts ih =>
    intro L
    show x ∈ pm_adds (pm_add L t) ts ↔ _
    rw [ih, pm_add_mem]
    simp [or_assoc]
theorem pm_add_nd {L : List Nat} {t : Nat} (h : L.Nodup) : (pm_add L t).Nodup := by
  unfold pm_add
  split
  · exact h
  · rw [List.nodup_append]
    refine ⟨h, by simp, ?_⟩
    intro a ha b hb e
    have : b = t := by simpa using hb
    subst this
    subst e
    contradiction
theorem pm_adds_nd : ∀ {ts L : List Nat}, L.Nodup → (pm_adds L ts).Nodup := by
  intro ts
  induction ts with
  | nil => intro L h; exact h
  | cons t ts ih => intro L h; exact ih (pm_add_nd h)
theorem pm_B_app1 (tg : Nat → Nat → List Nat) (s0 c : Nat) : ∃ r, pm_B tg s0 (c + 1) = pm_B tg s0 c ++ r := by
  show ∃ r, (if c / 15 < (pm_B tg s0 c).length then pm_adds (pm_B tg s0 c) (tg ((pm_B tg s0 c).getD (c / 15) 0) (c % 15)) else pm_B tg s0 c) = pm_B tg s0 c ++ r
  split
  · exact pm_adds_app _ _
  · exact ⟨[], by simp⟩
theorem pm_B_app (tg : Nat → Nat → List Nat) (s0 c : Nat) : ∀ d, ∃ r, pm_B tg s0 (c + d) = pm_B tg s0 c ++ r := by
  intro d
  induction d with
  | zero => exact ⟨[], by simp⟩
  | succ d ih =>
    obtain ⟨r1, h1⟩ := ih
    obtain ⟨r2, h2⟩ := pm_B_app1 tg s0 (c + d)
    exact ⟨r1 ++ r2, by rw [← Nat.add_assoc, h2, h1, List.append_assoc]⟩
theorem pm_B_nd (tg : Nat → Nat → List Nat) (s0 : Nat) : ∀ c, (pm_B tg s0 c).Nodup := by
  intro c
  induction c with
  | zero => show [s0].Nodup; simp
  | succ c ih =>
    show (if c / 15 < (pm_B tg s0 c).length then pm_adds (pm_B tg s0 c) (tg ((pm_B tg s0 c).getD (c / 15) 0) (c % 15)) else pm_B tg s0 c).Nodup
    split
    · exact pm_adds_nd ih
    · exact ih
theorem pm_getD_mem {L : List Nat} {i : Nat} (h : i < L.length) : L.getD i 0 ∈ L := by
  rw [List.getD_eq_getElem?_getD, List.getElem?_eq_getElem h]
  exact List.getElem_mem h
theorem pm_B_P {P : Nat → Prop} {tg : Nat → Nat → List Nat} {s0 : Nat} (h0 : P s0) (hP : ∀ s m, P s → m < 15 → ∀ t ∈ tg s m, P t) : ∀ c, ∀ t ∈ pm_B tg s0 c, P t := by
  intro c
  induction c with
  | zero => intro t ht; have : t = s0 := by simpa [pm_B] using ht
            subst this; exact h0
  | succ c ih =>
    intro t ht
    have ht' : t ∈ (if c / 15 < (pm_B tg s0 c).length then pm_adds (pm_B tg s0 c) (tg ((pm_B tg s0 c).getD (c / 15) 0) (c % 15)) else pm_B tg s0 c) := ht
    split at ht'
    · rename_i hlen
      rcases pm_adds_mem.mp ht' with h | h
      · exact ih t h
      · exact hP _ _ (ih _ (pm_getD_mem hlen)) (Nat.mod_lt _ (by omega)) t h
    · exact ih t ht'
theorem pm_pig {L : List Nat} {n : Nat} (h : L.Nodup) (hL : ∀ t ∈ L, t < n) : L.length ≤ n := by
  have := h.length_le_of_subset (l₂ := List.range n) (fun t ht => List.mem_range.mpr (hL t ht))
  simpa using this
theorem pm_B_stuck {tg : Nat → Nat → List Nat} {s0 c : Nat} (h : (pm_B tg s0 c).length ≤ c / 15) : ∀ d, pm_B tg s0 (c + d) = pm_B tg s0 c := by
  intro d
  induction d with
  | zero => rfl
  | succ d ih =>
    show (if (c + d) / 15 < (pm_B tg s0 (c + d)).length then _ else pm_B tg s0 (c + d)) = _
    rw [ih, if_neg]
    have : c / 15 ≤ (c + d) / 15 := Nat.div_le_div_right (by omega)
    omega
theorem pm_B_len (tg : Nat → Nat → List Nat) (s0 c d : Nat) : (pm_B tg s0 c).length ≤ (pm_B tg s0 (c + d)).length := by
  obtain ⟨r, h⟩ := pm_B_app tg s0 c d
  rw [h]; simp
theorem pm_B_pos (tg : Nat → Nat → List Nat) (s0 c : Nat) : 1 ≤ (pm_B tg s0 c).length := by
  have := pm_B_len tg s0 0 c
  rw [Nat.zero_add] at this
  exact this
theorem pm_B_get {tg : Nat → Nat → List Nat} {s0 c i : Nat} (d : Nat) (h : i < (pm_B tg s0 c).length) : (pm_B tg s0 (c + d)).getD i 0 = (pm_B tg s0 c).getD i 0 := by
  obtain ⟨r, hr⟩ := pm_B_app tg s0 c d
  rw [hr, List.getD_eq_getElem?_getD, List.getD_eq_getElem?_getD, List.getElem?_append_left h]
/-- the whole list -/
noncomputable def pm_N : Nat := Classical.choose (⟨43200, rfl⟩ : ∃ n : Nat, n = 43200)
theorem pm_N_eq : pm_N = 43200 := Classical.choose_spec (⟨43200, rfl⟩ : ∃ n : Nat, n = 43200)
noncomputable def pm_F (tg : Nat → Nat → List Nat) (s0 : Nat) : List Nat := pm_B tg s0 pm_N
theorem pm_F_def (tg : Nat → Nat → List Nat) (s0 : Nat) : pm_F tg s0 = pm_B tg s0 43200 := by unfold pm_F; rw [pm_N_eq]
theorem pm_F_eq {tg : Nat → Nat → List Nat} {s0 k : Nat} (hk : k ≤ 2880) (h : (pm_B tg s0 (15 * k)).length ≤ k) : pm_B tg s0 (15 * k) = pm_F tg s0 := by
  have := pm_B_stuck (tg := tg) (s0 := s0) (c := 15 * k) (by omega) (43200 - 15 * k)
  rw [pm_F_def]
  rw [show 43200 = 15 * k + (43200 - 15 * k) from by omega]
  exact this.symm
theorem pm_F_pre (tg : Nat → Nat → List Nat) (s0 : Nat) {c i : Nat} (hc : c ≤ 43200) (hi : i < (pm_B tg s0 c).length) : (pm_F tg s0).getD i 0 = (pm_B tg s0 c).getD i 0 ∧ i < (pm_F tg s0).length := by
  rw [pm_F_def]
  rw [show 43200 = c + (43200 - c) from by omega]
  exact ⟨pm_B_get _ hi, Nat.lt_of_lt_of_le hi (pm_B_len _ _ _ _)⟩
/-- one that is in the whole list is there when its turn comes -/
theorem pm_F_there {tg : Nat → Nat → List Nat} {s0 i c : Nat} (hi : i < (pm_F tg s0).length) (hc : 15 * i ≤ c) (hc2 : c ≤ 43200) : i < (pm_B tg s0 c).length := by
  have h1 : i < (pm_B tg s0 (15 * i)).length := by
    rcases Nat.lt_or_ge i (pm_B tg s0 (15 * i)).length with h | h
    · exact h
    · exfalso
      have h2 := pm_B_stuck (tg := tg) (s0 := s0) (c := 15 * i) (by omega) (43200 - 15 * i)
      rw [show 15 * i + (43200 - 15 * i) = 43200 from by omega] at h2
      rw [pm_F_def] at hi
      rw [h2] at hi
      omega
  have := pm_B_len tg s0 (15 * i) (c - 15 * i)
  rw [show 15 * i + (c - 15 * i) = c from by omega] at this
  omega
theorem pm_B_step {tg : Nat → Nat → List Nat} {s0 i m : Nat} (hm : m < 15) (h : i < (pm_B tg s0 (15 * i + m)).length) : pm_B tg s0 (15 * i + m + 1) = pm_adds (pm_B tg s0 (15 * i + m)) (tg ((pm_B tg s0 (15 * i + m)).getD i 0) m) := by
  show (if (15 * i + m) / 15 < (pm_B tg s0 (15 * i + m)).length then pm_adds (pm_B tg s0 (15 * i + m)) (tg ((pm_B tg s0 (15 * i + m)).getD ((15 * i + m) / 15) 0) ((15 * i + m) % 15)) else pm_B tg s0 (15 * i + m)) = _
  rw [show (15 * i + m) / 15 = i from by omega, show (15 * i + m) % 15 = m from by omega, if_pos h]
theorem pm_F_closed {tg : Nat → Nat → List Nat} {s0 i m t : Nat} (hi : i < (pm_F tg s0).length) (hi2 : i < 2880) (hm : m < 15) (ht : t ∈ tg ((pm_F tg s0).getD i 0) m) : t ∈ pm_F tg s0 := by
  have h1 := pm_F_there hi (c := 15 * i + m) (by omega) (by omega)
  have h2 := (pm_F_pre tg s0 (c := 15 * i + m) (by omega) h1).1
  rw [h2] at ht
  have h3 : t ∈ pm_B tg s0 (15 * i + m + 1) := by
    rw [pm_B_step hm h1]
    exact pm_adds_mem.mpr (Or.inr ht)
  have h4 := pm_B_app tg s0 (15 * i + m + 1) (43200 - (15 * i + m + 1))
  rw [show 15 * i + m + 1 + (43200 - (15 * i + m + 1)) = 43200 from by omega] at h4
  obtain ⟨r, hr⟩ := h4
  rw [pm_F_def]
  rw [hr]
  exact List.mem_append_left _ h3
theorem pm_F_0 (tg : Nat → Nat → List Nat) (s0 : Nat) : (pm_F tg s0).getD 0 0 = s0 ∧ 0 < (pm_F tg s0).length := by
  have := pm_F_pre tg s0 (c := 0) (i := 0) (by omega) (by show 0 < 1; omega)
  exact this
theorem pm_mem_get {L : List Nat} {t : Nat} (h : t ∈ L) : ∃ i, i < L.length ∧ L.getD i 0 = t := by
  obtain ⟨i, hi, e⟩ := List.mem_iff_getElem.mp h
  refine ⟨i, hi, ?_⟩
  rw [List.getD_eq_getElem?_getD, List.getElem?_eq_getElem hi]
  exact e
theorem pm_nd_inj {L : List Nat} (h : L.Nodup) {i j : Nat} (hi : i < L.length) (hj : j < L.length) (e : L.getD i 0 = L.getD j 0) : i = j := by
  rw [List.getD_eq_getElem?_getD, List.getD_eq_getElem?_getD, List.getElem?_eq_getElem hi, List.getElem?_eq_getElem hj] at e
  have e' : L[i] = L[j] := e
  rcases Nat.lt_trichotomy i j with c | c | c
  · exact absurd e' (List.pairwise_iff_getElem.mp h i j hi hj c)
  · exact c
  · exact absurd e'.symm (List.pairwise_iff_getElem.mp h j i hj hi c)
/-! the targets: what the class and the reference look at -/
def pm_tg (q : Nat → Nat) (w s m : Nat) : List Nat := if pm_wy q w s m = 0 then [pm_ac q w s m] else []
def pm_gust (s : Nat) : Nat := if s % 5 = 0 then s else s - 1
def pm_tgm (q : Nat → Nat) (w s m : Nat) : List Nat := if pm_wy q w s m = 0 then (if m = 1 then [pm_ac q w s m, pm_gust (pm_ac q w s m), pm_ac q w s m - 320] else [pm_ac q w s m]) else []
theorem pm_gust_st {q : Nat → Nat} {s : Nat} (h : pm_st q s) : pm_st q (pm_gust s) := by
  unfold pm_gust
  split
  · exact h
  · obtain ⟨h1, h2⟩ := h
    constructor
    · unfold pm_rg at h1 ⊢; omega
    · have : pm_hs (s - 1) = pm_hs s := by unfold pm_hs; omega
      rw [this]; exact h2
theorem pm_tg_st {q : Nat → Nat} {w : Nat} (hq : pm_cliff q) : ∀ s m, pm_st q s → m < 15 → ∀ t ∈ pm_tg q w s m, pm_st q t := by
  intro s m hs hm t ht
  unfold pm_tg at ht
  by_cases c : pm_wy q w s m = 0
  · rw [if_pos c] at ht
    have : t = pm_ac q w s m := by simpa using ht
    subst this
    exact pm_acst hq hs hm c
  · rw [if_neg c] at ht; cases ht
theorem pm_tgm_st {q : Nat → Nat} {w : Nat} (hq : pm_cliff q) : ∀ s m, pm_st q s → m < 15 → ∀ t ∈ pm_tgm q w s m, pm_st q t := by
  intro s m hs hm t ht
  unfold pm_tgm at ht
  by_cases c : pm_wy q w s m = 0
  · rw [if_pos c] at ht
    have h1 := pm_acst hq hs hm c
    by_cases c2 : m = 1
    · rw [if_pos c2] at ht
      have h3 : t = pm_ac q w s m ∨ t = pm_gust (pm_ac q w s m) ∨ t = pm_ac q w s m - 320 := by simpa using ht
      rcases h3 with h3 | h3 | h3
      · rw [h3]; exact h1
      · rw [h3]; exact pm_gust_st h1
      · rw [h3]
        obtain ⟨e, e1, e2, e3, i1, _⟩ := pm_acp hq hs hm c
        have hp := pm_p6 hq.2.1
        subst c2
        obtain ⟨h4, h5⟩ := h1
        constructor
        · unfold pm_rg at h4 ⊢; omega
        · have h6 : 320 ≤ pm_ac q w s 1 := by
            rw [e]; unfold pm_sd; simp; omega
          have : pm_hs (pm_ac q w s 1 - 320) = pm_hs (pm_ac q w s 1) := by unfold pm_hs; omega
          rw [this]; exact h5
    · rw [if_neg c2] at ht
      have : t = pm_ac q w s m := by simpa using ht
      subst this
      exact h1
  · rw [if_neg c] at ht; cases ht
theorem pm_F_st {q : Nat → Nat} {tg : Nat → Nat → List Nat} {s0 : Nat} (h0 : pm_st q s0) (hP : ∀ s m, pm_st q s → m < 15 → ∀ t ∈ tg s m, pm_st q t) (c : Nat) : ∀ t ∈ pm_B tg s0 c, pm_st q t := pm_B_P h0 hP c
theorem pm_F_len {q : Nat → Nat} {tg : Nat → Nat → List Nat} {s0 : Nat} (hq : pm_cliff q) (h0 : pm_st q s0) (hP : ∀ s m, pm_st q s → m < 15 → ∀ t ∈ tg s m, pm_st q t) (c : Nat) : (pm_B tg s0 c).length ≤ 2880 :=
  pm_pig (pm_B_nd tg s0 c) (fun t ht => pm_st_lt hq (pm_B_P h0 hP c t ht))
