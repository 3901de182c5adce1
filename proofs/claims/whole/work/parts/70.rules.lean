/-! pure part: more rules -/
def pz_m1 : Int32 := -1
theorem ph_m1 : (-1 : Int32) = pz_m1 := rfl
theorem ph_0 : (0 : Int32) = nI 0 := rfl
theorem ph_1 : (1 : Int32) = nI 1 := rfl
theorem ph_2 : (2 : Int32) = nI 2 := rfl
theorem ph_3 : (3 : Int32) = nI 3 := rfl
theorem ph_4 : (4 : Int32) = nI 4 := rfl
theorem ph_5 : (5 : Int32) = nI 5 := rfl
theorem ph_6 : (6 : Int32) = nI 6 := rfl
theorem ph_7 : (7 : Int32) = nI 7 := rfl
theorem ph_8 : (8 : Int32) = nI 8 := rfl
theorem ph_9 : (9 : Int32) = nI 9 := rfl
theorem ph_10 : (10 : Int32) = nI 10 := rfl
theorem ph_11 : (11 : Int32) = nI 11 := rfl
theorem ph_12 : (12 : Int32) = nI 12 := rfl
theorem ph_13 : (13 : Int32) = nI 13 := rfl
theorem ph_14 : (14 : Int32) = nI 14 := rfl
theorem ph_15 : (15 : Int32) = nI 15 := rfl
theorem ph_16 : (16 : Int32) = nI 16 := rfl
theorem ph_19 : (19 : Int32) = nI 19 := rfl
theorem ph_20 : (20 : Int32) = nI 20 := rfl
theorem ph_24 : (24 : Int32) = nI 24 := rfl
theorem ph_28 : (28 : Int32) = nI 28 := rfl
theorem ph_30 : (30 : Int32) = nI 30 := rfl
theorem ph_37 : (37 : Int32) = nI 37 := rfl
theorem ph_38 : (38 : Int32) = nI 38 := rfl
theorem ph_39 : (39 : Int32) = nI 39 := rfl
theorem ph_40 : (40 : Int32) = nI 40 := rfl
theorem ph_41 : (41 : Int32) = nI 41 := rfl
theorem ph_42 : (42 : Int32) = nI 42 := rfl
theorem ph_43 : (43 : Int32) = nI 43 := rfl
theorem ph_45 : (45 : Int32) = nI 45 := rfl
theorem ph_50 : (50 : Int32) = nI 50 := rfl
theorem ph_64 : (64 : Int32) = nI 64 := rfl
theorem ph_93 : (93 : Int32) = nI 93 := rfl
theorem ph_94 : (94 : Int32) = nI 94 := rfl
theorem ph_99 : (99 : Int32) = nI 99 := rfl
theorem ph_320 : (320 : Int32) = nI 320 := rfl
theorem ph_900 : (900 : Int32) = nI 900 := rfl
theorem ph_2880 : (2880 : Int32) = nI 2880 := rfl
theorem ph_far : (268435456 : Int32) = nI 268435456 := rfl
theorem pz_ne {a : Nat} (ha : a < 2147483648) : nI a = pz_m1 ↔ False := pn_ne1 ha
theorem pz_ne2 {a : Nat} (ha : a < 2147483648) : pz_m1 = nI a ↔ False := pn_ne1' ha
theorem pz_le {a : Nat} (ha : a < 2147483648) : nI a ≤ pz_m1 ↔ False := pn_le1 ha
theorem pz_gt {a : Nat} (ha : a < 2147483648) : pz_m1 < nI a ↔ True := pn_lt1 ha
theorem pz_ge {a : Nat} (ha : a < 2147483648) : pz_m1 ≤ nI a ↔ True := by
  rw [Int32.le_iff_toInt_le, pn_toInt ha]; exact ⟨fun _ => trivial, fun _ => by show (-1 : Int) ≤ _; omega⟩
theorem pz_lt {a : Nat} (ha : a < 2147483648) : nI a < pz_m1 ↔ False := by
  rw [Int32.lt_iff_toInt_lt, pn_toInt ha]; exact ⟨fun h => by have h2 : (a : Int) < -1 := h; omega, False.elim⟩
theorem pz_dec {k : Nat} (h : 1 ≤ k) : nI k + pz_m1 = nI (k - 1) := by
  have h1 : nI k = nI (k - 1) + nI 1 := by rw [pn_add]; congr 1; omega
  have h2 : nI 1 + pz_m1 = (0 : Int32) := by decide
  rw [h1, Int32.add_assoc, h2, Int32.add_zero]
theorem pz_dec0 : nI 0 + pz_m1 = pz_m1 := by decide
/-- skipping deeds that can't be -/
theorem pm_skip {q : Nat → Nat} {w s : Nat} {J : Nat → Prop} (hsk : ∀ m, m < 15 → ¬ pm_wy q w s m = 0 → J m → J (m + 1)) : ∀ d m k, m + d = 15 → (pm_l q w s m).length = k → J m →
    (k = (pm_l q w s 15).length ∧ J 15) ∨ (∃ hk : k < (pm_l q w s 15).length, ∃ m', m' < 15 ∧ pm_wy q w s m' = 0 ∧ (pm_l q w s m').length = k ∧ (pm_l q w s 15)[k] = m' ∧ J m') := by
  intro d
  induction d with
  | zero =>
    intro m k h1 h2 h3
    have : m = 15 := by omega
    subst this
    exact Or.inl ⟨h2.symm, h3⟩
  | succ d ih =>
    intro m k h1 h2 h3
    by_cases c : pm_wy q w s m = 0
    · right
      have key : ∀ e, ∃ r, pm_l q w s (m + 1 + e) = pm_l q w s m ++ m :: r := by
        intro e
        induction e with
        | zero => refine ⟨[], ?_⟩; rw [Nat.add_zero, pm_l_succ, if_pos c]
        | succ e ihe =>
          obtain ⟨r, hr⟩ := ihe
          refine ⟨r ++ (if pm_wy q w s (m + 1 + e) = 0 then [m + 1 + e] else []), ?_⟩
          rw [show m + 1 + (e + 1) = m + 1 + e + 1 from rfl, pm_l_succ, hr]
          simp
      obtain ⟨r, hr⟩ := key (15 - (m + 1))
      rw [show m + 1 + (15 - (m + 1)) = 15 from by omega] at hr
      have hlen : k < (pm_l q w s 15).length := by rw [hr]; simp; omega
      refine ⟨hlen, m, by omega, c, h2, ?_, h3⟩
      have : (pm_l q w s 15)[k]? = some m := by
        rw [hr, List.getElem?_append_right (by omega), h2, Nat.sub_self]; rfl
      rw [List.getElem?_eq_getElem hlen] at this
      exact Option.some.inj this
    · refine ih (m + 1) k (by omega) ?_ (hsk m (by omega) c h3)
      rw [pm_l_succ, if_neg c, List.append_nil]; exact h2
/-- a loop over the deeds that gather found, by the moves' numbers -/
theorem pu_gl {V : Type} {b : V → Option (Nat × V)} {q : Nat → Nat} {w s : Nat} (J : Nat → Nat → V → Prop) {P : Nat × V → Prop} {n : Nat} {v : V} (hn : 20 < n) (h0 : J 0 0 v)
    (hsk : ∀ k m x, m < 15 → ¬ pm_wy q w s m = 0 → J k m x → J k (m + 1) x)
    (hout : ∀ x, J (pm_l q w s 15).length 15 x → pu_ok (b x) (fun r => r.1 ≠ 0 ∧ P r))
    (hgo : ∀ k m x (hk : k < (pm_l q w s 15).length), m < 15 → pm_wy q w s m = 0 → (pm_l q w s 15)[k] = m → J k m x → pu_ok (b x) (fun r => (r.1 = 0 → J (k + 1) (m + 1) r.2) ∧ (r.1 ≠ 0 → P r))) : pu_ok (za_it b n v) P := by
  have hl9 := pm_l9 (q := q) (w := w) (s := s)
  refine pu_up (fun k x => ∃ m, m ≤ 15 ∧ (pm_l q w s m).length = k ∧ J k m x) (pm_l q w s 15).length (by omega) ⟨0, by omega, rfl, h0⟩ ?_
  rintro k x hk ⟨m, hm, hlen, hJ⟩
  rcases pm_skip (J := fun m => J k m x) (fun m hm hc h => hsk k m x hm hc h) (15 - m) m k (by omega) hlen hJ with ⟨e, h⟩ | ⟨hk2, m', hm', hc, hl, hg, h⟩
  · subst e
    refine pu_mono (hout x h) ?_
    rintro r ⟨h1, h2⟩
    exact ⟨fun z => absurd z h1, fun _ => h2⟩
  · refine pu_mono (hgo k m' x hk2 hm' hc hg h) ?_
    rintro r ⟨h1, h2⟩
    refine ⟨fun z => ⟨hk2, m' + 1, by omega, ?_, h1 z⟩, h2⟩
    rw [pm_l_succ, if_pos hc]; simp; exact hl
/-- codes: when one came into the list -/
def pm_cou (tg : Nat → Nat → List Nat) (s0 j : Nat) : Nat → Nat
  | 0 => 0
  | c + 1 => pm_cou tg s0 j c + (if (pm_B tg s0 (c + 1)).length ≤ j then 1 else 0)
noncomputable def pm_co (tg : Nat → Nat → List Nat) (s0 j : Nat) : Nat := pm_cou tg s0 j pm_N
theorem pm_cou_1 {tg : Nat → Nat → List Nat} {s0 j : Nat} : ∀ c, (pm_B tg s0 c).length ≤ j → pm_cou tg s0 j c = c := by
  intro c
  induction c with
  | zero => intro _; rfl
  | succ c ih =>
    intro h
    have h2 := pm_B_len tg s0 c 1
    show pm_cou tg s0 j c + (if (pm_B tg s0 (c + 1)).length ≤ j then 1 else 0) = c + 1
    rw [if_pos h, ih (by omega)]
theorem pm_cou_2 {tg : Nat → Nat → List Nat} {s0 j c : Nat} (h : j < (pm_B tg s0 (c + 1)).length) : ∀ d, pm_cou tg s0 j (c + d) = pm_cou tg s0 j c := by
  intro d
  induction d with
  | zero => rfl
  | succ d ih =>
    have h2 := pm_B_len tg s0 (c + 1) d
    show pm_cou tg s0 j (c + d) + (if (pm_B tg s0 (c + d + 1)).length ≤ j then 1 else 0) = _
    rw [if_neg (by rw [show c + d + 1 = c + 1 + d from by omega]; omega), ih, Nat.add_zero]
theorem pm_co_eq {tg : Nat → Nat → List Nat} {s0 j c : Nat} (hc : c < 43200) (h1 : (pm_B tg s0 c).length ≤ j) (h2 : j < (pm_B tg s0 (c + 1)).length) : pm_co tg s0 j = c := by
  unfold pm_co
  rw [pm_N_eq]
  have := pm_cou_2 h2 (43200 - c)
  rw [show c + (43200 - c) = 43200 from by omega] at this
  rw [this, pm_cou_1 c h1]
/-- each but the first has a code -/
theorem pm_co_ex {tg : Nat → Nat → List Nat} {s0 j : Nat} (h0 : 1 ≤ j) (h : j < (pm_F tg s0).length) : ∃ c, c < 43200 ∧ (pm_B tg s0 c).length ≤ j ∧ j < (pm_B tg s0 (c + 1)).length ∧ pm_co tg s0 j = c := by
  have key : ∀ d, j < (pm_B tg s0 d).length → ∃ c, c < d ∧ (pm_B tg s0 c).length ≤ j ∧ j < (pm_B tg s0 (c + 1)).length := by
    intro d
    induction d with
    | zero => intro h; have : (pm_B tg s0 0).length = 1 := rfl
              omega
    | succ d ih =>
      intro h
      by_cases c : j < (pm_B tg s0 d).length
      · obtain ⟨e, h1, h2, h3⟩ := ih c
        exact ⟨e, by omega, h2, h3⟩
      · exact ⟨d, by omega, by omega, h⟩
  obtain ⟨c, h1, h2, h3⟩ := key 43200 (by rw [pm_F_def] at h; exact h)
  exact ⟨c, h1, h2, h3, pm_co_eq h1 h2 h3⟩
theorem pm_B_mono {tg : Nat → Nat → List Nat} {s0 a b : Nat} (h : a ≤ b) : (pm_B tg s0 a).length ≤ (pm_B tg s0 b).length := by
  have := pm_B_len tg s0 a (b - a)
  rw [show a + (b - a) = b from by omega] at this
  exact this
theorem pm_co_le {tg : Nat → Nat → List Nat} {s0 j k : Nat} (h0 : 1 ≤ j) (hjk : j ≤ k) (h : k < (pm_F tg s0).length) : pm_co tg s0 j ≤ pm_co tg s0 k := by
  obtain ⟨c, c1, c2, c3, c4⟩ := pm_co_ex h0 (Nat.lt_of_le_of_lt hjk h)
  obtain ⟨d, d1, d2, d3, d4⟩ := pm_co_ex (by omega) h
  rw [c4, d4]
  rcases Nat.lt_or_ge d c with z | z
  · have := pm_B_mono (tg := tg) (s0 := s0) (show d + 1 ≤ c from z)
    omega
  · exact z
/-- where one came from -/
theorem pm_co_src {tg : Nat → Nat → List Nat} {s0 j : Nat} (h0 : 1 ≤ j) (h : j < (pm_F tg s0).length) : pm_co tg s0 j / 15 < j ∧ pm_co tg s0 j < 43200 ∧ (pm_F tg s0).getD j 0 ∈ tg ((pm_F tg s0).getD (pm_co tg s0 j / 15) 0) (pm_co tg s0 j % 15) := by
  obtain ⟨c, c1, c2, c3, c4⟩ := pm_co_ex h0 h
  rw [c4]
  have hlt : c / 15 < (pm_B tg s0 c).length := by
    rcases Nat.lt_or_ge (c / 15) (pm_B tg s0 c).length with z | z
    · exact z
    · have := pm_B_stuck (tg := tg) (s0 := s0) (c := c) z 1
      rw [this] at c3; omega
  refine ⟨by omega, c1, ?_⟩
  have e1 := (pm_F_pre tg s0 (c := c + 1) (by omega) c3).1
  have e2 := (pm_F_pre tg s0 (c := c) (by omega) hlt).1
  rw [e1, e2]
  have hB : pm_B tg s0 (c + 1) = pm_adds (pm_B tg s0 c) (tg ((pm_B tg s0 c).getD (c / 15) 0) (c % 15)) := by
    show (if c / 15 < (pm_B tg s0 c).length then pm_adds (pm_B tg s0 c) (tg ((pm_B tg s0 c).getD (c / 15) 0) (c % 15)) else pm_B tg s0 c) = _
    rw [if_pos hlt]
  have hm := pm_getD_mem c3
  have hnd := pm_B_nd tg s0 (c + 1)
  generalize hx : (pm_B tg s0 (c + 1)).getD j 0 = x at hm ⊢
  rw [hB] at hm
  rcases pm_adds_mem.mp hm with z | z
  · exfalso
    obtain ⟨i, i1, i2⟩ := pm_mem_get z
    have e3 := pm_B_get (tg := tg) (s0 := s0) (c := c) (i := i) 1 i1
    have : i = j := pm_nd_inj hnd (by have := pm_B_len tg s0 c 1; omega) c3 (by rw [e3, i2, hx])
    omega
  · exact z
/-- where a deed leads is there, not later than by that deed -/
theorem pm_co_tgt {tg : Nat → Nat → List Nat} {s0 i m t : Nat} (hi : i < (pm_F tg s0).length) (hi2 : i < 2880) (hm : m < 15) (ht : t ∈ tg ((pm_F tg s0).getD i 0) m) : ∃ k, k < (pm_F tg s0).length ∧ (pm_F tg s0).getD k 0 = t ∧ (k = 0 ∨ pm_co tg s0 k ≤ 15 * i + m) := by
  have h1 := pm_F_there hi (c := 15 * i + m) (by omega) (by omega)
  have h2 := (pm_F_pre tg s0 (c := 15 * i + m) (by omega) h1).1
  rw [h2] at ht
  have h3 : t ∈ pm_B tg s0 (15 * i + m + 1) := by
    rw [pm_B_step hm h1]
    exact pm_adds_mem.mpr (Or.inr ht)
  obtain ⟨k, k1, k2⟩ := pm_mem_get h3
  have e1 := pm_F_pre tg s0 (c := 15 * i + m + 1) (by omega) k1
  refine ⟨k, e1.2, by rw [e1.1, k2], ?_⟩
  by_cases hk : k = 0
  · exact Or.inl hk
  · right
    obtain ⟨c, c1, c2, c3, c4⟩ := pm_co_ex (by omega) e1.2
    rw [c4]
    rcases Nat.lt_or_ge (15 * i + m) c with z | z
    · have := pm_B_mono (tg := tg) (s0 := s0) (show 15 * i + m + 1 ≤ c from z)
      omega
    · exact z
/-- depths -/
noncomputable def pm_dep (tg : Nat → Nat → List Nat) (s0 : Nat) : Nat → Nat → Nat
  | 0, _ => 0
  | f + 1, j => if j = 0 then 0 else pm_dep tg s0 f (pm_co tg s0 j / 15) + 1
theorem pm_dep_fu {tg : Nat → Nat → List Nat} {s0 : Nat} : ∀ j, j < (pm_F tg s0).length → ∀ f, j ≤ f → ∀ g, j ≤ g → pm_dep tg s0 f j = pm_dep tg s0 g j := by
  intro j
  induction j using Nat.strongRecOn with
  | _ j ih =>
    intro hj f hf g hg
    by_cases c : j = 0
    · subst c
      cases f <;> cases g <;> simp [pm_dep]
    · have h := pm_co_src (by omega) hj
      obtain ⟨f', rfl⟩ : ∃ f', f = f' + 1 := ⟨f - 1, by omega⟩
      obtain ⟨g', rfl⟩ : ∃ g', g = g' + 1 := ⟨g - 1, by omega⟩
      show (if j = 0 then 0 else pm_dep tg s0 f' (pm_co tg s0 j / 15) + 1) = (if j = 0 then 0 else pm_dep tg s0 g' (pm_co tg s0 j / 15) + 1)
      rw [if_neg c, if_neg c, ih _ h.1 (by omega) f' (by omega) g' (by omega)]
noncomputable def pm_de (tg : Nat → Nat → List Nat) (s0 j : Nat) : Nat := pm_dep tg s0 j j
theorem pm_de_0 (tg : Nat → Nat → List Nat) (s0 : Nat) : pm_de tg s0 0 = 0 := rfl
theorem pm_de_s {tg : Nat → Nat → List Nat} {s0 j : Nat} (h0 : 1 ≤ j) (h : j < (pm_F tg s0).length) : pm_de tg s0 j = pm_de tg s0 (pm_co tg s0 j / 15) + 1 := by
  have h1 := pm_co_src h0 h
  unfold pm_de
  obtain ⟨j', rfl⟩ : ∃ j', j = j' + 1 := ⟨j - 1, by omega⟩
  show (if j' + 1 = 0 then 0 else pm_dep tg s0 j' (pm_co tg s0 (j' + 1) / 15) + 1) = _
  rw [if_neg (by omega), pm_dep_fu _ (by omega) j' (by omega) _ (Nat.le_refl _)]
theorem pm_de_mono {tg : Nat → Nat → List Nat} {s0 : Nat} : ∀ k, k < (pm_F tg s0).length → ∀ j, j ≤ k → pm_de tg s0 j ≤ pm_de tg s0 k := by
  intro k
  induction k using Nat.strongRecOn with
  | _ k ih =>
    intro hk j hj
    by_cases c : j = 0
    · subst c; rw [pm_de_0]; omega
    · have h1 := pm_co_src (tg := tg) (s0 := s0) (j := k) (by omega) hk
      have h2 := pm_co_le (tg := tg) (s0 := s0) (j := j) (k := k) (by omega) hj hk
      rw [pm_de_s (by omega) (Nat.lt_of_le_of_lt hj hk), pm_de_s (by omega) hk]
      have := ih _ h1.1 (by omega) (pm_co tg s0 j / 15) (by omega)
      omega
theorem pm_de_le {tg : Nat → Nat → List Nat} {s0 : Nat} : ∀ k, k < (pm_F tg s0).length → pm_de tg s0 k ≤ k := by
  intro k
  induction k using Nat.strongRecOn with
  | _ k ih =>
    intro hk
    by_cases c : k = 0
    · subst c; rw [pm_de_0]; omega
    · have h1 := pm_co_src (tg := tg) (s0 := s0) (j := k) (by omega) hk
      rw [pm_de_s (by omega) hk]
      have := ih _ h1.1 (by omega)
      omega
/-- a deed leads at most one farther -/
theorem pm_de_tgt {tg : Nat → Nat → List Nat} {s0 i k : Nat} (hi : i < (pm_F tg s0).length) (hk : k < (pm_F tg s0).length) {m : Nat} (hm : m < 15) (h : k = 0 ∨ pm_co tg s0 k ≤ 15 * i + m) : pm_de tg s0 k ≤ pm_de tg s0 i + 1 := by
  by_cases c : k = 0
  · subst c; rw [pm_de_0]; omega
  · have h := h.resolve_left c
    rw [pm_de_s (by omega) hk]
    have := pm_de_mono (tg := tg) (s0 := s0) i hi (pm_co tg s0 k / 15) (by omega)
    omega
