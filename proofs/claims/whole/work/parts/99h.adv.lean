/-! the next word, on both sides -/
def pp_tk (B : Nat → Nat) (sz b : Nat) (st en ki va at1 be rk nu : Int32) : Prop :=
  ∃ a, st = nI a ∧ at1 = nI a ∧ en = nI b ∧ be = nI b ∧ a ≤ b ∧ b ≤ sz ∧ ((a = b ∧ ki = 0 ∧ rk = 26) ∨ (a < b ∧ ki = 1 ∧ rk = 27) ∨ (a < b ∧ ki = 2 ∧ rk = 25 ∧ ∃ v, v ≤ 999 ∧ va = nI v ∧ nu = nI v) ∨ (a < b ∧ ki = 3 ∧ (∀ j, a ≤ j → j < b → 97 ≤ B j ∧ B j ≤ 122) ∧ rk = nI (pm_ix pm_kw (pm_L B a b))) ∨ (b = a + 1 ∧ ki = 3 ∧ pm_ix pm_sn (B a) < 12 ∧ rk = nI (30 + pm_ix pm_sn (B a))))
def pm_str (i : Nat) : List Nat := (zs_byt.getD i []).map (fun x => x.toInt.toNat)
theorem pb_str : ∀ i, i < 37 → zf_J0_length_8abf5 i = some (nI (pm_str i).length) ∧ (pm_str i).length < 20 ∧ ∀ k, k < 20 → k < (pm_str i).length → zf_J0_charAt_5068e i (nI k) = some (nI ((pm_str i).getD k 0)) ∧ (pm_str i).getD k 0 < 256 := by decide +kernel
def pm_cc (i c : Nat) : Prop := i < 37 ∧ ((c < 24 ∧ pm_str i = pm_kw.getD c []) ∨ ∃ j, j < 12 ∧ c = 30 + j ∧ pm_str i = [pm_sn.getD j 0])
theorem pb_ixk : ∀ c, c < 24 → pm_ix pm_kw (pm_kw.getD c []) = c := by decide +kernel
theorem pb_ixs : ∀ j, j < 12 → pm_ix pm_sn (pm_sn.getD j 0) = j ∧ (pm_sn.getD j 0 < 97 ∨ 122 < pm_sn.getD j 0) := by decide +kernel
theorem pb_kw1 : ∀ c, c < 24 → 1 < (pm_kw.getD c []).length := by decide +kernel
section PAd
variable {n sz : Nat} {B : Nat → Nat} {ct rt : Nat → Int32}
theorem pp_adv {e : Nat} {st ki va at1 rk nu : Int32} (hn : 1000 ≤ n) (hx : pp_tx B sz ct rt) (he : e ≤ sz) :
    ∃ st' en' ki' va' at' be' rk' nu' b', zf_X5_advance n (nI sz) st (nI e) ki va ct = some (st', en', ki', va') ∧ zf_X11_next n at1 (nI e) (nI sz) rk nu rt = some (at', be', rk', nu') ∧ e ≤ b' ∧ (e < b' ∨ ki' = 0) ∧ pp_tk B sz b' st' en' ki' va' at' be' rk' nu' := by
  have h9 := hx.1
  obtain ⟨g1, a, c1, c2, c3⟩ := pc_sp (n := n) hn hx he
  obtain ⟨g2, a', d1, d2, d3⟩ := pr_sp (n := n) hn hx he
  have : a' = a := pm_rs_u d2 c2
  subst this
  have hea := c2.1
  unfold zf_X5_advance zf_X11_next
  rw [c1, d1, pu_e2, pu_e2]
  by_cases hz : a' < sz
  rotate_left
  · rw [if_neg (fun z => hz ((pn_lt (by omega) (by omega)).mp z)), if_neg (fun z => hz ((pn_lt (by omega) (by omega)).mp z))]
    exact ⟨_, _, _, _, _, _, _, _, a', rfl, rfl, hea, Or.inr rfl, a', rfl, rfl, rfl, rfl, by omega, by omega, Or.inl ⟨rfl, rfl, rfl⟩⟩
  rw [if_pos ((pn_lt (by omega) (by omega)).mpr hz), if_pos ((pn_lt (by omega) (by omega)).mpr hz), pr_see hx (by omega), if_pos hz, pu_e1]
  obtain ⟨b1, b2, b3⟩ := hx.2 a' hz
  obtain ⟨g3, r, e1, e2, e3⟩ := pc_dig (n := n) hn hx c3
  rw [e1, pu_e3, (pb_let _ b3).2, pu_e1]
  by_cases hd : pm_di B sz a'
  · have hr : a' < r := by
      by_cases z : r = a'
      · rw [z] at e2; exact absurd hd e2.2.2
      · have := e2.1; omega
    obtain ⟨g4, r', f1, f2, f3⟩ := pr_dig (n := n) hn hx c3
    have : r' = r := pm_rs_u f2 e2
    subst this
    have hv := pm_nv_le (B := B) (a := a') (r' - a') (fun j hj => (e2.2.1 (a' + j) (by omega) (by omega)).2.2)
    rw [if_neg (fun z => by have := (pn_le (by omega) (by omega)).mp z; omega), if_neg (show ¬ (97 ≤ B a' ∧ B a' ≤ 122) by have := hd.2; omega), if_pos (show (0 : Int32) = 0 from rfl), pu_e1, (pb_dig _ b3).2, if_pos hd.2, pu_e1, if_neg (show ¬ (1 : Int32) = 0 by decide), f1, pu_e3, pn_sub (by omega)]
    by_cases c : 3 < r' - a'
    · rw [if_pos ((pv_lt 3 (by omega) (by omega)).mpr c), if_neg (fun z => by have := (pv_ge 3 (by omega) (by omega)).mp z; omega), pu_e1, pu_e1]
      exact ⟨_, _, _, _, _, _, _, _, r', rfl, rfl, by omega, Or.inl (by omega), a', rfl, rfl, rfl, rfl, by omega, by omega, Or.inr (Or.inl ⟨hr, rfl, rfl⟩)⟩
    · rw [if_neg (fun z => c ((pv_lt 3 (by omega) (by omega)).mp z)), if_pos ((pv_ge 3 (by omega) (by omega)).mpr (by omega)), pu_e1, pu_e1]
      exact ⟨_, _, _, _, _, _, _, _, r', rfl, rfl, by omega, Or.inl (by omega), a', rfl, rfl, rfl, rfl, by omega, by omega, Or.inr (Or.inr (Or.inl ⟨hr, rfl, rfl, _, hv.1, rfl, rfl⟩))⟩
  have hr : r = a' := by
    by_cases z : a' < r
    · exact absurd (e2.2.1 a' (by omega) z) hd
    · have := e2.1; omega
  subst hr
  obtain ⟨g5, l, l1, l2, l3⟩ := pc_let (n := n) hn hx c3
  rw [if_pos ((pn_le (by omega) (by omega)).mpr (by omega)), l1, pu_e2, pn_a1]
  by_cases hl : pm_le B sz r
  · have hrl : r < l := by
      by_cases z : l = r
      · rw [z] at l2; exact absurd hl l2.2.2
      · have := l2.1; omega
    obtain ⟨g6, l', m1, m2, m3⟩ := pr_let (n := n) hn hx c3
    have : l' = l := pm_rs_u m2 l2
    subst this
    rw [if_pos ((pn_lt (by omega) (by omega)).mpr hrl), pu_e1, if_neg (fun z => by have := (pn_lt (by omega) (by omega)).mp z; omega), pu_e1, if_pos hl.2, if_neg (by decide), m1, pu_e2, pr_keyAt hn hx (by omega) l3, pu_e1]
    exact ⟨_, _, _, _, _, _, _, _, l', rfl, rfl, by omega, Or.inl (by omega), r, rfl, rfl, rfl, rfl, by omega, by omega, Or.inr (Or.inr (Or.inr (Or.inl ⟨hrl, rfl, fun j h1 h2 => (l2.2.1 j h1 h2).2, rfl⟩)))⟩
  · have hrl : l = r := by
      by_cases z : r < l
      · exact absurd (l2.2.1 r (by omega) z) hl
      · have := l2.1; omega
    subst hrl
    obtain ⟨g6, v6, m1⟩ := pr_sign (n := n) (a := l) hn hx hz
    rw [if_neg (fun z => by have := (pn_lt (by omega) (by omega)).mp z; omega), pu_ld (by omega) (by omega), pu_e1, b1, pc_isSign hn b3, pu_e1, if_pos (show nI l < nI (l + 1) from (pn_lt (by omega) (by omega)).mpr (by omega)), if_neg (show ¬ (97 ≤ B l ∧ B l ≤ 122) from fun z => hl ⟨hz, z⟩), if_pos (show (0 : Int32) = 0 from rfl), pu_e1, (pb_dig _ b3).2, if_neg (show ¬ (48 ≤ B l ∧ B l ≤ 57) from fun z => hd ⟨hz, z⟩), pu_e1, if_pos (show (0 : Int32) = 0 from rfl), pu_e1, m1, pu_e3]
    by_cases c : pm_ix pm_sn (B l) < 12
    · rw [if_pos c, if_pos c, if_neg (by decide), pu_e1, pu_e1]
      exact ⟨_, _, _, _, _, _, _, _, l + 1, rfl, rfl, by omega, Or.inl (by omega), l, rfl, rfl, rfl, rfl, by omega, by omega, Or.inr (Or.inr (Or.inr (Or.inr ⟨rfl, rfl, c, rfl⟩)))⟩
    · rw [if_neg c, if_neg c, if_pos rfl, pu_e1, pu_e1]
      exact ⟨_, _, _, _, _, _, _, _, l + 1, rfl, rfl, by omega, Or.inl (by omega), l, rfl, rfl, rfl, rfl, by omega, by omega, Or.inr (Or.inl ⟨by omega, rfl, rfl⟩)⟩
theorem pp_adv_ge {e : Nat} {st ki va st' en' ki' va' : Int32} (hn : 1000 ≤ n) (hx : pp_tx B sz ct rt) (he : e ≤ sz) (h : zf_X5_advance n (nI sz) st (nI e) ki va ct = some (st', en', ki', va')) : nI e ≤ st' := by
  have h9 := hx.1
  obtain ⟨g1, a, c1, c2, c3⟩ := pc_sp (n := n) hn hx he
  have hea := c2.1
  have hst : st' = nI a := by
    unfold zf_X5_advance at h
    rw [c1, pu_e2] at h
    by_cases hz : a < sz
    rotate_left
    · rw [if_neg (fun z => hz ((pn_lt (by omega) (by omega)).mp z))] at h
      cases h; rfl
    rw [if_pos ((pn_lt (by omega) (by omega)).mpr hz)] at h
    obtain ⟨g3, r, e1, e2, e3⟩ := pc_dig (n := n) hn hx c3
    rw [e1, pu_e3] at h
    by_cases hr : nI r ≤ nI a
    · rw [if_pos hr] at h
      obtain ⟨g5, l, l1, l2, l3⟩ := pc_let (n := n) hn hx e3
      rw [l1, pu_e2] at h
      have hb := (hx.2 a hz).2.2
      rw [pu_ld (by omega) (by omega), pu_e1, (hx.2 a hz).1, pc_isSign hn hb, pu_e1] at h
      by_cases z1 : nI a < nI l
      · rw [if_pos z1, pu_e1, pu_e1] at h
        cases h; rfl
      · rw [if_neg z1] at h
        by_cases z2 : pm_ix pm_sn (B a) < 12
        · rw [if_pos z2, if_neg (show ¬ (1 : Int32) = 0 by decide), pu_e1, pu_e1] at h
          cases h; rfl
        · rw [if_neg z2, if_pos (show (0 : Int32) = 0 from rfl), pu_e1, pu_e1] at h
          cases h; rfl
    · rw [if_neg hr] at h
      by_cases z : (3 : Int32) < nI r - nI a
      · rw [if_pos z, pu_e1] at h
        cases h; rfl
      · rw [if_neg z, pu_e1] at h
        cases h; rfl
  rw [hst]
  exact (pn_le (by omega) (by omega)).mpr hea
theorem pc_tokenIs {a b i : Nat} (hn : 1000 ≤ n) (hx : pp_tx B sz ct rt) (hab : a ≤ b) (hb : b ≤ sz) (hi : i < 37) : zf_X5_tokenIs n (nI a) (nI b) (3 : Int32) ct i = some (if pm_L B a b = pm_str i then 1 else 0) := by
  have h9 := hx.1
  obtain ⟨s1, s2, s3⟩ := pb_str i hi
  unfold zf_X5_tokenIs
  rw [if_pos rfl, s1, pu_e1, pn_sub hab]
  by_cases c : b - a = (pm_str i).length
  rotate_left
  · rw [if_neg (fun z => c ((pn_eq (by omega) (by omega)).mp z)), if_neg (fun z => c (by rw [← z, pm_L_len1]))]
  rw [if_pos (by rw [c])]
  have := pu_up (b := fun v => zb_X5_tokenIs_28 i ct (nI a) v) (n := n) (v := nI 0) (P := fun x => (x.1 = 1 ∧ ¬ pm_L B a b = pm_str i) ∨ (x.1 = 2 ∧ pm_L B a b = pm_str i)) (fun k v => v = nI k ∧ ∀ j, j < k → B (a + j) = (pm_str i).getD j 0) (pm_str i).length (by omega) ⟨rfl, fun j h => by omega⟩ (by
    rintro k v hk ⟨rfl, h3⟩
    unfold zb_X5_tokenIs_28
    rw [s1, pu_e1]
    by_cases d : (pm_str i).length ≤ k
    · rw [if_pos ((pn_le (by omega) (by omega)).mpr d)]
      exact pu_out (by decide) (Or.inr ⟨rfl, pm_L_eq.mpr ⟨c.symm, fun j hj => h3 j (by omega)⟩⟩)
    · obtain ⟨t1, t2⟩ := s3 k (by omega) (by omega)
      obtain ⟨b1, b2, b3⟩ := hx.2 (a + k) (by omega)
      rw [if_neg (fun z => d ((pn_le (by omega) (by omega)).mp z)), pn_add, pu_ld (by omega) (by omega), pu_e1, t1, pu_e1, b1]
      by_cases f : B (a + k) = (pm_str i).getD k 0
      · rw [if_pos (by rw [f]), pn_a1, pu_e1]
        refine pu_go ⟨by omega, rfl, ?_⟩
        intro j hj
        by_cases z : j = k
        · rw [z]; exact f
        · exact h3 j (by omega)
      · rw [if_neg (fun z => f ((pn_eq (by omega) (by omega)).mp z))]
        exact pu_out (by decide) (Or.inl ⟨rfl, fun z => f ((pm_L_eq.mp z).2 k (by omega))⟩))
  obtain ⟨⟨g, v⟩, h1, h2⟩ := this
  rw [show za_it (fun v => zb_X5_tokenIs_28 i ct (nI a) v) n (0 : Int32) = some (g, v) from h1, pu_e2]
  dsimp only at h2
  rcases h2 with ⟨rfl, h2⟩ | ⟨rfl, h2⟩
  · rw [if_pos rfl, if_neg h2]
  · rw [if_neg (by decide), if_pos rfl, if_pos h2]
/-- a word is at hand on one side, if it is on the other -/
theorem pp_is {b i c : Nat} {st en ki va at1 be rk nu : Int32} (hn : 1000 ≤ n) (hx : pp_tx B sz ct rt) (ht : pp_tk B sz b st en ki va at1 be rk nu) (hc : pm_cc i c) : ∃ v, zf_X5_tokenIs n st en ki ct i = some v ∧ ((v = 1 ∧ rk = nI c ∧ ki = 3) ∨ (v = 0 ∧ ¬ rk = nI c)) := by
  have h9 := hx.1
  obtain ⟨hi, hc⟩ := hc
  have hc50 : c < 50 := by rcases hc with h | ⟨j, h1, h2, _⟩ <;> omega
  have hno : ∀ k : Nat, (k = 25 ∨ k = 26 ∨ k = 27) → ¬ nI k = nI c := by
    intro k hk z
    have := (pn_eq (by omega) (by omega)).mp z
    rcases hc with h | ⟨j, h1, h2, _⟩ <;> omega
  have hk3 : ∀ k : Int32, ¬ k = 3 → zf_X5_tokenIs n st en k ct i = some 0 := by
    intro k hk
    unfold zf_X5_tokenIs
    rw [if_neg hk]
  obtain ⟨a, rfl, rfl, rfl, rfl, h1, h2, h | h | h | h | h⟩ := ht
  · obtain ⟨_, rfl, rfl⟩ := h
    exact ⟨0, hk3 _ (by decide), Or.inr ⟨rfl, hno 26 (by omega)⟩⟩
  · obtain ⟨_, rfl, rfl⟩ := h
    exact ⟨0, hk3 _ (by decide), Or.inr ⟨rfl, hno 27 (by omega)⟩⟩
  · obtain ⟨_, rfl, rfl, _⟩ := h
    exact ⟨0, hk3 _ (by decide), Or.inr ⟨rfl, hno 25 (by omega)⟩⟩
  · obtain ⟨hab, rfl, hl, rfl⟩ := h
    refine ⟨_, pc_tokenIs hn hx h1 h2 hi, ?_⟩
    have hle : pm_ix pm_kw (pm_L B a b) ≤ 24 := by
      by_cases z : pm_ix pm_kw (pm_L B a b) < pm_kw.length
      · exact Nat.le_of_lt z
      · by_cases y : ∀ j, j < pm_kw.length → ¬ pm_kw.getD j [] = pm_L B a b
        · rw [pm_ix_no (d := []) pm_kw y]; exact Nat.le_refl _
        · exact absurd (Classical.byContradiction fun w => y (fun j hj hz => by
            have := pb_ixk j hj
            rw [hz] at this
            rw [this] at z
            exact z hj)) (fun f : False => f)
    rcases hc with ⟨c1, c2⟩ | ⟨j, c1, c2, c3⟩
    · by_cases z : pm_L B a b = pm_str i
      · rw [if_pos z]
        refine Or.inl ⟨rfl, ?_, rfl⟩
        rw [z, c2, pb_ixk c c1]
      · rw [if_neg z]
        refine Or.inr ⟨rfl, fun y => z ?_⟩
        have y' := (pn_eq (by omega) (by omega)).mp y
        have := pm_ix_get (d := []) pm_kw (x := pm_L B a b) (by rw [y']; exact c1)
        rw [y'] at this
        rw [c2, this]
    · rw [if_neg]
      · exact Or.inr ⟨rfl, fun y => by have := (pn_eq (by omega) (by omega)).mp y; omega⟩
      · intro z
        rw [c3] at z
        obtain ⟨z1, z2⟩ := pm_L_eq.mp z
        have h0 := z2 0 (by omega)
        have h3 := hl a (by omega) hab
        have h4 := (pb_ixs j c1).2
        have h5 : B (a + 0) = pm_sn.getD j 0 := h0
        rw [Nat.add_zero] at h5
        omega
  · obtain ⟨hab, rfl, hl, rfl⟩ := h
    refine ⟨_, pc_tokenIs hn hx h1 h2 hi, ?_⟩
    rcases hc with ⟨c1, c2⟩ | ⟨j, c1, c2, c3⟩
    · rw [if_neg]
      · exact Or.inr ⟨rfl, fun y => by have := (pn_eq (by omega) (by omega)).mp y; omega⟩
      · intro z
        rw [c2] at z
        have z1 := (pm_L_eq.mp z).1
        have := pb_kw1 c c1
        omega
    · by_cases z : B a = pm_sn.getD j 0
      · rw [if_pos]
        · refine Or.inl ⟨rfl, ?_, rfl⟩
          rw [z, (pb_ixs j c1).1, c2]
        · rw [c3]
          refine pm_L_eq.mpr ⟨by simp; omega, ?_⟩
          intro k hk
          have : k = 0 := by omega
          subst this
          exact z
      · rw [if_neg]
        · refine Or.inr ⟨rfl, fun y => z ?_⟩
          have y' := (pn_eq (by omega) (by omega)).mp y
          have y2 : pm_ix pm_sn (B a) = j := by omega
          have := pm_ix_get (d := 0) pm_sn (x := B a) hl
          rw [y2] at this
          exact this.symm
        · intro y
          rw [c3] at y
          have := (pm_L_eq.mp y).2 0 (by omega)
          exact z this
end PAd
