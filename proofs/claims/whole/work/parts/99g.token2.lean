/-! keys and signs -/
def pm_of : Nat → Nat
  | 0 => 1
  | m + 1 => pm_of m + (pm_kw.getD m []).length + 1
theorem pb_key : ∀ m, m < 24 → ∀ i, i < 10 → i ≤ (pm_kw.getD m []).length → zf_J0_charAt_5068e 37 (nI (pm_of m + i)) = some (nI (if i < (pm_kw.getD m []).length then (pm_kw.getD m []).getD i 0 else 32)) := by decide +kernel
theorem pb_kl : zf_J0_length_8abf5 37 = some (nI 125) ∧ pm_of 24 = 125 ∧ ∀ m, m < 24 → (pm_kw.getD m []).length < 10 ∧ pm_of m + (pm_kw.getD m []).length < 125 := by decide +kernel
theorem pb_kwl : ∀ m, m < 24 → ∀ i, i < 10 → i < (pm_kw.getD m []).length → 97 ≤ (pm_kw.getD m []).getD i 0 ∧ (pm_kw.getD m []).getD i 0 ≤ 122 := by decide +kernel
theorem pb_sn : ∀ c, c < 256 → ∀ j, j < 12 → ((zs_byt.getD 0 []).getD j 0 = ((Int32.toInt8 (nI c)).toInt32) ↔ pm_sn.getD j 0 = c) := by decide +kernel
theorem pb_sn2 : ∀ c, c < 256 → ((Int32.toUInt32 (nI c) % 65536).toInt32) = nI c := by decide +kernel
theorem pb_sn3 : zf_J0_length_8abf5 0 = some (nI 12) ∧ zs_len.getD 0 0 = 12 ∧ ∀ j, j < 12 → zf_J0_charAt_5068e 0 (nI j) = some (nI (pm_sn.getD j 0)) := by decide +kernel
theorem pu_run2 {b : Int32 → Option (Nat × Int32)} {P : Nat → Prop} {n sz i : Nat} (hn : 1000 ≤ n) (hsz : sz ≤ 900) (hi : i ≤ sz) (hP : ∀ j, P j → j < sz) (hgo : ∀ j, i ≤ j → j ≤ sz → P j → b (nI j) = some (0, nI (j + 1))) (hout : ∀ j, i ≤ j → j ≤ sz → ¬ P j → ∃ g, g ≠ 0 ∧ b (nI j) = some (g, nI j)) : ∃ g r, za_it b n (nI i) = some (g, nI r) ∧ pm_rs P i r ∧ r ≤ sz := by
  have := pu_up (b := b) (n := n) (v := nI i) (P := fun x => ∃ r, x.2 = nI r ∧ pm_rs P i r ∧ r ≤ sz) (fun k v => v = nI (i + k) ∧ i + k ≤ sz ∧ ∀ j, i ≤ j → j < i + k → P j) (sz - i) (by omega) ⟨rfl, by omega, fun j h1 h2 => by omega⟩ (by
    rintro k v hk ⟨rfl, h2, h3⟩
    by_cases c : P (i + k)
    · rw [hgo (i + k) (by omega) h2 c]
      have := hP _ c
      refine pu_go ⟨by omega, by rw [Nat.add_assoc], by omega, ?_⟩
      intro j h4 h5
      by_cases d : j = i + k
      · rw [d]; exact c
      · exact h3 j h4 (by omega)
    · obtain ⟨g, g1, g2⟩ := hout (i + k) (by omega) h2 c
      rw [g2]
      exact pu_out g1 ⟨i + k, rfl, ⟨by omega, h3, c⟩, h2⟩)
  obtain ⟨⟨g, v⟩, h1, r, h2, h3, h4⟩ := this
  exact ⟨g, r, by rw [h1]; dsimp only at h2; rw [h2], h3, h4⟩
theorem pc_isSign {n c : Nat} (hn : 1000 ≤ n) (hc : c < 256) : zf_X5_isSign n (nI c) = some (if pm_ix pm_sn c < 12 then 1 else 0) := by
  unfold zf_X5_isSign zf_J0_indexOf_0f7a4 zf_J0_indexOf_7cf53 zf_J0_isLatin1_aae02
  rw [pb_sn2 c hc, pu_e1, if_neg (by decide), pb_sn3.1, pu_e1]
  unfold zf_J1_indexOf_4cfef zf_J1_canEncode_9a6ad
  rw [if_neg (pn_nn (by omega)), if_neg (fun z => by have := (pv_lt 255 (by omega) (by omega)).mp z; omega), pu_e1, if_neg (by decide), if_neg (by decide), pu_e1, pb_sn3.2.1, if_neg (by decide), pu_e1, if_pos (by decide)]
  unfold zf_J1_indexOfChar_4cfef
  rw [pu_e1]
  have := pu_up (b := fun v => zb_J1_indexOfChar_4cfef_7 (nI 12) 0 ((Int32.toInt8 (nI c)).toInt32) v) (n := n) (v := nI 0) (P := fun x => (x.1 = 1 ∧ ∃ j, j < 12 ∧ x.2 = nI j ∧ pm_ix pm_sn c = j) ∨ (x.1 = 2 ∧ pm_ix pm_sn c = 12)) (fun k v => v = nI k ∧ ∀ j, j < k → ¬ pm_sn.getD j 0 = c) 12 (by omega) ⟨rfl, fun j h => by omega⟩ (by
    rintro k v hk ⟨rfl, h3⟩
    unfold zb_J1_indexOfChar_4cfef_7
    by_cases d : 12 ≤ k
    · rw [if_pos ((pn_le (by omega) (by omega)).mpr d)]
      have : k = 12 := by omega
      subst this
      exact pu_out (by decide) (Or.inr ⟨rfl, pm_ix_no (d := 0) pm_sn h3⟩)
    · rw [if_neg (fun z => d ((pn_le (by omega) (by omega)).mp z)), pb_sn3.2.1, pu_ld (by omega) (by omega), pu_e1]
      by_cases e : pm_sn.getD k 0 = c
      · rw [if_pos ((pb_sn c hc k (by omega)).mpr e)]
        exact pu_out (by decide) (Or.inl ⟨rfl, k, by omega, rfl, pm_ix_at (d := 0) pm_sn k (show k < 12 by omega) h3 e⟩)
      · rw [if_neg (fun z => e ((pb_sn c hc k (by omega)).mp z)), pn_a1, pu_e1]
        refine pu_go ⟨by omega, rfl, ?_⟩
        intro j hj
        by_cases f : j = k
        · rw [f]; exact e
        · exact h3 j (by omega))
  obtain ⟨⟨g, v⟩, h1, h2⟩ := this
  rw [show za_it (fun v => zb_J1_indexOfChar_4cfef_7 (nI 12) 0 ((Int32.toInt8 (nI c)).toInt32) v) n (0 : Int32) = some (g, v) from h1, pu_e2]
  dsimp only at h2
  rcases h2 with ⟨rfl, j, j1, rfl, j3⟩ | ⟨rfl, j3⟩
  · rw [if_pos rfl, pu_e1, pu_e1, pu_e1, pu_e1, if_neg (pn_nn (by omega)), if_pos (by omega)]
  · rw [if_neg (by decide), if_pos rfl, pu_e1, pu_e1, pu_e1, pu_e1, if_pos (by decide), if_neg (by omega)]
def pm_sk (c : Nat) : Nat → Nat
  | 0 => 27
  | j + 1 => if c = pm_sn.getD j 0 then 30 + j else pm_sk c j
theorem pb_sk : ∀ c, c < 256 → pm_sk c 12 = if pm_ix pm_sn c < 12 then 30 + pm_ix pm_sn c else 27 := by decide +kernel
theorem pm_sk_le (c : Nat) : ∀ j, j ≤ 12 → pm_sk c j < 50 := by
  intro j
  induction j with
  | zero => intro _; show 27 < 50; omega
  | succ j ih =>
    intro h
    unfold pm_sk
    split
    · omega
    · exact ih (by omega)
section PTq
variable {n sz : Nat} {B : Nat → Nat} {ct rt : Nat → Int32}
theorem pr_sign {a : Nat} (hn : 1000 ≤ n) (hx : pp_tx B sz ct rt) (ha : a < sz) : ∃ g v, za_it (fun v => zb_X11_next_254 (nI sz) rt (nI a) v.1 v.2) n ((0 : Int32), (27 : Int32)) = some (g, v, nI (if pm_ix pm_sn (B a) < 12 then 30 + pm_ix pm_sn (B a) else 27)) := by
  have h9 := hx.1
  obtain ⟨b1, b2, b3⟩ := hx.2 a ha
  have := pu_up (b := fun v => zb_X11_next_254 (nI sz) rt (nI a) v.1 v.2) (n := n) (v := ((0 : Int32), (27 : Int32))) (P := fun x => x.2.2 = nI (pm_sk (B a) 12)) (fun k v => v.1 = nI k ∧ v.2 = nI (pm_sk (B a) k)) 12 (by omega) ⟨rfl, rfl⟩ (by
    rintro k ⟨v13, v14⟩ hk ⟨e1, e2⟩
    dsimp only at e1 e2 ⊢
    subst e1 e2
    unfold zb_X11_next_254
    rw [pb_sn3.1, pu_e1]
    by_cases d : 12 ≤ k
    · rw [if_pos ((pn_le (by omega) (by omega)).mpr d)]
      have : k = 12 := by omega
      subst this
      exact pu_out (by decide) rfl
    · have hs : pm_sn.getD k 0 < 256 := (show ∀ k, k < 12 → pm_sn.getD k 0 < 256 by decide) k (by omega)
      rw [if_neg (fun z => d ((pn_le (by omega) (by omega)).mp z)), pr_see hx (by omega), if_pos ha, pu_e1, pb_sn3.2.2 k (by omega), pu_e1, pn_a1]
      by_cases e : B a = pm_sn.getD k 0
      · rw [if_pos ((pn_eq (by omega) (by omega)).mpr e), pv_add 30, pu_e1, pu_e1, pu_e1]
        refine pu_go ⟨by omega, rfl, ?_⟩
        show _ = nI (if _ then _ else _)
        rw [if_pos e]
      · rw [if_neg (fun z => e ((pn_eq (by omega) (by omega)).mp z)), pu_e1, pu_e1]
        refine pu_go ⟨by omega, rfl, ?_⟩
        show _ = nI (if _ then _ else _)
        rw [if_neg e])
  obtain ⟨⟨g, v, v'⟩, h1, h2⟩ := this
  dsimp only at h2
  subst h2
  rw [pb_sk _ b3] at h1
  exact ⟨g, v, h1⟩
theorem pr_keyAt {a b : Nat} (hn : 1000 ≤ n) (hx : pp_tx B sz ct rt) (hab : a ≤ b) (hb : b ≤ sz) : zf_X11_keyAt n (nI a) (nI b) rt = some (nI (pm_ix pm_kw (pm_L B a b))) := by
  have h9 := hx.1
  have := pu_up (b := fun v => zb_X11_keyAt_4 (nI b) (nI a) rt n v.1 v.2) (n := n) (v := ((0 : Int32), (1 : Int32))) (P := fun x => (x.1 = 1 ∧ x.2.1 = nI (pm_ix pm_kw (pm_L B a b))) ∨ (x.1 = 2 ∧ pm_ix pm_kw (pm_L B a b) = 24)) (fun m v => v.1 = nI m ∧ v.2 = nI (pm_of m) ∧ ∀ j, j < m → ¬ pm_kw.getD j [] = pm_L B a b) 24 (by omega) ⟨rfl, rfl, fun j h => by omega⟩ (by
    rintro m ⟨v1, v2⟩ hm ⟨e1, e2, h3⟩
    dsimp only at e1 e2 ⊢
    subst e1 e2
    unfold zb_X11_keyAt_4
    rw [pb_kl.1, pu_e1]
    by_cases d : 24 ≤ m
    · have : m = 24 := by omega
      subst this
      rw [pb_kl.2.1, if_pos (by decide)]
      exact pu_out (by decide) (Or.inr ⟨rfl, pm_ix_no (d := []) pm_kw h3⟩)
    have hm24 : m < 24 := by omega
    obtain ⟨k1, k2⟩ := pb_kl.2.2 m hm24
    have hkw := pb_kwl m hm24
    have hch := pb_key m hm24
    generalize hK : pm_kw.getD m [] = K at *
    rw [if_neg (fun z => by have := (pn_le (by omega) (by omega)).mp z; omega)]
    obtain ⟨g, r, r1, r2, r3⟩ := pu_run2 (b := fun v => zb_X11_keyAt_15 (nI (pm_of m)) (nI b) (nI a) rt v) (P := fun j => j < K.length ∧ a + j < b ∧ B (a + j) = K.getD j 0) (n := n) (sz := K.length) (i := 0) hn (by omega) (by omega) (fun j h => h.1) (by
      intro j _ hj ⟨p1, p2, p3⟩
      obtain ⟨b1, b2, b3⟩ := hx.2 (a + j) (by omega)
      have hk := hkw j (by omega) p1
      unfold zb_X11_keyAt_15
      rw [pn_add, hch j (by omega) (by omega), if_pos p1, pu_e1, if_neg (fun z => by have := (pv_eq 32 (by omega) (by omega)).mp z; omega), pn_add, if_neg (fun z => by have := (pn_le (by omega) (by omega)).mp z; omega), pu_ld (by omega) (by omega), pu_e1, pu_e1, b2, if_pos (by rw [p3]), pn_a1, pu_e1]) (by
      intro j _ hj hp
      refine ⟨1, by omega, ?_⟩
      unfold zb_X11_keyAt_15
      rw [pn_add, hch j (by omega) (by omega), pu_e1]
      by_cases p1 : j < K.length
      · have hk := hkw j (by omega) p1
        rw [if_pos p1, if_neg (fun z => by have := (pv_eq 32 (by omega) (by omega)).mp z; omega), pn_add]
        by_cases p2 : a + j < b
        · obtain ⟨b1, b2, b3⟩ := hx.2 (a + j) (by omega)
          rw [if_neg (fun z => by have := (pn_le (by omega) (by omega)).mp z; omega), pu_ld (by omega) (by omega), pu_e1, pu_e1, b2, if_neg (fun z => hp ⟨p1, p2, (pn_eq (by omega) (by omega)).mp z⟩)]
        · rw [if_pos ((pn_le (by omega) (by omega)).mpr (by omega))]
      · rw [if_neg p1, if_pos (show nI 32 = (32 : Int32) by decide)])
    obtain ⟨_, q2, q3⟩ := r2
    have r1' : za_it (fun v => zb_X11_keyAt_15 (nI (pm_of m)) (nI b) (nI a) rt v) n (0 : Int32) = some (g, nI r) := r1
    rw [r1', pu_e2, pn_add, hch r (by omega) r3, pu_e1]
    have hskip : ∃ g, za_it (fun v => zb_X11_keyAt_97 v) n (nI (pm_of m)) = some (g, nI (pm_of m + K.length)) := by
      obtain ⟨g, t, t1, t2, t3⟩ := pu_run2 (b := fun v => zb_X11_keyAt_97 v) (P := fun j => j < pm_of m + K.length) (n := n) (sz := pm_of m + K.length) (i := pm_of m) hn (by omega) (by omega) (fun j h => h) (by
        intro j hj1 hj2 hp
        obtain ⟨d, rfl⟩ := Nat.exists_eq_add_of_le hj1
        have hk := hkw d (by omega) (by omega)
        unfold zb_X11_keyAt_97
        rw [hch d (by omega) (by omega), if_pos (by omega), pu_e1, if_neg (fun z => by have := (pv_eq 32 (by omega) (by omega)).mp z; omega), pn_a1, pu_e1]) (by
        intro j hj1 hj2 hp
        obtain ⟨d, rfl⟩ := Nat.exists_eq_add_of_le hj1
        refine ⟨1, by omega, ?_⟩
        unfold zb_X11_keyAt_97
        rw [hch d (by omega) (by omega), if_neg (by omega), pu_e1, if_pos (show nI 32 = (32 : Int32) by decide)])
      have : t = pm_of m + K.length := by have := t2.2.2; omega
      rw [this] at t1
      exact ⟨g, t1⟩
    have hskip2 : ∃ g, za_it (fun v => zb_X11_keyAt_97_2 v) n (nI (pm_of m)) = some (g, nI (pm_of m + K.length)) := hskip
    have hof : pm_of (m + 1) = pm_of m + K.length + 1 := by
      show pm_of m + (pm_kw.getD m []).length + 1 = _
      rw [hK]
    by_cases c1 : r < K.length
    · have hk := hkw r (by omega) c1
      rw [if_pos c1, if_neg (fun z => by have := (pv_eq 32 (by omega) (by omega)).mp z; omega)]
      obtain ⟨g2, s2⟩ := hskip2
      rw [s2, pu_e2, pn_a1, pn_a1, pu_e1, pu_e1]
      refine pu_go ⟨by omega, rfl, by rw [hof], ?_⟩
      intro j hj
      by_cases f : j = m
      · rw [f, hK]
        intro z
        obtain ⟨l1, l2⟩ := pm_L_eq.mp z.symm
        exact q3 ⟨c1, by omega, l2 r (by omega)⟩
      · exact h3 j (by omega)
    · have hr : r = K.length := by omega
      rw [if_neg c1, if_pos (show nI 32 = (32 : Int32) by decide), pn_add]
      by_cases c2 : a + r = b
      · rw [if_pos (by rw [c2])]
        refine pu_out (by decide) (Or.inl ⟨rfl, ?_⟩)
        dsimp only
        rw [pm_ix_at (d := []) pm_kw m hm24 h3 (by
          rw [hK]
          exact (pm_L_eq.mpr ⟨by omega, fun i hi => (q2 i (by omega) (by omega)).2.2⟩).symm)]
      · rw [if_neg (fun z => c2 ((pn_eq (by omega) (by omega)).mp z))]
        obtain ⟨g2, s2⟩ := hskip
        rw [s2, pu_e2, pn_a1, pn_a1, pu_e1, pu_e1]
        refine pu_go ⟨by omega, rfl, by rw [hof], ?_⟩
        intro j hj
        by_cases f : j = m
        · rw [f, hK]
          intro z
          obtain ⟨l1, l2⟩ := pm_L_eq.mp z.symm
          omega
        · exact h3 j (by omega))
  obtain ⟨⟨g, v, v'⟩, h1, h2⟩ := this
  unfold zf_X11_keyAt
  rw [h1, pu_e3]
  dsimp only at h2
  rcases h2 with ⟨rfl, rfl⟩ | ⟨rfl, h2⟩
  · rw [if_pos rfl]
  · rw [if_neg (by decide), if_pos rfl, h2]
    rfl
end PTq
