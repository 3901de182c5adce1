/-! words and numbers of a text: both readers -/
def pm_kw : List (List Nat) := [[99, 108, 105, 102, 102], [114, 117, 110, 103, 115], [116, 104, 105, 110, 103, 115], [104, 111, 108, 101], [98, 97, 114, 115], [103, 105, 118, 101, 115], [114, 111, 117, 103, 104], [112, 105, 108, 103, 114, 105, 109], [97, 116], [115, 116, 114, 101, 110, 103, 116, 104], [104, 97, 115], [119, 105, 110, 100], [115, 108, 105, 112, 115], [116, 105, 114, 101, 115], [109, 97, 121], [105, 102], [116, 104, 101, 110], [101, 108, 115, 101], [101, 110, 100], [114, 117, 110, 103], [114, 111, 111, 109], [97, 110, 100], [111, 114], [110, 111, 116]]
def pm_sn : List Nat := [59, 58, 43, 45, 42, 40, 41, 91, 93, 61, 60, 62]
def pm_ix {α : Type} [DecidableEq α] : List α → α → Nat
  | [], _ => 0
  | w :: ws, x => if w = x then 0 else pm_ix ws x + 1
theorem pm_ix_at {α : Type} [DecidableEq α] {d x : α} : ∀ (ws : List α) (m : Nat), m < ws.length → (∀ j, j < m → ¬ ws.getD j d = x) → ws.getD m d = x → pm_ix ws x = m := by
  intro ws
  induction ws with
  | nil => intro m hm; exact absurd hm (by simp)
  | cons w ws ih =>
    intro m hm h1 h2
    cases m with
    | zero => exact if_pos h2
    | succ m =>
      have h0 : ¬ w = x := h1 0 (by omega)
      show (if w = x then 0 else pm_ix ws x + 1) = m + 1
      rw [if_neg h0, ih m (by simpa using hm) (fun j hj => h1 (j + 1) (by omega)) h2]
theorem pm_ix_no {α : Type} [DecidableEq α] {d x : α} : ∀ (ws : List α), (∀ j, j < ws.length → ¬ ws.getD j d = x) → pm_ix ws x = ws.length := by
  intro ws
  induction ws with
  | nil => intro _; rfl
  | cons w ws ih =>
    intro h
    have h0 : ¬ w = x := h 0 (by simp)
    show (if w = x then 0 else pm_ix ws x + 1) = _
    rw [if_neg h0, ih (fun j hj => h (j + 1) (by simpa using hj)), List.length_cons]
theorem pm_ix_get {α : Type} [DecidableEq α] {d x : α} : ∀ (ws : List α), pm_ix ws x < ws.length → ws.getD (pm_ix ws x) d = x := by
  intro ws
  induction ws with
  | nil => intro h; exact absurd h (by simp)
  | cons w ws ih =>
    intro h
    by_cases c : w = x
    · rw [show pm_ix (w :: ws) x = 0 from if_pos c]; exact c
    · have e : pm_ix (w :: ws) x = pm_ix ws x + 1 := if_neg c
      rw [e] at h ⊢
      exact ih (by simpa using h)
def pm_rs (P : Nat → Prop) (i r : Nat) : Prop := i ≤ r ∧ (∀ j, i ≤ j → j < r → P j) ∧ ¬ P r
theorem pm_rs_u {P : Nat → Prop} {i r r' : Nat} (h : pm_rs P i r) (h' : pm_rs P i r') : r = r' := by
  obtain ⟨a1, a2, a3⟩ := h
  obtain ⟨b1, b2, b3⟩ := h'
  by_cases c : r < r'
  · exact absurd (b2 r a1 c) a3
  by_cases c' : r' < r
  · exact absurd (a2 r' b1 c') b3
  omega
theorem pu_run {b : Int32 → Option (Nat × Int32)} {P : Nat → Prop} {n sz i : Nat} (hn : 1000 ≤ n) (hsz : sz ≤ 900) (hi : i ≤ sz) (hP : ∀ j, P j → j < sz) (hgo : ∀ j, j ≤ sz → P j → b (nI j) = some (0, nI (j + 1))) (hout : ∀ j, j ≤ sz → ¬ P j → ∃ g, g ≠ 0 ∧ b (nI j) = some (g, nI j)) : ∃ g r, za_it b n (nI i) = some (g, nI r) ∧ pm_rs P i r ∧ r ≤ sz := by
  have := pu_up (b := b) (n := n) (v := nI i) (P := fun x => ∃ r, x.2 = nI r ∧ pm_rs P i r ∧ r ≤ sz) (fun k v => v = nI (i + k) ∧ i + k ≤ sz ∧ ∀ j, i ≤ j → j < i + k → P j) (sz - i) (by omega) ⟨rfl, by omega, fun j h1 h2 => by omega⟩ (by
    rintro k v hk ⟨rfl, h2, h3⟩
    by_cases c : P (i + k)
    · rw [hgo (i + k) h2 c]
      have := hP _ c
      refine pu_go ⟨by omega, by rw [Nat.add_assoc], by omega, ?_⟩
      intro j h4 h5
      by_cases d : j = i + k
      · rw [d]; exact c
      · exact h3 j h4 (by omega)
    · obtain ⟨g, g1, g2⟩ := hout (i + k) h2 c
      rw [g2]
      exact pu_out g1 ⟨i + k, rfl, ⟨by omega, h3, c⟩, h2⟩)
  obtain ⟨⟨g, v⟩, h1, r, h2, h3, h4⟩ := this
  exact ⟨g, r, by rw [h1]; dsimp only at h2; rw [h2], h3, h4⟩
/-- the text: bytes -/
def pp_tx (B : Nat → Nat) (sz : Nat) (ct rt : Nat → Int32) : Prop := sz ≤ 900 ∧ ∀ k, k < sz → ct k = nI (B k) ∧ rt k = nI (B k) ∧ B k < 256
def pm_sp (B : Nat → Nat) (sz j : Nat) : Prop := j < sz ∧ (B j = 10 ∨ B j = 32)
def pm_di (B : Nat → Nat) (sz j : Nat) : Prop := j < sz ∧ 48 ≤ B j ∧ B j ≤ 57
def pm_le (B : Nat → Nat) (sz j : Nat) : Prop := j < sz ∧ 97 ≤ B j ∧ B j ≤ 122
def pm_L (B : Nat → Nat) (a b : Nat) : List Nat := (List.range (b - a)).map (fun i => B (a + i))
theorem pm_L_len1 (B : Nat → Nat) (a b : Nat) : (pm_L B a b).length = b - a := by unfold pm_L; simp
theorem pm_L_at {B : Nat → Nat} {a b i : Nat} (h : i < b - a) : (pm_L B a b).getD i 0 = B (a + i) := by
  unfold pm_L
  rw [List.getD_eq_getElem?_getD, List.getElem?_map, List.getElem?_range h]
  rfl
theorem pm_L_eq {B : Nat → Nat} {a b : Nat} {K : List Nat} : pm_L B a b = K ↔ K.length = b - a ∧ ∀ i, i < b - a → B (a + i) = K.getD i 0 := by
  constructor
  · intro h
    subst h
    exact ⟨pm_L_len1 B a b, fun i hi => (pm_L_at hi).symm⟩
  · rintro ⟨h1, h2⟩
    apply List.ext_getElem?
    intro i
    by_cases c : i < b - a
    · have e1 := pm_L_at (B := B) c
      have l1 : i < (pm_L B a b).length := by rw [pm_L_len1]; exact c
      have l2 : i < K.length := by omega
      have e2 := h2 i c
      rw [List.getD_eq_getElem?_getD, List.getElem?_eq_getElem l1] at e1
      rw [List.getD_eq_getElem?_getD, List.getElem?_eq_getElem l2] at e2
      rw [List.getElem?_eq_getElem l1, List.getElem?_eq_getElem l2]
      have e1' : (pm_L B a b)[i] = B (a + i) := e1
      have e2' : B (a + i) = K[i] := e2
      rw [e1', e2']
    · rw [List.getElem?_eq_none (by rw [pm_L_len1]; omega), List.getElem?_eq_none (by omega)]
section PTk
variable {n sz : Nat} {B : Nat → Nat} {ct rt : Nat → Int32}
theorem pr_see {k : Nat} (hx : pp_tx B sz ct rt) (hk : k ≤ 900) : zf_X11_see (nI sz) rt (nI k) = some (if k < sz then nI (B k) else (-1 : Int32)) := by
  have h9 := hx.1
  unfold zf_X11_see
  by_cases c : k < sz
  · rw [if_neg (fun z => by have := (pn_le (by omega) (by omega)).mp z; omega), pu_ld (by omega) (by omega), pu_e1, if_pos c, (hx.2 k c).2.1]
  · rw [if_pos ((pn_le (by omega) (by omega)).mpr (by omega)), if_neg c]
theorem pb_dig : ∀ b, b < 256 → zf_X5_isDigit (nI b) = some (if 48 ≤ b ∧ b ≤ 57 then 1 else 0) ∧ zf_X11_isDigit (nI b) = some (if 48 ≤ b ∧ b ≤ 57 then 1 else 0) := by decide +kernel
theorem pb_let : ∀ b, b < 256 → zf_X5_isLetter (nI b) = some (if 97 ≤ b ∧ b ≤ 122 then 1 else 0) ∧ zf_X11_isSmall (nI b) = some (if 97 ≤ b ∧ b ≤ 122 then 1 else 0) := by decide +kernel
theorem pb_m1 : zf_X11_isDigit (-1 : Int32) = some 0 ∧ zf_X11_isSmall (-1 : Int32) = some 0 := by decide +kernel
theorem pc_sp {i : Nat} (hn : 1000 ≤ n) (hx : pp_tx B sz ct rt) (hi : i ≤ sz) : ∃ g r, za_it (fun v => zb_X5_advance_8 (nI sz) ct v) n (nI i) = some (g, nI r) ∧ pm_rs (pm_sp B sz) i r ∧ r ≤ sz := by
  have h9 := hx.1
  refine pu_run hn h9 hi (fun j h => h.1) ?_ ?_
  · intro j hj ⟨h1, h2⟩
    obtain ⟨b1, b2, b3⟩ := hx.2 j h1
    unfold zb_X5_advance_8
    rw [if_neg (fun z => by have := (pn_le (by omega) (by omega)).mp z; omega), pu_ld (by omega) (by omega), pu_e1, b1]
    rcases h2 with h2 | h2
    · rw [if_pos ((pv_eq 10 (by omega) (by omega)).mpr h2), pn_a1, pu_e1]
    · rw [if_neg (fun z => by have := (pv_eq 10 (by omega) (by omega)).mp z; omega), pu_e1, if_pos ((pv_eq 32 (by omega) (by omega)).mpr h2), pn_a1, pu_e1]
  · intro j hj h
    refine ⟨1, by omega, ?_⟩
    unfold zb_X5_advance_8
    by_cases c : j < sz
    · obtain ⟨b1, b2, b3⟩ := hx.2 j c
      have h2 : ¬ (B j = 10 ∨ B j = 32) := fun z => h ⟨c, z⟩
      rw [if_neg (fun z => by have := (pn_le (by omega) (by omega)).mp z; omega), pu_ld (by omega) (by omega), pu_e1, b1, if_neg (fun z => h2 (Or.inl ((pv_eq 10 (by omega) (by omega)).mp z))), pu_e1, if_neg (fun z => h2 (Or.inr ((pv_eq 32 (by omega) (by omega)).mp z)))]
    · rw [if_pos ((pn_le (by omega) (by omega)).mpr (by omega))]
theorem pr_sp {i : Nat} (hn : 1000 ≤ n) (hx : pp_tx B sz ct rt) (hi : i ≤ sz) : ∃ g r, za_it (fun v => zb_X11_next_8 (nI sz) rt v) n (nI i) = some (g, nI r) ∧ pm_rs (pm_sp B sz) i r ∧ r ≤ sz := by
  have h9 := hx.1
  refine pu_run hn h9 hi (fun j h => h.1) ?_ ?_
  · intro j hj ⟨h1, h2⟩
    obtain ⟨b1, b2, b3⟩ := hx.2 j h1
    unfold zb_X11_next_8
    rw [pr_see hx (by omega), if_pos h1, pu_e1]
    rcases h2 with h2 | h2
    · rw [if_pos ((pv_eq 10 (by omega) (by omega)).mpr h2), pn_a1, pu_e1]
    · rw [if_neg (fun z => by have := (pv_eq 10 (by omega) (by omega)).mp z; omega), pu_e1, if_pos ((pv_eq 32 (by omega) (by omega)).mpr h2), pn_a1, pu_e1]
  · intro j hj h
    refine ⟨1, by omega, ?_⟩
    unfold zb_X11_next_8
    rw [pr_see hx (by omega), pu_e1]
    by_cases c : j < sz
    · obtain ⟨b1, b2, b3⟩ := hx.2 j c
      have h2 : ¬ (B j = 10 ∨ B j = 32) := fun z => h ⟨c, z⟩
      rw [if_pos c, if_neg (fun z => h2 (Or.inl ((pv_eq 10 (by omega) (by omega)).mp z))), pu_e1, if_neg (fun z => h2 (Or.inr ((pv_eq 32 (by omega) (by omega)).mp z)))]
    · rw [if_neg c, if_neg (by decide), pu_e1, if_neg (by decide)]
theorem pc_let {i : Nat} (hn : 1000 ≤ n) (hx : pp_tx B sz ct rt) (hi : i ≤ sz) : ∃ g r, za_it (fun v => zb_X5_advance_207 (nI sz) ct v) n (nI i) = some (g, nI r) ∧ pm_rs (pm_le B sz) i r ∧ r ≤ sz := by
  have h9 := hx.1
  refine pu_run hn h9 hi (fun j h => h.1) ?_ ?_
  · intro j hj ⟨h1, h2⟩
    obtain ⟨b1, b2, b3⟩ := hx.2 j h1
    unfold zb_X5_advance_207
    rw [if_neg (fun z => by have := (pn_le (by omega) (by omega)).mp z; omega), pu_ld (by omega) (by omega), pu_e1, b1, (pb_let _ b3).1, if_pos h2, pu_e1, if_neg (by decide), pn_a1, pu_e1]
  · intro j hj h
    refine ⟨1, by omega, ?_⟩
    unfold zb_X5_advance_207
    by_cases c : j < sz
    · obtain ⟨b1, b2, b3⟩ := hx.2 j c
      have h2 : ¬ (97 ≤ B j ∧ B j ≤ 122) := fun z => h ⟨c, z⟩
      rw [if_neg (fun z => by have := (pn_le (by omega) (by omega)).mp z; omega), pu_ld (by omega) (by omega), pu_e1, b1, (pb_let _ b3).1, if_neg h2, pu_e1, if_pos rfl]
    · rw [if_pos ((pn_le (by omega) (by omega)).mpr (by omega))]
theorem pr_let {i : Nat} (hn : 1000 ≤ n) (hx : pp_tx B sz ct rt) (hi : i ≤ sz) : ∃ g r, za_it (fun v => zb_X11_next_89 (nI sz) rt v) n (nI i) = some (g, nI r) ∧ pm_rs (pm_le B sz) i r ∧ r ≤ sz := by
  have h9 := hx.1
  refine pu_run hn h9 hi (fun j h => h.1) ?_ ?_
  · intro j hj ⟨h1, h2⟩
    obtain ⟨b1, b2, b3⟩ := hx.2 j h1
    unfold zb_X11_next_89
    rw [pr_see hx (by omega), if_pos h1, pu_e1, (pb_let _ b3).2, if_pos h2, pu_e1, if_neg (by decide), pn_a1, pu_e1]
  · intro j hj h
    refine ⟨1, by omega, ?_⟩
    unfold zb_X11_next_89
    rw [pr_see hx (by omega), pu_e1]
    by_cases c : j < sz
    · obtain ⟨b1, b2, b3⟩ := hx.2 j c
      have h2 : ¬ (97 ≤ B j ∧ B j ≤ 122) := fun z => h ⟨c, z⟩
      rw [if_pos c, (pb_let _ b3).2, if_neg h2, pu_e1, if_pos rfl]
    · rw [if_neg c, pb_m1.2, pu_e1, if_pos rfl]
def pm_nv (B : Nat → Nat) (a : Nat) : Nat → Nat
  | 0 => 0
  | k + 1 => if k < 3 then 10 * pm_nv B a k + (B (a + k) - 48) else pm_nv B a k
theorem pm_nv_le {B : Nat → Nat} {a : Nat} : ∀ k, (∀ j, j < k → B (a + j) ≤ 57) → pm_nv B a k ≤ 999 ∧ (k ≤ 2 → pm_nv B a k ≤ 99) ∧ (k ≤ 1 → pm_nv B a k ≤ 9) ∧ (k = 0 → pm_nv B a k = 0) := by
  intro k
  induction k with
  | zero => intro _; exact ⟨by simp [pm_nv], fun _ => by simp [pm_nv], fun _ => by simp [pm_nv], fun _ => rfl⟩
  | succ k ih =>
    intro h
    obtain ⟨h1, h2, h3, h4⟩ := ih (fun j hj => h j (by omega))
    have hb := h k (by omega)
    unfold pm_nv
    by_cases c : k < 3
    · rw [if_pos c]
      refine ⟨?_, ?_, ?_, fun z => by omega⟩
      · have := h2 (by omega); omega
      · intro z; have := h3 (by omega); omega
      · intro z; have := h4 (by omega); omega
    · rw [if_neg c]
      exact ⟨h1, fun z => by omega, fun z => by omega, fun z => by omega⟩
theorem pc_dig {i : Nat} (hn : 1000 ≤ n) (hx : pp_tx B sz ct rt) (hi : i ≤ sz) : ∃ g r, za_it (fun v => zb_X5_advance_90 (nI sz) ct (nI i) v.1 v.2) n (nI i, (0 : Int32)) = some (g, nI r, nI (pm_nv B i (r - i))) ∧ pm_rs (pm_di B sz) i r ∧ r ≤ sz := by
  have h9 := hx.1
  have := pu_up (b := fun v => zb_X5_advance_90 (nI sz) ct (nI i) v.1 v.2) (n := n) (v := (nI i, (0 : Int32))) (P := fun x => ∃ r, x.2.1 = nI r ∧ x.2.2 = nI (pm_nv B i (r - i)) ∧ pm_rs (pm_di B sz) i r ∧ r ≤ sz) (fun k v => v.1 = nI (i + k) ∧ v.2 = nI (pm_nv B i k) ∧ i + k ≤ sz ∧ ∀ j, i ≤ j → j < i + k → pm_di B sz j) (sz - i) (by omega) ⟨rfl, rfl, by omega, fun j h1 h2 => by omega⟩ (by
    rintro k ⟨v8, v9⟩ hk ⟨e1, e2, h2, h3⟩
    dsimp only at e1 e2 ⊢
    subst e1 e2
    have hv := pm_nv_le (B := B) (a := i) k (fun j hj => (h3 (i + j) (by omega) (by omega)).2.2)
    unfold zb_X5_advance_90
    by_cases c0 : i + k < sz
    · obtain ⟨b1, b2, b3⟩ := hx.2 _ c0
      rw [if_neg (fun z => by have := (pn_le (by omega) (by omega)).mp z; omega), pu_ld (by omega) (by omega), pu_e1, b1, (pb_dig _ b3).1, pu_e1]
      by_cases c : 48 ≤ B (i + k) ∧ B (i + k) ≤ 57
      · rw [if_pos c, if_neg (by decide), show nI (i + k) - nI i = nI k from by rw [pn_sub (by omega)]; congr 1; omega, pn_a1]
        have hval : (if (3 : Int32) ≤ nI k then some (nI (pm_nv B i k)) else zd_1 (some (nI (B (i + k)))) (fun v12 => some (((nI (pm_nv B i k) * (10 : Int32)) + v12) - (48 : Int32)))) = some (nI (pm_nv B i (k + 1))) := by
          by_cases c3 : k < 3
          · rw [if_neg (fun z => by have := (pv_le 3 (by omega) (by omega)).mp z; omega), pu_e1, show nI (pm_nv B i k) * (10 : Int32) = nI (pm_nv B i k * 10) from pn_mul _ 10, pn_add, pv_sub 48 (by omega)]
            congr 2
            show _ = (if k < 3 then _ else _)
            rw [if_pos c3]; omega
          · rw [if_pos ((pv_le 3 (by omega) (by omega)).mpr (by omega))]
            congr 2
            show _ = (if k < 3 then _ else _)
            rw [if_neg c3]
        rw [hval, pu_e1, pu_e1]
        refine pu_go ⟨by omega, by rw [Nat.add_assoc], rfl, by omega, ?_⟩
        intro j h4 h5
        by_cases d : j = i + k
        · rw [d]; exact ⟨c0, c⟩
        · exact h3 j h4 (by omega)
      · rw [if_neg c, if_pos rfl]
        exact pu_out (by decide) ⟨i + k, rfl, by rw [show i + k - i = k from by omega], ⟨by omega, h3, fun z => c z.2⟩, h2⟩
    · rw [if_pos ((pn_le (by omega) (by omega)).mpr (by omega))]
      exact pu_out (by decide) ⟨i + k, rfl, by rw [show i + k - i = k from by omega], ⟨by omega, h3, fun z => c0 z.1⟩, h2⟩)
  obtain ⟨⟨g, v, v'⟩, h1, r, h2, h3, h4, h5⟩ := this
  dsimp only at h2 h3
  subst h2 h3
  exact ⟨g, r, h1, h4, h5⟩
theorem pr_dig {i : Nat} (hn : 1000 ≤ n) (hx : pp_tx B sz ct rt) (hi : i ≤ sz) : ∃ g r, za_it (fun v => zb_X11_next_146 (nI sz) rt (nI i) v.1 v.2) n (nI i, (0 : Int32)) = some (g, nI r, nI (pm_nv B i (r - i))) ∧ pm_rs (pm_di B sz) i r ∧ r ≤ sz := by
  have h9 := hx.1
  have := pu_up (b := fun v => zb_X11_next_146 (nI sz) rt (nI i) v.1 v.2) (n := n) (v := (nI i, (0 : Int32))) (P := fun x => ∃ r, x.2.1 = nI r ∧ x.2.2 = nI (pm_nv B i (r - i)) ∧ pm_rs (pm_di B sz) i r ∧ r ≤ sz) (fun k v => v.1 = nI (i + k) ∧ v.2 = nI (pm_nv B i k) ∧ i + k ≤ sz ∧ ∀ j, i ≤ j → j < i + k → pm_di B sz j) (sz - i) (by omega) ⟨rfl, rfl, by omega, fun j h1 h2 => by omega⟩ (by
    rintro k ⟨v8, v9⟩ hk ⟨e1, e2, h2, h3⟩
    dsimp only at e1 e2 ⊢
    subst e1 e2
    have hv := pm_nv_le (B := B) (a := i) k (fun j hj => (h3 (i + j) (by omega) (by omega)).2.2)
    unfold zb_X11_next_146
    rw [pr_see hx (by omega), pu_e1]
    by_cases c0 : i + k < sz
    · obtain ⟨b1, b2, b3⟩ := hx.2 _ c0
      rw [if_pos c0, (pb_dig _ b3).2, pu_e1]
      by_cases c : 48 ≤ B (i + k) ∧ B (i + k) ≤ 57
      · rw [if_pos c, if_neg (by decide), show nI (i + k) - nI i = nI k from by rw [pn_sub (by omega)]; congr 1; omega, pn_a1]
        have hval : (if (3 : Int32) ≤ nI k then some (nI (pm_nv B i k)) else zd_1 (some (nI (B (i + k)))) (fun v28 => zd_1 (some ((((10 : Int32) * nI (pm_nv B i k)) + v28) - (48 : Int32))) (fun v29 => some v29))) = some (nI (pm_nv B i (k + 1))) := by
          by_cases c3 : k < 3
          · rw [if_neg (fun z => by have := (pv_le 3 (by omega) (by omega)).mp z; omega), pu_e1, pu_e1, pv_mul 10, pn_add, pv_sub 48 (by omega)]
            congr 2
            show _ = (if k < 3 then _ else _)
            rw [if_pos c3]; omega
          · rw [if_pos ((pv_le 3 (by omega) (by omega)).mpr (by omega))]
            congr 2
            show _ = (if k < 3 then _ else _)
            rw [if_neg c3]
        rw [hval, pu_e1, pu_e1]
        refine pu_go ⟨by omega, by rw [Nat.add_assoc], rfl, by omega, ?_⟩
        intro j h4 h5
        by_cases d : j = i + k
        · rw [d]; exact ⟨c0, c⟩
        · exact h3 j h4 (by omega)
      · rw [if_neg c, if_pos rfl]
        exact pu_out (by decide) ⟨i + k, rfl, by rw [show i + k - i = k from by omega], ⟨by omega, h3, fun z => c z.2⟩, h2⟩
    · rw [if_neg c0, pb_m1.1, pu_e1, if_pos rfl]
      exact pu_out (by decide) ⟨i + k, rfl, by rw [show i + k - i = k from by omega], ⟨by omega, h3, fun z => c0 z.1⟩, h2⟩)
  obtain ⟨⟨g, v, v'⟩, h1, r, h2, h3, h4, h5⟩ := this
  dsimp only at h2 h3
  subst h2 h3
  exact ⟨g, r, h1, h4, h5⟩
end PTk
