/-! by habit -/
def pm_hbt (x : Nat) : Nat → Nat
  | 0 => 0
  | d + 1 => if x.testBit (5 - d) = true then 3 + (5 - d) else pm_hbt x d
def pm_hb (q : Nat → Nat) (w s : Nat) : Nat := if pm_wy q w s 1 = 0 then 1 else if pm_rg s < q 1 then pm_hbt (pm_hs s &&& q (10 + (pm_rg s + 1))) 6 else 0
theorem pm_hbt_eq {x k : Nat} (hk : k < 6) (hx : x.testBit k = true) (hlo : ∀ j, j < k → x.testBit j = false) : ∀ d, d ≤ 6 → 6 - d ≤ k → pm_hbt x d = 3 + k := by
  intro d
  induction d with
  | zero => intro _ h; omega
  | succ d ih =>
    intro hd hm
    show (if x.testBit (5 - d) = true then 3 + (5 - d) else pm_hbt x d) = 3 + k
    by_cases c : 5 - d = k
    · rw [c, if_pos hx]
    · rw [if_neg (by rw [hlo (5 - d) (by omega)]; decide)]
      exact ih (by omega) (by omega)
theorem pm_hbt_0 {x : Nat} (hlo : ∀ j, j < 6 → x.testBit j = false) : ∀ d, d ≤ 6 → pm_hbt x d = 0 := by
  intro d
  induction d with
  | zero => intro _; rfl
  | succ d ih =>
    intro hd
    show (if x.testBit (5 - d) = true then 3 + (5 - d) else pm_hbt x d) = 0
    rw [if_neg (by rw [hlo (5 - d) (by omega)]; decide)]
    exact ih (by omega)
theorem pm_hbt_c {x : Nat} : ∀ d, d ≤ 6 → pm_hbt x d = 0 ∨ ∃ k, k < 6 ∧ pm_hbt x d = 3 + k ∧ x.testBit k = true := by
  intro d
  induction d with
  | zero => intro _; exact Or.inl rfl
  | succ d ih =>
    intro hd
    have e : pm_hbt x (d + 1) = (if x.testBit (5 - d) = true then 3 + (5 - d) else pm_hbt x d) := rfl
    rw [e]
    by_cases c : x.testBit (5 - d) = true
    · rw [if_pos c]; exact Or.inr ⟨5 - d, by omega, rfl, c⟩
    · rw [if_neg c]; exact ih (by omega)
theorem pm_hb_c (q : Nat → Nat) (w s : Nat) : pm_hb q w s < 9 ∧ pm_wy q w s (pm_hb q w s) = 0 ∧ pm_hb q w s ≠ 2 := by
  unfold pm_hb
  by_cases c : pm_wy q w s 1 = 0
  · rw [if_pos c]; exact ⟨by omega, c, by omega⟩
  · rw [if_neg c]
    have h0 : pm_wy q w s 0 = 0 := by unfold pm_wy; rw [if_pos rfl]
    by_cases d : pm_rg s < q 1
    · rw [if_pos d]
      rcases pm_hbt_c (x := pm_hs s &&& q (10 + (pm_rg s + 1))) 6 (Nat.le_refl _) with h | ⟨k, k1, k2, k3⟩
      · rw [h]; exact ⟨by omega, h0, by omega⟩
      · rw [k2]
        rw [Nat.testBit_and, Bool.and_eq_true] at k3
        exact ⟨by omega, (pm_wyf k1).mpr k3.1, by omega⟩
    · rw [if_neg d]; exact ⟨by omega, h0, by omega⟩
theorem pm_hb_mv {q : Nat → Nat} {w s : Nat} (hq : pm_cliff q) (hs : pm_st q s) : pm_mv q (pm_hb q w s) := by
  obtain ⟨h1, h2, _⟩ := pm_hb_c q w s
  rcases pm_wy_mv hq hs (by omega) h2 with h | h
  · exact Or.inl h
  · exact Or.inr ⟨by omega, h⟩
def pm_af (q : Nat → Nat) (w s : Nat) : Nat := pm_ac q w s (pm_hb q w s)
def pm_hi1 (q : Nat → Nat) (w s0 : Nat) : Nat → Nat
  | 0 => s0
  | k + 1 => pm_af q w (pm_hi1 q w s0 k)
def pm_ph (s : Nat) : Nat := 320 * pm_rg s + 5 * (63 - pm_hs s) + pm_sg s
section PHa
variable {n : Nat} {q : Nat → Nat} {w s0 : Nat} {top things tf tt mf mt : Int32} {bars gives rough code told fa sk : Nat → Int32}
theorem pm_af_st {s : Nat} (hq : pm_cliff q) (hs : pm_st q s) : pm_st q (pm_af q w s) := by
  obtain ⟨h1, h2, _⟩ := pm_hb_c q w s
  exact pm_acst hq hs (by omega) h2
theorem pm_hi1_st (hq : pm_cliff q) (h0 : pm_st q s0) : ∀ k, pm_st q (pm_hi1 q w s0 k) := by
  intro k
  induction k with
  | zero => exact h0
  | succ k ih => exact pm_af_st hq ih
theorem pm_ph_lt {s : Nat} (hq : pm_cliff q) (hs : pm_st q s) : pm_ph s < 2880 := by
  have h1 := hs.1
  have h2 := hq.1
  have h3 := pm_sg_lt s
  unfold pm_ph
  omega
theorem pm_ph_up {s : Nat} (hq : pm_cliff q) (hs : pm_st q s) : pm_af q w s = s ∨ pm_ph s < pm_ph (pm_af q w s) := by
  obtain ⟨h1, h2, h3⟩ := pm_hb_c q w s
  obtain ⟨e, e1, e2, e3, i1, i2, i3, i4⟩ := pm_acp hq hs (show pm_hb q w s < 15 by omega) h2
  have hg := pm_sg_lt s
  have hh := pm_hs_lt s
  have hp := pm_p6 hq.2.1
  have hsd := pm_sd_eq s
  unfold pm_af
  generalize pm_hb q w s = m at *
  rw [e]
  by_cases m0 : m = 0
  · subst m0
    simp only [if_true, show (0 : Nat) < 3 from by omega, show ¬ (0 : Nat) = 1 from by omega, show ¬ (0 : Nat) = 2 from by omega, if_false]
    by_cases c : pm_sg s < 4
    · right
      rw [if_pos c]
      unfold pm_ph
      rw [pm_rg_sd hh (by omega), pm_hs_sd hh (by omega), pm_sg_sd (by omega)]
      omega
    · left
      rw [if_neg c]
      exact hsd
  · right
    by_cases m1 : m = 1
    · subst m1
      have ht := pm_tired_le q w (pm_rg s + 1) (pm_pc (pm_hs s)) (pm_sg s)
      simp only [if_true, show (1 : Nat) < 3 from by omega, show ¬ (1 : Nat) = 0 from by omega, if_false]
      unfold pm_ph
      rw [pm_rg_sd hh ht, pm_hs_sd hh ht, pm_sg_sd ht]
      omega
    · have n3 : ¬ m < 3 := by omega
      simp only [if_neg m0, if_neg m1, if_neg h3, if_neg n3, if_pos h1]
      have hb := i3 (by omega) h1
      have ht := pb_tb _ hh _ (by omega) hb
      have h2p : 1 ≤ 2 ^ (m - 3) := Nat.one_le_two_pow
      unfold pm_ph
      rw [pm_rg_sd (by omega) hg, pm_hs_sd (by omega) hg, pm_sg_sd hg]
      omega
/-- when it is settled -/
def pm_T (q : Nat → Nat) (w s0 T : Nat) : Prop := T < 2880 ∧ pm_af q w (pm_hi1 q w s0 T) = pm_hi1 q w s0 T ∧ ∀ k, k < T → ¬ pm_af q w (pm_hi1 q w s0 k) = pm_hi1 q w s0 k
theorem pm_T_ex (hq : pm_cliff q) (h0 : pm_st q s0) : ∃ T, pm_T q w s0 T := by
  have key : ∀ n, (∃ T, T < n ∧ pm_af q w (pm_hi1 q w s0 T) = pm_hi1 q w s0 T ∧ ∀ k, k < T → ¬ pm_af q w (pm_hi1 q w s0 k) = pm_hi1 q w s0 k) ∨ ((∀ k, k < n → ¬ pm_af q w (pm_hi1 q w s0 k) = pm_hi1 q w s0 k) ∧ n ≤ pm_ph (pm_hi1 q w s0 n)) := by
    intro n
    induction n with
    | zero => exact Or.inr ⟨fun k h => absurd h (by omega), Nat.zero_le _⟩
    | succ n ih =>
      rcases ih with ⟨T, t1, t2⟩ | ⟨h1, h2⟩
      · exact Or.inl ⟨T, by omega, t2⟩
      · rcases pm_ph_up (w := w) hq (pm_hi1_st (w := w) hq h0 n) with c | c
        · exact Or.inl ⟨n, by omega, c, h1⟩
        · by_cases d : pm_af q w (pm_hi1 q w s0 n) = pm_hi1 q w s0 n
          · exact Or.inl ⟨n, by omega, d, h1⟩
          · right
            refine ⟨?_, ?_⟩
            · intro k hk
              by_cases f : k = n
              · subst f; exact d
              · exact h1 k (by omega)
            · show n + 1 ≤ pm_ph (pm_af q w (pm_hi1 q w s0 n))
              omega
  rcases key 2880 with ⟨T, h⟩ | ⟨_, h⟩
  · exact ⟨T, h⟩
  · have := pm_ph_lt hq (pm_hi1_st (w := w) hq h0 2880)
    omega
theorem pm_T_mono {T : Nat} (hq : pm_cliff q) (h0 : pm_st q s0) (hT : pm_T q w s0 T) : ∀ d a, a + d ≤ T → pm_ph (pm_hi1 q w s0 a) + d ≤ pm_ph (pm_hi1 q w s0 (a + d)) := by
  intro d
  induction d with
  | zero => intro a _; exact Nat.le_refl _
  | succ d ih =>
    intro a h
    have h1 := ih a (by omega)
    rcases pm_ph_up (w := w) hq (pm_hi1_st (w := w) hq h0 (a + d)) with c | c
    · exact absurd c (hT.2.2 (a + d) (by omega))
    · show _ ≤ pm_ph (pm_af q w (pm_hi1 q w s0 (a + d)))
      omega
theorem pm_T_inj {T a b : Nat} (hq : pm_cliff q) (h0 : pm_st q s0) (hT : pm_T q w s0 T) (hb : b ≤ T) (hab : a < b) : ¬ pm_hi1 q w s0 a = pm_hi1 q w s0 b := by
  intro z
  have := pm_T_mono hq h0 hT (b - a) a (by omega)
  rw [show a + (b - a) = b from by omega, z] at this
  omega
/-- the class's habit -/
theorem pc_habitual {s : Nat} (hn : 1000 ≤ n) (hq : pm_cliff q) (hK : pc_K q top things tf tt mf mt bars gives rough code) (hT : pc_told q w told) (hs : pm_st q s) (hw : w ≤ 9) : pu_ok (zf_X3_habitual n top things tf tt mf mt bars gives rough code (nI w) told fa sk (nI s)) (fun r => r.1 = nI (pm_dd (pm_hb q w s)) ∧ pc_told q w r.2.1) := by
  have hlt := pm_st_lt hq hs
  have hq1 := hq.1
  have hs1 := hs.1
  unfold zf_X3_habitual
  refine pu_d4.mpr (pu_mono (pc_refusal (m := 1) hn hq hK hT hs (Or.inl (by omega)) hw) ?_)
  rintro ⟨v1, a2, a3, a4⟩ ⟨e1, e2⟩
  dsimp only at e1 e2 ⊢
  subst e1
  have hwl : pm_wy q w s 1 < 5 := by unfold pm_wy; repeat (first | omega | split)
  unfold pm_hb
  by_cases c : pm_wy q w s 1 = 0
  · rw [if_pos (by rw [c]; rfl), if_pos c]
    exact pu_some.mpr ⟨rfl, e2⟩
  rw [if_neg (fun z => c ((pv_eq 0 (by omega) (by omega)).mp z)), if_neg c, pc_rungOf hlt, pu_e1, pn_a1, pu_e1, hK.1, pc_isRung (by omega) (by omega), pu_e1]
  by_cases d : pm_rg s < q 1
  rotate_left
  · rw [if_neg (show ¬ pm_rg s + 1 ≤ q 1 by omega), if_pos (by decide), if_neg d]
    exact pu_some.mpr ⟨rfl, e2⟩
  rw [if_pos (show pm_rg s + 1 ≤ q 1 by omega), if_neg (by decide), if_pos d, pc_thingsOf hlt, pu_e1, pu_ld (by omega) (by omega), pu_e1, (hK.2.2.1 _ (by omega)).1, pn_and, pu_e1]
  have hx : pm_hs s &&& q (10 + (pm_rg s + 1)) < 64 := Nat.lt_of_le_of_lt Nat.and_le_left (pm_hs_lt s)
  generalize pm_hs s &&& q (10 + (pm_rg s + 1)) = x at hx ⊢
  refine pu_d2.mpr (pu_up (fun k v => v = nI k ∧ ∀ j, j < k → x.testBit j = false) 6 (by omega) ⟨rfl, fun j h => absurd h (by omega)⟩ ?_)
  rintro k v hk ⟨rfl, e3⟩
  unfold zb_X3_habitual_49
  by_cases hc : 6 ≤ k
  · have : k = 6 := by omega
    subst this
    rw [if_pos (by decide)]
    refine pu_out (by decide) ?_
    dsimp only
    rw [if_neg (by decide), if_pos rfl, pm_hbt_0 e3 6 (Nat.le_refl _)]
    exact pu_some.mpr ⟨rfl, e2⟩
  rw [if_neg (fun z => hc ((pv_le 6 (by omega) (by omega)).mp z)), show (1 : Int32) = nI 1 from rfl, pb_bit _ hx _ (by omega)]
  by_cases f : x.testBit k = true
  · rw [if_pos f, if_neg (by decide)]
    refine pu_out (by decide) ?_
    dsimp only
    rw [if_pos rfl, pm_hbt_eq (by omega) f e3 6 (Nat.le_refl _) (by omega), pv_add 10]
    refine pu_some.mpr ⟨?_, e2⟩
    dsimp only
    rw [show pm_dd (3 + k) = 10 + k from by unfold pm_dd; rw [if_neg (by omega), if_pos (by omega)]; omega]
  · rw [if_neg f, if_pos (by decide), pn_add, pu_e1]
    refine pu_go ⟨by omega, rfl, ?_⟩
    intro j hj
    by_cases g : j = k
    · subst g; simpa using f
    · exact e3 j (by omega)
theorem pc_afterHabit {s : Nat} (hn : 1000 ≤ n) (hq : pm_cliff q) (hK : pc_K q top things tf tt mf mt bars gives rough code) (hT : pc_told q w told) (hs : pm_st q s) (hw : w ≤ 9) : pu_ok (zf_X3_afterHabit n top things tf tt mf mt bars gives rough code (nI w) told fa sk (nI s)) (fun r => r.1 = nI (pm_af q w s) ∧ pc_told q w r.2.1) := by
  unfold zf_X3_afterHabit
  refine pu_d4.mpr (pu_mono (pc_habitual hn hq hK hT hs hw) ?_)
  rintro ⟨v1, a2, a3, a4⟩ ⟨e1, e2⟩
  dsimp only at e1 e2 ⊢
  subst e1
  obtain ⟨h1, h2, _⟩ := pm_hb_c q w s
  refine pu_d4.mpr (pu_mono (pc_behind hn hq hK e2 hs (by omega) hw h2) ?_)
  rintro ⟨v5, a6, a7, a8⟩ ⟨e3, e4⟩
  exact pu_some.mpr ⟨e3, e4⟩
/-- the reference's habit -/
theorem pr_habitOf {all rk wds : Nat → Int32} {s : Nat} (hn : 1000 ≤ n) (ha : pr_all all q) (hq : pm_cliff q) (hw : q 40 = w) (hw9 : w ≤ 9) (hs : pm_st q s) : pu_ok (zf_X11_habitOf n all rk wds (nI s)) (fun r => r.1 = nI (pm_hb q w s)) := by
  have hlt := pm_st_lt hq hs
  have hq1 := hq.1
  have hq2 := hq.2.1
  have hs1 := hs.1
  have hp := pm_p6 hq2
  unfold zf_X11_habitOf
  rw [pv_ld 40 (by omega) (by omega), pu_e1, ha 40 (by omega), hw]
  refine pu_d3.mpr (pu_mono (pr_whyBy (m := 1) hn ha hq hs (by omega) hw9) ?_)
  rintro ⟨v2, a3, a4⟩ e1
  dsimp only at e1 ⊢
  subst e1
  have hwl : pm_wy q w s 1 < 5 := by unfold pm_wy; repeat (first | omega | split)
  unfold pm_hb
  by_cases c : pm_wy q w s 1 = 0
  · rw [if_pos (by rw [c]; rfl), if_pos c]
    exact pu_some.mpr rfl
  rw [if_neg (fun z => c ((pv_eq 0 (by omega) (by omega)).mp z)), if_neg c, pr_rungIn hlt, pu_e1]
  by_cases d : pm_rg s < q 1
  rotate_left
  · rw [if_neg d]
    refine pu_d2.mpr (pu_up (fun k v => v = nI 0) 0 (by omega) rfl ?_)
    rintro k v _ rfl
    unfold zb_X11_habitOf_25
    rw [pv_ld 2 (by omega) (by omega), pu_e1, ha 2 (by omega)]
    by_cases f : q 2 ≤ 0
    · rw [if_pos ((pn_le (by omega) (by omega)).mpr f)]
      exact pu_out (by decide) (pu_some.mpr rfl)
    · rw [if_neg (fun z => f ((pn_le (by omega) (by omega)).mp z)), pv_ld 1 (by omega) (by omega), pu_e1, ha 1 (by omega), if_pos ((pn_le (by omega) (by omega)).mpr (by omega))]
      exact pu_out (by decide) (pu_some.mpr rfl)
  rw [if_pos d]
  have hb64 : q (10 + (pm_rg s + 1)) < 64 := Nat.lt_of_lt_of_le (hq.2.2.2.1 _ (by omega)).1 hp
  have hx : pm_hs s &&& q (10 + (pm_rg s + 1)) < 64 := Nat.lt_of_le_of_lt Nat.and_le_left (pm_hs_lt s)
  have hxT : pm_hs s &&& q (10 + (pm_rg s + 1)) < 2 ^ q 2 := Nat.lt_of_le_of_lt Nat.and_le_left hs.2
  have hbe : all (10 + (pm_rg s + 1)) = nI (q (10 + (pm_rg s + 1))) := ha _ (by omega)
  generalize hxe : pm_hs s &&& q (10 + (pm_rg s + 1)) = x at hx hxT ⊢
  refine pu_d2.mpr (pu_up (fun k v => v = nI k ∧ ∀ j, j < k → x.testBit j = false) (q 2) (by omega) ⟨rfl, fun j h => absurd h (by omega)⟩ ?_)
  rintro k v hk ⟨rfl, e3⟩
  unfold zb_X11_habitOf_25
  rw [pv_ld 2 (by omega) (by omega), pu_e1, ha 2 (by omega)]
  by_cases hc : q 2 ≤ k
  · have : k = q 2 := by omega
    subst this
    rw [if_pos ((pn_le (by omega) (by omega)).mpr hc)]
    refine pu_out (by decide) ?_
    dsimp only
    rw [if_neg (by decide), if_pos rfl, pm_hbt_0 (fun j hj => ?_) 6 (Nat.le_refl _)]
    · exact pu_some.mpr rfl
    · by_cases g : j < q 2
      · exact e3 j g
      · exact Nat.testBit_lt_two_pow (Nat.lt_of_lt_of_le hxT (Nat.pow_le_pow_right (n := 2) (by omega) (by omega)))
  rw [if_neg (fun z => hc ((pn_le (by omega) (by omega)).mp z)), pv_ld 1 (by omega) (by omega), pu_e1, ha 1 (by omega), if_neg (fun z => by have := (pn_le (by omega) (by omega)).mp z; omega), pr_hasIn hlt, pu_e1, pv_add 10, pn_a1, show 10 + pm_rg s + 1 = 10 + (pm_rg s + 1) from by omega, pu_ld (by omega) (by omega), pu_e1, hbe, pn_and, hxe, pb_isIn _ hx _ (by omega), pu_e1]
  by_cases f : x.testBit k = true
  · rw [if_pos f, if_neg (by decide)]
    refine pu_out (by decide) ?_
    dsimp only
    rw [if_pos rfl, pm_hbt_eq (by omega) f e3 6 (Nat.le_refl _) (by omega), pv_add 3]
    exact pu_some.mpr rfl
  · rw [if_neg f, if_pos (by decide), pn_a1, pu_e1]
    refine pu_go ⟨by omega, rfl, ?_⟩
    intro j hj
    by_cases g : j = k
    · subst g; simpa using f
    · exact e3 j (by omega)
theorem pr_afterHabit {all rk wds : Nat → Int32} {s : Nat} (hn : 1000 ≤ n) (ha : pr_all all q) (hq : pm_cliff q) (hw : q 40 = w) (hw9 : w ≤ 9) (hs : pm_st q s) {β : Type} {P : β → Prop} {f : Int32 → (Nat → Int32) → (Nat → Int32) → Option β} (hf : ∀ a b, pu_ok (f (nI (pm_af q w s)) a b) P) : pu_ok (zd_3 (zf_X11_habitOf n all rk wds (nI s)) (fun v19 a20 a21 => zd_1 (za_ld all 2982 (40 : Int32)) (fun v22 => zd_3 (zf_X11_actedTo n all a20 a21 (nI s) v19 v22) f))) P := by
  refine pu_d3.mpr (pu_mono (pr_habitOf hn ha hq hw hw9 hs) ?_)
  rintro ⟨v19, a20, a21⟩ e1
  dsimp only at e1 ⊢
  subst e1
  obtain ⟨h1, h2, _⟩ := pm_hb_c q w s
  rw [pv_ld 40 (by omega) (by omega), pu_e1, ha 40 (by omega), hw]
  refine pu_d3.mpr (pu_mono (pr_actedTo hn ha hq hs (by omega) hw9 h2) ?_)
  rintro ⟨v23, a24, a25⟩ e1
  dsimp only at e1 ⊢
  subst e1
  exact hf _ _
theorem pr_laysRow {all rk wds row first : Nat → Int32} {tail round1 : Int32} {T : Nat} (hn : 10000 ≤ n) (ha : pr_all all q) (hq : pm_cliff q) (hw : q 40 = w) (hw9 : w ≤ 9) (hs : pm_now q = s0) (h0 : pm_st q s0) (hT : pm_T q w s0 T) :
    pu_ok (zf_X11_laysRow n tail round1 all rk wds row first) (fun r => r.1 = nI T ∧ r.2.1 = nI 1 ∧ ∀ k, k ≤ T → r.2.2.2.2.1 k = nI (pm_hi1 q w s0 k)) := by
  have hst := pm_hi1_st (w := w) hq h0
  have hT1 := hT.1
  unfold zf_X11_laysRow
  refine pu_d3.mpr (pu_up (fun i v => v.1 = nI i ∧ (∀ s, s < i → v.2 s = (-1 : Int32))) 2880 (by omega) ⟨rfl, fun s h => absurd h (by omega)⟩ ?_)
  rintro i ⟨v1, a1⟩ hi ⟨e1, e2⟩
  dsimp only at e1 e2 ⊢
  subst e1
  unfold zb_X11_laysRow_2
  by_cases hc : 2880 ≤ i
  rotate_left
  · rw [if_neg (fun z => hc ((pv_le 2880 (by omega) (by omega)).mp z)), pu_st (by omega) (by omega), pu_e1, pn_a1, pu_e1]
    refine pu_go ⟨by omega, rfl, ?_⟩
    intro s hs'
    dsimp only
    by_cases d : s = i
    · subst d; rw [pu_upe]
    · rw [pu_upn d]; exact e2 s (by omega)
  rw [if_pos ((pv_le 2880 (by omega) (by omega)).mpr hc)]
  refine pu_out (by decide) ?_
  dsimp only
  rw [pr_standNow ha, hs, pu_e1]
  refine pu_d7.mpr (pu_up (fun k v => v.1 = nI (pm_hi1 q w s0 k) ∧ v.2.1 = nI k ∧ (∀ j, j < k → v.2.2.2.2.1 j = nI (pm_hi1 q w s0 j) ∧ v.2.2.2.2.2 (pm_hi1 q w s0 j) = nI j) ∧ (∀ s, s < 2880 → (∀ j, j < k → ¬ s = pm_hi1 q w s0 j) → v.2.2.2.2.2 s = (-1 : Int32))) (T + 1) (by omega) ⟨rfl, rfl, fun j h => absurd h (by omega), fun s h _ => e2 s (by omega)⟩ ?_)
  rintro k ⟨v9, v10, a11, a12, a13, a14⟩ hk ⟨e1, e3, e4, e5⟩
  dsimp only at e1 e3 e4 e5 ⊢
  subst e1 e3
  have hlt := pm_st_lt hq (hst k)
  unfold zb_X11_laysRow_29
  rw [pu_ld hlt (by omega), pu_e1]
  by_cases hck : k = T + 1
  · have hfix : pm_hi1 q w s0 k = pm_hi1 q w s0 T := by rw [hck]; exact hT.2.1
    rw [hfix, (e4 T (by omega)).2, if_neg (fun z => (pn_ne1 (by omega)).mp z)]
    refine pu_out (by decide) ?_
    dsimp only
    rw [hfix] at hlt
    rw [pu_ld hlt (by omega), pu_e1, (e4 T (by omega)).2, hck, pn_sub (by omega), pu_e1]
    refine pu_some.mpr ⟨rfl, by rw [show T + 1 - T = 1 from by omega], ?_⟩
    intro j hj
    exact (e4 j (by omega)).1
  rw [e5 _ hlt (fun j hj z => pm_T_inj hq h0 hT (show k ≤ T by omega) hj z.symm), if_pos rfl, pu_st hlt (by omega), pu_e1, pu_st (by omega) (by omega), pu_e1, pn_a1, pu_e1]
  refine pr_afterHabit (by omega) ha hq hw hw9 (hst k) ?_
  intro a b
  refine pu_go ⟨by omega, rfl, rfl, ?_, ?_⟩
  · intro j hj
    dsimp only
    by_cases f : j = k
    · subst f; rw [pu_upe, pu_upe]; exact ⟨rfl, rfl⟩
    · rw [pu_upn f, pu_upn (fun z => pm_T_inj hq h0 hT (show k ≤ T by omega) (show j < k by omega) z)]
      exact e4 j (by omega)
  · intro s hs' hj
    dsimp only
    rw [pu_upn (hj k (by omega))]
    exact e5 s hs' (fun j h => hj j (by omega))
theorem pc_settled {T : Nat} (hn : 10000 ≤ n) (hq : pm_cliff q) (hK : pc_K q top things tf tt mf mt bars gives rough code) (hTo : pc_told q w told) (hw : w ≤ 9) (h0 : pm_st q s0) (hT : pm_T q w s0 T) : pu_ok (zf_X10_timesTillSettled n top things tf tt mf mt bars gives rough code (nI s0) (nI w) told fa sk) (fun r => r.1 = nI T ∧ pc_told q w r.2.1) := by
  have hst := pm_hi1_st (w := w) hq h0
  have hT1 := hT.1
  unfold zf_X10_timesTillSettled
  refine pu_d6.mpr (pu_up (fun k v => v.1 = nI (pm_hi1 q w s0 k) ∧ v.2.1 = nI k ∧ pc_told q w v.2.2.1) T (by omega) ⟨rfl, rfl, hTo⟩ ?_)
  rintro k ⟨v1, v2, a3, a4, a5⟩ hk ⟨e1, e2, e3⟩
  dsimp only at e1 e2 e3 ⊢
  subst e1 e2
  unfold zb_X10_timesTillSettled_10
  rw [if_neg (fun z => by have := (pv_le 2880 (by omega) (by omega)).mp z; omega)]
  refine pu_d4.mpr (pu_mono (pc_afterHabit (by omega) hq hK e3 (hst k) hw) ?_)
  rintro ⟨v6, a7, a8, a9⟩ ⟨g1, g2⟩
  dsimp only at g1 g2 ⊢
  subst g1
  have h1 := pm_st_lt hq (hst k)
  have h2 := pm_st_lt hq (hst (k + 1))
  by_cases c : k = T
  · rw [if_pos (by rw [c]; rw [hT.2.1])]
    refine pu_out (by decide) ?_
    dsimp only
    rw [if_pos rfl]
    exact pu_some.mpr ⟨by rw [c], g2⟩
  · have h3 : pm_af q w (pm_hi1 q w s0 k) < 2880 := h2
    rw [if_neg (fun z => hT.2.2 k (by omega) ((pn_eq (by omega) (by omega)).mp z)), pn_a1, pu_e1]
    exact pu_go ⟨by omega, rfl, rfl, g2⟩
theorem pp_round {all rk wds row first : Nat → Int32} {thrown tail round1 p1 : Int32} (hn : 10000 ≤ n) (ha : pr_all all q) (hq : pm_cliff q) (hw : q 40 = w) (hw9 : w ≤ 9) (hs : pm_now q = s0) (h0 : pm_st q s0) (hK : pc_K q top things tf tt mf mt bars gives rough code) (hTo : pc_told q w told) :
    ∃ v, pu_ok (zf_X10_round n top things tf tt mf mt bars gives rough code (nI s0) (nI w) told fa sk p1) (fun r => r.1 = v ∧ pc_told q w r.2.1) ∧ pu_ok (zf_X11_round n thrown tail round1 all rk wds row first p1) (fun r => r.1 = v) := by
  obtain ⟨T, hT⟩ := pm_T_ex (w := w) hq h0
  unfold zf_X10_round zf_X11_round
  rw [pr_within, pu_e1, Int32.toInt_toInt64, show (0 : Int64).toInt = 0 from rfl, show (1 : Int64).toInt = 1 from rfl]
  by_cases c0 : p1 = 0
  · subst c0
    refine ⟨nI T, ?_, ?_⟩
    · rw [if_pos rfl]
      refine pu_d4.mpr (pu_mono (pc_settled hn hq hK hTo hw9 h0 hT) ?_)
      rintro ⟨v1, a2, a3, a4⟩ ⟨g1, g2⟩
      exact pu_some.mpr ⟨g1, g2⟩
    · rw [if_pos (show 0 ≤ (0 : Int32).toInt ∧ (0 : Int32).toInt ≤ 1 by decide), if_neg (by decide)]
      refine pu_d6.mpr (pu_mono (pr_laysRow hn ha hq hw hw9 hs h0 hT) ?_)
      rintro ⟨v2, v3, a4, a5, a6, a7⟩ ⟨g1, g2, g3⟩
      dsimp only at g1 ⊢
      rw [if_pos rfl]
      exact pu_some.mpr g1
  by_cases c1 : p1 = 1
  · subst c1
    refine ⟨nI 1, ?_, ?_⟩
    · rw [if_neg (by decide), if_pos rfl]
      exact pu_some.mpr ⟨rfl, hTo⟩
    · rw [if_pos (show 0 ≤ (1 : Int32).toInt ∧ (1 : Int32).toInt ≤ 1 by decide), if_neg (by decide)]
      refine pu_d6.mpr (pu_mono (pr_laysRow hn ha hq hw hw9 hs h0 hT) ?_)
      rintro ⟨v2, v3, a4, a5, a6, a7⟩ ⟨g1, g2, g3⟩
      dsimp only at g2 ⊢
      rw [if_neg (by decide)]
      exact pu_some.mpr g2
  refine ⟨(-2 : Int32), ?_, ?_⟩
  · rw [if_neg c0, if_neg c1]
    exact pu_some.mpr ⟨rfl, hTo⟩
  · have hno : ¬ (0 ≤ p1.toInt ∧ p1.toInt ≤ 1) := by
      rintro ⟨z1, z2⟩
      have : p1.toInt = 0 ∨ p1.toInt = 1 := by omega
      rcases this with z | z
      · exact c0 (Int32.toInt_inj.mp z)
      · exact c1 (Int32.toInt_inj.mp z)
    rw [if_neg hno, if_pos rfl]
    exact pu_some.mpr rfl
theorem pp_lies {all rk wds row first : Nat → Int32} {thrown tail round1 p1 : Int32} (hn : 10000 ≤ n) (ha : pr_all all q) (hq : pm_cliff q) (hw : q 40 = w) (hw9 : w ≤ 9) (hs : pm_now q = s0) (h0 : pm_st q s0) (hK : pc_K q top things tf tt mf mt bars gives rough code) (hTo : pc_told q w told) :
    ∃ v, pu_ok (zf_X10_lies n top things tf tt mf mt bars gives rough code (nI s0) (nI w) told fa sk p1) (fun r => r.1 = v ∧ pc_told q w r.2.1) ∧ pu_ok (zf_X11_lies n thrown tail round1 all rk wds row first p1) (fun r => r.1 = v) := by
  obtain ⟨T, hT⟩ := pm_T_ex (w := w) hq h0
  have hst := pm_hi1_st (w := w) hq h0
  have hT1 := hT.1
  unfold zf_X10_lies zf_X11_lies
  rw [pr_within, pu_e1, Int32.toInt_toInt64, show (0 : Int64).toInt = 0 from rfl, show (99999 : Int64).toInt = 99999 from rfl]
  by_cases d1 : 0 ≤ p1.toInt
  rotate_left
  · refine ⟨(-3 : Int32), ?_, ?_⟩
    · rw [if_pos (pn_neg d1)]
      exact pu_some.mpr ⟨rfl, hTo⟩
    · rw [if_neg (show ¬ (0 ≤ p1.toInt ∧ p1.toInt ≤ 99999) by omega), if_pos rfl]
      exact pu_some.mpr rfl
  obtain ⟨N, rfl, hN, e⟩ := pn_of d1
  rw [pn_toInt hN, if_neg (pn_nn hN)]
  by_cases d2 : N ≤ 99999
  rotate_left
  · refine ⟨(-3 : Int32), ?_, ?_⟩
    · rw [if_neg (fun z => d2 ((pv_ge 99999 (by omega) hN).mp z))]
      exact pu_some.mpr ⟨rfl, hTo⟩
    · rw [if_neg (show ¬ (0 ≤ (N : Int) ∧ (N : Int) ≤ 99999) by omega), if_pos rfl]
      exact pu_some.mpr rfl
  have hM : ∃ M, M ≤ T ∧ (if nI T < nI N then nI T else nI N) = nI M ∧ M = min N T := by
    by_cases f : T < N
    · rw [if_pos ((pn_lt (by omega) (by omega)).mpr f)]; exact ⟨T, Nat.le_refl _, rfl, by omega⟩
    · rw [if_neg (fun z => f ((pn_lt (by omega) (by omega)).mp z))]; exact ⟨N, by omega, rfl, by omega⟩
  obtain ⟨M, hM1, hM2, hM3⟩ := hM
  refine ⟨nI (pm_rg (pm_hi1 q w s0 M)), ?_, ?_⟩
  · rw [if_pos ((pv_ge 99999 (by omega) hN).mpr d2)]
    refine pu_d4.mpr (pu_mono (pc_settled hn hq hK hTo hw9 h0 hT) ?_)
    rintro ⟨v1, a2, a3, a4⟩ ⟨g1, g2⟩
    dsimp only at g1 g2 ⊢
    subst g1
    rw [hM2, pu_e1]
    refine pu_d6.mpr (pu_up (fun k v => v.1 = nI (pm_hi1 q w s0 k) ∧ v.2.1 = nI k ∧ pc_told q w v.2.2.1) M (by omega) ⟨rfl, rfl, g2⟩ ?_)
    rintro k ⟨v6, v7, a8, a9, a10⟩ hk ⟨e1, e2, e3⟩
    dsimp only at e1 e2 e3 ⊢
    subst e1 e2
    have hlt := pm_st_lt hq (hst k)
    unfold zb_X10_lies_34
    by_cases c : M ≤ k
    · have : k = M := by omega
      subst this
      rw [if_pos ((pn_le (by omega) (by omega)).mpr c)]
      refine pu_out (by decide) ?_
      dsimp only
      rw [pc_rungOf hlt, pu_e1]
      exact pu_some.mpr ⟨rfl, e3⟩
    · rw [if_neg (fun z => c ((pn_le (by omega) (by omega)).mp z))]
      refine pu_d4.mpr (pu_mono (pc_afterHabit (by omega) hq hK e3 (hst k) hw9) ?_)
      rintro ⟨v11, a12, a13, a14⟩ ⟨u1, u2⟩
      dsimp only at u1 u2 ⊢
      rw [pn_a1, pu_e1]
      exact pu_go ⟨by omega, u1, rfl, u2⟩
  · rw [if_pos (show 0 ≤ (N : Int) ∧ (N : Int) ≤ 99999 by omega), if_neg (by decide)]
    refine pu_d6.mpr (pu_mono (pr_laysRow hn ha hq hw hw9 hs h0 hT) ?_)
    rintro ⟨v2, v3, a4, a5, a6, a7⟩ ⟨g1, g2, g3⟩
    dsimp only at g1 g2 g3 ⊢
    subst g1 g2
    refine pu_d1.mpr (pu_mono (P := fun v => v = nI M) ?_ ?_)
    · by_cases f : T ≤ N
      · rw [if_pos ((pn_le (by omega) (by omega)).mpr f), pu_nz (by decide), pu_e1, pn_sub f, pn_rem (by omega) (by omega), Nat.mod_one, pn_add]
        refine pu_some.mpr ?_
        congr 1; omega
      · rw [if_neg (fun z => f ((pn_le (by omega) (by omega)).mp z))]
        refine pu_some.mpr ?_
        congr 1; omega
    · rintro v rfl
      rw [pu_ld (by omega) (by omega), pu_e1, g3 M hM1, pr_rungIn (pm_st_lt hq (hst M)), pu_e1]
      exact pu_some.mpr rfl
theorem pp_when {all rk wds row first : Nat → Int32} {thrown tail round1 p1 : Int32} (hn : 10000 ≤ n) (ha : pr_all all q) (hq : pm_cliff q) (hw : q 40 = w) (hw9 : w ≤ 9) (hs : pm_now q = s0) (h0 : pm_st q s0) (hK : pc_K q top things tf tt mf mt bars gives rough code) (hTo : pc_told q w told) :
    ∃ v, pu_ok (zf_X10_when n top things tf tt mf mt bars gives rough code (nI s0) (nI w) told fa sk p1) (fun r => r.1 = v ∧ pc_told q w r.2.1) ∧ pu_ok (zf_X11_when n thrown tail round1 all rk wds row first p1) (fun r => r.1 = v) := by
  obtain ⟨T, hT⟩ := pm_T_ex (w := w) hq h0
  have hst := pm_hi1_st (w := w) hq h0
  have hT1 := hT.1
  have hq1 := hq.1
  obtain ⟨c, c1, c2, c3⟩ := pp_rung ha hq p1
  unfold zf_X10_when zf_X11_when
  rw [c2, pu_e1, hK.1, c1, pu_e1, ← hK.1]
  rcases c3 with rfl | ⟨rfl, r, rfl, hr⟩
  · refine ⟨(-2 : Int32), ?_, ?_⟩
    · rw [if_pos rfl]; exact pu_some.mpr ⟨rfl, hTo⟩
    · rw [if_pos rfl]; exact pu_some.mpr rfl
  have hres : ∃ v : Int32, (∃ k, k ≤ T ∧ v = nI k ∧ pm_rg (pm_hi1 q w s0 k) = r ∧ ∀ j, j < k → ¬ pm_rg (pm_hi1 q w s0 j) = r) ∨ (v = (-1 : Int32) ∧ ∀ j, j ≤ T → ¬ pm_rg (pm_hi1 q w s0 j) = r) := by
    have key : ∀ m, m ≤ T + 1 → (∃ k, k < m ∧ pm_rg (pm_hi1 q w s0 k) = r ∧ ∀ j, j < k → ¬ pm_rg (pm_hi1 q w s0 j) = r) ∨ (∀ j, j < m → ¬ pm_rg (pm_hi1 q w s0 j) = r) := by
      intro m
      induction m with
      | zero => intro _; exact Or.inr (fun j h => absurd h (by omega))
      | succ m ih =>
        intro h
        rcases ih (by omega) with ⟨k, k1, k2⟩ | h1
        · exact Or.inl ⟨k, by omega, k2⟩
        · by_cases d : pm_rg (pm_hi1 q w s0 m) = r
          · exact Or.inl ⟨m, by omega, d, h1⟩
          · right
            intro j hj
            by_cases f : j = m
            · subst f; exact d
            · exact h1 j (by omega)
    rcases key (T + 1) (Nat.le_refl _) with ⟨k, k1, k2⟩ | h1
    · exact ⟨nI k, Or.inl ⟨k, by omega, rfl, k2⟩⟩
    · exact ⟨(-1 : Int32), Or.inr ⟨rfl, fun j hj => h1 j (by omega)⟩⟩
  obtain ⟨v, hv⟩ := hres
  have hrg : ∀ k, pm_rg (pm_hi1 q w s0 k) < 9 := by
    intro k
    have := (hst k).1
    omega
  refine ⟨v, ?_, ?_⟩
  · rw [if_neg (by decide)]
    refine pu_d4.mpr (pu_mono (pc_settled hn hq hK hTo hw9 h0 hT) ?_)
    rintro ⟨v1, a2, a3, a4⟩ ⟨g1, g2⟩
    dsimp only at g1 g2 ⊢
    subst g1
    refine pu_d6.mpr (pu_up (fun k v => v.1 = nI (pm_hi1 q w s0 k) ∧ v.2.1 = nI k ∧ pc_told q w v.2.2.1 ∧ ∀ j, j < k → ¬ pm_rg (pm_hi1 q w s0 j) = r) (T + 1) (by omega) ⟨rfl, rfl, g2, fun j h => absurd h (by omega)⟩ ?_)
    rintro k ⟨v6, v7, a8, a9, a10⟩ hk ⟨e1, e2, e3, e4⟩
    dsimp only at e1 e2 e3 e4 ⊢
    subst e1 e2
    have hlt := pm_st_lt hq (hst k)
    have hrk := hrg k
    unfold zb_X10_when_30
    by_cases c : T < k
    · rw [if_pos ((pn_lt (by omega) (by omega)).mpr c)]
      refine pu_out (by decide) ?_
      dsimp only
      rw [if_neg (by decide), if_pos rfl]
      refine pu_some.mpr ⟨?_, e3⟩
      rcases hv with ⟨k', k1, k2, k3, k4⟩ | ⟨h1, h2⟩
      · exact absurd k3 (e4 k' (by omega))
      · exact h1.symm
    · rw [if_neg (fun z => c ((pn_lt (by omega) (by omega)).mp z)), pc_rungOf hlt, pu_e1]
      by_cases d : pm_rg (pm_hi1 q w s0 k) = r
      · rw [if_pos (by rw [d])]
        refine pu_out (by decide) ?_
        dsimp only
        rw [if_pos rfl]
        refine pu_some.mpr ⟨?_, e3⟩
        rcases hv with ⟨k', k1, k2, k3, k4⟩ | ⟨h1, h2⟩
        · rw [k2]
          show nI k = nI k'
          congr 1
          rcases Nat.lt_trichotomy k k' with z | z | z
          · exact absurd d (k4 k z)
          · exact z
          · exact absurd k3 (e4 k' z)
        · exact absurd d (h2 k (by omega))
      · rw [if_neg (fun z => d ((pn_eq (by omega) (by omega)).mp z))]
        refine pu_d4.mpr (pu_mono (pc_afterHabit (by omega) hq hK e3 (hst k) hw9) ?_)
        rintro ⟨v11, a12, a13, a14⟩ ⟨u1, u2⟩
        dsimp only at u1 u2 ⊢
        rw [pn_a1, pu_e1]
        refine pu_go ⟨by omega, u1, rfl, u2, ?_⟩
        intro j hj
        by_cases f : j = k
        · subst f; exact d
        · exact e4 j (by omega)
  · rw [if_neg (by decide)]
    refine pu_d6.mpr (pu_mono (pr_laysRow hn ha hq hw hw9 hs h0 hT) ?_)
    rintro ⟨v2, v3, a4, a5, a6, a7⟩ ⟨g1, g2, g3⟩
    dsimp only at g1 g2 g3 ⊢
    subst g1 g2
    refine pu_d2.mpr (pu_up (fun k v => v = nI k ∧ ∀ j, j < k → ¬ pm_rg (pm_hi1 q w s0 j) = r) (T + 1) (by omega) ⟨rfl, fun j h => absurd h (by omega)⟩ ?_)
    rintro k v' hk ⟨rfl, e4⟩
    have hrk := hrg k
    unfold zb_X11_when_22
    rw [pn_add]
    by_cases c : T + 1 ≤ k
    · rw [if_pos ((pn_le (by omega) (by omega)).mpr c)]
      refine pu_out (by decide) ?_
      dsimp only
      rw [if_neg (by decide), if_pos rfl]
      refine pu_some.mpr ?_
      rcases hv with ⟨k', k1, k2, k3, k4⟩ | ⟨h1, h2⟩
      · exact absurd k3 (e4 k' (by omega))
      · exact h1.symm
    · rw [if_neg (fun z => c ((pn_le (by omega) (by omega)).mp z)), pu_ld (by omega) (by omega), pu_e1, g3 k (by omega), pr_rungIn (pm_st_lt hq (hst k)), pu_e1]
      by_cases d : pm_rg (pm_hi1 q w s0 k) = r
      · rw [if_pos (by rw [d])]
        refine pu_out (by decide) ?_
        dsimp only
        rw [if_pos rfl]
        refine pu_some.mpr ?_
        rcases hv with ⟨k', k1, k2, k3, k4⟩ | ⟨h1, h2⟩
        · dsimp only
          rw [k2]
          congr 1
          rcases Nat.lt_trichotomy k k' with z | z | z
          · exact absurd d (k4 k z)
          · exact z
          · exact absurd k3 (e4 k' z)
        · exact absurd d (h2 k (by omega))
      · rw [if_neg (fun z => d ((pn_eq (by omega) (by omega)).mp z)), pn_a1, pu_e1]
        refine pu_go ⟨by omega, rfl, ?_⟩
        intro j hj
        by_cases f : j = k
        · subst f; exact d
        · exact e4 j (by omega)
end PHa
