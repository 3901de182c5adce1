/-! the first of the counted rows: the class -/
theorem pm_bst_congr {q : Nat → Nat} {w s mv : Nat} {P P' : Nat → Bool} (h : ∀ k, k < 15 → pm_wy q w s k = 0 → P (pm_ac q w s k) = P' (pm_ac q w s k)) (hb : pm_bst q w P s mv) : pm_bst q w P' s mv := by
  obtain ⟨h1, h2, h3, h4⟩ := hb
  refine ⟨h1, h2, by rw [← h mv h1 h2]; exact h3, ?_⟩
  intro k hk hz
  rw [← h k (by omega) hz]
  exact h4 k hk hz
def pm_pt (q : Nat → Nat) (w : Nat) (P : Nat → Nat → Bool) (s0 : Nat) : Nat → Nat
  | 0 => s0
  | k + 1 => pm_ac q w (pm_pt q w P s0 k) (pm_fm q w (P k) (pm_pt q w P s0 k) 15)
/-- what is looked for: seen, and it goes on -/
def pm_sP (q : Nat → Nat) (w : Nat) (W : Nat → Nat → Bool) (L k t : Nat) : Bool := decide (W k t = true ∧ ¬ pm_O q w W L (fun _ => 1) (L - k - 1) t = 0)
section PO
variable {n : Nat} {q : Nat → Nat} {w s0 : Nat} {top things tf tt mf mt : Int32} {bars gives rough code told fa sk : Nat → Int32}
def pc_LV (q : Nat → Nat) (w s0 : Nat) (W : Nat → Nat → Bool) (L b k : Nat) (lv : Nat → Int32) (l : Nat → Nat) : Prop := ∀ i, i < (pm_F (pm_tg q w) s0).length → lv ((pm_F (pm_tg q w) s0).getD i 0) = nI (l ((pm_F (pm_tg q w) s0).getD i 0)) ∧ l ((pm_F (pm_tg q w) s0).getD i 0) < 2048 ∧ ∀ j, j < 11 → ((l ((pm_F (pm_tg q w) s0).getD i 0)).testBit j = true ↔ j ≤ L ∧ ¬ pm_fw q w (pm_F (pm_tg q w) s0) W s0 j ((pm_F (pm_tg q w) s0).getD i 0) = 0 ∧ ((b ≤ j ∨ j + 1 = b ∧ i < k) → ¬ pm_O q w W L (fun _ => 1) (L - j) ((pm_F (pm_tg q w) s0).getD i 0) = 0))
theorem pm_O_s {W : Nat → Nat → Bool} {L m s : Nat} (hm : m < L) : pm_O q w W L (fun _ => 1) (L - m) s = pm_bk q w (W m) (pm_O q w W L (fun _ => 1) (L - m - 1)) s 15 := by
  have e : L - m = (L - m - 1) + 1 := by omega
  rw [e]
  show pm_bk q w (W (L - (L - m - 1 + 1))) (pm_O q w W L (fun _ => 1) (L - m - 1)) s 15 = _
  rw [show L - (L - m - 1 + 1) = m from by omega, show L - m - 1 + 1 - 1 = L - m - 1 from by omega]
/-- onward from a stand with rows: seen, and it goes on -/
theorem pm_on {W : Nat → Nat → Bool} {L m i mv : Nat} (hi : i < (pm_F (pm_tg q w) s0).length) (hmv : mv < 15) (hc : pm_wy q w ((pm_F (pm_tg q w) s0).getD i 0) mv = 0) (hfw : ¬ pm_fw q w (pm_F (pm_tg q w) s0) W s0 m ((pm_F (pm_tg q w) s0).getD i 0) = 0) : (¬ pm_fw q w (pm_F (pm_tg q w) s0) W s0 (m + 1) (pm_ac q w ((pm_F (pm_tg q w) s0).getD i 0) mv) = 0) ↔ W m (pm_ac q w ((pm_F (pm_tg q w) s0).getD i 0) mv) = true := by
  constructor
  · intro h
    obtain ⟨_, _, _, _, _, _, h6, _⟩ := pm_Q_ne _ h
    exact h6
  · intro h
    exact pm_Q_in hi hmv hc rfl h hfw
theorem pc_drop {W : Nat → Nat → Bool} {L : Nat} {size found : Int32} {deeds ends order depth from1 lv : Nat → Int32} {k1 : Nat → Int64} (hn : 10000 ≤ n) (hq : pm_cliff q) (hK : pc_K q top things tf tt mf mt bars gives rough code) (hT : pc_told q w told) (hw : w ≤ 9) (h0 : pm_st q s0) (hX : pc_X q w s0 size order depth from1) (hL : L ≤ 10) (hc : pc_cnt q w s0 W L k1 lv) :
    pu_ok (zf_X6_dropDeadEnds n (nI L) found top things tf tt mf mt bars gives rough code (nI w) told fa sk deeds ends size order depth lv) (fun r => pc_told q w r.2.1 ∧ ∃ l, pc_LV q w s0 W L 0 0 r.2.2.2.2.2.2 l) := by
  have hl := pm_L_len (w := w) hq h0
  have hnd := pm_L_nd (q := q) (w := w) (s0 := s0)
  have hX' := pc_X_at hX
  unfold zf_X6_dropDeadEnds
  rw [pu_e1]
  refine pu_d9.mpr (pu_up (fun i v => v.1 = nI (L - i) - (1 : Int32) ∧ pc_told q w v.2.2.1 ∧ ∃ l, pc_LV q w s0 W L (L - i) 0 v.2.2.2.2.2.2.2 l) L (by omega) ⟨(by dsimp only; rw [Nat.sub_zero]), hT, (fun s => pm_lv (pm_fw q w (pm_F (pm_tg q w) s0) W s0) s L), ?_⟩ ?_)
  · intro i hi
    dsimp only
    refine ⟨hc.2 i hi, Nat.lt_of_lt_of_le (pm_lv_lt L) (Nat.pow_le_pow_right (n := 2) (j := 11) (by omega) (by omega)), ?_⟩
    intro j hj
    rw [pm_lv_tb]
    constructor
    · rintro ⟨h1, h2⟩
      refine ⟨h1, h2, ?_⟩
      rintro (z | ⟨z1, z2⟩)
      · have : j = L := by omega
        subst this
        rw [Nat.sub_self]; exact Nat.one_ne_zero
      · omega
    · rintro ⟨h1, h2, _⟩; exact ⟨h1, h2⟩
  rintro i ⟨v2, v3, a4, a5, a6, a7, a8, a9⟩ hi ⟨e1, hT2, l, hlv⟩
  dsimp only at e1 hT2 hlv ⊢
  subst e1
  unfold zb_X6_dropDeadEnds_7
  by_cases hcc : i = L
  · have hz : L - i = 0 := by omega
    rw [hz] at hlv ⊢
    rw [if_pos (by decide)]
    exact pu_out (by decide) (pu_some.mpr ⟨hT2, l, hlv⟩)
  obtain ⟨m, hm⟩ : ∃ m, L - i = m + 1 := ⟨L - i - 1, by omega⟩
  have hmL : m < L := by omega
  rw [hm] at hlv ⊢
  rw [pn_s1, if_neg (pn_nn (by omega))]
  refine pu_d1.mpr (pu_mono (pc_within (d := m) hn hq h0 hX (by omega)) ?_)
  rintro v10 ⟨K, rfl, Ka, Kb, Kc⟩
  refine pu_d9.mpr (pu_up (fun k v => v.1 = nI k ∧ pc_told q w v.2.2.1 ∧ ∃ l, pc_LV q w s0 W L (m + 1) k v.2.2.2.2.2.2.2 l) K (by omega) ⟨rfl, hT2, l, hlv⟩ ?_)
  rintro k ⟨v11, v12, a13, a14, a15, a16, a17, a18⟩ hk ⟨e1, hT3, l, hlv⟩
  dsimp only at e1 hT3 hlv ⊢
  subst e1
  unfold zb_X6_dropDeadEnds_19
  by_cases hcc2 : K ≤ k
  · rw [if_pos ((pn_le (by omega) (by omega)).mpr hcc2)]
    refine pu_out (by decide) ?_
    dsimp only
    rw [pn_p1, pu_e1]
    refine pu_go ⟨by omega, by rw [show L - (i + 1) = m from by omega], hT3, l, ?_⟩
    rw [show L - (i + 1) = m from by omega]
    intro x hx
    obtain ⟨y1, y2, y3⟩ := hlv x hx
    refine ⟨y1, y2, ?_⟩
    intro j hj
    rw [y3 j hj]
    constructor
    · rintro ⟨z1, z2, z3⟩
      refine ⟨z1, z2, ?_⟩
      rintro (z | ⟨_, z⟩)
      · by_cases f : j = m
        · subst f
          refine z3 (Or.inr ⟨rfl, ?_⟩)
          rcases Nat.lt_or_ge x k with g | g
          · exact g
          · exact absurd (pm_fw_far hq h0 j x hx (Kc x (by omega) hx)) z2
        · exact z3 (Or.inl (by omega))
      · omega
    · rintro ⟨z1, z2, z3⟩
      exact ⟨z1, z2, fun z => z3 (Or.inl (by omega))⟩
  have hkF : k < (pm_F (pm_tg q w) s0).length := by omega
  have hst := pm_L_st (w := w) hq h0 hkF
  have hlt := pm_st_lt hq hst
  obtain ⟨y1, y2, y3⟩ := hlv k hkF
  rw [if_neg (fun z => hcc2 ((pn_le (by omega) (by omega)).mp z)), pu_ld (by omega) (by omega), pu_e1, (hX'.2 k hkF).1, pu_ld hlt (by omega), pu_e1, y1, pb_bitL (show m < 11 by omega) y2]
  refine pu_d7.mpr (pu_mono (P := fun r => pc_told q w r.2.1 ∧ ∃ l, pc_LV q w s0 W L (m + 1) (k + 1) r.2.2.2.2.2.2 l) ?_ ?_)
  rotate_left
  · rintro ⟨v30, a31, a32, a33, a34, a35, a36⟩ ⟨g1, g2⟩
    dsimp only at g1 g2 ⊢
    rw [pn_a1, pu_e1]
    exact pu_go ⟨by omega, rfl, g1, g2⟩
  have hkeep : (∀ (P : (l ((pm_F (pm_tg q w) s0).getD k 0)).testBit m = true), ¬ pm_O q w W L (fun _ => 1) (L - m) ((pm_F (pm_tg q w) s0).getD k 0) = 0) → pc_LV q w s0 W L (m + 1) (k + 1) a18 l := by
    intro hP x hx
    obtain ⟨u1, u2, u3⟩ := hlv x hx
    refine ⟨u1, u2, ?_⟩
    intro j hj
    rw [u3 j hj]
    constructor
    · rintro ⟨z1, z2, z3⟩
      refine ⟨z1, z2, ?_⟩
      rintro (z | ⟨f, z⟩)
      · exact z3 (Or.inl z)
      · by_cases g : x = k
        · have : j = m := by omega
          subst this
          rw [g]
          refine hP ((y3 j hj).mpr ⟨z1, by rw [← g]; exact z2, ?_⟩)
          rintro (h | ⟨_, h⟩) <;> omega
        · exact z3 (Or.inr ⟨f, by omega⟩)
    · rintro ⟨z1, z2, z3⟩
      refine ⟨z1, z2, ?_⟩
      rintro (z | ⟨f, z⟩)
      · exact z3 (Or.inl z)
      · exact z3 (Or.inr ⟨f, by omega⟩)
  by_cases hbit : (l ((pm_F (pm_tg q w) s0).getD k 0)).testBit m = true
  rotate_left
  · rw [if_neg hbit, if_pos (by decide)]
    exact pu_some.mpr ⟨hT3, l, hkeep (fun z => absurd z hbit)⟩
  rw [if_pos hbit, if_neg (by decide)]
  obtain ⟨_, hfw, _⟩ := (y3 m (by omega)).mp hbit
  refine pu_d7.mpr ?_
  rw [pn_a1]
  refine pu_mono (pc_onward (m := m + 1) (l := l) (by omega) hq hK hT3 hw h0 hkF (by omega) (fun j hj => ⟨(hlv j hj).1, (hlv j hj).2.1⟩)) ?_
  rintro ⟨v21, v22, a23, a24, a25, a26, a27⟩ ⟨o1, o2⟩
  dsimp only at o1 o2 ⊢
  have hO := pm_O_s (q := q) (w := w) (W := W) (L := L) (m := m) (s := (pm_F (pm_tg q w) s0).getD k 0) hmL
  have hbitm : ∀ mv, mv < 15 → pm_wy q w ((pm_F (pm_tg q w) s0).getD k 0) mv = 0 → ((l (pm_ac q w ((pm_F (pm_tg q w) s0).getD k 0) mv)).testBit (m + 1) = true ↔ W m (pm_ac q w ((pm_F (pm_tg q w) s0).getD k 0) mv) = true ∧ ¬ pm_O q w W L (fun _ => 1) (L - m - 1) (pm_ac q w ((pm_F (pm_tg q w) s0).getD k 0) mv) = 0) := by
    intro mv hmv hcm
    obtain ⟨jt, jt1, jt2, jt3⟩ := pm_L_tgt (q := q) (w := w) hq h0 hkF hmv hcm
    have h1 := (hlv jt jt1).2.2 (m + 1) (by omega)
    rw [jt2] at h1
    rw [h1, pm_on (L := L) hkF hmv hcm hfw, show L - (m + 1) = L - m - 1 from by omega]
    constructor
    · rintro ⟨_, z2, z3⟩; exact ⟨z2, z3 (Or.inl (by omega))⟩
    · rintro ⟨z2, z3⟩; exact ⟨by omega, z2, fun _ => z3⟩
  rcases o2 with ⟨rfl, o3⟩ | ⟨kk, mv, o3, rfl, ⟨o4, o5, o6, _⟩, _, _⟩
  · have hO0 : pm_O q w W L (fun _ => 1) (L - m) ((pm_F (pm_tg q w) s0).getD k 0) = 0 := by
      rw [hO, pm_bk_0]
      intro mv hmv hcm hWm
      by_cases f : pm_O q w W L (fun _ => 1) (L - m - 1) (pm_ac q w ((pm_F (pm_tg q w) s0).getD k 0) mv) = 0
      · exact f
      · exfalso
        have := (hbitm mv hmv hcm).mpr ⟨hWm, f⟩
        rw [o3 mv hmv hcm] at this
        cases this
    rw [if_pos rfl, pu_e1, pb_sh11 _ (by omega), pb_clr (by omega) y2, pu_st hlt (by omega), pu_e1]
    refine pu_some.mpr ⟨o1, va_up l ((pm_F (pm_tg q w) s0).getD k 0) (l ((pm_F (pm_tg q w) s0).getD k 0) &&& (2047 ^^^ 2 ^ m)), ?_⟩
    intro x hx
    dsimp only
    by_cases g : x = k
    · rw [g, pu_upe, pu_upe]
      refine ⟨rfl, Nat.lt_of_le_of_lt Nat.and_le_left y2, ?_⟩
      intro j hj
      rw [Nat.testBit_and, pb_clr2 m (by omega) j hj, Bool.and_eq_true, decide_eq_true_eq, y3 j hj]
      constructor
      · rintro ⟨⟨z1, z2, z3⟩, z4⟩
        refine ⟨z1, z2, ?_⟩
        rintro (z | ⟨f, z⟩)
        · exact z3 (Or.inl z)
        · omega
      · rintro ⟨z1, z2, z3⟩
        refine ⟨⟨z1, z2, ?_⟩, ?_⟩
        · rintro (z | ⟨f, z⟩)
          · exact z3 (Or.inl z)
          · omega
        · intro f
          subst f
          exact z3 (Or.inr ⟨rfl, by omega⟩) hO0
    · have hne : ¬ (pm_F (pm_tg q w) s0).getD x 0 = (pm_F (pm_tg q w) s0).getD k 0 := fun z => g (pm_nd_inj hnd hx hkF z)
      rw [pu_upn hne, pu_upn hne]
      obtain ⟨u1, u2, u3⟩ := hlv x hx
      refine ⟨u1, u2, ?_⟩
      intro j hj
      rw [u3 j hj]
      constructor
      · rintro ⟨z1, z2, z3⟩
        refine ⟨z1, z2, ?_⟩
        rintro (z | ⟨f, z⟩)
        · exact z3 (Or.inl z)
        · exact z3 (Or.inr ⟨f, by omega⟩)
      · rintro ⟨z1, z2, z3⟩
        refine ⟨z1, z2, ?_⟩
        rintro (z | ⟨f, z⟩)
        · exact z3 (Or.inl z)
        · exact z3 (Or.inr ⟨f, by omega⟩)
  · rw [if_neg (fun z => (pn_ne1 (by omega)).mp z)]
    refine pu_some.mpr ⟨o1, l, hkeep (fun _ => ?_)⟩
    rw [hO, pm_bk_0]
    intro z
    obtain ⟨z1, z2⟩ := (hbitm mv o4 o5).mp o6
    exact z2 (z mv o4 o5 z1)
theorem pm_sP_step {W : Nat → Nat → Bool} {L k i : Nat} (hq : pm_cliff q) (h0 : pm_st q s0) (hk : k < L) (hi : i < (pm_F (pm_tg q w) s0).length) (hfw : ¬ pm_fw q w (pm_F (pm_tg q w) s0) W s0 k ((pm_F (pm_tg q w) s0).getD i 0) = 0) (hO : ¬ pm_O q w W L (fun _ => 1) (L - k) ((pm_F (pm_tg q w) s0).getD i 0) = 0) : pm_bst q w (pm_sP q w W L k) ((pm_F (pm_tg q w) s0).getD i 0) (pm_fm q w (pm_sP q w W L k) ((pm_F (pm_tg q w) s0).getD i 0) 15) ∧ ∃ j, j < (pm_F (pm_tg q w) s0).length ∧ (pm_F (pm_tg q w) s0).getD j 0 = pm_ac q w ((pm_F (pm_tg q w) s0).getD i 0) (pm_fm q w (pm_sP q w W L k) ((pm_F (pm_tg q w) s0).getD i 0) 15) ∧ ¬ pm_fw q w (pm_F (pm_tg q w) s0) W s0 (k + 1) ((pm_F (pm_tg q w) s0).getD j 0) = 0 ∧ ¬ pm_O q w W L (fun _ => 1) (L - (k + 1)) ((pm_F (pm_tg q w) s0).getD j 0) = 0 := by
  have hex : ∃ mv, mv < 15 ∧ pm_wy q w ((pm_F (pm_tg q w) s0).getD i 0) mv = 0 ∧ pm_sP q w W L k (pm_ac q w ((pm_F (pm_tg q w) s0).getD i 0) mv) = true := by
    by_cases c : ∃ mv, mv < 15 ∧ pm_wy q w ((pm_F (pm_tg q w) s0).getD i 0) mv = 0 ∧ pm_sP q w W L k (pm_ac q w ((pm_F (pm_tg q w) s0).getD i 0) mv) = true
    · exact c
    · exfalso
      apply hO
      rw [pm_O_s hk, pm_bk_0]
      intro mv hmv hcm hW
      by_cases f : pm_O q w W L (fun _ => 1) (L - k - 1) (pm_ac q w ((pm_F (pm_tg q w) s0).getD i 0) mv) = 0
      · exact f
      · exact absurd ⟨mv, hmv, hcm, decide_eq_true ⟨hW, f⟩⟩ c
  have hb := pm_fm_ex hex
  refine ⟨hb, ?_⟩
  obtain ⟨b1, b2, b3, _⟩ := hb
  obtain ⟨jt, jt1, jt2, _⟩ := pm_L_tgt (q := q) (w := w) hq h0 hi b1 b2
  have b3' := of_decide_eq_true b3
  refine ⟨jt, jt1, jt2, ?_, ?_⟩
  · rw [jt2]; exact (pm_on (L := L) hi b1 b2 hfw).mpr b3'.1
  · rw [jt2, show L - (k + 1) = L - k - 1 from by omega]; exact b3'.2
theorem pc_deedOfFirst {W : Nat → Nat → Bool} {L i : Nat} {size found : Int32} {deeds ends order depth from1 lv : Nat → Int32} {k1 : Nat → Int64} (hn : 10000 ≤ n) (hq : pm_cliff q) (hK : pc_K q top things tf tt mf mt bars gives rough code) (hT : pc_told q w told) (hw : w ≤ 9) (h0 : pm_st q s0) (hX : pc_X q w s0 size order depth from1) (hL : L ≤ 10) (hc : pc_cnt q w s0 W L k1 lv) (hi : i < 2147483648) :
    pu_ok (zf_X6_deedOfFirst n (nI L) found top things tf tt mf mt bars gives rough code (nI w) told fa sk deeds ends size order depth lv (nI s0) (nI i)) (fun r => pc_told q w r.2.2.1 ∧ r.1 = if i < L ∧ ¬ pm_O q w W L (fun _ => 1) L s0 = 0 then nI (pm_dd (pm_fm q w (pm_sP q w W L i) (pm_pt q w (pm_sP q w W L) s0 i) 15)) else (-1 : Int32)) := by
  have hl := pm_L_len (w := w) hq h0
  have hF0 := pm_F_0 (pm_tg q w) s0
  have hlt0 := pm_st_lt hq h0
  unfold zf_X6_deedOfFirst
  refine pu_d7.mpr (pu_mono (pc_drop hn hq hK hT hw h0 hX hL hc) ?_)
  rintro ⟨v1, a2, a3, a4, a5, a6, a7⟩ ⟨hT2, l, hlv⟩
  dsimp only at hT2 hlv ⊢
  by_cases hcc : L ≤ i
  · rw [if_pos ((pn_le (by omega) (by omega)).mpr hcc), if_neg (fun z => by omega)]
    exact pu_some.mpr ⟨hT2, rfl⟩
  obtain ⟨y1, y2, y3⟩ := hlv 0 hF0.2
  rw [hF0.1] at y1 y2 y3
  have hfw0 : ¬ pm_fw q w (pm_F (pm_tg q w) s0) W s0 0 s0 = 0 := by
    rw [show pm_fw q w (pm_F (pm_tg q w) s0) W s0 0 s0 = 1 from if_pos rfl]; omega
  have hb0 := y3 0 (by omega)
  have hsh0 : (nI (l s0) &&& (1 : Int32)) = nI (if (l s0).testBit 0 then 1 else 0) := by
    rw [show (1 : Int32) = nI 1 from rfl, pn_and, Nat.and_one_is_mod, Nat.testBit_eq_decide_div_mod_eq]
    congr 1
    rw [Nat.pow_zero, Nat.div_one]
    by_cases c : l s0 % 2 = 1
    · rw [if_pos (by simpa using c), c]
    · rw [if_neg (by simpa using c)]; omega
  rw [if_neg (fun z => hcc ((pn_le (by omega) (by omega)).mp z)), pu_ld hlt0 (by omega), pu_e1, y1, hsh0]
  by_cases hO0 : pm_O q w W L (fun _ => 1) L s0 = 0
  · have : ¬ (l s0).testBit 0 = true := by
      intro z
      have := (hb0.mp z).2.2 (Or.inl (by omega))
      exact this hO0
    rw [if_neg this, if_pos (by decide), if_neg (fun z => z.2 hO0)]
    exact pu_some.mpr ⟨hT2, rfl⟩
  have hbit : (l s0).testBit 0 = true := hb0.mpr ⟨by omega, hfw0, fun _ => hO0⟩
  rw [if_pos hbit, if_neg (by decide), if_pos ⟨by omega, hO0⟩]
  refine pu_d10.mpr (pu_up (fun k v => v.2.2.1 = nI (k + 1) ∧ pc_told q w v.2.2.2.2.1 ∧ v.1 = nI (pm_pt q w (pm_sP q w W L) s0 k) ∧ (k = i + 1 → v.2.1 = nI (pm_dd (pm_fm q w (pm_sP q w W L i) (pm_pt q w (pm_sP q w W L) s0 i) 15))) ∧ (∃ x, x < (pm_F (pm_tg q w) s0).length ∧ (pm_F (pm_tg q w) s0).getD x 0 = pm_pt q w (pm_sP q w W L) s0 k ∧ ¬ pm_fw q w (pm_F (pm_tg q w) s0) W s0 k ((pm_F (pm_tg q w) s0).getD x 0) = 0 ∧ ¬ pm_O q w W L (fun _ => 1) (L - k) ((pm_F (pm_tg q w) s0).getD x 0) = 0)) (i + 1) (by omega) ⟨rfl, hT2, rfl, fun z => absurd z (by omega), 0, hF0.2, hF0.1, ?_, ?_⟩ ?_)
  · rw [hF0.1]; exact hfw0
  · rw [hF0.1]; exact hO0
  rintro k ⟨v9, v10, v11, v12, a13, a14, a15, a16, a17⟩ hk ⟨e1, hT3, e2, e3, x, x1, x2, x3, x4⟩
  dsimp only at e1 hT3 e2 e3 ⊢
  subst e1 e2
  unfold zb_X6_deedOfFirst_33
  rw [pn_a1]
  by_cases hck : k = i + 1
  · rw [if_pos ((pn_lt (by omega) (by omega)).mpr (by omega))]
    refine pu_out (by decide) ?_
    dsimp only
    rw [if_neg (by decide), if_pos rfl]
    exact pu_some.mpr ⟨hT3, e3 hck⟩
  rw [if_neg (fun z => by have := (pn_lt (by omega) (by omega)).mp z; omega)]
  obtain ⟨hb, j, j1, j2, j3, j4⟩ := pm_sP_step (q := q) (w := w) (s0 := s0) (W := W) (L := L) (k := k) hq h0 (by omega) x1 x3 x4
  rw [x2] at hb j2
  refine pu_d7.mpr (pu_mono (P := fun r => pc_told q w r.2.2.1 ∧ ∃ kk, kk < 9 ∧ r.1 = nI kk ∧ r.2.2.2.2.2.1 kk = nI (pm_dd (pm_fm q w (pm_sP q w W L k) (pm_pt q w (pm_sP q w W L) s0 k) 15)) ∧ r.2.2.2.2.2.2 kk = nI (pm_ac q w (pm_pt q w (pm_sP q w W L) s0 k) (pm_fm q w (pm_sP q w W L k) (pm_pt q w (pm_sP q w W L) s0 k) 15))) ?_ ?_)
  · rw [← x2]
    refine pu_mono (pc_onward (m := k + 1) (l := l) (by omega) hq hK hT3 hw h0 x1 (by omega) (fun j hj => ⟨(hlv j hj).1, (hlv j hj).2.1⟩)) ?_
    rintro ⟨v18, v19, a20, a21, a22, a23, a24⟩ ⟨o1, o2⟩
    dsimp only at o1 o2 ⊢
    refine ⟨o1, ?_⟩
    have hbitm : ∀ mv, mv < 15 → pm_wy q w ((pm_F (pm_tg q w) s0).getD x 0) mv = 0 → ((l (pm_ac q w ((pm_F (pm_tg q w) s0).getD x 0) mv)).testBit (k + 1) = pm_sP q w W L k (pm_ac q w ((pm_F (pm_tg q w) s0).getD x 0) mv)) := by
      intro mv hmv hcm
      obtain ⟨jt, jt1, jt2, jt3⟩ := pm_L_tgt (q := q) (w := w) hq h0 x1 hmv hcm
      have h1 := (hlv jt jt1).2.2 (k + 1) (by omega)
      rw [jt2, pm_on (L := L) x1 hmv hcm x3, show L - (k + 1) = L - k - 1 from by omega] at h1
      rw [Bool.eq_iff_iff, h1]
      unfold pm_sP
      rw [decide_eq_true_eq]
      constructor
      · rintro ⟨_, z2, z3⟩; exact ⟨z2, z3 (Or.inl (by omega))⟩
      · rintro ⟨z2, z3⟩; exact ⟨by omega, z2, fun _ => z3⟩
    rcases o2 with ⟨_, o3⟩ | ⟨kk, mv, o3, o4, o5, o6, o7⟩
    · exfalso
      rw [← x2] at hb
      have h1 := hbitm _ hb.1 hb.2.1
      rw [o3 _ hb.1 hb.2.1, hb.2.2.1] at h1
      cases h1
    · have hmv := pm_fm_eq (pm_bst_congr hbitm o5) 15 (Nat.le_refl _) (by omega)
      rw [← hmv] at o6 o7
      exact ⟨kk, o3, o4, o6, o7⟩
  · rintro ⟨v18, v19, a20, a21, a22, a23, a24⟩ ⟨o1, kk, o3, o4, o5, o6⟩
    dsimp only at o1 o4 o5 o6 ⊢
    subst o4
    rw [if_neg (fun z => (pn_ne1 (by omega)).mp z), pu_ld (by omega) (by omega), pu_e1, pu_ld (by omega) (by omega), pu_e1, pn_a1, pu_e1]
    refine pu_go ⟨by omega, rfl, o1, o6, ?_, j, j1, j2, j3, j4⟩
    intro z
    have : k = i := by omega
    subst this
    exact o5
end PO
