/-! rows of deeds counted: the class -/
def pm_lv (f : Nat → Nat → Nat) (s : Nat) : Nat → Nat
  | 0 => if f 0 s = 0 then 0 else 1
  | m + 1 => pm_lv f s m ||| (if f (m + 1) s = 0 then 0 else 2 ^ (m + 1))
theorem pm_lv_lt {f : Nat → Nat → Nat} {s : Nat} : ∀ m, pm_lv f s m < 2 ^ (m + 1) := by
  intro m
  induction m with
  | zero => show (if f 0 s = 0 then 0 else 1) < 2; split <;> omega
  | succ m ih =>
    show pm_lv f s m ||| (if f (m + 1) s = 0 then 0 else 2 ^ (m + 1)) < 2 ^ (m + 1 + 1)
    refine Nat.or_lt_two_pow (Nat.lt_trans ih (Nat.pow_lt_pow_right (by omega) (by omega))) ?_
    split
    · exact Nat.two_pow_pos _
    · exact Nat.pow_lt_pow_right (by omega) (by omega)
theorem pm_lv_tb {f : Nat → Nat → Nat} {s : Nat} : ∀ m j, (pm_lv f s m).testBit j = true ↔ j ≤ m ∧ ¬ f j s = 0 := by
  intro m
  induction m with
  | zero =>
    intro j
    show (if f 0 s = 0 then 0 else 1).testBit j = true ↔ _
    by_cases c : f 0 s = 0
    · rw [if_pos c, Nat.zero_testBit]
      constructor
      · intro h; cases h
      · rintro ⟨h1, h2⟩
        have : j = 0 := by omega
        subst this; exact absurd c h2
    · rw [if_neg c]
      cases j with
      | zero => simp [c]
      | succ j => simp [Nat.testBit_succ]
  | succ m ih =>
    intro j
    show (pm_lv f s m ||| (if f (m + 1) s = 0 then 0 else 2 ^ (m + 1))).testBit j = true ↔ _
    rw [Nat.testBit_or, Bool.or_eq_true, ih]
    by_cases c : f (m + 1) s = 0
    · rw [if_pos c, Nat.zero_testBit]
      constructor
      · rintro (⟨h1, h2⟩ | h)
        · exact ⟨by omega, h2⟩
        · cases h
      · rintro ⟨h1, h2⟩
        by_cases d : j = m + 1
        · subst d; exact absurd c h2
        · exact Or.inl ⟨by omega, h2⟩
    · rw [if_neg c, Nat.testBit_two_pow, decide_eq_true_eq]
      constructor
      · rintro (⟨h1, h2⟩ | h)
        · exact ⟨by omega, h2⟩
        · subst h; exact ⟨Nat.le_refl _, c⟩
      · rintro ⟨h1, h2⟩
        by_cases d : j = m + 1
        · exact Or.inr d.symm
        · exact Or.inl ⟨by omega, h2⟩
theorem pb_sh11 : ∀ k, k < 11 → ((1 : Int32) <<< (nI k &&& 31)) = nI (2 ^ k) := by decide +kernel
def pm_wn (q : Nat → Nat) (w s0 d k : Nat) : Prop := k ≤ (pm_F (pm_tg q w) s0).length ∧ (∀ i, i < k → pm_de (pm_tg q w) s0 i ≤ d) ∧ (∀ i, k ≤ i → i < (pm_F (pm_tg q w) s0).length → d < pm_de (pm_tg q w) s0 i)
def pc_W (W : Nat → Nat → Bool) (wanted : Nat → Int32) (n : Nat) : Prop := ∀ i t, i < n → (W i t = true ↔ wanted i = (-1 : Int32) ∨ wanted i = nI (pm_pc (pm_hs t)))
section PT
variable {n : Nat} {q : Nat → Nat} {w s0 : Nat} {top things tf tt mf mt : Int32} {bars gives rough code told fa sk : Nat → Int32}
theorem pc_within {size : Int32} {order depth from1 : Nat → Int32} {d : Nat} (hn : 10000 ≤ n) (hq : pm_cliff q) (h0 : pm_st q s0) (hX : pc_X q w s0 size order depth from1) (hd : d < 1000) :
    pu_ok (zf_X6_within n size order depth (nI d)) (fun v => ∃ k, v = nI k ∧ pm_wn q w s0 d k) := by
  have hl := pm_L_len (w := w) hq h0
  obtain ⟨rfl, hO⟩ := pc_X_at hX
  unfold zf_X6_within
  refine pu_d2.mpr (pu_up (fun i v => v = nI i ∧ ∀ j, j < i → pm_de (pm_tg q w) s0 j ≤ d) (pm_F (pm_tg q w) s0).length (by omega) ⟨rfl, fun j h => absurd h (by omega)⟩ ?_)
  rintro i v hi ⟨e1, e2⟩
  subst e1
  unfold zb_X6_within_2
  by_cases hc : (pm_F (pm_tg q w) s0).length ≤ i
  · rw [if_pos ((pn_le (by omega) (by omega)).mpr hc)]
    exact pu_out (by decide) (pu_some.mpr ⟨i, rfl, hi, e2, fun j h1 h2 => absurd h2 (by omega)⟩)
  · have hlt := pm_st_lt hq (pm_L_st (w := w) hq h0 (i := i) (by omega))
    have hdl := pm_de_le (tg := pm_tg q w) (s0 := s0) i (by omega)
    rw [if_neg (fun z => hc ((pn_le (by omega) (by omega)).mp z)), pu_ld (by omega) (by omega), pu_e1, (hO i (by omega)).1, pu_ld hlt (by omega), pu_e1, (hO i (by omega)).2.1]
    by_cases c : d < pm_de (pm_tg q w) s0 i
    · rw [if_pos ((pn_lt (by omega) (by omega)).mpr c)]
      refine pu_out (by decide) (pu_some.mpr ⟨i, rfl, hi, e2, fun j h1 h2 => ?_⟩)
      have := pm_de_mono (tg := pm_tg q w) (s0 := s0) j h2 i h1
      omega
    · rw [if_neg (fun z => c ((pn_lt (by omega) (by omega)).mp z)), pn_a1, pu_e1]
      refine pu_go ⟨by omega, rfl, ?_⟩
      intro j hj
      by_cases f : j = i
      · subst f; omega
      · exact e2 j (by omega)
theorem pc_isWanted {W : Nat → Nat → Bool} {wanted : Nat → Int32} {L m t : Nat} (hW : pc_W W wanted L) (hL : L ≤ 10) (hm : m < L) : zf_X6_isWanted wanted (nI (pm_pc (pm_hs t))) (nI (m + 1)) = some (if W m t = true then (1 : Int32) else 0) := by
  unfold zf_X6_isWanted
  rw [pv_sub 1 (by omega), show m + 1 - 1 = m from by omega, pu_ld (by omega) (by omega), pu_e1]
  have h := hW m t hm
  by_cases c : wanted m = (-1 : Int32)
  · rw [if_pos c, if_pos (h.mpr (Or.inl c))]
  · rw [if_neg c, pu_e1]
    by_cases d : wanted m = nI (pm_pc (pm_hs t))
    · rw [if_pos d, if_pos (h.mpr (Or.inr d))]
    · rw [if_neg d, if_neg (fun z => by rcases h.mp z with z | z; exact c z; exact d z)]
/-- counts and levels behind m deeds -/
def pc_cnt (q : Nat → Nat) (w s0 : Nat) (W : Nat → Nat → Bool) (m : Nat) (k1 : Nat → Int64) (lv : Nat → Int32) : Prop := (∀ i, i < (pm_F (pm_tg q w) s0).length → pm_de (pm_tg q w) s0 i ≤ m → k1 ((pm_F (pm_tg q w) s0).getD i 0) = nL (pm_fw q w (pm_F (pm_tg q w) s0) W s0 m ((pm_F (pm_tg q w) s0).getD i 0))) ∧ (∀ i, i < (pm_F (pm_tg q w) s0).length → lv ((pm_F (pm_tg q w) s0).getD i 0) = nI (pm_lv (pm_fw q w (pm_F (pm_tg q w) s0) W s0) ((pm_F (pm_tg q w) s0).getD i 0) m))
theorem pm_15 {m : Nat} (hm : m ≤ 10) : 15 ^ m ≤ 576650390625 := Nat.le_trans (Nat.pow_le_pow_right (n := 15) (by omega) hm) (by decide)
theorem nL0 {a : Nat} (h : a < 9223372036854775808) : nL a = (0 : Int64) ↔ a = 0 := pl_eq (b := 0) h (by decide)
theorem pc_spread {W : Nat → Nat → Bool} {wanted : Nat → Int32} {L m A1 A2 : Nat} {size found : Int32} {deeds ends order depth from1 lv : Nat → Int32} {k1 k2 : Nat → Int64} (hn : 10000 ≤ n) (hq : pm_cliff q) (hK : pc_K q top things tf tt mf mt bars gives rough code) (hT : pc_told q w told) (hw : w ≤ 9) (h0 : pm_st q s0) (hX : pc_X q w s0 size order depth from1) (hW : pc_W W wanted L) (hL : L ≤ 10) (hm : m < L) (hc : pc_cnt q w s0 W m k1 lv) :
    pu_ok (zf_X6_spread n found top things tf tt mf mt bars gives rough code (nI w) told fa sk deeds ends size order depth wanted A1 k1 A2 k2 lv (nI (m + 1))) (fun r => pc_cnt q w s0 W (m + 1) r.2.2.2.2.2.2.2.1 r.2.2.2.2.2.2.2.2.2.2 ∧ pc_told q w r.2.1 ∧ r.2.2.2.2.2.2.1 = A2 ∧ r.2.2.2.2.2.2.2.2.1 = A1) := by
  have hl := pm_L_len (w := w) hq h0
  have hnd := pm_L_nd (q := q) (w := w) (s0 := s0)
  have hcl := pm_L_cl (q := q) (w := w) hq h0
  have hF0 := pm_F_0 (pm_tg q w) s0
  have hs0 : s0 ∈ (pm_F (pm_tg q w) s0) := by have := pm_getD_mem hF0.2; rw [hF0.1] at this; exact this
  have hSt := fun i hi => pm_L_st (w := w) hq h0 (i := i) hi
  have hX' := pc_X_at hX
  unfold zf_X6_spread
  refine pu_d1.mpr (pu_mono (pc_within (d := m + 1) hn hq h0 hX (by omega)) ?_)
  rintro v1 ⟨K1, rfl, hK1⟩
  obtain ⟨K1a, K1b, K1c⟩ := hK1
  -- cleared
  refine pu_d3.mpr (pu_up (fun i v => v.1 = nI i ∧ ∀ j, j < i → v.2 ((pm_F (pm_tg q w) s0).getD j 0) = nL 0) K1 (by omega) ⟨rfl, fun j h => absurd h (by omega)⟩ ?_)
  rintro i ⟨v2, a3⟩ hi ⟨e1, e2⟩
  dsimp only at e1 e2 ⊢
  subst e1
  unfold zb_X6_spread_8
  by_cases hcc : K1 ≤ i
  rotate_left
  · have hlt := pm_st_lt hq (hSt i (by omega))
    rw [if_neg (fun z => hcc ((pn_le (by omega) (by omega)).mp z)), pu_ld (by omega) (by omega), pu_e1, (hX'.2 i (by omega)).1, pu_st hlt (by omega), pu_e1, pn_a1, pu_e1]
    refine pu_go ⟨by omega, rfl, ?_⟩
    intro j hj
    dsimp only
    by_cases f : j = i
    · subst f; rw [pu_upe]; rfl
    · rw [pu_upn (fun z => f (pm_nd_inj hnd (by omega) (by omega) z))]
      exact e2 j (by omega)
  rw [if_pos ((pn_le (by omega) (by omega)).mpr hcc)]
  refine pu_out (by decide) ?_
  dsimp only
  rw [pv_sub 1 (by omega), show m + 1 - 1 = m from by omega]
  refine pu_d1.mpr (pu_mono (pc_within (d := m) hn hq h0 hX (by omega)) ?_)
  rintro v10 ⟨K0, rfl, hK0⟩
  obtain ⟨K0a, K0b, K0c⟩ := hK0
  obtain ⟨hc1, hc2⟩ := hc
  have hb := fun t ht => pm_fw_le (q := q) (w := w) (W := W) (s0 := s0) hcl hs0 m (t := t) ht
  have h15 := pm_15 (show m ≤ 10 by omega)
  -- spread
  refine pu_d10.mpr (pu_up (fun i v => v.1 = nI i ∧ pc_told q w v.2.2.1 ∧ (∀ j, j < (pm_F (pm_tg q w) s0).length → pm_de (pm_tg q w) s0 j ≤ m + 1 → v.2.2.2.2.2.2.2.1 ((pm_F (pm_tg q w) s0).getD j 0) = nL (pm_Q q w (pm_F (pm_tg q w) s0) (W m) (pm_fw q w (pm_F (pm_tg q w) s0) W s0 m) (15 * i) ((pm_F (pm_tg q w) s0).getD j 0))) ∧ (∀ j, j < (pm_F (pm_tg q w) s0).length → v.2.2.2.2.2.2.2.2 ((pm_F (pm_tg q w) s0).getD j 0) = nI (pm_lv (pm_fw q w (pm_F (pm_tg q w) s0) W s0) ((pm_F (pm_tg q w) s0).getD j 0) m ||| (if pm_Q q w (pm_F (pm_tg q w) s0) (W m) (pm_fw q w (pm_F (pm_tg q w) s0) W s0 m) (15 * i) ((pm_F (pm_tg q w) s0).getD j 0) = 0 then 0 else 2 ^ (m + 1))))) K0 (by omega) ⟨rfl, hT, ?_, ?_⟩ ?_)
  · intro j hj hd
    dsimp only
    rw [e2 j (by rcases Nat.lt_or_ge j K1 with z | z; omega; have := K1c j z hj; omega)]
    rfl
  · intro j hj
    dsimp only
    rw [hc2 j hj, show pm_Q q w (pm_F (pm_tg q w) s0) (W m) (pm_fw q w (pm_F (pm_tg q w) s0) W s0 m) (15 * 0) ((pm_F (pm_tg q w) s0).getD j 0) = 0 from rfl, if_pos rfl, Nat.or_zero]
  rintro i ⟨v11, v12, a13, a14, a15, a16, a17, a18, a19⟩ hi ⟨e1, hT2, hA, hB⟩
  dsimp only at e1 hT2 hA hB ⊢
  subst e1
  unfold zb_X6_spread_45
  by_cases hcc2 : K0 ≤ i
  · have : i = K0 := by omega
    subst this
    have hQ : ∀ t, pm_Q q w (pm_F (pm_tg q w) s0) (W m) (pm_fw q w (pm_F (pm_tg q w) s0) W s0 m) (15 * i) t = pm_fw q w (pm_F (pm_tg q w) s0) W s0 (m + 1) t := by
      intro t
      have := pm_Q_ext (q := q) (w := w) (F := (pm_F (pm_tg q w) s0)) (W := W m) (cnt := pm_fw q w (pm_F (pm_tg q w) s0) W s0 m) (a := i) (t := t) ((pm_F (pm_tg q w) s0).length - i) (fun j h1 h2 => pm_fw_far hq h0 m j (by omega) (K0c j h1 (by omega)))
      rw [show i + ((pm_F (pm_tg q w) s0).length - i) = (pm_F (pm_tg q w) s0).length from by omega] at this
      exact this.symm
    rw [if_pos ((pn_le (by omega) (by omega)).mpr hcc2)]
    refine pu_out (by decide) (pu_some.mpr ⟨⟨?_, ?_⟩, hT2, rfl, rfl⟩)
    · intro j hj hd
      dsimp only
      rw [hA j hj hd, hQ]
    · intro j hj
      dsimp only
      rw [hB j hj, hQ]
      rfl
  · have hiF : i < (pm_F (pm_tg q w) s0).length := by omega
    have hst := hSt i hiF
    have hlt := pm_st_lt hq hst
    have hcnt := hc1 i hiF (K0b i (by omega))
    have hbi := hb _ (pm_getD_mem hiF)
    have hmem := pm_getD_mem hiF
    rw [if_neg (fun z => hcc2 ((pn_le (by omega) (by omega)).mp z)), pu_ld (by omega) (by omega), pu_e1, (hX'.2 i hiF).1, pu_ld hlt (by omega), pu_e1, hcnt]
    generalize hcv : pm_fw q w (pm_F (pm_tg q w) s0) W s0 m ((pm_F (pm_tg q w) s0).getD i 0) = cv at hcnt hbi
    by_cases hz : cv = 0
    · rw [if_pos (lg_eq.mpr ((nL0 (by omega)).mpr hz)), pu_e7]
      refine pu_d4.mpr (pu_up (fun _ v => v = ((0 : Int32), a18, a19)) 0 (by omega) rfl ?_)
      rintro x ⟨y1, y2, y3⟩ _ e
      cases e
      dsimp only
      unfold zb_X6_spread_93
      rw [if_pos (by decide)]
      refine pu_out (by decide) ?_
      dsimp only
      rw [pn_a1, pu_e1]
      refine pu_go ⟨by omega, rfl, hT2, ?_, ?_⟩
      · intro j hj hd
        dsimp only
        rw [hA j hj hd, show 15 * (i + 1) = 15 * i + 15 from rfl, pm_Q_0 (by rw [hcv]; exact hz) 15 (Nat.le_refl _)]
      · intro j hj
        dsimp only
        rw [hB j hj, show 15 * (i + 1) = 15 * i + 15 from rfl, pm_Q_0 (by rw [hcv]; exact hz) 15 (Nat.le_refl _)]
    · rw [if_neg (fun z => hz ((nL0 (by omega)).mp (lg_eq.mp z)))]
      refine pu_d7.mpr (pu_d7.mpr (pu_mono (pc_gather (by omega) hq hK hT2 hst hw) ?_))
      rintro ⟨v22, v23, a24, a25, a26, a27, a28⟩ ⟨g1, g2, g3, g4⟩
      dsimp only at g1 g2 g3 g4 ⊢
      refine pu_some.mpr ?_
      dsimp only
      subst g1
      have hl9 := pm_l9 (q := q) (w := w) (s := (pm_F (pm_tg q w) s0).getD i 0)
      refine pu_d4.mpr (pu_gl (q := q) (w := w) (s := (pm_F (pm_tg q w) s0).getD i 0) (fun k mv v => v.1 = nI k ∧ (∀ j, j < (pm_F (pm_tg q w) s0).length → pm_de (pm_tg q w) s0 j ≤ m + 1 → v.2.1 ((pm_F (pm_tg q w) s0).getD j 0) = nL (pm_Q q w (pm_F (pm_tg q w) s0) (W m) (pm_fw q w (pm_F (pm_tg q w) s0) W s0 m) (15 * i + mv) ((pm_F (pm_tg q w) s0).getD j 0))) ∧ (∀ j, j < (pm_F (pm_tg q w) s0).length → v.2.2 ((pm_F (pm_tg q w) s0).getD j 0) = nI (pm_lv (pm_fw q w (pm_F (pm_tg q w) s0) W s0) ((pm_F (pm_tg q w) s0).getD j 0) m ||| (if pm_Q q w (pm_F (pm_tg q w) s0) (W m) (pm_fw q w (pm_F (pm_tg q w) s0) W s0 m) (15 * i + mv) ((pm_F (pm_tg q w) s0).getD j 0) = 0 then 0 else 2 ^ (m + 1))))) (by omega) ⟨rfl, hA, hB⟩ ?_ ?_ ?_)
      · rintro k mv ⟨x1, x2, x3⟩ hmv hcm ⟨h1, h2, h3⟩
        have hQs : ∀ t, pm_Q q w (pm_F (pm_tg q w) s0) (W m) (pm_fw q w (pm_F (pm_tg q w) s0) W s0 m) (15 * i + (mv + 1)) t = pm_Q q w (pm_F (pm_tg q w) s0) (W m) (pm_fw q w (pm_F (pm_tg q w) s0) W s0 m) (15 * i + mv) t := by
          intro t
          rw [pm_Q_s hmv, if_neg (fun z => hcm z.1), Nat.add_zero]
        refine ⟨h1, ?_, ?_⟩
        · intro j hj hd; rw [hQs]; exact h2 j hj hd
        · intro j hj; rw [hQs]; exact h3 j hj
      · rintro ⟨x1, x2, x3⟩ ⟨h1, h2, h3⟩
        dsimp only at h1 h2 h3 ⊢
        subst h1
        unfold zb_X6_spread_93
        rw [if_pos ((pn_le (by omega) (by omega)).mpr (Nat.le_refl _))]
        refine pu_some.mpr ⟨Nat.one_ne_zero, ?_⟩
        dsimp only
        rw [pn_a1, pu_e1]
        exact pu_go ⟨by omega, rfl, g3, h2, h3⟩
      · rintro k mv ⟨x1, x2, x3⟩ hk hmv hcm hg ⟨h1, h2, h3⟩
        dsimp only at h1 h2 h3 ⊢
        subst h1
        have hac := pm_acst hq hst hmv hcm
        have haclt := pm_st_lt hq hac
        obtain ⟨jt, jt1, jt2, jt3⟩ := pm_L_tgt (q := q) (w := w) hq h0 hiF hmv hcm
        have hdj := pm_de_tgt hiF jt1 hmv jt3
        have hdi := K0b i (by omega)
        unfold zb_X6_spread_93
        rw [if_neg (fun z => by have := (pn_le (by omega) (by omega)).mp z; omega), pu_ld (by omega) (by omega), pu_e1, (g4 k hk).2, hg, pc_thingsOf haclt, pu_e1, pb_pc _ (pm_hs_lt _), pu_e1, pc_isWanted hW hL hm, pu_e1]
        generalize hace : pm_ac q w ((pm_F (pm_tg q w) s0).getD i 0) mv = tt at haclt jt2
        have hQs : ∀ t, pm_Q q w (pm_F (pm_tg q w) s0) (W m) (pm_fw q w (pm_F (pm_tg q w) s0) W s0 m) (15 * i + (mv + 1)) t = pm_Q q w (pm_F (pm_tg q w) s0) (W m) (pm_fw q w (pm_F (pm_tg q w) s0) W s0 m) (15 * i + mv) t + (if tt = t ∧ W m t = true then cv else 0) := by
          intro t
          rw [pm_Q_s hmv, hcv, hace]
          by_cases f : tt = t ∧ W m t = true
          · rw [if_pos ⟨hcm, f⟩, if_pos f]
          · rw [if_neg (fun z => f z.2), if_neg f]
        by_cases hwt : W m tt = true
        rotate_left
        · have hQ2 : ∀ t, pm_Q q w (pm_F (pm_tg q w) s0) (W m) (pm_fw q w (pm_F (pm_tg q w) s0) W s0 m) (15 * i + (mv + 1)) t = pm_Q q w (pm_F (pm_tg q w) s0) (W m) (pm_fw q w (pm_F (pm_tg q w) s0) W s0 m) (15 * i + mv) t := by
            intro t
            rw [hQs, if_neg (fun z => hwt (by rw [z.1]; exact z.2)), Nat.add_zero]
          rw [if_neg hwt, if_pos rfl, pu_e2, pn_a1, pu_e1]
          refine pu_go ⟨rfl, ?_, ?_⟩
          · intro j hj hd; dsimp only; rw [hQ2]; exact h2 j hj hd
          · intro j hj; dsimp only; rw [hQ2]; exact h3 j hj
        have hA2 := h2 jt jt1 (by omega)
        have hB2 := h3 jt jt1
        rw [jt2] at hA2 hB2
        rw [if_pos hwt, if_neg (by decide), pu_ld haclt (by omega), pu_e1, pu_ld hlt (by omega), pu_e1, pu_st haclt (by omega), pu_e1, pu_ld haclt (by omega), pu_e1, pu_st haclt (by omega), pu_e1, pu_e2, pn_a1, pu_e1, hA2, hB2, hcnt, pl_add, pb_sh11 _ (by omega), pn_or]
        refine pu_go ⟨rfl, ?_, ?_⟩
        · intro j hj hd
          dsimp only
          rw [hQs]
          by_cases f : (pm_F (pm_tg q w) s0).getD j 0 = tt
          · rw [f, pu_upe, if_pos ⟨rfl, hwt⟩]
          · rw [pu_upn f, if_neg (fun z => f z.1.symm), Nat.add_zero]
            exact h2 j hj hd
        · intro j hj
          dsimp only
          rw [hQs]
          by_cases f : (pm_F (pm_tg q w) s0).getD j 0 = tt
          · rw [f, pu_upe, if_pos (show tt = tt ∧ W m tt = true from ⟨rfl, hwt⟩), if_neg (show ¬ pm_Q q w (pm_F (pm_tg q w) s0) (W m) (pm_fw q w (pm_F (pm_tg q w) s0) W s0 m) (15 * i + mv) tt + cv = 0 by omega)]
            congr 1
            split
            · rw [Nat.or_zero]
            · rw [Nat.or_assoc, Nat.or_self]
          · rw [pu_upn f, if_neg (show ¬ (tt = (pm_F (pm_tg q w) s0).getD j 0 ∧ W m ((pm_F (pm_tg q w) s0).getD j 0) = true) from fun z => f z.1.symm), Nat.add_zero]
            exact h3 j hj
theorem pc_tally {W : Nat → Nat → Bool} {wanted : Nat → Int32} {L A1 A2 : Nat} {size found : Int32} {deeds ends order depth from1 lv : Nat → Int32} {k1 k2 : Nat → Int64} (hn : 10000 ≤ n) (hq : pm_cliff q) (hK : pc_K q top things tf tt mf mt bars gives rough code) (hT : pc_told q w told) (hw : w ≤ 9) (h0 : pm_st q s0) (hX : pc_X q w s0 size order depth from1) (hW : pc_W W wanted L) (hL : L ≤ 10) :
    pu_ok (zf_X6_tally n (nI L) found top things tf tt mf mt bars gives rough code (nI w) told fa sk deeds ends size order depth wanted A1 k1 A2 k2 lv (nI s0)) (fun r => pc_cnt q w s0 W L r.2.2.2.2.2.2.2.1 r.2.2.2.2.2.2.2.2.2.2 ∧ pc_told q w r.2.1 ∧ (r.2.2.2.2.2.2.1 = A1 ∧ r.2.2.2.2.2.2.2.2.1 = A2 ∨ r.2.2.2.2.2.2.1 = A2 ∧ r.2.2.2.2.2.2.2.2.1 = A1)) := by
  have hl := pm_L_len (w := w) hq h0
  have hnd := pm_L_nd (q := q) (w := w) (s0 := s0)
  have hF0 := pm_F_0 (pm_tg q w) s0
  have hSt := fun i hi => pm_L_st (w := w) hq h0 (i := i) hi
  have hX' := pc_X_at hX
  have hlt0 := pm_st_lt hq h0
  unfold zf_X6_tally
  rw [hX'.1]
  refine pu_d3.mpr (pu_up (fun i v => v.1 = nI i ∧ ∀ j, j < i → v.2 ((pm_F (pm_tg q w) s0).getD j 0) = nI 0) (pm_F (pm_tg q w) s0).length (by omega) ⟨rfl, fun j h => absurd h (by omega)⟩ ?_)
  rintro i ⟨v2, a3⟩ hi ⟨e1, e2⟩
  dsimp only at e1 e2 ⊢
  subst e1
  unfold zb_X6_tally_2
  by_cases hcc : (pm_F (pm_tg q w) s0).length ≤ i
  rotate_left
  · have hlt := pm_st_lt hq (hSt i (by omega))
    rw [if_neg (fun z => hcc ((pn_le (by omega) (by omega)).mp z)), pu_ld (by omega) (by omega), pu_e1, (hX'.2 i (by omega)).1, pu_st hlt (by omega), pu_e1, pn_a1, pu_e1]
    refine pu_go ⟨by omega, rfl, ?_⟩
    intro j hj
    dsimp only
    by_cases f : j = i
    · subst f; rw [pu_upe]; rfl
    · rw [pu_upn (fun z => f (pm_nd_inj hnd (by omega) (by omega) z))]
      exact e2 j (by omega)
  rw [if_pos ((pn_le (by omega) (by omega)).mpr hcc)]
  refine pu_out (by decide) ?_
  dsimp only
  rw [pu_st hlt0 (by omega), pu_e1, pu_st hlt0 (by omega), pu_e1, ← hX'.1]
  have hidx : ∀ j, j < (pm_F (pm_tg q w) s0).length → ((pm_F (pm_tg q w) s0).getD j 0 = s0 ↔ j = 0) := by
    intro j hj
    constructor
    · intro z; exact pm_nd_inj hnd hj hF0.2 (by rw [z, hF0.1])
    · rintro rfl; exact hF0.1
  refine pu_d13.mpr (pu_up (fun m v => v.2.2.1 = nI (m + 1) ∧ pc_told q w v.2.2.2.2.1 ∧ pc_cnt q w s0 W m v.2.2.2.2.2.2.2.2.2.1 v.2.2.2.2.2.2.2.2.2.2.2 ∧ (v.1 = A1 ∧ v.2.1 = A2 ∨ v.1 = A2 ∧ v.2.1 = A1)) L (by omega) ⟨rfl, hT, ⟨?_, ?_⟩, Or.inl ⟨rfl, rfl⟩⟩ ?_)
  · intro j hj hd
    dsimp only
    have hj0 : j = 0 := by
      rcases Nat.eq_zero_or_pos j with z | z
      · exact z
      · have := pm_de_s (tg := pm_tg q w) (s0 := s0) z hj; omega
    have e : (pm_F (pm_tg q w) s0).getD j 0 = s0 := (hidx j hj).mpr hj0
    rw [e, pu_upe]
    show _ = nL (if s0 = s0 then 1 else 0)
    rw [if_pos rfl]; rfl
  · intro j hj
    dsimp only
    by_cases f : (pm_F (pm_tg q w) s0).getD j 0 = s0
    · rw [f, pu_upe]
      show _ = nI (if pm_fw q w (pm_F (pm_tg q w) s0) W s0 0 s0 = 0 then 0 else 1)
      rw [show pm_fw q w (pm_F (pm_tg q w) s0) W s0 0 s0 = 1 from if_pos rfl]; rfl
    · rw [pu_upn f, e2 j (by omega)]
      show _ = nI (if pm_fw q w (pm_F (pm_tg q w) s0) W s0 0 ((pm_F (pm_tg q w) s0).getD j 0) = 0 then 0 else 1)
      rw [show pm_fw q w (pm_F (pm_tg q w) s0) W s0 0 ((pm_F (pm_tg q w) s0).getD j 0) = 0 from if_neg f]; rfl
  rintro m ⟨v11, v12, v13, v14, a15, a16, a17, a18, a19, a20, a21, a22⟩ hm ⟨e1, hT2, hcn, hA⟩
  dsimp only at e1 hT2 hcn hA ⊢
  subst e1
  unfold zb_X6_tally_50
  by_cases hc : m = L
  · subst hc
    rw [if_pos ((pn_lt (by omega) (by omega)).mpr (by omega))]
    exact pu_out (by decide) (pu_some.mpr ⟨hcn, hT2, hA⟩)
  · rw [if_neg (fun z => by have := (pn_lt (by omega) (by omega)).mp z; omega)]
    refine pu_d11.mpr (pu_mono (pc_spread hn hq hK hT2 hw h0 hX hW hL (by omega) hcn) ?_)
    rintro ⟨v23, a24, a25, a26, a27, a28, v29, a30, v31, a32, a33⟩ ⟨g1, g2, g3, g4⟩
    dsimp only at g1 g2 g3 g4 ⊢
    rw [pn_a1, pu_e1]
    refine pu_go ⟨by omega, rfl, g2, g1, ?_⟩
    dsimp only
    subst g3 g4
    rcases hA with ⟨z1, z2⟩ | ⟨z1, z2⟩
    · exact Or.inr ⟨z2, z1⟩
    · exact Or.inl ⟨z2, z1⟩
end PT
