/-! what is asked of the counted rows: the class -/
theorem pb_andm : ∀ h, h < 64 → ((-1 : Int32) &&& nI h) = nI h := by decide +kernel
theorem pb_clrm : ∀ m, m < 11 → (nI 2047 &&& (nI (2 ^ m) ^^^ (-1 : Int32))) = nI (2047 ^^^ 2 ^ m) := by decide +kernel
theorem pb_clr {m a : Nat} (hm : m < 11) (ha : a < 2048) : (nI a &&& (nI (2 ^ m) ^^^ (-1 : Int32))) = nI (a &&& (2047 ^^^ 2 ^ m)) := by
  have e : a &&& 2047 = a := by
    have := Nat.and_two_pow_sub_one_eq_mod a 11
    rw [show 2 ^ 11 - 1 = 2047 from rfl] at this
    rw [this]; exact Nat.mod_eq_of_lt ha
  have e2 : nI a = nI a &&& nI 2047 := by rw [pn_and, e]
  rw [e2, Int32.and_assoc, pb_clrm m hm, pn_and]
theorem pb_smod : ∀ m, m < 11 → ((nI m &&& 31).toBitVec.smod 32).toNat = m := by decide +kernel
theorem pb_bitL {m a : Nat} (hm : m < 11) (ha : a < 2048) : ((nI a >>> (nI m &&& 31)) &&& (1 : Int32)) = nI (if a.testBit m then 1 else 0) := by
  rw [pk_shrN (by omega) _ m (pb_smod m hm), show (1 : Int32) = nI 1 from rfl, pn_and, Nat.and_one_is_mod, Nat.testBit_eq_decide_div_mod_eq]
  congr 1
  by_cases c : a / 2 ^ m % 2 = 1
  · rw [if_pos (by simpa using c), c]
  · rw [if_neg (by simpa using c)]; omega
theorem pb_clr2 : ∀ m, m < 11 → ∀ j, j < 11 → (2047 ^^^ 2 ^ m).testBit j = decide (¬ j = m) := by decide +kernel
def pm_bst (q : Nat → Nat) (w : Nat) (P : Nat → Bool) (s mv : Nat) : Prop := mv < 15 ∧ pm_wy q w s mv = 0 ∧ P (pm_ac q w s mv) = true ∧ ∀ k, k < mv → pm_wy q w s k = 0 → P (pm_ac q w s k) = false
def pm_fm (q : Nat → Nat) (w : Nat) (P : Nat → Bool) (s : Nat) : Nat → Nat
  | 0 => 15
  | d + 1 => if pm_wy q w s (14 - d) = 0 ∧ P (pm_ac q w s (14 - d)) = true then 14 - d else pm_fm q w P s d
theorem pm_fm_eq {q : Nat → Nat} {w : Nat} {P : Nat → Bool} {s mv : Nat} (h : pm_bst q w P s mv) : ∀ d, d ≤ 15 → 15 - d ≤ mv → pm_fm q w P s d = mv := by
  obtain ⟨h1, h2, h3, h4⟩ := h
  intro d
  induction d with
  | zero => intro _ h; omega
  | succ d ih =>
    intro hd hm
    show (if pm_wy q w s (14 - d) = 0 ∧ P (pm_ac q w s (14 - d)) = true then 14 - d else pm_fm q w P s d) = mv
    by_cases c : 14 - d = mv
    · rw [c, if_pos ⟨h2, h3⟩]
    · rw [if_neg, ih (by omega) (by omega)]
      rintro ⟨z1, z2⟩
      rw [h4 (14 - d) (by omega) z1] at z2
      cases z2
theorem pm_fm_ex {q : Nat → Nat} {w : Nat} {P : Nat → Bool} {s : Nat} (h : ∃ k, k < 15 ∧ pm_wy q w s k = 0 ∧ P (pm_ac q w s k) = true) : pm_bst q w P s (pm_fm q w P s 15) := by
  have key : ∀ n k, k < n → k < 15 → pm_wy q w s k = 0 → P (pm_ac q w s k) = true → ∃ mv, pm_bst q w P s mv := by
    intro n
    induction n with
    | zero => intro k h; omega
    | succ n ih =>
      intro k h1 h2 h3 h4
      by_cases c : ∃ k', k' < k ∧ pm_wy q w s k' = 0 ∧ P (pm_ac q w s k') = true
      · obtain ⟨k', c1, c2, c3⟩ := c
        exact ih k' (by omega) (by omega) c2 c3
      · refine ⟨k, h2, h3, h4, ?_⟩
        intro k' hk hz
        cases hp : P (pm_ac q w s k')
        · rfl
        · exact absurd ⟨k', hk, hz, hp⟩ c
  obtain ⟨k, h1, h2, h3⟩ := h
  obtain ⟨mv, hmv⟩ := key (k + 1) k (by omega) h1 h2 h3
  rw [pm_fm_eq hmv 15 (Nat.le_refl _) (by omega)]
  exact hmv
section PS
variable {n : Nat} {q : Nat → Nat} {w s0 : Nat} {top things tf tt mf mt : Int32} {bars gives rough code told fa sk : Nat → Int32}
theorem pc_ending {W : Nat → Nat → Bool} {L r t : Nat} {size : Int32} {order depth from1 lv : Nat → Int32} {k1 : Nat → Int64} {p1 p2 : Int32} {C : Nat → Bool} (hn : 10000 ≤ n) (hq : pm_cliff q) (h0 : pm_st q s0) (hX : pc_X q w s0 size order depth from1) (hL : L ≤ 10) (hc : pc_cnt q w s0 W L k1 lv) (hp : p1 = (-1 : Int32) ∧ p2 = 0 ∧ (∀ s, C s = true) ∨ p1 = nI r ∧ p2 = nI t ∧ r < 100 ∧ t < 64 ∧ (∀ s, C s = true ↔ pm_G r t s)) :
    zf_X6_endingOn n (nI L) size order depth k1 p1 p2 = some (nL (pm_si (fun s => if C s = true then pm_fw q w (pm_F (pm_tg q w) s0) W s0 L s else 0) (pm_F (pm_tg q w) s0) (pm_F (pm_tg q w) s0).length)) := by
  have hl := pm_L_len (w := w) hq h0
  have hX' := pc_X_at hX
  apply pu_ex
  unfold zf_X6_endingOn
  refine pu_d1.mpr (pu_mono (pc_within (d := L) hn hq h0 hX (by omega)) ?_)
  rintro v1 ⟨K, rfl, Ka, Kb, Kc⟩
  have hfin : pm_si (fun s => if C s = true then pm_fw q w (pm_F (pm_tg q w) s0) W s0 L s else 0) (pm_F (pm_tg q w) s0) (pm_F (pm_tg q w) s0).length = pm_si (fun s => if C s = true then pm_fw q w (pm_F (pm_tg q w) s0) W s0 L s else 0) (pm_F (pm_tg q w) s0) K := by
    have := pm_si_ext (f := fun s => if C s = true then pm_fw q w (pm_F (pm_tg q w) s0) W s0 L s else 0) (F := (pm_F (pm_tg q w) s0)) (a := K) ((pm_F (pm_tg q w) s0).length - K) (fun i h1 h2 => by rw [pm_fw_far hq h0 L i (by omega) (Kc i h1 (by omega)), ite_self])
    rw [show K + ((pm_F (pm_tg q w) s0).length - K) = (pm_F (pm_tg q w) s0).length from by omega] at this
    exact this
  rw [hfin]
  refine pu_d3.mpr (pu_up (fun i v => v.1 = nL (pm_si (fun s => if C s = true then pm_fw q w (pm_F (pm_tg q w) s0) W s0 L s else 0) (pm_F (pm_tg q w) s0) i) ∧ v.2 = nI i) K (by omega) ⟨rfl, rfl⟩ ?_)
  rintro i ⟨v2, v3⟩ hi ⟨e1, e2⟩
  dsimp only at e1 e2 ⊢
  subst e1 e2
  unfold zb_X6_endingOn_15
  by_cases hcc : K ≤ i
  · have : i = K := by omega
    subst this
    rw [if_pos ((pn_le (by omega) (by omega)).mpr hcc)]
    exact pu_out (by decide) (pu_some.mpr rfl)
  · have hiF : i < (pm_F (pm_tg q w) s0).length := by omega
    have hlt := pm_st_lt hq (pm_L_st (w := w) hq h0 hiF)
    have hrg : pm_rg ((pm_F (pm_tg q w) s0).getD i 0) < 9 := by unfold pm_rg; omega
    have hcn := hc.1 i hiF (Kb i (by omega))
    rw [if_neg (fun z => hcc ((pn_le (by omega) (by omega)).mp z)), pu_ld (by omega) (by omega), pu_e1, (hX'.2 i hiF).1]
    refine pu_d1.mpr (pu_mono (P := fun v => v = nL (pm_si (fun s => if C s = true then pm_fw q w (pm_F (pm_tg q w) s0) W s0 L s else 0) (pm_F (pm_tg q w) s0) (i + 1))) ?_ ?_)
    · show pu_ok _ (fun v => v = nL (pm_si (fun s => if C s = true then pm_fw q w (pm_F (pm_tg q w) s0) W s0 L s else 0) (pm_F (pm_tg q w) s0) i + (if C ((pm_F (pm_tg q w) s0).getD i 0) = true then pm_fw q w (pm_F (pm_tg q w) s0) W s0 L ((pm_F (pm_tg q w) s0).getD i 0) else 0)))
      rcases hp with ⟨rfl, rfl, hC⟩ | ⟨rfl, rfl, hr, ht, hC⟩
      · rw [if_pos rfl, pc_thingsOf hlt, pu_e1, if_pos (Int32.zero_and), pu_ld hlt (by omega), pu_e1, hcn, pl_add, pu_e1, if_pos (hC _)]
        exact pu_some.mpr rfl
      · rw [if_neg (fun z => (pn_ne1 (by omega)).mp z), pc_rungOf hlt, pu_e1]
        by_cases c1 : pm_rg ((pm_F (pm_tg q w) s0).getD i 0) = r
        · rw [if_pos (by rw [c1]), pc_thingsOf hlt, pu_e1]
          by_cases c2 : pm_hs ((pm_F (pm_tg q w) s0).getD i 0) &&& t = t
          · rw [if_pos ((pb_sub _ ht _ (pm_hs_lt _)).mpr c2), pu_ld hlt (by omega), pu_e1, hcn, pl_add, pu_e1, if_pos ((hC _).mpr ⟨c1, c2⟩)]
            exact pu_some.mpr rfl
          · rw [if_neg (fun z => c2 ((pb_sub _ ht _ (pm_hs_lt _)).mp z)), if_neg (fun z => c2 ((hC _).mp z).2), Nat.add_zero]
            exact pu_some.mpr rfl
        · rw [if_neg (fun z => c1 ((pn_eq (by omega) (by omega)).mp z)), if_neg (fun z => c1 ((hC _).mp z).1), Nat.add_zero]
          exact pu_some.mpr rfl
    · rintro v rfl
      rw [pn_a1, pu_e1]
      exact pu_go ⟨by omega, rfl, rfl⟩
theorem pc_common {W : Nat → Nat → Bool} {L : Nat} {size : Int32} {order depth from1 lv : Nat → Int32} {k1 : Nat → Int64} (hn : 10000 ≤ n) (hq : pm_cliff q) (h0 : pm_st q s0) (hX : pc_X q w s0 size order depth from1) (hL : L ≤ 10) (hc : pc_cnt q w s0 W L k1 lv) :
    pu_ok (zf_X6_commonThings n (nI L) size order depth k1) (fun v => (v = 0 ∧ ∀ i, i < (pm_F (pm_tg q w) s0).length → pm_fw q w (pm_F (pm_tg q w) s0) W s0 L ((pm_F (pm_tg q w) s0).getD i 0) = 0) ∨ ((∃ i, i < (pm_F (pm_tg q w) s0).length ∧ ¬ pm_fw q w (pm_F (pm_tg q w) s0) W s0 L ((pm_F (pm_tg q w) s0).getD i 0) = 0) ∧ ∃ x, x < 64 ∧ v = nI x ∧ ∀ b, b < 6 → (x.testBit b = true ↔ ∀ i, i < (pm_F (pm_tg q w) s0).length → ¬ pm_fw q w (pm_F (pm_tg q w) s0) W s0 L ((pm_F (pm_tg q w) s0).getD i 0) = 0 → (pm_hs ((pm_F (pm_tg q w) s0).getD i 0)).testBit b = true))) := by
  have hl := pm_L_len (w := w) hq h0
  have hcl := pm_L_cl (q := q) (w := w) hq h0
  have hF0 := pm_F_0 (pm_tg q w) s0
  have hs0 : s0 ∈ (pm_F (pm_tg q w) s0) := by have := pm_getD_mem hF0.2; rw [hF0.1] at this; exact this
  have hX' := pc_X_at hX
  unfold zf_X6_commonThings
  refine pu_d1.mpr (pu_mono (pc_within (d := L) hn hq h0 hX (by omega)) ?_)
  rintro v1 ⟨K, rfl, Ka, Kb, Kc⟩
  refine pu_d3.mpr (pu_up (fun i v => v.2 = nI i ∧ ((v.1 = (-1 : Int32) ∧ ∀ j, j < i → pm_fw q w (pm_F (pm_tg q w) s0) W s0 L ((pm_F (pm_tg q w) s0).getD j 0) = 0) ∨ ((∃ j, j < i ∧ ¬ pm_fw q w (pm_F (pm_tg q w) s0) W s0 L ((pm_F (pm_tg q w) s0).getD j 0) = 0) ∧ ∃ x, x < 64 ∧ v.1 = nI x ∧ ∀ b, b < 6 → (x.testBit b = true ↔ ∀ j, j < i → ¬ pm_fw q w (pm_F (pm_tg q w) s0) W s0 L ((pm_F (pm_tg q w) s0).getD j 0) = 0 → (pm_hs ((pm_F (pm_tg q w) s0).getD j 0)).testBit b = true)))) K (by omega) ⟨rfl, Or.inl ⟨rfl, fun j h => absurd h (by omega)⟩⟩ ?_)
  rintro i ⟨v2, v3⟩ hi ⟨e1, e2⟩
  dsimp only at e1 e2 ⊢
  subst e1
  unfold zb_X6_commonThings_13
  by_cases hcc : K ≤ i
  · have : i = K := by omega
    subst this
    rw [if_pos ((pn_le (by omega) (by omega)).mpr hcc)]
    refine pu_out (by decide) ?_
    dsimp only
    have hz : ∀ j, j < (pm_F (pm_tg q w) s0).length → ¬ pm_fw q w (pm_F (pm_tg q w) s0) W s0 L ((pm_F (pm_tg q w) s0).getD j 0) = 0 → j < i := by
      intro j hj hne
      rcases Nat.lt_or_ge j i with z | z
      · exact z
      · exact absurd (pm_fw_far hq h0 L j hj (Kc j z hj)) hne
    rcases e2 with ⟨rfl, e3⟩ | ⟨⟨j, j1, j2⟩, x, x1, rfl, x2⟩
    · rw [if_pos rfl]
      refine pu_some.mpr (Or.inl ⟨rfl, ?_⟩)
      intro j hj
      rcases Nat.lt_or_ge j i with z | z
      · exact e3 j z
      · exact pm_fw_far hq h0 L j hj (Kc j z hj)
    · rw [if_neg (fun z => (pn_ne1 (by omega)).mp z)]
      refine pu_some.mpr (Or.inr ⟨⟨j, by omega, j2⟩, x, x1, rfl, ?_⟩)
      intro b hb
      rw [x2 b hb]
      exact ⟨fun h j hj hne => h j (hz j hj hne) hne, fun h j hj hne => h j (by omega) hne⟩
  · have hiF : i < (pm_F (pm_tg q w) s0).length := by omega
    have hlt := pm_st_lt hq (pm_L_st (w := w) hq h0 hiF)
    have hcn := hc.1 i hiF (Kb i (by omega))
    have hb := pm_fw_le (q := q) (w := w) (W := W) (s0 := s0) hcl hs0 L (pm_getD_mem hiF)
    have h15 := pm_15 hL
    have hh := pm_hs_lt ((pm_F (pm_tg q w) s0).getD i 0)
    rw [if_neg (fun z => hcc ((pn_le (by omega) (by omega)).mp z)), pu_ld (by omega) (by omega), pu_e1, (hX'.2 i hiF).1, pu_ld hlt (by omega), pu_e1, hcn, pu_e1, pc_thingsOf hlt, pu_e1, pu_e1]
    by_cases hz : pm_fw q w (pm_F (pm_tg q w) s0) W s0 L ((pm_F (pm_tg q w) s0).getD i 0) = 0
    · rw [if_pos (lg_eq.mpr ((nL0 (by omega)).mpr hz)), pu_e1, pn_a1, pu_e1]
      refine pu_go ⟨by omega, rfl, ?_⟩
      dsimp only
      rcases e2 with ⟨e3, e4⟩ | ⟨⟨j, j1, j2⟩, x, x1, x3, x2⟩
      · refine Or.inl ⟨e3, ?_⟩
        intro j hj
        by_cases f : j = i
        · subst f; exact hz
        · exact e4 j (by omega)
      · refine Or.inr ⟨⟨j, by omega, j2⟩, x, x1, x3, ?_⟩
        intro b hb
        rw [x2 b hb]
        constructor
        · intro h j hj hne
          by_cases f : j = i
          · subst f; exact absurd hz hne
          · exact h j (by omega) hne
        · intro h j hj hne; exact h j (by omega) hne
    · rw [if_neg (fun z => hz ((nL0 (by omega)).mp (lg_eq.mp z))), pu_e1, pn_a1, pu_e1]
      refine pu_go ⟨by omega, rfl, ?_⟩
      dsimp only
      right
      refine ⟨⟨i, by omega, hz⟩, ?_⟩
      rcases e2 with ⟨e3, e4⟩ | ⟨⟨j, j1, j2⟩, x, x1, x3, x2⟩
      · refine ⟨pm_hs ((pm_F (pm_tg q w) s0).getD i 0), hh, by rw [e3, pb_andm _ hh], ?_⟩
        intro b hb
        constructor
        · intro h j hj hne
          by_cases f : j = i
          · subst f; exact h
          · exact absurd (e4 j (by omega)) hne
        · intro h; exact h i (by omega) hz
      · refine ⟨x &&& pm_hs ((pm_F (pm_tg q w) s0).getD i 0), Nat.lt_of_le_of_lt Nat.and_le_left x1, by rw [x3, pn_and], ?_⟩
        intro b hb
        rw [Nat.testBit_and, Bool.and_eq_true, x2 b hb]
        constructor
        · rintro ⟨h1, h2⟩ j hj hne
          by_cases f : j = i
          · subst f; exact h2
          · exact h1 j (by omega) hne
        · intro h
          exact ⟨fun j hj hne => h j (by omega) hne, h i (by omega) hz⟩
/-- the first deed onward -/
theorem pc_onward {m i : Nat} {found : Int32} {deeds ends lv : Nat → Int32} {l : Nat → Nat} (hn : 1000 ≤ n) (hq : pm_cliff q) (hK : pc_K q top things tf tt mf mt bars gives rough code) (hT : pc_told q w told) (hw : w ≤ 9) (h0 : pm_st q s0) (hi : i < (pm_F (pm_tg q w) s0).length) (hm : m < 11) (hlv : ∀ j, j < (pm_F (pm_tg q w) s0).length → lv ((pm_F (pm_tg q w) s0).getD j 0) = nI (l ((pm_F (pm_tg q w) s0).getD j 0)) ∧ l ((pm_F (pm_tg q w) s0).getD j 0) < 2048) :
    pu_ok (zf_X6_firstOnward n found top things tf tt mf mt bars gives rough code (nI w) told fa sk deeds ends lv (nI ((pm_F (pm_tg q w) s0).getD i 0)) (nI m)) (fun r => pc_told q w r.2.2.1 ∧ ((r.1 = (-1 : Int32) ∧ ∀ k, k < 15 → pm_wy q w ((pm_F (pm_tg q w) s0).getD i 0) k = 0 → (l (pm_ac q w ((pm_F (pm_tg q w) s0).getD i 0) k)).testBit m = false) ∨ (∃ k mv, k < 9 ∧ r.1 = nI k ∧ pm_bst q w (fun t => (l t).testBit m) ((pm_F (pm_tg q w) s0).getD i 0) mv ∧ r.2.2.2.2.2.1 k = nI (pm_dd mv) ∧ r.2.2.2.2.2.2 k = nI (pm_ac q w ((pm_F (pm_tg q w) s0).getD i 0) mv)))) := by
  have hst := pm_L_st (w := w) hq h0 hi
  unfold zf_X6_firstOnward
  refine pu_d7.mpr (pu_mono (pc_gather hn hq hK hT hst hw) ?_)
  rintro ⟨v1, v2, a3, a4, a5, a6, a7⟩ ⟨g1, g2, g3, g4⟩
  dsimp only at g1 g2 g3 g4 ⊢
  subst g1
  have hl9 := pm_l9 (q := q) (w := w) (s := (pm_F (pm_tg q w) s0).getD i 0)
  refine pu_d2.mpr (pu_gl (q := q) (w := w) (s := (pm_F (pm_tg q w) s0).getD i 0) (fun k mv v => v = nI k ∧ ∀ k', k' < mv → pm_wy q w ((pm_F (pm_tg q w) s0).getD i 0) k' = 0 → (l (pm_ac q w ((pm_F (pm_tg q w) s0).getD i 0) k')).testBit m = false) (by omega) ⟨rfl, fun k h => absurd h (by omega)⟩ ?_ ?_ ?_)
  · rintro k mv v hmv hcm ⟨h1, h2⟩
    refine ⟨h1, ?_⟩
    intro k' hk' hz
    by_cases f : k' = mv
    · subst f; exact absurd hz hcm
    · exact h2 k' (by omega) hz
  · rintro v ⟨rfl, h2⟩
    unfold zb_X6_firstOnward_12
    rw [if_pos ((pn_le (by omega) (by omega)).mpr (Nat.le_refl _))]
    refine pu_some.mpr ⟨Nat.succ_ne_zero 1, ?_⟩
    dsimp only
    rw [if_neg (by decide), if_pos rfl]
    exact pu_some.mpr ⟨g3, Or.inl ⟨rfl, h2⟩⟩
  · rintro k mv v hk hmv hcm hg ⟨rfl, h2⟩
    have hac := pm_acst hq hst hmv hcm
    have haclt := pm_st_lt hq hac
    obtain ⟨jt, jt1, jt2, jt3⟩ := pm_L_tgt (q := q) (w := w) hq h0 hi hmv hcm
    have hlj := hlv jt jt1
    rw [jt2] at hlj
    unfold zb_X6_firstOnward_12
    rw [if_neg (fun z => by have := (pn_le (by omega) (by omega)).mp z; omega), pu_ld (by omega) (by omega), pu_e1, (g4 k hk).2, hg, pu_ld haclt (by omega), pu_e1, hlj.1, pb_bitL hm hlj.2]
    by_cases f : (l (pm_ac q w ((pm_F (pm_tg q w) s0).getD i 0) mv)).testBit m = true
    · rw [if_pos f, if_neg (by decide)]
      refine pu_out (by decide) ?_
      dsimp only
      rw [if_pos rfl]
      refine pu_some.mpr ⟨g3, Or.inr ⟨k, mv, by omega, rfl, ⟨hmv, hcm, f, h2⟩, ?_, ?_⟩⟩
      · dsimp only; rw [(g4 k hk).1, hg]
      · dsimp only; rw [(g4 k hk).2, hg]
    · rw [if_neg f, if_pos (by decide), pn_a1, pu_e1]
      refine pu_go ⟨rfl, ?_⟩
      intro k' hk' hz
      by_cases g : k' = mv
      · subst g; simpa using f
      · exact h2 k' (by omega) hz
end PS
