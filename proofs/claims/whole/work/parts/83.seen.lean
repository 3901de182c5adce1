/-! seen: the reference, and both sides -/
def pr_W (W : Nat → Nat → Bool) (num : Nat → Int64) (t L : Nat) : Prop := ∀ i s, i < L → (W i s = true ↔ num (40 * t + i) = (-1 : Int64) ∨ num (40 * t + i) = Int32.toInt64 (nI (pm_pc (pm_hs s))))
section PZ
variable {n : Nat} {q : Nat → Nat} {w s0 : Nat} {top things tf tt mf mt : Int32} {bars gives rough code told fa sk : Nat → Int32}
theorem pr_isSeen {W : Nat → Nat → Bool} {num : Nat → Int64} {t L i s : Nat} (hn : 100 ≤ n) (ht : t < 4) (hL : L ≤ 40) (hi : i < L) (hs : s < 2880) (hW : pr_W W num t L) : zf_X11_isSeen n num (nI t) (nI i) (nI s) = some (if W i s = true then (1 : Int32) else 0) := by
  have h := hW i s hi
  unfold zf_X11_isSeen
  rw [pv_mul 40, pn_add, pu_ld (by omega) (by omega), pu_e1]
  by_cases c : num (40 * t + i) = (-1 : Int64)
  · rw [if_pos (lg_eq.mpr c), if_pos (h.mpr (Or.inl c))]
  · rw [if_neg (fun z => c (lg_eq.mp z)), pu_e1, pr_hasIn hs, pu_e1, pr_bitsOf hn (pm_hs_lt s), pu_e1]
    by_cases d : num (40 * t + i) = Int32.toInt64 (nI (pm_pc (pm_hs s)))
    · rw [if_pos (lg_eq.mpr d), if_pos (h.mpr (Or.inr d))]
    · rw [if_neg (fun z => d (lg_eq.mp z)), if_neg (fun z => by rcases h.mp z with z | z; exact c z; exact d z)]
theorem pr_laysSeen {W : Nat → Nat → Bool} {all stand th rm : Nat → Int32} {many wo : Int32} {on num : Nat → Int64} {t L : Nat} {e : Nat → Nat} (hn : 10000 ≤ n) (ha : pr_all all q) (hq : pm_cliff q) (hs : pm_now q = s0) (h0 : pm_st q s0) (hls : pr_ls q w (pm_F (pm_tg q w) s0) many stand th) (ht : t < 4) (hL : L ≤ 6) (hrm : rm t = nI L) (hW : pr_W W num t L) (he : (wo = (-1 : Int32) ∧ ∀ s, e s = 1) ∨ ∃ b, b < 6 ∧ wo = nI b ∧ ∀ s, e s = if (pm_hs s).testBit b = true then 0 else 1) :
    pu_ok (zf_X11_laysSeen n many all stand th on rm num (nI t) wo) (fun r => r.1 = nL (pm_O q w W L e L s0) ∧ ∀ i, i ≤ L → ∀ s ∈ (pm_F (pm_tg q w) s0), r.2 (2880 * i + s) = nL (pm_O q w W L e (L - i) s)) := by
  have hl := pm_L_len (w := w) hq h0
  have hnd := pm_L_nd (q := q) (w := w) (s0 := s0)
  have hcl := pm_L_cl (q := q) (w := w) hq h0
  have hF0 := pm_F_0 (pm_tg q w) s0
  have hs0 : s0 ∈ (pm_F (pm_tg q w) s0) := by have := pm_getD_mem hF0.2; rw [hF0.1] at this; exact this
  have hlt : ∀ t ∈ (pm_F (pm_tg q w) s0), t < 2880 := fun t ht => pm_st_lt hq (pm_B_P (P := pm_st q) h0 (pm_tg_st hq) pm_N _ ht)
  obtain ⟨rfl, hS, hth⟩ := hls
  have hlt0 := hlt _ hs0
  generalize hFe : (pm_F (pm_tg q w) s0) = F at *
  unfold zf_X11_laysSeen
  rw [pu_ld ht (by omega), pu_e1, hrm]
  refine pu_d3.mpr (pu_up (fun i v => v.1 = nI i ∧ ∀ j, j < i → v.2 (2880 * L + F.getD j 0) = nL (e (F.getD j 0))) F.length (by omega) ⟨rfl, fun j h => absurd h (by omega)⟩ ?_)
  rintro i ⟨v2, a3⟩ hi ⟨e1, e2⟩
  dsimp only at e1 e2 ⊢
  subst e1
  unfold zb_X11_laysSeen_10
  by_cases hcc : F.length ≤ i
  rotate_left
  · have hlti := hlt _ (pm_getD_mem (show i < F.length by omega))
    rw [if_neg (fun z => hcc ((pn_le (by omega) (by omega)).mp z)), pu_ld (by omega) (by omega), pu_e1, hS i (by omega)]
    refine pu_d1.mpr (pu_mono (P := fun v => v = nL (e (F.getD i 0))) ?_ ?_)
    · rcases he with ⟨rfl, h⟩ | ⟨b, hb, rfl, h⟩
      · rw [if_pos rfl, h]; exact pu_some.mpr rfl
      · rw [if_neg (fun z => (pn_ne1 (by omega)).mp z), pu_e1, pr_hasIn hlti, pu_e1, pb_isIn _ (pm_hs_lt _) _ (by omega), pu_e1, h]
        by_cases f : (pm_hs (F.getD i 0)).testBit b = true
        · rw [if_pos f, if_neg (by decide), if_pos f]; exact pu_some.mpr rfl
        · rw [if_neg f, if_pos (by decide), if_neg f]; exact pu_some.mpr rfl
    · rintro v rfl
      rw [pv_mul 2880, pn_add, pu_st (by omega) (by omega), pu_e1, pn_a1, pu_e1]
      refine pu_go ⟨by omega, rfl, ?_⟩
      intro j hj
      dsimp only
      by_cases f : j = i
      · subst f; rw [pu_upe]
      · have hne : ¬ F.getD j 0 = F.getD i 0 := fun z => f (pm_nd_inj hnd (by omega) (by omega) z)
        rw [pu_upn (by omega)]; exact e2 j (by omega)
  rw [if_pos ((pn_le (by omega) (by omega)).mpr hcc)]
  refine pu_out (by decide) ?_
  dsimp only
  rw [pu_e1]
  refine pu_d3.mpr (pu_up (fun x v => v.1 = nI (L - x) - (1 : Int32) ∧ ∀ i, L - x ≤ i → i ≤ L → ∀ s ∈ F, v.2 (2880 * i + s) = nL (pm_O q w W L e (L - i) s)) L (by omega) ⟨(by dsimp only; rw [Nat.sub_zero]), ?_⟩ ?_)
  · intro i h1 h2 s hs'
    have : i = L := by omega
    subst this
    obtain ⟨j, j1, j2⟩ := pm_mem_get hs'
    have := e2 j (by omega)
    rw [j2] at this
    dsimp only
    rw [this, Nat.sub_self]; rfl
  rintro x ⟨v15, a16⟩ hx ⟨e1, e3⟩
  dsimp only at e1 e3 ⊢
  subst e1
  unfold zb_X11_laysSeen_76
  by_cases hcx : x = L
  · have hz : L - x = 0 := by omega
    rw [hz] at e3 ⊢
    rw [if_pos (by decide)]
    refine pu_out (by decide) ?_
    dsimp only
    have h1 := e3 0 (Nat.le_refl _) (by omega) s0 hs0
    rw [pr_standNow ha, hs, pu_e1, pu_ld (by omega) (by omega), pu_e1]
    refine pu_some.mpr ⟨?_, fun i hi s hs' => e3 i (by omega) hi s hs'⟩
    rw [Nat.mul_zero, Nat.zero_add, Nat.sub_zero] at h1
    exact h1
  obtain ⟨m, hm⟩ : ∃ m, L - x = m + 1 := ⟨L - x - 1, by omega⟩
  have hmL : m < L := by omega
  rw [hm] at e3 ⊢
  rw [pn_s1, if_neg (pn_nn (by omega))]
  refine pu_d3.mpr (pu_up (fun k v => v.1 = nI k ∧ (∀ i, m + 1 ≤ i → i ≤ L → ∀ s ∈ F, v.2 (2880 * i + s) = nL (pm_O q w W L e (L - i) s)) ∧ ∀ j, j < k → v.2 (2880 * m + F.getD j 0) = nL (pm_O q w W L e (L - m) (F.getD j 0))) F.length (by omega) ⟨rfl, e3, fun j h => absurd h (by omega)⟩ ?_)
  rintro k ⟨v17, a18⟩ hk ⟨e1, e4, e5⟩
  dsimp only at e1 e4 e5 ⊢
  subst e1
  unfold zb_X11_laysSeen_84
  by_cases hck : F.length ≤ k
  · rw [if_pos ((pn_le (by omega) (by omega)).mpr hck)]
    refine pu_out (by decide) ?_
    dsimp only
    rw [pn_p1, pu_e1]
    refine pu_go ⟨by omega, by rw [show L - (x + 1) = m from by omega], ?_⟩
    rw [show L - (x + 1) = m from by omega]
    intro i h1 h2 s hs'
    by_cases f : i = m
    · subst f
      obtain ⟨j, j1, j2⟩ := pm_mem_get hs'
      have := e5 j (by omega)
      rw [j2] at this
      exact this
    · exact e4 i (by omega) h2 s hs'
  have hmk := pm_getD_mem (show k < F.length by omega)
  have hltk := hlt _ hmk
  rw [if_neg (fun z => hck ((pn_le (by omega) (by omega)).mp z))]
  refine pu_d3.mpr (pu_mono (P := fun r => r.2.1 = nL (pm_O q w W L e (L - m) (F.getD k 0))) ?_ ?_)
  rotate_left
  · rintro ⟨g30, v28, v29⟩ hg
    dsimp only at hg ⊢
    subst hg
    rw [pu_ld (by omega) (by omega), pu_e1, hS k (by omega), pv_mul 2880, pn_add, pu_st (by omega) (by omega), pu_e1, pn_a1, pu_e1]
    refine pu_go ⟨by omega, rfl, ?_, ?_⟩
    · intro i h1 h2 s hs'
      have := hlt s hs'
      dsimp only
      rw [pu_upn (by omega)]
      exact e4 i h1 h2 s hs'
    · intro j hj
      dsimp only
      by_cases f : j = k
      · subst f; rw [pu_upe]
      · have hne : ¬ F.getD j 0 = F.getD k 0 := fun z => f (pm_nd_inj hnd (by omega) (by omega) z)
        rw [pu_upn (by omega)]
        exact e5 j (by omega)
  have hOs : pm_O q w W L e (L - m) (F.getD k 0) = pm_bk q w (W m) (pm_O q w W L e (L - m - 1)) (F.getD k 0) 15 := by
    have e9 : L - m = (L - m - 1) + 1 := by omega
    rw [e9]
    show pm_bk q w (W (L - (L - m - 1 + 1))) (pm_O q w W L e (L - m - 1)) (F.getD k 0) 15 = _
    rw [show L - (L - m - 1 + 1) = m from by omega, show L - m - 1 + 1 - 1 = L - m - 1 from by omega]
  rw [hOs]
  refine pu_up (fun mv v => v.2 = nI mv ∧ v.1 = nL (pm_bk q w (W m) (pm_O q w W L e (L - m - 1)) (F.getD k 0) mv)) 15 (by omega) ⟨rfl, rfl⟩ ?_
  rintro mv ⟨v19, v20⟩ hmv ⟨e6, e7⟩
  dsimp only at e6 e7 ⊢
  subst e6 e7
  unfold zb_X11_laysSeen_99
  by_cases hcm : 15 ≤ mv
  · have : mv = 15 := by omega
    subst this
    rw [if_pos ((pv_le 15 (by omega) (by omega)).mpr hcm)]
    exact pu_out (by decide) rfl
  rw [if_neg (fun z => hcm ((pv_le 15 (by omega) (by omega)).mp z)), pu_ld (by omega) (by omega), pu_e1, hS k (by omega), pv_mul 15, pn_add, pu_ld (by omega) (by omega), pu_e1, hth _ hmk mv (by omega)]
  refine pu_d1.mpr (pu_mono (P := fun v => v = nL (pm_bk q w (W m) (pm_O q w W L e (L - m - 1)) (F.getD k 0) (mv + 1))) ?_ ?_)
  · show pu_ok _ (fun v => v = nL (pm_bk q w (W m) (pm_O q w W L e (L - m - 1)) (F.getD k 0) mv + (if pm_wy q w (F.getD k 0) mv = 0 ∧ W m (pm_ac q w (F.getD k 0) mv) = true then pm_O q w W L e (L - m - 1) (pm_ac q w (F.getD k 0) mv) else 0)))
    unfold pr_v
    by_cases c : pm_wy q w (F.getD k 0) mv = 0
    · have hin := hcl.2 _ hmk mv (by omega) c
      have hacl := hlt _ hin
      rw [if_pos c, if_neg (fun z => (pn_ne1 (by omega)).mp z), pr_isSeen (L := L) (by omega) ht (by omega) hmL hacl hW, pu_e1]
      by_cases f : W m (pm_ac q w (F.getD k 0) mv) = true
      · have h9 := e4 (m + 1) (Nat.le_refl _) (by omega) _ hin
        rw [if_pos f, if_neg (by decide), pn_a1, pv_mul 2880, pn_add, pu_ld (by omega) (by omega), pu_e1, h9, pl_add, pu_e1, if_pos ⟨c, f⟩, show L - (m + 1) = L - m - 1 from by omega]
        exact pu_some.mpr rfl
      · rw [if_neg f, if_pos rfl, if_neg (fun z => f z.2), Nat.add_zero]
        exact pu_some.mpr rfl
    · rw [if_neg c, if_pos (show pz_m1 = (-1 : Int32) from rfl), if_neg (fun z => c z.1), Nat.add_zero]
      exact pu_some.mpr rfl
  · rintro v rfl
    rw [pn_a1, pu_e1]
    exact pu_go ⟨by omega, rfl, rfl⟩
end PZ
