/-! the class's list of all stands -/
theorem pc_fill {n N : Nat} {a : Nat → Int32} {x : Int32} (hN : N < n) (hN2 : N < 2147483648) : pu_ok (zf_J7_fill_53178 n N a x) (fun b => ∀ k, k < N → b k = x) := by
  unfold zf_J7_fill_53178
  rw [show (Int32.ofNat N) = nI N from rfl, pu_e1]
  refine pu_d3.mpr (pu_up (fun i v => v.1 = nI i ∧ (∀ s, s < i → v.2 s = x)) N hN ⟨rfl, fun s h => absurd h (by omega)⟩ ?_)
  rintro i ⟨v1, a1⟩ hi ⟨e1, e2⟩
  dsimp only at e1 e2 ⊢
  subst e1
  unfold zb_J7_fill_53178_5
  by_cases hc : N ≤ i
  · rw [if_pos ((pn_le (by omega) (by omega)).mpr hc)]
    exact pu_out (by decide) (pu_some.mpr (fun k hk => e2 k (by omega)))
  · rw [if_neg (fun z => hc ((pn_le (by omega) (by omega)).mp z)), pu_st (by omega) (by omega), pu_e1, pn_a1, pu_e1]
    refine pu_go ⟨by omega, rfl, ?_⟩
    intro s hs'
    by_cases d : s = i
    · subst d; dsimp only; rw [pu_upe]
    · dsimp only; rw [pu_upn d]; exact e2 s (by omega)
/-- the list as far as it goes at a code -/
def pc_C (tg : Nat → Nat → List Nat) (s0 c : Nat) (size : Int32) (order depth from1 : Nat → Int32) : Prop :=
  size = nI (pm_B tg s0 c).length ∧ (∀ i, i < (pm_B tg s0 c).length → order i = nI ((pm_F tg s0).getD i 0) ∧ depth ((pm_F tg s0).getD i 0) = nI (pm_de tg s0 i) ∧ (1 ≤ i → from1 ((pm_F tg s0).getD i 0) = nI ((pm_F tg s0).getD (pm_co tg s0 i / 15) 0))) ∧ (∀ s, s < 2880 → s ∉ pm_B tg s0 c → depth s = (-1 : Int32))
/-- all is explored -/
def pc_X (q : Nat → Nat) (w s0 : Nat) (size : Int32) (order depth from1 : Nat → Int32) : Prop := pc_C (pm_tg q w) s0 pm_N size order depth from1
def pc_com (q : Nat → Nat) (w s0 : Nat) (size known : Int32) (order depth from1 : Nat → Int32) : Prop := known = 0 ∨ (known = 1 ∧ pc_X q w s0 size order depth from1)
section PX
variable {n : Nat} {q : Nat → Nat} {w s : Nat} {top things tf tt mf mt : Int32} {bars gives rough code told fa sk : Nat → Int32}
theorem pc_leaveFrom {s0 i : Nat} {size found : Int32} {deeds ends order depth from1 : Nat → Int32} (hn : 1000 ≤ n) (hq : pm_cliff q) (hK : pc_K q top things tf tt mf mt bars gives rough code) (hT : pc_told q w told) (hw : w ≤ 9) (h0 : pm_st q s0) (hi : i < (pm_B (pm_tg q w) s0 (15 * i)).length) (hi2 : i < 2880) (hC : pc_C (pm_tg q w) s0 (15 * i) size order depth from1) :
    pu_ok (zf_X1_leaveFrom n size found top things tf tt mf mt bars gives rough code (nI w) told fa sk deeds ends order depth from1 (nI ((pm_F (pm_tg q w) s0).getD i 0))) (fun r => pc_C (pm_tg q w) s0 (15 * (i + 1)) r.1 r.2.2.2.2.2.2.2.1 r.2.2.2.2.2.2.2.2.1 r.2.2.2.2.2.2.2.2.2 ∧ pc_told q w r.2.2.1) := by
  have hP := pm_tg_st (w := w) hq
  have hFl : (pm_F (pm_tg q w) s0).length ≤ 2880 := pm_F_len hq h0 hP pm_N
  have hiF : i < (pm_F (pm_tg q w) s0).length := (pm_F_pre _ s0 (c := 15 * i) (by omega) hi).2
  have hst := pm_B_P (P := pm_st q) h0 hP pm_N _ (pm_getD_mem hiF)
  generalize hse : (pm_F (pm_tg q w) s0).getD i 0 = s
  have hst : pm_st q s := by rw [← hse]; exact hst
  have hlt := pm_st_lt hq hst
  unfold zf_X1_leaveFrom
  refine pu_d7.mpr (pu_mono (pc_gather hn hq hK hT hst hw) ?_)
  rintro ⟨v1, v2, a3, a4, a5, a6, a7⟩ ⟨e1, e2, e3, e4⟩
  dsimp only at e1 e2 e3 e4 ⊢
  subst e1
  have hl9 := pm_l9 (q := q) (w := w) (s := s)
  refine pu_d6.mpr (pu_gl (q := q) (w := w) (s := s) (fun k m v => v.1 = nI k ∧ pc_C (pm_tg q w) s0 (15 * i + m) v.2.1 v.2.2.1 v.2.2.2.1 v.2.2.2.2) (by omega) ⟨rfl, hC⟩ ?_ ?_ ?_)
  · rintro k m ⟨x1, x2, x3, x4, x5⟩ hm hc ⟨h1, h2⟩
    refine ⟨h1, ?_⟩
    have hic : i < (pm_B (pm_tg q w) s0 (15 * i + m)).length := Nat.lt_of_lt_of_le hi (pm_B_mono (by omega))
    have hB := pm_B_step (tg := pm_tg q w) (s0 := s0) (i := i) hm hic
    rw [← (pm_F_pre _ s0 (c := 15 * i + m) (by omega) hic).1, hse] at hB
    have hB' : pm_B (pm_tg q w) s0 (15 * i + m + 1) = pm_B (pm_tg q w) s0 (15 * i + m) := by
      rw [hB]; unfold pm_tg; rw [if_neg hc]; rfl
    unfold pc_C at h2 ⊢
    rw [show 15 * i + (m + 1) = 15 * i + m + 1 from rfl, hB']
    exact h2
  · rintro ⟨x1, x2, x3, x4, x5⟩ ⟨h1, h2⟩
    dsimp only at h1 h2 ⊢
    subst h1
    unfold zb_X1_leaveFrom_11
    rw [if_pos ((pn_le (by omega) (by omega)).mpr (Nat.le_refl _))]
    exact pu_some.mpr ⟨Nat.one_ne_zero, pu_some.mpr ⟨h2, e3⟩⟩
  · rintro k m ⟨x1, x2, x3, x4, x5⟩ hk hm hc hg ⟨h1, h2⟩
    dsimp only at h1 h2 ⊢
    subst h1
    have hac := pm_acst hq hst hm hc
    have haclt := pm_st_lt hq hac
    have hic : i < (pm_B (pm_tg q w) s0 (15 * i + m)).length := Nat.lt_of_lt_of_le hi (pm_B_mono (by omega))
    have hB := pm_B_step (tg := pm_tg q w) (s0 := s0) (i := i) hm hic
    rw [← (pm_F_pre _ s0 (c := 15 * i + m) (by omega) hic).1, hse] at hB
    have hB' : pm_B (pm_tg q w) s0 (15 * i + m + 1) = pm_add (pm_B (pm_tg q w) s0 (15 * i + m)) (pm_ac q w s m) := by
      rw [hB]; unfold pm_tg; rw [if_pos hc]; rfl
    obtain ⟨c1, c2, c3⟩ := h2
    have hend : a7 k = nI (pm_ac q w s m) := by rw [(e4 k hk).2, hg]
    unfold zb_X1_leaveFrom_11
    rw [if_neg (fun z => by have := (pn_le (by omega) (by omega)).mp z; omega), pu_ld (by omega) (by omega), pu_e1, hend, pu_ld haclt (by omega), pu_e1]
    have hBl := pm_F_len (tg := pm_tg q w) hq h0 hP (15 * i + m + 1)
    by_cases d : pm_ac q w s m ∈ pm_B (pm_tg q w) s0 (15 * i + m)
    · obtain ⟨j, j1, j2⟩ := pm_mem_get d
      have hj := (pm_F_pre _ s0 (c := 15 * i + m) (by omega) j1)
      have hd := (c2 j j1).2.1
      have hdl := pm_de_le (tg := pm_tg q w) (s0 := s0) j hj.2
      rw [hj.1, j2] at hd
      rw [hd, if_neg (fun z => (pn_ne1 (by omega)).mp z), pu_e4, pn_a1, pu_e1]
      have hBB : pm_B (pm_tg q w) s0 (15 * i + (m + 1)) = pm_B (pm_tg q w) s0 (15 * i + m) := by
        rw [show 15 * i + (m + 1) = 15 * i + m + 1 from rfl, hB']; unfold pm_add; rw [if_pos d]
      refine pu_go ⟨rfl, ?_⟩
      unfold pc_C
      rw [hBB]
      exact ⟨c1, c2, c3⟩
    · have hBB : pm_B (pm_tg q w) s0 (15 * i + (m + 1)) = pm_B (pm_tg q w) s0 (15 * i + m) ++ [pm_ac q w s m] := by
        rw [show 15 * i + (m + 1) = 15 * i + m + 1 from rfl, hB']; unfold pm_add; rw [if_neg d]
      have hlen : (pm_B (pm_tg q w) s0 (15 * i + (m + 1))).length = (pm_B (pm_tg q w) s0 (15 * i + m)).length + 1 := by rw [hBB]; simp
      have hBl' : (pm_B (pm_tg q w) s0 (15 * i + (m + 1))).length ≤ 2880 := hBl
      have hdi := (c2 i hic).2.1
      rw [hse] at hdi
      have hx2 : x2 = nI (pm_B (pm_tg q w) s0 (15 * i + m)).length := c1
      have hco : pm_co (pm_tg q w) s0 (pm_B (pm_tg q w) s0 (15 * i + m)).length = 15 * i + m := pm_co_eq (by omega) (Nat.le_refl _) (by rw [show 15 * i + m + 1 = 15 * i + (m + 1) from rfl, hlen]; omega)
      have hFn := pm_F_pre (pm_tg q w) s0 (c := 15 * i + (m + 1)) (i := (pm_B (pm_tg q w) s0 (15 * i + m)).length) (by omega) (by omega)
      have hFg : (pm_F (pm_tg q w) s0).getD (pm_B (pm_tg q w) s0 (15 * i + m)).length 0 = pm_ac q w s m := by rw [hFn.1, hBB, pm_getD_last]
      have hpos := pm_B_pos (pm_tg q w) s0 (15 * i + m)
      have hdn : pm_de (pm_tg q w) s0 (pm_B (pm_tg q w) s0 (15 * i + m)).length = pm_de (pm_tg q w) s0 i + 1 := by
        rw [pm_de_s (by omega) hFn.2, hco, show (15 * i + m) / 15 = i from by omega]
      rw [c3 _ haclt d, if_pos rfl, hx2, if_neg (fun z => by have := (pv_le 2880 (by omega) (by omega)).mp z; omega), pu_ld hlt (by omega), pu_e1, hdi, pn_a1, pu_st haclt (by omega), pu_e1, pu_st haclt (by omega), pu_e1, pu_st (by omega) (by omega), pu_e1, pn_a1, pu_e1, pu_e4, pn_a1, pu_e1]
      refine pu_go ⟨rfl, ?_⟩
      unfold pc_C
      dsimp only
      rw [hlen]
      refine ⟨rfl, ?_, ?_⟩
      · intro j hj
        by_cases dj : j = (pm_B (pm_tg q w) s0 (15 * i + m)).length
        · subst dj
          rw [pu_upe, hFg, pu_upe, pu_upe, hdn, hco, show (15 * i + m) / 15 = i from by omega, hse]
          exact ⟨rfl, rfl, fun _ => rfl⟩
        · have hjl : j < (pm_B (pm_tg q w) s0 (15 * i + m)).length := by omega
          have hFj := (pm_F_pre _ s0 (c := 15 * i + m) (by omega) hjl)
          have hne : ¬ (pm_F (pm_tg q w) s0).getD j 0 = pm_ac q w s m := by
            intro z
            rw [hFj.1] at z
            exact d (z ▸ pm_getD_mem hjl)
          rw [pu_upn dj, pu_upn hne, pu_upn hne]
          exact c2 j hjl
      · intro t ht htn
        have hne : ¬ t = pm_ac q w s m := by
          rintro rfl; exact htn (by rw [hBB]; simp)
        rw [pu_upn hne]
        exact c3 t ht (fun z => htn (by rw [hBB]; simp [z]))
theorem pc_explore {s0 : Nat} {size known found : Int32} {deeds ends order depth from1 : Nat → Int32} (hn : 10000 ≤ n) (hq : pm_cliff q) (hK : pc_K q top things tf tt mf mt bars gives rough code) (hT : pc_told q w told) (hw : w ≤ 9) (h0 : pm_st q s0) (hC : pc_com q w s0 size known order depth from1) :
    pu_ok (zf_X1_explore n size known found top things tf tt mf mt bars gives rough code (nI w) told fa sk deeds ends order depth from1 (nI s0)) (fun r => pc_X q w s0 r.1 r.2.2.2.2.2.2.2.2.1 r.2.2.2.2.2.2.2.2.2.1 r.2.2.2.2.2.2.2.2.2.2 ∧ r.2.1 = 1 ∧ pc_told q w r.2.2.2.1) := by
  have hP := pm_tg_st (w := w) hq
  have hFl : (pm_F (pm_tg q w) s0).length ≤ 2880 := pm_F_len hq h0 hP pm_N
  have hlt := pm_st_lt hq h0
  have hF0 := pm_F_0 (pm_tg q w) s0
  unfold zf_X1_explore
  rcases hC with rfl | ⟨rfl, hX⟩
  rotate_left
  · rw [if_neg (by decide)]
    exact pu_some.mpr ⟨hX, rfl, hT⟩
  rw [if_pos rfl]
  refine pu_d1.mpr (pu_mono (pc_fill (by omega) (by omega)) ?_)
  intro a1 ha1
  rw [pu_st hlt (by omega), pu_e1, pv_st 0 (by omega) (by omega), pu_e1]
  have hC0 : pc_C (pm_tg q w) s0 (15 * 0) (1 : Int32) (va_up order 0 (nI s0)) (va_up a1 s0 (0 : Int32)) from1 := by
    refine ⟨rfl, ?_, ?_⟩
    · intro i hi
      have : i = 0 := by have h : i < 1 := hi; omega
      subst this
      rw [hF0.1, pu_upe, pu_upe]
      exact ⟨rfl, rfl, fun h => absurd h (by omega)⟩
    · intro t ht htn
      have : ¬ t = s0 := by rintro rfl; exact htn (by show t ∈ [t]; simp)
      rw [pu_upn this]
      exact ha1 t ht
  refine pu_d12.mpr (pu_up (fun i v => v.1 = nI i ∧ pc_C (pm_tg q w) s0 (15 * i) v.2.1 v.2.2.2.2.2.2.2.2.1 v.2.2.2.2.2.2.2.2.2.1 v.2.2.2.2.2.2.2.2.2.2 ∧ pc_told q w v.2.2.2.1) (pm_F (pm_tg q w) s0).length (by omega) ⟨rfl, hC0, hT⟩ ?_)
  rintro i ⟨v4, v5, v6, a7, a8, a9, a10, a11, a12, a13, a14⟩ hi ⟨e1, hC, hT⟩
  dsimp only at e1 hC hT ⊢
  subst e1
  unfold zb_X1_explore_42
  have hl := pm_F_len (tg := pm_tg q w) hq h0 hP (15 * i)
  by_cases hc2 : (pm_B (pm_tg q w) s0 (15 * i)).length ≤ i
  · have hF := pm_F_eq (tg := pm_tg q w) (s0 := s0) (by omega) hc2
    have hfin : pc_X q w s0 v5 a12 a13 a14 := by
      unfold pc_X pc_C
      rw [show pm_B (pm_tg q w) s0 pm_N = pm_B (pm_tg q w) s0 (15 * i) from hF.symm]
      exact hC
    rw [hC.1, if_pos ((pn_le (by omega) (by omega)).mpr hc2), ← hC.1]
    exact pu_out (by decide) (pu_some.mpr ⟨hfin, rfl, hT⟩)
  · have hil : i < (pm_B (pm_tg q w) s0 (15 * i)).length := by omega
    rw [hC.1, if_neg (fun z => hc2 ((pn_le (by omega) (by omega)).mp z)), if_neg (fun z => by have := (pv_le 2880 (by omega) (by omega)).mp z; omega), ← hC.1, pu_ld (by omega) (by omega), pu_e1, (hC.2.1 i hil).1]
    refine pu_d10.mpr (pu_mono (pc_leaveFrom (by omega) hq hK hT hw h0 hil (by omega) hC) ?_)
    rintro ⟨v16, v17, a18, a19, a20, a21, a22, a23, a24, a25⟩ ⟨g1, g2⟩
    dsimp only at g1 g2 ⊢
    rw [pn_a1, pu_e1]
    exact pu_go ⟨(pm_F_pre _ s0 (c := 15 * i) (by omega) hil).2, rfl, g1, g2⟩
end PX
