/-! how likely: the class, and both sides -/
def pm_in (C : List Nat) (d : Nat → Nat) (t x : Nat) : Prop := t ∈ C ∧ d t ≤ x
def pm_ext (C : List Nat) (d : Nat → Nat) (C' : List Nat) (d' : Nat → Nat) : Prop := (∃ r, C' = C ++ r) ∧ ∀ t ∈ C, d' t = d t
theorem pm_ext_rf (C : List Nat) (d : Nat → Nat) : pm_ext C d C d := ⟨⟨[], by simp⟩, fun _ _ => rfl⟩
theorem pm_ext_in {C C' : List Nat} {d d' : Nat → Nat} {t x : Nat} (h : pm_ext C d C' d') (hi : pm_in C d t x) : pm_in C' d' t x := by
  obtain ⟨⟨r, rfl⟩, h2⟩ := h
  exact ⟨List.mem_append_left _ hi.1, by rw [h2 t hi.1]; exact hi.2⟩
theorem pm_ext_tr {C C' C'' : List Nat} {d d' d'' : Nat → Nat} (h : pm_ext C d C' d') (h' : pm_ext C' d' C'' d'') : pm_ext C d C'' d'' := by
  obtain ⟨⟨r, rfl⟩, h2⟩ := h
  obtain ⟨⟨r', rfl⟩, h2'⟩ := h'
  exact ⟨⟨r ++ r', by simp⟩, fun t ht => by rw [h2' t (List.mem_append_left _ ht), h2 t ht]⟩
theorem pm_ext_get {C C' : List Nat} {d d' : Nat → Nat} {i : Nat} (h : pm_ext C d C' d') (hi : i < C.length) : C'.getD i 0 = C.getD i 0 ∧ i < C'.length ∧ d' (C.getD i 0) = d (C.getD i 0) := by
  obtain ⟨⟨r, rfl⟩, h2⟩ := h
  refine ⟨?_, by simp; omega, h2 _ (pm_getD_mem hi)⟩
  rw [List.getD_eq_getElem?_getD, List.getD_eq_getElem?_getD, List.getElem?_append_left hi]
/-- the stands that are reached, as they lie in rows -/
def pc_SB (q : Nat → Nat) (w s0 r : Nat) (C : List Nat) (d : Nat → Nat) (i : Nat) (size : Int32) (order depth : Nat → Int32) (k1 : Nat → Int64) : Prop :=
  size = nI C.length ∧ C.Nodup ∧ (∀ t ∈ C, pm_st q t) ∧ C.getD 0 0 = s0 ∧ 0 < C.length ∧ (∀ k, k < C.length → order k = nI (C.getD k 0)) ∧ (∀ t ∈ C, depth t = nI (d t) ∧ k1 t = nL (pm_V q w r 0 t)) ∧ (∀ t, t < 2880 → t ∉ C → depth t = (-1 : Int32)) ∧ (∀ a b, a ≤ b → b < C.length → d (C.getD a 0) ≤ d (C.getD b 0)) ∧ d s0 = 0 ∧ (∀ k, 1 ≤ k → k < C.length → 1 ≤ d (C.getD k 0)) ∧ (i < C.length → ∀ k, k < C.length → d (C.getD k 0) ≤ d (C.getD i 0) + 1) ∧ (∀ t ∈ C, d t < 3000)
def pm_clo (q : Nat → Nat) (w r N : Nat) (C : List Nat) (d : Nat → Nat) (j : Nat) : Prop := d (C.getD j 0) < N → ¬ pm_rg (C.getD j 0) = r → ∀ m, m < 15 → pm_wy q w (C.getD j 0) m = 0 → pm_in C d (pm_ac q w (C.getD j 0) m) (d (C.getD j 0) + 1) ∧ (m = 1 → pm_in C d (pm_ac q w (C.getD j 0) m - 320) (d (C.getD j 0) + 1))
section PSl
variable {n : Nat} {q : Nat → Nat} {w s0 : Nat} {top things tf tt mf mt : Int32} {bars gives rough code told fa sk : Nat → Int32}
theorem pc_reach {r i t x : Nat} {C : List Nat} {d : Nat → Nat} {size : Int32} {order depth : Nat → Int32} {k1 : Nat → Int64} (hq : pm_cliff q) (hr : r < 100) (hB : pc_SB q w s0 r C d i size order depth k1) (hi : i < C.length) (ht : pm_st q t) (hx : x = d (C.getD i 0) + 1) (hxN : x < 3000) :
    pu_ok (zf_X8_reach size (nI r) order depth k1 (nI t) (nI x)) (fun y => ∃ C' d', pc_SB q w s0 r C' d' i y.1 y.2.1 y.2.2.1 y.2.2.2 ∧ pm_ext C d C' d' ∧ pm_in C' d' t x) := by
  obtain ⟨b1, b2, b3, b4, b5, b6, b7, b8, b9, b10, b11, b12, b13⟩ := id hB
  have hlt := pm_st_lt hq ht
  have hrg : pm_rg t < 9 := by unfold pm_rg; omega
  unfold zf_X8_reach
  rw [pu_ld hlt (by omega), pu_e1]
  by_cases c : t ∈ C
  · have hdt := b13 t c
    rw [(b7 t c).1, if_neg (fun z => (pn_ne1 (by omega)).mp z)]
    refine pu_some.mpr ⟨C, d, hB, pm_ext_rf C d, c, ?_⟩
    obtain ⟨k, k1', k2'⟩ := pm_mem_get c
    have := b12 hi k k1'
    rw [k2'] at this
    omega
  have hnd : (C ++ [t]).Nodup := by
    have := pm_add_nd (t := t) b2
    unfold pm_add at this
    rw [if_neg c] at this
    exact this
  have hlen : (C ++ [t]).length ≤ 2880 := pm_pig hnd (fun y hy => by
    rcases List.mem_append.mp hy with z | z
    · exact pm_st_lt hq (b3 y z)
    · have : y = t := by simpa using z
      subst this; exact hlt)
  have hlen' : C.length < 2880 := by simp at hlen; omega
  rw [b8 t hlt c, if_pos rfl, b1, if_neg (fun z => by have := (pv_le 2880 (by omega) (by omega)).mp z; omega), pu_st hlt (by omega), pu_e1, pc_rungOf hlt, pu_e1]
  refine pu_d1.mpr (pu_mono (P := fun v => v = nL (pm_V q w r 0 t)) ?_ ?_)
  · show pu_ok _ (fun v => v = nL (if pm_rg t = r then 1 else 0))
    by_cases f : pm_rg t = r
    · rw [if_pos (by rw [f]), if_pos f]; exact pu_some.mpr rfl
    · rw [if_neg (fun z => f ((pn_eq (by omega) (by omega)).mp z)), if_neg f]; exact pu_some.mpr rfl
  rintro v rfl
  rw [pu_st hlt (by omega), pu_e1, pu_st hlen' (by omega), pu_e1, pn_a1, pu_e1]
  have hne : ∀ k, k < C.length → ¬ C.getD k 0 = t := fun k hk z => c (z ▸ pm_getD_mem hk)
  have hs0t : ¬ s0 = t := by rw [← b4]; exact hne 0 b5
  have hlast := @pm_getD_last C t
  refine pu_some.mpr ⟨C ++ [t], va_up d t x, ⟨?_, hnd, ?_, ?_, ?_, ?_, ?_, ?_, ?_, ?_, ?_, ?_, ?_⟩, ⟨⟨[t], rfl⟩, ?_⟩, ?_, ?_⟩
  · simp
  · intro y hy
    rcases List.mem_append.mp hy with z | z
    · exact b3 y z
    · have : y = t := by simpa using z
      subst this; exact ht
  · rw [pm_getD_app b5]; exact b4
  · simp
  · intro k hk
    have hk' : k < C.length + 1 := by simpa using hk
    dsimp only
    by_cases f : k = C.length
    · subst f; rw [pu_upe, hlast]
    · rw [pu_upn f, pm_getD_app (by omega)]; exact b6 k (by omega)
  · intro y hy
    dsimp only
    by_cases f : y = t
    · subst f; rw [pu_upe, pu_upe, pu_upe]; exact ⟨rfl, rfl⟩
    · rw [pu_upn f, pu_upn f, pu_upn f]
      refine b7 y ?_
      rcases List.mem_append.mp hy with z | z
      · exact z
      · exact absurd (by simpa using z) f
  · intro y hy hyn
    dsimp only
    have f : ¬ y = t := by rintro rfl; exact hyn (by simp)
    rw [pu_upn f]
    exact b8 y hy (fun z => hyn (List.mem_append_left _ z))
  · intro a b hab hb
    have hb' : b < C.length + 1 := by simpa using hb
    by_cases f : b = C.length
    · subst f
      rw [hlast, pu_upe]
      by_cases g : a = C.length
      · subst g; rw [hlast, pu_upe]; omega
      · rw [pm_getD_app (by omega), pu_upn (hne a (by omega))]
        have := b12 hi a (by omega)
        omega
    · rw [pm_getD_app (by omega), pm_getD_app (by omega), pu_upn (hne a (by omega)), pu_upn (hne b (by omega))]
      exact b9 a b hab (by omega)
  · rw [pu_upn hs0t]; exact b10
  · intro k hk1 hk2
    have hk' : k < C.length + 1 := by simpa using hk2
    by_cases f : k = C.length
    · subst f; rw [hlast, pu_upe]; omega
    · rw [pm_getD_app (by omega), pu_upn (hne k (by omega))]
      exact b11 k hk1 (by omega)
  · intro _ k hk
    have hk' : k < C.length + 1 := by simpa using hk
    rw [pm_getD_app hi, pu_upn (hne i hi)]
    by_cases f : k = C.length
    · subst f; rw [hlast, pu_upe]; omega
    · rw [pm_getD_app (by omega), pu_upn (hne k (by omega))]
      exact b12 hi k (by omega)
  · intro y hy
    by_cases f : y = t
    · subst f; rw [pu_upe]; exact hxN
    · rw [pu_upn f]
      refine b13 y ?_
      rcases List.mem_append.mp hy with z | z
      · exact z
      · exact absurd (by simpa using z) f
  · intro y hy
    have f : ¬ y = t := by rintro rfl; exact c hy
    rw [pu_upn f]
  · simp
  · rw [pu_upe]; omega
theorem pc_slipped {s : Nat} (hq : pm_cliff q) (hs : pm_st q s) (hc : pm_wy q w s 1 = 0) : zf_X8_slipped (nI s) (nI (pm_ac q w s 1)) = some (nI (pm_ac q w s 1 - 320)) ∧ pm_st q (pm_ac q w s 1 - 320) := by
  obtain ⟨e, e1, e2, e3, i1, _⟩ := pm_acp hq hs (show 1 < 15 by omega) hc
  have hac := pm_acst hq hs (show 1 < 15 by omega) hc
  have hlt := pm_st_lt hq hs
  have hacl := pm_st_lt hq hac
  have ht := pm_tired_le q w (pm_rg s + 1) (pm_pc (pm_hs s)) (pm_sg s)
  simp only [if_true, show (1 : Nat) < 3 from by omega, show ¬ (1 : Nat) = 0 from by omega, if_false] at e
  have hsg : pm_sg (pm_ac q w s 1) = pm_tired q w (pm_rg s + 1) (pm_pc (pm_hs s)) (pm_sg s) := by rw [e]; exact pm_sg_sd ht
  have hval : pm_sd (pm_rg s) (pm_hs s) (pm_sg (pm_ac q w s 1)) = pm_ac q w s 1 - 320 := by
    rw [hsg, e]; unfold pm_sd; omega
  constructor
  · unfold zf_X8_slipped
    rw [pc_rungOf hlt, pu_e1, pc_thingsOf hlt, pu_e1, pc_strengthOf hacl, pu_e1, pc_standOf, pu_e1, hval]
  · rw [← hval, hsg]
    constructor
    · rw [pm_rg_sd (pm_hs_lt s) ht]; exact hs.1
    · rw [pm_hs_sd (pm_hs_lt s) ht]; exact hs.2
theorem pm_dd1 {m : Nat} (hm : m < 15) : nI (pm_dd m) = (1 : Int32) ↔ m = 1 := by
  have h : pm_dd m < 30 := pm_dd_lt hm
  constructor
  · intro z
    have := (pv_eq 1 (by omega) (by omega)).mp z
    unfold pm_dd at this
    split at this
    · exact this
    · split at this <;> omega
  · rintro rfl; rfl
theorem pc_reachFrom {r i : Nat} {C : List Nat} {d : Nat → Nat} {size found : Int32} {deeds ends order depth : Nat → Int32} {k1 : Nat → Int64} (hn : 1000 ≤ n) (hq : pm_cliff q) (hK : pc_K q top things tf tt mf mt bars gives rough code) (hT : pc_told q w told) (hw : w ≤ 9) (hr : r < 100) (hB : pc_SB q w s0 r C d i size order depth k1) (hi : i < C.length) (hdi : d (C.getD i 0) < 8) :
    pu_ok (zf_X8_reachFrom n size (nI r) top things tf tt mf mt bars gives rough code found (nI w) told fa sk deeds ends order depth k1 (nI (C.getD i 0))) (fun y => pc_told q w y.2.2.1 ∧ ∃ C' d', pc_SB q w s0 r C' d' i y.1 y.2.2.2.2.2.2.2.1 y.2.2.2.2.2.2.2.2.1 y.2.2.2.2.2.2.2.2.2 ∧ pm_ext C d C' d' ∧ ∀ m, m < 15 → pm_wy q w (C.getD i 0) m = 0 → pm_in C' d' (pm_ac q w (C.getD i 0) m) (d (C.getD i 0) + 1) ∧ (m = 1 → pm_in C' d' (pm_ac q w (C.getD i 0) m - 320) (d (C.getD i 0) + 1))) := by
  have hst := hB.2.2.1 _ (pm_getD_mem hi)
  have hlt := pm_st_lt hq hst
  unfold zf_X8_reachFrom
  refine pu_d7.mpr (pu_mono (pc_gather hn hq hK hT hst hw) ?_)
  rintro ⟨v1, v2, a3, a4, a5, a6, a7⟩ ⟨e1, e2, e3, e4⟩
  dsimp only at e1 e2 e3 e4 ⊢
  subst e1
  have hl9 := pm_l9 (q := q) (w := w) (s := C.getD i 0)
  refine pu_d6.mpr (pu_gl (q := q) (w := w) (s := C.getD i 0) (fun k mv v => v.1 = nI k ∧ ∃ C' d', pc_SB q w s0 r C' d' i v.2.1 v.2.2.1 v.2.2.2.1 v.2.2.2.2 ∧ pm_ext C d C' d' ∧ ∀ m, m < mv → pm_wy q w (C.getD i 0) m = 0 → pm_in C' d' (pm_ac q w (C.getD i 0) m) (d (C.getD i 0) + 1) ∧ (m = 1 → pm_in C' d' (pm_ac q w (C.getD i 0) m - 320) (d (C.getD i 0) + 1))) (by omega) ⟨rfl, C, d, hB, pm_ext_rf C d, fun m h => absurd h (by omega)⟩ ?_ ?_ ?_)
  · rintro k mv ⟨x1, x2, x3, x4, x5⟩ hmv hcm ⟨h1, C', d', h2, h3, h4⟩
    refine ⟨h1, C', d', h2, h3, ?_⟩
    intro m hm hc
    by_cases f : m = mv
    · subst f; exact absurd hc hcm
    · exact h4 m (by omega) hc
  · rintro ⟨x1, x2, x3, x4, x5⟩ ⟨h1, C', d', h2, h3, h4⟩
    dsimp only at h1 h2 ⊢
    subst h1
    unfold zb_X8_reachFrom_11
    rw [if_pos ((pn_le (by omega) (by omega)).mpr (Nat.le_refl _))]
    exact pu_some.mpr ⟨Nat.one_ne_zero, pu_some.mpr ⟨e3, C', d', h2, h3, h4⟩⟩
  · rintro k mv ⟨x1, x2, x3, x4, x5⟩ hk hmv hcm hg ⟨h1, C', d', h2, h3, h4⟩
    dsimp only at h1 h2 ⊢
    subst h1
    obtain ⟨ge, gl, gd⟩ := pm_ext_get h3 hi
    have hac := pm_acst hq hst hmv hcm
    have hdep := (h2.2.2.2.2.2.2.1 _ (pm_getD_mem gl)).1
    rw [ge, gd] at hdep
    unfold zb_X8_reachFrom_11
    rw [if_neg (fun z => by have := (pn_le (by omega) (by omega)).mp z; omega), pu_ld (by omega) (by omega), pu_e1, (e4 k hk).2, hg, pu_ld hlt (by omega), pu_e1, hdep, pn_a1]
    refine pu_d4.mpr (pu_mono (pc_reach hq hr h2 gl hac (by rw [ge, gd]) (by omega)) ?_)
    rintro ⟨v15, a16, a17, a18⟩ ⟨C2, d2, g1, g2, g3⟩
    dsimp only at g1 ⊢
    obtain ⟨ge2, gl2, gd2⟩ := pm_ext_get g2 gl
    rw [ge] at ge2 gd2
    have hdep2 := (g1.2.2.2.2.2.2.1 _ (pm_getD_mem gl2)).1
    rw [ge2, gd2, gd] at hdep2
    rw [pu_ld (by omega) (by omega), pu_e1, (e4 k hk).1, hg]
    refine pu_d4.mpr (pu_mono (P := fun y => ∃ C3 d3, pc_SB q w s0 r C3 d3 i y.1 y.2.1 y.2.2.1 y.2.2.2 ∧ pm_ext C2 d2 C3 d3 ∧ (mv = 1 → pm_in C3 d3 (pm_ac q w (C.getD i 0) mv - 320) (d (C.getD i 0) + 1))) ?_ ?_)
    · by_cases m1 : mv = 1
      · subst m1
        obtain ⟨s1, s2⟩ := pc_slipped hq hst hcm
        rw [if_pos ((pm_dd1 (by omega)).mpr rfl), pu_e1, s1, pu_e1, pu_ld hlt (by omega), pu_e1, hdep2, pn_a1]
        refine pu_d4.mpr (pu_mono (pc_reach hq hr g1 gl2 s2 (by rw [ge2, gd2, gd]) (by omega)) ?_)
        rintro ⟨v23, a24, a25, a26⟩ ⟨C3, d3, u1, u2, u3⟩
        exact pu_some.mpr ⟨C3, d3, u1, u2, fun _ => u3⟩
      · rw [if_neg (fun z => m1 ((pm_dd1 hmv).mp z))]
        exact pu_some.mpr ⟨C2, d2, g1, pm_ext_rf C2 d2, fun z => absurd z m1⟩
    · rintro ⟨v27, a28, a29, a30⟩ ⟨C3, d3, u1, u2, u3⟩
      dsimp only at u1 ⊢
      rw [pn_a1, pu_e1]
      refine pu_go ⟨rfl, C3, d3, u1, pm_ext_tr h3 (pm_ext_tr g2 u2), ?_⟩
      intro m hm hc
      by_cases f : m = mv
      · subst f; exact ⟨pm_ext_in u2 g3, u3⟩
      · obtain ⟨w1, w2⟩ := h4 m (by omega) hc
        exact ⟨pm_ext_in (pm_ext_tr g2 u2) w1, fun z => pm_ext_in (pm_ext_tr g2 u2) (w2 z)⟩
theorem pc_slExplore {r N : Nat} {size found fd : Int32} {deeds ends order depth : Nat → Int32} {k1 : Nat → Int64} (hn : 10000 ≤ n) (hq : pm_cliff q) (hK : pc_K q top things tf tt mf mt bars gives rough code) (hT : pc_told q w told) (hw : w ≤ 9) (h0 : pm_st q s0) (hr : r < 100) (hN : N ≤ 8) :
    pu_ok (zf_X8_explore n size (nI r) fd top things tf tt mf mt bars gives rough code found (nI w) told fa sk deeds ends order depth k1 (nI s0) (nI N)) (fun y => pc_told q w y.2.2.2.1 ∧ y.2.1 = (-1 : Int32) ∧ ∃ C d, pc_SB q w s0 r C d C.length y.1 y.2.2.2.2.2.2.2.2.1 y.2.2.2.2.2.2.2.2.2.1 y.2.2.2.2.2.2.2.2.2.2 ∧ ∀ j, j < C.length → pm_clo q w r N C d j) := by
  have hlt := pm_st_lt hq h0
  have hrg : pm_rg s0 < 9 := by unfold pm_rg; omega
  unfold zf_X8_explore
  refine pu_d1.mpr (pu_mono (pc_fill (by omega) (by omega)) ?_)
  intro a1 ha1
  refine pu_d4.mpr (pu_mono (P := fun y => pc_SB q w s0 r [s0] (fun _ => 0) 0 y.1 y.2.1 y.2.2.1 y.2.2.2) ?_ ?_)
  · unfold zf_X8_reach
    rw [pu_ld hlt (by omega), pu_e1, ha1 _ hlt, if_pos rfl, if_neg (by decide), pu_st hlt (by omega), pu_e1, pc_rungOf hlt, pu_e1]
    refine pu_d1.mpr (pu_mono (P := fun v => v = nL (pm_V q w r 0 s0)) ?_ ?_)
    · show pu_ok _ (fun v => v = nL (if pm_rg s0 = r then 1 else 0))
      by_cases f : pm_rg s0 = r
      · rw [if_pos (by rw [f]), if_pos f]; exact pu_some.mpr rfl
      · rw [if_neg (fun z => f ((pn_eq (by omega) (by omega)).mp z)), if_neg f]; exact pu_some.mpr rfl
    rintro v rfl
    rw [pu_st hlt (by omega), pu_e1, pv_st 0 (by omega) (by omega), pu_e1, show (0 : Int32) + 1 = nI 1 from by decide, pu_e1]
    refine pu_some.mpr ⟨rfl, by simp, ?_, rfl, by simp, ?_, ?_, ?_, fun _ _ _ _ => Nat.le_refl _, rfl, ?_, fun _ _ _ => Nat.zero_le _, fun _ _ => Nat.succ_pos _⟩
    · intro t ht
      have : t = s0 := by simpa using ht
      subst this; exact h0
    · intro k hk
      have : k = 0 := by have h : k < 1 := hk; omega
      subst this
      dsimp only; rw [pu_upe]; rfl
    · intro t ht
      have : t = s0 := by simpa using ht
      subst this
      dsimp only; rw [pu_upe, pu_upe]; exact ⟨rfl, rfl⟩
    · intro t ht htn
      have : ¬ t = s0 := by rintro rfl; exact htn (by simp)
      dsimp only; rw [pu_upn this]; exact ha1 t ht
    · intro k h1 h2
      have h : k < 1 := h2
      omega
  rintro ⟨v2, a3, a4, a5⟩ hB0
  dsimp only at hB0 ⊢
  refine pu_d12.mpr (pu_up (fun i v => v.1 = nI i ∧ pc_told q w v.2.2.2.1 ∧ ∃ C d, i ≤ C.length ∧ pc_SB q w s0 r C d i v.2.1 v.2.2.2.2.2.2.2.2.1 v.2.2.2.2.2.2.2.2.2.1 v.2.2.2.2.2.2.2.2.2.2 ∧ ∀ j, j < i → pm_clo q w r N C d j) 2880 (by omega) ⟨rfl, hT, [s0], fun _ => 0, by omega, hB0, fun j h => absurd h (by omega)⟩ ?_)
  rintro i ⟨v6, v7, v8, a9, a10, a11, a12, a13, a14, a15, a16⟩ hi ⟨e1, hT2, C, d, hiC, hB, hcl⟩
  dsimp only at e1 hT2 hB ⊢
  subst e1
  have hlen : C.length ≤ 2880 := pm_pig hB.2.1 (fun y hy => pm_st_lt hq (hB.2.2.1 y hy))
  unfold zb_X8_explore_26
  by_cases hc : C.length ≤ i
  · have : i = C.length := by omega
    subst this
    rw [hB.1, if_pos ((pn_le (by omega) (by omega)).mpr hc), ← hB.1]
    exact pu_out (by decide) (pu_some.mpr ⟨hT2, rfl, C, d, hB, hcl⟩)
  have hi' : i < C.length := by omega
  have hmem := pm_getD_mem hi'
  have hst := hB.2.2.1 _ hmem
  have hlti := pm_st_lt hq hst
  have hrgi : pm_rg (C.getD i 0) < 9 := by unfold pm_rg; omega
  have hd3 := hB.2.2.2.2.2.2.2.2.2.2.2.2 _ hmem
  rw [hB.1, if_neg (fun z => hc ((pn_le (by omega) (by omega)).mp z)), if_neg (fun z => by have := (pv_le 2880 (by omega) (by omega)).mp z; omega), ← hB.1, pu_ld (by omega) (by omega), pu_e1, hB.2.2.2.2.2.1 i hi', pu_ld hlti (by omega), pu_e1, (hB.2.2.2.2.2.2.1 _ hmem).1]
  have hstep : ∀ C' d' sz o dp kk, pc_SB q w s0 r C' d' i sz o dp kk → pm_ext C d C' d' → pc_SB q w s0 r C' d' (i + 1) sz o dp kk := by
    intro C' d' sz o dp kk h hext
    obtain ⟨b1, b2, b3, b4, b5, b6, b7, b8, b9, b10, b11, b12, b13⟩ := h
    refine ⟨b1, b2, b3, b4, b5, b6, b7, b8, b9, b10, b11, ?_, b13⟩
    intro hi1 k hk
    have h1 := b12 (by omega) k hk
    have h2 := b9 i (i + 1) (by omega) hi1
    omega
  have hclo' : ∀ C' d', pm_ext C d C' d' → ∀ j, j < i → pm_clo q w r N C' d' j := by
    intro C' d' hext j hj
    obtain ⟨ge, gl, gd⟩ := pm_ext_get hext (show j < C.length by omega)
    have h := hcl j hj
    unfold pm_clo at h ⊢
    rw [ge, gd]
    intro h1 h2 m hm hcm
    obtain ⟨w1, w2⟩ := h h1 h2 m hm hcm
    exact ⟨pm_ext_in hext w1, fun z => pm_ext_in hext (w2 z)⟩
  refine pu_d10.mpr (pu_mono (P := fun y => pc_told q w y.2.2.1 ∧ ∃ C' d', i + 1 ≤ C'.length ∧ pc_SB q w s0 r C' d' (i + 1) y.1 y.2.2.2.2.2.2.2.1 y.2.2.2.2.2.2.2.2.1 y.2.2.2.2.2.2.2.2.2 ∧ ∀ j, j < i + 1 → pm_clo q w r N C' d' j) ?_ ?_)
  · by_cases f : N ≤ d (C.getD i 0)
    · rw [if_pos ((pn_le (by omega) (by omega)).mpr f)]
      refine pu_some.mpr ⟨hT2, C, d, hi', hstep C d _ _ _ _ hB (pm_ext_rf C d), ?_⟩
      intro j hj
      by_cases g : j = i
      · subst g; intro h1; omega
      · exact hcl j (by omega)
    rw [if_neg (fun z => f ((pn_le (by omega) (by omega)).mp z)), pc_rungOf hlti, pu_e1]
    by_cases g : pm_rg (C.getD i 0) = r
    · rw [if_pos (by rw [g])]
      refine pu_some.mpr ⟨hT2, C, d, hi', hstep C d _ _ _ _ hB (pm_ext_rf C d), ?_⟩
      intro j hj
      by_cases g2 : j = i
      · subst g2; intro _ h2; exact absurd g h2
      · exact hcl j (by omega)
    rw [if_neg (fun z => g ((pn_eq (by omega) (by omega)).mp z))]
    refine pu_d10.mpr (pu_mono (pc_reachFrom (by omega) hq hK hT2 hw hr hB hi' (by omega)) ?_)
    rintro ⟨v20, v21, a22, a23, a24, a25, a26, a27, a28, a29⟩ ⟨u1, C', d', u2, u3, u4⟩
    obtain ⟨ge, gl, gd⟩ := pm_ext_get u3 hi'
    refine pu_some.mpr ⟨u1, C', d', gl, hstep C' d' _ _ _ _ u2 u3, ?_⟩
    intro j hj
    by_cases g2 : j = i
    · subst g2
      unfold pm_clo
      rw [ge, gd]
      intro _ _ m hm hcm
      exact u4 m hm hcm
    · exact hclo' C' d' u3 j (by omega)
  · rintro ⟨v30, v31, a32, a33, a34, a35, a36, a37, a38, a39⟩ ⟨u1, C', d', u2, u3, u4⟩
    have hlen' : C'.length ≤ 2880 := pm_pig u3.2.1 (fun y hy => pm_st_lt hq (u3.2.2.1 y hy))
    dsimp only at u1 u3 ⊢
    rw [pn_a1, pu_e1]
    exact pu_go ⟨by omega, rfl, u1, C', d', u2, u3, u4⟩
end PSl
