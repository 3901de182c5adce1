/-! how far it is: the reference -/
def pm_G (r set s : Nat) : Prop := pm_rg s = r ∧ pm_hs s &&& set = set
theorem pn_eq_and {h set : Nat} (hh : h < 64) (hs : set < 64) : (nI h &&& nI set) = nI set ↔ h &&& set = set := by
  rw [pn_and]
  exact pn_eq (Nat.lt_of_le_of_lt Nat.and_le_left (by omega)) (by omega)
theorem pr_isGoal {s r set : Nat} (hs : s < 2880) (hr : r < 100) (hset : set < 64) : pu_ok (zf_X11_isGoal (nI s) (nI r) (nI set)) (fun v => (v = 0 ∧ ¬ pm_G r set s) ∨ (v = 1 ∧ pm_G r set s)) := by
  have hrg : pm_rg s < 9 := by unfold pm_rg; omega
  unfold zf_X11_isGoal pm_G
  rw [pr_rungIn hs, pu_e1]
  by_cases c : pm_rg s = r
  · rw [if_pos (by rw [c]), pr_hasIn hs, pu_e1]
    by_cases d : pm_hs s &&& set = set
    · rw [if_pos ((pn_eq_and (pm_hs_lt s) hset).mpr d)]
      exact pu_some.mpr (Or.inr ⟨rfl, c, d⟩)
    · rw [if_neg (fun z => d ((pn_eq_and (pm_hs_lt s) hset).mp z))]
      exact pu_some.mpr (Or.inl ⟨rfl, fun z => d z.2⟩)
  · rw [if_neg (fun z => c ((pn_eq (by omega) (by omega)).mp z))]
    exact pu_some.mpr (Or.inl ⟨rfl, fun z => c z.1⟩)
theorem pm_tgx0 (q : Nat → Nat) (w : Nat) : pm_tgx q w 0 = pm_tg q w := by funext s m; rfl
theorem pm_tgx1 (q : Nat → Nat) (w : Nat) : pm_tgx q w 1 = pm_tgm q w := by funext s m; rfl
def pm_fb (q : Nat → Nat) (w : Nat) (fr : Nat → Nat) (s m : Nat) : Nat := if pm_wy q w s m = 0 then (if fr (pm_ac q w s m) = 268435456 then 268435456 else fr (pm_ac q w s m) + 1) else 268435456
def pr_FI (q : Nat → Nat) (w : Nat) (F : List Nat) (G : Nat → Prop) (a : Nat → Int32) (fr : Nat → Nat) : Prop := ∀ s ∈ F, a s = nI (fr s) ∧ fr s ≤ 268435456 ∧ (fr s = 0 ↔ G s) ∧ (fr s < 268435456 → pm_R q w G (fr s) s)
def pm_sm (fr : Nat → Nat) (F : List Nat) : Nat := (F.map fr).sum
theorem pm_sm_le {fr : Nat → Nat} {s v : Nat} (hv : v ≤ fr s) : ∀ F : List Nat, pm_sm (va_up fr s v) F ≤ pm_sm fr F := by
  intro F
  induction F with
  | nil => exact Nat.le_refl _
  | cons x F ih =>
    show (va_up fr s v) x + pm_sm (va_up fr s v) F ≤ fr x + pm_sm fr F
    by_cases d : x = s
    · subst d; rw [pu_upe]; omega
    · rw [pu_upn d]; omega
theorem pm_sm_lt {fr : Nat → Nat} {s v : Nat} (hv : v < fr s) : ∀ F : List Nat, s ∈ F → pm_sm (va_up fr s v) F < pm_sm fr F := by
  intro F
  induction F with
  | nil => intro h; cases h
  | cons x F ih =>
    intro h
    show (va_up fr s v) x + pm_sm (va_up fr s v) F < fr x + pm_sm fr F
    have h1 := pm_sm_le (fr := fr) (s := s) (v := v) (by omega) F
    by_cases d : x = s
    · subst d; rw [pu_upe]; omega
    · rw [pu_upn d]
      have : s ∈ F := by rcases List.mem_cons.mp h with z | z
                         · exact absurd z.symm d
                         · exact z
      have := ih this
      omega
theorem pm_sm_b {fr : Nat → Nat} {b : Nat} : ∀ F : List Nat, (∀ s ∈ F, fr s ≤ b) → pm_sm fr F ≤ F.length * b := by
  intro F
  induction F with
  | nil => intro _; exact Nat.zero_le _
  | cons x F ih =>
    intro h
    show fr x + pm_sm fr F ≤ (F.length + 1) * b
    have h1 := ih (fun s hs => h s (List.mem_cons_of_mem _ hs))
    have h2 := h x (List.mem_cons_self)
    rw [Nat.succ_mul]
    omega
section PF
variable {q : Nat → Nat} {w s0 : Nat} {G : Nat → Prop}
theorem pr_farBy {th a : Nat → Int32} {fr : Nat → Nat} {s m : Nat} (hs : s < 2880) (hm : m < 15) (hth : th (15 * s + m) = pr_v q w s m) (hac : pm_wy q w s m = 0 → pm_ac q w s m < 2880 ∧ a (pm_ac q w s m) = nI (fr (pm_ac q w s m)) ∧ fr (pm_ac q w s m) ≤ 268435456) : zf_X11_farBy th a (nI s) (nI m) = some (nI (pm_fb q w fr s m)) := by
  unfold zf_X11_farBy pm_fb
  rw [pv_mul 15, pn_add, pu_ld (by omega) (by omega), pu_e1, hth]
  unfold pr_v
  by_cases c : pm_wy q w s m = 0
  · obtain ⟨h1, h2, h3⟩ := hac c
    rw [if_pos c, if_neg (fun z => (pn_ne1 (by omega)).mp z), pu_ld h1 (by omega), pu_e1, h2, if_pos c]
    by_cases d : fr (pm_ac q w s m) = 268435456
    · rw [if_pos (by rw [d]; rfl), if_pos d]; rfl
    · rw [if_neg (fun z => d ((pv_eq 268435456 (by omega) (by omega)).mp z)), if_neg d, pu_e1, pn_a1]
  · rw [if_neg c, if_pos (show pz_m1 = (-1 : Int32) from rfl), if_neg c]; rfl
theorem pr_FI_up {F : List Nat} {a : Nat → Int32} {fr : Nat → Nat} {s m : Nat} (h : pr_FI q w F G a fr) (hs : s ∈ F) (hm : m < 15) (hin : pm_wy q w s m = 0 → pm_ac q w s m ∈ F) (hlt : pm_fb q w fr s m < fr s) : pr_FI q w F G (va_up a s (nI (pm_fb q w fr s m))) (va_up fr s (pm_fb q w fr s m)) := by
  obtain ⟨g1, g2, g3, g4⟩ := h s hs
  have hc : pm_wy q w s m = 0 := by
    by_cases c : pm_wy q w s m = 0
    · exact c
    · unfold pm_fb at hlt; rw [if_neg c] at hlt; omega
  have hb : pm_fb q w fr s m = fr (pm_ac q w s m) + 1 ∧ fr (pm_ac q w s m) < 268435456 := by
    unfold pm_fb at hlt ⊢
    rw [if_pos hc] at hlt ⊢
    by_cases d : fr (pm_ac q w s m) = 268435456
    · rw [if_pos d] at hlt; omega
    · rw [if_neg d] at hlt ⊢
      have := (h _ (hin hc)).2.1
      exact ⟨rfl, by omega⟩
  intro t ht
  by_cases d : t = s
  · subst d
    rw [pu_upe, pu_upe]
    refine ⟨rfl, by omega, ?_, ?_⟩
    · constructor
      · intro z; omega
      · intro z; have := g3.mpr z; omega
    · intro _
      rw [hb.1]
      exact ⟨m, hm, hc, (h _ (hin hc)).2.2.2 hb.2⟩
  · rw [pu_upn d, pu_upn d]
    exact h t ht
/-- within a pass -/
def pr_Q (q : Nat → Nat) (w : Nat) (F : List Nat) (G : Nat → Prop) (fr0 : Nat → Nat) (C : Prop) (flag : Int32) (a : Nat → Int32) : Prop := ∃ fr, pr_FI q w F G a fr ∧ ((flag = 0 ∧ fr = fr0 ∧ C) ∨ (flag = 1 ∧ pm_sm fr F < pm_sm fr0 F))
theorem pr_farIn {n : Nat} {stand th a : Nat → Int32} {many flag : Int32} {fr0 : Nat → Nat} {k : Nat} {C : Prop} (hn : 1000 ≤ n) (hq : pm_cliff q) (h0 : pm_st q s0) (hls : pr_ls q w (pm_F (pm_tg q w) s0) many stand th) (hk : k < (pm_F (pm_tg q w) s0).length) (hQ : pr_Q q w (pm_F (pm_tg q w) s0) G fr0 C flag a) :
    pu_ok (za_it (fun v => zb_X11_laysFar_77 stand (nI k) th v.1 v.2.1 v.2.2) n (flag, (0 : Int32), a)) (fun r => pr_Q q w (pm_F (pm_tg q w) s0) G fr0 (C ∧ ∀ m, m < 15 → fr0 ((pm_F (pm_tg q w) s0).getD k 0) ≤ pm_fb q w fr0 ((pm_F (pm_tg q w) s0).getD k 0) m) r.2.1 r.2.2.2) := by
  have hl := pm_L_len (w := w) hq h0
  have hst := pm_L_st (w := w) hq h0 hk
  have hmem := pm_getD_mem hk
  have hskE := hls.2.1 k hk
  have hclo : ∀ m, m < 15 → pm_wy q w ((pm_F (pm_tg q w) s0).getD k 0) m = 0 → pm_ac q w ((pm_F (pm_tg q w) s0).getD k 0) m ∈ (pm_F (pm_tg q w) s0) := by
    intro m hm hc
    obtain ⟨x, x1, x2, _⟩ := pm_L_tgt (q := q) (w := w) hq h0 hk hm hc
    rw [← x2]; exact pm_getD_mem x1
  have hlt := pm_st_lt hq hst
  generalize (pm_F (pm_tg q w) s0).getD k 0 = s at hst hmem hskE hclo hlt
  refine pu_up (fun m v => v.2.1 = nI m ∧ pr_Q q w (pm_F (pm_tg q w) s0) G fr0 (C ∧ ∀ m', m' < m → fr0 s ≤ pm_fb q w fr0 s m') v.1 v.2.2) 15 (by omega) ⟨rfl, ?_⟩ ?_
  · obtain ⟨fr, f1, f2⟩ := hQ
    refine ⟨fr, f1, ?_⟩
    rcases f2 with ⟨g1, g2, g3⟩ | g
    · exact Or.inl ⟨g1, g2, g3, fun m' h => absurd h (by omega)⟩
    · exact Or.inr g
  rintro m ⟨v24, v25, a26⟩ hm ⟨e1, fr, f1, f2⟩
  dsimp only at e1 f1 f2 ⊢
  subst e1
  unfold zb_X11_laysFar_77
  by_cases hc : 15 ≤ m
  · rw [if_pos ((pv_le 15 (by omega) (by omega)).mpr hc)]
    refine pu_out (by decide) ⟨fr, f1, ?_⟩
    rcases f2 with ⟨g1, g2, g3, g4⟩ | g
    · exact Or.inl ⟨g1, g2, g3, fun m' h => g4 m' (by omega)⟩
    · exact Or.inr g
  · obtain ⟨i1, i2, i3, i4⟩ := f1 s hmem
    rw [if_neg (fun z => hc ((pv_le 15 (by omega) (by omega)).mp z)), pu_ld (by omega) (by omega), pu_e1, hskE, pu_ld hlt (by omega), pu_e1, i1]
    by_cases hz : fr s = 0
    · rw [if_pos ((pv_ge 0 (by omega) (by omega)).mpr (by omega))]
      refine pu_out (by decide) ⟨fr, f1, ?_⟩
      rcases f2 with ⟨g1, g2, g3, g4⟩ | g
      · exact Or.inl ⟨g1, g2, g3, fun m' h => by rw [← g2, hz]; omega⟩
      · exact Or.inr g
    · have hfb : zf_X11_farBy th a26 (nI s) (nI m) = some (nI (pm_fb q w fr s m)) := pr_farBy hlt (by omega) (hls.2.2 s hmem m (by omega)) (fun c => ⟨by have := hclo m (by omega) c; exact pm_st_lt hq (pm_B_P (P := pm_st q) h0 (pm_tg_st hq) pm_N _ this), (f1 _ (hclo m (by omega) c)).1, (f1 _ (hclo m (by omega) c)).2.1⟩)
      have hfbl : pm_fb q w fr s m ≤ 268435456 := by
        unfold pm_fb
        split
        · rename_i c
          have := (f1 _ (hclo m (by omega) c)).2.1
          split <;> omega
        · omega
      rw [if_neg (fun z => by have := (pv_ge 0 (by omega) (by omega)).mp z; omega), pu_e1, hfb, pu_e1, pu_e1, pu_ld hlt (by omega), pu_e1, i1]
      refine pu_d2.mpr (pu_mono (P := fun r => pr_Q q w (pm_F (pm_tg q w) s0) G fr0 (C ∧ ∀ m', m' < m + 1 → fr0 s ≤ pm_fb q w fr0 s m') r.1 r.2) ?_ ?_)
      · by_cases hlt2 : pm_fb q w fr s m < fr s
        · rw [if_pos ((pn_lt (by omega) (by omega)).mpr hlt2), pu_e1, pu_e1, hfb, pu_e1, pu_st hlt (by omega), pu_e1]
          refine pu_some.mpr ⟨va_up fr s (pm_fb q w fr s m), pr_FI_up f1 hmem (by omega) (hclo m (by omega)) hlt2, Or.inr ⟨rfl, ?_⟩⟩
          have h5 := pm_sm_lt hlt2 (pm_F (pm_tg q w) s0) hmem
          rcases f2 with ⟨g1, g2, g3, g4⟩ | ⟨g1, g2⟩
          · rw [← g2]; exact h5
          · omega
        · rw [if_neg (fun z => hlt2 ((pn_lt (by omega) (by omega)).mp z))]
          refine pu_some.mpr ⟨fr, f1, ?_⟩
          rcases f2 with ⟨g1, g2, g3, g4⟩ | g
          · refine Or.inl ⟨g1, g2, g3, ?_⟩
            intro m' hm'
            by_cases d : m' = m
            · subst d; rw [← g2]; omega
            · exact g4 m' (by omega)
          · exact Or.inr g
      · rintro ⟨v37, a38⟩ hQ2
        dsimp only at hQ2 ⊢
        rw [pn_a1, pu_e1]
        exact pu_go ⟨by omega, rfl, hQ2⟩
theorem pn_p1 (k : Nat) : nI k + (-1 : Int32) = nI k - (1 : Int32) := (Int32.sub_eq_add_neg (nI k) 1).symm
theorem pr_farPass {n : Nat} {stand th a : Nat → Int32} {many : Int32} {fr0 : Nat → Nat} (hn : 10000 ≤ n) (hq : pm_cliff q) (h0 : pm_st q s0) (hls : pr_ls q w (pm_F (pm_tg q w) s0) many stand th) (hF : pr_FI q w (pm_F (pm_tg q w) s0) G a fr0) :
    pu_ok (za_it (fun v => zb_X11_laysFar_69 stand th n v.1 v.2.1 v.2.2) n ((0 : Int32), nI (pm_F (pm_tg q w) s0).length - (1 : Int32), a)) (fun r => pr_Q q w (pm_F (pm_tg q w) s0) G fr0 (∀ i, i < (pm_F (pm_tg q w) s0).length → ∀ m, m < 15 → fr0 ((pm_F (pm_tg q w) s0).getD i 0) ≤ pm_fb q w fr0 ((pm_F (pm_tg q w) s0).getD i 0) m) r.2.1 r.2.2.2) := by
  have hl := pm_L_len (w := w) hq h0
  refine pu_up (fun i v => v.2.1 = nI ((pm_F (pm_tg q w) s0).length - i) - (1 : Int32) ∧ pr_Q q w (pm_F (pm_tg q w) s0) G fr0 (∀ j, (pm_F (pm_tg q w) s0).length - i ≤ j → j < (pm_F (pm_tg q w) s0).length → ∀ m, m < 15 → fr0 ((pm_F (pm_tg q w) s0).getD j 0) ≤ pm_fb q w fr0 ((pm_F (pm_tg q w) s0).getD j 0) m) v.1 v.2.2) (pm_F (pm_tg q w) s0).length (by omega) ⟨(by dsimp only; rw [Nat.sub_zero]), fr0, hF, Or.inl ⟨rfl, rfl, fun j h1 h2 => absurd h2 (by omega)⟩⟩ ?_
  rintro i ⟨v21, v22, a23⟩ hi ⟨e1, hQ⟩
  dsimp only at e1 hQ ⊢
  subst e1
  unfold zb_X11_laysFar_69
  by_cases hc : i = (pm_F (pm_tg q w) s0).length
  · have hz : (pm_F (pm_tg q w) s0).length - i = 0 := by omega
    rw [hz] at hQ ⊢
    rw [if_pos (by decide)]
    refine pu_out (by decide) ?_
    obtain ⟨fr, f1, f2⟩ := hQ
    refine ⟨fr, f1, ?_⟩
    rcases f2 with ⟨g1, g2, g3⟩ | g
    · exact Or.inl ⟨g1, g2, fun j h => g3 j (Nat.zero_le _) h⟩
    · exact Or.inr g
  · have e2 : nI ((pm_F (pm_tg q w) s0).length - i) - (1 : Int32) = nI ((pm_F (pm_tg q w) s0).length - i - 1) := pv_sub 1 (by omega)
    rw [e2, if_neg (fun z => by have := (pv_gt 0 (b := (pm_F (pm_tg q w) s0).length - i - 1) (by omega) (by omega)).mp z; omega)]
    refine pu_d4.mpr (pu_mono (pr_farIn (k := (pm_F (pm_tg q w) s0).length - i - 1) (by omega) hq h0 hls (by omega) hQ) ?_)
    rintro ⟨g43, v40, v41, a42⟩ hQ2
    dsimp only at hQ2 ⊢
    rw [pn_p1, pu_e1]
    refine pu_go ⟨by omega, by rw [Nat.sub_sub], ?_⟩
    obtain ⟨fr, f1, f2⟩ := hQ2
    refine ⟨fr, f1, ?_⟩
    rcases f2 with ⟨g1, g2, g3, g4⟩ | g
    · refine Or.inl ⟨g1, g2, ?_⟩
      intro j hj1 hj2 m hm
      by_cases d : j = (pm_F (pm_tg q w) s0).length - i - 1
      · subst d; exact g4 m hm
      · exact g3 j (by omega) hj2 m hm
    · exact Or.inr g
end PF
section PH
variable {q : Nat → Nat} {w s0 : Nat}
theorem pr_laysFar {n : Nat} {all rk wds stand th far known : Nat → Int32} {many : Int32} {r set : Nat} (hn : 10000000000000 ≤ n) (ha : pr_all all q) (hq : pm_cliff q) (hw : q 40 = w) (hw9 : w ≤ 9) (hs : pm_now q = s0) (h0 : pm_st q s0) (hr : r < 100) (hset : set < 64) :
    pu_ok (zf_X11_laysFar n many all rk wds stand th far known (nI r) (nI set)) (fun x => ∃ fr, pm_far q w (pm_F (pm_tg q w) s0) (pm_G r set) fr ∧ x.1 = nI (fr s0) ∧ (∀ s ∈ (pm_F (pm_tg q w) s0), x.2.2.2.2.2.2.1 s = nI (fr s)) ∧ pr_ls q w (pm_F (pm_tg q w) s0) x.2.1 x.2.2.2.2.1 x.2.2.2.2.2.1) := by
  have hl := pm_L_len (w := w) hq h0
  unfold zf_X11_laysFar
  refine pu_d6.mpr (pu_mono (pr_laysStands (more := 0) (by omega) ha hq (by omega) (by rw [hs]; exact h0) (Or.inl rfl)) ?_)
  rintro ⟨v1, a2, a3, a4, a5, a6⟩ hls
  dsimp only at hls ⊢
  rw [pm_tgx0, hw, hs] at hls
  have hcnt := hls.1
  subst hcnt
  -- goals
  refine pu_d3.mpr (pu_up (fun i v => v.1 = nI i ∧ (∀ j, j < i → (v.2 ((pm_F (pm_tg q w) s0).getD j 0) = nI 0 ∧ pm_G r set ((pm_F (pm_tg q w) s0).getD j 0)) ∨ (v.2 ((pm_F (pm_tg q w) s0).getD j 0) = nI 268435456 ∧ ¬ pm_G r set ((pm_F (pm_tg q w) s0).getD j 0)))) (pm_F (pm_tg q w) s0).length (by omega) ⟨rfl, fun s h => absurd h (by omega)⟩ ?_)
  rintro i ⟨v7, a8⟩ hi ⟨e1, e2⟩
  dsimp only at e1 e2 ⊢
  subst e1
  unfold zb_X11_laysFar_7
  by_cases hc : (pm_F (pm_tg q w) s0).length ≤ i
  rotate_left
  · have hst := pm_L_st (w := w) hq h0 (i := i) (by omega)
    have hlt := pm_st_lt hq hst
    rw [if_neg (fun z => hc ((pn_le (by omega) (by omega)).mp z)), pu_ld (by omega) (by omega), pu_e1, pu_e1, hls.2.1 i (by omega)]
    refine pu_d1.mpr (pu_mono (pr_isGoal hlt hr hset) ?_)
    intro v hv
    refine pu_d1.mpr (pu_mono (P := fun x => (x = nI 0 ∧ pm_G r set ((pm_F (pm_tg q w) s0).getD i 0)) ∨ (x = nI 268435456 ∧ ¬ pm_G r set ((pm_F (pm_tg q w) s0).getD i 0))) ?_ ?_)
    · rcases hv with ⟨rfl, h⟩ | ⟨rfl, h⟩
      · rw [if_pos rfl]; exact pu_some.mpr (Or.inr ⟨rfl, h⟩)
      · rw [if_neg (by decide)]; exact pu_some.mpr (Or.inl ⟨rfl, h⟩)
    · intro x hx
      rw [pu_st hlt (by omega), pu_e1, pn_a1, pu_e1]
      refine pu_go ⟨by omega, rfl, ?_⟩
      intro j hj
      by_cases d : j = i
      · subst d; dsimp only; rw [pu_upe]; exact hx
      · have hne : ¬ (pm_F (pm_tg q w) s0).getD j 0 = (pm_F (pm_tg q w) s0).getD i 0 := fun z => d (pm_nd_inj (pm_L_nd (q := q) (w := w) (s0 := s0)) (by omega) (by omega) z)
        dsimp only
        rw [pu_upn hne]
        exact e2 j (by omega)
  rw [if_pos ((pn_le (by omega) (by omega)).mpr hc)]
  refine pu_out (by decide) ?_
  dsimp only
  -- passes
  have hFI0 : ∃ fr, pr_FI q w (pm_F (pm_tg q w) s0) (pm_G r set) a8 fr := by
    refine ⟨fun s => (a8 s).toInt.toNat, ?_⟩
    intro s hs'
    obtain ⟨j, j1, j2⟩ := pm_mem_get hs'
    have h := e2 j (by omega)
    rw [j2] at h
    rcases h with ⟨h1, h2⟩ | ⟨h1, h2⟩
    · dsimp only; rw [h1, pn_toInt (by omega)]
      exact ⟨rfl, by omega, ⟨fun _ => h2, fun _ => rfl⟩, fun _ => h2⟩
    · dsimp only; rw [h1, pn_toInt (by omega)]
      exact ⟨rfl, by omega, ⟨fun z => absurd z (by omega), fun z => absurd z h2⟩, fun z => absurd z (by omega)⟩
  obtain ⟨fr0, hFI⟩ := hFI0
  have hb0 := pm_sm_b (fr := fr0) (b := 268435456) (pm_F (pm_tg q w) s0) (fun s hs' => (hFI s hs').2.1)
  have hb1 : (pm_F (pm_tg q w) s0).length * 268435456 ≤ 2880 * 268435456 := Nat.mul_le_mul_right _ hl
  refine pu_d3.mpr (pu_dn (fun μ v => ∃ fr, pr_FI q w (pm_F (pm_tg q w) s0) (pm_G r set) v.2 fr ∧ ((v.1 = 0 ∧ μ = 2 * pm_sm fr (pm_F (pm_tg q w) s0) ∧ ∀ i, i < (pm_F (pm_tg q w) s0).length → ∀ m, m < 15 → fr ((pm_F (pm_tg q w) s0).getD i 0) ≤ pm_fb q w fr ((pm_F (pm_tg q w) s0).getD i 0) m) ∨ (v.1 = 1 ∧ μ = 2 * pm_sm fr (pm_F (pm_tg q w) s0) + 1))) (2 * pm_sm fr0 (pm_F (pm_tg q w) s0) + 1) (by omega) ⟨fr0, hFI, Or.inr ⟨rfl, rfl⟩⟩ ?_)
  rintro μ ⟨v18, a19⟩ ⟨fr, f1, f2⟩
  dsimp only at f1 f2 ⊢
  unfold zb_X11_laysFar_55
  rcases f2 with ⟨z1, z2, f3⟩ | ⟨z1, z2⟩
  · subst z1
    rw [if_pos rfl]
    refine pu_out (by decide) ?_
    dsimp only
    have hF0 := pm_F_0 (pm_tg q w) s0
    have hlt := pm_st_lt hq h0
    rw [pr_standNow ha, hs, pu_e1, pu_ld hlt (by omega), pu_e1]
    refine pu_some.mpr ⟨fr, ⟨fun s hs' => (f1 s hs').2, ?_⟩, ?_, fun s hs' => (f1 s hs').1, hls⟩
    · intro s hs' m hm hc hlt2
      obtain ⟨j, j1, j2⟩ := pm_mem_get hs'
      have := f3 j j1 m hm
      rw [j2] at this
      unfold pm_fb at this
      rw [if_pos hc, if_neg (by omega)] at this
      exact this
    · have := (f1 _ (pm_getD_mem hF0.2)).1
      rw [hF0.1] at this
      exact this
  · subst z1
    rw [if_neg (by decide), pu_e1]
    refine pu_d4.mpr (pu_mono (pr_farPass (by omega) hq h0 hls f1) ?_)
    rintro ⟨g48, v45, v46, a47⟩ ⟨fr', f1', f2'⟩
    dsimp only at f1' f2' ⊢
    refine pu_go ?_
    rcases f2' with ⟨g1, g2, g3⟩ | ⟨g1, g2⟩
    · subst g2
      exact ⟨2 * pm_sm fr' (pm_F (pm_tg q w) s0), by omega, fr', f1', Or.inl ⟨g1, rfl, g3⟩⟩
    · exact ⟨2 * pm_sm fr' (pm_F (pm_tg q w) s0) + 1, by omega, fr', f1', Or.inr ⟨g1, rfl⟩⟩
/-- the first that fits, or none -/
def pm_fst (F : List Nat) (G : Nat → Prop) (j : Nat) : Prop := j < F.length ∧ G (F.getD j 0) ∧ ∀ i, i < j → ¬ G (F.getD i 0)
theorem pr_toldMove {m : Nat} (hm : m < 15) : zf_X11_toldMove (nI m) = some (nI (pm_dd m)) := by
  unfold zf_X11_toldMove pm_dd
  by_cases c : m < 3
  · rw [if_neg (fun z => by have := (pv_le 3 (by omega) (by omega)).mp z; omega), if_pos c]
  · rw [if_pos ((pv_le 3 (by omega) (by omega)).mpr (by omega)), if_neg c]
    by_cases d : m < 9
    · rw [if_neg (fun z => by have := (pv_le 9 (by omega) (by omega)).mp z; omega), if_pos d, pv_add 7, Nat.add_comm]
    · rw [if_pos ((pv_le 9 (by omega) (by omega)).mpr (by omega)), if_neg d, pv_add 11, Nat.add_comm]
/-- the i-th deed of the way that is laid -/
noncomputable def pm_way (q : Nat → Nat) (w s0 j i : Nat) : Int32 := if i < pm_de (pm_tg q w) s0 j then nI (pm_dd (pm_wd1 q w s0 j (pm_de (pm_tg q w) s0 j - 1 - i))) else (-1 : Int32)
theorem pr_deedAt {n : Nat} {all stand th far : Nat → Int32} {many : Int32} {fr : Nat → Nat} {G : Nat → Prop} {j i : Nat} (hn : 10000 ≤ n) (ha : pr_all all q) (hq : pm_cliff q) (hs : pm_now q = s0) (h0 : pm_st q s0) (hf : pm_far q w (pm_F (pm_tg q w) s0) G fr) (hfar : ∀ s ∈ (pm_F (pm_tg q w) s0), far s = nI (fr s)) (hls : pr_ls q w (pm_F (pm_tg q w) s0) many stand th) (hj : pm_fst (pm_F (pm_tg q w) s0) G j) (hi : i < 2147483648) :
    zf_X11_deedAt n all th far (nI i) = some (pm_way q w s0 j i) := by
  have hl := pm_L_len (w := w) hq h0
  obtain ⟨j1, j2, j3⟩ := hj
  have hdl := pm_de_le (tg := pm_tg q w) (s0 := s0) j j1
  have hF0 := pm_F_0 (pm_tg q w) s0
  apply pu_ex
  unfold zf_X11_deedAt
  rw [pr_standNow ha, hs, pu_e1]
  refine pu_d4.mpr (pu_up (fun k v => v.1 = nI ((pm_F (pm_tg q w) s0).getD (pm_anc q w s0 j (pm_de (pm_tg q w) s0 j - k)) 0) ∧ v.2.1 = nI k ∧ k ≤ i) (pm_de (pm_tg q w) s0 j) (by omega) ⟨?_, rfl, by omega⟩ ?_)
  · dsimp only; rw [Nat.sub_zero, pm_anc_d j1, hF0.1]
  rintro k ⟨v2, v3, v4⟩ hk ⟨e1, e2, e3⟩
  dsimp only at e1 e2 e3 ⊢
  subst e1 e2
  obtain ⟨x1, x2⟩ := pm_anc_de (q := q) (w := w) (s0 := s0) j1 (pm_de (pm_tg q w) s0 j - k) (by omega)
  have hfr := pm_anc_far hq h0 hf j1 j2 j3 (t := pm_de (pm_tg q w) s0 j - k) (by omega)
  have hst := pm_L_st (w := w) hq h0 x1
  have hlt := pm_st_lt hq hst
  have hm1 := hfar _ (pm_getD_mem x1)
  rw [hfr] at hm1
  unfold zb_X11_deedAt_7
  rw [pu_ld hlt (by omega), pu_e1, hm1]
  by_cases hc : k = pm_de (pm_tg q w) s0 j
  · subst hc
    rw [Nat.sub_self, if_pos (by decide)]
    refine pu_out (by decide) ?_
    dsimp only
    rw [if_neg (by decide), if_pos rfl]
    refine pu_some.mpr ?_
    unfold pm_way
    rw [if_neg (by omega)]
  · rw [if_neg (fun z => by have := (pv_ge 0 (by omega) (by omega)).mp z; omega), pu_e1, if_neg (fun z => by have := (pv_le 268435456 (by omega) (by omega)).mp z; omega)]
    have ht : pm_de (pm_tg q w) s0 j - k = pm_de (pm_tg q w) s0 j - 1 - k + 1 := by omega
    obtain ⟨w1, w2, w3⟩ := pm_wd1_at (q := q) (w := w) (s0 := s0) (t := pm_de (pm_tg q w) s0 j - 1 - k) j1 (by omega)
    rw [← ht] at w2 w3
    have hfr2 := pm_anc_far hq h0 hf j1 j2 j3 (t := pm_de (pm_tg q w) s0 j - 1 - k) (by omega)
    have hfb : ∀ m, m < 15 → zf_X11_farBy th far (nI ((pm_F (pm_tg q w) s0).getD (pm_anc q w s0 j (pm_de (pm_tg q w) s0 j - k)) 0)) (nI m) = some (nI (pm_fb q w fr ((pm_F (pm_tg q w) s0).getD (pm_anc q w s0 j (pm_de (pm_tg q w) s0 j - k)) 0) m)) := by
      intro m hm
      refine pr_farBy hlt hm (hls.2.2 _ (pm_getD_mem x1) m hm) ?_
      intro c
      obtain ⟨y, y1, y2, _⟩ := pm_L_tgt (q := q) (w := w) hq h0 x1 hm c
      have hy := pm_getD_mem y1
      rw [y2] at hy
      exact ⟨pm_st_lt hq (pm_acst hq hst hm c), hfar _ hy, (hf.1 _ hy).1⟩
    refine pu_d2.mpr (pu_up (fun m v => v = nI m ∧ m ≤ pm_wd1 q w s0 j (pm_de (pm_tg q w) s0 j - 1 - k)) 14 (by omega) ⟨rfl, by omega⟩ ?_)
    rintro m v hm ⟨e1, e4⟩
    subst e1
    unfold zb_X11_deedAt_31
    rw [hfb m (by omega), pu_e1, pu_ld hlt (by omega), pu_e1, hm1]
    by_cases hcm : m = pm_wd1 q w s0 j (pm_de (pm_tg q w) s0 j - 1 - k)
    · have hb : pm_fb q w fr ((pm_F (pm_tg q w) s0).getD (pm_anc q w s0 j (pm_de (pm_tg q w) s0 j - k)) 0) m = pm_de (pm_tg q w) s0 j - k := by
        unfold pm_fb
        rw [hcm, if_pos w2, w3, hfr2, if_neg (by omega)]; omega
      rw [hb, if_pos rfl]
      refine pu_out (by decide) ?_
      dsimp only
      by_cases hki : k = i
      · rw [if_pos (by rw [hki])]
        refine pu_out (by decide) ?_
        dsimp only
        rw [if_pos rfl, pr_toldMove (by omega), pu_e1]
        refine pu_some.mpr ?_
        unfold pm_way
        rw [if_pos (by omega), hcm, hki]
      · rw [if_neg (fun z => hki ((pn_eq (by omega) (by omega)).mp z)), pv_mul 15, pn_add, pu_ld (by omega) (by omega), pu_e1, pn_a1, pu_e1, hls.2.2 _ (pm_getD_mem x1) m (by omega)]
        refine pu_go ⟨by omega, ?_, rfl, by omega⟩
        dsimp only
        unfold pr_v
        rw [hcm, if_pos w2, w3, show pm_de (pm_tg q w) s0 j - (k + 1) = pm_de (pm_tg q w) s0 j - 1 - k from by omega]
    · have hbl : pm_fb q w fr ((pm_F (pm_tg q w) s0).getD (pm_anc q w s0 j (pm_de (pm_tg q w) s0 j - k)) 0) m ≤ 268435456 := by
        unfold pm_fb
        split
        · rename_i c
          obtain ⟨y, y1, y2, _⟩ := pm_L_tgt (q := q) (w := w) hq h0 x1 (show m < 15 by omega) c
          have := (hf.1 _ (pm_getD_mem y1)).1
          rw [y2] at this
          split <;> omega
        · omega
      have hne : ¬ pm_fb q w fr ((pm_F (pm_tg q w) s0).getD (pm_anc q w s0 j (pm_de (pm_tg q w) s0 j - k)) 0) m = pm_de (pm_tg q w) s0 j - k := by
        intro z
        unfold pm_fb at z
        by_cases c : pm_wy q w ((pm_F (pm_tg q w) s0).getD (pm_anc q w s0 j (pm_de (pm_tg q w) s0 j - k)) 0) m = 0
        · rw [if_pos c] at z
          by_cases d : fr (pm_ac q w ((pm_F (pm_tg q w) s0).getD (pm_anc q w s0 j (pm_de (pm_tg q w) s0 j - k)) 0) m) = 268435456
          · rw [if_pos d] at z; omega
          · rw [if_neg d] at z
            have := pm_wd1_ref hq h0 hf j1 j2 j3 (t := pm_de (pm_tg q w) s0 j - 1 - k) (m := m) (by omega) (by omega) (by rw [← ht]; exact c) (by rw [← ht]; omega)
            omega
        · rw [if_neg c] at z; omega
      rw [if_neg (fun z => hne ((pn_eq (by omega) (by omega)).mp z)), pn_a1, pu_e1]
      exact pu_go ⟨by omega, rfl, by omega⟩
theorem pr_deedAt0 {n : Nat} {all th far : Nat → Int32} {fr : Nat → Nat} {G : Nat → Prop} {i : Int32} (hn : 10000 ≤ n) (ha : pr_all all q) (hq : pm_cliff q) (hs : pm_now q = s0) (h0 : pm_st q s0) (hf : pm_far q w (pm_F (pm_tg q w) s0) G fr) (hfar : ∀ s ∈ (pm_F (pm_tg q w) s0), far s = nI (fr s)) (hno : ∀ j, j < (pm_F (pm_tg q w) s0).length → ¬ G ((pm_F (pm_tg q w) s0).getD j 0)) :
    zf_X11_deedAt n all th far i = some (-1 : Int32) := by
  have hF0 := pm_F_0 (pm_tg q w) s0
  have h1 := pm_far_none hq h0 hf hno
  have h2 := hfar _ (pm_getD_mem hF0.2)
  rw [hF0.1, h1] at h2
  have hlt := pm_st_lt hq h0
  apply pu_ex
  unfold zf_X11_deedAt
  rw [pr_standNow ha, hs, pu_e1]
  refine pu_d4.mpr (pu_up (fun k v => v.1 = nI s0) 0 (by omega) rfl ?_)
  rintro k ⟨v2, v3, v4⟩ hk e1
  dsimp only at e1 ⊢
  subst e1
  unfold zb_X11_deedAt_7
  rw [pu_ld hlt (by omega), pu_e1, h2, if_neg (by decide), pu_e1, if_pos (by decide)]
  exact pu_out (by decide) (pu_some.mpr rfl)
end PH
