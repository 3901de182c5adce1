/-! rows of deeds counted: the reference, and rows on both sides -/
section PR1
variable {n : Nat} {q : Nat → Nat} {w s0 : Nat} {top things tf tt mf mt : Int32} {bars gives rough code told fa sk : Nat → Int32}
theorem pr_rowsIn {F : List Nat} {W : Nat → Bool} {cnt : Nat → Nat} {k : Nat} {th : Nat → Int32} {a23 a26 : Nat → Int64} (hn : 1000 ≤ n) (hF : pm_cl q w F) (hlt : ∀ t ∈ F, t < 2880) (hW : ∀ t, W t = true) (hk : k < F.length) (hth : ∀ s ∈ F, ∀ m, m < 15 → th (15 * s + m) = pr_v q w s m) (hc : a23 (F.getD k 0) = nL (cnt (F.getD k 0))) (hcb : cnt (F.getD k 0) < 1000000000000) (ha : ∀ t ∈ F, a26 t = nL (pm_Q q w F W cnt (15 * k) t)) :
    pu_ok (za_it (fun v => zb_X11_rows_129 a23 (nI (F.getD k 0)) th v.1 v.2) n ((0 : Int32), a26)) (fun r => ∀ t ∈ F, r.2.2 t = nL (pm_Q q w F W cnt (15 * (k + 1)) t)) := by
  have hmem := pm_getD_mem hk
  have hl := hlt _ hmem
  refine pu_up (fun m v => v.1 = nI m ∧ ∀ t ∈ F, v.2 t = nL (pm_Q q w F W cnt (15 * k + m) t)) 15 (by omega) ⟨rfl, ha⟩ ?_
  rintro m ⟨v28, a29⟩ hm ⟨e1, e2⟩
  dsimp only at e1 e2 ⊢
  subst e1
  unfold zb_X11_rows_129
  by_cases hcc : 15 ≤ m
  · have : m = 15 := by omega
    subst this
    rw [if_pos ((pv_le 15 (by omega) (by omega)).mpr hcc)]
    exact pu_out (by decide) e2
  rw [if_neg (fun z => hcc ((pv_le 15 (by omega) (by omega)).mp z)), pu_ld hl (by omega), pu_e1, hc]
  by_cases hz : cnt (F.getD k 0) = 0
  · rw [if_pos (by rw [lg_le, hz]; decide)]
    refine pu_out (by decide) ?_
    intro t ht
    dsimp only
    rw [e2 t ht, show 15 * (k + 1) = 15 * k + 15 from rfl, pm_Q_0 hz m (by omega), pm_Q_0 hz 15 (by omega)]
  have hth' := hth _ hmem m (by omega)
  rw [if_neg (fun z => by rw [lg_le, pl_toInt (by omega), show (0 : Int64).toInt = 0 from rfl] at z; omega), pv_mul 15, pn_add, pu_ld (by omega) (by omega), pu_e1, hth']
  unfold pr_v
  by_cases c : pm_wy q w (F.getD k 0) m = 0
  · have hin := hF.2 _ hmem m (by omega) c
    have hacl := hlt _ hin
    rw [if_pos c, if_neg (fun z => (pn_ne1 (by omega)).mp z), pu_e1, pu_ld hacl (by omega), pu_e1, pu_e1, pu_st hacl (by omega), pu_e1, pu_e1, pn_a1, pu_e1, e2 _ hin, pl_add]
    refine pu_go ⟨by omega, rfl, ?_⟩
    intro t ht
    dsimp only
    rw [pm_Q_s (by omega)]
    by_cases f : t = pm_ac q w (F.getD k 0) m
    · subst f; rw [pu_upe, if_pos ⟨c, rfl, hW _⟩]
    · rw [pu_upn f, if_neg (fun z => f z.2.1.symm), Nat.add_zero]
      exact e2 t ht
  · rw [if_neg c, if_pos (show pz_m1 = (-1 : Int32) from rfl), pu_e1, pn_a1, pu_e1]
    refine pu_go ⟨by omega, rfl, ?_⟩
    intro t ht
    dsimp only
    rw [pm_Q_s (by omega), if_neg (fun z => c z.1), Nat.add_zero]
    exact e2 t ht
theorem pr_rows {rk wds stand th known1 : Nat → Int32} {many : Int32} {b1 b2 : Nat → Int64} {r t N : Nat} (hn : 10000 ≤ n) (hq : pm_cliff q) (h0 : pm_st q s0) (hls : pr_ls q w (pm_F (pm_tg q w) s0) many stand th) (hr : r < 100) (ht : t < 64) (hN : N ≤ 10) :
    pu_ok (zd_4 (za_it (fun v => zb_X11_rows_46 many stand v.1 v.2.1 v.2.2) n ((0 : Int32), b1, b2)) (fun g21 v18 a19 a20 => zd_4 (za_it (fun v => zb_X11_rows_99 (nI N) many stand th n v.1 v.2.1 v.2.2) n ((0 : Int32), a19, a20)) (fun g63 v60 a61 a62 => zd_3 (za_it (fun v => zb_X11_rows_272 many stand (nI r) (nI t) a61 v.1 v.2) n ((0 : Int64), (0 : Int32))) (fun g75 v73 v74 => some (v73, (0 : Int32), many, rk, wds, stand, th, known1, a61, a62))))) (fun x => ∀ C : Nat → Bool, (∀ s, C s = true ↔ pm_G r t s) → x.1 = nL (pm_si (fun s => if C s = true then pm_fw q w (pm_F (pm_tg q w) s0) (fun _ _ => true) s0 N s else 0) (pm_F (pm_tg q w) s0) (pm_F (pm_tg q w) s0).length)) := by
  have hl := pm_L_len (w := w) hq h0
  have hnd := pm_L_nd (q := q) (w := w) (s0 := s0)
  have hcl := pm_L_cl (q := q) (w := w) hq h0
  have hF0 := pm_F_0 (pm_tg q w) s0
  have hs0 : s0 ∈ (pm_F (pm_tg q w) s0) := by have := pm_getD_mem hF0.2; rw [hF0.1] at this; exact this
  have hlt : ∀ t ∈ (pm_F (pm_tg q w) s0), t < 2880 := fun t ht => pm_st_lt hq (pm_B_P (P := pm_st q) h0 (pm_tg_st hq) pm_N _ ht)
  obtain ⟨rfl, hS, hth⟩ := hls
  have hidx : ∀ j, j < (pm_F (pm_tg q w) s0).length → ((pm_F (pm_tg q w) s0).getD j 0 = s0 ↔ j = 0) := by
    intro j hj
    constructor
    · intro z; exact pm_nd_inj hnd hj hF0.2 (by rw [z, hF0.1])
    · rintro rfl; exact hF0.1
  have hb := fun m t ht => pm_fw_le (q := q) (w := w) (W := fun _ _ => true) (s0 := s0) hcl hs0 m (t := t) ht
  generalize hFe : (pm_F (pm_tg q w) s0) = F at *
  refine pu_d4.mpr (pu_up (fun i v => v.1 = nI i ∧ (∀ j, j < i → v.2.1 (F.getD j 0) = nL (pm_fw q w F (fun _ _ => true) s0 0 (F.getD j 0)) ∧ v.2.2 (F.getD j 0) = nL 0)) F.length (by omega) ⟨rfl, fun j h => absurd h (by omega)⟩ ?_)
  rintro i ⟨v9, a10, a11⟩ hi ⟨e1, e2⟩
  dsimp only at e1 e2 ⊢
  subst e1
  unfold zb_X11_rows_46
  by_cases hcc : F.length ≤ i
  rotate_left
  · have hlti := hlt _ (pm_getD_mem (show i < F.length by omega))
    rw [if_neg (fun z => hcc ((pn_le (by omega) (by omega)).mp z)), pu_ld (by omega) (by omega), pu_e1, hS i (by omega)]
    refine pu_d1.mpr (pu_mono (P := fun v => v = nL (pm_fw q w F (fun _ _ => true) s0 0 (F.getD i 0))) ?_ ?_)
    · show pu_ok _ (fun v => v = nL (if F.getD i 0 = s0 then 1 else 0))
      by_cases f : i = 0
      · rw [if_pos (by rw [f]; rfl), if_pos ((hidx i (by omega)).mpr f)]; exact pu_some.mpr rfl
      · rw [if_neg (fun z => f ((pv_eq 0 (by omega) (by omega)).mp z)), if_neg (fun z => f ((hidx i (by omega)).mp z))]; exact pu_some.mpr rfl
    · rintro v rfl
      rw [pu_st hlti (by omega), pu_e1, pu_e1, pu_st hlti (by omega), pu_e1, pn_a1, pu_e1]
      refine pu_go ⟨by omega, rfl, ?_⟩
      intro j hj
      dsimp only
      by_cases f : j = i
      · subst f; rw [pu_upe, pu_upe]; exact ⟨rfl, rfl⟩
      · have hne : ¬ F.getD j 0 = F.getD i 0 := fun z => f (pm_nd_inj hnd (by omega) (by omega) z)
        rw [pu_upn hne, pu_upn hne]; exact e2 j (by omega)
  rw [if_pos ((pn_le (by omega) (by omega)).mpr hcc)]
  refine pu_out (by decide) ?_
  dsimp only
  refine pu_d4.mpr (pu_up (fun i v => v.1 = nI i ∧ (∀ t ∈ F, v.2.1 t = nL (pm_fw q w F (fun _ _ => true) s0 i t) ∧ v.2.2 t = nL 0)) N (by omega) ⟨rfl, ?_⟩ ?_)
  · intro t ht
    obtain ⟨j, j1, j2⟩ := pm_mem_get ht
    have := e2 j (by omega)
    rw [j2] at this
    exact this
  rintro x ⟨v22, a23, a24⟩ hx ⟨e1, e3⟩
  dsimp only at e1 e3 ⊢
  subst e1
  have h15 := pm_15 (show x ≤ 10 by omega)
  unfold zb_X11_rows_99
  by_cases hcx : N ≤ x
  · have : x = N := by omega
    subst this
    rw [if_pos ((pn_le (by omega) (by omega)).mpr hcx)]
    refine pu_out (by decide) ?_
    dsimp only
    refine pu_d3.mpr (pu_up (fun i v => v.2 = nI i ∧ ∀ C : Nat → Bool, (∀ s, C s = true ↔ pm_G r t s) → v.1 = nL (pm_si (fun s => if C s = true then pm_fw q w F (fun _ _ => true) s0 x s else 0) F i)) F.length (by omega) ⟨rfl, fun _ _ => rfl⟩ ?_)
    rintro i ⟨v64, v65⟩ hi ⟨e1, e4⟩
    dsimp only at e1 e4 ⊢
    subst e1
    unfold zb_X11_rows_272
    by_cases hci : F.length ≤ i
    · have : i = F.length := by omega
      subst this
      rw [if_pos ((pn_le (by omega) (by omega)).mpr hci)]
      exact pu_out (by decide) (pu_some.mpr e4)
    · have hlti := hlt _ (pm_getD_mem (show i < F.length by omega))
      rw [if_neg (fun z => hci ((pn_le (by omega) (by omega)).mp z)), pu_ld (by omega) (by omega), pu_e1, hS i (by omega)]
      refine pu_d1.mpr (pu_mono (pr_isGoal hlti hr ht) ?_)
      intro v hv
      refine pu_d1.mpr (pu_mono (P := fun v => ∀ C : Nat → Bool, (∀ s, C s = true ↔ pm_G r t s) → v = nL (if C (F.getD i 0) = true then pm_fw q w F (fun _ _ => true) s0 x (F.getD i 0) else 0)) ?_ ?_)
      · rcases hv with ⟨rfl, h⟩ | ⟨rfl, h⟩
        · rw [if_pos rfl]
          refine pu_some.mpr ?_
          intro C hC
          rw [if_neg (fun z => h ((hC _).mp z))]; rfl
        · rw [if_neg (by decide), pu_e1, pu_ld hlti (by omega), pu_e1, (e3 _ (pm_getD_mem (show i < F.length by omega))).1]
          refine pu_some.mpr ?_
          intro C hC
          rw [if_pos ((hC _).mpr h)]
      · intro v hv2
        rw [pu_e1, pn_a1, pu_e1]
        refine pu_go ⟨by omega, rfl, ?_⟩
        intro C hC
        dsimp only
        rw [e4 C hC, hv2 C hC, pl_add]; rfl
  rw [if_neg (fun z => hcx ((pn_le (by omega) (by omega)).mp z))]
  refine pu_d3.mpr (pu_mono (P := fun r => ∀ t ∈ F, r.2.2 t = nL (pm_fw q w F (fun _ _ => true) s0 (x + 1) t)) ?_ ?_)
  · refine pu_up (fun i v => v.1 = nI i ∧ ∀ t ∈ F, v.2 t = nL (pm_Q q w F (fun _ => true) (pm_fw q w F (fun _ _ => true) s0 x) (15 * i) t)) F.length (by omega) ⟨rfl, fun t ht => (e3 t ht).2⟩ ?_
    rintro i ⟨v25, a26⟩ hi ⟨e1, e4⟩
    dsimp only at e1 e4 ⊢
    subst e1
    unfold zb_X11_rows_108
    by_cases hci : F.length ≤ i
    · have : i = F.length := by omega
      subst this
      rw [if_pos ((pn_le (by omega) (by omega)).mpr hci)]
      exact pu_out (by decide) e4
    · have hm := pm_getD_mem (show i < F.length by omega)
      have hbi := hb x _ hm
      rw [if_neg (fun z => hci ((pn_le (by omega) (by omega)).mp z)), pu_ld (by omega) (by omega), pu_e1, hS i (by omega)]
      refine pu_d3.mpr (pu_mono (pr_rowsIn (W := fun _ => true) (cnt := pm_fw q w F (fun _ _ => true) s0 x) (by omega) hcl hlt (fun _ => rfl) (by omega) hth (e3 _ hm).1 (by omega) e4) ?_)
      rintro ⟨g1, g2, g3⟩ hg
      dsimp only at hg ⊢
      rw [pn_a1, pu_e1]
      exact pu_go ⟨by omega, rfl, hg⟩
  rintro ⟨g44, v42, a43⟩ hg
  dsimp only at hg ⊢
  refine pu_d4.mpr (pu_up (fun i v => v.1 = nI i ∧ (∀ j, j < F.length → (j < i → v.2.1 (F.getD j 0) = nL (pm_fw q w F (fun _ _ => true) s0 (x + 1) (F.getD j 0)) ∧ v.2.2 (F.getD j 0) = nL 0) ∧ (i ≤ j → v.2.2 (F.getD j 0) = nL (pm_fw q w F (fun _ _ => true) s0 (x + 1) (F.getD j 0))))) F.length (by omega) ⟨rfl, fun j hj => ⟨fun h => absurd h (by omega), fun _ => hg _ (pm_getD_mem hj)⟩⟩ ?_)
  rintro i ⟨v45, a46, a47⟩ hi ⟨e1, e4⟩
  dsimp only at e1 e4 ⊢
  subst e1
  unfold zb_X11_rows_208
  by_cases hci : F.length ≤ i
  · rw [if_pos ((pn_le (by omega) (by omega)).mpr hci)]
    refine pu_out (by decide) ?_
    dsimp only
    rw [pn_a1, pu_e1]
    refine pu_go ⟨by omega, rfl, ?_⟩
    intro t ht
    obtain ⟨j, j1, j2⟩ := pm_mem_get ht
    have := (e4 j j1).1 (by omega)
    rw [j2] at this
    exact this
  · have hlti := hlt _ (pm_getD_mem (show i < F.length by omega))
    rw [if_neg (fun z => hci ((pn_le (by omega) (by omega)).mp z)), pu_ld (by omega) (by omega), pu_e1, pu_e1, hS i (by omega), pu_ld hlti (by omega), pu_e1, pu_st hlti (by omega), pu_e1, pu_e1, pu_st hlti (by omega), pu_e1, pn_a1, pu_e1, (e4 i (by omega)).2 (Nat.le_refl _)]
    refine pu_go ⟨by omega, rfl, ?_⟩
    intro j hj
    dsimp only
    by_cases f : j = i
    · subst f; rw [pu_upe, pu_upe]; exact ⟨fun _ => ⟨rfl, rfl⟩, fun h => absurd h (by omega)⟩
    · have hne : ¬ F.getD j 0 = F.getD i 0 := fun z => f (pm_nd_inj hnd hj (by omega) z)
      rw [pu_upn hne, pu_upn hne]
      exact ⟨fun h => (e4 j hj).1 (by omega), fun h => (e4 j hj).2 (by omega)⟩
/-- what rows and seen leave behind -/
theorem pp_rows {all rk wds stand th known1 : Nat → Int32} {thrown many : Int32} {size known found : Int32} {deeds ends order depth from1 : Nat → Int32} {b1 b2 k1 k2 : Nat → Int64} {len : Int32} {wanted lv : Nat → Int32} {A1 A2 : Nat} {p1 p2 p3 : Int32} (hn : 10000 ≤ n) (ha : pr_all all q) (hq : pm_cliff q) (hw : q 40 = w) (hw9 : w ≤ 9) (hs : pm_now q = s0) (h0 : pm_st q s0) (hK : pc_K q top things tf tt mf mt bars gives rough code) (hT : pc_told q w told) (hC : pc_com q w s0 size known order depth from1) :
    ∃ v, pu_ok (zf_X10_rows n top things tf tt mf mt bars gives rough code (nI s0) (nI w) told fa sk found deeds ends size known order depth from1 len wanted A1 k1 A2 k2 lv p1 p2 p3) (fun r => r.1 = v ∧ pc_told q w r.2.1 ∧ pc_com q w s0 r.2.2.2.2.2.2.2.1 r.2.2.2.2.2.2.2.2.1 r.2.2.2.2.2.2.2.2.2.1 r.2.2.2.2.2.2.2.2.2.2.1 r.2.2.2.2.2.2.2.2.2.2.2.1 ∧ (r.2.2.2.2.2.2.2.2.2.2.2.2.2.2.1 = A1 ∧ r.2.2.2.2.2.2.2.2.2.2.2.2.2.2.2.2.1 = A2 ∨ r.2.2.2.2.2.2.2.2.2.2.2.2.2.2.1 = A2 ∧ r.2.2.2.2.2.2.2.2.2.2.2.2.2.2.2.2.1 = A1)) ∧ pu_ok (zf_X11_rows n thrown many all rk wds stand th known1 b1 b2 p1 p2 p3) (fun r => r.1 = v) := by
  have hp := pm_p6 hq.2.1
  have hq1 := hq.1
  obtain ⟨c, c1, c2, c3⟩ := pp_coming ha hq p1 p2
  unfold zf_X10_rows zf_X11_rows
  rw [c2, pu_e1, hK.1, hK.2.1, c1, pu_e1, ← hK.1, ← hK.2.1]
  rcases c3 with c3 | ⟨rfl, r, t, rfl, hr, rfl, ht⟩
  · refine ⟨Int32.toInt64 c, ?_, ?_⟩
    · rw [if_neg c3]
      exact pu_some.mpr ⟨rfl, hT, hC, Or.inl ⟨rfl, rfl⟩⟩
    · rw [if_neg c3]
      exact pu_some.mpr rfl
  rw [pr_within, Int32.toInt_toInt64, show (0 : Int64).toInt = 0 from rfl, show (10 : Int64).toInt = 10 from rfl]
  by_cases d1 : 0 ≤ p3.toInt
  rotate_left
  · refine ⟨(-3 : Int64), ?_, ?_⟩
    · rw [if_pos rfl, if_pos (pn_neg d1)]
      exact pu_some.mpr ⟨rfl, hT, hC, Or.inl ⟨rfl, rfl⟩⟩
    · rw [if_pos rfl, if_neg (show ¬ (0 ≤ p3.toInt ∧ p3.toInt ≤ 10) by omega), pu_e1, if_pos (show (0 : Int32) = 0 from rfl)]
      exact pu_some.mpr rfl
  obtain ⟨N, rfl, hN, e⟩ := pn_of d1
  rw [pn_toInt hN]
  by_cases d2 : N ≤ 10
  rotate_left
  · refine ⟨(-3 : Int64), ?_, ?_⟩
    · rw [if_pos rfl, if_neg (pn_nn hN), if_neg (fun z => d2 ((pv_ge 10 (by omega) hN).mp z))]
      exact pu_some.mpr ⟨rfl, hT, hC, Or.inl ⟨rfl, rfl⟩⟩
    · rw [if_pos rfl, if_neg (show ¬ (0 ≤ (N : Int) ∧ (N : Int) ≤ 10) by omega), pu_e1, if_pos (show (0 : Int32) = 0 from rfl)]
      exact pu_some.mpr rfl
  obtain ⟨⟨⟨x1, x2, x3, x4, x5, x6⟩, hx, hls⟩, ⟨y1, y2, y3, y4, y5, y6, y7, y8, y9, y10, y11⟩, hy, hX, hC', hy2⟩ := pp_two (n := n) (rk := rk) (wds := wds) (stand := stand) (th := th) (known1 := known1) (many := many) (found := found) (fa := fa) (sk := sk) (deeds := deeds) (ends := ends) hn ha hq hw hw9 hs h0 hK hT hC
  dsimp only at hls hX hC' hy2
  have hdec : ∃ C : Nat → Bool, ∀ s, C s = true ↔ pm_G r t s := ⟨fun s => decide (pm_rg s = r ∧ pm_hs s &&& t = t), fun s => by rw [decide_eq_true_eq]; rfl⟩
  obtain ⟨C, hCd⟩ := hdec
  refine ⟨nL (pm_si (fun s => if C s = true then pm_fw q w (pm_F (pm_tg q w) s0) (fun _ _ => true) s0 N s else 0) (pm_F (pm_tg q w) s0) (pm_F (pm_tg q w) s0).length), ?_, ?_⟩
  · rw [if_pos rfl, if_neg (pn_nn hN), if_pos ((pv_ge 10 (by omega) hN).mpr d2), hy, pu_e11]
    unfold zf_X6_wantNothing
    rw [if_neg (show ¬ (10 : Int32) < nI N from fun z => by have := (pv_lt 10 (by omega) hN).mp z; omega), pu_e1]
    refine pu_d2.mpr (pu_d1.mpr (pu_mono (pc_fill (by omega) (by omega)) ?_))
    intro wa hwa
    refine pu_some.mpr ?_
    dsimp only
    have hW : pc_W (fun _ _ => true) wa N := fun i t hi => ⟨fun _ => Or.inl (hwa i (by omega)), fun _ => rfl⟩
    refine pu_d11.mpr (pu_mono (pc_tally hn hq hK hy2 hw9 h0 hX hW d2) ?_)
    rintro ⟨v15, a16, a17, a18, a19, a20, v21, a22, v23, a24, a25⟩ ⟨g1, g2, g3⟩
    dsimp only at g1 g2 g3 ⊢
    rw [pc_ending (C := C) hn hq h0 hX d2 g1 (Or.inr ⟨rfl, rfl, by omega, by omega, hCd⟩), pu_e1]
    exact pu_some.mpr ⟨rfl, g2, hC', g3⟩
  · rw [if_pos rfl, if_pos (show 0 ≤ (N : Int) ∧ (N : Int) ≤ 10 by omega), pu_e1, if_neg (show ¬ (1 : Int32) = 0 by decide), hx, pu_e6]
    refine pu_mono (pr_rows hn hq h0 hls (by omega) (by omega) d2) ?_
    intro z hz
    exact hz C hCd
end PR1
