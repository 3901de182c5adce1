/-! how likely: the class's reckoning, chance and best on both sides -/
section PCk
variable {n : Nat} {q : Nat → Nat} {w s0 : Nat} {top things tf tt mf mt : Int32} {bars gives rough code told fa sk : Nat → Int32}
def pm_FD (q : Nat → Nat) (w r s m : Nat) (fd : Int32) : Prop := (fd = (-1 : Int32) ∧ (pm_rg s = r ∨ pm_vm q w (pm_V q w r m) s 15 = 0)) ∨ (∃ x, fd = nI (pm_dd x) ∧ ¬ pm_rg s = r ∧ pm_bf q w (pm_V q w r m) s 15 x)
theorem pc_likeliest {r m N i : Nat} {C : List Nat} {d : Nat → Nat} {found fd slips : Int32} {deeds ends : Nat → Int32} {k1 : Nat → Int64} (hn : 1000 ≤ n) (hq : pm_cliff q) (hK : pc_K q top things tf tt mf mt bars gives rough code) (hT : pc_told q w told) (hw : w ≤ 9) (hr : r < 100) (hsl : slips = nI (q 3)) (hN : N ≤ 8) (hCst : ∀ t ∈ C, pm_st q t) (hi : i < C.length) (hdi : d (C.getD i 0) + (m + 1) ≤ N) (hcl : pm_clo q w r N C d i) (hk1 : ∀ t ∈ C, d t + m ≤ N → k1 t = nL (pm_V q w r m t)) :
    pu_ok (zf_X8_likeliest n (nI r) (nL (10 ^ (m + 1))) fd top things slips tf tt mf mt bars gives rough code found (nI w) told fa sk deeds ends k1 (nI (C.getD i 0))) (fun y => y.1 = nL (pm_V q w r (m + 1) (C.getD i 0)) ∧ pm_FD q w r (C.getD i 0) m y.2.1 ∧ pc_told q w y.2.2.2.1) := by
  have hst := hCst _ (pm_getD_mem hi)
  have hlt := pm_st_lt hq hst
  have hrg : pm_rg (C.getD i 0) < 9 := by unfold pm_rg; omega
  have h3 := hq.2.2.1
  have hVl := fun l s => pm_V_le (w := w) (r := r) h3 l s
  have h10 := pm_10 (show m ≤ 8 by omega)
  unfold zf_X8_likeliest
  rw [pc_rungOf hlt, pu_e1]
  by_cases f : pm_rg (C.getD i 0) = r
  · rw [if_pos (by rw [f])]
    refine pu_some.mpr ⟨?_, Or.inl ⟨rfl, Or.inl f⟩, hT⟩
    rw [show pm_V q w r (m + 1) (C.getD i 0) = 10 ^ (m + 1) from if_pos f]
  rw [if_neg (fun z => f ((pn_eq (by omega) (by omega)).mp z))]
  have hVe : pm_V q w r (m + 1) (C.getD i 0) = pm_vm q w (pm_V q w r m) (C.getD i 0) 15 := if_neg f
  rw [hVe]
  have hclo := hcl (by omega) f
  refine pu_d7.mpr (pu_mono (pc_gather hn hq hK hT hst hw) ?_)
  rintro ⟨v2, v3, a4, a5, a6, a7, a8⟩ ⟨e1, e2, e3, e4⟩
  dsimp only at e1 e2 e3 e4 ⊢
  subst e1
  have hl9 := pm_l9 (q := q) (w := w) (s := C.getD i 0)
  have hb := fun k => pm_vm_le (w := w) (s := C.getD i 0) h3 (hVl m) k
  generalize hse : C.getD i 0 = s at *
  refine pu_d4.mpr (pu_gl (q := q) (w := w) (s := s) (fun k mv v => v.2.1 = nI k ∧ v.1 = nL (pm_vm q w (pm_V q w r m) s mv) ∧ ((v.2.2 = (-1 : Int32) ∧ pm_vm q w (pm_V q w r m) s mv = 0) ∨ ∃ x, v.2.2 = nI (pm_dd x) ∧ pm_bf q w (pm_V q w r m) s mv x)) (by omega) ⟨rfl, rfl, Or.inl ⟨rfl, rfl⟩⟩ ?_ ?_ ?_)
  · rintro k mv ⟨x1, x2, x3⟩ hmv hcm ⟨h1, h2, h4⟩
    have e : pm_vm q w (pm_V q w r m) s (mv + 1) = pm_vm q w (pm_V q w r m) s mv := by
      show max (pm_vm q w (pm_V q w r m) s mv) (if pm_wy q w s mv = 0 then pm_vl q w (pm_V q w r m) s mv else 0) = _
      rw [if_neg hcm, Nat.max_eq_left (Nat.zero_le _)]
    refine ⟨h1, by rw [e]; exact h2, ?_⟩
    rcases h4 with ⟨g1, g2⟩ | ⟨x, g1, g2, g3, g4, g5, g6⟩
    · exact Or.inl ⟨g1, by rw [e]; exact g2⟩
    · exact Or.inr ⟨x, g1, by omega, g3, by rw [e]; exact g4, by rw [e]; exact g5, fun y hy hc => by rw [e]; exact g6 y hy hc⟩
  · rintro ⟨x1, x2, x3⟩ ⟨h1, h2, h4⟩
    dsimp only at h1 h2 h4 ⊢
    subst h1
    unfold zb_X8_likeliest_36
    rw [if_pos ((pn_le (by omega) (by omega)).mpr (Nat.le_refl _))]
    refine pu_some.mpr ⟨Nat.one_ne_zero, pu_some.mpr ⟨h2, ?_, e3⟩⟩
    rcases h4 with ⟨g1, g2⟩ | ⟨x, g1, g2⟩
    · exact Or.inl ⟨g1, Or.inr g2⟩
    · exact Or.inr ⟨x, g1, f, g2⟩
  · rintro k mv ⟨x1, x2, x3⟩ hk hmv hcm hg ⟨h1, h2, h4⟩
    dsimp only at h1 h2 h4 ⊢
    subst h1 h2
    have hac := pm_acst hq hst hmv hcm
    have haclt := pm_st_lt hq hac
    obtain ⟨c1, c2⟩ := hclo mv hmv hcm
    have hka := hk1 _ c1.1 (by have := c1.2; omega)
    unfold zb_X8_likeliest_36
    rw [if_neg (fun z => by have := (pn_le (by omega) (by omega)).mp z; omega), pu_ld (by omega) (by omega), pu_e1, (e4 k hk).2, hg, pu_ld haclt (by omega), pu_e1, hka, pu_e1, pu_ld (by omega) (by omega), pu_e1, (e4 k hk).1, hg]
    refine pu_d1.mpr (pu_mono (P := fun v => v = nL (pm_vl q w (pm_V q w r m) s mv)) ?_ ?_)
    · by_cases m1 : mv = 1
      · subst m1
        obtain ⟨s1, s2⟩ := pc_slipped hq hst hcm
        have hsl2 := pm_st_lt hq s2
        have c2' := c2 rfl
        have hkb := hk1 _ c2'.1 (by have := c2'.2; omega)
        rw [if_pos ((pm_dd1 (by omega)).mpr rfl), s1, pu_e1, pu_ld hsl2 (by omega), pu_e1, pu_e1, hkb, hsl, show (10 : Int32) = nI 10 from rfl, pn_sub h3, pl_of (by omega), pl_of (by omega), pl_mul, pl_mul, pl_add, pu_e1]
        refine pu_some.mpr ?_
        unfold pm_vl
        rw [if_pos rfl, Nat.add_comm]
      · rw [if_neg (fun z => m1 ((pm_dd1 hmv).mp z)), show (10 : Int64) = nL 10 from rfl, pl_mul]
        refine pu_some.mpr ?_
        unfold pm_vl
        rw [if_neg m1]
    rintro v20 rfl
    have hvl := pm_vl_le (w := w) (s := s) (m := mv) h3 (hVl m)
    have hvm := hb mv
    have hstep : pm_vm q w (pm_V q w r m) s (mv + 1) = max (pm_vm q w (pm_V q w r m) s mv) (pm_vl q w (pm_V q w r m) s mv) := by
      show max (pm_vm q w (pm_V q w r m) s mv) (if pm_wy q w s mv = 0 then pm_vl q w (pm_V q w r m) s mv else 0) = _
      rw [if_pos hcm]
    by_cases g : pm_vl q w (pm_V q w r m) s mv ≤ pm_vm q w (pm_V q w r m) s mv
    · rw [Nat.max_eq_left g] at hstep
      rw [if_pos (by rw [lg_le, pl_toInt (by omega), pl_toInt (by omega)]; omega), pu_e2, pn_a1, pu_e1]
      refine pu_go ⟨rfl, by dsimp only; rw [hstep], ?_⟩
      dsimp only
      rcases h4 with ⟨g1, g2⟩ | ⟨x, g1, g2, g3, g4, g5, g6⟩
      · exact Or.inl ⟨g1, by rw [hstep]; exact g2⟩
      · exact Or.inr ⟨x, g1, by omega, g3, by rw [hstep]; exact g4, by rw [hstep]; exact g5, fun y hy hc => by rw [hstep]; exact g6 y hy hc⟩
    · rw [Nat.max_eq_right (by omega)] at hstep
      rw [if_neg (by rw [lg_le, pl_toInt (by omega), pl_toInt (by omega)]; omega), pu_e1, pu_e2, pn_a1, pu_e1]
      refine pu_go ⟨rfl, by dsimp only; rw [hstep], Or.inr ⟨mv, rfl, by omega, hcm, hstep.symm, by omega, ?_⟩⟩
      intro y hy hc
      have := pm_vm_ge (q := q) (w := w) (s := s) (V := pm_V q w r m) hy hc
      omega
theorem pc_reckonWithin {r m N A1 A2 : Nat} {C : List Nat} {d : Nat → Nat} {size found fd slips : Int32} {deeds ends order depth : Nat → Int32} {k1 k2 kk : Nat → Int64} (hn : 10000 ≤ n) (hq : pm_cliff q) (hK : pc_K q top things tf tt mf mt bars gives rough code) (hT : pc_told q w told) (hw : w ≤ 9) (hr : r < 100) (hsl : slips = nI (q 3)) (hN : N ≤ 8) (hm : m < N) (hB : pc_SB q w s0 r C d C.length size order depth kk) (hcl : ∀ j, j < C.length → pm_clo q w r N C d j) (hk1 : ∀ t ∈ C, d t + m ≤ N → k1 t = nL (pm_V q w r m t)) :
    pu_ok (zf_X8_reckonWithin n size (nI r) (nL (10 ^ (m + 1))) fd top things slips tf tt mf mt bars gives rough code found (nI w) told fa sk deeds ends order depth A1 k1 A2 k2 (nI (N - (m + 1)))) (fun y => (N = m + 1 → pm_FD q w r s0 m y.1) ∧ pc_told q w y.2.2.1 ∧ y.2.2.2.2.2.2.2.1 = A2 ∧ y.2.2.2.2.2.2.2.2.2.1 = A1 ∧ ∀ t ∈ C, d t + (m + 1) ≤ N → y.2.2.2.2.2.2.2.2.1 t = nL (pm_V q w r (m + 1) t)) := by
  obtain ⟨b1, b2, b3, b4, b5, b6, b7, b8, b9, b10, b11, b12, b13⟩ := id hB
  have hlen : C.length ≤ 2880 := pm_pig b2 (fun y hy => pm_st_lt hq (b3 y hy))
  unfold zf_X8_reckonWithin
  rw [b1]
  refine pu_d10.mpr (pu_up (fun i v => v.1 = nI i ∧ pc_told q w v.2.2.2.1 ∧ (i = 1 → pm_FD q w r s0 m v.2.1) ∧ (∀ j, j < i → d (C.getD j 0) + (m + 1) ≤ N ∧ v.2.2.2.2.2.2.2.2 (C.getD j 0) = nL (pm_V q w r (m + 1) (C.getD j 0)))) C.length (by omega) ⟨rfl, hT, fun z => absurd z (by omega), fun j h => absurd h (by omega)⟩ ?_)
  rintro i ⟨v1, v2, v3, a4, a5, a6, a7, a8, a9⟩ hi ⟨e1, hT2, hfd, e2⟩
  dsimp only at e1 hT2 hfd e2 ⊢
  subst e1
  unfold zb_X8_reckonWithin_2
  have hsm : i ≤ 1 ∨ ¬ N = m + 1 := by
    by_cases z : N = m + 1
    · left
      rcases Nat.lt_or_ge 1 i with y | y
      · have h1 := (e2 1 y).1
        have h2 := b11 1 (by omega) (by omega)
        omega
      · exact y
    · exact Or.inr z
  have hfin : (∀ j, i ≤ j → j < C.length → N - (m + 1) < d (C.getD j 0)) → ∀ t ∈ C, d t + (m + 1) ≤ N → a9 t = nL (pm_V q w r (m + 1) t) := by
    intro hfar t ht hdt
    obtain ⟨j, j1, j2⟩ := pm_mem_get ht
    rcases Nat.lt_or_ge j i with z | z
    · have := (e2 j z).2
      rw [j2] at this
      exact this
    · have := hfar j z j1
      rw [j2] at this
      omega
  by_cases hc : C.length ≤ i
  · rw [if_pos ((pn_le (by omega) (by omega)).mpr hc)]
    refine pu_out (by decide) (pu_some.mpr ⟨fun z => hfd (by rcases hsm with h | h; omega; exact absurd z h), hT2, rfl, rfl, hfin (fun j h1 h2 => absurd h2 (by omega))⟩)
  have hi' : i < C.length := by omega
  have hmem := pm_getD_mem hi'
  have hst := b3 _ hmem
  have hlti := pm_st_lt hq hst
  have hd3 := b13 _ hmem
  rw [if_neg (fun z => hc ((pn_le (by omega) (by omega)).mp z)), pu_ld (by omega) (by omega), pu_e1, b6 i hi', pu_ld hlti (by omega), pu_e1, (b7 _ hmem).1]
  by_cases f : N - (m + 1) < d (C.getD i 0)
  · rw [if_pos ((pn_lt (by omega) (by omega)).mpr f)]
    have hi1 : N = m + 1 → i = 1 := by
      intro z
      rcases hsm with h | h
      · rcases Nat.eq_zero_or_pos i with y | y
        · rw [y, b4, b10] at f; omega
        · omega
      · exact absurd z h
    refine pu_out (by decide) (pu_some.mpr ⟨fun z => hfd (hi1 z), hT2, rfl, rfl, hfin (fun j h1 h2 => ?_)⟩)
    have := b9 i j h1 h2
    omega
  rw [if_neg (fun z => f ((pn_lt (by omega) (by omega)).mp z)), pu_e1, pu_e1]
  refine pu_d8.mpr (pu_mono (pc_likeliest (by omega) hq hK hT2 hw hr hsl hN b3 hi' (by omega) (hcl i hi') hk1) ?_)
  rintro ⟨v14, v15, v16, a17, a18, a19, a20, a21⟩ ⟨g1, g2, g3⟩
  dsimp only at g1 g2 g3 ⊢
  subst g1
  rw [pu_st hlti (by omega), pu_e1, pn_a1, pu_e1]
  refine pu_go ⟨by omega, rfl, g3, ?_, ?_⟩
  · intro z
    have : i = 0 := by omega
    subst this
    rw [b4] at g2
    exact g2
  · intro j hj
    dsimp only
    by_cases g : j = i
    · subst g; rw [pu_upe]; exact ⟨by omega, rfl⟩
    · rw [pu_upn (fun z => g (pm_nd_inj b2 (by omega) hi' z))]
      exact e2 j (by omega)
theorem pc_slReckon {r N A1 A2 : Nat} {size rung0 found fd slips : Int32} {whole res : Int64} {deeds ends order depth : Nat → Int32} {k1 k2 : Nat → Int64} (hn : 10000 ≤ n) (hq : pm_cliff q) (hK : pc_K q top things tf tt mf mt bars gives rough code) (hT : pc_told q w told) (hw : w ≤ 9) (h0 : pm_st q s0) (hr : r < 100) (hsl : slips = nI (q 3)) (hN : N ≤ 8) :
    pu_ok (zf_X8_reckon n size rung0 whole res fd top things slips tf tt mf mt bars gives rough code found (nI w) told fa sk deeds ends order depth A1 k1 A2 k2 (nI s0) (nI r) (nI N)) (fun y => y.2.2.1 = nL (10 ^ N) ∧ y.2.2.2.1 = nL (pm_V q w r N s0) ∧ (N = 0 → y.2.2.2.2.1 = (-1 : Int32)) ∧ (∀ m, N = m + 1 → pm_FD q w r s0 m y.2.2.2.2.1) ∧ pc_told q w y.2.2.2.2.2.2.1 ∧ (y.2.2.2.2.2.2.2.2.2.2.2.2.2.1 = A1 ∧ y.2.2.2.2.2.2.2.2.2.2.2.2.2.2.2.1 = A2 ∨ y.2.2.2.2.2.2.2.2.2.2.2.2.2.1 = A2 ∧ y.2.2.2.2.2.2.2.2.2.2.2.2.2.2.2.1 = A1)) := by
  have hlt := pm_st_lt hq h0
  unfold zf_X8_reckon
  refine pu_d11.mpr (pu_mono (pc_slExplore hn hq hK hT hw h0 hr hN) ?_)
  rintro ⟨v1, v2, v3, a4, a5, a6, a7, a8, a9, a10, a11⟩ ⟨hT2, hv2, C, d, hB, hcl⟩
  dsimp only at hT2 hv2 hB ⊢
  have hs0 : s0 ∈ C := by have := pm_getD_mem hB.2.2.2.2.1; rw [hB.2.2.2.1] at this; exact this
  have hd0 := hB.2.2.2.2.2.2.2.2.2.1
  refine pu_d14.mpr (pu_up (fun m v => v.2.2.1 = nI (m + 1) ∧ v.2.2.2.1 = nL (10 ^ m) ∧ (m = 0 → v.2.2.2.2.1 = (-1 : Int32)) ∧ (∀ m', m = m' + 1 → m = N → pm_FD q w r s0 m' v.2.2.2.2.1) ∧ pc_told q w v.2.2.2.2.2.2.1 ∧ (v.1 = A1 ∧ v.2.1 = A2 ∨ v.1 = A2 ∧ v.2.1 = A1) ∧ (∀ t ∈ C, d t + m ≤ N → v.2.2.2.2.2.2.2.2.2.2.2.1 t = nL (pm_V q w r m t))) N (by omega) ⟨rfl, rfl, fun _ => hv2, fun m' z => absurd z (by omega), hT2, Or.inl ⟨rfl, rfl⟩, fun t ht _ => (hB.2.2.2.2.2.2.1 t ht).2⟩ ?_)
  rintro m ⟨v12, v13, v14, v15, v16, v17, a18, a19, a20, a21, a22, a23, a24⟩ hm ⟨e1, e2, e3, e4, hT3, hA, hk⟩
  dsimp only at e1 e2 e3 e4 hT3 hA hk ⊢
  subst e1 e2
  unfold zb_X8_reckon_19
  by_cases hc : m = N
  · subst hc
    rw [if_pos ((pn_lt (by omega) (by omega)).mpr (by omega))]
    refine pu_out (by decide) ?_
    dsimp only
    rw [pu_ld hlt (by omega), pu_e1]
    refine pu_some.mpr ⟨rfl, hk s0 hs0 (by omega), e3, fun m' z => e4 m' z rfl, hT3, hA⟩
  rw [if_neg (fun z => by have := (pn_lt (by omega) (by omega)).mp z; omega), show (10 : Int64) = nL 10 from rfl, pl_mul, pu_e1, pn_sub (by omega), show 10 ^ m * 10 = 10 ^ (m + 1) from (Nat.pow_succ 10 m).symm]
  refine pu_d11.mpr (pu_mono (pc_reckonWithin hn hq hK hT3 hw hr hsl hN (by omega) hB hcl hk) ?_)
  rintro ⟨v26, v27, a28, a29, a30, a31, a32, v33, a34, v35, a36⟩ ⟨g1, g2, g3, g4, g5⟩
  dsimp only at g1 g2 g3 g4 g5 ⊢
  rw [pn_a1, pu_e1]
  refine pu_go ⟨by omega, rfl, rfl, fun z => absurd z (by omega), ?_, g2, ?_, g5⟩
  · intro m' z1 z2
    have : m' = m := by omega
    subst this
    exact g1 z2.symm
  · dsimp only
    subst g3 g4
    rcases hA with ⟨z1, z2⟩ | ⟨z1, z2⟩
    · exact Or.inr ⟨z2, z1⟩
    · exact Or.inl ⟨z2, z1⟩
theorem pn_div3 {a b : Nat} (ha : a ≤ 100000000) (hb : b ≤ 100000000) : Int64.toInt32 (nL a / nL b) = nI a / nI b := by
  have hd : nL a / nL b = nL (a / b) := (Int64.ofNat_div (by omega) (by omega)).symm
  have h1 : a / b ≤ a := Nat.div_le_self a b
  rw [hd, pn_div (by omega) (by omega)]
  have e : Int64.toInt32 (nL (a / b)) = Int32.ofInt (nL (a / b)).toInt := (Int32.ofInt_int64ToInt _).symm
  rw [e, pl_toInt (by omega), ← pi_nI]
theorem pp_chance {all rk wds stand th known1 : Nat → Int32} {thrown many : Int32} {lk lv dep deeds ends : Nat → Int32} {found ssize srung sfd slips : Int32} {whole res : Int64} {k1 k2 : Nat → Int64} {A1 A2 : Nat} {p1 p2 p3 : Int32} (hn : 10000 ≤ n) (ha : pr_all all q) (hq : pm_cliff q) (hw : q 40 = w) (hw9 : w ≤ 9) (hs : pm_now q = s0) (h0 : pm_st q s0) (hK : pc_K q top things tf tt mf mt bars gives rough code) (hT : pc_told q w told) (hsl : slips = nI (q 3)) :
    ∃ v, pu_ok (zf_X10_chance n top things slips tf tt mf mt bars gives rough code (nI s0) (nI w) told fa sk found deeds ends lv ssize srung whole res sfd dep A1 k1 A2 k2 p1 p2 p3) (fun y => y.1 = v ∧ pc_told q w y.2.1 ∧ (y.2.2.2.2.2.2.2.2.2.2.2.2.2.2.1 = A1 ∧ y.2.2.2.2.2.2.2.2.2.2.2.2.2.2.2.2.1 = A2 ∨ y.2.2.2.2.2.2.2.2.2.2.2.2.2.2.1 = A2 ∧ y.2.2.2.2.2.2.2.2.2.2.2.2.2.2.2.2.1 = A1)) ∧ pu_ok (zf_X11_chance n thrown many all rk wds stand th known1 lk p1 p2 p3) (fun y => y.1 = v) := by
  have hq1 := hq.1
  have h3 := hq.2.2.1
  obtain ⟨c, c1, c2, c3⟩ := pp_rung ha hq p1
  unfold zf_X10_chance zf_X11_chance
  rw [c2, pu_e1, hK.1, c1, pu_e1, ← hK.1, pr_within, pr_within, Int32.toInt_toInt64, Int32.toInt_toInt64, show (0 : Int64).toInt = 0 from rfl, show (1 : Int64).toInt = 1 from rfl, show (8 : Int64).toInt = 8 from rfl]
  rcases c3 with rfl | ⟨rfl, r, rfl, hr⟩
  · refine ⟨(-2 : Int32), ?_, ?_⟩
    · rw [if_pos rfl]; exact pu_some.mpr ⟨rfl, hT, Or.inl ⟨rfl, rfl⟩⟩
    · rw [if_pos rfl]; exact pu_some.mpr rfl
  by_cases d1 : 0 ≤ p3.toInt
  rotate_left
  · refine ⟨(-2 : Int32), ?_, ?_⟩
    · rw [if_neg (show ¬ (1 : Int32) = 0 by decide), if_pos (pn_neg d1)]; exact pu_some.mpr ⟨rfl, hT, Or.inl ⟨rfl, rfl⟩⟩
    · rw [if_neg (show ¬ (1 : Int32) = 0 by decide), if_neg (show ¬ (0 ≤ p3.toInt ∧ p3.toInt ≤ 1) by omega), pu_e1, if_pos (show (0 : Int32) = 0 from rfl)]; exact pu_some.mpr rfl
  obtain ⟨k, rfl, hk, _⟩ := pn_of d1
  rw [pn_toInt hk]
  by_cases d2 : k ≤ 1
  rotate_left
  · refine ⟨(-2 : Int32), ?_, ?_⟩
    · rw [if_neg (show ¬ (1 : Int32) = 0 by decide), if_neg (pn_nn hk), if_neg (fun z => d2 ((pv_ge 1 (by omega) hk).mp z))]; exact pu_some.mpr ⟨rfl, hT, Or.inl ⟨rfl, rfl⟩⟩
    · rw [if_neg (show ¬ (1 : Int32) = 0 by decide), if_neg (show ¬ (0 ≤ (k : Int) ∧ (k : Int) ≤ 1) by omega), pu_e1, if_pos (show (0 : Int32) = 0 from rfl)]; exact pu_some.mpr rfl
  by_cases d3 : 0 ≤ p2.toInt
  rotate_left
  · refine ⟨(-3 : Int32), ?_, ?_⟩
    · rw [if_neg (show ¬ (1 : Int32) = 0 by decide), if_neg (pn_nn hk), if_pos ((pv_ge 1 (by omega) hk).mpr d2), if_pos (pn_neg d3)]; exact pu_some.mpr ⟨rfl, hT, Or.inl ⟨rfl, rfl⟩⟩
    · rw [if_neg (show ¬ (1 : Int32) = 0 by decide), if_pos (show 0 ≤ (k : Int) ∧ (k : Int) ≤ 1 by omega), pu_e1, if_neg (show ¬ (1 : Int32) = 0 by decide), if_neg (show ¬ (0 ≤ p2.toInt ∧ p2.toInt ≤ 8) by omega), pu_e1, if_pos (show (0 : Int32) = 0 from rfl)]; exact pu_some.mpr rfl
  obtain ⟨N, rfl, hN, _⟩ := pn_of d3
  rw [pn_toInt hN]
  by_cases d4 : N ≤ 8
  rotate_left
  · refine ⟨(-3 : Int32), ?_, ?_⟩
    · rw [if_neg (show ¬ (1 : Int32) = 0 by decide), if_neg (pn_nn hk), if_pos ((pv_ge 1 (by omega) hk).mpr d2), if_neg (pn_nn hN), if_neg (fun z => d4 ((pv_ge 8 (by omega) hN).mp z))]; exact pu_some.mpr ⟨rfl, hT, Or.inl ⟨rfl, rfl⟩⟩
    · rw [if_neg (show ¬ (1 : Int32) = 0 by decide), if_pos (show 0 ≤ (k : Int) ∧ (k : Int) ≤ 1 by omega), pu_e1, if_neg (show ¬ (1 : Int32) = 0 by decide), if_neg (show ¬ (0 ≤ (N : Int) ∧ (N : Int) ≤ 8) by omega), pu_e1, if_pos (show (0 : Int32) = 0 from rfl)]; exact pu_some.mpr rfl
  have hV := pm_V_le (w := w) (r := r) h3 N s0
  have h10 := pm_10 d4
  have h1p : 1 ≤ 10 ^ N := Nat.one_le_pow _ _ (by omega)
  have hgle : Nat.gcd (pm_V q w r N s0) (10 ^ N) ≤ 10 ^ N := Nat.gcd_le_right _ (by omega)
  have hgpos : 0 < Nat.gcd (pm_V q w r N s0) (10 ^ N) := Nat.gcd_pos_of_pos_right _ (by omega)
  refine ⟨(if k = 0 then nI (pm_V q w r N s0) else nI (10 ^ N)) / nI (Nat.gcd (pm_V q w r N s0) (10 ^ N)), ?_, ?_⟩
  · rw [if_neg (show ¬ (1 : Int32) = 0 by decide), if_neg (pn_nn hk), if_pos ((pv_ge 1 (by omega) hk).mpr d2), if_neg (pn_nn hN), if_pos ((pv_ge 8 (by omega) hN).mpr d4)]
    refine pu_d17.mpr (pu_mono (pc_slReckon hn hq hK hT hw9 h0 (by omega) hsl d4) ?_)
    rintro ⟨v2, v3, v4, v5, v6, v7, a8, a9, a10, a11, a12, a13, a14, v15, a16, v17, a18⟩ ⟨g1, g2, g3, g4, g5, g6⟩
    dsimp only at g1 g2 g3 g4 g5 g6 ⊢
    subst g1 g2
    have hgne : ¬ nL (Nat.gcd (pm_V q w r N s0) (10 ^ N)) = (0 : Int64) := fun z => by have := (nL0 (by omega)).mp z; omega
    by_cases k0 : k = 0
    · rw [if_pos (by rw [k0]; rfl), if_pos k0]
      unfold zf_X8_numerator
      rw [pc_common2 (by omega) hV (by omega) (by omega), pu_e1, pu_nzl hgne, pu_e1, pn_div3 (by omega) (by omega), pu_e1]
      exact pu_some.mpr ⟨rfl, g5, g6⟩
    · rw [if_neg (fun z => k0 ((pv_eq 0 (by omega) hk).mp z)), if_neg k0]
      unfold zf_X8_denominator
      rw [pc_common2 (by omega) hV (by omega) (by omega), pu_e1, pu_nzl hgne, pu_e1, pn_div3 (by omega) (by omega), pu_e1]
      exact pu_some.mpr ⟨rfl, g5, g6⟩
  · rw [if_neg (show ¬ (1 : Int32) = 0 by decide), if_pos (show 0 ≤ (k : Int) ∧ (k : Int) ≤ 1 by omega), pu_e1, if_neg (show ¬ (1 : Int32) = 0 by decide), if_pos (show 0 ≤ (N : Int) ∧ (N : Int) ≤ 8 by omega), pu_e1, if_neg (show ¬ (1 : Int32) = 0 by decide)]
    refine pu_d8.mpr (pu_mono (pr_laysLikely hn ha hq hw hw9 hs h0 (by omega) d4) ?_)
    rintro ⟨v4, v5, a6, a7, a8, a9, a10, a11⟩ ⟨g1, g2, g3⟩
    dsimp only at g1 ⊢
    subst g1
    rw [pr_wholeOf (by omega) d4, pu_e1]
    refine pu_d1.mpr (pu_mono (P := fun v => v = if k = 0 then nI (pm_V q w r N s0) else nI (10 ^ N)) ?_ ?_)
    · by_cases k0 : k = 0
      · rw [if_pos (by rw [k0]; rfl), if_pos k0]; exact pu_some.mpr rfl
      · rw [if_neg (fun z => k0 ((pv_eq 0 (by omega) hk).mp z)), if_neg k0]; exact pu_some.mpr rfl
    · rintro v rfl
      unfold zf_X11_common
      have hgne : ¬ nI (Nat.gcd (pm_V q w r N s0) (10 ^ N)) = (0 : Int32) := fun z => by have := (pv_eq 0 (by omega) (by omega)).mp z; omega
      rw [pu_e1, pr_common 27 60 _ _ (by omega) (by omega) (Nat.lt_of_le_of_lt h10 (by decide)) (by omega), pu_e1, pu_nz hgne, pu_e1]
      exact pu_some.mpr rfl
theorem pp_best {all rk wds stand th known1 : Nat → Int32} {thrown many : Int32} {lk lv dep deeds ends : Nat → Int32} {found ssize srung sfd slips : Int32} {whole res : Int64} {k1 k2 : Nat → Int64} {A1 A2 : Nat} {p1 p2 : Int32} (hn : 10000 ≤ n) (ha : pr_all all q) (hq : pm_cliff q) (hw : q 40 = w) (hw9 : w ≤ 9) (hs : pm_now q = s0) (h0 : pm_st q s0) (hsd : q 38 < 64 ∧ q 39 < 5) (hK : pc_K q top things tf tt mf mt bars gives rough code) (hT : pc_told q w told) (hsl : slips = nI (q 3)) :
    ∃ v, pu_ok (zf_X10_best n top things slips tf tt mf mt bars gives rough code (nI s0) (nI w) told fa sk found deeds ends lv ssize srung whole res sfd dep A1 k1 A2 k2 p1 p2) (fun y => y.1 = v ∧ pc_told q w y.2.1 ∧ (y.2.2.2.2.2.2.2.2.2.2.2.2.2.2.1 = A1 ∧ y.2.2.2.2.2.2.2.2.2.2.2.2.2.2.2.2.1 = A2 ∨ y.2.2.2.2.2.2.2.2.2.2.2.2.2.2.1 = A2 ∧ y.2.2.2.2.2.2.2.2.2.2.2.2.2.2.2.2.1 = A1)) ∧ pu_ok (zf_X11_best n thrown many all rk wds stand th known1 lk p1 p2) (fun y => y.1 = v) := by
  have hq1 := hq.1
  have h3 := hq.2.2.1
  have e37 : pm_rg s0 = q 37 := by rw [← hs]; exact pm_rg_sd hsd.1 hsd.2
  have hs1 := h0.1
  obtain ⟨c, c1, c2, c3⟩ := pp_rung ha hq p1
  unfold zf_X10_best zf_X11_best
  rw [c2, pu_e1, hK.1, c1, pu_e1, ← hK.1, pr_within, Int32.toInt_toInt64, show (0 : Int64).toInt = 0 from rfl, show (8 : Int64).toInt = 8 from rfl]
  rcases c3 with rfl | ⟨rfl, r, rfl, hr⟩
  · refine ⟨(-2 : Int32), ?_, ?_⟩
    · rw [if_pos rfl]; exact pu_some.mpr ⟨rfl, hT, Or.inl ⟨rfl, rfl⟩⟩
    · rw [if_pos rfl]; exact pu_some.mpr rfl
  by_cases d3 : 0 ≤ p2.toInt
  rotate_left
  · refine ⟨(-3 : Int32), ?_, ?_⟩
    · rw [if_neg (show ¬ (1 : Int32) = 0 by decide), if_pos (pn_neg d3)]; exact pu_some.mpr ⟨rfl, hT, Or.inl ⟨rfl, rfl⟩⟩
    · rw [if_neg (show ¬ (1 : Int32) = 0 by decide), if_neg (show ¬ (0 ≤ p2.toInt ∧ p2.toInt ≤ 8) by omega), pu_e1, if_pos (show (0 : Int32) = 0 from rfl)]; exact pu_some.mpr rfl
  obtain ⟨N, rfl, hN, _⟩ := pn_of d3
  rw [pn_toInt hN]
  by_cases d4 : N ≤ 8
  rotate_left
  · refine ⟨(-3 : Int32), ?_, ?_⟩
    · rw [if_neg (show ¬ (1 : Int32) = 0 by decide), if_neg (pn_nn hN), if_neg (fun z => d4 ((pv_ge 8 (by omega) hN).mp z))]; exact pu_some.mpr ⟨rfl, hT, Or.inl ⟨rfl, rfl⟩⟩
    · rw [if_neg (show ¬ (1 : Int32) = 0 by decide), if_neg (show ¬ (0 ≤ (N : Int) ∧ (N : Int) ≤ 8) by omega), pu_e1, if_pos (show (0 : Int32) = 0 from rfl)]; exact pu_some.mpr rfl
  have hV := pm_V_le (w := w) (r := r) h3 N s0
  have h10 := pm_10 d4
  have hcls : ∃ fd, ((N = 0 → fd = (-1 : Int32)) ∧ ∀ m, N = m + 1 → pm_FD q w r s0 m fd) ∧ pu_ok (zf_X8_reckon n ssize srung whole res sfd top things slips tf tt mf mt bars gives rough code found (nI w) told fa sk deeds ends lv dep A1 k1 A2 k2 (nI s0) (nI r) (nI N)) (fun y => y.2.2.2.2.1 = fd ∧ pc_told q w y.2.2.2.2.2.2.1 ∧ (y.2.2.2.2.2.2.2.2.2.2.2.2.2.1 = A1 ∧ y.2.2.2.2.2.2.2.2.2.2.2.2.2.2.2.1 = A2 ∨ y.2.2.2.2.2.2.2.2.2.2.2.2.2.1 = A2 ∧ y.2.2.2.2.2.2.2.2.2.2.2.2.2.2.2.1 = A1)) := by
    obtain ⟨y, hy, g1, g2, g3, g4, g5, g6⟩ := pc_slReckon (n := n) (fa := fa) (sk := sk) (size := ssize) (rung0 := srung) (whole := whole) (res := res) (fd := sfd) (found := found) (deeds := deeds) (ends := ends) (order := lv) (depth := dep) (A1 := A1) (A2 := A2) (k1 := k1) (k2 := k2) hn hq hK hT hw9 h0 (show r < 100 by omega) hsl d4
    exact ⟨y.2.2.2.2.1, ⟨g3, g4⟩, y, hy, rfl, g5, g6⟩
  obtain ⟨fd, ⟨hfd0, hfd1⟩, hok⟩ := hcls
  refine ⟨fd, ?_, ?_⟩
  · rw [if_neg (show ¬ (1 : Int32) = 0 by decide), if_neg (pn_nn hN), if_pos ((pv_ge 8 (by omega) hN).mpr d4)]
    refine pu_d17.mpr (pu_mono hok ?_)
    rintro ⟨v2, v3, v4, v5, v6, v7, a8, a9, a10, a11, a12, a13, a14, v15, a16, v17, a18⟩ ⟨g1, g2, g3⟩
    exact pu_some.mpr ⟨g1, g2, g3⟩
  rw [if_neg (show ¬ (1 : Int32) = 0 by decide), if_pos (show 0 ≤ (N : Int) ∧ (N : Int) ≤ 8 by omega), pu_e1, if_neg (show ¬ (1 : Int32) = 0 by decide)]
  obtain ⟨hF, hs0⟩ := pm_clm_F (w := w) hq h0
  refine pu_d8.mpr (pu_mono (pr_laysLikely hn ha hq hw hw9 hs h0 (by omega) d4) ?_)
  rintro ⟨v3, v4, a5, a6, a7, a8, a9, a10⟩ ⟨g1, g2, g3⟩
  dsimp only at g1 g2 g3 ⊢
  subst g1
  by_cases hz : pm_V q w r N s0 = 0
  · rw [if_pos (by rw [hz]; rfl)]
    refine pu_some.mpr ?_
    dsimp only
    cases N with
    | zero => exact (hfd0 rfl).symm
    | succ m =>
      rcases hfd1 m rfl with ⟨h, _⟩ | ⟨x, _, x2, x3⟩
      · exact h.symm
      · have hVe : pm_V q w r (m + 1) s0 = pm_vm q w (pm_V q w r m) s0 15 := if_neg x2
        have := x3.2.2.2.1
        omega
  rw [if_neg (fun z => hz ((pv_eq 0 (by omega) (by omega)).mp z)), pv_ld 37 (by omega) (by omega), pu_e1, ha 37 (by omega)]
  by_cases hrr : pm_rg s0 = r
  · rw [if_pos (by rw [← e37, hrr])]
    refine pu_some.mpr ?_
    dsimp only
    cases N with
    | zero => exact (hfd0 rfl).symm
    | succ m =>
      rcases hfd1 m rfl with ⟨h, _⟩ | ⟨x, _, x2, x3⟩
      · exact h.symm
      · exact absurd hrr x2
  rw [if_neg (fun z => hrr (by rw [e37]; exact (pn_eq (by omega) (by omega)).mp z))]
  cases N with
  | zero => exact absurd (show pm_V q w r 0 s0 = 0 from if_neg hrr) hz
  | succ m =>
    have hVe : pm_V q w r (m + 1) s0 = pm_vm q w (pm_V q w r m) s0 15 := if_neg hrr
    rcases hfd1 m rfl with ⟨_, h⟩ | ⟨x, x1, x2, x3⟩
    · rcases h with h | h
      · exact absurd h hrr
      · omega
    obtain ⟨y1, y2, y3, y4, y5⟩ := x3
    have hmx := pm_vm_le (w := w) (s := s0) h3 (fun t => pm_V_le (w := w) (r := r) h3 m t) 15
    have h10m := pm_10 (show m ≤ 8 by omega)
    refine pu_d2.mpr (pu_up (fun i v => v = nI i ∧ i ≤ x) 14 (by omega) ⟨rfl, by omega⟩ ?_)
    rintro i v hi ⟨rfl, e2⟩
    unfold zb_X11_best_58
    rw [pr_standNow ha, hs, pu_e1, pr_likelyBy (l := m) ha hq hF (by omega) hs0 (by omega) (g2.2.2 _ hs0 i (by omega)) (fun l hl => g3 l (by omega)), pu_e1]
    by_cases hix : i = x
    · rw [hix, if_pos y2, if_pos (by rw [y3, hVe])]
      refine pu_out (by decide) ?_
      dsimp only
      rw [pr_toldMove (by omega), pu_e1, x1]
      exact pu_some.mpr rfl
    · have hvi := pm_vl_le (w := w) (s := s0) (m := i) h3 (fun t => pm_V_le (w := w) (r := r) h3 m t)
      have hne : ¬ (if pm_wy q w s0 i = 0 then nI (pm_vl q w (pm_V q w r m) s0 i) else (-1 : Int32)) = nI (pm_V q w r (m + 1) s0) := by
        by_cases cc : pm_wy q w s0 i = 0
        · rw [if_pos cc]
          intro z
          have h8 := (pn_eq (by omega) (by omega)).mp z
          have := y5 i (by omega) cc
          omega
        · rw [if_neg cc]
          intro z
          exact (pn_ne1' (by omega)).mp z
      rw [if_neg hne, pn_a1, pu_e1]
      exact pu_go ⟨by omega, rfl, by omega⟩
end PCk
