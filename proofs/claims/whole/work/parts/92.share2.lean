/-! sharing: the class, and both sides -/
section PSi
variable {n : Nat} {q : Nat → Nat} {w s0 : Nat} {top things tf tt mf mt : Int32} {bars gives rough code told fa sk : Nat → Int32}
theorem pc_isFree {all : Nat → Int32} {r k u : Nat} (ha : pr_all all q) (hq : pm_cliff q) (hK : pc_K q top things tf tt mf mt bars gives rough code) (hr : r < 9) (hk : k < 6) (hu : u < 256) : zf_X7_isFree bars gives (nI r) (nI k) (nI u) = some (if pm_fr q r k u = true then (1 : Int32) else 0) := by
  unfold zf_X7_isFree pm_fr
  rw [pb_bitL (show r < 11 by omega) (show u < 2048 by omega), (pp_holds ha hq hK hr hk).1]
  cases u.testBit r <;> cases pm_ho q r k <;> rfl
def pc_can (q : Nat → Nat) (R set k : Nat) (a : Nat → Int32) : Prop := ∀ k', k ≤ k' → k' ≤ q 2 → ∀ u, u < 2 ^ R → a (k' * 256 + u) = nI (pm_M q R set (q 2) (q 2 - k') u)
theorem pc_behind7 {a : Nat → Int32} {R set k u : Nat} (hq2 : q 2 ≤ 6) (hR : R ≤ 8) (hk : k < q 2) (hu : u < 2 ^ R) (hc : pc_can q R set (k + 1) a) : zf_X7_behind a (nI k) (nI u) = some (nI (pm_M q R set (q 2) (q 2 - (k + 1)) u)) := by
  have hp8 := pm_p8 hR
  unfold zf_X7_behind
  rw [pn_a1, pv_mur 256, pn_add, pu_ld (by omega) (by omega), pu_e1, hc (k + 1) (Nat.le_refl _) (by omega) u hu]
theorem pc_withThing {all a : Nat → Int32} {R set k u : Nat} (hn : 1000 ≤ n) (ha : pr_all all q) (hq : pm_cliff q) (hK : pc_K q top things tf tt mf mt bars gives rough code) (hR : R ≤ 8) (hk : k < q 2) (hu : u < 2 ^ R) (hc : pc_can q R set (k + 1) a) : zf_X7_withThing n (nI R) bars gives a (nI k) (nI u) = some (nI (pm_mr (pm_M q R set (q 2) (q 2 - (k + 1))) q k u R)) := by
  have hq2 := hq.2.1
  have hp8 := pm_p8 hR
  have hMl := fun u => pm_M_le (q := q) (R := R) (set := set) (T := q 2) (q 2 - (k + 1)) u
  apply pu_ex
  unfold zf_X7_withThing
  rw [pc_behind7 hq2 hR hk hu hc, pu_e1]
  refine pu_d3.mpr (pu_up (fun r v => v.2 = nI r ∧ v.1 = nI (pm_mr (pm_M q R set (q 2) (q 2 - (k + 1))) q k u r)) R (by omega) ⟨rfl, rfl⟩ ?_)
  rintro r ⟨v2, v3⟩ hr ⟨e1, e2⟩
  dsimp only at e1 e2 ⊢
  subst e1 e2
  unfold zb_X7_withThing_10
  by_cases c : R ≤ r
  · have : r = R := by omega
    subst this
    rw [if_pos ((pn_le (by omega) (by omega)).mpr c)]
    exact pu_out (by decide) (pu_some.mpr rfl)
  have hul : u ||| 2 ^ r < 2 ^ R := Nat.or_lt_two_pow hu (Nat.pow_lt_pow_right (by omega) (by omega))
  rw [if_neg (fun z => c ((pn_le (by omega) (by omega)).mp z)), pc_isFree ha hq hK (by omega) (by omega) (by omega), pu_e1, pb_sh11 _ (by omega), pn_or, pc_behind7 hq2 hR hk hul hc, pu_e1, show (1 : Int32) = nI 1 from rfl, pn_add, pn_add]
  have e : pm_mr (pm_M q R set (q 2) (q 2 - (k + 1))) q k u (r + 1) = max (pm_mr (pm_M q R set (q 2) (q 2 - (k + 1))) q k u r) (if pm_fr q r k u = true then 1 + pm_M q R set (q 2) (q 2 - (k + 1)) (u ||| 2 ^ r) else 0) := rfl
  have hb1 := pm_mr_le (f := pm_M q R set (q 2) (q 2 - (k + 1))) (q := q) (k := k) (u := u) hMl r
  have hb2 := hMl (u ||| 2 ^ r)
  by_cases f : pm_fr q r k u = true
  · rw [if_pos f] at e
    rw [if_pos f, if_neg (show ¬ nI 1 = (0 : Int32) by decide)]
    by_cases g : pm_mr (pm_M q R set (q 2) (q 2 - (k + 1))) q k u r < 1 + pm_M q R set (q 2) (q 2 - (k + 1)) (u ||| 2 ^ r)
    · rw [if_pos ((pn_lt (by omega) (by omega)).mpr g), pu_e1, pu_e1, pu_e1]
      refine pu_go ⟨by omega, rfl, ?_⟩
      dsimp only
      rw [e, Nat.max_eq_right (by omega)]
    · rw [if_neg (fun z => g ((pn_lt (by omega) (by omega)).mp z)), pu_e1, pu_e1, pu_e1]
      refine pu_go ⟨by omega, rfl, ?_⟩
      dsimp only
      rw [e, Nat.max_eq_left (by omega)]
  · rw [if_neg f] at e
    rw [if_neg f, if_pos rfl, pu_e1, pu_e1]
    refine pu_go ⟨by omega, rfl, ?_⟩
    dsimp only
    rw [e, Nat.max_eq_left (Nat.zero_le _)]
theorem pc_shReckon {all a : Nat → Int32} {R set : Nat} {rungs : Int32} (hn : 1000 ≤ n) (ha : pr_all all q) (hq : pm_cliff q) (hK : pc_K q top things tf tt mf mt bars gives rough code) (hR : R ≤ 8) (hset : set < 64) : pu_ok (zf_X7_reckon n rungs (nI (q 2)) bars gives a (nI R) (nI set)) (fun y => y.1 = nI R ∧ pc_can q R set 0 y.2) := by
  have hq2 := hq.2.1
  have hp8 := pm_p8 hR
  unfold zf_X7_reckon
  refine pu_d3.mpr (pu_up (fun i v => v.1 = nI i ∧ ∀ u, u < i → v.2 (q 2 * 256 + u) = nI 0) 256 (by omega) ⟨rfl, fun u h => absurd h (by omega)⟩ ?_)
  rintro i ⟨v1, a2⟩ hi ⟨e1, e2⟩
  dsimp only at e1 e2 ⊢
  subst e1
  unfold zb_X7_reckon_7
  by_cases c : 256 ≤ i
  rotate_left
  · rw [if_neg (fun z => c ((pv_le 256 (by omega) (by omega)).mp z)), pv_mur 256, pn_add, pu_st (by omega) (by omega), pu_e1, pn_a1, pu_e1]
    refine pu_go ⟨by omega, rfl, ?_⟩
    intro u hu
    dsimp only
    by_cases g : u = i
    · subst g; rw [pu_upe]; rfl
    · rw [pu_upn (by omega)]; exact e2 u (by omega)
  rw [if_pos ((pv_le 256 (by omega) (by omega)).mpr c)]
  refine pu_out (by decide) ?_
  dsimp only
  rw [pu_e1]
  have h0 : pc_can q R set (q 2) a2 := by
    intro k' h1 h2 u hu
    have : k' = q 2 := by omega
    subst this
    rw [e2 u (by omega), Nat.sub_self]; rfl
  refine pu_d3.mpr (pu_up (fun x v => v.1 = nI (q 2 - x) - (1 : Int32) ∧ pc_can q R set (q 2 - x) v.2) (q 2) (by omega) ⟨(by dsimp only; rw [Nat.sub_zero]), h0⟩ ?_)
  rintro x ⟨v9, a10⟩ hx ⟨e1, e3⟩
  dsimp only at e1 e3 ⊢
  subst e1
  unfold zb_X7_reckon_49
  by_cases hcx : x = q 2
  · have hz : q 2 - x = 0 := by omega
    rw [hz] at e3 ⊢
    rw [if_pos (by decide)]
    exact pu_out (by decide) (pu_some.mpr ⟨rfl, e3⟩)
  obtain ⟨k, hk⟩ : ∃ k, q 2 - x = k + 1 := ⟨q 2 - x - 1, by omega⟩
  rw [hk] at e3 ⊢
  rw [pn_s1, if_neg (pn_nn (by omega))]
  refine pu_d3.mpr (pu_up (fun u v => v.1 = nI u ∧ pc_can q R set (k + 1) v.2 ∧ ∀ u', u' < u → v.2 (k * 256 + u') = nI (pm_M q R set (q 2) (q 2 - k) u')) (2 ^ R) (by omega) ⟨rfl, e3, fun u' h => absurd h (by omega)⟩ ?_)
  rintro u ⟨v11, a12⟩ hu ⟨e1, e4, e5⟩
  dsimp only at e1 e4 e5 ⊢
  subst e1
  unfold zb_X7_reckon_56
  rw [pb_sh11 _ (by omega)]
  by_cases hcu : 2 ^ R ≤ u
  · rw [if_pos ((pn_le (by omega) (by omega)).mpr hcu)]
    refine pu_out (by decide) ?_
    dsimp only
    rw [pn_p1, pu_e1]
    refine pu_go ⟨by omega, by rw [show q 2 - (x + 1) = k from by omega], ?_⟩
    rw [show q 2 - (x + 1) = k from by omega]
    intro k' h1 h2 u' hu'
    by_cases g : k' = k
    · subst g; exact e5 u' (by omega)
    · exact e4 k' (by omega) h2 u' hu'
  have hul : u < 2 ^ R := by omega
  rw [if_neg (fun z => hcu ((pn_le (by omega) (by omega)).mp z)), show (1 : Int32) = nI 1 from rfl, pb_bit _ hset _ (by omega)]
  have hM1 : pm_M q R set (q 2) (q 2 - k) u = if set.testBit k = true then pm_mr (pm_M q R set (q 2) (q 2 - (k + 1))) q k u R else pm_M q R set (q 2) (q 2 - (k + 1)) u := by
    have e : q 2 - k = (q 2 - (k + 1)) + 1 := by omega
    rw [e]
    show (if set.testBit (q 2 - (q 2 - (k + 1) + 1)) = true then pm_mr (pm_M q R set (q 2) (q 2 - (k + 1))) q (q 2 - (q 2 - (k + 1) + 1)) u R else pm_M q R set (q 2) (q 2 - (k + 1)) u) = _
    rw [show q 2 - (q 2 - (k + 1) + 1) = k from by omega]
  refine pu_d1.mpr (pu_mono (P := fun v => v = nI (if set.testBit k = true then 1 else 0)) ?_ ?_)
  · by_cases g : set.testBit k = true
    · rw [if_pos g, if_neg (by decide)]; exact pu_some.mpr rfl
    · rw [if_neg g, if_pos (by decide)]; exact pu_some.mpr rfl
  rintro v13 rfl
  refine pu_d1.mpr (pu_mono (P := fun v => v = nI (pm_M q R set (q 2) (q 2 - k) u)) ?_ ?_)
  · rw [hM1]
    by_cases g : set.testBit k = true
    · rw [if_pos g, if_neg (by decide), pc_withThing hn ha hq hK hR (by omega) hul e4, pu_e1, if_pos g]; exact pu_some.mpr rfl
    · rw [if_neg g, if_pos (by decide), pc_behind7 hq2 hR (by omega) hul e4, pu_e1, if_neg g]; exact pu_some.mpr rfl
  rintro v16 rfl
  rw [pv_mur 256, pn_add, pu_st (by omega) (by omega), pu_e1, pn_add, pu_e1]
  refine pu_go ⟨by omega, rfl, ?_, ?_⟩
  · intro k' h1 h2 u' hu'
    dsimp only
    rw [pu_upn (by omega)]
    exact e4 k' h1 h2 u' hu'
  · intro u' hu'
    dsimp only
    by_cases g : u' = u
    · subst g; rw [pu_upe]
    · rw [pu_upn (by omega)]; exact e5 u' (by omega)
theorem pc_firstRung {all a : Nat → Int32} {R set k u : Nat} (hn : 1000 ≤ n) (ha : pr_all all q) (hq : pm_cliff q) (hK : pc_K q top things tf tt mf mt bars gives rough code) (hR : R ≤ 8) (hk : k < q 2) (hu : u < 2 ^ R) (hc : pc_can q R set 0 a) : zf_X7_firstRung n (nI R) bars gives a (nI k) (nI u) = some (pm_oi (pm_cf (pm_M q R set (q 2) (q 2 - (k + 1))) q R k u (pm_M q R set (q 2) (q 2 - k) u) R)) := by
  have hq2 := hq.2.1
  have hp8 := pm_p8 hR
  apply pu_ex
  unfold zf_X7_firstRung
  have hMl := fun j u => pm_M_le (q := q) (R := R) (set := set) (T := q 2) j u
  refine pu_d2.mpr (pu_up (fun r v => v = nI r ∧ ∀ r', r' < r → ¬ (pm_fr q r' k u = true ∧ 1 + pm_M q R set (q 2) (q 2 - (k + 1)) (u ||| 2 ^ r') = pm_M q R set (q 2) (q 2 - k) u)) R (by omega) ⟨rfl, fun r' h => absurd h (by omega)⟩ ?_)
  rintro r v hr ⟨rfl, e2⟩
  unfold zb_X7_firstRung_2
  by_cases c : R ≤ r
  · have : r = R := by omega
    subst this
    rw [if_pos ((pn_le (by omega) (by omega)).mpr c)]
    refine pu_out (by decide) ?_
    dsimp only
    rw [if_neg (by decide), if_pos rfl, pm_cf_no e2]
    exact pu_some.mpr rfl
  have hul : u ||| 2 ^ r < 2 ^ R := Nat.or_lt_two_pow hu (Nat.pow_lt_pow_right (by omega) (by omega))
  have hb1 := hMl (q 2 - (k + 1)) (u ||| 2 ^ r)
  have hb2 := hMl (q 2 - k) u
  rw [if_neg (fun z => c ((pn_le (by omega) (by omega)).mp z)), pc_isFree ha hq hK (by omega) (by omega) (by omega), pu_e1]
  by_cases f : pm_fr q r k u = true
  rotate_left
  · rw [if_neg f, if_pos rfl, pn_a1, pu_e1]
    refine pu_go ⟨by omega, rfl, ?_⟩
    intro r' hr'
    by_cases g : r' = r
    · subst g; exact fun z => f z.1
    · exact e2 r' (by omega)
  rw [if_pos f, if_neg (by decide), pb_sh11 _ (by omega), pn_or, pc_behind7 hq2 hR hk hul (fun k' h1 => hc k' (by omega)), pu_e1, pv_mur 256, pn_add, pu_ld (by omega) (by omega), pu_e1, hc k (by omega) (by omega) u hu, pv_add 1]
  by_cases g : 1 + pm_M q R set (q 2) (q 2 - (k + 1)) (u ||| 2 ^ r) = pm_M q R set (q 2) (q 2 - k) u
  · rw [if_pos (by rw [g])]
    refine pu_out (by decide) ?_
    dsimp only
    rw [if_pos rfl, pm_cf_eq (by omega) f g e2]
    exact pu_some.mpr rfl
  · rw [if_neg (fun z => g ((pn_eq (by omega) (by omega)).mp z)), pn_a1, pu_e1]
    refine pu_go ⟨by omega, rfl, ?_⟩
    intro r' hr'
    by_cases g2 : r' = r
    · subst g2; exact fun z => g z.2
    · exact e2 r' (by omega)
theorem pc_rungOfThing {all a : Nat → Int32} {R set k : Nat} (hn : 1000 ≤ n) (ha : pr_all all q) (hq : pm_cliff q) (hK : pc_K q top things tf tt mf mt bars gives rough code) (hR : R ≤ 8) (hset : set < 64) (hk : k < q 2) (hc : pc_can q R set 0 a) : zf_X7_rungOfThing n (nI R) bars gives a (nI set) (nI k) = some (pm_gt q R set (q 2) (q 2) 0 k) := by
  have hq2 := hq.2.1
  have hp8 := pm_p8 hR
  apply pu_ex
  unfold zf_X7_rungOfThing
  refine pu_d4.mpr (pu_up (fun i v => v.2.2 = nI i ∧ v.1 = nI (pm_pu q R set (q 2) (q 2) 0 i) ∧ (i = k + 1 → v.2.1 = pm_gt q R set (q 2) (q 2) 0 k)) (k + 1) (by omega) ⟨rfl, rfl, fun z => absurd z (by omega)⟩ ?_)
  rintro i ⟨v1, v2, v3⟩ hi ⟨e1, e2, e3⟩
  dsimp only at e1 e2 e3 ⊢
  subst e1 e2
  have hul := pm_pu_lt (q := q) (R := R) (set := set) (T := q 2) (j := q 2) (u := 0) (Nat.two_pow_pos R) i
  unfold zb_X7_rungOfThing_8
  by_cases c : i = k + 1
  · rw [if_pos ((pn_lt (by omega) (by omega)).mpr (by omega))]
    exact pu_out (by decide) (pu_some.mpr (e3 c))
  rw [if_neg (fun z => by have := (pn_lt (by omega) (by omega)).mp z; omega), show ((nI set >>> (nI i &&& 31)) &&& (1 : Int32)) = nI (if set.testBit i then 1 else 0) from pb_bit _ hset _ (by omega)]
  have hcho : pm_cho q R set (q 2) (q 2 - i) (pm_pu q R set (q 2) (q 2) 0 i) = if set.testBit i = true then pm_cf (pm_M q R set (q 2) (q 2 - (i + 1))) q R i (pm_pu q R set (q 2) (q 2) 0 i) (pm_M q R set (q 2) (q 2 - i) (pm_pu q R set (q 2) (q 2) 0 i)) R else none := by
    unfold pm_cho
    rw [show q 2 - (q 2 - i) = i from by omega, show q 2 - i - 1 = q 2 - (i + 1) from by omega]
  refine pu_d1.mpr (pu_mono (P := fun v => v = pm_oi (pm_cho q R set (q 2) (q 2 - i) (pm_pu q R set (q 2) (q 2) 0 i))) ?_ ?_)
  · rw [hcho]
    by_cases g : set.testBit i = true
    · rw [if_pos g, if_neg (by decide), if_pos g, pc_firstRung hn ha hq hK hR (by omega) hul hc, pu_e1]; exact pu_some.mpr rfl
    · rw [if_neg g, if_pos (by decide), if_neg g]; exact pu_some.mpr rfl
  rintro v5 rfl
  have hcl := fun r h => pm_cho_lt (q := q) (R := R) (set := set) (T := q 2) (j := q 2 - i) (u := pm_pu q R set (q 2) (q 2) 0 i) (r := r) h
  have hst : pm_pu q R set (q 2) (q 2) 0 (i + 1) = pm_un (pm_pu q R set (q 2) (q 2) 0 i) (pm_cho q R set (q 2) (q 2 - i) (pm_pu q R set (q 2) (q 2) 0 i)) := rfl
  have hgt : i = k → pm_oi (pm_cho q R set (q 2) (q 2 - i) (pm_pu q R set (q 2) (q 2) 0 i)) = pm_gt q R set (q 2) (q 2) 0 k := by
    intro z; subst z; rfl
  refine pu_d1.mpr (pu_mono (P := fun v => nI (pm_pu q R set (q 2) (q 2) 0 i) ||| v = nI (pm_pu q R set (q 2) (q 2) 0 (i + 1))) ?_ ?_)
  · rw [hst]
    generalize pm_cho q R set (q 2) (q 2 - i) (pm_pu q R set (q 2) (q 2) 0 i) = o at hcl
    cases o with
    | none =>
      rw [if_pos (show pm_oi none = (-1 : Int32) from rfl)]
      refine pu_some.mpr ?_
      show _ ||| nI 0 = nI _
      rw [pn_or, Nat.or_zero]; rfl
    | some r =>
      have hr := hcl r rfl
      rw [show pm_oi (some r) = nI r from rfl, if_neg (fun z => (pn_ne1 (a := r) (by omega)).mp z), pb_sh11 _ (by omega)]
      refine pu_some.mpr ?_
      rw [pn_or]; rfl
  intro v6 hv6
  rw [hv6, pu_e1, pn_a1, pu_e1]
  refine pu_go ⟨by omega, rfl, rfl, ?_⟩
  intro z
  exact hgt (by omega)
theorem pp_shares {all shared bshared lv : Nat → Int32} {thrown bmany rungs p1 p2 p3 : Int32} (hn : 1000 ≤ n) (ha : pr_all all q) (hq : pm_cliff q) (hK : pc_K q top things tf tt mf mt bars gives rough code) :
    ∃ v, pu_ok (zf_X10_shares n top things bars gives lv rungs p1 p2 p3) (fun y => y.1 = v) ∧ pu_ok (zf_X11_shares n thrown bmany all shared bshared p1 p2 p3) (fun y => y.1 = v) := by
  have hq1 := hq.1
  have hq2 := hq.2.1
  have hp := pm_p6 hq2
  obtain ⟨c, c1, c2, c3⟩ := pp_rung ha hq p1
  obtain ⟨d, d1, d2, d3⟩ := pp_set ha hq p2
  unfold zf_X10_shares zf_X11_shares
  rw [c2, hK.1, c1, hK.2.1, d1, d2]
  simp only [pu_e1]
  rcases c3 with rfl | ⟨rfl, R, rfl, hR⟩
  · refine ⟨(-2 : Int32), ?_, ?_⟩
    · rw [if_pos rfl]; exact pu_some.mpr rfl
    · rw [if_pos rfl]; exact pu_some.mpr rfl
  rw [if_neg (show ¬ (1 : Int32) = 0 by decide), if_neg (show ¬ (1 : Int32) = 0 by decide)]
  have hR8 : R ≤ 8 := by omega
  have href : ∀ t, t < 64 → pu_ok (zf_X11_goesShare n (-1 : Int32) all shared bshared (0 : Int32) (nI R) (nI t) (0 : Int32) (0 : Int32)) (fun y => y.1 = nI (pm_M q R t (q 2) (q 2) 0) ∧ ∀ k, k < q 2 → y.2.2 k = pm_gt q R t (q 2) (q 2) 0 k) := by
    intro t ht
    have h := pr_goesShare (n := n) (set := t) hn ha hq hK hR8 ht (q 2) (Nat.le_refl _) 60 0 0 (-1) shared bshared (by omega) (Nat.two_pow_pos R) (by omega) (by omega) (by omega)
    rw [Nat.sub_self] at h
    refine pu_mono (show pu_ok (zf_X11_goesShare n (-1 : Int32) all shared bshared (0 : Int32) (nI R) (nI t) (0 : Int32) (0 : Int32)) _ from h) ?_
    rintro ⟨y1, y2, y3⟩ ⟨_, h2⟩
    dsimp only at h2 ⊢
    rcases h2 with ⟨h3, _⟩ | ⟨_, h4, _, h5⟩
    · omega
    · rw [Nat.zero_add] at h4
      refine ⟨h4, ?_⟩
      intro k hk
      have := h5 k hk
      rw [Nat.sub_self, Nat.zero_add] at this
      exact this
  by_cases k0 : p3 = 0
  · rw [if_pos k0, if_pos k0]
    rcases d3 with rfl | ⟨rfl, t, rfl, ht⟩
    · refine ⟨(-3 : Int32), ?_, ?_⟩
      · rw [if_pos rfl]; exact pu_some.mpr rfl
      · rw [if_pos rfl]; exact pu_some.mpr rfl
    refine ⟨nI (pm_M q R t (q 2) (q 2) 0), ?_, ?_⟩
    · rw [if_neg (show ¬ (1 : Int32) = 0 by decide)]
      refine pu_d2.mpr (pu_mono (pc_shReckon hn ha hq hK hR8 (by omega)) ?_)
      rintro ⟨y1, y2⟩ ⟨g1, g2⟩
      dsimp only at g1 g2 ⊢
      have h9 := g2 0 (Nat.le_refl _) (by omega) 0 (Nat.two_pow_pos R)
      rw [Nat.zero_mul, Nat.zero_add, Nat.sub_zero] at h9
      rw [if_pos k0]
      unfold zf_X7_landed
      rw [pv_ld 0 (by omega) (by omega), pu_e1, h9, pu_e1]
      exact pu_some.mpr rfl
    · rw [if_neg (show ¬ (1 : Int32) = 0 by decide)]
      refine pu_d3.mpr (pu_mono (href t (by omega)) ?_)
      rintro ⟨y1, y2, y3⟩ ⟨g1, g2⟩
      dsimp only at g1 ⊢
      rw [if_pos k0]
      exact pu_some.mpr g1
  rw [if_neg k0, if_neg k0]
  unfold zf_X10_isTenAndThing
  by_cases d10 : p3 < (10 : Int32)
  · refine ⟨(-2 : Int32), ?_, ?_⟩
    · rw [if_pos d10, pu_e1, if_pos rfl]; exact pu_some.mpr rfl
    · rw [if_pos d10]; exact pu_some.mpr rfl
  obtain ⟨e, e1, e2, e3⟩ := pp_thing ha hq (p3 - (10 : Int32))
  rw [if_neg d10, if_neg d10, e1, e2]
  simp only [pu_e1]
  rcases e3 with rfl | ⟨rfl, k, hk, hkT⟩
  · refine ⟨(-2 : Int32), ?_, ?_⟩
    · rw [if_pos (show (0 : Int32) = 0 from rfl), pu_e1, if_pos (show (0 : Int32) = 0 from rfl)]; exact pu_some.mpr rfl
    · rw [if_pos (show (0 : Int32) = 0 from rfl)]; exact pu_some.mpr rfl
  rcases d3 with rfl | ⟨rfl, t, rfl, ht⟩
  · refine ⟨(-3 : Int32), ?_, ?_⟩
    · rw [if_neg (show ¬ (1 : Int32) = 0 by decide), pu_e1, if_neg (show ¬ (1 : Int32) = 0 by decide), if_pos (show (0 : Int32) = 0 from rfl)]; exact pu_some.mpr rfl
    · rw [if_neg (show ¬ (1 : Int32) = 0 by decide), if_pos (show (0 : Int32) = 0 from rfl)]; exact pu_some.mpr rfl
  refine ⟨pm_gt q R t (q 2) (q 2) 0 k, ?_, ?_⟩
  · rw [if_neg (show ¬ (1 : Int32) = 0 by decide), pu_e1, if_neg (show ¬ (1 : Int32) = 0 by decide), if_neg (show ¬ (1 : Int32) = 0 by decide)]
    refine pu_d2.mpr (pu_mono (pc_shReckon hn ha hq hK hR8 (by omega)) ?_)
    rintro ⟨y1, y2⟩ ⟨g1, g2⟩
    dsimp only at g1 g2 ⊢
    subst g1
    rw [if_neg k0, hk, pc_rungOfThing hn ha hq hK hR8 (by omega) hkT g2, pu_e1]
    exact pu_some.mpr rfl
  · rw [if_neg (show ¬ (1 : Int32) = 0 by decide), if_neg (show ¬ (1 : Int32) = 0 by decide)]
    refine pu_d3.mpr (pu_mono (href t (by omega)) ?_)
    rintro ⟨y1, y2, y3⟩ ⟨g1, g2⟩
    dsimp only at g2 ⊢
    rw [if_neg k0, hk, pu_ld (by omega) (by omega), pu_e1, g2 k hkT]
    exact pu_some.mpr rfl
end PSi
