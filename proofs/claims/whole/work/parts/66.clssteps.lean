/-! the class's deeds -/
def pc_K (q : Nat → Nat) (top things tf tt mf mt : Int32) (bars gives rough code : Nat → Int32) : Prop :=
  top = nI (q 1) ∧ things = nI (q 2) ∧ (∀ r, r < 9 → bars r = nI (q (10 + r)) ∧ gives r = nI (q (19 + r)) ∧ rough r = nI (q (28 + r))) ∧ (q 4 = 0 ∧ tf = nI 0 ∧ tt = nI 0 ∨ q 4 = 1 ∧ tf = nI (q 6) ∧ tt = nI (q 6 + q 8)) ∧ (q 5 = 0 ∧ mf = nI 0 ∧ mt = nI 0 ∨ q 5 = 1 ∧ mf = nI (q 7) ∧ mt = nI (q 7 + q 9)) ∧ (∀ k, k < q 93 → code k = nI (pe_cm (q (94 + k))))
def pc_up (q : Nat → Nat) (w r c g : Nat) : Int32 := if pm_may q w r c g then nI (pm_tired q w r c g) else (-1 : Int32)
def pc_told (q : Nat → Nat) (w : Nat) (told : Nat → Int32) : Prop := ∀ r c g, 1 ≤ r → r ≤ q 1 → c ≤ 6 → g < 5 → told ((r * 7 + c) * 5 + g) = (-2 : Int32) ∨ told ((r * 7 + c) * 5 + g) = pc_up q w r c g
theorem pe_tc0 {cd : Nat → Nat} {f m : Nat} {b : Bool} (h : pe_tc cd f m [] = some [b]) : 1 ≤ m := by
  cases m with
  | zero => cases h
  | succ m => omega
theorem pn_m2 {a : Nat} (ha : a < 2147483648) : ¬ nI a = (-2 : Int32) := by
  intro h
  have h2 : (nI a).toInt = (-2 : Int32).toInt := by rw [h]
  rw [pn_toInt ha, show (-2 : Int32).toInt = -2 from rfl] at h2
  omega
theorem pc_upn {q : Nat → Nat} {w r c g : Nat} : ¬ pc_up q w r c g = (-2 : Int32) := by
  unfold pc_up
  have := pm_tired_le q w r c g
  split
  · exact pn_m2 (by omega)
  · decide
theorem pi_lt4 {x : Int} (h1 : -2147483648 ≤ x) (h2 : x < 2147483648) : Int32.ofInt x < (4 : Int32) ↔ x < 4 := pi_lt (b := 4) h1 h2 (by omega) (by omega)
theorem pi_0lt {x : Int} (h1 : -2147483648 ≤ x) (h2 : x < 2147483648) : (0 : Int32) < Int32.ofInt x ↔ 0 < x := pi_lt (a := 0) (by omega) (by omega) h1 h2
theorem pc_cap {x : Int} (hx : -1000000 ≤ x ∧ x ≤ 1000000) : (if (0 : Int32) < (if Int32.ofInt x < (4 : Int32) then Int32.ofInt x else (4 : Int32)) then (if Int32.ofInt x < (4 : Int32) then Int32.ofInt x else (4 : Int32)) else (0 : Int32)) = nI (if x < 0 then 0 else if 4 < x then 4 else x.toNat) := by
  by_cases h1 : x < 4
  · rw [if_pos ((pi_lt4 (by omega) (by omega)).mpr h1)]
    by_cases h2 : 0 < x
    · rw [if_pos ((pi_0lt (by omega) (by omega)).mpr h2), if_neg (by omega), if_neg (by omega), pi_nI]; congr 1; omega
    · rw [if_neg (fun z => h2 ((pi_0lt (by omega) (by omega)).mp z))]
      by_cases h3 : x < 0
      · rw [if_pos h3]; rfl
      · rw [if_neg h3, if_neg (by omega), show x = 0 from by omega]; rfl
  · rw [if_neg (fun z => h1 ((pi_lt4 (by omega) (by omega)).mp z)), if_pos (by decide), if_neg (by omega)]
    by_cases h3 : 4 < x
    · rw [if_pos h3]; rfl
    · rw [if_neg h3, show x = 4 from by omega]; rfl
theorem pc_told_up {q : Nat → Nat} {w r c g : Nat} {told : Nat → Int32} (h : pc_told q w told) (hc : c ≤ 6) (hg : g < 5) : pc_told q w (va_up told ((r * 7 + c) * 5 + g) (pc_up q w r c g)) := by
  intro r' c' g' h1 h2 h3 h4
  by_cases e : (r' * 7 + c') * 5 + g' = (r * 7 + c) * 5 + g
  · have e3 : g' = g := by omega
    have e2 : c' = c := by omega
    have e1 : r' = r := by omega
    subst e1 e2 e3
    right
    rw [pu_upe]
  · rw [pu_upn e]
    exact h r' c' g' h1 h2 h3 h4
theorem pc_learn {q : Nat → Nat} {w r c g : Nat} {bars rough fa : Nat → Int32} (hq : pm_cliff q) (hr : r < 9) (hb : bars r = nI (q (10 + r))) (hro : rough r = nI (q (28 + r))) : pu_ok (zf_X2_learnFacts (nI w) (nI (q 2)) bars rough fa (nI r) (nI c) (nI g)) (fun a => ∀ i, i < 6 → a i = Int32.ofInt (pm_wd q w r c g i)) := by
  obtain ⟨h1, h2, h3, h4, h5, h6⟩ := hq
  have hb64 : q (10 + r) < 64 := Nat.lt_of_lt_of_le (h4 _ hr).1 (pm_p6 h2)
  unfold zf_X2_learnFacts
  rw [pv_st 0 (by omega) (by omega), pu_e1, pu_ld hr (by omega), pu_e1, pv_st 1 (by omega) (by omega), pu_e1, pv_st 2 (by omega) (by omega), pu_e1, pv_st 3 (by omega) (by omega), pu_e1, pv_st 4 (by omega) (by omega), pu_e1, pu_ld hr (by omega), pu_e1, hb, hro, pb_pc _ hb64, pu_e1, pv_st 5 (by omega) (by omega), pu_e1]
  refine pu_some.mpr ?_
  intro i hi
  have hcase : i = 0 ∨ i = 1 ∨ i = 2 ∨ i = 3 ∨ i = 4 ∨ i = 5 := by omega
  rcases hcase with rfl | rfl | rfl | rfl | rfl | rfl
  · rw [pu_upn (by omega), pu_upn (by omega), pu_upn (by omega), pu_upn (by omega), pu_upn (by omega), pu_upe]; exact pi_nI _
  · rw [pu_upn (by omega), pu_upn (by omega), pu_upn (by omega), pu_upn (by omega), pu_upe]; exact pi_nI _
  · rw [pu_upn (by omega), pu_upn (by omega), pu_upn (by omega), pu_upe]; exact pi_nI _
  · rw [pu_upn (by omega), pu_upn (by omega), pu_upe]; exact pi_nI _
  · rw [pu_upn (by omega), pu_upe]; exact pi_nI _
  · rw [pu_upe, pi_nI, pi_nI, ← Int32.ofInt_sub]; rfl
theorem pc_strengthAbove {n : Nat} {q : Nat → Nat} {w s : Nat} {top things tf tt mf mt : Int32} {bars gives rough code told fa sk : Nat → Int32} (hn : 1000 ≤ n) (hq : pm_cliff q) (hK : pc_K q top things tf tt mf mt bars gives rough code) (hT : pc_told q w told) (hs : pm_st q s) (hs1 : pm_rg s < q 1) (hw : w ≤ 9) :
    pu_ok (zf_X2_strengthAbove n (nI w) top things tf tt mf mt bars rough code told fa sk (nI s)) (fun r => r.1 = pc_up q w (pm_rg s + 1) (pm_pc (pm_hs s)) (pm_sg s) ∧ pc_told q w r.2.1) := by
  have hlt := pm_st_lt hq hs
  have hg := pm_sg_lt s
  have hh := pm_hs_lt s
  have hph := pb_pcle _ hh
  obtain ⟨h1, h2, h3, h4, h5, h6⟩ := id hq
  obtain ⟨rfl, rfl, k3, k4, k5, k6⟩ := hK
  have hr9 : pm_rg s + 1 < 9 := by omega
  obtain ⟨kb, kg, kr⟩ := k3 _ hr9
  have hwb := pm_wdb (w := w) (r := pm_rg s + 1) hq hw hr9 hph hg
  unfold zf_X2_strengthAbove
  rw [pc_rungOf hlt, pu_e1, pn_a1, pu_e1, pc_thingsOf hlt, pu_e1, pb_pc _ hh, pu_e1, pc_strengthOf hlt, pu_e1, if_pos ((pn_le (by omega) (by omega)).mpr (by omega)), pv_mur 7, pn_add, pv_mur 5, pn_add, pu_e1, pu_ld (by omega) (by omega), pu_e1]
  rcases hT (pm_rg s + 1) (pm_pc (pm_hs s)) (pm_sg s) (by omega) (by omega) hph hg with ht | ht
  · rw [if_pos ht]
    refine pu_d1.mpr (pu_mono (pc_learn (c := pm_pc (pm_hs s)) (g := pm_sg s) hq hr9 kb kr) ?_)
    intro a8 ha8
    -- may
    refine pu_d1.mpr (pu_mono (P := fun v => v = nI (if 0 < pm_sg s then 1 else 0)) ?_ ?_)
    · by_cases c3 : 0 < pm_sg s
      · rw [if_neg (fun z => by have := (pv_gt 1 (b := pm_sg s) (by omega) (by omega)).mp z; omega), if_pos c3]; exact pu_some.mpr rfl
      · rw [if_pos ((pv_gt 1 (b := pm_sg s) (by omega) (by omega)).mpr (by omega)), if_neg c3]; exact pu_some.mpr rfl
    rintro _ rfl
    refine pu_d2.mpr (pu_mono (P := fun v => v.1 = nI (if pm_may q w (pm_rg s + 1) (pm_pc (pm_hs s)) (pm_sg s) then 1 else 0)) ?_ ?_)
    · rcases k5 with ⟨e1, e2, e3⟩ | ⟨e1, e2, e3⟩
      · rw [e2, e3, if_pos (by decide)]
        refine pu_some.mpr ?_
        have hmay : pm_may q w (pm_rg s + 1) (pm_pc (pm_hs s)) (pm_sg s) = decide (0 < pm_sg s) := by unfold pm_may; rw [if_pos e1]
        rw [hmay]
        by_cases c3 : 0 < pm_sg s
        · simp [c3]
        · simp [c3]
      · obtain ⟨_, hb, htc⟩ := (h5 1 (by omega)).resolve_left (show ¬ q 5 = 0 by omega)
        have hm1 := pe_tc0 htc
        have hb' : q 7 + q 9 ≤ q 93 := hb
        have hm1' : 1 ≤ q 9 := hm1
        rw [e2, e3, if_neg (fun z => by have := (pn_le (by omega) (by omega)).mp z; omega)]
        refine pu_d2.mpr (pu_mono (pc_reckon (wd := pm_wd q w (pm_rg s + 1) (pm_pc (pm_hs s)) (pm_sg s)) (cd := pm_cd q) (fr := q 7) (many := q 9) (b := false) hn (by omega) (fun k hk => k6 _ (by omega)) ha8 hwb htc) ?_)
        rintro ⟨r1, r2⟩ ⟨x, x1, x2, x3⟩
        dsimp only at x3 ⊢
        have e4 : pm_val q 1 w (pm_rg s + 1) (pm_pc (pm_hs s)) (pm_sg s) = x := by unfold pm_val; rw [show q (6 + 1) = q 7 from rfl, show q (8 + 1) = q 9 from rfl, x1]; rfl
        have hmay : pm_may q w (pm_rg s + 1) (pm_pc (pm_hs s)) (pm_sg s) = decide (x = 1) := by unfold pm_may; rw [if_neg (by omega), e4]
        rw [hmay, x3]
        rcases pe_wtF x2 with rfl | rfl
        · rw [if_pos (by decide), pu_e1]; exact pu_some.mpr rfl
        · rw [if_neg (by decide), pu_e1]; exact pu_some.mpr rfl
    rintro ⟨v13, a14⟩ e13
    dsimp only at e13 ⊢
    subst e13
    rw [pu_e1]
    have e1 : nI (pm_sg s) - (1 : Int32) = Int32.ofInt ((pm_sg s : Int) - 1) := by rw [Int32.ofInt_sub, ← pi_nI]; rfl
    rw [e1]
    by_cases hmay : pm_may q w (pm_rg s + 1) (pm_pc (pm_hs s)) (pm_sg s) = true
    · rw [hmay]
      refine pu_d2.mpr (pu_mono (P := fun v => ∃ x : Int, v.1 = Int32.ofInt x ∧ pm_trd q w (pm_rg s + 1) (pm_pc (pm_hs s)) (pm_sg s) = x ∧ -1000000 ≤ x ∧ x ≤ 1000000) ?_ ?_)
      · rw [if_pos rfl, if_neg (show ¬ nI 1 = (0 : Int32) by decide)]
        rcases k4 with ⟨e1, e2, e3⟩ | ⟨e1, e2, e3⟩
        · rw [e2, e3, if_pos (by decide)]
          refine pu_some.mpr ⟨_, rfl, ?_, by omega, by omega⟩
          unfold pm_trd
          rw [if_neg (by omega)]
        · obtain ⟨_, hb, htc⟩ := (h5 0 (by omega)).resolve_left (show ¬ q 4 = 0 by omega)
          have hm1 := pe_tc0 htc
          have hb' : q 6 + q 8 ≤ q 93 := hb
          have hm1' : 1 ≤ q 8 := hm1
          rw [e2, e3, if_neg (fun z => by have := (pn_le (by omega) (by omega)).mp z; omega)]
          refine pu_d2.mpr (pu_mono (pc_reckon (wd := pm_wd q w (pm_rg s + 1) (pm_pc (pm_hs s)) (pm_sg s)) (cd := pm_cd q) (fr := q 6) (many := q 8) (b := true) hn (by omega) (fun k hk => k6 _ (by omega)) ha8 hwb htc) ?_)
          rintro ⟨r1, r2⟩ ⟨x, x1, x2, x3⟩
          dsimp only at x3 ⊢
          refine pu_some.mpr ⟨x, x3, ?_, pe_wtT x2⟩
          unfold pm_trd pm_val
          rw [if_pos e1, show q (6 + 0) = q 6 from rfl, show q (8 + 0) = q 8 from rfl, x1]; rfl
      · rintro ⟨v18, a19⟩ ⟨x, x1, x2, x3⟩
        dsimp only at x1 ⊢
        subst x1
        rw [if_pos rfl, if_neg (show ¬ nI 1 = (0 : Int32) by decide), pu_e1, pu_e1, pu_e1, pc_cap x3, pu_st (by omega) (by omega), pu_e1, pu_ld (by omega) (by omega), pu_e1, pu_upe]
        have e9 : nI (if x < 0 then 0 else if 4 < x then 4 else x.toNat) = pc_up q w (pm_rg s + 1) (pm_pc (pm_hs s)) (pm_sg s) := by
          unfold pc_up pm_tired
          rw [if_pos hmay, x2]
        rw [e9]
        exact pu_some.mpr ⟨rfl, pc_told_up hT hph hg⟩
    · have hm0 : pm_may q w (pm_rg s + 1) (pm_pc (pm_hs s)) (pm_sg s) = false := by simpa using hmay
      rw [hm0, if_neg (show ¬ (false = true) by decide), if_pos (show nI 0 = (0 : Int32) from rfl), pu_e2, if_pos (show nI 0 = (0 : Int32) from rfl), pu_e1, pu_st (by omega) (by omega), pu_e1, pu_ld (by omega) (by omega), pu_e1, pu_upe]
      have e9 : (-1 : Int32) = pc_up q w (pm_rg s + 1) (pm_pc (pm_hs s)) (pm_sg s) := by
        unfold pc_up
        rw [hm0]; rfl
      rw [e9]
      exact pu_some.mpr ⟨rfl, pc_told_up hT hph hg⟩
  · rw [if_neg (by rw [ht]; exact pc_upn), pu_e1]
    exact pu_some.mpr ⟨ht, hT⟩
