/-! what a deed brings, as numbers -/
def pm_wd (q : Nat → Nat) (w r c g : Nat) : Nat → Int := fun i => if i = 0 then (r : Int) else if i = 1 then (q (28 + r) : Int) else if i = 2 then (g : Int) else if i = 3 then (c : Int) else if i = 4 then (w : Int) else (q 2 : Int) - (pm_pc (q (10 + r)) : Int)
def pm_cd (q : Nat → Nat) : Nat → Nat := fun k => q (94 + k)
def pm_val (q : Nat → Nat) (law w r c g : Nat) : Int := (pe_ev (pm_wd q w r c g) (pm_cd q) (q (6 + law)) (q (8 + law)) []).headD 0
def pm_may (q : Nat → Nat) (w r c g : Nat) : Bool := if q 5 = 0 then decide (0 < g) else decide (pm_val q 1 w r c g = 1)
def pm_trd (q : Nat → Nat) (w r c g : Nat) : Int := if q 4 = 1 then pm_val q 0 w r c g else (g : Int) - 1
def pm_tired (q : Nat → Nat) (w r c g : Nat) : Nat := if pm_trd q w r c g < 0 then 0 else if 4 < pm_trd q w r c g then 4 else (pm_trd q w r c g).toNat
def pm_wy (q : Nat → Nat) (w s m : Nat) : Nat :=
  if m = 0 then 0
  else if m = 1 then (if pm_rg s = q 1 then 2 else if q (10 + (pm_rg s + 1)) &&& pm_hs s = 0 then (if pm_may q w (pm_rg s + 1) (pm_pc (pm_hs s)) (pm_sg s) then 0 else 4) else 3)
  else if m = 2 then (if pm_rg s = 0 then 2 else if q (10 + (pm_rg s - 1)) &&& pm_hs s = 0 then 0 else 3)
  else if m < 9 then (if (pm_hs s).testBit (m - 3) then 0 else 2)
  else (if (pm_hs s).testBit (m - 9) then 2 else if (q (19 + pm_rg s)).testBit (m - 9) then (if (q (10 + pm_rg s)).testBit (m - 9) then 3 else 0) else 2)
def pm_ac (q : Nat → Nat) (w s m : Nat) : Nat :=
  if m = 0 then (if pm_sg s < 4 then s + 1 else s)
  else if m = 1 then pm_sd (pm_rg s + 1) (pm_hs s) (pm_tired q w (pm_rg s + 1) (pm_pc (pm_hs s)) (pm_sg s))
  else if m = 2 then s - 320
  else if m < 9 then s - 5 * 2 ^ (m - 3)
  else s + 5 * 2 ^ (m - 9)
/-- a cliff that was told well -/
def pm_cliff (q : Nat → Nat) : Prop := (1 ≤ q 1 ∧ q 1 ≤ 8) ∧ q 2 ≤ 6 ∧ q 3 ≤ 10 ∧ (∀ r, r < 9 → q (10 + r) < 2 ^ q 2 ∧ q (19 + r) < 2 ^ q 2 ∧ q (28 + r) ≤ 9) ∧ (∀ law, law < 2 → q (4 + law) = 0 ∨ q (4 + law) = 1 ∧ q (6 + law) + q (8 + law) ≤ q 93 ∧ pe_tc (pm_cd q) (q (6 + law)) (q (8 + law)) [] = some [decide (law = 0)]) ∧ q 93 ≤ 900
def pm_st (q : Nat → Nat) (s : Nat) : Prop := pm_rg s ≤ q 1 ∧ pm_hs s < 2 ^ q 2
def pr_all (all : Nat → Int32) (q : Nat → Nat) : Prop := ∀ k, k < 994 → all k = nI (q k)
theorem pm_p6 {t : Nat} (h : t ≤ 6) : 2 ^ t ≤ 64 := Nat.pow_le_pow_right (n := 2) (by omega) h
theorem pm_st_lt {q : Nat → Nat} {s : Nat} (hq : pm_cliff q) (hs : pm_st q s) : s < 2880 := by
  have h1 := hq.1
  have h2 := hs.1
  unfold pm_rg at h2
  omega
theorem pu_ex {α : Type} {o : Option α} {x : α} (h : pu_ok o (fun a => a = x)) : o = some x := by
  obtain ⟨a, h1, h2⟩ := h
  rw [h1, h2]
theorem pn_and0 {a b : Nat} (ha : a < 2147483648) : (nI a &&& nI b) = 0 ↔ a &&& b = 0 := by
  rw [pn_and, show (0 : Int32) = nI 0 from rfl]
  exact pn_eq (Nat.lt_of_le_of_lt Nat.and_le_left ha) (by omega)
theorem pr_rungIn {s : Nat} (h : s < 2880) : zf_X11_rungIn (nI s) = some (nI (pm_rg s)) := by
  unfold zf_X11_rungIn
  rw [show (320 : Int32) = nI 320 from rfl, pn_div (by omega) (by omega)]; rfl
theorem pr_hasIn {s : Nat} (h : s < 2880) : zf_X11_hasIn (nI s) = some (nI (pm_hs s)) := by
  unfold zf_X11_hasIn
  rw [show (5 : Int32) = nI 5 from rfl, show (64 : Int32) = nI 64 from rfl, pn_div (by omega) (by omega), pn_rem (by omega) (by omega)]; rfl
theorem pn_rem5 {s : Nat} (h : s < 2880) : za_rem (nI s) (5 : Int32) = nI (pm_sg s) := by
  rw [show (5 : Int32) = nI 5 from rfl, pn_rem (by omega) (by omega)]; rfl
theorem pr_standOf (r h g : Nat) : zf_X11_standOf (nI r) (nI h) (nI g) = some (nI (pm_sd r h g)) := by
  unfold zf_X11_standOf
  rw [show (5 : Int32) = nI 5 from rfl, show (320 : Int32) = nI 320 from rfl, pn_mul, pn_mul, pn_add, pn_add]; rfl
theorem pc_rungOf {s : Nat} (h : s < 2880) : zf_X10_rungOf (nI s) = some (nI (pm_rg s)) := by
  unfold zf_X10_rungOf
  rw [show (320 : Int32) = nI 320 from rfl, pn_div (by omega) (by omega)]; rfl
theorem pc_thingsOf {s : Nat} (h : s < 2880) : zf_X10_thingsOf (nI s) = some (nI (pm_hs s)) := by
  unfold zf_X10_thingsOf
  rw [show (5 : Int32) = nI 5 from rfl, show (64 : Int32) = nI 64 from rfl, pn_div (by omega) (by omega), pn_rem (by omega) (by omega)]; rfl
theorem pc_strengthOf {s : Nat} (h : s < 2880) : zf_X10_strengthOf (nI s) = some (nI (pm_sg s)) := by
  unfold zf_X10_strengthOf
  rw [pn_rem5 h]
theorem pc_standOf (r h g : Nat) : zf_X10_standOf (nI r) (nI h) (nI g) = some (nI (pm_sd r h g)) := by
  unfold zf_X10_standOf
  rw [show (5 : Int32) = nI 5 from rfl, show (64 : Int32) = nI 64 from rfl, pn_mul, pn_add, pn_mul, pn_add]
  congr 2
  unfold pm_sd
  omega
def pm_pcn (h : Nat) : Nat → Nat
  | 0 => 0
  | i + 1 => pm_pcn h i + (if h.testBit i then 1 else 0)
theorem pm_pcn10 : ∀ h, h < 64 → pm_pcn h 10 = pm_pc h := by decide +kernel
theorem pr_bitsOf {n h : Nat} (hn : 100 ≤ n) (hh : h < 64) : zf_X11_bitsOf n (nI h) = some (nI (pm_pc h)) := by
  apply pu_ex
  unfold zf_X11_bitsOf
  refine pu_d3.mpr (pu_up (fun i v => v.1 = nI (pm_pcn h i) ∧ v.2 = nI i) 10 (by omega) ⟨rfl, rfl⟩ ?_)
  rintro i ⟨v1, v2⟩ hi ⟨e1, e2⟩
  dsimp only at e1 e2 ⊢
  subst e1 e2
  unfold zb_X11_bitsOf_4
  by_cases hc : 10 ≤ i
  · rw [if_pos ((pv_le 10 (by omega) (by omega)).mpr hc)]
    refine pu_some.mpr ⟨fun z => absurd z Nat.one_ne_zero, fun _ => pu_some.mpr ?_⟩
    rw [show i = 10 from by omega, pm_pcn10 h hh]
  · rw [if_neg (fun z => hc ((pv_le 10 (by omega) (by omega)).mp z)), show (1 : Int32) = nI 1 from rfl, pb_bit h hh i (by omega), pn_add, pu_e1, pn_add, pu_e1]
    exact pu_some.mpr ⟨fun _ => ⟨by omega, rfl, rfl⟩, fun z => absurd rfl z⟩
theorem pr_isBarred {all : Nat → Int32} {q : Nat → Nat} {r h : Nat} (ha : pr_all all q) (hr : r < 9) (hb : q (10 + r) < 64) : zf_X11_isBarred all (nI r) (nI h) = some (nI (if q (10 + r) &&& h = 0 then 0 else 1)) := by
  unfold zf_X11_isBarred
  rw [show (10 : Int32) + nI r = nI (10 + r) from pn_add 10 r, pu_ld (by omega) (by omega), pu_e1, ha _ (by omega)]
  by_cases hc : q (10 + r) &&& h = 0
  · rw [if_pos ((pn_and0 (by omega)).mpr hc), if_pos hc]; rfl
  · rw [if_neg (fun z => hc ((pn_and0 (by omega)).mp z)), if_neg hc]; rfl
theorem pm_wdb {q : Nat → Nat} {w r c g : Nat} (hq : pm_cliff q) (hw : w ≤ 9) (hr : r < 9) (hc : c ≤ 6) (hg : g < 5) : ∀ i, -1000000 ≤ pm_wd q w r c g i ∧ pm_wd q w r c g i ≤ 1000000 := by
  intro i
  obtain ⟨h1, h2, h3, h4, h5, h6⟩ := hq
  have h7 := (h4 r hr).2.2
  have h8 := pb_pcle (q (10 + r)) (Nat.lt_of_lt_of_le (h4 r hr).1 (pm_p6 h2))
  unfold pm_wd
  split
  · omega
  · split
    · omega
    · split
      · omega
      · split
        · omega
        · split <;> omega
/-- the reference's law -/
theorem pr_reckons {n : Nat} {all rk wds : Nat → Int32} {q : Nat → Nat} {law s w : Nat} (hn : 1000 ≤ n) (ha : pr_all all q) (hq : pm_cliff q) (hlaw : law < 2) (ht : q (4 + law) = 1) (hs : pm_st q s) (hs1 : pm_rg s < q 1) (hw : w ≤ 9) :
    pu_ok (zf_X11_reckons n all rk wds (nI law) (nI s) (nI w)) (fun r => r.1 = Int32.ofInt (pm_val q law w (pm_rg s + 1) (pm_pc (pm_hs s)) (pm_sg s)) ∧ pe_wt [decide (law = 0)] [pm_val q law w (pm_rg s + 1) (pm_pc (pm_hs s)) (pm_sg s)]) := by
  have hlt := pm_st_lt hq hs
  have hq' := hq
  obtain ⟨h1, h2, h3, h4, h5, h6⟩ := hq
  obtain ⟨h7, h8, h9⟩ := (h5 law hlaw).resolve_left (by omega)
  have hh := pm_hs_lt s
  have hg := pm_sg_lt s
  have hr9 : pm_rg s + 1 < 9 := by omega
  have hb64 : q (10 + (pm_rg s + 1)) < 64 := Nat.lt_of_lt_of_le (h4 _ hr9).1 (pm_p6 h2)
  have hpb := pb_pcle _ hb64
  have hph := pb_pcle _ hh
  unfold zf_X11_reckons
  rw [pr_rungIn hlt, pu_e1, pn_a1, pu_e1, show (0 : Int32) = nI 0 from rfl, pu_st (by omega) (by omega), pu_e1, show (28 : Int32) + nI (pm_rg s + 1) = nI (28 + (pm_rg s + 1)) from pn_add _ _, pu_ld (by omega) (by omega), pu_e1, show (1 : Int32) = nI 1 from rfl, pu_st (by omega) (by omega), pu_e1, show (2 : Int32) = nI 2 from rfl, pu_st (by omega) (by omega), pu_e1, pr_hasIn hlt, pu_e1, pr_bitsOf (by omega) hh, pu_e1, show (3 : Int32) = nI 3 from rfl, pu_st (by omega) (by omega), pu_e1, show (4 : Int32) = nI 4 from rfl, pu_st (by omega) (by omega), pu_e1, pu_ld (by omega) (by omega), pu_e1, show (10 : Int32) + nI (pm_rg s + 1) = nI (10 + (pm_rg s + 1)) from pn_add _ _, pu_ld (by omega) (by omega), pu_e1, ha (28 + (pm_rg s + 1)) (by omega), ha 2 (by omega), ha (10 + (pm_rg s + 1)) (by omega), pr_bitsOf (by omega) hb64, pu_e1]
  rw [show (5 : Int32) = nI 5 from rfl, pu_st (f := _) (k := 5) (by omega) (by omega), pu_e1]
  refine pu_d4.mpr (pu_mono (pr_reckloop (wd := pm_wd q w (pm_rg s + 1) (pm_pc (pm_hs s)) (pm_sg s)) (cd := pm_cd q) (law := law) (fr := q (6 + law)) (many := q (8 + law)) (b := decide (law = 0)) hn hlaw (ha _ (by omega)) (ha _ (by omega)) (by omega) (fun k hk => ha _ (by omega)) ?_ (pm_wdb hq' hw hr9 hph hg) h9) ?_)
  · intro i hi
    have hz : za_rem (nI s) (nI 5) = nI (pm_sg s) := pn_rem5 hlt
    have hcase : i = 0 ∨ i = 1 ∨ i = 2 ∨ i = 3 ∨ i = 4 ∨ i = 5 := by omega
    rcases hcase with rfl | rfl | rfl | rfl | rfl | rfl
    · rw [pu_upn (by omega), pu_upn (by omega), pu_upn (by omega), pu_upn (by omega), pu_upn (by omega), pu_upe]; exact pi_nI _
    · rw [pu_upn (by omega), pu_upn (by omega), pu_upn (by omega), pu_upn (by omega), pu_upe]; exact pi_nI _
    · rw [pu_upn (by omega), pu_upn (by omega), pu_upn (by omega), pu_upe, hz]; exact pi_nI _
    · rw [pu_upn (by omega), pu_upn (by omega), pu_upe]; exact pi_nI _
    · rw [pu_upn (by omega), pu_upe]; exact pi_nI _
    · rw [pu_upe, pi_nI, pi_nI, ← Int32.ofInt_sub]; rfl
  · rintro ⟨g, v1, v2, a⟩ ⟨x, e1, e2, e3⟩
    dsimp only at e3 ⊢
    rw [pu_ld (by omega) (by omega), pu_e1, e3]
    refine pu_some.mpr ?_
    have e4 : pm_val q law w (pm_rg s + 1) (pm_pc (pm_hs s)) (pm_sg s) = x := by unfold pm_val; rw [e1]; rfl
    rw [e4]
    exact ⟨rfl, e2⟩
