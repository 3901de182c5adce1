/-! attempt -/
theorem pb_in0 : ∀ j, j < 4 → ∀ r, r < 256 → ∀ k, k < 2 → zf_X11_isIn (Int32.toInt64 (nI (256 * j + r))) (nI k) = some (nI (if (256 * j + r).testBit k then 1 else 0)) := by decide +kernel
theorem pb_in2 : ∀ j, j < 4 → ∀ r, r < 256 → ∀ k, k < 2 → zf_X11_isIn (Int32.toInt64 (nI (256 * j + r))) (nI (2 + k)) = some (nI (if (256 * j + r).testBit (2 + k) then 1 else 0)) := by decide +kernel
theorem pb_in4 : ∀ j, j < 4 → ∀ r, r < 256 → ∀ k, k < 2 → zf_X11_isIn (Int32.toInt64 (nI (256 * j + r))) (nI (4 + k)) = some (nI (if (256 * j + r).testBit (4 + k) then 1 else 0)) := by decide +kernel
theorem pb_in6 : ∀ j, j < 4 → ∀ r, r < 256 → ∀ k, k < 2 → zf_X11_isIn (Int32.toInt64 (nI (256 * j + r))) (nI (6 + k)) = some (nI (if (256 * j + r).testBit (6 + k) then 1 else 0)) := by decide +kernel
theorem pb_in8 : ∀ j, j < 4 → ∀ r, r < 256 → ∀ k, k < 2 → zf_X11_isIn (Int32.toInt64 (nI (256 * j + r))) (nI (8 + k)) = some (nI (if (256 * j + r).testBit (8 + k) then 1 else 0)) := by decide +kernel
theorem pr_isInL {h k : Nat} (hh : h < 1024) (hk : k < 10) : zf_X11_isIn (Int32.toInt64 (nI h)) (nI k) = some (nI (if h.testBit k then 1 else 0)) := by
  have e : h = 256 * (h / 256) + h % 256 := by omega
  rw [e]
  have hj : h / 256 < 4 := by omega
  have hr : h % 256 < 256 := by omega
  have c : k < 2 ∨ (∃ d, d < 2 ∧ k = 2 + d) ∨ (∃ d, d < 2 ∧ k = 4 + d) ∨ (∃ d, d < 2 ∧ k = 6 + d) ∨ (∃ d, d < 2 ∧ k = 8 + d) := by
    by_cases a : k < 2
    · exact Or.inl a
    by_cases b : k < 4
    · exact Or.inr (Or.inl ⟨k - 2, by omega, by omega⟩)
    by_cases b : k < 6
    · exact Or.inr (Or.inr (Or.inl ⟨k - 4, by omega, by omega⟩))
    by_cases b : k < 8
    · exact Or.inr (Or.inr (Or.inr (Or.inl ⟨k - 6, by omega, by omega⟩)))
    · exact Or.inr (Or.inr (Or.inr (Or.inr ⟨k - 8, by omega, by omega⟩)))
  rcases c with c | ⟨d, c, rfl⟩ | ⟨d, c, rfl⟩ | ⟨d, c, rfl⟩ | ⟨d, c, rfl⟩
  · exact pb_in0 _ hj _ hr _ c
  · exact pb_in2 _ hj _ hr _ c
  · exact pb_in4 _ hj _ hr _ c
  · exact pb_in6 _ hj _ hr _ c
  · exact pb_in8 _ hj _ hr _ c
theorem pm_ws_n (q : Nat → Nat) (s0 : Nat) (c : Nat → Int) (sz : Nat) : ∀ k, k ≤ 10 → ∃ b, b < 2 ^ k ∧ pm_ws q s0 c sz k = nI b := by
  intro k
  induction k with
  | zero => intro _; exact ⟨0, by omega, rfl⟩
  | succ k ih =>
    intro hk
    obtain ⟨b, b1, b2⟩ := ih (by omega)
    have hp : 2 ^ k < 2 ^ (k + 1) := Nat.pow_lt_pow_right (by omega) (by omega)
    by_cases z : pm_tt q k s0 c sz = 0
    · refine ⟨b, by omega, ?_⟩
      show (if _ then _ else _) = _
      rw [if_pos z, b2]
    · refine ⟨b ||| 2 ^ k, Nat.or_lt_two_pow (by omega) hp, ?_⟩
      show (if _ then _ else _) = _
      rw [if_neg z, b2, pn_or]
def pm_ct (x : Nat → Nat) (y : Nat) : Nat → Nat
  | 0 => 0
  | k + 1 => pm_ct x y k + if x k = y then 1 else 0
theorem pm_ct_le (x : Nat → Nat) (y : Nat) : ∀ k, pm_ct x y k ≤ k := by
  intro k
  induction k with
  | zero => exact Nat.le_refl _
  | succ k ih =>
    show pm_ct x y k + (if x k = y then 1 else 0) ≤ k + 1
    split <;> omega
def pm_gr (x : Nat → Nat) (K g : Nat) : Prop := (∀ w, w < K → ¬ x w = 0 → pm_ct x (x w) K ≤ g) ∧ (g = 0 ∨ ∃ w, w < K ∧ ¬ x w = 0 ∧ pm_ct x (x w) K = g)
theorem pm_gr_u {x : Nat → Nat} {K g h : Nat} (a : pm_gr x K g) (b : pm_gr x K h) : g = h := by
  obtain ⟨a1, a2⟩ := a
  obtain ⟨b1, b2⟩ := b
  have h1 : g ≤ h := by
    rcases a2 with a2 | ⟨w, w1, w2, w3⟩
    · omega
    · have := b1 w w1 w2; omega
  have h2 : h ≤ g := by
    rcases b2 with b2 | ⟨w, w1, w2, w3⟩
    · omega
    · have := a1 w w1 w2; omega
  omega
theorem pm_gr_s {x : Nat → Nat} {K g : Nat} (a : pm_gr x K g) (hx : x K = 0) : pm_gr x (K + 1) g := by
  obtain ⟨a1, a2⟩ := a
  have e : ∀ w, ¬ x w = 0 → pm_ct x (x w) (K + 1) = pm_ct x (x w) K := fun w hw => by
    show pm_ct x (x w) K + (if x K = x w then 1 else 0) = _
    rw [if_neg (by rw [hx]; exact fun z => hw z.symm)]; rfl
  refine ⟨fun w w1 w2 => ?_, ?_⟩
  · rw [e w w2]
    have : w < K := by
      rcases Nat.lt_or_ge w K with h | h
      · exact h
      · have : w = K := by omega
        subst this; exact absurd hx w2
    exact a1 w this w2
  · rcases a2 with a2 | ⟨w, w1, w2, w3⟩
    · exact Or.inl a2
    · exact Or.inr ⟨w, by omega, w2, by rw [e w w2]; exact w3⟩
theorem pm_gr_t {x : Nat → Nat} {K g : Nat} (a : pm_gr x K g) (hx : ¬ x K = 0) : pm_gr x (K + 1) (if g < pm_ct x (x K) (K + 1) then pm_ct x (x K) (K + 1) else g) := by
  obtain ⟨a1, a2⟩ := a
  have e0 : pm_ct x (x K) (K + 1) = pm_ct x (x K) K + 1 := by
    show pm_ct x (x K) K + (if x K = x K then 1 else 0) = _
    rw [if_pos rfl]
  have e1 : ∀ w, ¬ x K = x w → pm_ct x (x w) (K + 1) = pm_ct x (x w) K := fun w hw => by
    show pm_ct x (x w) K + (if x K = x w then 1 else 0) = _
    rw [if_neg hw]; rfl
  refine ⟨fun w w1 w2 => ?_, ?_⟩
  · by_cases z : x K = x w
    · rw [← z]
      split <;> omega
    · rw [e1 w z]
      have hwK : w < K := by
        rcases Nat.lt_or_ge w K with h | h
        · exact h
        · have : w = K := by omega
          subst this; exact absurd rfl z
      have := a1 w hwK w2
      split <;> omega
  · by_cases z : g < pm_ct x (x K) (K + 1)
    · rw [if_pos z]
      exact Or.inr ⟨K, by omega, hx, rfl⟩
    · rw [if_neg z]
      rcases a2 with a2 | ⟨w, w1, w2, w3⟩
      · exact Or.inl a2
      · refine Or.inr ⟨w, by omega, w2, ?_⟩
        rw [e1 w (fun y => by rw [y] at e0 z; omega), w3]
def pm_av (y : Nat) : Int32 := if y = 0 then (-1 : Int32) else nI (y - 1)
theorem pm_av_i {y z : Nat} (hy : y < 10000) (hz : z < 10000) : pm_av y = pm_av z ↔ y = z := by
  unfold pm_av
  refine ⟨fun h => ?_, fun h => by rw [h]⟩
  by_cases a : y = 0
  · by_cases b : z = 0
    · omega
    · rw [if_pos a, if_neg b] at h
      exact ((pn_ne1 (by omega)).mp h.symm).elim
  · by_cases b : z = 0
    · rw [if_neg a, if_pos b] at h
      exact ((pn_ne1 (by omega)).mp h).elim
    · rw [if_neg a, if_neg b] at h
      have := (pn_eq (by omega) (by omega)).mp h
      omega
theorem pm_av_1 {y : Nat} (hy : y < 10000) : pm_av y = (-1 : Int32) ↔ y = 0 := by
  have := pm_av_i hy (show 0 < 10000 by omega)
  exact this
def pm_en (q : Nat → Nat) (s0 m b : Nat) : Nat → Nat := fun w => if b.testBit w then (if pm_wy q w s0 m = 0 then pm_ac q w s0 m else s0) + 1 else 0
theorem pm_av_en {q : Nat → Nat} {s0 m b i : Nat} (h : b.testBit i = true) : pm_av (pm_en q s0 m b i) = nI (if pm_wy q i s0 m = 0 then pm_ac q i s0 m else s0) := by
  have e : pm_en q s0 m b i = (if pm_wy q i s0 m = 0 then pm_ac q i s0 m else s0) + 1 := by unfold pm_en; rw [if_pos h]
  rw [e]
  generalize (if pm_wy q i s0 m = 0 then pm_ac q i s0 m else s0) = z
  show (if z + 1 = 0 then (-1 : Int32) else nI (z + 1 - 1)) = nI z
  rw [if_neg (by omega), Nat.add_sub_cancel]
section PAt
variable {n : Nat} {q : Nat → Nat} {w s0 : Nat} {top things tf tt mf mt : Int32} {bars gives rough code told fa sk : Nat → Int32}
theorem pm_en_lt {m b k : Nat} (hq : pm_cliff q) (h0 : pm_st q s0) (hm : m < 3) : pm_en q s0 m b k < 10000 := by
  unfold pm_en
  split
  · split
    · rename_i h1 h2
      have := pm_st_lt hq (pm_acst hq h0 (by omega) h2); omega
    · have := pm_st_lt hq h0; omega
  · omega
/-- the class's inner count -/
theorem pc_alike {K : Nat} {a : Nat → Int32} {x : Nat → Nat} (hn : 1000 ≤ n) (hK : K < 10) (hx : ∀ k, k ≤ K → x k < 10000) (ha : ∀ k, k ≤ K → a k = pm_av (x k)) : pu_ok (za_it (fun v => zb_X10_mostAlike_89 (nI K) a v.1 v.2) n ((0 : Int32), (0 : Int32))) (fun r => r.2.1 = nI (pm_ct x (x K) (K + 1))) := by
  refine pu_up (fun i v => v.1 = nI (pm_ct x (x K) i) ∧ v.2 = nI i) (K + 1) (by omega) ⟨rfl, rfl⟩ ?_
  rintro i ⟨v1, v2⟩ hi ⟨e1, e2⟩
  dsimp only at e1 e2 ⊢
  subst e1 e2
  unfold zb_X10_mostAlike_89
  by_cases hd : K < i
  · have : i = K + 1 := by omega
    subst this
    rw [if_pos ((pn_lt (by omega) (by omega)).mpr hd)]
    exact pu_out (by decide) rfl
  · rw [if_neg (fun z => hd ((pn_lt (by omega) (by omega)).mp z)), pu_ld (by omega) (by omega), pu_e1, pu_ld (by omega) (by omega), pu_e1, ha i (by omega), ha K (by omega)]
    have hi9 : i ≤ K := by omega
    by_cases c : x i = x K
    · rw [if_pos ((pm_av_i (hx i hi9) (hx K (by omega))).mpr c), pn_a1, pu_e1, pu_e1, pn_a1, pu_e1]
      refine pu_go ⟨by omega, ?_, rfl⟩
      show nI (pm_ct x (x K) i + 1) = nI (pm_ct x (x K) i + if x i = x K then 1 else 0)
      rw [if_pos c]
    · rw [if_neg (fun z => c ((pm_av_i (hx i hi9) (hx K (by omega))).mp z)), pu_e1, pn_a1, pu_e1]
      refine pu_go ⟨by omega, ?_, rfl⟩
      show nI (pm_ct x (x K) i) = nI (pm_ct x (x K) i + if x i = x K then 1 else 0)
      rw [if_neg c]; rfl
theorem pc_mostAlike {m b w1 : Nat} (hn : 1000 ≤ n) (hq : pm_cliff q) (hK : pc_K q top things tf tt mf mt bars gives rough code) (h0 : pm_st q s0) (hw1 : w1 ≤ 9) (hT : pc_told q w1 told) (hm : m < 3) (hb : b < 1024) : pu_ok (zf_X10_mostAlike n top things tf tt mf mt bars gives rough code (nI s0) (nI w1) told fa sk (nI b) (nI m)) (fun r => ∃ g w2, pm_gr (pm_en q s0 m b) 10 g ∧ g ≤ 10 ∧ r.1 = nI g ∧ w2 ≤ 9 ∧ r.2.1 = nI w2 ∧ pc_told q w2 r.2.2.1) := by
  unfold zf_X10_mostAlike
  have hlt := fun k => pm_en_lt (m := m) (b := b) (k := k) hq h0 hm
  refine pu_d8.mpr (pu_up (fun i v => ∃ g w2, pm_gr (pm_en q s0 m b) i g ∧ g ≤ i ∧ v.1 = nI g ∧ v.2.1 = nI i ∧ w2 ≤ 9 ∧ v.2.2.1 = nI w2 ∧ pc_told q w2 v.2.2.2.1 ∧ ∀ k, k < i → v.2.2.2.2.2.2 k = pm_av (pm_en q s0 m b k)) 10 (by omega) ⟨0, w1, ⟨fun w z => by omega, Or.inl rfl⟩, Nat.le_refl _, rfl, rfl, hw1, rfl, hT, fun k z => by omega⟩ ?_)
  rintro i ⟨v1, v2, v3, a4, a5, a6, a7⟩ hi ⟨g, w2, g1, g2, e1, e2, e3, e4, e5, e6⟩
  dsimp only at e1 e2 e4 e5 e6 ⊢
  subst e1 e2 e4
  unfold zb_X10_mostAlike_11
  by_cases hd : 10 ≤ i
  · have : i = 10 := by omega
    subst this
    rw [if_pos ((pv_le 10 (by omega) (by omega)).mpr hd)]
    exact pu_out (by decide) (pu_some.mpr ⟨g, w2, g1, g2, rfl, e3, rfl, e5⟩)
  rw [if_neg (fun z => hd ((pv_le 10 (by omega) (by omega)).mp z)), pb_bitL (by omega) (by omega)]
  by_cases hbit : b.testBit i = true
  rotate_left
  · have hz : pm_en q s0 m b i = 0 := by unfold pm_en; rw [if_neg hbit]
    rw [if_neg hbit, if_pos (show nI 0 = (0 : Int32) from rfl), pu_st (by omega) (by omega), pu_e1, pu_e6, pn_a1, pu_e1]
    refine pu_go ⟨by omega, g, w2, pm_gr_s g1 hz, by omega, rfl, rfl, e3, rfl, e5, fun k hk => ?_⟩
    dsimp only
    by_cases f : k = i
    · rw [f, pu_upe, hz]; rfl
    · rw [pu_upn f]; exact e6 k (by omega)
  rw [if_pos hbit, if_neg (show ¬ nI 1 = (0 : Int32) by decide)]
  refine pu_d6.mpr (pu_d2.mpr (pu_mono (pc_useWind hn hq e3 (show i ≤ 9 by omega) e5) ?_))
  rintro ⟨x1, x2⟩ ⟨x3, x4⟩
  dsimp only at x3 x4 ⊢
  subst x3
  have hdd : nI m = nI (pm_dd m) := by unfold pm_dd; rw [if_pos hm]
  rw [hdd]
  refine pu_d4.mpr (pu_mono (pc_after hn hq hK x4 h0 (Or.inl hm) (show i ≤ 9 by omega)) ?_)
  rintro ⟨y1, y2, y3, y4⟩ ⟨z1, z2⟩
  dsimp only at z1 z2 ⊢
  have hst : (if y1 = (-1 : Int32) then some (nI s0) else some y1) = some (pm_av (pm_en q s0 m b i)) := by
    rw [pm_av_en hbit]
    rcases z1 with ⟨z1, rfl⟩ | ⟨z1, rfl⟩
    · have hlt2 := pm_st_lt hq (pm_acst hq h0 (by omega) z1)
      rw [if_pos z1, if_neg (fun z => (pn_ne1 (a := pm_ac q i s0 m) (by omega)).mp z)]
    · rw [if_neg z1, if_pos rfl]
  rw [hst, pu_e1, pu_st (by omega) (by omega), pu_e1]
  have hnz : ¬ pm_en q s0 m b i = 0 := by unfold pm_en; rw [if_pos hbit]; omega
  have ha7 : ∀ k, k ≤ i → va_up a7 i (pm_av (pm_en q s0 m b i)) k = pm_av (pm_en q s0 m b k) := fun k hk => by
    by_cases f : k = i
    · rw [f, pu_upe]
    · rw [pu_upn f]; exact e6 k (by omega)
  refine pu_d3.mpr (pu_mono (pc_alike (x := pm_en q s0 m b) hn (by omega) (fun k _ => hlt k) ha7) ?_)
  rintro ⟨t1, t2, t3⟩ t4
  dsimp only at t4 ⊢
  subst t4
  have hle := pm_ct_le (pm_en q s0 m b) (pm_en q s0 m b i) (i + 1)
  have hmax : (if nI g < nI (pm_ct (pm_en q s0 m b) (pm_en q s0 m b i) (i + 1)) then nI (pm_ct (pm_en q s0 m b) (pm_en q s0 m b i) (i + 1)) else nI g) = nI (if g < pm_ct (pm_en q s0 m b) (pm_en q s0 m b i) (i + 1) then pm_ct (pm_en q s0 m b) (pm_en q s0 m b i) (i + 1) else g) := by
    by_cases f : g < pm_ct (pm_en q s0 m b) (pm_en q s0 m b i) (i + 1)
    · rw [if_pos f, if_pos ((pn_lt (by omega) (by omega)).mpr f)]
    · rw [if_neg f, if_neg (fun z => f ((pn_lt (by omega) (by omega)).mp z))]
  rw [hmax, pu_e1]
  refine pu_some.mpr ?_
  dsimp only
  rw [pn_a1, pu_e1]
  refine pu_go ⟨by omega, _, i, pm_gr_t g1 hnz, ?_, rfl, rfl, by omega, rfl, z2, fun k hk => ha7 k (by omega)⟩
  split <;> omega
theorem pr_mostAlike {all rk wds sb : Nat → Int32} {m b : Nat} (hn : 1000 ≤ n) (ha : pr_all all q) (hq : pm_cliff q) (hs : pm_now q = s0) (h0 : pm_st q s0) (hm : m < 3) (hb : b < 1024) : pu_ok (zf_X11_mostAlike n all rk wds sb (nI m) (nI b)) (fun r => ∃ g, pm_gr (pm_en q s0 m b) 10 g ∧ g ≤ 10 ∧ r.1 = nI g) := by
  unfold zf_X11_mostAlike
  have hlt := fun k => pm_en_lt (m := m) (b := b) (k := k) hq h0 hm
  refine pu_d5.mpr (pu_up (fun i v => v.1 = nI i ∧ ∀ k, k < i → v.2.2.2 k = pm_av (pm_en q s0 m b k)) 10 (by omega) ⟨rfl, fun k z => by omega⟩ ?_)
  rintro i ⟨v1, a2, a3, a4⟩ hi ⟨e1, e2⟩
  dsimp only at e1 e2 ⊢
  subst e1
  unfold zb_X11_mostAlike_5
  by_cases hd : 10 ≤ i
  rotate_left
  · rw [if_neg (fun z => hd ((pv_le 10 (by omega) (by omega)).mp z)), pr_standNow ha, pu_e1, hs]
    refine pu_d3.mpr (pu_mono (pr_whyBy hn ha hq h0 (by omega) (show i ≤ 9 by omega)) ?_)
    rintro ⟨w1, w2, w3⟩ hw
    dsimp only at hw ⊢
    subst hw
    have hbr : pu_ok (if nI (pm_wy q i s0 m) = 0 then zd_1 (some (nI s0)) (fun v9 => zd_3 (zf_X11_actedTo n all w2 w3 v9 (nI m) (nI i)) (fun v10 a11 a12 => some (v10, a11, a12))) else zd_1 (some (nI s0)) (fun v13 => some (v13, w2, w3))) (fun r => r.1 = nI (if pm_wy q i s0 m = 0 then pm_ac q i s0 m else s0)) := by
      by_cases c : pm_wy q i s0 m = 0
      · rw [c, if_pos (show nI 0 = (0 : Int32) from rfl), if_pos rfl, pu_e1]
        refine pu_d3.mpr (pu_mono (pr_actedTo hn ha hq h0 (by omega) (by omega) c) ?_)
        rintro ⟨u1, u2, u3⟩ hu
        exact pu_some.mpr hu
      · rw [if_neg (fun z => c ((pv_eq 0 (by omega) (Nat.lt_trans (pm_wy_lt q i s0 m) (by omega))).mp z)), if_neg c, pu_e1]
        exact pu_some.mpr rfl
    refine pu_d3.mpr (pu_mono hbr ?_)
    rintro ⟨u1, u2, u3⟩ hu
    dsimp only at hu ⊢
    subst hu
    rw [pr_isInL hb (by omega), pu_e1]
    have hbit : (if nI (if b.testBit i then 1 else 0) = (0 : Int32) then some (-1 : Int32) else some (nI (if pm_wy q i s0 m = 0 then pm_ac q i s0 m else s0))) = some (pm_av (pm_en q s0 m b i)) := by
      by_cases c : b.testBit i = true
      · rw [pm_av_en c, if_pos c, if_neg (show ¬ nI 1 = (0 : Int32) by decide)]
      · have hz : pm_en q s0 m b i = 0 := by unfold pm_en; rw [if_neg c]
        rw [hz, if_neg c, if_pos (show nI 0 = (0 : Int32) from rfl)]; rfl
    rw [hbit, pu_e1, pu_st (by omega) (by omega), pu_e1, pn_a1, pu_e1]
    refine pu_go ⟨by omega, rfl, fun k hk => ?_⟩
    dsimp only
    by_cases f : k = i
    · rw [f, pu_upe]
    · rw [pu_upn f]; exact e2 k (by omega)
  have : i = 10 := by omega
  subst this
  rw [if_pos ((pv_le 10 (by omega) (by omega)).mpr hd)]
  refine pu_out (by decide) ?_
  dsimp only
  refine pu_d3.mpr (pu_up (fun i v => v.2 = nI i ∧ ∃ g, g ≤ 10 ∧ v.1 = nI g ∧ (∀ w, w < i → ¬ pm_en q s0 m b w = 0 → pm_ct (pm_en q s0 m b) (pm_en q s0 m b w) 10 ≤ g) ∧ (g = 0 ∨ ∃ w, w < 10 ∧ ¬ pm_en q s0 m b w = 0 ∧ pm_ct (pm_en q s0 m b) (pm_en q s0 m b w) 10 = g)) 10 (by omega) ⟨rfl, 0, by omega, rfl, fun w z => by omega, Or.inl rfl⟩ ?_)
  rintro i ⟨v1, v2⟩ hi ⟨f1, g, g1, f2, g2, g3⟩
  dsimp only at f1 f2 ⊢
  subst f1 f2
  unfold zb_X11_mostAlike_78
  by_cases hd2 : 10 ≤ i
  · have : i = 10 := by omega
    subst this
    rw [if_pos ((pv_le 10 (by omega) (by omega)).mpr hd2)]
    exact pu_out (by decide) (pu_some.mpr ⟨g, ⟨g2, g3⟩, g1, rfl⟩)
  rw [if_neg (fun z => hd2 ((pv_le 10 (by omega) (by omega)).mp z))]
  have hin : pu_ok (za_it (fun v => zb_X11_mostAlike_91 a4 (nI i) v.1 v.2) n ((0 : Int32), (0 : Int32))) (fun r => r.2.1 = nI (if pm_en q s0 m b i = 0 then 0 else pm_ct (pm_en q s0 m b) (pm_en q s0 m b i) 10)) := by
    refine pu_up (fun j v => v.1 = nI (if pm_en q s0 m b i = 0 then 0 else pm_ct (pm_en q s0 m b) (pm_en q s0 m b i) j) ∧ v.2 = nI j) 10 (by omega) ⟨by rw [show pm_ct (pm_en q s0 m b) (pm_en q s0 m b i) 0 = 0 from rfl]; split <;> rfl, rfl⟩ ?_
    rintro j ⟨v1, v2⟩ hj ⟨c1, c2⟩
    dsimp only at c1 c2 ⊢
    subst c1 c2
    unfold zb_X11_mostAlike_91
    by_cases hd3 : 10 ≤ j
    · have : j = 10 := by omega
      subst this
      rw [if_pos ((pv_le 10 (by omega) (by omega)).mpr hd3)]
      exact pu_out (by decide) rfl
    rw [if_neg (fun z => hd3 ((pv_le 10 (by omega) (by omega)).mp z)), pu_ld (by omega) (by omega), pu_e1, e2 i (by omega)]
    by_cases c0 : pm_en q s0 m b i = 0
    · rw [if_pos ((pm_av_1 (hlt i)).mpr c0), pu_e1, pu_e1, pn_a1, pu_e1]
      refine pu_go ⟨by omega, ?_, rfl⟩
      dsimp only
      rw [if_pos c0, if_pos c0]; rfl
    · rw [if_neg (fun z => c0 ((pm_av_1 (hlt i)).mp z)), pu_ld (by omega) (by omega), pu_e1, pu_e1, e2 j (by omega), if_neg c0]
      by_cases c : pm_en q s0 m b j = pm_en q s0 m b i
      · rw [if_pos ((pm_av_i (hlt j) (hlt i)).mpr c), pu_e1, pn_a1, pu_e1, pn_a1, pu_e1]
        refine pu_go ⟨by omega, ?_, rfl⟩
        dsimp only
        rw [if_neg c0]
        show _ = nI (pm_ct _ _ j + if _ then 1 else 0)
        rw [if_pos c]
      · rw [if_neg (fun z => c ((pm_av_i (hlt j) (hlt i)).mp z)), pu_e1, show ∀ z, nI z + (0 : Int32) = nI z from fun z => pn_add z 0, pu_e1, pn_a1, pu_e1]
        refine pu_go ⟨by omega, ?_, rfl⟩
        dsimp only
        rw [if_neg c0]
        show _ = nI (pm_ct _ _ j + if _ then 1 else 0)
        rw [if_neg c]; rfl
  refine pu_d3.mpr (pu_mono hin ?_)
  rintro ⟨t1, t2, t3⟩ t4
  dsimp only at t4 ⊢
  subst t4
  have hle := pm_ct_le (pm_en q s0 m b) (pm_en q s0 m b i) 10
  generalize hcc : (if pm_en q s0 m b i = 0 then 0 else pm_ct (pm_en q s0 m b) (pm_en q s0 m b i) 10) = cc
  have hcc9 : cc ≤ 10 := by rw [← hcc]; split <;> omega
  by_cases f : cc ≤ g
  · rw [if_pos ((pn_le (by omega) (by omega)).mpr f), pu_e1, pn_a1, pu_e1]
    refine pu_go ⟨by omega, rfl, g, g1, rfl, fun w w1 w2 => ?_, g3⟩
    by_cases z : w = i
    · subst z; rw [if_neg w2] at hcc; omega
    · exact g2 w (by omega) w2
  · rw [if_neg (fun z => f ((pn_le (by omega) (by omega)).mp z)), pu_e1, pn_a1, pu_e1]
    have hnz : ¬ pm_en q s0 m b i = 0 := fun z => by rw [if_pos z] at hcc; omega
    rw [if_neg hnz] at hcc
    refine pu_go ⟨by omega, rfl, cc, hcc9, rfl, fun w w1 w2 => ?_, Or.inr ⟨i, by omega, hnz, hcc⟩⟩
    by_cases z : w = i
    · subst z; omega
    · have := g2 w (by omega) w2; omega
end PAt
