/-! how likely: mathematics and the reference -/
def pm_vl (q : Nat → Nat) (w : Nat) (V : Nat → Nat) (s m : Nat) : Nat := if m = 1 then (10 - q 3) * V (pm_ac q w s m) + q 3 * V (pm_ac q w s m - 320) else 10 * V (pm_ac q w s m)
def pm_vm (q : Nat → Nat) (w : Nat) (V : Nat → Nat) (s : Nat) : Nat → Nat
  | 0 => 0
  | k + 1 => max (pm_vm q w V s k) (if pm_wy q w s k = 0 then pm_vl q w V s k else 0)
def pm_V (q : Nat → Nat) (w r : Nat) : Nat → Nat → Nat
  | 0, s => if pm_rg s = r then 1 else 0
  | l + 1, s => if pm_rg s = r then 10 ^ (l + 1) else pm_vm q w (pm_V q w r l) s 15
theorem pm_vl_le {q : Nat → Nat} {w s m b : Nat} {V : Nat → Nat} (h3 : q 3 ≤ 10) (hV : ∀ t, V t ≤ b) : pm_vl q w V s m ≤ 10 * b := by
  unfold pm_vl
  split
  · have h1 : (10 - q 3) * V (pm_ac q w s m) ≤ (10 - q 3) * b := Nat.mul_le_mul_left _ (hV _)
    have h2 : q 3 * V (pm_ac q w s m - 320) ≤ q 3 * b := Nat.mul_le_mul_left _ (hV _)
    have h4 : (10 - q 3) * b + q 3 * b = 10 * b := by rw [← Nat.add_mul]; congr 1; omega
    omega
  · exact Nat.mul_le_mul_left _ (hV _)
theorem pm_vm_le {q : Nat → Nat} {w s b : Nat} {V : Nat → Nat} (h3 : q 3 ≤ 10) (hV : ∀ t, V t ≤ b) : ∀ k, pm_vm q w V s k ≤ 10 * b := by
  intro k
  induction k with
  | zero => exact Nat.zero_le _
  | succ k ih =>
    have h := pm_vl_le (w := w) (s := s) (m := k) h3 hV
    show max (pm_vm q w V s k) (if pm_wy q w s k = 0 then pm_vl q w V s k else 0) ≤ 10 * b
    split <;> omega
theorem pm_V_le {q : Nat → Nat} {w r : Nat} (h3 : q 3 ≤ 10) : ∀ l s, pm_V q w r l s ≤ 10 ^ l := by
  intro l
  induction l with
  | zero => intro s; show (if pm_rg s = r then 1 else 0) ≤ 1; split <;> omega
  | succ l ih =>
    intro s
    show (if pm_rg s = r then 10 ^ (l + 1) else pm_vm q w (pm_V q w r l) s 15) ≤ 10 ^ (l + 1)
    split
    · exact Nat.le_refl _
    · have := pm_vm_le (w := w) (s := s) h3 ih 15
      rw [Nat.pow_succ, Nat.mul_comm]; exact this
theorem pm_vm_mono {q : Nat → Nat} {w s : Nat} {V : Nat → Nat} {k : Nat} : ∀ d, pm_vm q w V s k ≤ pm_vm q w V s (k + d) := by
  intro d
  induction d with
  | zero => exact Nat.le_refl _
  | succ d ih => exact Nat.le_trans ih (Nat.le_max_left _ _)
theorem pm_vm_ge {q : Nat → Nat} {w s : Nat} {V : Nat → Nat} {k n : Nat} (hk : k < n) (hc : pm_wy q w s k = 0) : pm_vl q w V s k ≤ pm_vm q w V s n := by
  have h := pm_vm_mono (q := q) (w := w) (s := s) (V := V) (k := k + 1) (n - (k + 1))
  rw [show k + 1 + (n - (k + 1)) = n from by omega] at h
  refine Nat.le_trans ?_ h
  show _ ≤ max (pm_vm q w V s k) (if pm_wy q w s k = 0 then pm_vl q w V s k else 0)
  rw [if_pos hc]
  exact Nat.le_max_right _ _
/-- the first deed of the greatest chance -/
def pm_bf (q : Nat → Nat) (w : Nat) (V : Nat → Nat) (s n x : Nat) : Prop := x < n ∧ pm_wy q w s x = 0 ∧ pm_vl q w V s x = pm_vm q w V s n ∧ 0 < pm_vm q w V s n ∧ ∀ y, y < x → pm_wy q w s y = 0 → pm_vl q w V s y < pm_vm q w V s n
theorem pm_bf_uniq {q : Nat → Nat} {w s n x y : Nat} {V : Nat → Nat} (hx : pm_bf q w V s n x) (hy : pm_bf q w V s n y) : x = y := by
  obtain ⟨a1, a2, a3, a4, a5⟩ := hx
  obtain ⟨b1, b2, b3, b4, b5⟩ := hy
  rcases Nat.lt_trichotomy x y with z | z | z
  · have := b5 x z a2; omega
  · exact z
  · have := a5 y z b2; omega
section PCh
variable {n : Nat} {q : Nat → Nat} {w s0 r : Nat} {F : List Nat}
theorem pm_10 {l : Nat} (h : l ≤ 8) : 10 ^ l ≤ 100000000 := Nat.le_trans (Nat.pow_le_pow_right (n := 10) (by omega) h) (by decide)
theorem pr_wholeOf {l : Nat} (hn : 100 ≤ n) (hl : l ≤ 8) : zf_X11_wholeOf n (nI l) = some (nI (10 ^ l)) := by
  apply pu_ex
  unfold zf_X11_wholeOf
  refine pu_d3.mpr (pu_up (fun i v => v.1 = nI (10 ^ i) ∧ v.2 = nI i) l (by omega) ⟨rfl, rfl⟩ ?_)
  rintro i ⟨v1, v2⟩ hi ⟨e1, e2⟩
  dsimp only at e1 e2 ⊢
  subst e1 e2
  unfold zb_X11_wholeOf_4
  by_cases hc : l ≤ i
  · have : i = l := by omega
    subst this
    rw [if_pos ((pn_le (by omega) (by omega)).mpr hc)]
    exact pu_out (by decide) (pu_some.mpr rfl)
  · rw [if_neg (fun z => hc ((pn_le (by omega) (by omega)).mp z)), pv_mur 10, pu_e1, pn_a1, pu_e1]
    exact pu_go ⟨by omega, by rw [Nat.pow_succ], rfl⟩
/-- levels that are laid -/
def pr_LK (q : Nat → Nat) (w r : Nat) (F : List Nat) (L : Nat) (a : Nat → Int32) : Prop := ∀ l, l < L → ∀ s ∈ F, a (2880 * l + s) = nI (pm_V q w r l s)
theorem pr_likelyBy {all th a : Nat → Int32} {s m l : Nat} (ha : pr_all all q) (hq : pm_cliff q) (hF : pm_clm q w F) (hl : l < 8) (hs : s ∈ F) (hm : m < 15) (hth : th (15 * s + m) = pr_v q w s m) (hL : pr_LK q w r F (l + 1) a) :
    zf_X11_likelyBy all th a (nI s) (nI m) (nI (l + 1)) = some (if pm_wy q w s m = 0 then nI (pm_vl q w (pm_V q w r l) s m) else (-1 : Int32)) := by
  have hlt := pm_st_lt hq (hF.2.1 s hs)
  have h3 := hq.2.2.1
  unfold zf_X11_likelyBy pm_vl
  rw [pv_mul 15, pn_add, pu_ld (by omega) (by omega), pu_e1, hth]
  unfold pr_v
  by_cases c : pm_wy q w s m = 0
  rotate_left
  · rw [if_neg c, if_pos (show pz_m1 = (-1 : Int32) from rfl), if_neg c]
  have hin := hF.1.2 s hs m hm c
  have hacl := pm_st_lt hq (hF.2.1 _ hin)
  rw [if_pos c, if_neg (fun z => (pn_ne1 (by omega)).mp z), if_pos c]
  by_cases m1 : m = 1
  · subst m1
    have hin2 := (hF.2.2.2 s hs c).2
    have h320 : 320 ≤ pm_ac q w s 1 := by
      obtain ⟨e, _⟩ := pm_acp hq (hF.2.1 s hs) hm c
      rw [e]; unfold pm_sd; simp; omega
    rw [if_pos (show nI 1 = (1 : Int32) from rfl), if_pos rfl, pv_ld 3 (by omega) (by omega), pu_e1, ha 3 (by omega), pn_s1, pv_mul 2880, pn_add, pu_ld (by omega) (by omega), pu_e1, pu_e1, pv_sub 320 (by omega), pu_ld (by omega) (by omega), pu_e1, hL l (by omega) _ hin, show 2880 * l + pm_ac q w s 1 - 320 = 2880 * l + (pm_ac q w s 1 - 320) from by omega, hL l (by omega) _ hin2, show (10 : Int32) = nI 10 from rfl, pn_sub h3, pn_mul, pn_mul, pn_add]
  · rw [if_neg (fun z => m1 ((pv_eq 1 (by omega) (by omega)).mp z)), if_neg m1, pn_s1, pv_mul 2880, pn_add, pu_ld (by omega) (by omega), pu_e1, hL l (by omega) _ hin, pv_mul 10]
theorem pr_laysLikely {all rk wds stand th known1 lk : Nat → Int32} {many : Int32} {N : Nat} (hn : 10000 ≤ n) (ha : pr_all all q) (hq : pm_cliff q) (hw : q 40 = w) (hw9 : w ≤ 9) (hs : pm_now q = s0) (h0 : pm_st q s0) (hr : r < 100) (hN : N ≤ 8) :
    pu_ok (zf_X11_laysLikely n many all rk wds stand th known1 lk (nI r) (nI N)) (fun x => x.1 = nI (pm_V q w r N s0) ∧ pr_ls q w (pm_F (pm_tgm q w) s0) x.2.1 x.2.2.2.2.1 x.2.2.2.2.2.1 ∧ pr_LK q w r (pm_F (pm_tgm q w) s0) (N + 1) x.2.2.2.2.2.2.2) := by
  obtain ⟨hF, hs0⟩ := pm_clm_F (w := w) hq h0
  have h3 := hq.2.2.1
  have hVl := fun l s => pm_V_le (w := w) (r := r) h3 l s
  unfold zf_X11_laysLikely
  refine pu_d6.mpr (pu_mono (pr_laysStands (more := 1) (by omega) ha hq (by omega) (by rw [hs]; exact h0) (Or.inr rfl)) ?_)
  rintro ⟨x1, x2, x3, x4, x5, x6⟩ hls
  dsimp only at hls ⊢
  rw [pm_tgx1, hw, hs] at hls
  generalize pm_F (pm_tgm q w) s0 = F at hF hs0 hls ⊢
  have hlt0 := pm_st_lt hq h0
  obtain ⟨hmE, hS, hth⟩ := id hls
  have hlen := hF.2.2.1
  refine pu_d3.mpr (pu_up (fun L v => v.1 = nI L ∧ pr_LK q w r F L v.2) (N + 1) (by omega) ⟨rfl, fun l h => absurd h (by omega)⟩ ?_)
  rintro L ⟨v7, a8⟩ hL ⟨e1, e2⟩
  dsimp only at e1 e2 ⊢
  subst e1
  unfold zb_X11_laysLikely_7
  by_cases hcL : N < L
  · rw [if_pos ((pn_lt (by omega) (by omega)).mpr hcL)]
    refine pu_out (by decide) ?_
    dsimp only
    rw [pr_standNow ha, hs, pu_e1, pv_mul 2880, pn_add, pu_ld (by omega) (by omega), pu_e1, e2 N (by omega) _ hs0]
    exact pu_some.mpr ⟨rfl, hls, fun l hl s hs' => e2 l (by omega) s hs'⟩
  rw [if_neg (fun z => hcL ((pn_lt (by omega) (by omega)).mp z)), hmE]
  refine pu_d3.mpr (pu_up (fun i v => v.1 = nI i ∧ pr_LK q w r F L v.2 ∧ ∀ j, j < i → v.2 (2880 * L + F.getD j 0) = nI (pm_V q w r L (F.getD j 0))) F.length (by omega) ⟨rfl, e2, fun j h => absurd h (by omega)⟩ ?_)
  rintro i ⟨v9, a10⟩ hi ⟨e1, e3, e4⟩
  dsimp only at e1 e3 e4 ⊢
  subst e1
  unfold zb_X11_laysLikely_15
  by_cases hci : F.length ≤ i
  · rw [if_pos ((pn_le (by omega) (by omega)).mpr hci)]
    refine pu_out (by decide) ?_
    dsimp only
    rw [pn_a1, pu_e1]
    refine pu_go ⟨by omega, rfl, ?_⟩
    intro l hl s hs'
    by_cases f : l = L
    · subst f
      obtain ⟨j, j1, j2⟩ := pm_mem_get hs'
      have := e4 j (by omega)
      rw [j2] at this
      exact this
    · exact e3 l (by omega) s hs'
  have hmi := pm_getD_mem (show i < F.length by omega)
  have hlti := pm_st_lt hq (hF.2.1 _ hmi)
  have hrg : pm_rg (F.getD i 0) < 9 := by unfold pm_rg; omega
  have hVi := hVl L (F.getD i 0)
  have h10 := pm_10 (show L ≤ 8 by omega)
  rw [if_neg (fun z => hci ((pn_le (by omega) (by omega)).mp z)), pu_ld (by omega) (by omega), pu_e1, hS i (by omega), pr_rungIn hlti, pu_e1]
  refine pu_d1.mpr (pu_mono (P := fun v => v = nI (if pm_rg (F.getD i 0) = r then 10 ^ L else 0)) ?_ ?_)
  · by_cases f : pm_rg (F.getD i 0) = r
    · rw [if_pos (by rw [f]), if_pos f, pr_wholeOf (by omega) (by omega), pu_e1]; exact pu_some.mpr rfl
    · rw [if_neg (fun z => f ((pn_eq (by omega) (by omega)).mp z)), if_neg f]; exact pu_some.mpr rfl
  rintro v14 rfl
  refine pu_d3.mpr (pu_mono (P := fun x => x.2.1 = nI (pm_V q w r L (F.getD i 0))) ?_ ?_)
  rotate_left
  · rintro ⟨g24, v22, v23⟩ hg
    dsimp only at hg ⊢
    subst hg
    rw [pv_mul 2880, pn_add, pu_st (by omega) (by omega), pu_e1, pn_a1, pu_e1]
    refine pu_go ⟨by omega, rfl, ?_, ?_⟩
    · intro l hl s hs'
      have := pm_st_lt hq (hF.2.1 s hs')
      dsimp only
      rw [pu_upn (by omega)]
      exact e3 l hl s hs'
    · intro j hj
      dsimp only
      by_cases f : j = i
      · subst f; rw [pu_upe]
      · have hne : ¬ F.getD j 0 = F.getD i 0 := fun z => f (pm_nd_inj hF.1.1 (by omega) (by omega) z)
        rw [pu_upn (by omega)]
        exact e4 j (by omega)
  cases L with
  | zero =>
    refine pu_up (fun k v => v.1 = nI (if pm_rg (F.getD i 0) = r then 10 ^ 0 else 0) ∧ v.2 = nI 0) 0 (by omega) ⟨rfl, rfl⟩ ?_
    rintro k ⟨v15, v16⟩ _ ⟨e5, e6⟩
    dsimp only at e5 e6 ⊢
    subst e5 e6
    unfold zb_X11_laysLikely_55
    rw [if_neg (by decide), if_pos (by decide)]
    exact pu_out (by decide) rfl
  | succ l =>
    by_cases f : pm_rg (F.getD i 0) = r
    · have hVe : pm_V q w r (l + 1) (F.getD i 0) = 10 ^ (l + 1) := if_pos f
      rw [hVe, if_pos f]
      refine pu_up (fun k v => v.1 = nI (10 ^ (l + 1)) ∧ v.2 = nI 0) 0 (by omega) ⟨rfl, rfl⟩ ?_
      rintro k ⟨v15, v16⟩ _ ⟨e5, e6⟩
      dsimp only at e5 e6 ⊢
      subst e5 e6
      unfold zb_X11_laysLikely_55
      rw [if_neg (by decide), if_neg (fun z => by have := (pv_ge 0 (by omega) (by omega)).mp z; omega), pr_wholeOf (by omega) (by omega), pu_e1, if_pos ((pn_le (by omega) (by omega)).mpr (Nat.le_refl _))]
      exact pu_out (by decide) rfl
    · have hVe : pm_V q w r (l + 1) (F.getD i 0) = pm_vm q w (pm_V q w r l) (F.getD i 0) 15 := if_neg f
      have hb := fun k => pm_vm_le (w := w) (s := F.getD i 0) h3 (hVl l) k
      have e10 : 10 * 10 ^ l = 10 ^ (l + 1) := by rw [Nat.pow_succ, Nat.mul_comm]
      rw [hVe, if_neg f]
      refine pu_up (fun m v => v.2 = nI m ∧ v.1 = nI (pm_vm q w (pm_V q w r l) (F.getD i 0) m)) 15 (by omega) ⟨rfl, rfl⟩ ?_
      rintro m ⟨v15, v16⟩ hm ⟨e5, e6⟩
      dsimp only at e5 e6 ⊢
      subst e5 e6
      have hbm := hb m
      have hb15 := hb 15
      unfold zb_X11_laysLikely_55
      by_cases hcm : 15 ≤ m
      · have : m = 15 := by omega
        subst this
        rw [if_pos (by decide)]
        exact pu_out (by decide) rfl
      rw [if_neg (fun z => hcm ((pv_le 15 (by omega) (by omega)).mp z)), if_neg (fun z => by have := (pv_ge 0 (by omega) (by omega)).mp z; omega), pr_wholeOf (by omega) (by omega), pu_e1]
      by_cases hful : 10 ^ (l + 1) ≤ pm_vm q w (pm_V q w r l) (F.getD i 0) m
      · rw [if_pos ((pn_le (by omega) (by omega)).mpr hful)]
        refine pu_out (by decide) ?_
        dsimp only
        have h9 := pm_vm_mono (q := q) (w := w) (s := F.getD i 0) (V := pm_V q w r l) (k := m) (15 - m)
        rw [show m + (15 - m) = 15 from by omega] at h9
        have h10' : pm_vm q w (pm_V q w r l) (F.getD i 0) m = pm_vm q w (pm_V q w r l) (F.getD i 0) 15 := by omega
        rw [h10']
      rw [if_neg (fun z => hful ((pn_le (by omega) (by omega)).mp z)), pr_likelyBy (l := l) ha hq hF (by omega) hmi (by omega) (hth _ hmi m (by omega)) e3, pu_e1]
      refine pu_d1.mpr (pu_mono (P := fun v => v = nI (pm_vm q w (pm_V q w r l) (F.getD i 0) (m + 1))) ?_ ?_)
      · show pu_ok _ (fun v => v = nI (max (pm_vm q w (pm_V q w r l) (F.getD i 0) m) (if pm_wy q w (F.getD i 0) m = 0 then pm_vl q w (pm_V q w r l) (F.getD i 0) m else 0)))
        by_cases c : pm_wy q w (F.getD i 0) m = 0
        · have hvl := pm_vl_le (w := w) (s := F.getD i 0) (m := m) h3 (hVl l)
          rw [if_pos c, if_pos c, pu_e1]
          by_cases g : pm_vl q w (pm_V q w r l) (F.getD i 0) m ≤ pm_vm q w (pm_V q w r l) (F.getD i 0) m
          · rw [if_pos ((pn_le (by omega) (by omega)).mpr g), Nat.max_eq_left g]; exact pu_some.mpr rfl
          · rw [if_neg (fun z => g ((pn_le (by omega) (by omega)).mp z)), Nat.max_eq_right (by omega)]; exact pu_some.mpr rfl
        · rw [if_neg c, if_neg c, Nat.max_eq_left (Nat.zero_le _), if_pos]
          · exact pu_some.mpr rfl
          · rw [Int32.le_iff_toInt_le, pn_toInt (by omega)]; show (-1 : Int) ≤ _; omega
      · rintro v rfl
        rw [pn_a1, pu_e1]
        exact pu_go ⟨by omega, rfl, rfl⟩
end PCh
/-! Euclid -/
theorem pm_half {x y : Nat} (hy : 0 < y) (h : y ≤ x) : 2 * (x % y) < x := by
  have h1 := Nat.mod_lt x hy
  have h2 := Nat.div_add_mod x y
  have h3 : 1 ≤ x / y := (Nat.one_le_div_iff hy).mpr h
  have h4 : y * 1 ≤ y * (x / y) := Nat.mul_le_mul_left _ h3
  omega
theorem pr_common {n : Nat} : ∀ k f a b, a < 2147483648 → b < 2147483648 → b < 2 ^ k → 2 * k + 1 ≤ f → zg_X11c n f 0 (nI a) (nI b) = some (nI (Nat.gcd a b)) := by
  intro k
  induction k with
  | zero =>
    intro f a b ha hb h1 h2
    have : b = 0 := by omega
    subst this
    obtain ⟨f', rfl⟩ : ∃ f', f = f' + 1 := ⟨f - 1, by omega⟩
    show zh_X11_common n (zg_X11c n f') (nI a) (nI 0) = _
    unfold zh_X11_common
    rw [if_pos (by decide), Nat.gcd_zero_right]
  | succ k ih =>
    intro f a b ha hb h1 h2
    obtain ⟨f', rfl⟩ : ∃ f', f = f' + 1 := ⟨f - 1, by omega⟩
    show zh_X11_common n (zg_X11c n f') (nI a) (nI b) = _
    unfold zh_X11_common
    by_cases c : b = 0
    · subst c; rw [if_pos (by decide), Nat.gcd_zero_right]
    have hbne : ¬ nI b = (0 : Int32) := fun z => c ((pv_eq 0 (by omega) hb).mp z)
    have hm := Nat.mod_lt a (show 0 < b by omega)
    rw [if_neg hbne, pu_nz hbne, pu_e1, pn_rem ha hb]
    obtain ⟨f'', rfl⟩ : ∃ f'', f' = f'' + 1 := ⟨f' - 1, by omega⟩
    have e : zg_X11c n (f'' + 1) 0 (nI b) (nI (a % b)) = some (nI (Nat.gcd b (a % b))) := by
      show zh_X11_common n (zg_X11c n f'') (nI b) (nI (a % b)) = _
      unfold zh_X11_common
      by_cases d : a % b = 0
      · rw [d, if_pos (by decide), Nat.gcd_zero_right]
      have hdne : ¬ nI (a % b) = (0 : Int32) := fun z => d ((pv_eq 0 (by omega) (by omega)).mp z)
      have hh := pm_half (x := b) (y := a % b) (by omega) (by omega)
      have hm2 := Nat.mod_lt b (show 0 < a % b by omega)
      rw [if_neg hdne, pu_nz hdne, pu_e1, pn_rem hb (by omega), ih f'' (a % b) (b % (a % b)) (by omega) (by omega) (by rw [Nat.pow_succ] at h1; omega) (by omega), pu_e1, Nat.gcd_comm b (a % b), Nat.gcd_rec (a % b) b, Nat.gcd_comm (b % (a % b)) (a % b)]
    rw [e, pu_e1, Nat.gcd_comm b (a % b), ← Nat.gcd_rec b a, Nat.gcd_comm b a]
theorem pl_rem {a b : Nat} (ha : a < 9223372036854775808) (hb : b < 9223372036854775808) : za_reml (nL a) (nL b) = nL (a % b) := by
  have h1 : a / b * b ≤ a := Nat.div_mul_le_self a b
  have hd : nL a / nL b = nL (a / b) := (Int64.ofNat_div ha hb).symm
  have hs : nL a - nL (a / b * b) = nL (a - a / b * b) := (Int64.ofNat_sub a (a / b * b) h1).symm
  show nL a - nL a / nL b * nL b = _
  rw [hd, pl_mul, hs]
  congr 1
  have := Nat.div_add_mod a b
  rw [Nat.mul_comm] at this
  omega
theorem pc_common2 {n : Nat} {a b : Nat} (hn : 1000 ≤ n) (hab : a ≤ b) (hb : b ≤ 100000000) (hb0 : 0 < b) : zf_X8_commonDivisor n (nL a) (nL b) = some (nL (Nat.gcd a b)) := by
  apply pu_ex
  unfold zf_X8_commonDivisor
  have hprod : b * a < 2 ^ 54 := Nat.lt_of_le_of_lt (Nat.mul_le_mul hb (Nat.le_trans hab hb)) (by decide)
  refine pu_d4.mpr (pu_up (fun i v => v.2.2 = nI i ∧ ∃ x y, v.1 = nL x ∧ v.2.1 = nL y ∧ x ≤ 100000000 ∧ y ≤ x ∧ Nat.gcd x y = Nat.gcd a b ∧ ∃ k, x * y < 2 ^ k ∧ k + i ≤ 60) 99 (by omega) ⟨rfl, b, a, rfl, rfl, hb, hab, Nat.gcd_comm b a, 54, hprod, by omega⟩ ?_)
  rintro i ⟨v1, v2, v3⟩ hi ⟨e1, x, y, e2, e3, hx, hy, hg, k, hk1, hk2⟩
  dsimp only at e1 e2 e3 ⊢
  subst e1 e2 e3
  unfold zb_X8_commonDivisor_9
  rw [if_neg (fun z => by have := (pv_le 100 (by omega) (by omega)).mp z; omega)]
  by_cases c : y = 0
  · subst c
    rw [if_pos (by rw [lg_eq]; rfl)]
    refine pu_out (by decide) ?_
    dsimp only
    rw [Nat.gcd_zero_right] at hg
    have hpos : 0 < Nat.gcd a b := Nat.gcd_pos_of_pos_right a hb0
    rw [if_neg (show ¬ nL x < (1 : Int64) from fun z => by have := (pl_lt (b := 1) (by omega) (by decide)).mp z; omega), pu_e1, hg]
    exact pu_some.mpr rfl
  · have hyne : ¬ nL y = (0 : Int64) := fun z => c ((nL0 (by omega)).mp z)
    rw [if_neg (fun z => hyne (lg_eq.mp z)), pu_nzl hyne, pu_e1, pl_rem (by omega) (by omega), pu_e1, pn_a1, pu_e1]
    have hm := Nat.mod_lt x (show 0 < y by omega)
    have hh := pm_half (show 0 < y by omega) hy
    have h1 : y * (2 * (x % y) + 1) ≤ y * x := Nat.mul_le_mul_left _ (by omega)
    rw [Nat.mul_add, Nat.mul_one, Nat.mul_comm y x, show y * (2 * (x % y)) = 2 * (y * (x % y)) from Nat.mul_left_comm y 2 (x % y)] at h1
    have hk0 : 1 ≤ k := by
      rcases Nat.eq_zero_or_pos k with z | z
      · rw [z, Nat.pow_zero] at hk1; omega
      · exact z
    obtain ⟨k', rfl⟩ : ∃ k', k = k' + 1 := ⟨k - 1, by omega⟩
    rw [Nat.pow_succ] at hk1
    refine pu_go ⟨by omega, rfl, y, x % y, rfl, rfl, by omega, by omega, ?_, k', by omega, by omega⟩
    rw [Nat.gcd_comm y (x % y), ← Nat.gcd_rec y x, Nat.gcd_comm y x]; exact hg
