/-! sharing: mathematics -/
theorem pb_isIn8 : ∀ k, k < 8 → ∀ h, h < 256 → zf_X11_isIn (Int32.toInt64 (nI h)) (nI k) = some (nI (if h.testBit k then 1 else 0)) := by decide +kernel
def pm_fr (q : Nat → Nat) (r k u : Nat) : Bool := !(u.testBit r) && pm_ho q r k
def pm_mr (f : Nat → Nat) (q : Nat → Nat) (k u : Nat) : Nat → Nat
  | 0 => f u
  | r + 1 => max (pm_mr f q k u r) (if pm_fr q r k u = true then 1 + f (u ||| 2 ^ r) else 0)
def pm_M (q : Nat → Nat) (R set T : Nat) : Nat → Nat → Nat
  | 0, _ => 0
  | j + 1, u => if set.testBit (T - (j + 1)) = true then pm_mr (pm_M q R set T j) q (T - (j + 1)) u R else pm_M q R set T j u
def pm_cf (f : Nat → Nat) (q : Nat → Nat) (R k u v : Nat) : Nat → Option Nat
  | 0 => none
  | d + 1 => if pm_fr q (R - (d + 1)) k u = true ∧ 1 + f (u ||| 2 ^ (R - (d + 1))) = v then some (R - (d + 1)) else pm_cf f q R k u v d
def pm_cho (q : Nat → Nat) (R set T j u : Nat) : Option Nat := if set.testBit (T - j) = true then pm_cf (pm_M q R set T (j - 1)) q R (T - j) u (pm_M q R set T j u) R else none
def pm_un (u : Nat) : Option Nat → Nat
  | none => u
  | some r => u ||| 2 ^ r
def pm_pu (q : Nat → Nat) (R set T j u : Nat) : Nat → Nat
  | 0 => u
  | d + 1 => pm_un (pm_pu q R set T j u d) (pm_cho q R set T (j - d) (pm_pu q R set T j u d))
theorem pm_mr_ge {f : Nat → Nat} {q : Nat → Nat} {k u r : Nat} : ∀ R, r < R → pm_fr q r k u = true → 1 + f (u ||| 2 ^ r) ≤ pm_mr f q k u R := by
  intro R
  induction R with
  | zero => intro h; omega
  | succ R ih =>
    intro h hf
    show _ ≤ max (pm_mr f q k u R) (if pm_fr q R k u = true then 1 + f (u ||| 2 ^ R) else 0)
    by_cases c : r = R
    · subst c; rw [if_pos hf]; exact Nat.le_max_right _ _
    · exact Nat.le_trans (ih (by omega) hf) (Nat.le_max_left _ _)
theorem pm_mr_0 {f : Nat → Nat} {q : Nat → Nat} {k u : Nat} : ∀ R, f u ≤ pm_mr f q k u R := by
  intro R
  induction R with
  | zero => exact Nat.le_refl _
  | succ R ih => exact Nat.le_trans ih (Nat.le_max_left _ _)
theorem pm_mr_c {f : Nat → Nat} {q : Nat → Nat} {k u : Nat} : ∀ R, pm_mr f q k u R = f u ∨ ∃ r, r < R ∧ pm_fr q r k u = true ∧ pm_mr f q k u R = 1 + f (u ||| 2 ^ r) := by
  intro R
  induction R with
  | zero => exact Or.inl rfl
  | succ R ih =>
    have e : pm_mr f q k u (R + 1) = max (pm_mr f q k u R) (if pm_fr q R k u = true then 1 + f (u ||| 2 ^ R) else 0) := rfl
    rw [e]
    by_cases c : pm_fr q R k u = true
    · rw [if_pos c]
      rcases Nat.le_total (pm_mr f q k u R) (1 + f (u ||| 2 ^ R)) with h | h
      · rw [Nat.max_eq_right h]; exact Or.inr ⟨R, by omega, c, rfl⟩
      · rw [Nat.max_eq_left h]
        rcases ih with z | ⟨r, r1, r2, r3⟩
        · exact Or.inl z
        · exact Or.inr ⟨r, by omega, r2, r3⟩
    · rw [if_neg c, Nat.max_eq_left (Nat.zero_le _)]
      rcases ih with z | ⟨r, r1, r2, r3⟩
      · exact Or.inl z
      · exact Or.inr ⟨r, by omega, r2, r3⟩
theorem pm_mr_le {f : Nat → Nat} {q : Nat → Nat} {k u b : Nat} (hf : ∀ v, f v ≤ b) (R : Nat) : pm_mr f q k u R ≤ b + 1 := by
  rcases pm_mr_c (f := f) (q := q) (k := k) (u := u) R with h | ⟨r, _, _, h⟩
  · have := hf u; omega
  · have := hf (u ||| 2 ^ r); omega
theorem pm_M_le {q : Nat → Nat} {R set T : Nat} : ∀ j u, pm_M q R set T j u ≤ j := by
  intro j
  induction j with
  | zero => intro u; exact Nat.le_refl _
  | succ j ih =>
    intro u
    show (if set.testBit (T - (j + 1)) = true then pm_mr (pm_M q R set T j) q (T - (j + 1)) u R else pm_M q R set T j u) ≤ j + 1
    split
    · exact pm_mr_le ih R
    · have := ih u; omega
theorem pm_cf_s {f : Nat → Nat} {q : Nat → Nat} {R k u v : Nat} : ∀ d, d ≤ R → (∃ r, pm_cf f q R k u v d = some r ∧ R - d ≤ r ∧ r < R ∧ pm_fr q r k u = true ∧ 1 + f (u ||| 2 ^ r) = v ∧ ∀ r', R - d ≤ r' → r' < r → ¬ (pm_fr q r' k u = true ∧ 1 + f (u ||| 2 ^ r') = v)) ∨ (pm_cf f q R k u v d = none ∧ ∀ r', R - d ≤ r' → r' < R → ¬ (pm_fr q r' k u = true ∧ 1 + f (u ||| 2 ^ r') = v)) := by
  intro d
  induction d with
  | zero => intro _; exact Or.inr ⟨rfl, fun r' h1 h2 => by omega⟩
  | succ d ih =>
    intro hd
    have e : pm_cf f q R k u v (d + 1) = if pm_fr q (R - (d + 1)) k u = true ∧ 1 + f (u ||| 2 ^ (R - (d + 1))) = v then some (R - (d + 1)) else pm_cf f q R k u v d := rfl
    rw [e]
    by_cases c : pm_fr q (R - (d + 1)) k u = true ∧ 1 + f (u ||| 2 ^ (R - (d + 1))) = v
    · rw [if_pos c]
      exact Or.inl ⟨R - (d + 1), rfl, Nat.le_refl _, by omega, c.1, c.2, fun r' h1 h2 => by omega⟩
    · rw [if_neg c]
      rcases ih (by omega) with ⟨r, r1, r2, r3, r4, r5, r6⟩ | ⟨r1, r2⟩
      · refine Or.inl ⟨r, r1, by omega, r3, r4, r5, ?_⟩
        intro r' h1 h2
        by_cases g : r' = R - (d + 1)
        · rw [g]; exact c
        · exact r6 r' (by omega) h2
      · refine Or.inr ⟨r1, ?_⟩
        intro r' h1 h2
        by_cases g : r' = R - (d + 1)
        · rw [g]; exact c
        · exact r2 r' (by omega) h2
theorem pm_cf_eq {f : Nat → Nat} {q : Nat → Nat} {R k u v r : Nat} (h1 : r < R) (h2 : pm_fr q r k u = true) (h3 : 1 + f (u ||| 2 ^ r) = v) (h4 : ∀ r', r' < r → ¬ (pm_fr q r' k u = true ∧ 1 + f (u ||| 2 ^ r') = v)) : pm_cf f q R k u v R = some r := by
  rcases pm_cf_s (f := f) (q := q) (R := R) (k := k) (u := u) (v := v) R (Nat.le_refl _) with ⟨x, x1, x2, x3, x4, x5, x6⟩ | ⟨x1, x2⟩
  · rw [x1]
    congr 1
    rcases Nat.lt_trichotomy x r with z | z | z
    · exact absurd ⟨x4, x5⟩ (h4 x z)
    · exact z
    · exact absurd ⟨h2, h3⟩ (x6 r (by omega) z)
  · exact absurd ⟨h2, h3⟩ (x2 r (by omega) h1)
theorem pm_cf_no {f : Nat → Nat} {q : Nat → Nat} {R k u v : Nat} (h : ∀ r', r' < R → ¬ (pm_fr q r' k u = true ∧ 1 + f (u ||| 2 ^ r') = v)) : pm_cf f q R k u v R = none := by
  rcases pm_cf_s (f := f) (q := q) (R := R) (k := k) (u := u) (v := v) R (Nat.le_refl _) with ⟨x, x1, x2, x3, x4, x5, x6⟩ | ⟨x1, x2⟩
  · exact absurd ⟨x4, x5⟩ (h x x3)
  · exact x1
theorem pm_cho_lt {q : Nat → Nat} {R set T j u r : Nat} (h : pm_cho q R set T j u = some r) : r < R := by
  unfold pm_cho at h
  split at h
  · rcases pm_cf_s (f := pm_M q R set T (j - 1)) (q := q) (R := R) (k := T - j) (u := u) (v := pm_M q R set T j u) R (Nat.le_refl _) with ⟨x, x1, _, x3, _⟩ | ⟨x1, _⟩
    · rw [x1] at h; cases h; exact x3
    · rw [x1] at h; cases h
  · cases h
theorem pm_un_lt {R u : Nat} {o : Option Nat} (hu : u < 2 ^ R) (ho : ∀ r, o = some r → r < R) : pm_un u o < 2 ^ R := by
  cases o with
  | none => exact hu
  | some r => exact Nat.or_lt_two_pow hu (Nat.pow_lt_pow_right (by omega) (ho r rfl))
theorem pm_pu_lt {q : Nat → Nat} {R set T j u : Nat} (hu : u < 2 ^ R) : ∀ d, pm_pu q R set T j u d < 2 ^ R := by
  intro d
  induction d with
  | zero => exact hu
  | succ d ih => exact pm_un_lt ih (fun r h => pm_cho_lt h)
theorem pm_pu_s {q : Nat → Nat} {R set T j u : Nat} : ∀ d, pm_pu q R set T (j + 1) u (d + 1) = pm_pu q R set T j (pm_un u (pm_cho q R set T (j + 1) u)) d := by
  intro d
  induction d with
  | zero => rfl
  | succ d ih =>
    show pm_un (pm_pu q R set T (j + 1) u (d + 1)) (pm_cho q R set T (j + 1 - (d + 1)) (pm_pu q R set T (j + 1) u (d + 1))) = pm_un (pm_pu q R set T j (pm_un u (pm_cho q R set T (j + 1) u)) d) (pm_cho q R set T (j - d) (pm_pu q R set T j (pm_un u (pm_cho q R set T (j + 1) u)) d))
    rw [ih, show j + 1 - (d + 1) = j - d from by omega]
/-- what thing k gets -/
def pm_gt (q : Nat → Nat) (R set T j u i : Nat) : Int32 := pm_oi (pm_cho q R set T (j - i) (pm_pu q R set T j u i))
theorem pm_p8 {R : Nat} (h : R ≤ 8) : 2 ^ R ≤ 256 := Nat.pow_le_pow_right (n := 2) (i := R) (j := 8) (by omega) h
section PSh
variable {n : Nat} {q : Nat → Nat} {w s0 : Nat} {top things tf tt mf mt : Int32} {bars gives rough code told fa sk : Nat → Int32}
/-- the reference's search -/
def pr_fin (q : Nat → Nat) (R set T j u cnt : Nat) (b0 : Int) (sh bs0 : Nat → Int32) (b : Int32) (sh' bs : Nat → Int32) : Prop :=
  (∀ i, i < T - j → sh' i = sh i) ∧ (((cnt + pm_M q R set T j u : Nat) : Int) ≤ b0 ∧ b = Int32.ofInt b0 ∧ bs = bs0 ∨ b0 < ((cnt + pm_M q R set T j u : Nat) : Int) ∧ b = nI (cnt + pm_M q R set T j u) ∧ (∀ i, i < T - j → bs i = sh i) ∧ (∀ i, i < j → bs (T - j + i) = pm_gt q R set T j u i))
theorem pr_goesShare {all : Nat → Int32} {R set : Nat} (hn : 1000 ≤ n) (ha : pr_all all q) (hq : pm_cliff q) (hK : pc_K q top things tf tt mf mt bars gives rough code) (hR : R ≤ 8) (hset : set < 64) : ∀ j, j ≤ q 2 → ∀ f u cnt (b0 : Int) sh bs0, j + 1 ≤ f → u < 2 ^ R → cnt + j ≤ 6 → -1 ≤ b0 → b0 ≤ 6 →
    pu_ok (zg_X11g n f 0 (Int32.ofInt b0) all sh bs0 (nI (q 2 - j)) (nI R) (nI set) (nI u) (nI cnt)) (fun y => pr_fin q R set (q 2) j u cnt b0 sh bs0 y.1 y.2.1 y.2.2) := by
  have hq2 := hq.2.1
  have hp8 := pm_p8 hR
  intro j
  induction j with
  | zero =>
    intro _ f u cnt b0 sh bs0 hf hu hcnt hb1 hb2
    obtain ⟨f', rfl⟩ : ∃ f', f = f' + 1 := ⟨f - 1, by omega⟩
    show pu_ok (if 0 = 0 then zh_X11_goesShare n (zg_X11g n f') (Int32.ofInt b0) all sh bs0 (nI (q 2 - 0)) (nI R) (nI set) (nI u) (nI cnt) else none) _
    rw [if_pos rfl]
    unfold zh_X11_goesShare
    rw [pv_ld 2 (by omega) (by omega), pu_e1, ha 2 (by omega), Nat.sub_zero, if_pos rfl]
    have hM : pm_M q R set (q 2) 0 u = 0 := rfl
    by_cases c : b0 < (cnt : Int)
    · rw [if_pos (by rw [pi_nI, pi_lt (by omega) (by omega) (by omega) (by omega)]; exact c)]
      refine pu_d3.mpr (pu_up (fun i v => v.1 = nI i ∧ ∀ k, k < i → v.2 k = sh k) 6 (by omega) ⟨rfl, fun k h => absurd h (by omega)⟩ ?_)
      rintro i ⟨v2, a3⟩ hi ⟨e1, e2⟩
      dsimp only at e1 e2 ⊢
      subst e1
      unfold zb_X11_goesShare_29
      by_cases d : 6 ≤ i
      · rw [if_pos ((pv_le 6 (by omega) (by omega)).mpr d)]
        refine pu_out (by decide) (pu_some.mpr ⟨fun i _ => rfl, Or.inr ⟨by rw [hM]; omega, by rw [hM, Nat.add_zero], fun k hk => e2 k (by omega), fun k hk => absurd hk (by omega)⟩⟩)
      · rw [if_neg (fun z => d ((pv_le 6 (by omega) (by omega)).mp z)), pu_ld (by omega) (by omega), pu_e1, pu_st (by omega) (by omega), pu_e1, pn_a1, pu_e1]
        refine pu_go ⟨by omega, rfl, ?_⟩
        intro k hk
        dsimp only
        by_cases g : k = i
        · subst g; rw [pu_upe]
        · rw [pu_upn g]; exact e2 k (by omega)
    · rw [if_neg (by rw [pi_nI, pi_lt (by omega) (by omega) (by omega) (by omega)]; exact c)]
      exact pu_some.mpr ⟨fun i _ => rfl, Or.inl ⟨by rw [hM]; omega, rfl, rfl⟩⟩
  | succ j ih =>
    intro hj f u cnt b0 sh bs0 hf hu hcnt hb1 hb2
    obtain ⟨f', rfl⟩ : ∃ f', f = f' + 1 := ⟨f - 1, by omega⟩
    show pu_ok (if 0 = 0 then zh_X11_goesShare n (zg_X11g n f') (Int32.ofInt b0) all sh bs0 (nI (q 2 - (j + 1))) (nI R) (nI set) (nI u) (nI cnt) else none) _
    rw [if_pos rfl]
    unfold zh_X11_goesShare
    rw [pv_ld 2 (by omega) (by omega), pu_e1, ha 2 (by omega), if_neg (fun z => by have := (pn_eq (by omega) (by omega)).mp z; omega)]
    generalize hke : q 2 - (j + 1) = k
    have hkj : q 2 - j = k + 1 := by omega
    have hMl := fun u => pm_M_le (q := q) (R := R) (set := set) (T := q 2) j u
    -- the loop over rungs
    refine pu_d5.mpr (pu_mono (P := fun v => ∃ b1 : Int, v.2.2.1 = Int32.ofInt b1 ∧ b0 ≤ b1 ∧ b1 ≤ 6 ∧ (∀ i, i < k → v.2.2.2.1 i = sh i) ∧ ((b1 = b0 ∧ v.2.2.2.2 = bs0 ∧ (set.testBit k = true → ∀ r', r' < R → pm_fr q r' k u = true → ((cnt + 1 + pm_M q R set (q 2) j (u ||| 2 ^ r') : Nat) : Int) ≤ b0)) ∨ (set.testBit k = true ∧ ∃ r1, r1 < R ∧ pm_fr q r1 k u = true ∧ b0 < b1 ∧ b1 = ((cnt + 1 + pm_M q R set (q 2) j (u ||| 2 ^ r1) : Nat) : Int) ∧ (∀ r', r' < R → pm_fr q r' k u = true → pm_M q R set (q 2) j (u ||| 2 ^ r') ≤ pm_M q R set (q 2) j (u ||| 2 ^ r1)) ∧ (∀ r', r' < r1 → pm_fr q r' k u = true → pm_M q R set (q 2) j (u ||| 2 ^ r') < pm_M q R set (q 2) j (u ||| 2 ^ r1)) ∧ (∀ i, i < k → v.2.2.2.2 i = sh i) ∧ v.2.2.2.2 k = nI r1 ∧ (∀ i, i < j → v.2.2.2.2 (k + 1 + i) = pm_gt q R set (q 2) j (u ||| 2 ^ r1) i)))) ?_ ?_)
    · refine pu_up (fun r v => v.1 = nI r ∧ ∃ b1 : Int, v.2.1 = Int32.ofInt b1 ∧ b0 ≤ b1 ∧ b1 ≤ 6 ∧ (∀ i, i < k → v.2.2.1 i = sh i) ∧ ((b1 = b0 ∧ v.2.2.2 = bs0 ∧ (∀ r', r' < r → pm_fr q r' k u = true → ((cnt + 1 + pm_M q R set (q 2) j (u ||| 2 ^ r') : Nat) : Int) ≤ b0)) ∨ (set.testBit k = true ∧ ∃ r1, r1 < r ∧ pm_fr q r1 k u = true ∧ b0 < b1 ∧ b1 = ((cnt + 1 + pm_M q R set (q 2) j (u ||| 2 ^ r1) : Nat) : Int) ∧ (∀ r', r' < r → pm_fr q r' k u = true → pm_M q R set (q 2) j (u ||| 2 ^ r') ≤ pm_M q R set (q 2) j (u ||| 2 ^ r1)) ∧ (∀ r', r' < r1 → pm_fr q r' k u = true → pm_M q R set (q 2) j (u ||| 2 ^ r') < pm_M q R set (q 2) j (u ||| 2 ^ r1)) ∧ (∀ i, i < k → v.2.2.2 i = sh i) ∧ v.2.2.2 k = nI r1 ∧ (∀ i, i < j → v.2.2.2 (k + 1 + i) = pm_gt q R set (q 2) j (u ||| 2 ^ r1) i)))) R (by omega) ⟨rfl, b0, rfl, by omega, hb2, fun _ _ => rfl, Or.inl ⟨rfl, rfl, fun r' h => absurd h (by omega)⟩⟩ ?_
      rintro r ⟨v10, v11, a12, a13⟩ hr ⟨e1, b1, e2, e3, e4, e5, e6⟩
      dsimp only at e1 e2 e5 e6 ⊢
      subst e1 e2
      unfold zb_X11_goesShare_60
      by_cases hcr : R ≤ r
      · have : r = R := by omega
        subst this
        rw [if_pos ((pn_le (by omega) (by omega)).mpr hcr)]
        refine pu_out (by decide) ⟨b1, rfl, e3, e4, e5, ?_⟩
        rcases e6 with ⟨h1, h2, h3⟩ | h
        · exact Or.inl ⟨h1, h2, fun _ => h3⟩
        · exact Or.inr h
      rw [if_neg (fun z => hcr ((pn_le (by omega) (by omega)).mp z)), pb_isIn _ hset _ (by omega), pu_e1]
      by_cases hsk : set.testBit k = true
      rotate_left
      · rw [if_neg hsk, if_pos (by decide)]
        refine pu_out (by decide) ⟨b1, rfl, e3, e4, e5, ?_⟩
        rcases e6 with ⟨h1, h2, h3⟩ | ⟨h, _⟩
        · exact Or.inl ⟨h1, h2, fun z => absurd z hsk⟩
        · exact absurd h hsk
      rw [if_pos hsk, if_neg (by decide), pb_isIn8 _ (by omega) _ (by omega), pu_e1]
      have hnext : pm_fr q r k u = false → ∃ b2 : Int, Int32.ofInt b1 = Int32.ofInt b2 ∧ b0 ≤ b2 ∧ b2 ≤ 6 ∧ (∀ i, i < k → a12 i = sh i) ∧ ((b2 = b0 ∧ a13 = bs0 ∧ (∀ r', r' < r + 1 → pm_fr q r' k u = true → ((cnt + 1 + pm_M q R set (q 2) j (u ||| 2 ^ r') : Nat) : Int) ≤ b0)) ∨ (set.testBit k = true ∧ ∃ r1, r1 < r + 1 ∧ pm_fr q r1 k u = true ∧ b0 < b2 ∧ b2 = ((cnt + 1 + pm_M q R set (q 2) j (u ||| 2 ^ r1) : Nat) : Int) ∧ (∀ r', r' < r + 1 → pm_fr q r' k u = true → pm_M q R set (q 2) j (u ||| 2 ^ r') ≤ pm_M q R set (q 2) j (u ||| 2 ^ r1)) ∧ (∀ r', r' < r1 → pm_fr q r' k u = true → pm_M q R set (q 2) j (u ||| 2 ^ r') < pm_M q R set (q 2) j (u ||| 2 ^ r1)) ∧ (∀ i, i < k → a13 i = sh i) ∧ a13 k = nI r1 ∧ (∀ i, i < j → a13 (k + 1 + i) = pm_gt q R set (q 2) j (u ||| 2 ^ r1) i))) := by
        intro hnf
        refine ⟨b1, rfl, e3, e4, e5, ?_⟩
        rcases e6 with ⟨h1, h2, h3⟩ | ⟨h, r1, r2, r3, r4, r5, r6, r7⟩
        · refine Or.inl ⟨h1, h2, ?_⟩
          intro r' hr' hf'
          by_cases g : r' = r
          · subst g; rw [hnf] at hf'; cases hf'
          · exact h3 r' (by omega) hf'
        · refine Or.inr ⟨h, r1, by omega, r3, r4, r5, ?_, r7⟩
          intro r' hr' hf'
          by_cases g : r' = r
          · subst g; rw [hnf] at hf'; cases hf'
          · exact r6 r' (by omega) hf'
      refine pu_d3.mpr (pu_mono (P := fun y => ∃ b2 : Int, y.1 = Int32.ofInt b2 ∧ b0 ≤ b2 ∧ b2 ≤ 6 ∧ (∀ i, i < k → y.2.1 i = sh i) ∧ ((b2 = b0 ∧ y.2.2 = bs0 ∧ (∀ r', r' < r + 1 → pm_fr q r' k u = true → ((cnt + 1 + pm_M q R set (q 2) j (u ||| 2 ^ r') : Nat) : Int) ≤ b0)) ∨ (set.testBit k = true ∧ ∃ r1, r1 < r + 1 ∧ pm_fr q r1 k u = true ∧ b0 < b2 ∧ b2 = ((cnt + 1 + pm_M q R set (q 2) j (u ||| 2 ^ r1) : Nat) : Int) ∧ (∀ r', r' < r + 1 → pm_fr q r' k u = true → pm_M q R set (q 2) j (u ||| 2 ^ r') ≤ pm_M q R set (q 2) j (u ||| 2 ^ r1)) ∧ (∀ r', r' < r1 → pm_fr q r' k u = true → pm_M q R set (q 2) j (u ||| 2 ^ r') < pm_M q R set (q 2) j (u ||| 2 ^ r1)) ∧ (∀ i, i < k → y.2.2 i = sh i) ∧ y.2.2 k = nI r1 ∧ (∀ i, i < j → y.2.2 (k + 1 + i) = pm_gt q R set (q 2) j (u ||| 2 ^ r1) i)))) ?_ ?_)
      rotate_left
      · rintro ⟨v21, a22, a23⟩ hy
        dsimp only at hy ⊢
        rw [pn_a1, pu_e1]
        exact pu_go ⟨by omega, rfl, hy⟩
      by_cases hur : u.testBit r = true
      · rw [if_pos hur, if_neg (by decide)]
        exact pu_some.mpr (hnext (by unfold pm_fr; rw [hur]; rfl))
      rw [if_neg hur, if_pos (by decide), (pp_holds ha hq hK (show r < 9 by omega) (show k < 6 by omega)).2, pu_e1]
      by_cases hho : pm_ho q r k = true
      rotate_left
      · rw [if_neg hho, if_pos rfl]
        refine pu_some.mpr (hnext ?_)
        unfold pm_fr
        cases hh : pm_ho q r k
        · rw [Bool.and_false]
        · exact absurd hh hho
      have hfr : pm_fr q r k u = true := by
        unfold pm_fr
        rw [hho]
        cases hh : u.testBit r
        · rfl
        · exact absurd hh hur
      rw [if_pos hho, if_neg (by decide), pu_st (by omega) (by omega), pu_e1, pn_a1, pb_sh11 _ (by omega), pn_or, pn_a1, show nI (k + 1) = nI (q 2 - j) from by rw [hkj]]
      have hul : u ||| 2 ^ r < 2 ^ R := Nat.or_lt_two_pow hu (Nat.pow_lt_pow_right (by omega) (by omega))
      refine pu_d3.mpr (pu_mono (ih (by omega) f' (u ||| 2 ^ r) (cnt + 1) b1 _ _ (by omega) hul (by omega) (by omega) e4) ?_)
      rintro ⟨v18, a19, a20⟩ ⟨g1, g2⟩
      dsimp only at g1 g2 ⊢
      rw [hkj] at g1 g2
      have hMr := hMl (u ||| 2 ^ r)
      refine pu_some.mpr ?_
      dsimp only
      have hsh : ∀ i, i < k → a19 i = sh i := by
        intro i hi
        rw [g1 i (by omega), pu_upn (by omega)]
        exact e5 i hi
      rcases g2 with ⟨g3, g4, g5⟩ | ⟨g3, g4, g5, g6⟩
      · -- not better
        refine ⟨b1, g4, e3, e4, hsh, ?_⟩
        rw [g5]
        rcases e6 with ⟨h1, h2, h3⟩ | ⟨h, r1, r2, r3, r4, r5, r6, r7⟩
        · refine Or.inl ⟨h1, h2, ?_⟩
          intro r' hr' hf'
          by_cases g : r' = r
          · subst g; rw [← h1]; exact g3
          · exact h3 r' (by omega) hf'
        · refine Or.inr ⟨h, r1, by omega, r3, r4, r5, ?_, r7⟩
          intro r' hr' hf'
          by_cases g : r' = r
          · subst g; omega
          · exact r6 r' (by omega) hf'
      · -- better
        refine ⟨((cnt + 1 + pm_M q R set (q 2) j (u ||| 2 ^ r) : Nat) : Int), by rw [g4, pi_nI], by omega, by omega, hsh, Or.inr ⟨hsk, r, by omega, hfr, by omega, rfl, ?_, ?_, ?_, ?_, ?_⟩⟩
        · intro r' hr' hf'
          by_cases g : r' = r
          · subst g; omega
          · rcases e6 with ⟨h1, h2, h3⟩ | ⟨h, r1, r2, r3, r4, r5, r6, r7⟩
            · have := h3 r' (by omega) hf'; omega
            · have := r6 r' (by omega) hf'; omega
        · intro r' hr' hf'
          rcases e6 with ⟨h1, h2, h3⟩ | ⟨h, r1, r2, r3, r4, r5, r6, r7⟩
          · have := h3 r' (by omega) hf'; omega
          · have := r6 r' (by omega) hf'; omega
        · intro i hi
          rw [g5 i (by omega), pu_upn (by omega)]
          exact e5 i hi
        · rw [g5 k (by omega), pu_upe]
        · intro i hi
          exact g6 i hi
    · -- none for this thing
      rintro ⟨g29, v25, v26, a27, a28⟩ ⟨b1, e2, e3, e4, e5, e6⟩
      dsimp only at e2 e5 e6 ⊢
      subst e2
      rw [pu_st (by omega) (by omega), pu_e1, pn_a1, show nI (k + 1) = nI (q 2 - j) from by rw [hkj]]
      refine pu_d3.mpr (pu_mono (ih (by omega) f' u cnt b1 _ _ (by omega) hu (by omega) (by omega) e4) ?_)
      rintro ⟨v31, a32, a33⟩ ⟨g1, g2⟩
      dsimp only at g1 g2 ⊢
      rw [hkj] at g1 g2
      refine pu_some.mpr ?_
      have hM1 : pm_M q R set (q 2) (j + 1) u = if set.testBit k = true then pm_mr (pm_M q R set (q 2) j) q k u R else pm_M q R set (q 2) j u := by
        show (if set.testBit (q 2 - (j + 1)) = true then pm_mr (pm_M q R set (q 2) j) q (q 2 - (j + 1)) u R else pm_M q R set (q 2) j u) = _
        rw [hke]
      have hcho : pm_cho q R set (q 2) (j + 1) u = if set.testBit k = true then pm_cf (pm_M q R set (q 2) j) q R k u (pm_M q R set (q 2) (j + 1) u) R else none := by
        unfold pm_cho
        rw [hke, show j + 1 - 1 = j from by omega]
      have hgt0 : pm_gt q R set (q 2) (j + 1) u 0 = pm_oi (pm_cho q R set (q 2) (j + 1) u) := rfl
      have hgts : ∀ i, pm_gt q R set (q 2) (j + 1) u (i + 1) = pm_gt q R set (q 2) j (pm_un u (pm_cho q R set (q 2) (j + 1) u)) i := by
        intro i
        unfold pm_gt
        rw [pm_pu_s, show j + 1 - (i + 1) = j - i from by omega]
      have hMlu := hMl u
      unfold pr_fin
      rw [hke]
      dsimp only
      refine ⟨fun i hi => by rw [g1 i (by omega), pu_upn (by omega)]; exact e5 i hi, ?_⟩
      rcases g2 with ⟨g3, g4, g5⟩ | ⟨g3, g4, g5, g6⟩
      · -- leaving it out is not better
        rcases e6 with ⟨h1, h2, h3⟩ | ⟨h, r1, r2, r3, r4, r5, r6, r7, r8, r9, r10⟩
        · -- nothing is better
          left
          refine ⟨?_, by rw [g4, h1], by rw [g5, h2]⟩
          rw [hM1]
          by_cases hsk : set.testBit k = true
          · rw [if_pos hsk]
            rcases pm_mr_c (f := pm_M q R set (q 2) j) (q := q) (k := k) (u := u) R with z | ⟨r, z1, z2, z3⟩
            · rw [z]; omega
            · rw [z3]
              have := h3 hsk r z1 z2
              omega
          · rw [if_neg hsk]; omega
        · -- a rung is best
          have hmax : pm_M q R set (q 2) (j + 1) u = 1 + pm_M q R set (q 2) j (u ||| 2 ^ r1) := by
            rw [hM1, if_pos h]
            have hge := pm_mr_ge (f := pm_M q R set (q 2) j) (q := q) (k := k) (u := u) R r2 r3
            rcases pm_mr_c (f := pm_M q R set (q 2) j) (q := q) (k := k) (u := u) R with z | ⟨r, z1, z2, z3⟩
            · omega
            · have := r6 r z1 z2
              omega
          have hc : pm_cho q R set (q 2) (j + 1) u = some r1 := by
            rw [hcho, if_pos h]
            refine pm_cf_eq r2 r3 hmax.symm ?_
            rintro r' hr' ⟨z1, z2⟩
            have := r7 r' hr' z1
            omega
          right
          refine ⟨by rw [hmax]; omega, by rw [g4, hmax, r5, pi_nI]; congr 2; omega, fun i hi => by rw [g5]; exact r8 i hi, ?_⟩
          intro i hi
          rw [g5]
          cases i with
          | zero => rw [hgt0, hc, Nat.add_zero]; exact r9
          | succ i =>
            rw [hgts, hc, show k + (i + 1) = k + 1 + i from by omega]
            exact r10 i (by omega)
      · -- leaving it out is best
        have hle : ∀ r', set.testBit k = true → r' < R → pm_fr q r' k u = true → 1 + pm_M q R set (q 2) j (u ||| 2 ^ r') < 1 + pm_M q R set (q 2) j u := by
          intro r' hsk hr' hf'
          rcases e6 with ⟨h1, h2, h3⟩ | ⟨h, r1, r2, r3, r4, r5, r6, r7, r8, r9, r10⟩
          · have := h3 hsk r' hr' hf'; omega
          · have := r6 r' hr' hf'; omega
        have hle2 : ∀ r', set.testBit k = true → r' < R → pm_fr q r' k u = true → 1 + pm_M q R set (q 2) j (u ||| 2 ^ r') < pm_M q R set (q 2) j u := by
          intro r' hsk hr' hf'
          rcases e6 with ⟨h1, h2, h3⟩ | ⟨h, r1, r2, r3, r4, r5, r6, r7, r8, r9, r10⟩
          · have := h3 hsk r' hr' hf'; omega
          · have := r6 r' hr' hf'; omega
        have hmax : pm_M q R set (q 2) (j + 1) u = pm_M q R set (q 2) j u := by
          rw [hM1]
          by_cases hsk : set.testBit k = true
          · rw [if_pos hsk]
            rcases pm_mr_c (f := pm_M q R set (q 2) j) (q := q) (k := k) (u := u) R with z | ⟨r, z1, z2, z3⟩
            · exact z
            · have h1 := hle2 r hsk z1 z2
              have h2 := pm_mr_0 (f := pm_M q R set (q 2) j) (q := q) (k := k) (u := u) R
              omega
          · rw [if_neg hsk]
        have hc : pm_cho q R set (q 2) (j + 1) u = none := by
          rw [hcho]
          by_cases hsk : set.testBit k = true
          · rw [if_pos hsk]
            refine pm_cf_no ?_
            rintro r' hr' ⟨z1, z2⟩
            have := hle2 r' hsk hr' z1
            rw [hmax] at z2
            omega
          · rw [if_neg hsk]
        right
        refine ⟨by rw [hmax]; omega, by rw [g4, hmax], fun i hi => by rw [g5 i (by omega), pu_upn (by omega)]; exact e5 i hi, ?_⟩
        intro i hi
        cases i with
        | zero => rw [hgt0, hc, Nat.add_zero, g5 k (by omega), pu_upe]; rfl
        | succ i =>
          rw [hgts, hc, show k + (i + 1) = k + 1 + i from by omega]
          exact g6 i (by omega)
end PSh
