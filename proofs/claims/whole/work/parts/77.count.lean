/-! rows of deeds counted: mathematics -/
def pm_si (f : Nat → Nat) (F : List Nat) : Nat → Nat
  | 0 => 0
  | i + 1 => pm_si f F i + f (F.getD i 0)
theorem pm_si_congr {f g : Nat → Nat} {F : List Nat} : ∀ n, (∀ i, i < n → f (F.getD i 0) = g (F.getD i 0)) → pm_si f F n = pm_si g F n := by
  intro n
  induction n with
  | zero => intro _; rfl
  | succ n ih =>
    intro h
    show pm_si f F n + f (F.getD n 0) = pm_si g F n + g (F.getD n 0)
    rw [ih (fun i hi => h i (by omega)), h n (by omega)]
theorem pm_si_add {f g : Nat → Nat} {F : List Nat} : ∀ n, pm_si (fun t => f t + g t) F n = pm_si f F n + pm_si g F n := by
  intro n
  induction n with
  | zero => rfl
  | succ n ih =>
    show pm_si (fun t => f t + g t) F n + (f (F.getD n 0) + g (F.getD n 0)) = pm_si f F n + f (F.getD n 0) + (pm_si g F n + g (F.getD n 0))
    rw [ih]; omega
theorem pm_si_zero {f : Nat → Nat} {F : List Nat} : ∀ n, (∀ i, i < n → f (F.getD i 0) = 0) → pm_si f F n = 0 := by
  intro n
  induction n with
  | zero => intro _; rfl
  | succ n ih =>
    intro h
    show pm_si f F n + f (F.getD n 0) = 0
    rw [ih (fun i hi => h i (by omega)), h n (by omega)]
theorem pm_si_ext {f : Nat → Nat} {F : List Nat} {a : Nat} : ∀ d, (∀ i, a ≤ i → i < a + d → f (F.getD i 0) = 0) → pm_si f F (a + d) = pm_si f F a := by
  intro d
  induction d with
  | zero => intro _; rfl
  | succ d ih =>
    intro h
    show pm_si f F (a + d) + f (F.getD (a + d) 0) = _
    rw [ih (fun i h1 h2 => h i h1 (by omega)), h (a + d) (by omega) (by omega), Nat.add_zero]
theorem pm_si_one {x : Nat} {F : List Nat} (hnd : F.Nodup) {j : Nat} (hj : j < F.length) : ∀ n, n ≤ F.length → pm_si (fun t => if t = F.getD j 0 then x else 0) F n = if j < n then x else 0 := by
  intro n
  induction n with
  | zero => intro _; rfl
  | succ n ih =>
    intro h
    show pm_si (fun t => if t = F.getD j 0 then x else 0) F n + (if F.getD n 0 = F.getD j 0 then x else 0) = _
    rw [ih (by omega)]
    by_cases c : n = j
    · subst c; rw [if_neg (by omega), if_pos rfl, if_pos (by omega)]; omega
    · rw [if_neg (fun z => c (pm_nd_inj hnd (by omega) hj z))]
      by_cases d : j < n
      · rw [if_pos d, if_pos (by omega), Nat.add_zero]
      · rw [if_neg d, if_neg (by omega)]
theorem pm_si_mem {f : Nat → Nat} {F : List Nat} {j : Nat} : ∀ n, j < n → f (F.getD j 0) ≤ pm_si f F n := by
  intro n
  induction n with
  | zero => intro h; omega
  | succ n ih =>
    intro h
    show _ ≤ pm_si f F n + f (F.getD n 0)
    by_cases c : j = n
    · subst c; omega
    · have := ih (by omega); omega
theorem pm_si_eq0 {f : Nat → Nat} {F : List Nat} {n : Nat} : pm_si f F n = 0 ↔ ∀ i, i < n → f (F.getD i 0) = 0 := by
  constructor
  · intro h i hi
    have := pm_si_mem (f := f) (F := F) n hi
    omega
  · exact pm_si_zero n
/-- what comes to a stand by one more deed, deed by deed -/
def pm_Q (q : Nat → Nat) (w : Nat) (F : List Nat) (W : Nat → Bool) (cnt : Nat → Nat) : Nat → Nat → Nat
  | 0, _ => 0
  | c + 1, t => pm_Q q w F W cnt c t + (if pm_wy q w (F.getD (c / 15) 0) (c % 15) = 0 ∧ pm_ac q w (F.getD (c / 15) 0) (c % 15) = t ∧ W t = true then cnt (F.getD (c / 15) 0) else 0)
def pm_fw (q : Nat → Nat) (w : Nat) (F : List Nat) (W : Nat → Nat → Bool) (s0 : Nat) : Nat → Nat → Nat
  | 0, t => if t = s0 then 1 else 0
  | m + 1, t => pm_Q q w F (W m) (pm_fw q w F W s0 m) (15 * F.length) t
def pm_bk (q : Nat → Nat) (w : Nat) (W : Nat → Bool) (o : Nat → Nat) (s : Nat) : Nat → Nat
  | 0 => 0
  | k + 1 => pm_bk q w W o s k + (if pm_wy q w s k = 0 ∧ W (pm_ac q w s k) = true then o (pm_ac q w s k) else 0)
def pm_O (q : Nat → Nat) (w : Nat) (W : Nat → Nat → Bool) (n : Nat) (e : Nat → Nat) : Nat → Nat → Nat
  | 0, s => e s
  | r + 1, s => pm_bk q w (W (n - (r + 1))) (pm_O q w W n e r) s 15
def pm_P (q : Nat → Nat) (w : Nat) (F : List Nat) (W : Nat → Bool) (cnt o : Nat → Nat) : Nat → Nat
  | 0 => 0
  | c + 1 => pm_P q w F W cnt o c + (if pm_wy q w (F.getD (c / 15) 0) (c % 15) = 0 ∧ W (pm_ac q w (F.getD (c / 15) 0) (c % 15)) = true then cnt (F.getD (c / 15) 0) * o (pm_ac q w (F.getD (c / 15) 0) (c % 15)) else 0)
/-- a list that is closed -/
def pm_cl (q : Nat → Nat) (w : Nat) (F : List Nat) : Prop := F.Nodup ∧ ∀ s ∈ F, ∀ m, m < 15 → pm_wy q w s m = 0 → pm_ac q w s m ∈ F
theorem pm_L_cl {q : Nat → Nat} {w s0 : Nat} (hq : pm_cliff q) (h0 : pm_st q s0) : pm_cl q w (pm_F (pm_tg q w) s0) := by
  refine ⟨pm_L_nd, ?_⟩
  intro s hs m hm hc
  obtain ⟨i, i1, i2⟩ := pm_mem_get hs
  obtain ⟨k, k1, k2, _⟩ := pm_L_tgt (q := q) (w := w) hq h0 i1 hm (by rw [i2]; exact hc)
  rw [i2] at k2
  rw [← k2]
  exact pm_getD_mem k1
section PN
variable {q : Nat → Nat} {w s0 : Nat} {F : List Nat}
theorem pm_adA {W : Nat → Bool} {cnt o : Nat → Nat} (hF : pm_cl q w F) : ∀ c, c ≤ 15 * F.length → pm_si (fun t => pm_Q q w F W cnt c t * o t) F F.length = pm_P q w F W cnt o c := by
  intro c
  induction c with
  | zero =>
    intro _
    refine pm_si_zero _ ?_
    intro i _
    show 0 * o _ = 0
    omega
  | succ c ih =>
    intro h
    have hs : F.getD (c / 15) 0 ∈ F := pm_getD_mem (by omega)
    show pm_si (fun t => (pm_Q q w F W cnt c t + (if pm_wy q w (F.getD (c / 15) 0) (c % 15) = 0 ∧ pm_ac q w (F.getD (c / 15) 0) (c % 15) = t ∧ W t = true then cnt (F.getD (c / 15) 0) else 0)) * o t) F F.length = pm_P q w F W cnt o c + (if pm_wy q w (F.getD (c / 15) 0) (c % 15) = 0 ∧ W (pm_ac q w (F.getD (c / 15) 0) (c % 15)) = true then cnt (F.getD (c / 15) 0) * o (pm_ac q w (F.getD (c / 15) 0) (c % 15)) else 0)
    rw [← ih (by omega)]
    generalize F.getD (c / 15) 0 = s at hs ⊢
    by_cases d : pm_wy q w s (c % 15) = 0 ∧ W (pm_ac q w s (c % 15)) = true
    · obtain ⟨j, j1, j2⟩ := pm_mem_get (hF.2 s hs _ (by omega) d.1)
      rw [if_pos d]
      have e : pm_si (fun t => (pm_Q q w F W cnt c t + (if pm_wy q w s (c % 15) = 0 ∧ pm_ac q w s (c % 15) = t ∧ W t = true then cnt s else 0)) * o t) F F.length = pm_si (fun t => pm_Q q w F W cnt c t * o t + (if t = F.getD j 0 then cnt s * o (pm_ac q w s (c % 15)) else 0)) F F.length := by
        refine pm_si_congr _ ?_
        intro i _
        try dsimp only
        rw [j2]
        by_cases f : F.getD i 0 = pm_ac q w s (c % 15)
        · rw [f, if_pos ⟨d.1, rfl, d.2⟩, if_pos rfl, Nat.add_mul]
        · rw [if_neg (fun z => f z.2.1.symm), if_neg f, Nat.add_zero, Nat.add_zero]
      rw [e, pm_si_add, pm_si_one hF.1 j1 _ (Nat.le_refl _), if_pos j1]
    · rw [if_neg d, Nat.add_zero]
      refine pm_si_congr _ ?_
      intro i _
      rw [if_neg (fun z => d ⟨z.1, by rw [z.2.1]; exact z.2.2⟩), Nat.add_zero]
theorem pm_adB {W : Nat → Bool} {cnt o : Nat → Nat} (i : Nat) : ∀ k, k ≤ 15 → pm_P q w F W cnt o (15 * i + k) = pm_P q w F W cnt o (15 * i) + cnt (F.getD i 0) * pm_bk q w W o (F.getD i 0) k := by
  intro k
  induction k with
  | zero => intro _; rw [Nat.add_zero]; show _ = _ + cnt _ * 0; omega
  | succ k ih =>
    intro h
    show pm_P q w F W cnt o (15 * i + k) + (if pm_wy q w (F.getD ((15 * i + k) / 15) 0) ((15 * i + k) % 15) = 0 ∧ W (pm_ac q w (F.getD ((15 * i + k) / 15) 0) ((15 * i + k) % 15)) = true then cnt (F.getD ((15 * i + k) / 15) 0) * o (pm_ac q w (F.getD ((15 * i + k) / 15) 0) ((15 * i + k) % 15)) else 0) = pm_P q w F W cnt o (15 * i) + cnt (F.getD i 0) * (pm_bk q w W o (F.getD i 0) k + (if pm_wy q w (F.getD i 0) k = 0 ∧ W (pm_ac q w (F.getD i 0) k) = true then o (pm_ac q w (F.getD i 0) k) else 0))
    rw [show (15 * i + k) / 15 = i from by omega, show (15 * i + k) % 15 = k from by omega, ih (by omega), Nat.mul_add]
    by_cases d : pm_wy q w (F.getD i 0) k = 0 ∧ W (pm_ac q w (F.getD i 0) k) = true
    · rw [if_pos d, if_pos d]; omega
    · rw [if_neg d, if_neg d]; omega
theorem pm_adC {W : Nat → Bool} {cnt o : Nat → Nat} : ∀ i, pm_P q w F W cnt o (15 * i) = pm_si (fun s => cnt s * pm_bk q w W o s 15) F i := by
  intro i
  induction i with
  | zero => rfl
  | succ i ih =>
    rw [show 15 * (i + 1) = 15 * i + 15 from rfl, pm_adB i 15 (Nat.le_refl _), ih]
    rfl
/-- forward and back -/
theorem pm_adj {W : Nat → Nat → Bool} {n : Nat} {e : Nat → Nat} (hF : pm_cl q w F) (h0 : s0 ∈ F) : ∀ m, m ≤ n → pm_si (fun t => pm_fw q w F W s0 m t * pm_O q w W n e (n - m) t) F F.length = pm_O q w W n e n s0 := by
  intro m
  induction m with
  | zero =>
    intro _
    obtain ⟨j, j1, j2⟩ := pm_mem_get h0
    have e1 : pm_si (fun t => pm_fw q w F W s0 0 t * pm_O q w W n e (n - 0) t) F F.length = pm_si (fun t => if t = F.getD j 0 then pm_O q w W n e n s0 else 0) F F.length := by
      refine pm_si_congr _ ?_
      intro i _
      show (if F.getD i 0 = s0 then 1 else 0) * pm_O q w W n e n (F.getD i 0) = (if F.getD i 0 = F.getD j 0 then pm_O q w W n e n s0 else 0)
      rw [j2]
      by_cases c : F.getD i 0 = s0
      · rw [if_pos c, if_pos c, c]; omega
      · rw [if_neg c, if_neg c]; omega
    rw [e1, pm_si_one hF.1 j1 _ (Nat.le_refl _), if_pos j1]
  | succ m ih =>
    intro h
    rw [← ih (by omega)]
    have e1 := pm_adA (W := W m) (cnt := pm_fw q w F W s0 m) (o := pm_O q w W n e (n - (m + 1))) hF (15 * F.length) (Nat.le_refl _)
    rw [pm_adC] at e1
    refine e1.trans (pm_si_congr _ ?_)
    intro i _
    rw [show n - m = (n - (m + 1)) + 1 from by omega]
    show _ = _ * pm_bk q w (W (n - (n - (m + 1) + 1))) (pm_O q w W n e (n - (m + 1))) (F.getD i 0) 15
    rw [show n - (n - (m + 1) + 1) = m from by omega]
theorem pm_adn {W : Nat → Nat → Bool} {n : Nat} {e : Nat → Nat} (hF : pm_cl q w F) (h0 : s0 ∈ F) : pm_si (fun t => pm_fw q w F W s0 n t * e t) F F.length = pm_O q w W n e n s0 := by
  have := pm_adj (q := q) (w := w) (W := W) (n := n) (e := e) hF h0 n (Nat.le_refl _)
  rw [Nat.sub_self] at this
  exact this
theorem pm_bk_le {W : Nat → Bool} {o : Nat → Nat} {b s : Nat} (hb : ∀ t, o t ≤ b) : ∀ k, pm_bk q w W o s k ≤ k * b := by
  intro k
  induction k with
  | zero => exact Nat.zero_le _
  | succ k ih =>
    show pm_bk q w W o s k + (if pm_wy q w s k = 0 ∧ W (pm_ac q w s k) = true then o (pm_ac q w s k) else 0) ≤ (k + 1) * b
    rw [Nat.succ_mul]
    have := hb (pm_ac q w s k)
    split <;> omega
theorem pm_O_le {W : Nat → Nat → Bool} {n : Nat} {e : Nat → Nat} (he : ∀ t, e t ≤ 1) : ∀ r s, pm_O q w W n e r s ≤ 15 ^ r := by
  intro r
  induction r with
  | zero => intro s; exact he s
  | succ r ih =>
    intro s
    have := pm_bk_le (q := q) (w := w) (W := W (n - (r + 1))) (s := s) ih 15
    show pm_bk q w (W (n - (r + 1))) (pm_O q w W n e r) s 15 ≤ 15 ^ (r + 1)
    rw [Nat.pow_succ, Nat.mul_comm]
    exact this
theorem pm_fw_le {W : Nat → Nat → Bool} (hF : pm_cl q w F) (h0 : s0 ∈ F) (m : Nat) {t : Nat} (ht : t ∈ F) : pm_fw q w F W s0 m t ≤ 15 ^ m := by
  have h1 := pm_adn (q := q) (w := w) (W := W) (n := m) (e := fun _ => 1) hF h0
  have h2 := pm_O_le (q := q) (w := w) (W := W) (n := m) (e := fun _ => 1) (fun _ => Nat.le_refl _) m s0
  obtain ⟨j, j1, j2⟩ := pm_mem_get ht
  have h3 := pm_si_mem (f := fun t => pm_fw q w F W s0 m t * 1) (F := F) F.length j1
  rw [j2] at h3
  have h3' : pm_fw q w F W s0 m t * 1 ≤ _ := h3
  omega
theorem pm_Q_0 {W : Nat → Bool} {cnt : Nat → Nat} {i t : Nat} (h : cnt (F.getD i 0) = 0) : ∀ k, k ≤ 15 → pm_Q q w F W cnt (15 * i + k) t = pm_Q q w F W cnt (15 * i) t := by
  intro k
  induction k with
  | zero => intro _; rfl
  | succ k ih =>
    intro hk
    show pm_Q q w F W cnt (15 * i + k) t + (if pm_wy q w (F.getD ((15 * i + k) / 15) 0) ((15 * i + k) % 15) = 0 ∧ pm_ac q w (F.getD ((15 * i + k) / 15) 0) ((15 * i + k) % 15) = t ∧ W t = true then cnt (F.getD ((15 * i + k) / 15) 0) else 0) = _
    rw [ih (by omega), show (15 * i + k) / 15 = i from by omega, h, ite_self, Nat.add_zero]
theorem pm_Q_s {W : Nat → Bool} {cnt : Nat → Nat} {i k t : Nat} (hk : k < 15) : pm_Q q w F W cnt (15 * i + (k + 1)) t = pm_Q q w F W cnt (15 * i + k) t + (if pm_wy q w (F.getD i 0) k = 0 ∧ pm_ac q w (F.getD i 0) k = t ∧ W t = true then cnt (F.getD i 0) else 0) := by
  show pm_Q q w F W cnt (15 * i + k) t + (if pm_wy q w (F.getD ((15 * i + k) / 15) 0) ((15 * i + k) % 15) = 0 ∧ pm_ac q w (F.getD ((15 * i + k) / 15) 0) ((15 * i + k) % 15) = t ∧ W t = true then cnt (F.getD ((15 * i + k) / 15) 0) else 0) = _
  rw [show (15 * i + k) / 15 = i from by omega, show (15 * i + k) % 15 = k from by omega]
theorem pm_Q_ext {W : Nat → Bool} {cnt : Nat → Nat} {a t : Nat} : ∀ d, (∀ i, a ≤ i → i < a + d → cnt (F.getD i 0) = 0) → pm_Q q w F W cnt (15 * (a + d)) t = pm_Q q w F W cnt (15 * a) t := by
  intro d
  induction d with
  | zero => intro _; rfl
  | succ d ih =>
    intro h
    rw [show 15 * (a + (d + 1)) = 15 * (a + d) + 15 from by omega, pm_Q_0 (h (a + d) (by omega) (by omega)) 15 (Nat.le_refl _), ih (fun i h1 h2 => h i h1 (by omega))]
theorem pm_Q_ne {W : Nat → Bool} {cnt : Nat → Nat} {t : Nat} : ∀ c, ¬ pm_Q q w F W cnt c t = 0 → ∃ i k, k < 15 ∧ 15 * i + k < c ∧ pm_wy q w (F.getD i 0) k = 0 ∧ pm_ac q w (F.getD i 0) k = t ∧ W t = true ∧ ¬ cnt (F.getD i 0) = 0 := by
  intro c
  induction c with
  | zero => intro h; exact absurd rfl h
  | succ c ih =>
    intro h
    by_cases d : pm_Q q w F W cnt c t = 0
    · have h' : ¬ pm_Q q w F W cnt c t + (if pm_wy q w (F.getD (c / 15) 0) (c % 15) = 0 ∧ pm_ac q w (F.getD (c / 15) 0) (c % 15) = t ∧ W t = true then cnt (F.getD (c / 15) 0) else 0) = 0 := h
      rw [d, Nat.zero_add] at h'
      by_cases f : pm_wy q w (F.getD (c / 15) 0) (c % 15) = 0 ∧ pm_ac q w (F.getD (c / 15) 0) (c % 15) = t ∧ W t = true
      · rw [if_pos f] at h'
        exact ⟨c / 15, c % 15, by omega, by omega, f.1, f.2.1, f.2.2, h'⟩
      · rw [if_neg f] at h'; exact absurd rfl h'
    · obtain ⟨i, k, h1, h2, h3⟩ := ih d
      exact ⟨i, k, h1, by omega, h3⟩
theorem pm_Q_mono {W : Nat → Bool} {cnt : Nat → Nat} {t c : Nat} : ∀ d, pm_Q q w F W cnt c t ≤ pm_Q q w F W cnt (c + d) t := by
  intro d
  induction d with
  | zero => exact Nat.le_refl _
  | succ d ih => exact Nat.le_trans ih (Nat.le_add_right _ _)
theorem pm_Q_in {W : Nat → Bool} {cnt : Nat → Nat} {t i k : Nat} (hi : i < F.length) (hk : k < 15) (h1 : pm_wy q w (F.getD i 0) k = 0) (h2 : pm_ac q w (F.getD i 0) k = t) (h3 : W t = true) (h4 : ¬ cnt (F.getD i 0) = 0) : ¬ pm_Q q w F W cnt (15 * F.length) t = 0 := by
  have e := pm_Q_s (q := q) (w := w) (F := F) (W := W) (cnt := cnt) (i := i) (t := t) hk
  rw [if_pos ⟨h1, h2, h3⟩] at e
  have := pm_Q_mono (q := q) (w := w) (F := F) (W := W) (cnt := cnt) (t := t) (c := 15 * i + (k + 1)) (15 * F.length - (15 * i + (k + 1)))
  rw [show 15 * i + (k + 1) + (15 * F.length - (15 * i + (k + 1))) = 15 * F.length from by omega] at this
  omega
theorem pm_bk_0 {W : Nat → Bool} {o : Nat → Nat} {s : Nat} : ∀ n, pm_bk q w W o s n = 0 ↔ ∀ k, k < n → pm_wy q w s k = 0 → W (pm_ac q w s k) = true → o (pm_ac q w s k) = 0 := by
  intro n
  induction n with
  | zero => exact ⟨fun _ k h => absurd h (by omega), fun _ => rfl⟩
  | succ n ih =>
    have e : pm_bk q w W o s (n + 1) = pm_bk q w W o s n + (if pm_wy q w s n = 0 ∧ W (pm_ac q w s n) = true then o (pm_ac q w s n) else 0) := rfl
    rw [e]
    constructor
    · intro h k hk h1 h2
      by_cases c : k = n
      · subst c; rw [if_pos ⟨h1, h2⟩] at h; omega
      · exact ih.mp (by omega) k (by omega) h1 h2
    · intro h
      rw [ih.mpr (fun k hk => h k (by omega))]
      by_cases c : pm_wy q w s n = 0 ∧ W (pm_ac q w s n) = true
      · rw [if_pos c, h n (by omega) c.1 c.2]
      · rw [if_neg c]
end PN
/-- nothing comes so far so soon -/
theorem pm_fw_far {q : Nat → Nat} {w s0 : Nat} {W : Nat → Nat → Bool} (hq : pm_cliff q) (h0 : pm_st q s0) : ∀ m i, i < (pm_F (pm_tg q w) s0).length → m < pm_de (pm_tg q w) s0 i → pm_fw q w (pm_F (pm_tg q w) s0) W s0 m ((pm_F (pm_tg q w) s0).getD i 0) = 0 := by
  have hF0 := pm_F_0 (pm_tg q w) s0
  intro m
  induction m with
  | zero =>
    intro i hi hd
    show (if (pm_F (pm_tg q w) s0).getD i 0 = s0 then 1 else 0) = 0
    rw [if_neg]
    intro z
    have := pm_nd_inj (pm_L_nd (q := q) (w := w) (s0 := s0)) hi hF0.2 (by rw [z, hF0.1])
    subst this
    rw [pm_de_0] at hd; omega
  | succ m ih =>
    intro i hi hd
    by_cases c : pm_fw q w (pm_F (pm_tg q w) s0) W s0 (m + 1) ((pm_F (pm_tg q w) s0).getD i 0) = 0
    · exact c
    · exfalso
      obtain ⟨j, k, k1, k2, k3, k4, _, k5⟩ := pm_Q_ne _ c
      have hj : j < (pm_F (pm_tg q w) s0).length := by omega
      obtain ⟨x, x1, x2, x3⟩ := pm_L_tgt (q := q) (w := w) hq h0 hj k1 k3
      have e : x = i := pm_nd_inj (pm_L_nd (q := q) (w := w) (s0 := s0)) x1 hi (by rw [x2, k4])
      subst e
      have d1 := pm_de_tgt hj x1 k1 x3
      exact k5 (ih j hj (by omega))
