/-! between two lines: the pilgrim, the wind, the slips -/
section PBf
variable {q x : Nat → Nat} {c : Nat} {top things sr sth ss sw sl co tf tt mf mt : Int32} {bars gives rough code fresh : Nat → Int32}
theorem pp_J_P {r s g : Nat} {fresh' : Nat → Int32} (h : pp_J q c x top things sr sth ss sw sl co tf tt mf mt bars gives rough code fresh) (hr : r ≤ q 1) (hs : s < 2 ^ q 2) (hg : g ≤ 4) (f1 : fresh' 37 = nI r) (f2 : fresh' 38 = nI s) (f3 : fresh' 39 = nI g) (f4 : ∀ k, ¬ k = 37 → ¬ k = 38 → ¬ k = 39 → fresh' k = fresh k) : ∃ q', pp_J q' c x top things (nI r) (nI s) (nI g) sw sl co tf tt mf mt bars gives rough code fresh' := by
  obtain ⟨h1, h2, h3, h4, h5, h6⟩ := h
  obtain ⟨_, _, _, h2d, h2e⟩ := h2
  have hq : ∀ k, ¬ k = 37 → ¬ k = 38 → ¬ k = 39 → (fun k => if k = 37 then r else if k = 38 then s else if k = 39 then g else q k) k = q k := by
    intro k a b d
    show (if k = 37 then r else if k = 38 then s else if k = 39 then g else q k) = q k
    rw [if_neg a, if_neg b, if_neg d]
  have q37 : (fun k => if k = 37 then r else if k = 38 then s else if k = 39 then g else q k) 37 = r := rfl
  have q38 : (fun k => if k = 37 then r else if k = 38 then s else if k = 39 then g else q k) 38 = s := rfl
  have q39 : (fun k => if k = 37 then r else if k = 38 then s else if k = 39 then g else q k) 39 = g := rfl
  refine ⟨fun k => if k = 37 then r else if k = 38 then s else if k = 39 then g else q k, ?_⟩
  generalize (fun k => if k = 37 then r else if k = 38 then s else if k = 39 then g else q k) = p at hq q37 q38 q39 ⊢
  unfold pp_J pp_W at *
  rw [q37, q38, q39, hq 1 (by omega) (by omega) (by omega), hq 2 (by omega) (by omega) (by omega), hq 40 (by omega) (by omega) (by omega), hq 3 (by omega) (by omega) (by omega), hq (4 + 0) (by omega) (by omega) (by omega), hq (6 + 0) (by omega) (by omega) (by omega), hq (8 + 0) (by omega) (by omega) (by omega), hq (4 + 1) (by omega) (by omega) (by omega), hq (6 + 1) (by omega) (by omega) (by omega), hq (8 + 1) (by omega) (by omega) (by omega)]
  refine ⟨h1, ⟨⟨rfl, hr⟩, ⟨rfl, hs⟩, ⟨rfl, hg⟩, h2d, h2e⟩, ?_, h4, h5, ?_⟩
  · intro l hl
    rw [hq (10 + l) (by omega) (by omega) (by omega), hq (19 + l) (by omega) (by omega) (by omega), hq (28 + l) (by omega) (by omega) (by omega)]
    exact h3 l hl
  · obtain ⟨k1, k2, k3, k4⟩ := h6
    refine ⟨k1, fun k hk => ?_, ?_, fun k hk => ?_⟩
    · rw [f4 _ (by omega) (by omega) (by omega)]; exact k2 k hk
    · rw [f4 _ (by omega) (by omega) (by omega)]; exact k3
    · show fresh' k = nI (p k)
      by_cases a : k = 37
      · rw [a, q37, f1]
      by_cases b : k = 38
      · rw [b, q38, f2]
      by_cases d : k = 39
      · rw [d, q39, f3]
      rw [hq k a b d, f4 k a b d]
      exact k4 k hk
theorem pp_J_w {v : Nat} (h : pp_J q c x top things sr sth ss sw sl co tf tt mf mt bars gives rough code fresh) (hv : v ≤ 9) : ∃ q', pp_J q' c x top things sr sth ss (nI v) sl co tf tt mf mt bars gives rough code (va_up fresh 40 (nI v)) := by
  obtain ⟨h1, h2, h3, h4, h5, h6⟩ := h
  obtain ⟨h2a, h2b, h2c, _, h2e⟩ := h2
  have hq : ∀ k, ¬ k = 40 → pm_wx q 40 v k = q k := fun k a => pm_wx_n a
  refine ⟨pm_wx q 40 v, ?_⟩
  unfold pp_J pp_W at *
  rw [pm_wx_e, hq 1 (by omega), hq 2 (by omega), hq 37 (by omega), hq 38 (by omega), hq 39 (by omega), hq 3 (by omega), hq (4 + 0) (by omega), hq (6 + 0) (by omega), hq (8 + 0) (by omega), hq (4 + 1) (by omega), hq (6 + 1) (by omega), hq (8 + 1) (by omega)]
  refine ⟨h1, ⟨h2a, h2b, h2c, ⟨rfl, hv⟩, h2e⟩, ?_, h4, h5, ?_⟩
  · intro l hl
    rw [hq (10 + l) (by omega), hq (19 + l) (by omega), hq (28 + l) (by omega)]
    exact h3 l hl
  · obtain ⟨k1, k2, k3, k4⟩ := h6
    refine ⟨k1, fun k hk => ?_, ?_, fun k hk => ?_⟩
    · rw [pu_upn (by omega)]; exact k2 k hk
    · rw [pu_upn (by omega)]; exact k3
    · show va_up fresh 40 (nI v) k = nI (pm_wx q 40 v k)
      by_cases a : k = 40
      · rw [a, pu_upe, pm_wx_e]
      · rw [pu_upn a, hq k a]; exact k4 k hk
theorem pp_J_s {v : Nat} (h : pp_J q c x top things sr sth ss sw sl co tf tt mf mt bars gives rough code fresh) (hv : v ≤ 10) : ∃ q', pp_J q' c x top things sr sth ss sw (nI v) co tf tt mf mt bars gives rough code (va_up fresh 3 (nI v)) := by
  obtain ⟨h1, h2, h3, h4, h5, h6⟩ := h
  obtain ⟨h2a, h2b, h2c, h2d, _⟩ := h2
  have hq : ∀ k, ¬ k = 3 → pm_wx q 3 v k = q k := fun k a => pm_wx_n a
  refine ⟨pm_wx q 3 v, ?_⟩
  unfold pp_J pp_W at *
  rw [pm_wx_e, hq 1 (by omega), hq 2 (by omega), hq 37 (by omega), hq 38 (by omega), hq 39 (by omega), hq 40 (by omega), hq (4 + 0) (by omega), hq (6 + 0) (by omega), hq (8 + 0) (by omega), hq (4 + 1) (by omega), hq (6 + 1) (by omega), hq (8 + 1) (by omega)]
  refine ⟨h1, ⟨h2a, h2b, h2c, h2d, ⟨rfl, hv⟩⟩, ?_, h4, h5, ?_⟩
  · intro l hl
    rw [hq (10 + l) (by omega), hq (19 + l) (by omega), hq (28 + l) (by omega)]
    exact h3 l hl
  · obtain ⟨k1, k2, k3, k4⟩ := h6
    refine ⟨k1, fun k hk => ?_, ?_, fun k hk => ?_⟩
    · rw [pu_upn (by omega)]; exact k2 k hk
    · rw [pu_upn (by omega)]; exact k3
    · show va_up fresh 3 (nI v) k = nI (pm_wx q 3 v k)
      by_cases a : k = 3
      · rw [a, pu_upe, pm_wx_e]
      · rw [pu_upn a, hq k a]; exact k4 k hk
end PBf
