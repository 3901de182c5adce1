/-! between two lines: the laws -/
theorem pp_W_up {q q' x x' : Nat → Nat} {c c' law : Nat} {f t : Int32} (h : pp_W q c x law f t) (hc : c ≤ c') (hx : ∀ k, k < c → x' k = x k) (h4 : q' (4 + law) = q (4 + law)) (h6 : q' (6 + law) = q (6 + law)) (h8 : q' (8 + law) = q (8 + law)) : pp_W q' c' x' law f t := by
  unfold pp_W at *
  rw [h4, h6, h8]
  rcases h with h | ⟨a1, a2, a3, a4, a5⟩
  · exact Or.inl h
  · refine Or.inr ⟨a1, a2, a3, by omega, ?_⟩
    rw [← a5]
    exact pe_tc_cg _ _ _ (fun i i1 i2 => hx i (by omega))
section PBg
variable {q x : Nat → Nat} {c : Nat} {top things sr sth ss sw sl co tf tt mf mt : Int32} {bars gives rough code fresh : Nat → Int32}
theorem pp_J_L {law c' : Nat} {x' : Nat → Nat} {co' : Int32} {code' fresh' : Nat → Int32} (hl : law < 2) (h : pp_J q c x top things sr sth ss sw sl co tf tt mf mt bars gives rough code fresh) (hc : c ≤ c') (hC : pp_C (va_up (va_up (va_up (fun k => nI (q k)) (4 + law) 1) (6 + law) (nI c)) (8 + law) (nI (c' - c))) c' x' co' code' fresh') (hx : ∀ k, k < c → x' k = x k) (ht : pe_tc x' c (c' - c) [] = some [decide (law = 0)]) :
    ∃ q', pp_J q' c' x' top things sr sth ss sw sl co' (if law = 0 then nI c else tf) (if law = 0 then nI c' else tt) (if law = 0 then mf else nI c) (if law = 0 then mt else nI c') bars gives rough code' fresh' := by
  obtain ⟨h1, h2, h3, h4, h5, h6⟩ := h
  have hq : ∀ k, ¬ k = 4 + law → ¬ k = 6 + law → ¬ k = 8 + law → pm_wx (pm_wx (pm_wx q (4 + law) 1) (6 + law) c) (8 + law) (c' - c) k = q k := fun k a b d => by rw [pm_wx_n d, pm_wx_n b, pm_wx_n a]
  have q4 : pm_wx (pm_wx (pm_wx q (4 + law) 1) (6 + law) c) (8 + law) (c' - c) (4 + law) = 1 := by rw [pm_wx_n (by omega), pm_wx_n (by omega), pm_wx_e]
  have q6 : pm_wx (pm_wx (pm_wx q (4 + law) 1) (6 + law) c) (8 + law) (c' - c) (6 + law) = c := by rw [pm_wx_n (by omega), pm_wx_e]
  have q8 : pm_wx (pm_wx (pm_wx q (4 + law) 1) (6 + law) c) (8 + law) (c' - c) (8 + law) = c' - c := by rw [pm_wx_e]
  refine ⟨pm_wx (pm_wx (pm_wx q (4 + law) 1) (6 + law) c) (8 + law) (c' - c), ?_⟩
  have hCn : pp_C (fun k => nI (pm_wx (pm_wx (pm_wx q (4 + law) 1) (6 + law) c) (8 + law) (c' - c) k)) c' x' co' code' fresh' := by
    refine ⟨hC.1, hC.2.1, hC.2.2.1, fun k hk => (hC.2.2.2 k hk).trans ?_⟩
    show _ = nI (pm_wx (pm_wx (pm_wx q (4 + law) 1) (6 + law) c) (8 + law) (c' - c) k)
    by_cases d : k = 8 + law
    · rw [d, pu_upe, q8]
    by_cases b : k = 6 + law
    · rw [b, pu_upn (by omega), pu_upe, q6]
    by_cases a : k = 4 + law
    · rw [a, pu_upn (by omega), pu_upn (by omega), pu_upe, q4]; rfl
    rw [pu_upn d, pu_upn b, pu_upn a, hq k a b d]
  generalize pm_wx (pm_wx (pm_wx q (4 + law) 1) (6 + law) c) (8 + law) (c' - c) = p at hq q4 q6 q8 hCn ⊢
  have hself : pp_W p c' x' law (nI c) (nI c') := Or.inr ⟨q4, by rw [q6], by rw [q6, q8]; congr 1; omega, by rw [q6, q8]; omega, by rw [q6, q8]; exact ht⟩
  unfold pp_J
  rw [hq 1 (by omega) (by omega) (by omega), hq 2 (by omega) (by omega) (by omega), hq 37 (by omega) (by omega) (by omega), hq 38 (by omega) (by omega) (by omega), hq 39 (by omega) (by omega) (by omega), hq 40 (by omega) (by omega) (by omega), hq 3 (by omega) (by omega) (by omega)]
  refine ⟨h1, h2, ?_, ?_, ?_, hCn⟩
  · intro l hl2
    rw [hq (10 + l) (by omega) (by omega) (by omega), hq (19 + l) (by omega) (by omega) (by omega), hq (28 + l) (by omega) (by omega) (by omega)]
    exact h3 l hl2
  · by_cases z : law = 0
    · subst z; rw [if_pos rfl, if_pos rfl]; exact hself
    · rw [if_neg z, if_neg z]
      exact pp_W_up h4 hc hx (hq _ (by omega) (by omega) (by omega)) (hq _ (by omega) (by omega) (by omega)) (hq _ (by omega) (by omega) (by omega))
  · by_cases z : law = 0
    · rw [if_pos z, if_pos z]
      exact pp_W_up h5 hc hx (hq _ (by omega) (by omega) (by omega)) (hq _ (by omega) (by omega) (by omega)) (hq _ (by omega) (by omega) (by omega))
    · have : law = 1 := by omega
      subst this; rw [if_neg (by decide), if_neg (by decide)]; exact hself
end PBg
