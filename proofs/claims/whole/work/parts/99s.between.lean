/-! between two lines -/
def pp_W (q : Nat → Nat) (c : Nat) (x : Nat → Nat) (law : Nat) (f t : Int32) : Prop := q (4 + law) = 0 ∧ f = nI 0 ∧ t = nI 0 ∨ q (4 + law) = 1 ∧ f = nI (q (6 + law)) ∧ t = nI (q (6 + law) + q (8 + law)) ∧ q (6 + law) + q (8 + law) ≤ c ∧ pe_tc x (q (6 + law)) (q (8 + law)) [] = some [decide (law = 0)]
def pp_J (q : Nat → Nat) (c : Nat) (x : Nat → Nat) (top things sr sth ss sw sl co tf tt mf mt : Int32) (bars gives rough code fresh : Nat → Int32) : Prop :=
  ((1 ≤ q 1 ∧ q 1 ≤ 8) ∧ q 2 ≤ 6 ∧ top = nI (q 1) ∧ things = nI (q 2)) ∧ ((sr = nI (q 37) ∧ q 37 ≤ q 1) ∧ (sth = nI (q 38) ∧ q 38 < 2 ^ q 2) ∧ (ss = nI (q 39) ∧ q 39 ≤ 4) ∧ (sw = nI (q 40) ∧ q 40 ≤ 9) ∧ (sl = nI (q 3) ∧ q 3 ≤ 10)) ∧ (∀ r, r < 9 → (bars r = nI (q (10 + r)) ∧ q (10 + r) < 2 ^ q 2) ∧ (gives r = nI (q (19 + r)) ∧ q (19 + r) < 2 ^ q 2) ∧ (rough r = nI (q (28 + r)) ∧ q (28 + r) ≤ 9)) ∧ pp_W q c x 0 tf tt ∧ pp_W q c x 1 mf mt ∧ pp_C (fun k => nI (q k)) c x co code fresh
section PBe
variable {q x : Nat → Nat} {c : Nat} {top things sr sth ss sw sl co tf tt mf mt : Int32} {bars gives rough code fresh : Nat → Int32}
theorem pp_J_H1 (h : pp_J q c x top things sr sth ss sw sl co tf tt mf mt bars gives rough code fresh) : pp_H (q 2) fresh bars gives rough fresh := by
  obtain ⟨_, _, h3, _, _, h6⟩ := h
  refine ⟨fun r hr => ?_, fun _ _ => rfl⟩
  obtain ⟨⟨a1, a2⟩, ⟨b1, b2⟩, ⟨c1, c2⟩⟩ := h3 r hr
  exact ⟨⟨_, a2, a1, h6.2.2.2 _ (by omega)⟩, ⟨_, b2, b1, h6.2.2.2 _ (by omega)⟩, ⟨_, c2, c1, h6.2.2.2 _ (by omega)⟩⟩
theorem pn_back {b : Nat} (h : b < 2147483648) : (nI b).toInt.toNat = b := by rw [pn_toInt h]; exact Int.toNat_natCast b
theorem pp_J_H2 {bars' gives' rough' fresh' : Nat → Int32} (h : pp_J q c x top things sr sth ss sw sl co tf tt mf mt bars gives rough code fresh) (hH : pp_H (q 2) fresh bars' gives' rough' fresh') : ∃ q', pp_J q' c x top things sr sth ss sw sl co tf tt mf mt bars' gives' rough' code fresh' := by
  obtain ⟨h1, h2, h3, h4, h5, h6⟩ := h
  have hp := pm_p6 h1.2.1
  have hq : ∀ k, (k < 10 ∨ 37 ≤ k) → (fun k => if 10 ≤ k ∧ k < 37 then (fresh' k).toInt.toNat else q k) k = q k := fun k hk => if_neg (by omega)
  have hq2 : ∀ k, 10 ≤ k → k < 37 → (fun k => if 10 ≤ k ∧ k < 37 then (fresh' k).toInt.toNat else q k) k = (fresh' k).toInt.toNat := fun k h1 h2 => if_pos ⟨h1, h2⟩
  refine ⟨fun k => if 10 ≤ k ∧ k < 37 then (fresh' k).toInt.toNat else q k, ?_⟩
  generalize (fun k => if 10 ≤ k ∧ k < 37 then (fresh' k).toInt.toNat else q k) = p at hq hq2 ⊢
  have e1 := hq 1 (by omega)
  have e2 := hq 2 (by omega)
  unfold pp_J pp_W at *
  rw [e1, e2, hq 37 (by omega), hq 38 (by omega), hq 39 (by omega), hq 40 (by omega), hq 3 (by omega), hq (4 + 0) (by omega), hq (6 + 0) (by omega), hq (8 + 0) (by omega), hq (4 + 1) (by omega), hq (6 + 1) (by omega), hq (8 + 1) (by omega)]
  refine ⟨h1, h2, ?_, h4, h5, ?_⟩
  · intro r hr
    obtain ⟨⟨b, b1, b2, b3⟩, ⟨g, g1, g2, g3⟩, ⟨u, u1, u2, u3⟩⟩ := hH.1 r hr
    rw [hq2 (10 + r) (by omega) (by omega), hq2 (19 + r) (by omega) (by omega), hq2 (28 + r) (by omega) (by omega), b3, g3, u3, pn_back (by omega), pn_back (by omega), pn_back (by omega)]
    exact ⟨⟨b2, b1⟩, ⟨g2, g1⟩, ⟨u2, u1⟩⟩
  · obtain ⟨k1, k2, k3, k4⟩ := h6
    refine ⟨k1, fun k hk => ?_, ?_, fun k hk => ?_⟩
    · rw [hH.2 _ (by omega)]; exact k2 k hk
    · rw [hH.2 _ (by omega)]; exact k3
    · by_cases z : 10 ≤ k ∧ k < 37
      · show fresh' k = nI (p k)
        rw [hq2 k z.1 z.2]
        have hk3 : k = 10 + (k - 10) ∧ k - 10 < 9 ∨ k = 19 + (k - 19) ∧ k - 19 < 9 ∨ k = 28 + (k - 28) ∧ k - 28 < 9 := by omega
        rcases hk3 with ⟨d1, d2⟩ | ⟨d1, d2⟩ | ⟨d1, d2⟩
        · obtain ⟨b, b1, b2, b3⟩ := (hH.1 _ d2).1
          rw [← d1] at b3
          rw [b3, pn_back (by omega)]
        · obtain ⟨b, b1, b2, b3⟩ := (hH.1 _ d2).2.1
          rw [← d1] at b3
          rw [b3, pn_back (by omega)]
        · obtain ⟨b, b1, b2, b3⟩ := (hH.1 _ d2).2.2
          rw [← d1] at b3
          rw [b3, pn_back (by omega)]
      · show fresh' k = nI (p k)
        rw [hq k (by omega), hH.2 k (by omega)]
        exact k4 k hk
end PBe
