/-! a whole text: the first line, and the end -/
theorem pn_nat (x : Int32) : x = nI x.toBitVec.toNat := by
  show x = Int32.ofNat x.toBitVec.toNat
  apply Int32.toBitVec_inj.mp
  rw [Int32.toBitVec_ofNat']
  rw [BitVec.ofNat_toNat, BitVec.setWidth_eq]
def pm_q0 (v w : Nat) : Nat → Nat := fun k => if k = 0 then 1 else if k = 1 then v else if k = 2 then w else if k = 39 then 4 else 0
theorem pp_J_1 {v w : Nat} {x : Nat → Nat} {b1 b2 b3 code fr : Nat → Int32} (hv : 1 ≤ v) (hv8 : v ≤ 8) (hw : w ≤ 6) (f1 : fr 1 = 1) (f39 : fr 39 = 4) (f : ∀ k, k < 994 → ¬ k = 1 → ¬ k = 39 → fr k = 0) (h1 : ∀ k, k < 9 → b1 k = 0) (h2 : ∀ k, k < 9 → b2 k = 0) (h3 : ∀ k, k < 9 → b3 k = 0) :
    pp_J (pm_q0 v w) 0 x (nI v) (nI w) 0 0 4 0 0 0 0 0 0 0 b1 b2 b3 code (va_up (va_up (va_up fr 1 (nI v)) 2 (nI w)) 0 (nI 1)) := by
  have hp : 0 < 2 ^ w := Nat.two_pow_pos w
  have hz : ∀ k, ¬ k = 0 → ¬ k = 1 → ¬ k = 2 → ¬ k = 39 → pm_q0 v w k = 0 := fun k a b c d => by unfold pm_q0; rw [if_neg a, if_neg b, if_neg c, if_neg d]
  have z1 : pm_q0 v w 1 = v := rfl
  have z2 : pm_q0 v w 2 = w := rfl
  refine ⟨⟨⟨hv, hv8⟩, hw, rfl, rfl⟩, ⟨⟨rfl, Nat.zero_le _⟩, ⟨rfl, ?_⟩, ⟨rfl, Nat.le_refl 4⟩, ⟨rfl, Nat.zero_le _⟩, ⟨rfl, Nat.zero_le _⟩⟩, ?_, Or.inl ⟨rfl, rfl, rfl⟩, Or.inl ⟨rfl, rfl, rfl⟩, rfl, ?_, ?_, ?_⟩
  · exact hp
  · intro r hr
    rw [hz (10 + r) (by omega) (by omega) (by omega) (by omega), hz (19 + r) (by omega) (by omega) (by omega) (by omega), hz (28 + r) (by omega) (by omega) (by omega) (by omega), z2]
    exact ⟨⟨h1 r hr, hp⟩, ⟨h2 r hr, hp⟩, ⟨h3 r hr, Nat.zero_le _⟩⟩
  · intro k hk; omega
  · rw [pu_upn (by omega), pu_upn (by omega), pu_upn (by omega)]; exact f 93 (by omega) (by omega) (by omega)
  · intro k hk
    show _ = nI (pm_q0 v w k)
    by_cases a : k = 0
    · rw [a, pu_upe]; rfl
    rw [pu_upn a]
    by_cases b : k = 2
    · rw [b, pu_upe]; rfl
    rw [pu_upn b]
    by_cases c : k = 1
    · rw [c, pu_upe]; rfl
    rw [pu_upn c]
    by_cases d : k = 39
    · rw [d]; exact f39
    rw [hz k a c b d]
    exact f k (by omega) c d
def pp_K (q : Nat → Nat) (top things sl li co tf tt mf mt : Int32) (bars gives rough code : Nat → Int32) : Prop := pm_cliff q ∧ pc_K q top things tf tt mf mt bars gives rough code ∧ li = nI (q 0) ∧ sl = nI (q 3) ∧ co = nI (q 93)
/-- a text read to its end -/
theorem pp_J_K {q x : Nat → Nat} {c i : Nat} {top things sr sth ss sw sl co tf tt mf mt : Int32} {bars gives rough code fresh : Nat → Int32} (h : pp_J q c x top things sr sth ss sw sl co tf tt mf mt bars gives rough code fresh) (hc : c ≤ 900) (h0 : fresh 0 = nI i) (h41 : ∀ k, 41 ≤ k → k < 93 → fresh k = 0) :
    ∃ q', pr_all fresh q' ∧ pp_K q' top things sl (nI i) co tf tt mf mt bars gives rough code ∧ sr = nI (q' 37) ∧ sth = nI (q' 38) ∧ ss = nI (q' 39) ∧ sw = nI (q' 40) ∧ q' 41 = 0 ∧ q' 42 = 0 ∧ q' 37 ≤ q' 1 ∧ q' 38 < 2 ^ q' 2 ∧ q' 39 < 5 ∧ q' 40 ≤ 9 ∧ q' 93 = c := by
  obtain ⟨⟨h1, h2, h3, h4⟩, ⟨⟨r1, r2⟩, ⟨t1, t2⟩, ⟨s1, s2⟩, ⟨w1, w2⟩, ⟨l1, l2⟩⟩, hr, hW0, hW1, ⟨c1, c2, c3, c4⟩⟩ := h
  have hlo : ∀ k, 1 ≤ k → k < 41 → (fun k => if k = 0 then i else if k < 41 then q k else if k < 93 then 0 else if k = 93 then c else if k < 94 + c then x (k - 94) else (fresh k).toBitVec.toNat) k = q k := fun k a b => by
    show (if k = 0 then i else if k < 41 then q k else if k < 93 then 0 else if k = 93 then c else if k < 94 + c then x (k - 94) else (fresh k).toBitVec.toNat) = q k
    rw [if_neg (by omega), if_pos b]
  have hmi : ∀ k, 41 ≤ k → k < 93 → (fun k => if k = 0 then i else if k < 41 then q k else if k < 93 then 0 else if k = 93 then c else if k < 94 + c then x (k - 94) else (fresh k).toBitVec.toNat) k = 0 := fun k a b => by
    show (if k = 0 then i else if k < 41 then q k else if k < 93 then 0 else if k = 93 then c else if k < 94 + c then x (k - 94) else (fresh k).toBitVec.toNat) = 0
    rw [if_neg (by omega), if_neg (by omega), if_pos b]
  have h93 : (fun k => if k = 0 then i else if k < 41 then q k else if k < 93 then 0 else if k = 93 then c else if k < 94 + c then x (k - 94) else (fresh k).toBitVec.toNat) 93 = c := rfl
  have h00 : (fun k => if k = 0 then i else if k < 41 then q k else if k < 93 then 0 else if k = 93 then c else if k < 94 + c then x (k - 94) else (fresh k).toBitVec.toNat) 0 = i := rfl
  have hco : ∀ k, k < c → (fun k => if k = 0 then i else if k < 41 then q k else if k < 93 then 0 else if k = 93 then c else if k < 94 + c then x (k - 94) else (fresh k).toBitVec.toNat) (94 + k) = x k := fun k a => by
    show (if 94 + k = 0 then i else if 94 + k < 41 then q (94 + k) else if 94 + k < 93 then 0 else if 94 + k = 93 then c else if 94 + k < 94 + c then x (94 + k - 94) else (fresh (94 + k)).toBitVec.toNat) = x k
    rw [if_neg (by omega), if_neg (by omega), if_neg (by omega), if_neg (by omega), if_pos (by omega), show 94 + k - 94 = k from by omega]
  have hhi : ∀ k, 94 + c ≤ k → (fun k => if k = 0 then i else if k < 41 then q k else if k < 93 then 0 else if k = 93 then c else if k < 94 + c then x (k - 94) else (fresh k).toBitVec.toNat) k = (fresh k).toBitVec.toNat := fun k a => by
    show (if k = 0 then i else if k < 41 then q k else if k < 93 then 0 else if k = 93 then c else if k < 94 + c then x (k - 94) else (fresh k).toBitVec.toNat) = (fresh k).toBitVec.toNat
    rw [if_neg (by omega), if_neg (by omega), if_neg (by omega), if_neg (by omega), if_neg (by omega)]
  refine ⟨fun k => if k = 0 then i else if k < 41 then q k else if k < 93 then 0 else if k = 93 then c else if k < 94 + c then x (k - 94) else (fresh k).toBitVec.toNat, ?_⟩
  generalize (fun k => if k = 0 then i else if k < 41 then q k else if k < 93 then 0 else if k = 93 then c else if k < 94 + c then x (k - 94) else (fresh k).toBitVec.toNat) = p at hlo hmi h93 h00 hco hhi ⊢
  have hlaw : ∀ law f t, law < 2 → pp_W q c x law f t → p (4 + law) = 0 ∧ f = nI 0 ∧ t = nI 0 ∨ p (4 + law) = 1 ∧ f = nI (p (6 + law)) ∧ t = nI (p (6 + law) + p (8 + law)) ∧ p (6 + law) + p (8 + law) ≤ c ∧ pe_tc (pm_cd p) (p (6 + law)) (p (8 + law)) [] = some [decide (law = 0)] := by
    intro law f t hl hW
    unfold pp_W at hW
    rw [hlo (4 + law) (by omega) (by omega), hlo (6 + law) (by omega) (by omega), hlo (8 + law) (by omega) (by omega)]
    rcases hW with hW | ⟨a1, a2, a3, a4, a5⟩
    · exact Or.inl hW
    · refine Or.inr ⟨a1, a2, a3, a4, ?_⟩
      rw [← a5]
      exact pe_tc_cg _ _ _ (fun j j1 j2 => hco j (by omega))
  have g0 := hlaw 0 tf tt (by omega) hW0
  have g1 := hlaw 1 mf mt (by omega) hW1
  refine ⟨?_, ⟨⟨by rw [hlo 1 (by omega) (by omega)]; exact h1, by rw [hlo 2 (by omega) (by omega)]; exact h2, by rw [hlo 3 (by omega) (by omega)]; exact l2, ?_, ?_, by rw [h93]; exact hc⟩, ⟨by rw [hlo 1 (by omega) (by omega)]; exact h3, by rw [hlo 2 (by omega) (by omega)]; exact h4, ?_, ?_, ?_, ?_⟩, by rw [h00], by rw [hlo 3 (by omega) (by omega)]; exact l1, by rw [h93]; exact c1⟩, by rw [hlo 37 (by omega) (by omega)]; exact r1, by rw [hlo 38 (by omega) (by omega)]; exact t1, by rw [hlo 39 (by omega) (by omega)]; exact s1, by rw [hlo 40 (by omega) (by omega)]; exact w1, hmi 41 (by omega) (by omega), hmi 42 (by omega) (by omega), by rw [hlo 37 (by omega) (by omega), hlo 1 (by omega) (by omega)]; exact r2, by rw [hlo 38 (by omega) (by omega), hlo 2 (by omega) (by omega)]; exact t2, by rw [hlo 39 (by omega) (by omega)]; omega, by rw [hlo 40 (by omega) (by omega)]; exact w2, h93⟩
  · intro k hk
    by_cases a : k = 0
    · rw [a, h00]; exact h0
    by_cases b : k < 41
    · rw [hlo k (by omega) b]; exact c4 k (by omega)
    by_cases d : k < 93
    · rw [hmi k (by omega) d]; exact h41 k (by omega) d
    by_cases e : k = 93
    · rw [e, h93]; exact c3
    by_cases f : k < 94 + c
    · obtain ⟨j, rfl⟩ := Nat.exists_eq_add_of_le (show 94 ≤ k by omega)
      rw [hco j (by omega)]
      exact (c2 j (by omega)).2
    · rw [hhi k (by omega)]
      exact pn_nat _
  · intro r hr9
    obtain ⟨⟨_, a⟩, ⟨_, b⟩, ⟨_, d⟩⟩ := hr r hr9
    rw [hlo (10 + r) (by omega) (by omega), hlo (19 + r) (by omega) (by omega), hlo (28 + r) (by omega) (by omega), hlo 2 (by omega) (by omega)]
    exact ⟨a, b, d⟩
  · intro law hl
    have : law = 0 ∨ law = 1 := by omega
    rw [h93]
    rcases this with rfl | rfl
    · rcases g0 with g | g
      · exact Or.inl g.1
      · exact Or.inr ⟨g.1, g.2.2.2.1, g.2.2.2.2⟩
    · rcases g1 with g | g
      · exact Or.inl g.1
      · exact Or.inr ⟨g.1, g.2.2.2.1, g.2.2.2.2⟩
  · intro r hr9
    obtain ⟨⟨a, _⟩, ⟨b, _⟩, ⟨d, _⟩⟩ := hr r hr9
    rw [hlo (10 + r) (by omega) (by omega), hlo (19 + r) (by omega) (by omega), hlo (28 + r) (by omega) (by omega)]
    exact ⟨a, b, d⟩
  · rcases g0 with g | g
    · exact Or.inl g
    · exact Or.inr ⟨g.1, g.2.1, g.2.2.1⟩
  · rcases g1 with g | g
    · exact Or.inl g
    · exact Or.inr ⟨g.1, g.2.1, g.2.2.1⟩
  · intro k hk
    rw [h93] at hk
    rw [hco k hk]
    exact (c2 k hk).1
