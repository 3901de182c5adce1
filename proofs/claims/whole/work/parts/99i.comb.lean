/-! small readers, on both sides -/
def pp_ta (B : Nat → Nat) (sz a : Nat) (st en ki va at1 be rk nu : Int32) : Prop :=
  ∃ b, st = nI a ∧ at1 = nI a ∧ en = nI b ∧ be = nI b ∧ a ≤ b ∧ b ≤ sz ∧ ((a = b ∧ ki = 0 ∧ rk = 26) ∨ (a < b ∧ ki = 1 ∧ rk = 27) ∨ (a < b ∧ ki = 2 ∧ rk = 25 ∧ ∃ v, v ≤ 999 ∧ va = nI v ∧ nu = nI v) ∨ (a < b ∧ ki = 3 ∧ (∀ j, a ≤ j → j < b → 97 ≤ B j ∧ B j ≤ 122) ∧ rk = nI (pm_ix pm_kw (pm_L B a b))) ∨ (b = a + 1 ∧ ki = 3 ∧ pm_ix pm_sn (B a) < 12 ∧ rk = nI (30 + pm_ix pm_sn (B a))))
theorem pb_rf : ∀ k : Int32, (if k = (1 : Int32) then some (1 : Int32) else some (2 : Int32)) = some (if k = 1 then 1 else 2) := by
  intro k; split <;> rfl
theorem pm_ix_le {α : Type} [DecidableEq α] : ∀ (ws : List α) (x : α), pm_ix ws x ≤ ws.length := by
  intro ws
  induction ws with
  | nil => intro x; exact Nat.le_refl _
  | cons w ws ih =>
    intro x
    show (if w = x then 0 else pm_ix ws x + 1) ≤ ws.length + 1
    split
    · omega
    · have := ih x; omega
section PCo
variable {n sz : Nat} {B : Nat → Nat} {ct rt : Nat → Int32}
theorem pp_ta_tk {a : Nat} {st en ki va at1 be rk nu : Int32} (h : pp_ta B sz a st en ki va at1 be rk nu) : ∃ b, pp_tk B sz b st en ki va at1 be rk nu ∧ a ≤ b ∧ b ≤ sz ∧ (¬ ki = 0 → a < b) ∧ en = nI b ∧ be = nI b := by
  obtain ⟨b, h1, h2, h3, h4, h5, h6, h7⟩ := h
  refine ⟨b, ⟨a, h1, h2, h3, h4, h5, h6, h7⟩, h5, h6, ?_, h3, h4⟩
  intro z
  rcases h7 with h | h | h | h | h
  · exact absurd h.2.1 z
  · exact h.1
  · exact h.1
  · exact h.1
  · omega
/-- on to the next word -/
theorem pp_go {a : Nat} {st en ki va at1 be rk nu : Int32} (hn : 1000 ≤ n) (hx : pp_tx B sz ct rt) (h : pp_ta B sz a st en ki va at1 be rk nu) (hk : ¬ ki = 0) :
    ∃ st' en' ki' va' at' be' rk' nu' a', zf_X5_advance n (nI sz) st en ki va ct = some (st', en', ki', va') ∧ zf_X11_next n at1 be (nI sz) rk nu rt = some (at', be', rk', nu') ∧ a < a' ∧ pp_ta B sz a' st' en' ki' va' at' be' rk' nu' := by
  obtain ⟨b, _, h1, h2, h3, rfl, rfl⟩ := pp_ta_tk h
  have hab := h3 hk
  obtain ⟨st', en', ki', va', at', be', rk', nu', b', e1, e2, e3, e4, a', e5, e6, e7, e8, e9, e10, e11⟩ := pp_adv (n := n) (st := st) (ki := ki) (va := va) (at1 := at1) (rk := rk) (nu := nu) hn hx h2
  refine ⟨st', en', ki', va', at', be', rk', nu', a', e1, e2, ?_, b', e5, e6, e7, e8, e9, e10, e11⟩
  have hge := pp_adv_ge hn hx h2 e1
  rw [e5] at hge
  have := hx.1
  have := (pn_le (by omega) (by omega)).mp hge
  omega
theorem pp_isT {a i c : Nat} {st en ki va at1 be rk nu : Int32} (hn : 1000 ≤ n) (hx : pp_tx B sz ct rt) (h : pp_ta B sz a st en ki va at1 be rk nu) (hc : pm_cc i c) : (zf_X5_tokenIs n st en ki ct i = some 1 ∧ rk = nI c ∧ ki = 3) ∨ (zf_X5_tokenIs n st en ki ct i = some 0 ∧ ¬ rk = nI c) := by
  obtain ⟨b, ht, _⟩ := pp_ta_tk h
  obtain ⟨v, v1, ⟨rfl, v2, v3⟩ | ⟨rfl, v2⟩⟩ := pp_is hn hx ht hc
  · exact Or.inl ⟨v1, v2, v3⟩
  · exact Or.inr ⟨v1, v2⟩
theorem pp_ref {a : Nat} {st en ki va at1 be rk nu : Int32} (h : pp_ta B sz a st en ki va at1 be rk nu) (hx : pp_tx B sz ct rt) : ∃ f : Int32, ¬ f = 0 ∧ (∀ fa pl, zf_X5_refuse st ki fa pl = some (0, f, st)) ∧ (∀ wa, zf_X11_fails at1 rk 0 wa 2 = some (f, at1)) ∧ st = at1 := by
  have h9 := hx.1
  obtain ⟨b, rfl, rfl, rfl, rfl, h5, h6, h7⟩ := h
  have hk : ki = 1 ↔ rk = 27 := by
    rcases h7 with ⟨_, rfl, rfl⟩ | ⟨_, rfl, rfl⟩ | ⟨_, rfl, rfl, _⟩ | ⟨_, rfl, _, rfl⟩ | ⟨_, rfl, h1, rfl⟩
    · decide
    · decide
    · decide
    · have hle : pm_ix pm_kw (pm_L B a b) ≤ 24 := pm_ix_le pm_kw _
      exact ⟨fun z => absurd z (by decide), fun z => by have := (pv_eq 27 (by omega) (by omega)).mp z; omega⟩
    · exact ⟨fun z => absurd z (by decide), fun z => by have := (pv_eq 27 (by omega) (by omega)).mp z; omega⟩
  by_cases c : ki = 1
  · refine ⟨1, by decide, ?_, ?_, rfl⟩
    · intro fa pl
      unfold zf_X5_refuse zf_X5_findFault
      rw [if_pos c, pu_e1, pu_e3]; rfl
    · intro wa
      unfold zf_X11_fails
      rw [if_pos rfl, if_pos (hk.mp c), pu_e1]
  · refine ⟨2, by decide, ?_, ?_, rfl⟩
    · intro fa pl
      unfold zf_X5_refuse zf_X5_findFault
      rw [if_neg c, pu_e1, pu_e3]; rfl
    · intro wa
      unfold zf_X11_fails
      rw [if_pos rfl, if_neg (fun z => c (hk.mpr z)), pu_e1]
theorem pr_is (rk c : Int32) : zf_X11_is rk 0 c = some (if rk = c then 1 else 0) := by
  unfold zf_X11_is
  rw [if_pos rfl]
  split <;> rfl
theorem pp_acc {a i : Nat} (c : Nat) {st en ki va at1 be rk nu : Int32} (hn : 1000 ≤ n) (hx : pp_tx B sz ct rt) (h : pp_ta B sz a st en ki va at1 be rk nu) (hc : pm_cc i c) :
    (∃ st' en' ki' va' at' be' rk' nu' a', zf_X5_accept n (nI sz) st en ki va ct i = some (1, st', en', ki', va') ∧ zf_X11_eats n at1 be (nI sz) rk nu 0 rt (OfNat.ofNat c : Int32) = some (1, at', be', rk', nu') ∧ a < a' ∧ pp_ta B sz a' st' en' ki' va' at' be' rk' nu') ∨ (zf_X5_accept n (nI sz) st en ki va ct i = some (0, st, en, ki, va) ∧ zf_X11_eats n at1 be (nI sz) rk nu 0 rt (OfNat.ofNat c : Int32) = some (0, at1, be, rk, nu) ∧ ¬ rk = nI c) := by
  unfold zf_X5_accept zf_X11_eats
  rw [pr_is, pu_e1]
  rcases pp_isT hn hx h hc with ⟨h1, h2, h3⟩ | ⟨h1, h2⟩
  · obtain ⟨st', en', ki', va', at', be', rk', nu', a', e1, e2, e3, e4⟩ := pp_go hn hx h (by rw [h3]; decide)
    refine Or.inl ⟨st', en', ki', va', at', be', rk', nu', a', ?_, ?_, e3, e4⟩
    · rw [h1, pu_e1, if_neg (by decide), e1, pu_e4]
    · rw [if_pos (show rk = (OfNat.ofNat c : Int32) from h2), if_neg (by decide), e2, pu_e4]
  · refine Or.inr ⟨?_, ?_, h2⟩
    · rw [h1, pu_e1, if_pos rfl]
    · rw [if_neg (show ¬ rk = (OfNat.ofNat c : Int32) from h2), if_pos rfl]
theorem pp_exp {a i : Nat} (c : Nat) {st en ki va fa pl at1 be rk nu : Int32} (hn : 1000 ≤ n) (hx : pp_tx B sz ct rt) (h : pp_ta B sz a st en ki va at1 be rk nu) (hc : pm_cc i c) :
    (∃ st' en' ki' va' at' be' rk' nu' a', zf_X5_expect n (nI sz) st en ki va fa pl ct i = some (1, st', en', ki', va', fa, pl) ∧ zf_X11_eats n at1 be (nI sz) rk nu 0 rt (OfNat.ofNat c : Int32) = some (1, at', be', rk', nu') ∧ a < a' ∧ pp_ta B sz a' st' en' ki' va' at' be' rk' nu') ∨ (∃ f : Int32, ¬ f = 0 ∧ zf_X5_expect n (nI sz) st en ki va fa pl ct i = some (0, st, en, ki, va, f, at1) ∧ zf_X11_eats n at1 be (nI sz) rk nu 0 rt (OfNat.ofNat c : Int32) = some (0, at1, be, rk, nu) ∧ ∀ wa, zf_X11_fails at1 rk 0 wa 2 = some (f, at1)) := by
  unfold zf_X5_expect zf_X11_eats
  rw [pr_is, pu_e1]
  rcases pp_isT hn hx h hc with ⟨h1, h2, h3⟩ | ⟨h1, h2⟩
  · obtain ⟨st', en', ki', va', at', be', rk', nu', a', e1, e2, e3, e4⟩ := pp_go hn hx h (by rw [h3]; decide)
    refine Or.inl ⟨st', en', ki', va', at', be', rk', nu', a', ?_, ?_, e3, e4⟩
    · rw [h1, pu_e1, if_neg (by decide), e1, pu_e4]
    · rw [if_pos (show rk = (OfNat.ofNat c : Int32) from h2), if_neg (by decide), e2, pu_e4]
  · obtain ⟨f, f1, f2, f3, f4⟩ := pp_ref h hx
    refine Or.inr ⟨f, f1, ?_, ?_, f3⟩
    · rw [h1, pu_e1, if_pos rfl, f2, pu_e3, ← f4]; rfl
    · rw [if_neg (show ¬ rk = (OfNat.ofNat c : Int32) from h2), if_pos rfl]
theorem pp_goin {a dp : Nat} {st en ki va fa pl at1 be rk nu wa : Int32} (hn : 1000 ≤ n) (hx : pp_tx B sz ct rt) (h : pp_ta B sz a st en ki va at1 be rk nu) (hk : ki = 3) (hd : dp ≤ 6) :
    (dp < 6 ∧ ∃ st' en' ki' va' at' be' rk' nu' a', zf_X5_goDeeper n (nI sz) st en ki va fa pl ct (nI dp) = some (1, st', en', ki', va', fa, pl) ∧ zf_X11_goesIn n at1 be (nI sz) rk nu 0 wa rt (nI dp) = some (1, at', be', rk', nu', 0, wa) ∧ a < a' ∧ pp_ta B sz a' st' en' ki' va' at' be' rk' nu') ∨ (∃ f : Int32, ¬ f = 0 ∧ zf_X5_goDeeper n (nI sz) st en ki va fa pl ct (nI dp) = some (0, st, en, ki, va, f, at1) ∧ zf_X11_goesIn n at1 be (nI sz) rk nu 0 wa rt (nI dp) = some (0, at1, be, rk, nu, f, at1)) := by
  have h9 := hx.1
  unfold zf_X5_goDeeper zf_X11_goesIn
  by_cases c : dp < 6
  · obtain ⟨st', en', ki', va', at', be', rk', nu', a', e1, e2, e3, e4⟩ := pp_go hn hx h (by rw [hk]; decide)
    refine Or.inl ⟨c, st', en', ki', va', at', be', rk', nu', a', ?_, ?_, e3, e4⟩
    · rw [if_pos ((pv_gt 6 (by omega) (by omega)).mpr c), e1, pu_e4]
    · rw [if_neg (fun z => by have := (pv_eq 6 (by omega) (by omega)).mp z; omega), pu_e2, if_pos rfl, e2, pu_e4, pu_e4, if_pos rfl]
  · have hd6 : dp = 6 := by omega
    obtain ⟨b, rfl, rfl, rfl, rfl, h5, h6, h7⟩ := h
    have hrk : ¬ rk = 27 := by
      rcases h7 with ⟨_, h7, _⟩ | ⟨_, h7, _⟩ | ⟨_, h7, _⟩ | ⟨_, _, _, rfl⟩ | ⟨_, _, h1, rfl⟩
      · rw [h7] at hk; exact absurd hk (by decide)
      · rw [h7] at hk; exact absurd hk (by decide)
      · rw [h7] at hk; exact absurd hk (by decide)
      · have hle : pm_ix pm_kw (pm_L B a b) ≤ 24 := pm_ix_le pm_kw _
        intro z
        have := (pv_eq 27 (by omega) (by omega)).mp z; omega
      · intro z
        have := (pv_eq 27 (by omega) (by omega)).mp z; omega
    refine Or.inr ⟨4, by decide, ?_, ?_⟩
    · rw [if_neg (fun z => c ((pv_gt 6 (by omega) (by omega)).mp z))]
      unfold zf_X5_findFault
      rw [pu_e3]; rfl
    · rw [if_pos ((pv_eq 6 (by omega) (by omega)).mpr hd6)]
      unfold zf_X11_fails
      rw [if_pos rfl, if_neg hrk, pu_e1, pu_e2, pu_e2, if_neg (by decide), pu_e4, if_neg (by decide)]
theorem pp_num {a : Nat} {st en ki va fa pl at1 be rk nu wa p1 p2 : Int32} (hn : 1000 ≤ n) (hx : pp_tx B sz ct rt) (h : pp_ta B sz a st en ki va at1 be rk nu) :
    (∃ (v : Nat) (st' en' ki' va' at' be' rk' nu' : Int32) (a' : Nat), v ≤ 999 ∧ p1.toInt ≤ (v : Int) ∧ (v : Int) ≤ p2.toInt ∧ zf_X5_readNumber n (nI sz) st en ki va fa pl ct p1 p2 = some (nI v, st', en', ki', va', fa, pl) ∧ zf_X11_takes n at1 be (nI sz) rk nu 0 wa rt p1 p2 = some (nI v, at', be', rk', nu', 0, wa) ∧ a < a' ∧ pp_ta B sz a' st' en' ki' va' at' be' rk' nu') ∨ (∃ f : Int32, ¬ f = 0 ∧ zf_X5_readNumber n (nI sz) st en ki va fa pl ct p1 p2 = some (-1, st, en, ki, va, f, at1) ∧ zf_X11_takes n at1 be (nI sz) rk nu 0 wa rt p1 p2 = some (nu, at1, be, rk, nu, f, at1)) := by
  have h9 := hx.1
  unfold zf_X5_readNumber zf_X11_takes
  rw [pr_is, pu_e1]
  have hkr : ki = 2 ↔ rk = 25 := by
    obtain ⟨b, _, _, _, _, h5, h6, h7⟩ := h
    rcases h7 with ⟨_, rfl, rfl⟩ | ⟨_, rfl, rfl⟩ | ⟨_, rfl, rfl, _⟩ | ⟨_, rfl, _, rfl⟩ | ⟨_, rfl, h1, rfl⟩
    · decide
    · decide
    · decide
    · have hle : pm_ix pm_kw (pm_L B a b) ≤ 24 := pm_ix_le pm_kw _
      exact ⟨fun z => absurd z (by decide), fun z => by have := (pv_eq 25 (by omega) (by omega)).mp z; omega⟩
    · exact ⟨fun z => absurd z (by decide), fun z => by have := (pv_eq 25 (by omega) (by omega)).mp z; omega⟩
  by_cases c : ki = 2
  rotate_left
  · obtain ⟨f, f1, f2, f3, f4⟩ := pp_ref h hx
    refine Or.inr ⟨f, f1, ?_, ?_⟩
    · rw [if_neg c, f2, pu_e3, ← f4]
    · rw [if_neg (fun z => c (hkr.mpr z)), if_pos rfl, f3, pu_e2, pu_e2, if_neg f1, pu_e4]
  have hv : ∃ v, v ≤ 999 ∧ va = nI v ∧ nu = nI v := by
    obtain ⟨b, _, _, _, _, h5, h6, h7⟩ := h
    rcases h7 with ⟨_, h7, _⟩ | ⟨_, h7, _⟩ | ⟨_, _, _, h7⟩ | ⟨_, h7, _⟩ | ⟨_, h7, _⟩
    · rw [h7] at c; exact absurd c (by decide)
    · rw [h7] at c; exact absurd c (by decide)
    · exact h7
    · rw [h7] at c; exact absurd c (by decide)
    · rw [h7] at c; exact absurd c (by decide)
  obtain ⟨v, v1, v2, v3⟩ := hv
  have hst : st = at1 := by obtain ⟨b, h1, h2, _⟩ := h; rw [h1, h2]
  rw [if_pos c, if_pos (hkr.mp c), if_neg (show ¬ (1 : Int32) = 0 by decide), pr_within, pu_e1, Int32.toInt_toInt64, Int32.toInt_toInt64, Int32.toInt_toInt64, v3, pn_toInt (by omega)]
  by_cases d : p1.toInt ≤ (v : Int) ∧ (v : Int) ≤ p2.toInt
  · obtain ⟨st', en', ki', va', at', be', rk', nu', a', e1, e2, e3, e4⟩ := pp_go hn hx h (by rw [c]; decide)
    rw [v2] at e1
    rw [v3] at e2
    refine Or.inl ⟨v, st', en', ki', va', at', be', rk', nu', a', v1, d.1, d.2, ?_, ?_, e3, e4⟩
    · rw [v2, if_neg (fun z => by rw [Int32.lt_iff_toInt_lt, pn_toInt (by omega)] at z; omega), if_pos (by rw [Int32.le_iff_toInt_le, pn_toInt (by omega)]; exact d.2), e1, pu_e4]
    · rw [if_pos d, if_neg (by decide), pu_e2, if_pos rfl, e2, pu_e4, pu_e4]
  · have hrk : ¬ rk = 27 := by rw [hkr.mp c]; decide
    refine Or.inr ⟨3, by decide, ?_, ?_⟩
    · unfold zf_X5_findFault
      rw [v2]
      by_cases e : nI v < p1
      · rw [if_pos e, pu_e3, hst]
      · rw [if_neg e, if_neg (fun z => by
          rw [Int32.lt_iff_toInt_lt, pn_toInt (by omega)] at e
          rw [Int32.le_iff_toInt_le, pn_toInt (by omega)] at z
          omega), pu_e3, hst]
    · unfold zf_X11_fails
      rw [if_neg d, if_pos rfl, if_pos rfl, if_neg hrk, pu_e1, pu_e2, pu_e2, if_neg (by decide), pu_e4]
end PCo
