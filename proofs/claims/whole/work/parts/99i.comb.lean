/-! small readers, on both sides -/
def pp_ta (B : Nat → Nat) (sz a : Nat) (st en ki va at1 be rk nu : Int32) : Prop :=
  ∃ b, st = nI a ∧ at1 = nI a ∧ en = nI b ∧ be = nI b ∧ a ≤ b ∧ b ≤ sz ∧ ((a = b ∧ ki = 0 ∧ rk = 26) ∨ (a < b ∧ ki = 1 ∧ rk = 27) ∨ (a < b ∧ ki = 2 ∧ rk = 25 ∧ ∃ v, v ≤ 999 ∧ va = nI v ∧ nu = nI v) ∨ (a < b ∧ ki = 3 ∧ (∀ j, a ≤ j → j < b → 97 ≤ B j ∧ B j ≤ 122) ∧ rk = nI (pm_ix pm_kw (pm_L B a b))) ∨ (b = a + 1 ∧ ki = 3 ∧ pm_ix pm_sn (B a) < 12 ∧ rk = nI (30 + pm_ix pm_sn (B a))))
theorem pb_rf : ∀ k : Int32, (if k = (1 : Int32) then some (1 : Int32) else some (2 : Int32)) = some (if k = 1 then 1 else 2) := by
  intro k; split <;> rfl
section PCo
variable {n sz : Nat} {B : Nat → Nat} {ct rt : Nat → Int32}
theorem pp_ta_tk {a : Nat} {st en ki va at1 be rk nu : Int32} (h : pp_ta B sz a st en ki va at1 be rk nu) : ∃ b, pp_tk B sz b st en ki va at1 be rk nu ∧ a ≤ b ∧ b ≤ sz ∧ (¬ ki = 0 → a < b) ∧ en = nI b ∧ be = nI b := by
  obtain ⟨b, h1, h2, h3, h4, h5, h6, h7⟩ := h
  refine ⟨b, ⟨a, h1, h2, h3, h4, h5, h6, h7⟩, h5, h6, ?_, h3, h4⟩
  intro z
  rcases h7 with h | h | h | h | h
  · exact absurd h.2.1 z
  · exact h.1
  · exact h.1
  · exact h.1
  · omega
/-- on to the next word -/
theorem pp_go {a : Nat} {st en ki va at1 be rk nu : Int32} (hn : 1000 ≤ n) (hx : pp_tx B sz ct rt) (h : pp_ta B sz a st en ki va at1 be rk nu) (hk : ¬ ki = 0) :
    ∃ st' en' ki' va' at' be' rk' nu' a', zf_X5_advance n (nI sz) st en ki va ct = some (st', en', ki', va') ∧ zf_X11_next n at1 be (nI sz) rk nu rt = some (at', be', rk', nu') ∧ a < a' ∧ pp_ta B sz a' st' en' ki' va' at' be' rk' nu' := by
  obtain ⟨b, _, h1, h2, h3, rfl, rfl⟩ := pp_ta_tk h
  have hab := h3 hk
  obtain ⟨st', en', ki', va', at', be', rk', nu', b', e1, e2, e3, e4, a', e5, e6, e7, e8, e9, e10, e11⟩ := pp_adv (n := n) (st := st) (ki := ki) (va := va) (at1 := at1) (rk := rk) (nu := nu) hn hx h2
  refine ⟨st', en', ki', va', at', be', rk', nu', a', e1, e2, ?_, b', e5, e6, e7, e8, e9, e10, e11⟩
  have hge := pp_adv_ge hn hx h2 e1
  rw [e5] at hge
  have := hx.1
  have := (pn_le (by omega) (by omega)).mp hge
  omega
end PCo
