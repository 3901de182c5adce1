/-! feed -/
theorem pb_and255 (x : Int32) : ∃ b, b < 256 ∧ x &&& (255 : Int32) = nI b := by
  refine ⟨(x &&& (255 : Int32)).toBitVec.toNat, ?_, ?_⟩
  · have e : (x &&& (255 : Int32)).toBitVec.toNat = x.toBitVec.toNat &&& 255 := rfl
    rw [e]
    have := Nat.and_le_right (n := x.toBitVec.toNat) (m := 255)
    omega
  · apply Int32.toBitVec_inj.mp
    show _ = BitVec.ofNat 32 _
    rw [BitVec.ofNat_toNat, BitVec.setWidth_eq]
theorem pb_byteA (x : BitVec 32) (s : Nat) (hs : s ≤ 24) : (x >>> s) &&& 255#32 = (x.sshiftRight s) &&& 255#32 := by
  apply BitVec.eq_of_getLsbD_eq
  intro i hi
  rw [BitVec.getLsbD_and, BitVec.getLsbD_and, BitVec.getLsbD_ushiftRight, BitVec.getLsbD_sshiftRight]
  by_cases h8 : i < 8
  · have h1 : decide (32 ≤ i) = false := decide_eq_false (by omega)
    rw [h1, if_pos (show s + i < 32 by omega)]
    simp
  · have : (255#32).getLsbD i = false := by
      rw [BitVec.getLsbD_ofNat]
      have : Nat.testBit 255 i = false := Nat.testBit_lt_two_pow (Nat.lt_of_lt_of_le (show 255 < 2 ^ 8 by decide) (Nat.pow_le_pow_right (by omega) (by omega)))
      rw [this, Bool.and_false]
    rw [this, Bool.and_false, Bool.and_false]
theorem pb_byte24 (x : Int32) : ((Int32.toUInt32 x >>> (Int32.toUInt32 (24 : Int32) &&& Int32.toUInt32 31)).toInt32) &&& (255 : Int32) = (x >>> ((24 : Int32) &&& 31)) &&& (255 : Int32) := by
  apply Int32.toBitVec_inj.mp
  exact pb_byteA x.toBitVec 24 (by omega)
theorem pb_byte16 (x : Int32) : ((Int32.toUInt32 x >>> (Int32.toUInt32 (16 : Int32) &&& Int32.toUInt32 31)).toInt32) &&& (255 : Int32) = (x >>> ((16 : Int32) &&& 31)) &&& (255 : Int32) := by
  apply Int32.toBitVec_inj.mp
  exact pb_byteA x.toBitVec 16 (by omega)
theorem pb_byte8 (x : Int32) : ((Int32.toUInt32 x >>> (Int32.toUInt32 (8 : Int32) &&& Int32.toUInt32 31)).toInt32) &&& (255 : Int32) = (x >>> ((8 : Int32) &&& 31)) &&& (255 : Int32) := by
  apply Int32.toBitVec_inj.mp
  exact pb_byteA x.toBitVec 8 (by omega)
theorem pb_byte0 (x : Int32) : ((Int32.toUInt32 x >>> (Int32.toUInt32 (0 : Int32) &&& Int32.toUInt32 31)).toInt32) &&& (255 : Int32) = (x >>> ((0 : Int32) &&& 31)) &&& (255 : Int32) := by
  apply Int32.toBitVec_inj.mp
  exact pb_byteA x.toBitVec 0 (by omega)
def pm_sh (j : Nat) : Int32 := if j = 0 then 24 else if j = 1 then 16 else if j = 2 then 8 else if j = 3 then 0 else -8
def pm_by (p : Int32) (j : Nat) : Int32 := (p >>> (pm_sh j &&& 31)) &&& 255
theorem pb_shr : ∀ i, i < 20 → (24 : Int32) - (8 : Int32) * (za_rem (nI i) (4 : Int32)) = pm_sh (i % 4) := by decide +kernel
def pp_tape (T : Nat) (ct rt : Nat → Int32) : Prop := T ≤ 900 ∧ ∀ k, k < T → ct k = rt k ∧ ∃ b, b < 256 ∧ rt k = nI b
theorem pc_tapeInt {n T : Nat} {a : Nat → Int32} {p : Int32} (hn : 100 ≤ n) (hT : T + 4 ≤ 900) : pu_ok (zf_X10_tapeInt n (nI T) a p) (fun r => r.1 = nI (T + 4) ∧ ∀ k, r.2 k = if T ≤ k ∧ k < T + 4 then pm_by p (k - T) else a k) := by
  unfold zf_X10_tapeInt
  refine pu_d4.mpr (pu_up (fun i v => v.1 = pm_sh i ∧ v.2.1 = nI (T + i) ∧ ∀ k, v.2.2 k = if T ≤ k ∧ k < T + i then pm_by p (k - T) else a k) 4 (by omega) ⟨rfl, rfl, fun k => by rw [if_neg (by omega)]⟩ ?_)
  rintro i ⟨v1, v2, a3⟩ hi ⟨e1, e2, e3⟩
  dsimp only at e1 e2 e3 ⊢
  subst e1 e2
  unfold zb_X10_tapeInt_3
  by_cases hc : i = 4
  · subst hc
    rw [if_pos (show pm_sh 4 < 0 by decide)]
    exact pu_out (by decide) (pu_some.mpr ⟨rfl, e3⟩)
  have h4 : ¬ pm_sh i < 0 ∧ pm_sh i + (-8 : Int32) = pm_sh (i + 1) ∧ ∀ x : Int32, ((Int32.toUInt32 x >>> (Int32.toUInt32 (pm_sh i) &&& Int32.toUInt32 31)).toInt32) &&& (255 : Int32) = pm_by x i := by
    rcases pp_4 (show i < 4 by omega) with rfl | rfl | rfl | rfl
    · exact ⟨by decide, by decide, pb_byte24⟩
    · exact ⟨by decide, by decide, pb_byte16⟩
    · exact ⟨by decide, by decide, pb_byte8⟩
    · exact ⟨by decide, by decide, pb_byte0⟩
  obtain ⟨h1, h2, h3⟩ := h4
  rw [if_neg h1, if_neg (fun z => by have := (pv_le 900 (b := T + i) (by omega) (by omega)).mp z; omega), pu_e1, h3, pu_st (by omega) (by omega), pu_e1, pn_a1, pu_e1, h2, pu_e1]
  refine pu_go ⟨by omega, rfl, rfl, ?_⟩
  intro k
  dsimp only
  by_cases f : k = T + i
  · subst f; rw [pu_upe, if_pos (by omega), show T + i - T = i from by omega]
  · rw [pu_upn f, e3]
    by_cases g : T ≤ k ∧ k < T + i
    · rw [if_pos g, if_pos (by omega)]
    · rw [if_neg g, if_neg (by omega)]
def pm_5 (p1 p2 p3 p4 p5 : Int32) (j : Nat) : Int32 := if j = 0 then p1 else if j = 1 then p2 else if j = 2 then p3 else if j = 3 then p4 else p5
theorem pp_feed {n T : Nat} {ct rt : Nat → Int32} {thrown p1 p2 p3 p4 p5 : Int32} (hn : 100 ≤ n) (ht : pp_tape T ct rt) :
    ∃ v T', pu_ok (zf_X10_feed n (nI T) ct p1 p2 p3 p4 p5) (fun r => r.1 = v ∧ r.2.1 = nI T' ∧ pu_ok (zf_X11_feed n thrown (nI T) rt p1 p2 p3 p4 p5) (fun y => y.1 = v ∧ y.2.2.1 = nI T' ∧ pp_tape T' r.2.2 y.2.2.2)) := by
  obtain ⟨h9, h⟩ := ht
  unfold zf_X10_feed zf_X11_feed
  rw [show nI T + (20 : Int32) = nI (T + 20) from pn_add T 20]
  by_cases c : T + 20 ≤ 900
  rotate_left
  · refine ⟨(-5 : Int32), T, ?_⟩
    rw [if_neg (fun z => c ((pv_ge 900 (by omega) (by omega)).mp z)), if_neg (fun z => c ((pv_ge 900 (by omega) (by omega)).mp z))]
    exact pu_some.mpr ⟨rfl, rfl, pu_some.mpr ⟨rfl, rfl, h9, h⟩⟩
  rw [if_pos ((pv_ge 900 (by omega) (by omega)).mpr c), if_pos ((pv_ge 900 (by omega) (by omega)).mpr c)]
  refine ⟨nI (T + 20), T + 20, ?_⟩
  refine pu_d2.mpr (pu_mono (pc_tapeInt hn (by omega)) ?_)
  rintro ⟨x1, b1⟩ ⟨e1, g1⟩
  dsimp only at e1 g1 ⊢
  subst e1
  refine pu_d2.mpr (pu_mono (pc_tapeInt hn (by omega)) ?_)
  rintro ⟨x1, b2⟩ ⟨e1, g2⟩
  dsimp only at e1 g2 ⊢
  subst e1
  refine pu_d2.mpr (pu_mono (pc_tapeInt hn (by omega)) ?_)
  rintro ⟨x1, b3⟩ ⟨e1, g3⟩
  dsimp only at e1 g3 ⊢
  subst e1
  refine pu_d2.mpr (pu_mono (pc_tapeInt hn (by omega)) ?_)
  rintro ⟨x1, b4⟩ ⟨e1, g4⟩
  dsimp only at e1 g4 ⊢
  subst e1
  refine pu_d2.mpr (pu_mono (pc_tapeInt hn (by omega)) ?_)
  rintro ⟨x1, b5⟩ ⟨e1, g5⟩
  dsimp only at e1 g5 ⊢
  subst e1
  have hall : ∀ k, b5 k = if T ≤ k ∧ k < T + 20 then pm_by (pm_5 p1 p2 p3 p4 p5 ((k - T) / 4)) ((k - T) % 4) else ct k := by
    intro k
    rw [g5, g4, g3, g2, g1]
    by_cases z : T ≤ k ∧ k < T + 20
    · rw [if_pos z]
      obtain ⟨d, rfl⟩ := Nat.exists_eq_add_of_le z.1
      rw [show T + d - T = d from by omega]
      have hd : d < 20 := by omega
      by_cases z5 : 16 ≤ d
      · rw [if_pos (by omega), show d / 4 = 4 from by omega, show T + d - (T + 4 + 4 + 4 + 4) = d % 4 from by omega]; rfl
      rw [if_neg (by omega)]
      by_cases z4 : 12 ≤ d
      · rw [if_pos (by omega), show d / 4 = 3 from by omega, show T + d - (T + 4 + 4 + 4) = d % 4 from by omega]; rfl
      rw [if_neg (by omega)]
      by_cases z3 : 8 ≤ d
      · rw [if_pos (by omega), show d / 4 = 2 from by omega, show T + d - (T + 4 + 4) = d % 4 from by omega]; rfl
      rw [if_neg (by omega)]
      by_cases z2 : 4 ≤ d
      · rw [if_pos (by omega), show d / 4 = 1 from by omega, show T + d - (T + 4) = d % 4 from by omega]; rfl
      rw [if_neg (by omega), if_pos (by omega), show d / 4 = 0 from by omega, show d % 4 = d from by omega]; rfl
    · rw [if_neg (by omega), if_neg (by omega), if_neg (by omega), if_neg (by omega), if_neg (by omega), if_neg z]
  refine pu_some.mpr ⟨rfl, rfl, ?_⟩
  refine pu_d4.mpr (pu_up (fun i v => v.1 = nI i ∧ v.2.1 = nI (T + i) ∧ ∀ k, v.2.2 k = if T ≤ k ∧ k < T + i then pm_by (pm_5 p1 p2 p3 p4 p5 ((k - T) / 4)) ((k - T) % 4) else rt k) 20 (by omega) ⟨rfl, rfl, fun k => by rw [if_neg (by omega)]⟩ ?_)
  rintro i ⟨v1, v2, a3⟩ hi ⟨e1, e2, e3⟩
  dsimp only at e1 e2 e3 ⊢
  subst e1 e2
  unfold zb_X11_feed_24
  by_cases hc : 20 ≤ i
  · have : i = 20 := by omega
    subst this
    rw [if_pos ((pv_le 20 (by omega) (by omega)).mpr hc)]
    refine pu_out (by decide) (pu_some.mpr ⟨rfl, rfl, c, ?_⟩)
    intro k hk
    dsimp only
    rw [hall, e3]
    by_cases z : T ≤ k ∧ k < T + 20
    · rw [if_pos z, if_pos z]
      exact ⟨rfl, pb_and255 _⟩
    · rw [if_neg z, if_neg z]
      exact h k (by omega)
  rw [if_neg (fun z => hc ((pv_le 20 (by omega) (by omega)).mp z))]
  have hsel : (if (4 : Int32) ≤ nI i then if (8 : Int32) ≤ nI i then if (12 : Int32) ≤ nI i then if (16 : Int32) ≤ nI i then some p5 else some p4 else some p3 else some p2 else some p1) = some (pm_5 p1 p2 p3 p4 p5 (i / 4)) := by
    by_cases z2 : 4 ≤ i
    · rw [if_pos ((pv_le 4 (by omega) (by omega)).mpr z2)]
      by_cases z3 : 8 ≤ i
      · rw [if_pos ((pv_le 8 (by omega) (by omega)).mpr z3)]
        by_cases z4 : 12 ≤ i
        · rw [if_pos ((pv_le 12 (by omega) (by omega)).mpr z4)]
          by_cases z5 : 16 ≤ i
          · rw [if_pos ((pv_le 16 (by omega) (by omega)).mpr z5), show i / 4 = 4 from by omega]; rfl
          · rw [if_neg (fun z => z5 ((pv_le 16 (by omega) (by omega)).mp z)), show i / 4 = 3 from by omega]; rfl
        · rw [if_neg (fun z => z4 ((pv_le 12 (by omega) (by omega)).mp z)), show i / 4 = 2 from by omega]; rfl
      · rw [if_neg (fun z => z3 ((pv_le 8 (by omega) (by omega)).mp z)), show i / 4 = 1 from by omega]; rfl
    · rw [if_neg (fun z => z2 ((pv_le 4 (by omega) (by omega)).mp z)), show i / 4 = 0 from by omega]; rfl
  rw [hsel, pu_e1, pb_shr i (by omega), pu_st (by omega) (by omega), pu_e1, pn_a1, pu_e1, pn_a1, pu_e1]
  refine pu_go ⟨by omega, rfl, rfl, ?_⟩
  intro k
  dsimp only
  by_cases f : k = T + i
  · subst f; rw [pu_upe, if_pos (by omega), show T + i - T = i from by omega]; rfl
  · rw [pu_upn f, e3]
    by_cases g : T ≤ k ∧ k < T + i
    · rw [if_pos g, if_pos (by omega)]
    · rw [if_neg g, if_neg (by omega)]
