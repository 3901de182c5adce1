def pe_cm (c : Nat) : Nat := if c < 3000 then c else if c = 3006 then 1018 else if c = 3007 then 1016 else if c = 3008 then 1017 else if c = 3009 then 1019 else c - 1990
theorem pr_reckloop {n : Nat} {all a14 arr : Nat → Int32} {wd : Nat → Int} {cd : Nat → Nat} {law fr many : Nat} {b : Bool} (hn : 1000 ≤ n) (hlaw : law < 2) (hm : all (8 + law) = nI many) (hf : all (6 + law) = nI fr) (hfm : fr + many ≤ 900) (hcd : ∀ k, k < many → all (94 + (fr + k)) = nI (cd (fr + k))) (hw : ∀ i, i < 6 → a14 i = Int32.ofInt (wd i)) (hwb : ∀ i, -1000000 ≤ wd i ∧ wd i ≤ 1000000) (htc : pe_tc cd fr many [] = some [b]) :
    pu_ok (za_it (fun v => zb_X11_reckons_93 all (nI law) a14 v.1 v.2.1 v.2.2) n ((0 : Int32), (0 : Int32), arr)) (fun r => ∃ x, pe_ev wd cd fr many [] = [x] ∧ pe_wt [b] [x] ∧ r.2.2.2 0 = Int32.ofInt x) := by
  refine pu_up (fun i v => ∃ ts st, pe_tc cd (fr + i) (many - i) ts = some [b] ∧ pe_wt ts st ∧ v.1 = nI st.length ∧ v.2.1 = nI i ∧ pe_rep v.2.2 st ∧ pe_ev wd cd (fr + i) (many - i) st = pe_ev wd cd fr many [] ∧ ts.length ≤ 60) many (by omega) ⟨[], [], htc, trivial, rfl, rfl, trivial, rfl, by simp⟩ ?_
  rintro i ⟨v1, v2, ar⟩ hi ⟨ts, st, h1, h2, h3, h4, h5, h6, h7⟩
  dsimp only at h3 h4 h5 ⊢
  subst h3 h4
  unfold zb_X11_reckons_93
  rw [show (8 : Int32) + nI law = nI (8 + law) from pn_add 8 law, pu_ld (by omega) (by omega), pu_e1, hm]
  by_cases hc : many ≤ i
  · rw [if_pos ((pn_le (by omega) (by omega)).mpr hc)]
    refine pu_some.mpr ⟨fun z => absurd z Nat.one_ne_zero, fun _ => ?_⟩
    rw [show many - i = 0 from by omega] at h1 h6
    have h8 : ts = [b] := Option.some.inj h1
    subst h8
    match st, h2, h5, h6 with
    | [x], h2, h5, h6 => exact ⟨x, h6.symm, h2, h5.1⟩
    | [], h2, _, _ => cases b <;> exact h2.elim
    | x :: y :: r, h2, _, _ => cases b <;> exact h2.2.elim
  · rw [if_neg (fun z => hc ((pn_le (by omega) (by omega)).mp z)), show (6 : Int32) + nI law = nI (6 + law) from pn_add 6 law, pu_ld (by omega) (by omega), pu_e1, hf, show ((94 : Int32) + nI fr) + nI i = nI (94 + (fr + i)) from by rw [show (94 : Int32) = nI 94 from rfl, pn_add, pn_add, Nat.add_assoc], pu_ld (by omega) (by omega), pu_e1, hcd i (by omega)]
    obtain ⟨k, hk⟩ : ∃ k, many - i = k + 1 := ⟨many - i - 1, by omega⟩
    rw [hk] at h1 h6
    obtain ⟨ts', ho, h9⟩ := za_b h1
    have hm2 := pr_midok (wd := wd) (a14 := a14) hw ho h2 h5 h7
    have h10 := pe_step hwb ho h2
    refine pu_d2.mpr (pu_mono hm2 ?_)
    rintro ⟨q1, q2⟩ ⟨e1, e2⟩
    dsimp only at e1 e2 ⊢
    rw [pu_e1, pn_a1]
    refine pu_some.mpr ⟨fun _ => ⟨by omega, ts', pe_one wd (cd (fr + i)) st, ?_, h10, e1, rfl, e2, ?_, pe_otl ho h7⟩, fun z => absurd rfl z⟩
    · rw [show many - (i + 1) = k from by omega, ← Nat.add_assoc]; exact h9
    · rw [show many - (i + 1) = k from by omega, ← Nat.add_assoc, ← h6]; rfl
theorem pe_fin2 {v : Int64} {z : Int} (hv : v.toInt = z) : Int64.toInt32 (if (if v < (1000000 : Int64) then v else (1000000 : Int64)) < (-1000000 : Int64) then (-1000000 : Int64) else (if v < (1000000 : Int64) then v else (1000000 : Int64))) = Int32.ofInt (pe_cap z) := by
  have e1 : (1000000 : Int64).toInt = 1000000 := by decide
  have e2 : (-1000000 : Int64).toInt = -1000000 := by decide
  have e3 : Int64.toInt32 (1000000 : Int64) = Int32.ofInt 1000000 := by decide
  have e4 : Int64.toInt32 (-1000000 : Int64) = Int32.ofInt (-1000000) := by decide
  unfold pe_cap
  by_cases h1 : v < (1000000 : Int64)
  · rw [if_pos h1]
    have h1' := Int64.lt_iff_toInt_lt.mp h1
    rw [hv, e1] at h1'
    rw [if_neg (show ¬ 1000000 < z by omega)]
    by_cases h2 : v < (-1000000 : Int64)
    · rw [if_pos h2, e4]
      have h2' := Int64.lt_iff_toInt_lt.mp h2
      rw [hv, e2] at h2'
      rw [if_pos h2']
    · rw [if_neg h2]
      have h2' : ¬ z < -1000000 := fun y => h2 (Int64.lt_iff_toInt_lt.mpr (by rw [hv, e2]; exact y))
      rw [if_neg h2', ← hv, Int32.ofInt_int64ToInt]
  · rw [if_neg h1, if_neg (by decide), e3]
    have h1' : ¬ z < 1000000 := fun y => h1 (Int64.lt_iff_toInt_lt.mpr (by rw [hv, e1]; exact y))
    by_cases h2 : 1000000 < z
    · rw [if_pos h2]
    · rw [if_neg h2, if_neg (by omega), show z = 1000000 from by omega]
theorem pc_opA {c k : Nat} {a b : Int} {a3 : Nat → Int32} (hc : c = 3000 ∨ c = 3001 ∨ c = 3002) (ha : -1000000 ≤ a ∧ a ≤ 1000000) (hb : -1000000 ≤ b ∧ b ≤ 1000000) (hk : k + 2 ≤ 60) (h1 : a3 (k + 1) = Int32.ofInt b) (h2 : a3 k = Int32.ofInt a) : zf_X2_operate a3 (nI (pe_cm c)) (nI (k + 2)) = some (nI (k + 1), va_up a3 k (Int32.ofInt (pe_btw c a b))) := by
  have ja := pj_of (a := a) (by omega) (by omega)
  have jb := pj_of (a := b) (by omega) (by omega)
  have hm := pe_mulb ha hb
  have h22 : (2 : Int32) ≤ nI (k + 2) := (pv_le 2 (by omega) (by omega)).mpr (by omega)
  unfold zf_X2_operate
  rcases hc with rfl | rfl | rfl
  · rw [if_neg (by decide), if_neg (by decide), if_pos h22, pn_s2, pn_s21, pu_ld (by omega) (by omega), pu_e1, pu_e1, pu_ld (by omega) (by omega), pu_e1, pu_e1, if_pos (by decide), pu_e1, pu_e1, pu_e1, pu_e1, h1, h2]
    rw [pe_fin2 (z := a + b) (by rw [pj_add (by omega) (by omega), ja, jb]), pu_st (by omega) (by omega), pu_e1, pe_b0]
  · rw [if_neg (by decide), if_neg (by decide), if_pos h22, pn_s2, pn_s21, pu_ld (by omega) (by omega), pu_e1, pu_e1, pu_ld (by omega) (by omega), pu_e1, pu_e1, if_neg (by decide), if_pos (by decide), pu_e1, pu_e1, pu_e1, pu_e1, h1, h2]
    rw [pe_fin2 (z := a - b) (by rw [pj_sub (by omega) (by omega), ja, jb]), pu_st (by omega) (by omega), pu_e1, pe_b1]
  · rw [if_neg (by decide), if_neg (by decide), if_pos h22, pn_s2, pn_s21, pu_ld (by omega) (by omega), pu_e1, pu_e1, pu_ld (by omega) (by omega), pu_e1, pu_e1, if_neg (by decide), if_neg (by decide), if_pos (by decide), pu_e1, pu_e1, pu_e1, pu_e1, h1, h2]
    rw [pe_fin2 (z := a * b) (by rw [pj_mul (by rw [ja, jb]; omega) (by rw [ja, jb]; omega), ja, jb]), pu_st (by omega) (by omega), pu_e1, pe_b2]
theorem pc_opC {c k : Nat} {a b : Int} {a3 : Nat → Int32} (hc : c = 3003 ∨ c = 3004 ∨ c = 3005) (ha : -1000000 ≤ a ∧ a ≤ 1000000) (hb : -1000000 ≤ b ∧ b ≤ 1000000) (hk : k + 2 ≤ 60) (h1 : a3 (k + 1) = Int32.ofInt b) (h2 : a3 k = Int32.ofInt a) : zf_X2_operate a3 (nI (pe_cm c)) (nI (k + 2)) = some (nI (k + 1), va_up a3 k (Int32.ofInt (pe_btw c a b))) := by
  have ja := pj_of (a := a) (by omega) (by omega)
  have jb := pj_of (a := b) (by omega) (by omega)
  have h22 : (2 : Int32) ≤ nI (k + 2) := (pv_le 2 (by omega) (by omega)).mpr (by omega)
  have f1 := pe_fin2 (v := 1) (z := 1) (by decide)
  have f0 := pe_fin2 (v := 0) (z := 0) (by decide)
  unfold zf_X2_operate
  rcases hc with rfl | rfl | rfl
  · rw [if_neg (by decide), if_neg (by decide), if_pos h22, pn_s2, pn_s21, pu_ld (by omega) (by omega), pu_e1, pu_e1, pu_ld (by omega) (by omega), pu_e1, pu_e1, if_neg (by decide), if_neg (by decide), if_neg (by decide), if_pos (by decide), h1, h2]
    by_cases h : a = b
    · rw [if_pos (by rw [lg_eq, h]), pu_e1, pu_e1, pu_e1, pu_e1, f1, pu_st (by omega) (by omega), pu_e1]
      rw [pe_b3, if_pos h]; rfl
    · rw [if_neg (by rw [lg_eq]; intro z; apply h; rw [← ja, ← jb, z]), pu_e1, pu_e1, pu_e1, pu_e1, f0, pu_st (by omega) (by omega), pu_e1]
      rw [pe_b3, if_neg h]; rfl
  · rw [if_neg (by decide), if_neg (by decide), if_pos h22, pn_s2, pn_s21, pu_ld (by omega) (by omega), pu_e1, pu_e1, pu_ld (by omega) (by omega), pu_e1, pu_e1, if_neg (by decide), if_neg (by decide), if_neg (by decide), if_neg (by decide), if_pos (by decide), h1, h2]
    by_cases h : a < b
    · rw [if_neg (by rw [lg_ge, ja, jb]; omega), pu_e1, pu_e1, pu_e1, pu_e1, f1, pu_st (by omega) (by omega), pu_e1]
      rw [pe_b4, if_pos h]; rfl
    · rw [if_pos (by rw [lg_ge, ja, jb]; omega), pu_e1, pu_e1, pu_e1, pu_e1, f0, pu_st (by omega) (by omega), pu_e1]
      rw [pe_b4, if_neg h]; rfl
  · rw [if_neg (by decide), if_neg (by decide), if_pos h22, pn_s2, pn_s21, pu_ld (by omega) (by omega), pu_e1, pu_e1, pu_ld (by omega) (by omega), pu_e1, pu_e1, if_neg (by decide), if_neg (by decide), if_neg (by decide), if_neg (by decide), if_neg (by decide), if_pos (by decide), h1, h2]
    by_cases h : b < a
    · rw [if_neg (by rw [lg_le, ja, jb]; omega), pu_e1, pu_e1, pu_e1, pu_e1, f1, pu_st (by omega) (by omega), pu_e1]
      rw [pe_b5, if_pos h]; rfl
    · rw [if_pos (by rw [lg_le, ja, jb]; omega), pu_e1, pu_e1, pu_e1, pu_e1, f0, pu_st (by omega) (by omega), pu_e1]
      rw [pe_b5, if_neg h]; rfl
theorem pc_opB {c k : Nat} {a b : Int} {a3 : Nat → Int32} (hc : c = 3007 ∨ c = 3008) (ha : a = 0 ∨ a = 1) (hb : b = 0 ∨ b = 1) (hk : k + 2 ≤ 60) (h1 : a3 (k + 1) = Int32.ofInt b) (h2 : a3 k = Int32.ofInt a) : zf_X2_operate a3 (nI (pe_cm c)) (nI (k + 2)) = some (nI (k + 1), va_up a3 k (Int32.ofInt (pe_btw c a b))) := by
  have h22 : (2 : Int32) ≤ nI (k + 2) := (pv_le 2 (by omega) (by omega)).mpr (by omega)
  unfold zf_X2_operate
  rcases hc with rfl | rfl
  · rw [if_neg (by decide), if_neg (by decide), if_pos h22, pn_s2, pn_s21, pu_ld (by omega) (by omega), pu_e1, pu_e1, pu_ld (by omega) (by omega), pu_e1, pu_e1, if_neg (by decide), if_neg (by decide), if_neg (by decide), if_neg (by decide), if_neg (by decide), if_neg (by decide), if_pos (by decide), pu_e1, pu_e1, pu_e1, pu_e1, h1, h2, pu_st (by omega) (by omega), pu_e1]
    rcases ha with rfl | rfl <;> rcases hb with rfl | rfl <;> rfl
  · rw [if_neg (by decide), if_neg (by decide), if_pos h22, pn_s2, pn_s21, pu_ld (by omega) (by omega), pu_e1, pu_e1, pu_ld (by omega) (by omega), pu_e1, pu_e1, if_neg (by decide), if_neg (by decide), if_neg (by decide), if_neg (by decide), if_neg (by decide), if_neg (by decide), if_neg (by decide), if_pos (by decide), pu_e1, pu_e1, pu_e1, pu_e1, h1, h2, pu_st (by omega) (by omega), pu_e1]
    rcases ha with rfl | rfl <;> rcases hb with rfl | rfl <;> rfl
def pc_mid (v4 v1 : Int32) (b_o_facts a3 : Nat → Int32) : Option (Int32 × (Nat → Int32)) :=
        if (1000 : Int32) ≤ v4 then
          if (1006 : Int32) ≤ v4 then
            zd_2 (zf_X2_operate a3 v4 v1) (fun v5 a6 =>
            some (v5, a6))
          else
            zd_1 (za_ld b_o_facts 6 (v4 - (1000 : Int32))) (fun v7 =>
            zd_1 (za_st a3 64 v1 v7) (fun a8 =>
            zd_1 (some (v1 + (1 : Int32))) (fun v9 =>
            some (v9, a8))))
        else
          zd_1 (za_st a3 64 v1 v4) (fun a10 =>
          zd_1 (some (v1 + (1 : Int32))) (fun v11 =>
          some (v11, a10)))
theorem pc_midbin {c : Nat} {a b : Int} {r : List Int} {fa a3 : Nat → Int32} (hc : 1006 ≤ pe_cm c ∧ pe_cm c < 2000) (hr : pe_rep a3 (b :: a :: r)) (hz : zf_X2_operate a3 (nI (pe_cm c)) (nI (r.length + 2)) = some (nI (r.length + 1), va_up a3 r.length (Int32.ofInt (pe_btw c a b)))) : pu_ok (pc_mid (nI (pe_cm c)) (nI (b :: a :: r).length) fa a3) (fun q => q.1 = nI (pe_btw c a b :: r).length ∧ pe_rep q.2 (pe_btw c a b :: r)) := by
  unfold pc_mid
  rw [if_pos ((pv_le 1000 (by omega) (by omega)).mpr (by omega)), if_pos ((pv_le 1006 (by omega) (by omega)).mpr (by omega)), show (b :: a :: r).length = r.length + 2 from rfl, hz, pu_e2]
  exact pu_some.mpr ⟨rfl, pe_rep_push rfl hr.2.2⟩
theorem pc_midok {wd : Nat → Int} {c : Nat} {ts ts' : List Bool} {st : List Int} {fa a3 : Nat → Int32} (hw : ∀ i, i < 6 → fa i = Int32.ofInt (wd i)) (ho : pe_ot c ts = some ts') (ht : pe_wt ts st) (hr : pe_rep a3 st) (hl : ts.length ≤ 60) : pu_ok (pc_mid (nI (pe_cm c)) (nI st.length) fa a3) (fun q => q.1 = nI (pe_one wd c st).length ∧ pe_rep q.2 (pe_one wd c st)) := by
  have hlen := pe_wt_len ht
  unfold pe_ot at ho
  by_cases h1 : c < 1006
  · rw [if_pos h1] at ho
    have hcm : pe_cm c = c := by unfold pe_cm; rw [if_pos (by omega)]
    rw [hcm]
    by_cases h2 : ts.length < 60
    · unfold pc_mid pe_one
      by_cases h3 : c < 1000
      · rw [if_neg (fun z => by have := (pv_le 1000 (b := c) (by omega) (by omega)).mp z; omega), pu_st (by omega) (by omega), pu_e1, pn_a1, pu_e1, if_pos h3]
        exact pu_some.mpr ⟨rfl, pe_rep_push (pi_nI c) hr⟩
      · rw [if_pos ((pv_le 1000 (b := c) (by omega) (by omega)).mpr (by omega)), if_neg (fun z => by have := (pv_le 1006 (b := c) (by omega) (by omega)).mp z; omega), pv_sub 1000 (b := c) (by omega), pu_ld (by omega) (by omega), pu_e1, pu_st (by omega) (by omega), pu_e1, pn_a1, pu_e1, if_neg h3, if_pos (by omega)]
        exact pu_some.mpr ⟨rfl, pe_rep_push (hw _ (by omega)) hr⟩
    · rw [if_neg h2] at ho; cases ho
  · rw [if_neg h1] at ho
    unfold pe_one
    rw [if_neg (by omega)]
    by_cases h2 : c = 3000 ∨ c = 3001 ∨ c = 3002
    · rw [if_pos h2] at ho
      rw [if_neg (by omega), if_neg (by omega), if_neg (by omega)]
      match ts, st, ho, ht, hr, hl with
      | true :: true :: r, b :: a :: q, ho, ht, hr, hl =>
        have e : r.length = q.length := pe_wt_len ht.2.2
        have hl' : r.length + 1 + 1 ≤ 60 := hl
        exact pc_midbin (by rcases h2 with rfl | rfl | rfl <;> decide) hr (pc_opA h2 ht.2.1 ht.1 (by omega) hr.1 hr.2.1)
      | true :: true :: r, [], _, ht, _, _ => exact ht.elim
      | true :: true :: r, [b], _, ht, _, _ => exact ht.2.elim
      | [], _, ho, _, _, _ => cases ho
      | [true], _, ho, _, _, _ => cases ho
      | false :: _, _, ho, _, _, _ => cases ho
      | true :: false :: _, _, ho, _, _, _ => cases ho
    · rw [if_neg h2] at ho
      by_cases h3 : c = 3003 ∨ c = 3004 ∨ c = 3005
      · rw [if_pos h3] at ho
        rw [if_neg (by omega), if_neg (by omega), if_neg (by omega)]
        match ts, st, ho, ht, hr, hl with
        | true :: true :: r, b :: a :: q, ho, ht, hr, hl =>
          have e : r.length = q.length := pe_wt_len ht.2.2
          have hl' : r.length + 1 + 1 ≤ 60 := hl
          exact pc_midbin (by rcases h3 with rfl | rfl | rfl <;> decide) hr (pc_opC h3 ht.2.1 ht.1 (by omega) hr.1 hr.2.1)
        | true :: true :: r, [], _, ht, _, _ => exact ht.elim
        | true :: true :: r, [b], _, ht, _, _ => exact ht.2.elim
        | [], _, ho, _, _, _ => cases ho
        | [true], _, ho, _, _, _ => cases ho
        | false :: _, _, ho, _, _, _ => cases ho
        | true :: false :: _, _, ho, _, _, _ => cases ho
      · rw [if_neg h3] at ho
        by_cases h4 : c = 3006
        · rw [if_pos h4] at ho
          rw [if_neg (by omega), if_pos h4]
          match ts, st, ho, ht, hr, hl with
          | false :: r, b :: q, ho, ht, hr, hl =>
            have e : r.length = q.length := pe_wt_len ht.2
            have hl' : r.length + 1 ≤ 60 := hl
            subst h4
            unfold pc_mid zf_X2_operate
            rw [if_pos (by decide), if_pos (by decide), if_pos (by decide), show (b :: q).length = q.length + 1 from rfl, if_neg (fun z => by have := (pv_gt 1 (b := q.length + 1) (by omega) (by omega)).mp z; omega), pn_s1, pu_ld (by omega) (by omega), pu_e1, pu_st (by omega) (by omega), pu_e1, pu_e2]
            refine pu_some.mpr ⟨rfl, pe_rep_push ?_ hr.2⟩
            have h7 : a3 q.length = Int32.ofInt b := hr.1
            rw [h7]
            rcases ht.1 with rfl | rfl <;> decide
          | false :: r, [], _, ht, _, _ => exact ht.elim
          | [], _, ho, _, _, _ => cases ho
          | true :: _, _, ho, _, _, _ => cases ho
        · rw [if_neg h4] at ho
          by_cases h5 : c = 3007 ∨ c = 3008
          · rw [if_pos h5] at ho
            rw [if_neg (by omega), if_neg h4, if_neg (by omega)]
            match ts, st, ho, ht, hr, hl with
            | false :: false :: r, b :: a :: q, ho, ht, hr, hl =>
              have e : r.length = q.length := pe_wt_len ht.2.2
              have hl' : r.length + 1 + 1 ≤ 60 := hl
              exact pc_midbin (by rcases h5 with rfl | rfl <;> decide) hr (pc_opB h5 ht.2.1 ht.1 (by omega) hr.1 hr.2.1)
            | false :: false :: r, [], _, ht, _, _ => exact ht.elim
            | false :: false :: r, [b], _, ht, _, _ => exact ht.2.elim
            | [], _, ho, _, _, _ => cases ho
            | [false], _, ho, _, _, _ => cases ho
            | true :: _, _, ho, _, _, _ => cases ho
            | false :: true :: _, _, ho, _, _, _ => cases ho
          · rw [if_neg h5] at ho
            by_cases h6 : c = 3009
            · rw [if_pos h6] at ho
              rw [if_neg (by omega), if_neg h4, if_pos h6]
              match ts, st, ho, ht, hr, hl with
              | true :: true :: false :: r, e :: t :: b :: q, ho, ht, hr, hl =>
                have ee : r.length = q.length := pe_wt_len ht.2.2.2
                have hl' : r.length + 1 + 1 + 1 ≤ 60 := hl
                subst h6
                unfold pc_mid zf_X2_operate
                rw [if_pos (by decide), if_pos (by decide), if_neg (by decide), if_pos (by decide), show (e :: t :: b :: q).length = q.length + 3 from rfl, if_neg (fun z => by have := (pv_gt 3 (b := q.length + 3) (by omega) (by omega)).mp z; omega), pn_s3, pn_s31, pn_s32, pu_ld (by omega) (by omega), pu_e1, pu_ld (by omega) (by omega), pu_ld (by omega) (by omega)]
                have k1 : a3 (q.length + 2) = Int32.ofInt e := hr.1
                have k2 : a3 (q.length + 1) = Int32.ofInt t := hr.2.1
                have k3 : a3 q.length = Int32.ofInt b := hr.2.2.1
                rw [k1, k2, k3, pu_e1, pu_e1]
                rcases ht.2.2.1 with rfl | rfl
                · rw [if_pos (by decide), pu_e1, pu_st (by omega) (by omega), pu_e1, pu_e2]
                  exact pu_some.mpr ⟨rfl, pe_rep_push rfl hr.2.2.2⟩
                · rw [if_neg (by decide), pu_e1, pu_st (by omega) (by omega), pu_e1, pu_e2]
                  exact pu_some.mpr ⟨rfl, pe_rep_push rfl hr.2.2.2⟩
              | true :: true :: false :: r, [], _, ht, _, _ => exact ht.elim
              | true :: true :: false :: r, [b], _, ht, _, _ => exact ht.2.elim
              | true :: true :: false :: r, [b, d], _, ht, _, _ => exact ht.2.2.elim
              | [], _, ho, _, _, _ => cases ho
              | [true], _, ho, _, _, _ => cases ho
              | [true, true], _, ho, _, _, _ => cases ho
              | false :: _, _, ho, _, _, _ => cases ho
              | true :: false :: _, _, ho, _, _, _ => cases ho
              | true :: true :: true :: _, _, ho, _, _, _ => cases ho
            · rw [if_neg h6] at ho; cases ho
theorem pc_reckon {n : Nat} {code fa arr : Nat → Int32} {wd : Nat → Int} {cd : Nat → Nat} {fr many : Nat} {b : Bool} (hn : 1000 ≤ n) (hfm : fr + many ≤ 900) (hcd : ∀ k, k < many → code (fr + k) = nI (pe_cm (cd (fr + k)))) (hw : ∀ i, i < 6 → fa i = Int32.ofInt (wd i)) (hwb : ∀ i, -1000000 ≤ wd i ∧ wd i ≤ 1000000) (htc : pe_tc cd fr many [] = some [b]) :
    pu_ok (zf_X2_reckon n code fa arr (nI fr) (nI (fr + many))) (fun r => ∃ x, pe_ev wd cd fr many [] = [x] ∧ pe_wt [b] [x] ∧ r.1 = Int32.ofInt x) := by
  unfold zf_X2_reckon
  refine pu_d4.mpr (pu_mono (P := fun r : Nat × Int32 × Int32 × (Nat → Int32) => ∃ x, pe_ev wd cd fr many [] = [x] ∧ pe_wt [b] [x] ∧ r.2.1 = nI 1 ∧ r.2.2.2 0 = Int32.ofInt x) ?_ ?_)
  · refine pu_up (fun i v => ∃ ts st, pe_tc cd (fr + i) (many - i) ts = some [b] ∧ pe_wt ts st ∧ v.1 = nI st.length ∧ v.2.1 = nI (fr + i) ∧ pe_rep v.2.2 st ∧ pe_ev wd cd (fr + i) (many - i) st = pe_ev wd cd fr many [] ∧ ts.length ≤ 60) many (by omega) ⟨[], [], htc, trivial, rfl, rfl, trivial, rfl, by simp⟩ ?_
    rintro i ⟨v1, v2, ar⟩ hi ⟨ts, st, h1, h2, h3, h4, h5, h6, h7⟩
    dsimp only at h3 h4 h5 ⊢
    subst h3 h4
    have hlen := pe_wt_len h2
    unfold zb_X2_reckon_5
    by_cases hc : many ≤ i
    · rw [if_pos ((pn_le (by omega) (by omega)).mpr (by omega))]
      refine pu_some.mpr ⟨fun z => absurd z Nat.one_ne_zero, fun _ => ?_⟩
      rw [show many - i = 0 from by omega] at h1 h6
      have h8 : ts = [b] := Option.some.inj h1
      subst h8
      match st, h2, h5, h6 with
      | [x], h2, h5, h6 => exact ⟨x, h6.symm, h2, rfl, h5.1⟩
      | [], h2, _, _ => cases b <;> exact h2.elim
      | x :: y :: r, h2, _, _ => cases b <;> exact h2.2.elim
    · rw [if_neg (fun z => by have := (pn_le (by omega) (by omega)).mp z; omega), if_neg (fun z => by have := (pv_le 64 (by omega) (by omega)).mp z; omega), pu_ld (by omega) (by omega), pu_e1, hcd i (by omega)]
      obtain ⟨k, hk⟩ : ∃ k, many - i = k + 1 := ⟨many - i - 1, by omega⟩
      rw [hk] at h1 h6
      obtain ⟨ts', ho, h9⟩ := za_b h1
      have hm2 := pc_midok (wd := wd) (fa := fa) hw ho h2 h5 h7
      have h10 := pe_step hwb ho h2
      refine pu_d2.mpr (pu_mono hm2 ?_)
      rintro ⟨q1, q2⟩ ⟨e1, e2⟩
      dsimp only at e1 e2 ⊢
      rw [pu_e1, pn_a1]
      refine pu_some.mpr ⟨fun _ => ⟨by omega, ts', pe_one wd (cd (fr + i)) st, ?_, h10, e1, rfl, e2, ?_, pe_otl ho h7⟩, fun z => absurd rfl z⟩
      · rw [show many - (i + 1) = k from by omega, ← Nat.add_assoc]; exact h9
      · rw [show many - (i + 1) = k from by omega, ← Nat.add_assoc, ← h6]; rfl
  · rintro ⟨g, v15, v16, a17⟩ ⟨x, e1, e2, e3, e4⟩
    dsimp only at e3 e4 ⊢
    subst e3
    rw [if_neg (by decide), show (0 : Int32) = nI 0 from rfl, pu_ld (by omega) (by omega), pu_e1]
    exact pu_some.mpr ⟨x, e1, e2, e4⟩
