theorem pi_to {a : Int} (h1 : -2147483648 ≤ a) (h2 : a < 2147483648) : (Int32.ofInt a).toInt = a := Int32.toInt_ofInt_of_le (by omega) (by omega)
theorem pi_nI (k : Nat) : nI k = Int32.ofInt (k : Int) := Int32.ofInt_eq_ofNat.symm
theorem pi_eq {a b : Int} (h1 : -2147483648 ≤ a) (h2 : a < 2147483648) (h3 : -2147483648 ≤ b) (h4 : b < 2147483648) : Int32.ofInt a = Int32.ofInt b ↔ a = b := by
  constructor
  · intro h
    rw [← pi_to h1 h2, ← pi_to h3 h4, h]
  · rintro rfl; rfl
theorem pi_lt {a b : Int} (h1 : -2147483648 ≤ a) (h2 : a < 2147483648) (h3 : -2147483648 ≤ b) (h4 : b < 2147483648) : Int32.ofInt a < Int32.ofInt b ↔ a < b := by
  rw [Int32.lt_iff_toInt_lt, pi_to h1 h2, pi_to h3 h4]
theorem pi_le {a b : Int} (h1 : -2147483648 ≤ a) (h2 : a < 2147483648) (h3 : -2147483648 ≤ b) (h4 : b < 2147483648) : Int32.ofInt a ≤ Int32.ofInt b ↔ a ≤ b := by
  rw [Int32.le_iff_toInt_le, pi_to h1 h2, pi_to h3 h4]
theorem pj_add {x y : Int64} (h1 : -9223372036854775808 ≤ x.toInt + y.toInt) (h2 : x.toInt + y.toInt < 9223372036854775808) : (x + y).toInt = x.toInt + y.toInt := by
  rw [Int64.toInt_add]; exact Int.bmod_eq_of_le (by omega) (by omega)
theorem pj_sub {x y : Int64} (h1 : -9223372036854775808 ≤ x.toInt - y.toInt) (h2 : x.toInt - y.toInt < 9223372036854775808) : (x - y).toInt = x.toInt - y.toInt := by
  rw [Int64.toInt_sub]; exact Int.bmod_eq_of_le (by omega) (by omega)
theorem pj_mul {x y : Int64} (h1 : -9223372036854775808 ≤ x.toInt * y.toInt) (h2 : x.toInt * y.toInt < 9223372036854775808) : (x * y).toInt = x.toInt * y.toInt := by
  rw [Int64.toInt_mul]; exact Int.bmod_eq_of_le (by omega) (by omega)
theorem pj_of {a : Int} (h1 : -2147483648 ≤ a) (h2 : a < 2147483648) : (Int32.toInt64 (Int32.ofInt a)).toInt = a := by
  rw [Int32.toInt_toInt64, pi_to h1 h2]
theorem pn_am1 (k : Nat) : nI (k + 1) + (-1 : Int32) = nI k := by
  rw [← pn_add, Int32.add_assoc, show nI 1 + (-1 : Int32) = 0 from by decide, Int32.add_zero]
theorem pn_am2 (k : Nat) : nI (k + 2) + (-2 : Int32) = nI k := by
  rw [← pn_add, Int32.add_assoc, show nI 2 + (-2 : Int32) = 0 from by decide, Int32.add_zero]
theorem pn_s1 (k : Nat) : nI (k + 1) - (1 : Int32) = nI k := pn_sub (a := k + 1) (b := 1) (by omega)
theorem pn_s2 (k : Nat) : nI (k + 2) - (2 : Int32) = nI k := pn_sub (a := k + 2) (b := 2) (by omega)
theorem pn_s3 (k : Nat) : nI (k + 3) - (3 : Int32) = nI k := pn_sub (a := k + 3) (b := 3) (by omega)
theorem pn_s21 (k : Nat) : nI (k + 2) - (1 : Int32) = nI (k + 1) := pn_sub (a := k + 2) (b := 1) (by omega)
theorem pn_s31 (k : Nat) : nI (k + 3) - (1 : Int32) = nI (k + 2) := pn_sub (a := k + 3) (b := 1) (by omega)
theorem pn_s32 (k : Nat) : nI (k + 3) - (2 : Int32) = nI (k + 1) := pn_sub (a := k + 3) (b := 2) (by omega)
theorem pn_a1 (k : Nat) : nI k + (1 : Int32) = nI (k + 1) := pn_add k 1
theorem pe_mulb {a b : Int} (ha : -1000000 ≤ a ∧ a ≤ 1000000) (hb : -1000000 ≤ b ∧ b ≤ 1000000) : -1000000000000 ≤ a * b ∧ a * b ≤ 1000000000000 := by
  have h1 : (a * b).natAbs = a.natAbs * b.natAbs := Int.natAbs_mul a b
  have h2 : a.natAbs * b.natAbs ≤ 1000000 * 1000000 := Nat.mul_le_mul (by omega) (by omega)
  omega
theorem pe_fin {v : Int64} {z : Int} (hv : v.toInt = z) : zd_1 (if (lg_cmp v (1000000 : Int64)) ≤ 0 then (if 0 ≤ (lg_cmp v (-1000000 : Int64)) then some v else some (-1000000 : Int64)) else some (1000000 : Int64)) (fun v4 => some (Int64.toInt32 v4)) = some (Int32.ofInt (pe_cap z)) := by
  have e1 : (1000000 : Int64).toInt = 1000000 := by decide
  have e2 : (-1000000 : Int64).toInt = -1000000 := by decide
  have e3 : Int64.toInt32 (1000000 : Int64) = Int32.ofInt 1000000 := by decide
  have e4 : Int64.toInt32 (-1000000 : Int64) = Int32.ofInt (-1000000) := by decide
  unfold pe_cap
  by_cases h1 : 1000000 < z
  · rw [if_neg (by rw [lg_le, hv, e1]; omega), pu_e1, if_pos h1, e3]
  · rw [if_pos (by rw [lg_le, hv, e1]; omega), if_neg h1]
    by_cases h2 : z < -1000000
    · rw [if_neg (by rw [lg_ge, hv, e2]; omega), pu_e1, if_pos h2, e4]
    · rw [if_pos (by rw [lg_ge, hv, e2]; omega), pu_e1, if_neg h2, ← hv, Int32.ofInt_int64ToInt]
theorem pe_b0 (a b : Int) : pe_btw 3000 a b = pe_cap (a + b) := by simp [pe_btw]
theorem pe_b1 (a b : Int) : pe_btw 3001 a b = pe_cap (a - b) := by simp [pe_btw]
theorem pe_b2 (a b : Int) : pe_btw 3002 a b = pe_cap (a * b) := by simp [pe_btw]
theorem pe_b3 (a b : Int) : pe_btw 3003 a b = (if a = b then 1 else 0) := by simp [pe_btw]
theorem pe_b4 (a b : Int) : pe_btw 3004 a b = (if a < b then 1 else 0) := by simp [pe_btw]
theorem pe_b5 (a b : Int) : pe_btw 3005 a b = (if b < a then 1 else 0) := by simp [pe_btw]
theorem pr_btwA {c : Nat} {a b : Int} (hc : c = 3000 ∨ c = 3001 ∨ c = 3002) (ha : -1000000 ≤ a ∧ a ≤ 1000000) (hb : -1000000 ≤ b ∧ b ≤ 1000000) : zf_X11_between (nI c) (Int32.ofInt a) (Int32.ofInt b) = some (Int32.ofInt (pe_btw c a b)) := by
  have ja := pj_of (a := a) (by omega) (by omega)
  have jb := pj_of (a := b) (by omega) (by omega)
  have hm := pe_mulb ha hb
  unfold zf_X11_between
  rcases hc with rfl | rfl | rfl
  · rw [if_neg (by decide), if_neg (by decide), if_neg (by decide), if_neg (by decide), if_neg (by decide), if_neg (by decide), if_pos (by decide), pu_e1]
    rw [pe_fin (z := a + b) (by rw [pj_add (by omega) (by omega), ja, jb]), pe_b0]
  · rw [if_neg (by decide), if_neg (by decide), if_neg (by decide), if_neg (by decide), if_neg (by decide), if_neg (by decide), if_neg (by decide), if_pos (by decide), pu_e1]
    rw [pe_fin (z := a - b) (by rw [pj_sub (by omega) (by omega), ja, jb]), pe_b1]
  · rw [if_neg (by decide), if_neg (by decide), if_neg (by decide), if_neg (by decide), if_neg (by decide), if_neg (by decide), if_neg (by decide), if_neg (by decide), pu_e1]
    rw [pe_fin (z := a * b) (by rw [pj_mul (by rw [ja, jb]; omega) (by rw [ja, jb]; omega), ja, jb]), pe_b2]
theorem pr_btwC {c : Nat} {a b : Int} (hc : c = 3003 ∨ c = 3004 ∨ c = 3005) (ha : -1000000 ≤ a ∧ a ≤ 1000000) (hb : -1000000 ≤ b ∧ b ≤ 1000000) : zf_X11_between (nI c) (Int32.ofInt a) (Int32.ofInt b) = some (Int32.ofInt (pe_btw c a b)) := by
  have ee : (Int32.ofInt a = Int32.ofInt b) ↔ a = b := pi_eq (by omega) (by omega) (by omega) (by omega)
  have e1 : (Int32.ofInt b ≤ Int32.ofInt a) ↔ b ≤ a := pi_le (by omega) (by omega) (by omega) (by omega)
  have e2 : (Int32.ofInt a ≤ Int32.ofInt b) ↔ a ≤ b := pi_le (by omega) (by omega) (by omega) (by omega)
  unfold zf_X11_between
  rcases hc with rfl | rfl | rfl
  · rw [if_pos (by decide), pe_b3]
    by_cases h : a = b
    · rw [if_pos (ee.mpr h), if_pos h]; rfl
    · rw [if_neg (fun z => h (ee.mp z)), if_neg h]; rfl
  · rw [if_neg (by decide), if_pos (by decide), pe_b4]
    by_cases h : a < b
    · rw [if_neg (fun z => by have := e1.mp z; omega), if_pos h]; rfl
    · rw [if_pos (e1.mpr (by omega)), if_neg h]; rfl
  · rw [if_neg (by decide), if_neg (by decide), if_pos (by decide), pe_b5]
    by_cases h : b < a
    · rw [if_neg (fun z => by have := e2.mp z; omega), if_pos h]; rfl
    · rw [if_pos (e2.mpr (by omega)), if_neg h]; rfl
theorem pr_btwB {c : Nat} {a b : Int} (hc : c = 3007 ∨ c = 3008) (ha : a = 0 ∨ a = 1) (hb : b = 0 ∨ b = 1) : zf_X11_between (nI c) (Int32.ofInt a) (Int32.ofInt b) = some (Int32.ofInt (pe_btw c a b)) := by
  rcases hc with rfl | rfl <;> rcases ha with rfl | rfl <;> rcases hb with rfl | rfl <;> decide
def pr_mid (v20 v15 : Int32) (a14 a17 : Nat → Int32) : Option (Int32 × (Nat → Int32)) :=
      if (3000 : Int32) ≤ v20 then
        if v20 = (3006 : Int32) then
          zd_1 (za_ld a17 900 (v15 - (1 : Int32))) (fun v21 =>
          zd_1 (za_st a17 900 (v15 - (1 : Int32)) ((1 : Int32) - v21)) (fun a22 =>
          some (v15, a22)))
        else
          if v20 = (3009 : Int32) then
            zd_1 (some (v15 + (-2 : Int32))) (fun v23 =>
            zd_1 (za_ld a17 900 (v23 - (1 : Int32))) (fun v24 =>
            zd_1 (
              if v24 = (1 : Int32) then
                zd_1 (za_ld a17 900 v23) (fun v25 =>
                some v25)
              else
                zd_1 (za_ld a17 900 (v23 + (1 : Int32))) (fun v26 =>
                some v26)) (fun v27 =>
            zd_1 (za_st a17 900 (v23 - (1 : Int32)) v27) (fun a28 =>
            some (v23, a28)))))
          else
            zd_1 (some (v15 + (-1 : Int32))) (fun v29 =>
            zd_1 (za_ld a17 900 (v29 - (1 : Int32))) (fun v30 =>
            zd_1 (za_ld a17 900 v29) (fun v31 =>
            zd_1 (zf_X11_between v20 v30 v31) (fun v32 =>
            zd_1 (za_st a17 900 (v29 - (1 : Int32)) v32) (fun a33 =>
            some (v29, a33))))))
      else
        zd_1 (
          if (1000 : Int32) ≤ v20 then
            zd_1 (za_ld a14 6 (v20 - (1000 : Int32))) (fun v34 =>
            some v34)
          else
            some v20) (fun v35 =>
        zd_1 (za_st a17 900 v15 v35) (fun a36 =>
        zd_1 (some (v15 + (1 : Int32))) (fun v37 =>
        some (v37, a36))))
theorem pr_midbin {c : Nat} {a b : Int} {r : List Int} {a14 a17 : Nat → Int32} (hc : 3000 ≤ c ∧ c < 3010) (h6 : ¬ c = 3006) (h9 : ¬ c = 3009) (hr : pe_rep a17 (b :: a :: r)) (hl : r.length < 60) (hz : zf_X11_between (nI c) (Int32.ofInt a) (Int32.ofInt b) = some (Int32.ofInt (pe_btw c a b))) : pu_ok (pr_mid (nI c) (nI (b :: a :: r).length) a14 a17) (fun q => q.1 = nI (pe_btw c a b :: r).length ∧ pe_rep q.2 (pe_btw c a b :: r)) := by
  unfold pr_mid
  rw [if_pos ((pv_le 3000 (b := c) (by omega) (by omega)).mpr hc.1), if_neg (fun z => h6 ((pv_eq 3006 (b := c) (by omega) (by omega)).mp z)), if_neg (fun z => h9 ((pv_eq 3009 (b := c) (by omega) (by omega)).mp z))]
  rw [show (b :: a :: r).length = r.length + 1 + 1 from rfl, pn_am1, pu_e1, pn_s1, pu_ld (by omega) (by omega), pu_e1, pu_ld (by omega) (by omega), pu_e1]
  have h1 : a17 (r.length + 1) = Int32.ofInt b := hr.1
  have h2 : a17 r.length = Int32.ofInt a := hr.2.1
  rw [h1, h2, hz, pu_e1, pu_st (by omega) (by omega), pu_e1]
  exact pu_some.mpr ⟨rfl, pe_rep_push rfl hr.2.2⟩
theorem pr_midok {wd : Nat → Int} {c : Nat} {ts ts' : List Bool} {st : List Int} {a14 a17 : Nat → Int32} (hw : ∀ i, i < 6 → a14 i = Int32.ofInt (wd i)) (ho : pe_ot c ts = some ts') (ht : pe_wt ts st) (hr : pe_rep a17 st) (hl : ts.length ≤ 60) : pu_ok (pr_mid (nI c) (nI st.length) a14 a17) (fun q => q.1 = nI (pe_one wd c st).length ∧ pe_rep q.2 (pe_one wd c st)) := by
  have hlen := pe_wt_len ht
  unfold pe_ot at ho
  by_cases h1 : c < 1006
  · rw [if_pos h1] at ho
    by_cases h2 : ts.length < 60
    · unfold pr_mid pe_one
      rw [if_neg (fun z => by have := (pv_le 3000 (b := c) (by omega) (by omega)).mp z; omega)]
      by_cases h3 : c < 1000
      · rw [if_neg (fun z => by have := (pv_le 1000 (b := c) (by omega) (by omega)).mp z; omega), pu_e1, pu_st (by omega) (by omega), pu_e1, pn_a1, pu_e1, if_pos h3]
        exact pu_some.mpr ⟨rfl, pe_rep_push (pi_nI c) hr⟩
      · rw [if_pos ((pv_le 1000 (b := c) (by omega) (by omega)).mpr (by omega)), pv_sub 1000 (b := c) (by omega), pu_ld (by omega) (by omega), pu_e1, pu_e1, pu_st (by omega) (by omega), pu_e1, pn_a1, pu_e1, if_neg h3, if_pos (by omega)]
        exact pu_some.mpr ⟨rfl, pe_rep_push (hw _ (by omega)) hr⟩
    · rw [if_neg h2] at ho; cases ho
  · rw [if_neg h1] at ho
    unfold pe_one
    rw [if_neg (by omega)]
    by_cases h2 : c = 3000 ∨ c = 3001 ∨ c = 3002
    · rw [if_pos h2] at ho
      rw [if_neg (by omega), if_neg (by omega), if_neg (by omega)]
      match ts, st, ho, ht, hr, hl with
      | true :: true :: r, b :: a :: q, ho, ht, hr, hl =>
        have e : r.length = q.length := pe_wt_len ht.2.2
        have hl' : r.length + 1 + 1 ≤ 60 := hl
        exact pr_midbin (by omega) (by omega) (by omega) hr (by omega) (pr_btwA h2 ht.2.1 ht.1)
      | true :: true :: r, [], _, ht, _, _ => exact ht.elim
      | true :: true :: r, [b], _, ht, _, _ => exact ht.2.elim
      | [], _, ho, _, _, _ => cases ho
      | [true], _, ho, _, _, _ => cases ho
      | false :: _, _, ho, _, _, _ => cases ho
      | true :: false :: _, _, ho, _, _, _ => cases ho
    · rw [if_neg h2] at ho
      by_cases h3 : c = 3003 ∨ c = 3004 ∨ c = 3005
      · rw [if_pos h3] at ho
        rw [if_neg (by omega), if_neg (by omega), if_neg (by omega)]
        match ts, st, ho, ht, hr, hl with
        | true :: true :: r, b :: a :: q, ho, ht, hr, hl =>
          have e : r.length = q.length := pe_wt_len ht.2.2
          have hl' : r.length + 1 + 1 ≤ 60 := hl
          exact pr_midbin (by omega) (by omega) (by omega) hr (by omega) (pr_btwC h3 ht.2.1 ht.1)
        | true :: true :: r, [], _, ht, _, _ => exact ht.elim
        | true :: true :: r, [b], _, ht, _, _ => exact ht.2.elim
        | [], _, ho, _, _, _ => cases ho
        | [true], _, ho, _, _, _ => cases ho
        | false :: _, _, ho, _, _, _ => cases ho
        | true :: false :: _, _, ho, _, _, _ => cases ho
      · rw [if_neg h3] at ho
        by_cases h4 : c = 3006
        · rw [if_pos h4] at ho
          rw [if_neg (by omega), if_pos h4]
          match ts, st, ho, ht, hr, hl with
          | false :: r, b :: q, ho, ht, hr, hl =>
            have e : r.length = q.length := pe_wt_len ht.2
            have hl' : r.length + 1 ≤ 60 := hl
            subst h4
            unfold pr_mid
            rw [if_pos (by decide), if_pos (by decide), show (b :: q).length = q.length + 1 from rfl, pn_s1, pu_ld (by omega) (by omega), pu_e1, pu_st (by omega) (by omega), pu_e1]
            refine pu_some.mpr ⟨rfl, pe_rep_push ?_ hr.2⟩
            have h7 : a17 q.length = Int32.ofInt b := hr.1
            rw [h7]
            rcases ht.1 with rfl | rfl <;> decide
          | false :: r, [], _, ht, _, _ => exact ht.elim
          | [], _, ho, _, _, _ => cases ho
          | true :: _, _, ho, _, _, _ => cases ho
        · rw [if_neg h4] at ho
          by_cases h5 : c = 3007 ∨ c = 3008
          · rw [if_pos h5] at ho
            rw [if_neg (by omega), if_neg h4, if_neg (by omega)]
            match ts, st, ho, ht, hr, hl with
            | false :: false :: r, b :: a :: q, ho, ht, hr, hl =>
              have e : r.length = q.length := pe_wt_len ht.2.2
              have hl' : r.length + 1 + 1 ≤ 60 := hl
              exact pr_midbin (by omega) (by omega) (by omega) hr (by omega) (pr_btwB h5 ht.2.1 ht.1)
            | false :: false :: r, [], _, ht, _, _ => exact ht.elim
            | false :: false :: r, [b], _, ht, _, _ => exact ht.2.elim
            | [], _, ho, _, _, _ => cases ho
            | [false], _, ho, _, _, _ => cases ho
            | true :: _, _, ho, _, _, _ => cases ho
            | false :: true :: _, _, ho, _, _, _ => cases ho
          · rw [if_neg h5] at ho
            by_cases h6 : c = 3009
            · rw [if_pos h6] at ho
              rw [if_neg (by omega), if_neg h4, if_pos h6]
              match ts, st, ho, ht, hr, hl with
              | true :: true :: false :: r, e :: t :: b :: q, ho, ht, hr, hl =>
                have ee : r.length = q.length := pe_wt_len ht.2.2.2
                have hl' : r.length + 1 + 1 + 1 ≤ 60 := hl
                subst h6
                unfold pr_mid
                rw [if_pos (by decide), if_neg (by decide), if_pos (by decide), show (e :: t :: b :: q).length = q.length + 1 + 2 from rfl, pn_am2, pu_e1, pn_s1, pu_ld (by omega) (by omega), pu_e1, pu_ld (by omega) (by omega), pn_a1, pu_ld (by omega) (by omega)]
                have k1 : a17 (q.length + 1 + 1) = Int32.ofInt e := hr.1
                have k2 : a17 (q.length + 1) = Int32.ofInt t := hr.2.1
                have k3 : a17 q.length = Int32.ofInt b := hr.2.2.1
                rw [k1, k2, k3, pu_e1, pu_e1]
                rcases ht.2.2.1 with rfl | rfl
                · rw [if_neg (by decide), pu_e1, pu_st (by omega) (by omega), pu_e1]
                  exact pu_some.mpr ⟨rfl, pe_rep_push rfl hr.2.2.2⟩
                · rw [if_pos (by decide), pu_e1, pu_st (by omega) (by omega), pu_e1]
                  exact pu_some.mpr ⟨rfl, pe_rep_push rfl hr.2.2.2⟩
              | true :: true :: false :: r, [], _, ht, _, _ => exact ht.elim
              | true :: true :: false :: r, [b], _, ht, _, _ => exact ht.2.elim
              | true :: true :: false :: r, [b, d], _, ht, _, _ => exact ht.2.2.elim
              | [], _, ho, _, _, _ => cases ho
              | [true], _, ho, _, _, _ => cases ho
              | [true, true], _, ho, _, _, _ => cases ho
              | false :: _, _, ho, _, _, _ => cases ho
              | true :: false :: _, _, ho, _, _, _ => cases ho
              | true :: true :: true :: _, _, ho, _, _, _ => cases ho
            · rw [if_neg h6] at ho; cases ho
theorem pe_otl {c : Nat} {ts ts' : List Bool} (ho : pe_ot c ts = some ts') (hl : ts.length ≤ 60) : ts'.length ≤ 60 := by
  unfold pe_ot at ho
  split at ho
  · split at ho
    · cases ho; simp; omega
    · cases ho
  · split at ho
    · split at ho
      · cases ho; simp at hl ⊢; omega
      · cases ho
    · split at ho
      · split at ho
        · cases ho; simp at hl ⊢; omega
        · cases ho
      · split at ho
        · split at ho
          · cases ho; simp at hl ⊢; omega
          · cases ho
        · split at ho
          · split at ho
            · cases ho; simp at hl ⊢; omega
            · cases ho
          · split at ho
            · split at ho
              · cases ho; simp at hl ⊢; omega
              · cases ho
            · cases ho
