/-! stands as numbers -/
def pm_rg (s : Nat) : Nat := s / 320
def pm_hs (s : Nat) : Nat := s / 5 % 64
def pm_sg (s : Nat) : Nat := s % 5
def pm_sd (r h g : Nat) : Nat := 320 * r + 5 * h + g
theorem pm_rg_sd {r h g : Nat} (hh : h < 64) (hg : g < 5) : pm_rg (pm_sd r h g) = r := by unfold pm_rg pm_sd; omega
theorem pm_hs_sd {r h g : Nat} (hh : h < 64) (hg : g < 5) : pm_hs (pm_sd r h g) = h := by unfold pm_hs pm_sd; omega
theorem pm_sg_sd {r h g : Nat} (hg : g < 5) : pm_sg (pm_sd r h g) = g := by unfold pm_sg pm_sd; omega
theorem pm_sd_eq (s : Nat) : pm_sd (pm_rg s) (pm_hs s) (pm_sg s) = s := by unfold pm_sd pm_rg pm_hs pm_sg; omega
theorem pm_hs_lt (s : Nat) : pm_hs s < 64 := by unfold pm_hs; omega
theorem pm_sg_lt (s : Nat) : pm_sg s < 5 := by unfold pm_sg; omega
/-! values of the laws -/
def pe_cap (v : Int) : Int := if 1000000 < v then 1000000 else if v < -1000000 then -1000000 else v
def pe_btw (c : Nat) (a b : Int) : Int :=
  if c = 3003 then (if a = b then 1 else 0)
  else if c = 3004 then (if a < b then 1 else 0)
  else if c = 3005 then (if b < a then 1 else 0)
  else if c = 3007 then (if a = 1 ∧ b = 1 then 1 else 0)
  else if c = 3008 then (if a = 1 ∨ b = 1 then 1 else 0)
  else pe_cap (if c = 3000 then a + b else if c = 3001 then a - b else a * b)
def pe_one (wd : Nat → Int) (c : Nat) (st : List Int) : List Int :=
  if c < 1000 then (c : Int) :: st
  else if c < 3000 then wd (c - 1000) :: st
  else if c = 3006 then (match st with | a :: r => (1 - a) :: r | [] => [])
  else if c = 3009 then (match st with | e :: t :: b :: r => (if b = 1 then t else e) :: r | _ => [])
  else (match st with | b :: a :: r => pe_btw c a b :: r | _ => [])
def pe_ot (c : Nat) (ts : List Bool) : Option (List Bool) :=
  if c < 1006 then (if ts.length < 60 then some (true :: ts) else none)
  else if c = 3000 ∨ c = 3001 ∨ c = 3002 then (match ts with | true :: true :: r => some (true :: r) | _ => none)
  else if c = 3003 ∨ c = 3004 ∨ c = 3005 then (match ts with | true :: true :: r => some (false :: r) | _ => none)
  else if c = 3006 then (match ts with | false :: r => some (false :: r) | _ => none)
  else if c = 3007 ∨ c = 3008 then (match ts with | false :: false :: r => some (false :: r) | _ => none)
  else if c = 3009 then (match ts with | true :: true :: false :: r => some (true :: r) | _ => none)
  else none
def pe_tc (cd : Nat → Nat) : Nat → Nat → List Bool → Option (List Bool)
  | _, 0, ts => some ts
  | f, k + 1, ts => (pe_ot (cd f) ts).bind (pe_tc cd (f + 1) k)
def pe_ev (wd : Nat → Int) (cd : Nat → Nat) : Nat → Nat → List Int → List Int
  | _, 0, st => st
  | f, k + 1, st => pe_ev wd cd (f + 1) k (pe_one wd (cd f) st)
def pe_rep (a : Nat → Int32) : List Int → Prop
  | [] => True
  | x :: r => a r.length = Int32.ofInt x ∧ pe_rep a r
def pe_wt : List Bool → List Int → Prop
  | [], [] => True
  | true :: ts, x :: xs => (-1000000 ≤ x ∧ x ≤ 1000000) ∧ pe_wt ts xs
  | false :: ts, x :: xs => (x = 0 ∨ x = 1) ∧ pe_wt ts xs
  | _, _ => False
theorem pe_wt_len : ∀ {ts : List Bool} {st : List Int}, pe_wt ts st → ts.length = st.length := by
  intro ts
  induction ts with
  | nil => intro st h; cases st with
    | nil => rfl
    | cons x xs => exact h.elim
  | cons t ts ih => intro st h; cases st with
    | nil => cases t <;> exact h.elim
    | cons x xs =>
      have h2 : pe_wt ts xs := by cases t <;> exact h.2
      show ts.length + 1 = xs.length + 1
      rw [ih h2]
theorem pe_rep_up {a : Nat → Int32} {k : Nat} {v : Int32} : ∀ {st : List Int}, st.length ≤ k → pe_rep a st → pe_rep (va_up a k v) st := by
  intro st
  induction st with
  | nil => intro _ _; trivial
  | cons x r ih =>
    intro h1 h2
    have h1' : r.length + 1 ≤ k := h1
    refine ⟨?_, ih (by omega) h2.2⟩
    rw [pu_upn (by omega)]
    exact h2.1
theorem pe_rep_push {a : Nat → Int32} {v : Int32} {x : Int} {st : List Int} (hv : v = Int32.ofInt x) (h : pe_rep a st) : pe_rep (va_up a st.length v) (x :: st) :=
  ⟨by rw [pu_upe, hv], pe_rep_up (Nat.le_refl _) h⟩
theorem pe_capr (v : Int) : -1000000 ≤ pe_cap v ∧ pe_cap v ≤ 1000000 := by
  unfold pe_cap
  by_cases h1 : 1000000 < v
  · rw [if_pos h1]; omega
  · rw [if_neg h1]
    by_cases h2 : v < -1000000
    · rw [if_pos h2]; omega
    · rw [if_neg h2]; omega
theorem pe_step {wd : Nat → Int} {c : Nat} {ts ts' : List Bool} {st : List Int} (hw : ∀ i, -1000000 ≤ wd i ∧ wd i ≤ 1000000) (ho : pe_ot c ts = some ts') (ht : pe_wt ts st) : pe_wt ts' (pe_one wd c st) := by
  unfold pe_ot at ho
  by_cases h1 : c < 1006
  · rw [if_pos h1] at ho
    by_cases h2 : ts.length < 60
    · rw [if_pos h2] at ho
      cases ho
      unfold pe_one
      by_cases h3 : c < 1000
      · rw [if_pos h3]; exact ⟨by omega, ht⟩
      · rw [if_neg h3, if_pos (by omega)]; exact ⟨hw _, ht⟩
    · rw [if_neg h2] at ho; cases ho
  · rw [if_neg h1] at ho
    unfold pe_one
    rw [if_neg (by omega)]
    by_cases h2 : c = 3000 ∨ c = 3001 ∨ c = 3002
    · rw [if_pos h2] at ho
      rw [if_neg (by omega), if_neg (by omega), if_neg (by omega)]
      match ts, st, ho, ht with
      | true :: true :: r, b :: a :: q, ho, ht =>
        cases ho
        refine ⟨?_, ht.2.2⟩
        unfold pe_btw
        rw [if_neg (by omega), if_neg (by omega), if_neg (by omega), if_neg (by omega), if_neg (by omega)]
        exact pe_capr _
      | true :: true :: r, [], _, ht => exact ht.elim
      | true :: true :: r, [b], _, ht => exact ht.2.elim
      | [], _, ho, _ => cases ho
      | [true], _, ho, _ => cases ho
      | false :: _, _, ho, _ => cases ho
      | true :: false :: _, _, ho, _ => cases ho
    · rw [if_neg h2] at ho
      by_cases h3 : c = 3003 ∨ c = 3004 ∨ c = 3005
      · rw [if_pos h3] at ho
        rw [if_neg (by omega), if_neg (by omega), if_neg (by omega)]
        match ts, st, ho, ht with
        | true :: true :: r, b :: a :: q, ho, ht =>
          cases ho
          refine ⟨?_, ht.2.2⟩
          unfold pe_btw
          by_cases e1 : c = 3003
          · rw [if_pos e1]; split <;> simp
          · rw [if_neg e1]
            by_cases e2 : c = 3004
            · rw [if_pos e2]; split <;> simp
            · rw [if_neg e2, if_pos (by omega)]; split <;> simp
        | true :: true :: r, [], _, ht => exact ht.elim
        | true :: true :: r, [b], _, ht => exact ht.2.elim
        | [], _, ho, _ => cases ho
        | [true], _, ho, _ => cases ho
        | false :: _, _, ho, _ => cases ho
        | true :: false :: _, _, ho, _ => cases ho
      · rw [if_neg h3] at ho
        by_cases h4 : c = 3006
        · rw [if_pos h4] at ho
          rw [if_neg (by omega), if_pos h4]
          match ts, st, ho, ht with
          | false :: r, b :: q, ho, ht =>
            cases ho
            refine ⟨?_, ht.2⟩
            have := ht.1
            omega
          | false :: r, [], _, ht => exact ht.elim
          | [], _, ho, _ => cases ho
          | true :: _, _, ho, _ => cases ho
        · rw [if_neg h4] at ho
          by_cases h5 : c = 3007 ∨ c = 3008
          · rw [if_pos h5] at ho
            rw [if_neg (by omega), if_neg h4, if_neg (by omega)]
            match ts, st, ho, ht with
            | false :: false :: r, b :: a :: q, ho, ht =>
              cases ho
              refine ⟨?_, ht.2.2⟩
              unfold pe_btw
              rw [if_neg (by omega), if_neg (by omega), if_neg (by omega)]
              by_cases e1 : c = 3007
              · rw [if_pos e1]; split <;> simp
              · rw [if_neg e1, if_pos (by omega)]; split <;> simp
            | false :: false :: r, [], _, ht => exact ht.elim
            | false :: false :: r, [b], _, ht => exact ht.2.elim
            | [], _, ho, _ => cases ho
            | [false], _, ho, _ => cases ho
            | true :: _, _, ho, _ => cases ho
            | false :: true :: _, _, ho, _ => cases ho
          · rw [if_neg h5] at ho
            by_cases h6 : c = 3009
            · rw [if_pos h6] at ho
              rw [if_neg (by omega), if_neg h4, if_pos h6]
              match ts, st, ho, ht with
              | true :: true :: false :: r, e :: t :: b :: q, ho, ht =>
                cases ho
                refine ⟨?_, ht.2.2.2⟩
                have h7 := ht.1
                have h8 := ht.2.1
                by_cases e1 : b = 1
                · rw [if_pos e1]; exact h8
                · rw [if_neg e1]; exact h7
              | true :: true :: false :: r, [], _, ht => exact ht.elim
              | true :: true :: false :: r, [b], _, ht => exact ht.2.elim
              | true :: true :: false :: r, [b, d], _, ht => exact ht.2.2.elim
              | [], _, ho, _ => cases ho
              | [true], _, ho, _ => cases ho
              | [true, true], _, ho, _ => cases ho
              | false :: _, _, ho, _ => cases ho
              | true :: false :: _, _, ho, _ => cases ho
              | true :: true :: true :: _, _, ho, _ => cases ho
            · rw [if_neg h6] at ho; cases ho
