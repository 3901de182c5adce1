/-! trays: numbers, write -/
theorem pb_cut : ∀ so, so < 4 → ∀ d, d < 30 → zf_X11_cut (Int32.toInt64 (nI d)) (nI so) = some (Int32.toInt64 (nI d)) := by decide +kernel
theorem pc_fillL {n N : Nat} {a : Nat → Int64} {x : Int64} (hN : N < n) (hN2 : N < 2147483648) : pu_ok (zf_J7_fill_d0a16 n N a x) (fun b => ∀ k, k < N → b k = x) := by
  unfold zf_J7_fill_d0a16
  rw [show (Int32.ofNat N) = nI N from rfl, pu_e1]
  refine pu_d3.mpr (pu_up (fun i v => v.1 = nI i ∧ ∀ k, k < i → v.2 k = x) N hN ⟨rfl, fun k h => absurd h (by omega)⟩ ?_)
  rintro i ⟨v, b⟩ hi ⟨e1, e2⟩
  dsimp only at e1 e2 ⊢
  subst e1
  unfold zb_J7_fill_d0a16_6
  by_cases hc : N ≤ i
  · have : i = N := by omega
    subst this
    rw [if_pos ((pn_le hN2 hN2).mpr hc)]
    exact pu_out (by decide) (pu_some.mpr e2)
  · rw [if_neg (fun z => hc ((pn_le hN2 (by omega)).mp z)), pu_st (by omega) (by omega), pu_e1, pn_a1, pu_e1]
    refine pu_go ⟨by omega, rfl, ?_⟩
    intro k hk
    dsimp only
    by_cases f : k = i
    · subst f; rw [pu_upe]
    · rw [pu_upn f]; exact e2 k (by omega)
theorem pc_put {a : Nat → Int64} {so k : Nat} {x : Int64} (hso : so < 4) (hk : k < 40) : ∃ y, zf_X11_cut x (nI so) = some y ∧ zf_X9_put (nI so) a (nI k) x = some (y, va_up a k y) := by
  unfold zf_X11_cut zf_X9_put
  rcases pp_4 hso with rfl | rfl | rfl | rfl
  · refine ⟨_, by rw [if_pos (by decide)], ?_⟩
    rw [if_pos (by decide), pu_st hk (by omega), pu_e1, pu_e1, pu_ld hk (by omega), pu_e1, pu_upe]
  · refine ⟨_, by rw [if_neg (by decide), if_pos (by decide)], ?_⟩
    rw [if_neg (by decide), if_pos (by decide), pu_st hk (by omega), pu_e1, pu_e1, pu_ld hk (by omega), pu_e1, pu_upe]
  · refine ⟨_, by rw [if_neg (by decide), if_neg (by decide), if_pos (by decide)], ?_⟩
    rw [if_neg (by decide), if_neg (by decide), if_pos (by decide), pu_st hk (by omega), pu_e1, pu_e1, pu_ld hk (by omega), pu_e1, pu_upe]
  · refine ⟨_, by rw [if_neg (by decide), if_neg (by decide), if_neg (by decide)], ?_⟩
    rw [if_neg (by decide), if_neg (by decide), if_neg (by decide), pu_st hk (by omega), pu_e1, pu_e1, pu_ld hk (by omega), pu_e1, pu_upe]
section PTr
variable {n : Nat} {missing size sort : Nat → Int32} {trn : Nat → Nat → Int64} {rs rm : Nat → Int32} {num : Nat → Int64}
theorem pp_tr_put {t : Nat} {a num' : Nat → Int64} (htr : pp_tr missing size sort trn rs rm num) (hn : ∀ j, (j < 40 * t ∨ 40 * t + 40 ≤ j) → num' j = num j) (ha : ∀ sz, sz ≤ 40 → rm t = nI sz → ∀ k, k < sz → a k = num' (40 * t + k)) : pp_tr missing size sort (va_up trn t a) rs rm num' := by
  intro u hu
  obtain ⟨h1, sz, h2, h3, h4, h5⟩ := htr u hu
  refine ⟨h1, sz, h2, h3, h4, ?_⟩
  intro k hk
  by_cases c : u = t
  · subst c; rw [pu_upe]; exact ha sz h2 h4 k hk
  · rw [pu_upn c, h5 k hk, hn _ (by omega)]
theorem pp_numbers {thrown p1 p2 p3 : Int32} (hn : 1000 ≤ n) (htr : pp_tr missing size sort trn rs rm num) :
    ∃ v, pu_ok (zf_X10_numbers n missing size sort trn p1 p2 p3) (fun r => r.1 = v ∧ pu_ok (zf_X11_numbers n thrown rs rm num p1 p2 p3) (fun y => y.1 = v ∧ pp_tr r.2.1 r.2.2.1 r.2.2.2.1 r.2.2.2.2 y.2.2.1 y.2.2.2.1 y.2.2.2.2)) := by
  have hwi : ∀ (p : Int32) (hi : Int64), zf_X11_within (Int32.toInt64 p) (0 : Int64) hi = some (if 0 ≤ p.toInt ∧ p.toInt ≤ hi.toInt then 1 else 0) := by
    intro p hi
    rw [pr_within, Int32.toInt_toInt64, show (0 : Int64).toInt = 0 from rfl]
  unfold zf_X11_numbers zf_X10_numbers zf_X10_isTray
  rw [hwi, hwi, hwi, show (3 : Int64).toInt = 3 from rfl, show (40 : Int64).toInt = 40 from rfl, pu_e1, pu_e1, pu_e1]
  by_cases d1 : 0 ≤ p1.toInt ∧ p1.toInt ≤ 3
  rotate_left
  · refine ⟨(-2 : Int32), ?_⟩
    have : (if p1 < 0 then some (0 : Int32) else if (4 : Int32) ≤ p1 then some (0 : Int32) else some (1 : Int32)) = some 0 := by
      by_cases e : p1 < 0
      · rw [if_pos e]
      · rw [if_neg e, if_pos]
        rw [Int32.lt_iff_toInt_lt] at e
        rw [Int32.le_iff_toInt_le]
        have e' : ¬ p1.toInt < 0 := e
        show (4 : Int) ≤ p1.toInt
        omega
    rw [this, pu_e1, if_pos rfl]
    refine pu_some.mpr ⟨rfl, ?_⟩
    rw [if_neg d1, if_pos rfl]
    exact pu_some.mpr ⟨rfl, htr⟩
  obtain ⟨t, rfl, ht1, et⟩ := pn_of d1.1
  have ht : t < 4 := by omega
  rw [if_neg (pn_nn ht1), if_neg (fun z => by have := (pv_le 4 (b := t) (by omega) (by omega)).mp z; omega), pu_e1, if_neg (show ¬ (1 : Int32) = 0 by decide), if_pos d1, if_neg (show ¬ (1 : Int32) = 0 by decide)]
  by_cases d2 : 0 ≤ p2.toInt ∧ p2.toInt ≤ 3
  rotate_left
  · refine ⟨(-2 : Int32), ?_⟩
    rw [if_neg d2, if_pos (show (0 : Int32) = 0 from rfl)]
    by_cases e : p2 < 0
    · rw [if_pos e]
      exact pu_some.mpr ⟨rfl, pu_some.mpr ⟨rfl, htr⟩⟩
    · rw [if_neg e, if_neg (fun z => by
        rw [Int32.lt_iff_toInt_lt] at e
        rw [Int32.le_iff_toInt_le] at z
        have e' : ¬ p2.toInt < 0 := e
        have z' : p2.toInt ≤ 3 := z
        omega)]
      exact pu_some.mpr ⟨rfl, pu_some.mpr ⟨rfl, htr⟩⟩
  obtain ⟨so, rfl, hso1, eso⟩ := pn_of d2.1
  have hso : so < 4 := by omega
  rw [if_neg (pn_nn hso1), if_pos ((pv_ge 3 (by omega) hso1).mpr (by omega)), if_pos d2, if_neg (show ¬ (1 : Int32) = 0 by decide)]
  by_cases d3 : 0 ≤ p3.toInt ∧ p3.toInt ≤ 40
  rotate_left
  · refine ⟨(-3 : Int32), ?_⟩
    rw [if_neg d3, if_pos (show (0 : Int32) = 0 from rfl)]
    by_cases e : p3 < 0
    · rw [if_pos e]
      exact pu_some.mpr ⟨rfl, pu_some.mpr ⟨rfl, htr⟩⟩
    · rw [if_neg e, if_neg (fun z => by
        rw [Int32.lt_iff_toInt_lt] at e
        rw [Int32.le_iff_toInt_le] at z
        have e' : ¬ p3.toInt < 0 := e
        have z' : p3.toInt ≤ 40 := z
        omega)]
      exact pu_some.mpr ⟨rfl, pu_some.mpr ⟨rfl, htr⟩⟩
  obtain ⟨sz, rfl, hsz1, esz⟩ := pn_of d3.1
  have hsz : sz ≤ 40 := by omega
  rw [if_neg (pn_nn hsz1), if_pos ((pv_ge 40 (by omega) hsz1).mpr hsz), if_pos d3, if_neg (show ¬ (1 : Int32) = 0 by decide)]
  refine ⟨(0 : Int32), ?_⟩
  obtain ⟨b, b1, b2⟩ := pc_fillL (n := n) (N := 40) (a := trn t) (x := (0 : Int64)) (by omega) (by omega)
  have key : ∀ P : Int32 × (Nat → Int32) × (Nat → Int32) × (Nat → Int32) × (Nat → Nat → Int64) → Prop, P ((0 : Int32), va_up missing t 0, va_up size t (nI sz), va_up sort t (nI so), va_up trn t b) → pu_ok (if nI t = (0 : Int32) then zd_4 (zf_X9_make n (missing 0) (size 0) (sort 0) (trn 0) (nI so) (nI sz)) (fun v2 v3 v4 a5 => some ((0 : Int32), (va_up missing 0 v2), (va_up size 0 v3), (va_up sort 0 v4), (va_up trn 0 a5)))
      else if nI t = (1 : Int32) then zd_4 (zf_X9_make n (missing 1) (size 1) (sort 1) (trn 1) (nI so) (nI sz)) (fun v2 v3 v4 a5 => some ((0 : Int32), (va_up missing 1 v2), (va_up size 1 v3), (va_up sort 1 v4), (va_up trn 1 a5)))
      else if nI t = (2 : Int32) then zd_4 (zf_X9_make n (missing 2) (size 2) (sort 2) (trn 2) (nI so) (nI sz)) (fun v2 v3 v4 a5 => some ((0 : Int32), (va_up missing 2 v2), (va_up size 2 v3), (va_up sort 2 v4), (va_up trn 2 a5)))
      else if nI t = (3 : Int32) then zd_4 (zf_X9_make n (missing 3) (size 3) (sort 3) (trn 3) (nI so) (nI sz)) (fun v2 v3 v4 a5 => some ((0 : Int32), (va_up missing 3 v2), (va_up size 3 v3), (va_up sort 3 v4), (va_up trn 3 a5)))
      else none) P := by
    intro P h
    unfold zf_X9_make
    rcases pp_4 ht with rfl | rfl | rfl | rfl
    · rw [if_pos (by decide), b1]; exact pu_some.mpr h
    · rw [if_neg (by decide), if_pos (by decide), b1]; exact pu_some.mpr h
    · rw [if_neg (by decide), if_neg (by decide), if_pos (by decide), b1]; exact pu_some.mpr h
    · rw [if_neg (by decide), if_neg (by decide), if_neg (by decide), if_pos (by decide), b1]; exact pu_some.mpr h
  apply key
  refine ⟨rfl, ?_⟩
  rw [pu_st ht (by omega), pu_e1, pu_st ht (by omega), pu_e1]
  refine pu_d3.mpr (pu_up (fun i v => v.1 = nI i ∧ (∀ k, k < i → v.2 (40 * t + k) = 0) ∧ ∀ j, (j < 40 * t ∨ 40 * t + 40 ≤ j) → v.2 j = num j) sz (by omega) ⟨rfl, fun k h => absurd h (by omega), fun _ _ => rfl⟩ ?_)
  rintro i ⟨v, a⟩ hi ⟨e1, e2, e3⟩
  dsimp only at e1 e2 e3 ⊢
  subst e1
  unfold zb_X11_numbers_64
  by_cases hc : sz ≤ i
  · have : i = sz := by omega
    subst this
    rw [if_pos ((pn_le hsz1 hsz1).mpr hc)]
    refine pu_out (by decide) (pu_some.mpr ⟨rfl, ?_⟩)
    intro u hu
    dsimp only
    by_cases c : u = t
    · subst c
      refine ⟨Or.inr ⟨by rw [pu_upe], so, hso, by rw [pu_upe], by rw [pu_upe]⟩, i, hsz, by rw [pu_upe], by rw [pu_upe], ?_⟩
      intro k hk
      rw [pu_upe, b2 k (by omega), e2 k hk]
    · obtain ⟨h1, z, h2, h3, h4, h5⟩ := htr u hu
      rw [pu_upn c, pu_upn c, pu_upn c, pu_upn c, pu_upn c, pu_upn c]
      refine ⟨h1, z, h2, h3, h4, ?_⟩
      intro k hk
      rw [h5 k hk, e3 _ (by omega)]
  · rw [if_neg (fun z => hc ((pn_le hsz1 (by omega)).mp z)), pv_mul 40, pn_add, pu_st (by omega) (by omega), pu_e1, pn_a1, pu_e1]
    refine pu_go ⟨by omega, rfl, ?_, ?_⟩
    · intro k hk
      dsimp only
      by_cases f : k = i
      · subst f; rw [pu_upe]
      · rw [pu_upn (by omega)]; exact e2 k (by omega)
    · intro j hj
      dsimp only
      rw [pu_upn (by omega)]
      exact e3 j hj
theorem pp_write {thrown p1 p2 : Int32} {p3 : Int64} (htr : pp_tr missing size sort trn rs rm num) :
    ∃ v, pu_ok (zf_X10_write missing size sort trn p1 p2 p3) (fun r => r.1 = v ∧ pu_ok (zf_X11_write thrown rs rm num p1 p2 p3) (fun y => y.1 = v ∧ pp_tr missing size sort r.2 rs rm y.2.2)) := by
  obtain ⟨c, c1, c2, c3⟩ := pp_tray htr p1
  unfold zf_X10_write zf_X11_write
  rw [c1, c2, pu_e1, pu_e1]
  rcases c3 with c3 | ⟨rfl, t, ht, rfl, hmi⟩
  · rw [if_neg c3, if_neg c3]
    exact ⟨_, pu_some.mpr ⟨rfl, pu_some.mpr ⟨rfl, htr⟩⟩⟩
  obtain ⟨hh, sz, s1, s2, s3, s4⟩ := htr t ht
  rw [if_pos rfl, if_pos rfl, pu_ld ht (by omega), pu_e1, s3, pr_within, pu_e1, Int32.toInt_toInt64, Int32.toInt_toInt64, show (0 : Int64).toInt = 0 from rfl]
  have hm1 : (nI sz - (1 : Int32)).toInt = (sz : Int) - 1 := by
    by_cases z : sz = 0
    · subst z; decide
    · rw [pv_sub 1 (by omega), pn_toInt (by omega)]; omega
  rw [hm1]
  have hgo : ∀ (P : Int64 × (Nat → Nat → Int64) → Prop), pu_ok (if p2 < nI sz then zd_2 (zf_X9_put (sort t) (trn t) p2 p3) (fun v2 a3 => some (v2, (va_up trn t a3))) else some ((-7 : Int64), trn)) P → pu_ok (if nI t = (0 : Int32) then if p2 < (size 0) then zd_2 (zf_X9_put (sort 0) (trn 0) p2 p3) (fun v2 a3 => some (v2, (va_up trn 0 a3))) else some ((-7 : Int64), trn)
      else if nI t = (1 : Int32) then if p2 < (size 1) then zd_2 (zf_X9_put (sort 1) (trn 1) p2 p3) (fun v2 a3 => some (v2, (va_up trn 1 a3))) else some ((-7 : Int64), trn)
      else if nI t = (2 : Int32) then if p2 < (size 2) then zd_2 (zf_X9_put (sort 2) (trn 2) p2 p3) (fun v2 a3 => some (v2, (va_up trn 2 a3))) else some ((-7 : Int64), trn)
      else if nI t = (3 : Int32) then if p2 < (size 3) then zd_2 (zf_X9_put (sort 3) (trn 3) p2 p3) (fun v2 a3 => some (v2, (va_up trn 3 a3))) else some ((-7 : Int64), trn)
      else none) P := by
    intro P h
    rw [← s2] at h
    rcases pp_4 ht with rfl | rfl | rfl | rfl
    · rw [if_pos (by decide)]; exact h
    · rw [if_neg (by decide), if_pos (by decide)]; exact h
    · rw [if_neg (by decide), if_neg (by decide), if_pos (by decide)]; exact h
    · rw [if_neg (by decide), if_neg (by decide), if_neg (by decide), if_pos (by decide)]; exact h
  by_cases d : 0 ≤ p2.toInt ∧ p2.toInt ≤ (sz : Int) - 1
  rotate_left
  · refine ⟨(-7 : Int64), ?_⟩
    rw [if_neg d, if_pos (show (0 : Int32) = 0 from rfl)]
    by_cases e : p2 < 0
    · rw [if_pos e]
      exact pu_some.mpr ⟨rfl, pu_some.mpr ⟨rfl, htr⟩⟩
    · rw [if_neg e]
      apply hgo
      rw [if_neg (fun z => by
        rw [Int32.lt_iff_toInt_lt] at e z
        rw [pn_toInt (by omega)] at z
        have e' : ¬ p2.toInt < 0 := e
        omega)]
      exact pu_some.mpr ⟨rfl, pu_some.mpr ⟨rfl, htr⟩⟩
  obtain ⟨k, rfl, hk1, ek⟩ := pn_of d.1
  have hk : k < sz := by omega
  rcases hh with ⟨h1, _⟩ | ⟨_, so, hso, r1, r2⟩
  · rw [hmi] at h1; exact absurd h1 (by decide)
  obtain ⟨y, y1, y2⟩ := pc_put (a := trn t) (so := so) (k := k) (x := p3) hso (by omega)
  refine ⟨y, ?_⟩
  rw [if_neg (pn_nn hk1)]
  apply hgo
  rw [if_pos ((pn_lt hk1 (by omega)).mpr hk), r2, y2, pu_e2]
  refine pu_some.mpr ⟨rfl, ?_⟩
  rw [if_pos d, if_neg (show ¬ (1 : Int32) = 0 by decide), pu_ld ht (by omega), pu_e1, r1, y1, pu_e1, pv_mul 40, pn_add, pu_st (by omega) (by omega), pu_e1, pu_ld (by omega) (by omega), pu_e1]
  refine pu_some.mpr ⟨?_, ?_⟩
  · dsimp only
    rw [pu_upe]
  · dsimp only
    refine pp_tr_put htr (fun j hj => pu_upn (by omega)) ?_
    intro sz' hs1 hs2 j hj
    have : sz' = sz := by rw [s3] at hs2; exact ((pn_eq (by omega) (by omega)).mp hs2).symm
    subst this
    by_cases f : j = k
    · subst f; rw [pu_upe, pu_upe]
    · rw [pu_upn f, pu_upn (by omega)]; exact s4 j hj
end PTr
