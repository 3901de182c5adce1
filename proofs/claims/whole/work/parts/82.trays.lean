/-! trays, and what is told in them -/
def pp_tr (missing size sort : Nat → Int32) (trn : Nat → Nat → Int64) (rs rm : Nat → Int32) (num : Nat → Int64) : Prop := ∀ t, t < 4 → ((missing t = 1 ∧ rs t = (-1 : Int32)) ∨ (missing t = 0 ∧ ∃ so, so < 4 ∧ rs t = nI so ∧ sort t = nI so)) ∧ ∃ sz, sz ≤ 40 ∧ size t = nI sz ∧ rm t = nI sz ∧ ∀ k, k < sz → trn t k = num (40 * t + k)
theorem pp_4 {t : Nat} (h : t < 4) : t = 0 ∨ t = 1 ∨ t = 2 ∨ t = 3 := by omega
section PT2
variable {n : Nat} {missing size sort : Nat → Int32} {trn : Nat → Nat → Int64} {rs rm : Nat → Int32} {num : Nat → Int64}
theorem pc_trayRef {t : Nat} (h : t < 4) : zf_X10_trayRefused missing (nI t) = some (if missing t = 0 then (0 : Int32) else (-6 : Int32)) := by
  unfold zf_X10_trayRefused zf_X10_isTray
  rw [if_neg (pn_nn (by omega)), if_neg (fun z => by have := (pv_le 4 (b := t) (by omega) (by omega)).mp z; omega), pu_e1, if_neg (by decide)]
  rcases pp_4 h with rfl | rfl | rfl | rfl
  · rw [if_pos (by decide)]; split <;> rfl
  · rw [if_neg (by decide), if_pos (by decide)]; split <;> rfl
  · rw [if_neg (by decide), if_neg (by decide), if_pos (by decide)]; split <;> rfl
  · rw [if_neg (by decide), if_neg (by decide), if_neg (by decide), if_pos (by decide)]; split <;> rfl
theorem pp_tray (htr : pp_tr missing size sort trn rs rm num) (p : Int32) : ∃ c, zf_X10_trayRefused missing p = some c ∧ zf_X11_noTray rs p = some c ∧ (¬ c = 0 ∨ (c = 0 ∧ ∃ t, t < 4 ∧ p = nI t ∧ missing t = 0)) := by
  unfold zf_X11_noTray
  rw [pr_within, Int32.toInt_toInt64, show (0 : Int64).toInt = 0 from rfl, show (3 : Int64).toInt = 3 from rfl, pu_e1]
  by_cases d1 : 0 ≤ p.toInt
  rotate_left
  · refine ⟨(-2 : Int32), ?_, ?_, Or.inl (by decide)⟩
    · unfold zf_X10_trayRefused zf_X10_isTray
      rw [if_pos (pn_neg d1), pu_e1, if_pos rfl]
    · rw [if_neg (show ¬ (0 ≤ p.toInt ∧ p.toInt ≤ 3) by omega), if_pos rfl]
  obtain ⟨t, rfl, ht, e⟩ := pn_of d1
  rw [pn_toInt ht]
  by_cases d2 : t < 4
  rotate_left
  · refine ⟨(-2 : Int32), ?_, ?_, Or.inl (by decide)⟩
    · unfold zf_X10_trayRefused zf_X10_isTray
      rw [if_neg (pn_nn ht), if_pos ((pv_le 4 (by omega) ht).mpr (by omega)), pu_e1, if_pos rfl]
    · rw [if_neg (show ¬ (0 ≤ (t : Int) ∧ (t : Int) ≤ 3) by omega), if_pos rfl]
  rw [pc_trayRef d2, if_pos (show 0 ≤ (t : Int) ∧ (t : Int) ≤ 3 by omega), pu_ld d2 (by omega)]
  rcases (htr t d2).1 with ⟨h1, h2⟩ | ⟨h1, so, h2, h3, h4⟩
  · refine ⟨(-6 : Int32), ?_, ?_, Or.inl (by decide)⟩
    · rw [h1, if_neg (by decide)]
    · rw [if_neg (by decide), pu_e1, h2, if_pos rfl]
  · refine ⟨(0 : Int32), ?_, ?_, Or.inr ⟨rfl, t, d2, rfl, h1⟩⟩
    · rw [h1, if_pos rfl]
    · rw [if_neg (by decide), pu_e1, h3, if_neg (fun z => (pn_ne1 (by omega)).mp z)]
/-- a look at the numbers, on both sides -/
def pc_tb (sz : Int32) (a : Nat → Int64) (p3 p4 : Int32) (v2 : Int32) : Option (Nat × Int32) :=
  if sz ≤ v2 then some (2, v2) else
    zd_1 (za_ld a 40 v2) (fun v3 => if (lg_cmp v3 (Int32.toInt64 p3)) < 0 then some (1, v2) else zd_1 (za_ld a 40 v2) (fun v4 => if (lg_cmp v4 (Int32.toInt64 p4)) ≤ 0 then zd_1 (some (v2 + (1 : Int32))) (fun v5 => some (0, v5)) else some (1, v2)))
theorem pc_toldRef {t : Nat} {p2 p3 p4 : Int32} (h : t < 4) (hm : missing t = 0) : zf_X10_toldRefused n missing size trn (nI t) p2 p3 p4 = (if size t < (1 : Int32) then some (-4 : Int32) else if size t ≤ p2 then zd_2 (za_it (fun v => pc_tb (size t) (trn t) p3 p4 v) n (0 : Int32)) (fun g v => if g = 1 then some (-3 : Int32) else if g = 2 then some (0 : Int32) else none) else some (-4 : Int32)) := by
  unfold zf_X10_toldRefused
  rw [pc_trayRef h, pu_e1, if_pos hm, if_pos rfl]
  rcases pp_4 h with rfl | rfl | rfl | rfl
  · rw [if_pos (by decide)]; rfl
  · rw [if_neg (by decide), if_pos (by decide)]; rfl
  · rw [if_neg (by decide), if_neg (by decide), if_pos (by decide)]; rfl
  · rw [if_neg (by decide), if_neg (by decide), if_neg (by decide), if_pos (by decide)]; rfl
def pp_ok (a : Nat → Int64) (lo hi : Int) (sz : Nat) : Prop := ∀ k, k < sz → lo ≤ (a k).toInt ∧ (a k).toInt ≤ hi
theorem pc_tbL {a : Nat → Int64} {sz : Nat} {lo hi : Int} {p3 p4 : Int32} (hn : 100 ≤ n) (hs : sz ≤ 40) (h3 : p3.toInt = lo) (h4 : p4.toInt = hi) : pu_ok (za_it (fun v => pc_tb (nI sz) a p3 p4 v) n (0 : Int32)) (fun r => (r.1 = 1 ∧ ¬ pp_ok a lo hi sz) ∨ (r.1 = 2 ∧ pp_ok a lo hi sz)) := by
  refine pu_up (fun i v => v = nI i ∧ pp_ok a lo hi i) sz (by omega) ⟨rfl, fun k h => absurd h (by omega)⟩ ?_
  rintro i v hi0 ⟨rfl, e2⟩
  unfold pc_tb
  by_cases hc : sz ≤ i
  · have : i = sz := by omega
    subst this
    rw [if_pos ((pn_le (by omega) (by omega)).mpr hc)]
    exact pu_out (by decide) (Or.inr ⟨rfl, e2⟩)
  rw [if_neg (fun z => hc ((pn_le (by omega) (by omega)).mp z)), pu_ld (by omega) (by omega), pu_e1]
  by_cases c1 : (a i).toInt < lo
  · rw [if_pos (by rw [lg_lt, Int32.toInt_toInt64, h3]; exact c1)]
    refine pu_out (by decide) (Or.inl ⟨rfl, fun z => ?_⟩)
    have := z i (by omega); omega
  rw [if_neg (by rw [lg_lt, Int32.toInt_toInt64, h3]; exact c1), pu_e1]
  by_cases c2 : (a i).toInt ≤ hi
  · rw [if_pos (by rw [lg_le, Int32.toInt_toInt64, h4]; exact c2), pn_a1, pu_e1]
    refine pu_go ⟨by omega, rfl, ?_⟩
    intro k hk
    by_cases f : k = i
    · subst f; exact ⟨by omega, c2⟩
    · exact e2 k (by omega)
  · rw [if_neg (by rw [lg_le, Int32.toInt_toInt64, h4]; exact c2)]
    refine pu_out (by decide) (Or.inl ⟨rfl, fun z => ?_⟩)
    have := z i (by omega); omega
/-- the reference's loop, for both kinds -/
def pr_tb (rm : Nat → Int32) (p1 : Int32) (num : Nat → Int64) (lo hi : Int64) (v4 : Int32) : Option (Nat × Int32) :=
  zd_1 (za_ld rm 4 p1) (fun v5 => if v5 ≤ v4 then some (2, v4) else zd_1 (za_ld num 160 (((40 : Int32) * p1) + v4)) (fun v6 => zd_1 (zf_X11_within v6 lo hi) (fun v7 => if v7 = 0 then some (1, v4) else zd_1 (some (v4 + (1 : Int32))) (fun v8 => some (0, v8)))))
theorem pr_tbL {t sz : Nat} {lo hi : Int64} (hn : 100 ≤ n) (ht : t < 4) (hs : sz ≤ 40) (hr : rm t = nI sz) : pu_ok (za_it (fun v => pr_tb rm (nI t) num lo hi v) n (0 : Int32)) (fun r => (r.1 = 1 ∧ ¬ pp_ok (fun k => num (40 * t + k)) lo.toInt hi.toInt sz) ∨ (r.1 = 2 ∧ pp_ok (fun k => num (40 * t + k)) lo.toInt hi.toInt sz)) := by
  refine pu_up (fun i v => v = nI i ∧ pp_ok (fun k => num (40 * t + k)) lo.toInt hi.toInt i) sz (by omega) ⟨rfl, fun k h => absurd h (by omega)⟩ ?_
  rintro i v hi0 ⟨rfl, e2⟩
  unfold pr_tb
  rw [pu_ld ht (by omega), pu_e1, hr]
  by_cases hc : sz ≤ i
  · have : i = sz := by omega
    subst this
    rw [if_pos ((pn_le (by omega) (by omega)).mpr hc)]
    exact pu_out (by decide) (Or.inr ⟨rfl, e2⟩)
  rw [if_neg (fun z => hc ((pn_le (by omega) (by omega)).mp z)), pv_mul 40, pn_add, pu_ld (by omega) (by omega), pu_e1, pr_within, pu_e1]
  by_cases c1 : lo.toInt ≤ (num (40 * t + i)).toInt ∧ (num (40 * t + i)).toInt ≤ hi.toInt
  · rw [if_pos c1, if_neg (by decide), pn_a1, pu_e1]
    refine pu_go ⟨by omega, rfl, ?_⟩
    intro k hk
    by_cases f : k = i
    · subst f; exact c1
    · exact e2 k (by omega)
  · rw [if_neg c1, if_pos rfl]
    exact pu_out (by decide) (Or.inl ⟨rfl, fun z => c1 (z i (by omega))⟩)
/-- what is told: refused alike -/
def pp_T (size : Nat → Int32) (trn : Nat → Nat → Int64) (rm : Nat → Int32) (num : Nat → Int64) (places : Nat) (lo hi : Int) (p : Int32) : Prop := ∃ t sz, t < 4 ∧ p = nI t ∧ 1 ≤ sz ∧ sz ≤ places ∧ size t = nI sz ∧ rm t = nI sz ∧ ∀ k, k < sz → trn t k = num (40 * t + k) ∧ lo ≤ (trn t k).toInt ∧ (trn t k).toInt ≤ hi
theorem pp_toldG {places : Nat} {lo hi : Int64} {p3 p4 p : Int32} (hn : 100 ≤ n) (htr : pp_tr missing size sort trn rs rm num) (h3 : p3.toInt = lo.toInt) (h4 : p4.toInt = hi.toInt) (hpl : places ≤ 40) :
    ∃ c, zf_X10_toldRefused n missing size trn p (nI places) p3 p4 = some c ∧ zd_1 (zf_X11_noTray rs p) (fun v1 => if v1 = 0 then zd_1 (za_ld rm 4 p) (fun v2 => zd_1 (zf_X11_within (Int32.toInt64 v2) (1 : Int64) (Int32.toInt64 (nI places))) (fun v3 => if v3 = 0 then some (-4 : Int32) else zd_2 (za_it (fun v => pr_tb rm p num lo hi v) n (0 : Int32)) (fun g10 v9 => if g10 = 1 then some (-3 : Int32) else if g10 = 2 then some (0 : Int32) else none))) else some v1) = some c ∧ (¬ c = 0 ∨ (c = 0 ∧ pp_T size trn rm num places lo.toInt hi.toInt p)) := by
  obtain ⟨c, c1, c2, c3⟩ := pp_tray htr p
  rw [c2, pu_e1]
  rcases c3 with c3 | ⟨rfl, t, ht, rfl, hm⟩
  · refine ⟨c, ?_, ?_, Or.inl c3⟩
    · unfold zf_X10_toldRefused
      rw [c1, pu_e1, if_neg c3]
    · rw [if_neg c3]
  obtain ⟨_, sz, s1, s2, s3, s4⟩ := htr t ht
  rw [pc_toldRef ht hm, if_pos rfl, pu_ld ht (by omega), pu_e1, s3, s2, pr_within, pu_e1, Int32.toInt_toInt64, Int32.toInt_toInt64, pn_toInt (by omega), pn_toInt (by omega), show (1 : Int64).toInt = 1 from rfl]
  by_cases d1 : 1 ≤ sz
  rotate_left
  · refine ⟨(-4 : Int32), ?_, ?_, Or.inl (by decide)⟩
    · rw [if_pos ((pv_gt 1 (by omega) (by omega)).mpr (by omega))]
    · rw [if_neg (show ¬ (1 ≤ (sz : Int) ∧ (sz : Int) ≤ (places : Int)) by omega), if_pos rfl]
  rw [if_neg (show ¬ nI sz < (1 : Int32) from fun z => by have := (pv_gt 1 (by omega) (by omega)).mp z; omega)]
  by_cases d2 : sz ≤ places
  rotate_left
  · refine ⟨(-4 : Int32), ?_, ?_, Or.inl (by decide)⟩
    · rw [if_neg (fun z => d2 ((pn_le (by omega) (by omega)).mp z))]
    · rw [if_neg (show ¬ (1 ≤ (sz : Int) ∧ (sz : Int) ≤ (places : Int)) by omega), if_pos rfl]
  rw [if_pos ((pn_le (by omega) (by omega)).mpr d2), if_pos (show 1 ≤ (sz : Int) ∧ (sz : Int) ≤ (places : Int) by omega), if_neg (show ¬ (1 : Int32) = 0 by decide)]
  obtain ⟨⟨x1, x2⟩, hx, hx2⟩ := pc_tbL (n := n) (a := trn t) (sz := sz) (p3 := p3) (p4 := p4) hn s1 h3 h4
  obtain ⟨⟨y1, y2⟩, hy, hy2⟩ := pr_tbL (n := n) (rm := rm) (num := num) (t := t) (sz := sz) (lo := lo) (hi := hi) hn ht s1 s3
  have hiff : pp_ok (trn t) lo.toInt hi.toInt sz ↔ pp_ok (fun k => num (40 * t + k)) lo.toInt hi.toInt sz := by
    constructor
    · intro h k hk; have := h k hk; rw [s4 k hk] at this; exact this
    · intro h k hk; rw [s4 k hk]; exact h k hk
  rw [hx, hy, pu_e2, pu_e2]
  dsimp only at hx2 hy2
  rcases hx2 with ⟨rfl, h⟩ | ⟨rfl, h⟩
  · rcases hy2 with ⟨rfl, h'⟩ | ⟨rfl, h'⟩
    · refine ⟨(-3 : Int32), ?_, ?_, Or.inl (by decide)⟩
      · rw [if_pos rfl]
      · rw [if_pos rfl]
    · exact absurd (hiff.mpr h') h
  · rcases hy2 with ⟨rfl, h'⟩ | ⟨rfl, h'⟩
    · exact absurd (hiff.mp h) h'
    · refine ⟨(0 : Int32), ?_, ?_, Or.inr ⟨rfl, t, sz, ht, rfl, d1, d2, s2, s3, fun k hk => ⟨s4 k hk, h k hk⟩⟩⟩
      · rw [if_neg (by decide), if_pos rfl]
      · rw [if_neg (by decide), if_pos rfl]
theorem pp_seenR {p : Int32} (hn : 100 ≤ n) (htr : pp_tr missing size sort trn rs rm num) : ∃ c, zf_X10_toldRefused n missing size trn p (6 : Int32) (-1 : Int32) (6 : Int32) = some c ∧ zf_X11_noSeen n rs rm num p = some c ∧ (¬ c = 0 ∨ (c = 0 ∧ pp_T size trn rm num 6 (-1) 6 p)) :=
  pp_toldG (places := 6) (lo := (-1 : Int64)) (hi := (6 : Int64)) (p3 := (-1 : Int32)) (p4 := (6 : Int32)) hn htr (by decide) (by decide) (by decide)
theorem pp_tiredR {p : Int32} (hn : 100 ≤ n) (htr : pp_tr missing size sort trn rs rm num) : ∃ c, zf_X10_toldRefused n missing size trn p (8 : Int32) (0 : Int32) (4 : Int32) = some c ∧ zf_X11_noTired n rs rm num p = some c ∧ (¬ c = 0 ∨ (c = 0 ∧ pp_T size trn rm num 8 0 4 p)) :=
  pp_toldG (places := 8) (lo := (0 : Int64)) (hi := (4 : Int64)) (p3 := (0 : Int32)) (p4 := (4 : Int32)) hn htr (by decide) (by decide) (by decide)
end PT2
