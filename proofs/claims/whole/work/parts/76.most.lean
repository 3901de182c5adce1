/-! stands, highest, most, loses -/
def pm_hi (F : List Nat) (t : Nat) : Nat → Int32
  | 0 => (-1 : Int32)
  | i + 1 => if pm_hs (F.getD i 0) &&& t = t then (if pm_hi F t i < nI (pm_rg (F.getD i 0)) then nI (pm_rg (F.getD i 0)) else pm_hi F t i) else pm_hi F t i
section PL
variable {n : Nat} {F : List Nat} {order : Nat → Int32}
theorem pc_hiL {t : Nat} (hn : 10000 ≤ n) (hl : F.length ≤ 2880) (hlt : ∀ i, i < F.length → F.getD i 0 < 2880) (hO : ∀ i, i < F.length → order i = nI (F.getD i 0)) (ht : t < 64) : zf_X1_topRungWith n (nI F.length) order (nI t) = some (pm_hi F t F.length) := by
  apply pu_ex
  unfold zf_X1_topRungWith
  refine pu_d3.mpr (pu_up (fun i v => v.1 = pm_hi F t i ∧ v.2 = nI i) F.length (by omega) ⟨rfl, rfl⟩ ?_)
  rintro i ⟨v1, v2⟩ hi ⟨e1, e2⟩
  dsimp only at e1 e2 ⊢
  subst e1 e2
  unfold zb_X1_topRungWith_4
  by_cases hc : F.length ≤ i
  · have : i = F.length := by omega
    subst this
    rw [if_pos ((pn_le (by omega) (by omega)).mpr hc)]
    exact pu_out (by decide) (pu_some.mpr rfl)
  · have hlt := hlt i (by omega)
    have e : pm_hi F t (i + 1) = if pm_hs (F.getD i 0) &&& t = t then (if pm_hi F t i < nI (pm_rg (F.getD i 0)) then nI (pm_rg (F.getD i 0)) else pm_hi F t i) else pm_hi F t i := rfl
    rw [if_neg (fun z => hc ((pn_le (by omega) (by omega)).mp z)), pu_ld (by omega) (by omega), pu_e1, hO i (by omega), pc_thingsOf hlt, pu_e1, pu_e1, pc_rungOf hlt, pu_e1, pu_e1]
    by_cases d : pm_hs (F.getD i 0) &&& t = t
    · rw [if_pos ((pb_sub _ (by omega) _ (pm_hs_lt _)).mpr d), pu_e1, pn_a1, pu_e1]
      refine pu_go ⟨by omega, ?_, rfl⟩
      dsimp only
      rw [e, if_pos d]
    · rw [if_neg (fun z => d ((pb_sub _ (by omega) _ (pm_hs_lt _)).mp z)), pu_e1, pn_a1, pu_e1]
      refine pu_go ⟨by omega, ?_, rfl⟩
      dsimp only
      rw [e, if_neg d]
theorem pr_hiL {t : Nat} (hn : 10000 ≤ n) (hl : F.length ≤ 2880) (hlt : ∀ i, i < F.length → F.getD i 0 < 2880) (hS : ∀ i, i < F.length → order i = nI (F.getD i 0)) (ht : t < 64) : pu_ok (za_it (fun v => zb_X11_highest_25 (nI F.length) order (nI t) v.1 v.2) n ((-1 : Int32), (0 : Int32))) (fun r => r.2.1 = pm_hi F t F.length) := by
  refine pu_up (fun i v => v.1 = pm_hi F t i ∧ v.2 = nI i) F.length (by omega) ⟨rfl, rfl⟩ ?_
  rintro i ⟨v1, v2⟩ hi ⟨e1, e2⟩
  dsimp only at e1 e2 ⊢
  subst e1 e2
  unfold zb_X11_highest_25
  by_cases hc : F.length ≤ i
  · have : i = F.length := by omega
    subst this
    rw [if_pos ((pn_le (by omega) (by omega)).mpr hc)]
    exact pu_out (by decide) rfl
  · have hlt := hlt i (by omega)
    have e : pm_hi F t (i + 1) = if pm_hs (F.getD i 0) &&& t = t then (if pm_hi F t i < nI (pm_rg (F.getD i 0)) then nI (pm_rg (F.getD i 0)) else pm_hi F t i) else pm_hi F t i := rfl
    rw [if_neg (fun z => hc ((pn_le (by omega) (by omega)).mp z)), pu_ld (by omega) (by omega), pu_e1, hS i (by omega), pr_hasIn hlt, pu_e1, pu_e1, pr_rungIn hlt, pu_e1, pu_e1, pr_rungIn hlt, pu_e1]
    by_cases d : pm_hs (F.getD i 0) &&& t = t
    · rw [if_pos ((pn_eq_and (pm_hs_lt _) (by omega)).mpr d)]
      by_cases f : nI (pm_rg (F.getD i 0)) ≤ pm_hi F t i
      · rw [if_pos f, pu_e1, pn_a1, pu_e1]
        refine pu_go ⟨by omega, ?_, rfl⟩
        dsimp only
        rw [e, if_pos d, if_neg (Int32.not_lt.mpr f)]
      · rw [if_neg f, pu_e1, pn_a1, pu_e1]
        refine pu_go ⟨by omega, ?_, rfl⟩
        dsimp only
        rw [e, if_pos d, if_pos (Int32.not_le.mp f)]
    · rw [if_neg (fun z => d ((pn_eq_and (pm_hs_lt _) (by omega)).mp z)), pu_e1, pn_a1, pu_e1]
      refine pu_go ⟨by omega, ?_, rfl⟩
      dsimp only
      rw [e, if_neg d]
end PL
def pm_ri (h : Nat) : Option Nat → Bool
  | none => true
  | some b => decide (pm_pc b < pm_pc h ∨ pm_pc h = pm_pc b ∧ h < b)
def pm_mo (F : List Nat) (r : Nat) : Nat → Option Nat
  | 0 => none
  | i + 1 => if pm_rg (F.getD i 0) = r then (if pm_ri (pm_hs (F.getD i 0)) (pm_mo F r i) then some (pm_hs (F.getD i 0)) else pm_mo F r i) else pm_mo F r i
def pm_oi : Option Nat → Int32
  | none => (-1 : Int32)
  | some b => nI b
theorem pm_mo_lt {F : List Nat} {r : Nat} : ∀ i b, pm_mo F r i = some b → b < 64 := by
  intro i
  induction i with
  | zero => intro b h; cases h
  | succ i ih =>
    intro b h
    have h' : (if pm_rg (F.getD i 0) = r then (if pm_ri (pm_hs (F.getD i 0)) (pm_mo F r i) then some (pm_hs (F.getD i 0)) else pm_mo F r i) else pm_mo F r i) = some b := h
    split at h'
    · split at h'
      · cases h'; exact pm_hs_lt _
      · exact ih b h'
    · exact ih b h'
theorem pc_isRicher {h : Nat} {o : Option Nat} (hh : h < 64) (ho : ∀ b, o = some b → b < 64) : zf_X1_isRicher (nI h) (pm_oi o) = some (if pm_ri h o then (1 : Int32) else 0) := by
  unfold zf_X1_isRicher
  cases o with
  | none => rw [if_pos (show pm_oi none = (-1 : Int32) from rfl)]; rfl
  | some b =>
    have hb := ho b rfl
    have h1 := pb_pcle h hh
    have h2 := pb_pcle b hb
    show (if nI b = (-1 : Int32) then _ else _) = _
    rw [if_neg (fun z => (pn_ne1 (by omega)).mp z), pb_pc _ hh, pu_e1]
    show zd_1 (zf_J6_bitCount_0f7a4 (nI b)) _ = _
    rw [pb_pc _ hb, pu_e1, pu_e1]
    show (if 0 < nI (pm_pc h) - nI (pm_pc b) then some (1 : Int32) else if nI (pm_pc h) - nI (pm_pc b) = 0 then (if nI b ≤ nI h then some (0 : Int32) else some 1) else some 0) = some (if decide (pm_pc b < pm_pc h ∨ pm_pc h = pm_pc b ∧ h < b) then (1 : Int32) else 0)
    have e : nI (pm_pc h) - nI (pm_pc b) = Int32.ofInt ((pm_pc h : Int) - (pm_pc b : Int)) := by rw [Int32.ofInt_sub, ← pi_nI, ← pi_nI]
    rw [e]
    by_cases c : pm_pc b < pm_pc h
    · rw [if_pos ((pi_0lt (by omega) (by omega)).mpr (by omega)), if_pos (decide_eq_true (Or.inl c))]
    · rw [if_neg (fun z => by have := (pi_0lt (by omega) (by omega)).mp z; omega)]
      by_cases d : pm_pc h = pm_pc b
      · rw [if_pos (by rw [d, Int.sub_self]; rfl)]
        by_cases f : h < b
        · rw [if_neg (fun z => by have := (pn_le (by omega) (by omega)).mp z; omega), if_pos (decide_eq_true (Or.inr ⟨d, f⟩))]
        · rw [if_pos ((pn_le (by omega) (by omega)).mpr (by omega)), if_neg (fun z => by have := of_decide_eq_true z; omega)]
      · rw [if_neg (fun z => d (by have := (pi_eq (b := 0) (by omega) (by omega) (by omega) (by omega)).mp z; omega)), if_neg (fun z => by have := of_decide_eq_true z; omega)]
def pm_lo (F : List Nat) (r : Nat) : Nat → Nat × Nat
  | 0 => (0, 0)
  | i + 1 => if pm_rg (F.getD i 0) = r then ((pm_lo F r i).1 ||| pm_hs (F.getD i 0), 1) else pm_lo F r i
theorem pm_lo_lt {F : List Nat} {r : Nat} : ∀ i, (pm_lo F r i).1 < 64 := by
  intro i
  induction i with
  | zero => show 0 < 64; omega
  | succ i ih =>
    show (if pm_rg (F.getD i 0) = r then ((pm_lo F r i).1 ||| pm_hs (F.getD i 0), 1) else pm_lo F r i).1 < 64
    split
    · exact Nat.or_lt_two_pow (n := 6) ih (pm_hs_lt _)
    · exact ih
section PL
variable {n : Nat} {F : List Nat} {order : Nat → Int32}
theorem pc_moL {r : Nat} (hn : 10000 ≤ n) (hl : F.length ≤ 2880) (hlt' : ∀ i, i < F.length → F.getD i 0 < 2880) (hO : ∀ i, i < F.length → order i = nI (F.getD i 0)) (hr : r < 100) : zf_X1_richestSet n (nI F.length) order (nI r) = some (pm_oi (pm_mo F r F.length)) := by
  have hmo := pm_mo_lt (F := F) (r := r)
  have estep : ∀ i, pm_mo F r (i + 1) = if pm_rg (F.getD i 0) = r then (if pm_ri (pm_hs (F.getD i 0)) (pm_mo F r i) then some (pm_hs (F.getD i 0)) else pm_mo F r i) else pm_mo F r i := fun i => rfl
  apply pu_ex
  unfold zf_X1_richestSet
  refine pu_d3.mpr (pu_up (fun i v => v.1 = pm_oi (pm_mo F r i) ∧ v.2 = nI i) F.length (by omega) ⟨rfl, rfl⟩ ?_)
  rintro i ⟨v1, v2⟩ hi ⟨e1, e2⟩
  dsimp only at e1 e2 ⊢
  subst e1 e2
  unfold zb_X1_richestSet_4
  by_cases hc : F.length ≤ i
  · have : i = F.length := by omega
    subst this
    rw [if_pos ((pn_le (by omega) (by omega)).mpr hc)]
    exact pu_out (by decide) (pu_some.mpr rfl)
  · have hlt := hlt' i (by omega)
    have hrg : pm_rg (F.getD i 0) < 9 := by unfold pm_rg; omega
    rw [if_neg (fun z => hc ((pn_le (by omega) (by omega)).mp z)), pu_ld (by omega) (by omega), pu_e1, hO i (by omega), pc_rungOf hlt, pu_e1, pu_e1, pc_thingsOf hlt, pu_e1, pc_isRicher (pm_hs_lt _) (hmo i), pu_e1, pu_e1, pc_thingsOf hlt, pu_e1, pn_a1]
    refine pu_d1.mpr (pu_mono (P := fun v => v = pm_oi (pm_mo F r (i + 1))) ?_ ?_)
    · rw [estep]
      by_cases d : pm_rg (F.getD i 0) = r
      · rw [if_pos (by rw [d]), if_pos d]
        by_cases f : pm_ri (pm_hs (F.getD i 0)) (pm_mo F r i) = true
        · rw [if_pos f, if_pos f, if_neg (by decide)]; exact pu_some.mpr rfl
        · rw [if_neg f, if_neg f, if_pos rfl]; exact pu_some.mpr rfl
      · rw [if_neg (fun z => d ((pn_eq (by omega) (by omega)).mp z)), if_neg d]; exact pu_some.mpr rfl
    · rintro v rfl
      rw [pu_e1]
      exact pu_go ⟨by omega, rfl, rfl⟩
theorem pr_moL {r : Nat} (hn : 10000 ≤ n) (hl : F.length ≤ 2880) (hlt' : ∀ i, i < F.length → F.getD i 0 < 2880) (hO : ∀ i, i < F.length → order i = nI (F.getD i 0)) (hr : r < 100) : pu_ok (za_it (fun v => zb_X11_most_36 (nI F.length) order (nI r) n v.1 v.2) n ((-1 : Int32), (0 : Int32))) (fun v => v.2.1 = pm_oi (pm_mo F r F.length)) := by
  have hmo := pm_mo_lt (F := F) (r := r)
  have estep : ∀ i, pm_mo F r (i + 1) = if pm_rg (F.getD i 0) = r then (if pm_ri (pm_hs (F.getD i 0)) (pm_mo F r i) then some (pm_hs (F.getD i 0)) else pm_mo F r i) else pm_mo F r i := fun i => rfl
  refine pu_up (fun i v => v.1 = pm_oi (pm_mo F r i) ∧ v.2 = nI i) F.length (by omega) ⟨rfl, rfl⟩ ?_
  rintro i ⟨v1, v2⟩ hi ⟨e1, e2⟩
  dsimp only at e1 e2 ⊢
  subst e1 e2
  unfold zb_X11_most_36
  by_cases hc : F.length ≤ i
  · have : i = F.length := by omega
    subst this
    rw [if_pos ((pn_le (by omega) (by omega)).mpr hc)]
    exact pu_out (by decide) rfl
  · have hlt := hlt' i (by omega)
    have hrg : pm_rg (F.getD i 0) < 9 := by unfold pm_rg; omega
    rw [if_neg (fun z => hc ((pn_le (by omega) (by omega)).mp z)), pu_ld (by omega) (by omega), pu_e1, hO i (by omega), pr_rungIn hlt, pu_e1, pu_e1, pr_hasIn hlt, pu_e1, pr_bitsOf (by omega) (pm_hs_lt _), pu_e1, pu_e1, pn_a1]
    refine pu_d1.mpr (pu_mono (P := fun v => v = pm_oi (pm_mo F r (i + 1))) ?_ ?_)
    · rw [estep]
      by_cases d : pm_rg (F.getD i 0) = r
      · rw [if_pos (by rw [d]), if_pos d]
        have hm := hmo i
        generalize pm_mo F r i = o at hm ⊢
        cases o with
        | none => rw [if_pos (show pm_oi none = (-1 : Int32) from rfl), if_pos (show pm_ri (pm_hs (F.getD i 0)) none = true from rfl)]; exact pu_some.mpr rfl
        | some b =>
          have hb := hm b rfl
          have h1 := pb_pcle _ (pm_hs_lt (F.getD i 0))
          have h2 := pb_pcle b hb
          have hh := pm_hs_lt (F.getD i 0)
          rw [show pm_oi (some b) = nI b from rfl, if_neg (fun z => (pn_ne1 (by omega)).mp z), pr_bitsOf (by omega) hb, pu_e1, pu_e1]
          show pu_ok _ (fun v => v = pm_oi (if decide (pm_pc b < pm_pc (pm_hs (F.getD i 0)) ∨ pm_pc (pm_hs (F.getD i 0)) = pm_pc b ∧ pm_hs (F.getD i 0) < b) then some (pm_hs (F.getD i 0)) else some b))
          by_cases f : pm_pc b < pm_pc (pm_hs (F.getD i 0))
          · rw [if_pos ((pn_lt (by omega) (by omega)).mpr f), if_pos (decide_eq_true (Or.inl f))]; exact pu_some.mpr rfl
          · rw [if_neg (fun z => f ((pn_lt (by omega) (by omega)).mp z))]
            by_cases g : pm_pc (pm_hs (F.getD i 0)) = pm_pc b
            · rw [if_pos (by rw [g])]
              by_cases k2 : pm_hs (F.getD i 0) < b
              · rw [if_neg (fun z => by have := (pn_le (by omega) (by omega)).mp z; omega), if_pos (decide_eq_true (Or.inr ⟨g, k2⟩))]; exact pu_some.mpr rfl
              · rw [if_pos ((pn_le (by omega) (by omega)).mpr (by omega)), if_neg (fun z => by have := of_decide_eq_true z; omega)]; exact pu_some.mpr rfl
            · rw [if_neg (fun z => g ((pn_eq (by omega) (by omega)).mp z)), if_neg (fun z => by have := of_decide_eq_true z; omega)]; exact pu_some.mpr rfl
      · rw [if_neg (fun z => d ((pn_eq (by omega) (by omega)).mp z)), if_neg d]; exact pu_some.mpr rfl
    · rintro v rfl
      rw [pu_e1]
      exact pu_go ⟨by omega, rfl, rfl⟩
theorem pc_loL {r : Nat} (hn : 10000 ≤ n) (hl : F.length ≤ 2880) (hlt' : ∀ i, i < F.length → F.getD i 0 < 2880) (hO : ∀ i, i < F.length → order i = nI (F.getD i 0)) (hr : r < 100) : pu_ok (za_it (fun v => zb_X1_everHadOn_7 (nI F.length) order (nI r) v.1 v.2.1 v.2.2) n ((0 : Int32), (0 : Int32), (0 : Int32))) (fun v => v.2.1 = nI (pm_lo F r F.length).1 ∧ v.2.2.1 = nI (pm_lo F r F.length).2) := by
  have estep : ∀ i, pm_lo F r (i + 1) = if pm_rg (F.getD i 0) = r then ((pm_lo F r i).1 ||| pm_hs (F.getD i 0), 1) else pm_lo F r i := fun i => rfl
  refine pu_up (fun i v => v.1 = nI (pm_lo F r i).1 ∧ v.2.1 = nI (pm_lo F r i).2 ∧ v.2.2 = nI i) F.length (by omega) ⟨rfl, rfl, rfl⟩ ?_
  rintro i ⟨v1, v2, v3⟩ hi ⟨e1, e2, e3⟩
  dsimp only at e1 e2 e3 ⊢
  subst e1 e2 e3
  unfold zb_X1_everHadOn_7
  by_cases hc : F.length ≤ i
  · have : i = F.length := by omega
    subst this
    rw [if_pos ((pn_le (by omega) (by omega)).mpr hc)]
    exact pu_out (by decide) ⟨rfl, rfl⟩
  · have hlt := hlt' i (by omega)
    have hrg : pm_rg (F.getD i 0) < 9 := by unfold pm_rg; omega
    rw [if_neg (fun z => hc ((pn_le (by omega) (by omega)).mp z)), pu_ld (by omega) (by omega), pu_e1, hO i (by omega), pc_rungOf hlt, pu_e1, pu_e1, pc_thingsOf hlt, pu_e1, pn_or, pu_e1, pn_a1]
    by_cases d : pm_rg (F.getD i 0) = r
    · rw [if_pos (by rw [d]), pu_e2, pu_e1]
      refine pu_go ⟨by omega, ?_, ?_, rfl⟩
      · dsimp only; rw [estep, if_pos d]
      · dsimp only; rw [estep, if_pos d]; rfl
    · rw [if_neg (fun z => d ((pn_eq (by omega) (by omega)).mp z)), pu_e2, pu_e1]
      refine pu_go ⟨by omega, ?_, ?_, rfl⟩
      · dsimp only; rw [estep, if_neg d]
      · dsimp only; rw [estep, if_neg d]
theorem pr_loL {r : Nat} (hn : 10000 ≤ n) (hl : F.length ≤ 2880) (hlt' : ∀ i, i < F.length → F.getD i 0 < 2880) (hO : ∀ i, i < F.length → order i = nI (F.getD i 0)) (hr : r < 100) : pu_ok (za_it (fun v => zb_X11_loses_28 (nI F.length) order (nI r) v.1 v.2.1 v.2.2) n ((0 : Int32), (0 : Int32), (0 : Int32))) (fun v => v.2.1 = nI (pm_lo F r F.length).1 ∧ v.2.2.1 = nI (pm_lo F r F.length).2) := by
  have estep : ∀ i, pm_lo F r (i + 1) = if pm_rg (F.getD i 0) = r then ((pm_lo F r i).1 ||| pm_hs (F.getD i 0), 1) else pm_lo F r i := fun i => rfl
  refine pu_up (fun i v => v.1 = nI (pm_lo F r i).1 ∧ v.2.1 = nI (pm_lo F r i).2 ∧ v.2.2 = nI i) F.length (by omega) ⟨rfl, rfl, rfl⟩ ?_
  rintro i ⟨v1, v2, v3⟩ hi ⟨e1, e2, e3⟩
  dsimp only at e1 e2 e3 ⊢
  subst e1 e2 e3
  unfold zb_X11_loses_28
  by_cases hc : F.length ≤ i
  · have : i = F.length := by omega
    subst this
    rw [if_pos ((pn_le (by omega) (by omega)).mpr hc)]
    exact pu_out (by decide) ⟨rfl, rfl⟩
  · have hlt := hlt' i (by omega)
    have hrg : pm_rg (F.getD i 0) < 9 := by unfold pm_rg; omega
    rw [if_neg (fun z => hc ((pn_le (by omega) (by omega)).mp z)), pu_ld (by omega) (by omega), pu_e1, hO i (by omega), pr_rungIn hlt, pu_e1, pu_e1, pr_hasIn hlt, pu_e1, pn_or, pu_e1, pn_a1]
    by_cases d : pm_rg (F.getD i 0) = r
    · rw [if_pos (by rw [d]), pu_e2, pu_e1]
      refine pu_go ⟨by omega, ?_, ?_, rfl⟩
      · dsimp only; rw [estep, if_pos d]
      · dsimp only; rw [estep, if_pos d]; rfl
    · rw [if_neg (fun z => d ((pn_eq (by omega) (by omega)).mp z)), pu_e2, pu_e1]
      refine pu_go ⟨by omega, ?_, ?_, rfl⟩
      · dsimp only; rw [estep, if_neg d]
      · dsimp only; rw [estep, if_neg d]
end PL
section PM
variable {n : Nat} {q : Nat → Nat} {w s0 : Nat} {top things tf tt mf mt : Int32} {bars gives rough code told fa sk : Nat → Int32}
/-- the two lists, one behind the other -/
theorem pp_two {all rk wds stand th known1 : Nat → Int32} {many : Int32} {size known found : Int32} {deeds ends order depth from1 : Nat → Int32} (hn : 10000 ≤ n) (ha : pr_all all q) (hq : pm_cliff q) (hw : q 40 = w) (hw9 : w ≤ 9) (hs : pm_now q = s0) (h0 : pm_st q s0) (hK : pc_K q top things tf tt mf mt bars gives rough code) (hT : pc_told q w told) (hC : pc_com q w s0 size known order depth from1) : (∃ x, zf_X11_laysStands n many all rk wds stand th known1 (0 : Int32) = some x ∧ pr_ls q w (pm_F (pm_tg q w) s0) x.1 x.2.2.2.1 x.2.2.2.2.1) ∧ ∃ y, zf_X1_explore n size known found top things tf tt mf mt bars gives rough code (nI w) told fa sk deeds ends order depth from1 (nI s0) = some y ∧ pc_X q w s0 y.1 y.2.2.2.2.2.2.2.2.1 y.2.2.2.2.2.2.2.2.2.1 y.2.2.2.2.2.2.2.2.2.2 ∧ pc_com q w s0 y.1 y.2.1 y.2.2.2.2.2.2.2.2.1 y.2.2.2.2.2.2.2.2.2.1 y.2.2.2.2.2.2.2.2.2.2 ∧ pc_told q w y.2.2.2.1 := by
  obtain ⟨x, hx, h1⟩ := pr_laysStands (n := n) (rk := rk) (wds := wds) (stand := stand) (th := th) (known := known1) (many := many) (more := 0) hn ha hq (by omega) (by rw [hs]; exact h0) (Or.inl rfl)
  rw [pm_tgx0, hw, hs] at h1
  obtain ⟨y, hy, hX, hy1, hy2⟩   := pc_explore (n := n) (found := found) (fa := fa) (sk := sk) (deeds := deeds) (ends := ends) hn hq hK hT hw9 h0 hC
  exact ⟨⟨x, hx, h1⟩, y, hy, hX, Or.inr ⟨hy1, hX⟩, hy2⟩
theorem pp_stands {all rk wds stand th known1 : Nat → Int32} {thrown many : Int32} {size known found : Int32} {deeds ends order depth from1 : Nat → Int32} (hn : 10000 ≤ n) (ha : pr_all all q) (hq : pm_cliff q) (hw : q 40 = w) (hw9 : w ≤ 9) (hs : pm_now q = s0) (h0 : pm_st q s0) (hK : pc_K q top things tf tt mf mt bars gives rough code) (hT : pc_told q w told) (hC : pc_com q w s0 size known order depth from1) :
    ∃ v, pu_ok (zf_X10_stands n top things tf tt mf mt bars gives rough code (nI s0) (nI w) told fa sk found deeds ends size known order depth from1) (fun r => r.1 = v ∧ pc_told q w r.2.1 ∧ pc_com q w s0 r.2.2.2.2.2.2.2.1 r.2.2.2.2.2.2.2.2.1 r.2.2.2.2.2.2.2.2.2.1 r.2.2.2.2.2.2.2.2.2.2.1 r.2.2.2.2.2.2.2.2.2.2.2) ∧ pu_ok (zf_X11_stands n thrown many all rk wds stand th known1) (fun r => r.1 = v) := by
  obtain ⟨⟨⟨x1, x2, x3, x4, x5, x6⟩, hx, hls⟩, ⟨y1, y2, y3, y4, y5, y6, y7, y8, y9, y10, y11⟩, hy, hX, hC', hy2⟩ := pp_two (n := n) (rk := rk) (wds := wds) (stand := stand) (th := th) (known1 := known1) (many := many) (found := found) (fa := fa) (sk := sk) (deeds := deeds) (ends := ends) hn ha hq hw hw9 hs h0 hK hT hC
  dsimp only at hls hX hC' hy2
  unfold zf_X10_stands zf_X11_stands
  rw [hx, hy, pu_e6, pu_e11]
  refine ⟨nI (pm_F (pm_tg q w) s0).length, pu_some.mpr ⟨(pc_X_at hX).1, hy2, hC'⟩, pu_some.mpr hls.1⟩
theorem pp_highest {all rk wds stand th known1 : Nat → Int32} {thrown many : Int32} {size known found : Int32} {deeds ends order depth from1 : Nat → Int32} {p1 : Int32} (hn : 10000 ≤ n) (ha : pr_all all q) (hq : pm_cliff q) (hw : q 40 = w) (hw9 : w ≤ 9) (hs : pm_now q = s0) (h0 : pm_st q s0) (hK : pc_K q top things tf tt mf mt bars gives rough code) (hT : pc_told q w told) (hC : pc_com q w s0 size known order depth from1) :
    ∃ v, pu_ok (zf_X10_highest n top things tf tt mf mt bars gives rough code (nI s0) (nI w) told fa sk found deeds ends size known order depth from1 p1) (fun r => r.1 = v ∧ pc_told q w r.2.1 ∧ pc_com q w s0 r.2.2.2.2.2.2.2.1 r.2.2.2.2.2.2.2.2.1 r.2.2.2.2.2.2.2.2.2.1 r.2.2.2.2.2.2.2.2.2.2.1 r.2.2.2.2.2.2.2.2.2.2.2) ∧ pu_ok (zf_X11_highest n thrown many all rk wds stand th known1 p1) (fun r => r.1 = v) := by
  have hl := pm_L_len (w := w) hq h0
  have hp := pm_p6 hq.2.1
  obtain ⟨c, c1, c2, c3⟩ := pp_set ha hq p1
  unfold zf_X10_highest zf_X11_highest
  rw [c2, pu_e1, hK.2.1, c1, pu_e1, ← hK.2.1]
  rcases c3 with rfl | ⟨rfl, t, rfl, ht⟩
  · rw [if_pos rfl, if_pos rfl]
    exact ⟨_, pu_some.mpr ⟨rfl, hT, hC⟩, pu_some.mpr rfl⟩
  rw [if_neg (by decide), if_neg (by decide)]
  obtain ⟨⟨⟨x1, x2, x3, x4, x5, x6⟩, hx, hls⟩, ⟨y1, y2, y3, y4, y5, y6, y7, y8, y9, y10, y11⟩, hy, hX, hC', hy2⟩ := pp_two (n := n) (rk := rk) (wds := wds) (stand := stand) (th := th) (known1 := known1) (many := many) (found := found) (fa := fa) (sk := sk) (deeds := deeds) (ends := ends) hn ha hq hw hw9 hs h0 hK hT hC
  dsimp only at hls hX hC' hy2
  rw [hx, hy, pu_e6, pu_e11]
  obtain ⟨rfl, hO⟩ := pc_X_at hX
  obtain ⟨rfl, hS, _⟩ := hls
  refine ⟨pm_hi (pm_F (pm_tg q w) s0) t (pm_F (pm_tg q w) s0).length, ?_, ?_⟩
  · rw [pc_hiL hn hl (fun i hi => pm_st_lt hq (pm_L_st (w := w) hq h0 hi)) (fun i hi => (hO i hi).1) (by omega), pu_e1]
    exact pu_some.mpr ⟨rfl, hy2, hC'⟩
  · refine pu_d3.mpr (pu_mono (pr_hiL hn hl (fun i hi => pm_st_lt hq (pm_L_st (w := w) hq h0 hi)) hS (by omega)) ?_)
    rintro ⟨g1, g2, g3⟩ e
    exact pu_some.mpr e
theorem pp_most {all rk wds stand th known1 : Nat → Int32} {thrown many : Int32} {size known found : Int32} {deeds ends order depth from1 : Nat → Int32} {p1 p2 : Int32} (hn : 10000 ≤ n) (ha : pr_all all q) (hq : pm_cliff q) (hw : q 40 = w) (hw9 : w ≤ 9) (hs : pm_now q = s0) (h0 : pm_st q s0) (hK : pc_K q top things tf tt mf mt bars gives rough code) (hT : pc_told q w told) (hC : pc_com q w s0 size known order depth from1) :
    ∃ v, pu_ok (zf_X10_most n top things tf tt mf mt bars gives rough code (nI s0) (nI w) told fa sk found deeds ends size known order depth from1 p1 p2) (fun r => r.1 = v ∧ pc_told q w r.2.1 ∧ pc_com q w s0 r.2.2.2.2.2.2.2.1 r.2.2.2.2.2.2.2.2.1 r.2.2.2.2.2.2.2.2.2.1 r.2.2.2.2.2.2.2.2.2.2.1 r.2.2.2.2.2.2.2.2.2.2.2) ∧ pu_ok (zf_X11_most n thrown many all rk wds stand th known1 p1 p2) (fun r => r.1 = v) := by
  have hl := pm_L_len (w := w) hq h0
  have hq1 := hq.1
  obtain ⟨c, c1, c2, c3⟩ := pp_rung ha hq p1
  unfold zf_X10_most zf_X11_most
  rw [c2, pu_e1, hK.1, c1, pu_e1, ← hK.1]
  rcases c3 with rfl | ⟨rfl, r, rfl, hr⟩
  · rw [if_pos rfl, if_pos rfl]
    exact ⟨_, pu_some.mpr ⟨rfl, hT, hC⟩, pu_some.mpr rfl⟩
  rw [if_neg (show ¬ (1 : Int32) = 0 by decide), if_neg (show ¬ (1 : Int32) = 0 by decide), pr_within, pu_e1, Int32.toInt_toInt64, show (0 : Int64).toInt = 0 from rfl, show (1 : Int64).toInt = 1 from rfl]
  by_cases d1 : 0 ≤ p2.toInt
  rotate_left
  · refine ⟨(-2 : Int32), ?_, ?_⟩
    · rw [if_pos (pn_neg d1)]
      exact pu_some.mpr ⟨rfl, hT, hC⟩
    · rw [if_neg (show ¬ (0 ≤ p2.toInt ∧ p2.toInt ≤ 1) by omega), if_pos (show (0 : Int32) = 0 from rfl)]
      exact pu_some.mpr rfl
  obtain ⟨k, rfl, hk, e⟩ := pn_of d1
  rw [if_neg (pn_nn hk), pn_toInt hk]
  by_cases d2 : k ≤ 1
  rotate_left
  · refine ⟨(-2 : Int32), ?_, ?_⟩
    · rw [if_neg (fun z => d2 ((pv_ge 1 (by omega) hk).mp z))]
      exact pu_some.mpr ⟨rfl, hT, hC⟩
    · rw [if_neg (show ¬ (0 ≤ (k : Int) ∧ (k : Int) ≤ 1) by omega), if_pos (show (0 : Int32) = 0 from rfl)]
      exact pu_some.mpr rfl
  rw [if_pos ((pv_ge 1 (by omega) hk).mpr d2), if_pos (show 0 ≤ (k : Int) ∧ (k : Int) ≤ 1 by omega), if_neg (show ¬ (1 : Int32) = 0 by decide)]
  obtain ⟨⟨⟨x1, x2, x3, x4, x5, x6⟩, hx, hls⟩, ⟨y1, y2, y3, y4, y5, y6, y7, y8, y9, y10, y11⟩, hy, hX, hC', hy2⟩ := pp_two (n := n) (rk := rk) (wds := wds) (stand := stand) (th := th) (known1 := known1) (many := many) (found := found) (fa := fa) (sk := sk) (deeds := deeds) (ends := ends) hn ha hq hw hw9 hs h0 hK hT hC
  dsimp only at hls hX hC' hy2
  rw [hx, hy, pu_e6, pu_e11]
  obtain ⟨rfl, hO⟩ := pc_X_at hX
  obtain ⟨rfl, hS, _⟩ := hls
  have hmo := pm_mo_lt (F := (pm_F (pm_tg q w) s0)) (r := r)
  have hcls := pc_moL hn hl (fun i hi => pm_st_lt hq (pm_L_st (w := w) hq h0 hi)) (fun i hi => (hO i hi).1) (show r < 100 by omega)
  have href := pr_moL hn hl (fun i hi => pm_st_lt hq (pm_L_st (w := w) hq h0 hi)) hS (show r < 100 by omega)
  obtain ⟨⟨z1, z2, z3⟩, hz, hz2⟩ := href
  dsimp only at hz2
  subst hz2
  rw [hcls, pu_e1, hz, pu_e3]
  have hm := pm_mo_lt (F := (pm_F (pm_tg q w) s0)) (r := r) (pm_F (pm_tg q w) s0).length
  generalize pm_mo (pm_F (pm_tg q w) s0) r (pm_F (pm_tg q w) s0).length = o at hm ⊢
  cases o with
  | none =>
    refine ⟨pm_oi none, ?_, ?_⟩
    · rw [if_pos (show pm_oi none = (-1 : Int32) from rfl)]
      exact pu_some.mpr ⟨rfl, hy2, hC'⟩
    · rw [if_pos (show pm_oi none = (-1 : Int32) from rfl)]
      exact pu_some.mpr rfl
  | some b =>
    have hb := hm b rfl
    have hne : ¬ pm_oi (some b) = (-1 : Int32) := fun z => (pn_ne1 (a := b) (by omega)).mp z
    by_cases f : nI k = (1 : Int32)
    · refine ⟨pm_oi (some b), ?_, ?_⟩
      · rw [if_neg hne, if_pos f]
        exact pu_some.mpr ⟨rfl, hy2, hC'⟩
      · rw [if_neg hne, if_pos f]
        exact pu_some.mpr rfl
    · refine ⟨nI (pm_pc b), ?_, ?_⟩
      · rw [if_neg hne, if_neg f, show pm_oi (some b) = nI b from rfl, pb_pc _ hb, pu_e1]
        exact pu_some.mpr ⟨rfl, hy2, hC'⟩
      · rw [if_neg hne, if_neg f, show pm_oi (some b) = nI b from rfl, pr_bitsOf (by omega) hb, pu_e1]
        exact pu_some.mpr rfl
theorem pp_loses {all rk wds stand th known1 : Nat → Int32} {thrown many : Int32} {size known found : Int32} {deeds ends order depth from1 : Nat → Int32} {p1 : Int32} (hn : 10000 ≤ n) (ha : pr_all all q) (hq : pm_cliff q) (hw : q 40 = w) (hw9 : w ≤ 9) (hs : pm_now q = s0) (h0 : pm_st q s0) (hK : pc_K q top things tf tt mf mt bars gives rough code) (hT : pc_told q w told) (hC : pc_com q w s0 size known order depth from1) (hsd : q 38 < 64 ∧ q 39 < 5) :
    ∃ v, pu_ok (zf_X10_loses n top things tf tt mf mt bars gives rough code (nI s0) (nI w) told fa sk found deeds ends size known order depth from1 p1) (fun r => r.1 = v ∧ pc_told q w r.2.1 ∧ pc_com q w s0 r.2.2.2.2.2.2.2.1 r.2.2.2.2.2.2.2.2.1 r.2.2.2.2.2.2.2.2.2.1 r.2.2.2.2.2.2.2.2.2.2.1 r.2.2.2.2.2.2.2.2.2.2.2) ∧ pu_ok (zf_X11_loses n thrown many all rk wds stand th known1 p1) (fun r => r.1 = v) := by
  have hl := pm_L_len (w := w) hq h0
  have hq1 := hq.1
  have hlt0 := pm_st_lt hq h0
  have hhs : pm_hs s0 = q 38 := by rw [← hs]; exact pm_hs_sd hsd.1 hsd.2
  obtain ⟨c, c1, c2, c3⟩ := pp_rung ha hq p1
  unfold zf_X10_loses zf_X11_loses
  rw [c2, pu_e1, hK.1, c1, pu_e1, ← hK.1]
  rcases c3 with rfl | ⟨rfl, r, rfl, hr⟩
  · rw [if_pos rfl, if_pos rfl]
    exact ⟨_, pu_some.mpr ⟨rfl, hT, hC⟩, pu_some.mpr rfl⟩
  rw [if_neg (by decide), if_neg (by decide)]
  obtain ⟨⟨⟨x1, x2, x3, x4, x5, x6⟩, hx, hls⟩, ⟨y1, y2, y3, y4, y5, y6, y7, y8, y9, y10, y11⟩, hy, hX, hC', hy2⟩ := pp_two (n := n) (rk := rk) (wds := wds) (stand := stand) (th := th) (known1 := known1) (many := many) (found := found) (fa := fa) (sk := sk) (deeds := deeds) (ends := ends) hn ha hq hw hw9 hs h0 hK hT hC
  dsimp only at hls hX hC' hy2
  rw [hx, hy, pu_e6, pu_e11]
  obtain ⟨rfl, hO⟩ := pc_X_at hX
  obtain ⟨rfl, hS, _⟩ := hls
  have hcls := pc_loL hn hl (fun i hi => pm_st_lt hq (pm_L_st (w := w) hq h0 hi)) (fun i hi => (hO i hi).1) (show r < 100 by omega)
  have href := pr_loL hn hl (fun i hi => pm_st_lt hq (pm_L_st (w := w) hq h0 hi)) hS (show r < 100 by omega)
  obtain ⟨⟨z1, z2, z3, z4⟩, hz, hz2, hz3⟩ := href
  obtain ⟨⟨u1, u2, u3, u4⟩, hu, hu2, hu3⟩ := hcls
  dsimp only at hz2 hz3 hu2 hu3
  subst hz2 hz3 hu2 hu3
  have hlo := pm_lo_lt (F := (pm_F (pm_tg q w) s0)) (r := r) (pm_F (pm_tg q w) s0).length
  unfold zf_X1_everHadOn
  rw [hz, pu_e4, hu, pu_e4]
  by_cases f : nI (pm_lo (pm_F (pm_tg q w) s0) r (pm_F (pm_tg q w) s0).length).2 = 0
  · refine ⟨0, ?_, ?_⟩
    · rw [if_pos f, pu_e1, if_pos rfl]
      exact pu_some.mpr ⟨rfl, hy2, hC'⟩
    · rw [if_pos f]
      exact pu_some.mpr rfl
  · refine ⟨nI (q 38) &&& (nI (pm_lo (pm_F (pm_tg q w) s0) r (pm_F (pm_tg q w) s0).length).1 ^^^ (-1 : Int32)), ?_, ?_⟩
    · rw [if_neg f, pu_e1, if_neg (fun z => (pn_ne1 (by omega)).mp z), pc_thingsOf hlt0, pu_e1, hhs]
      exact pu_some.mpr ⟨rfl, hy2, hC'⟩
    · rw [if_neg f, pv_ld 38 (by omega) (by omega), pu_e1, ha 38 (by omega)]
      exact pu_some.mpr rfl
end PM
