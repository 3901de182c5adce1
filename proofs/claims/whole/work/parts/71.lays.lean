/-! the reference's list of all stands -/
theorem pz_of {v : Int32} : v = pz_m1 ↔ v = (-1 : Int32) := Iff.rfl
theorem pr_isThing {all : Nat → Int32} {q : Nat → Nat} {k : Nat} (ha : pr_all all q) (h2 : q 2 ≤ 6) (hk : k < 2147483648) : zf_X11_isThing all (Int32.toInt64 (nI k)) = some (nI (if k < q 2 then 1 else 0)) := by
  unfold zf_X11_isThing
  rw [pv_ld 2 (by omega) (by omega), pu_e1, ha 2 (by omega), pr_within, pu_e1, Int32.toInt_toInt64, Int32.toInt_toInt64, pn_toInt hk]
  have e1 : (nI (q 2) - (1 : Int32)).toInt = (q 2 : Int) - 1 := by
    have : nI (q 2) - (1 : Int32) = Int32.ofInt ((q 2 : Int) - 1) := by rw [Int32.ofInt_sub, ← pi_nI]; rfl
    rw [this, pi_to (by omega) (by omega)]
  rw [e1]
  by_cases c : k < q 2
  · rw [if_pos (by constructor <;> (try show (0 : Int) ≤ _) <;> omega), if_pos c, pu_zb (Or.inr rfl), pu_e1]; rfl
  · rw [if_neg (by omega), if_neg c, pu_zb (Or.inl rfl), pu_e1]; rfl
theorem pr_isMove {all : Nat → Int32} {q : Nat → Nat} {m : Nat} (ha : pr_all all q) (h2 : q 2 ≤ 6) (hm : m < 15) : zf_X11_isMove all (nI m) = some (nI (if m < 3 ∨ (m - 3) % 6 < q 2 then 1 else 0)) := by
  unfold zf_X11_isMove
  by_cases c : m < 3
  · rw [if_pos ((pv_gt 3 (by omega) (by omega)).mpr c), if_pos (Or.inl c)]; rfl
  · rw [if_neg (fun z => c ((pv_gt 3 (by omega) (by omega)).mp z)), pv_sub 3 (by omega), pv_rem 6 (by omega) (by omega), pr_isThing ha h2 (by omega), pu_e1]
    by_cases d : (m - 3) % 6 < q 2
    · rw [if_pos d, if_neg (by decide), if_pos (Or.inr d)]; rfl
    · rw [if_neg d, if_pos (by decide), if_neg (by omega)]; rfl
theorem pm_wy_mv {q : Nat → Nat} {w s m : Nat} (hq : pm_cliff q) (hs : pm_st q s) (hm : m < 15) (h : pm_wy q w s m = 0) : m < 3 ∨ (m - 3) % 6 < q 2 := by
  by_cases c : m < 3
  · exact Or.inl c
  · right
    obtain ⟨h1, h2, h3, h4, h5, h6⟩ := id hq
    by_cases d : m < 9
    · have e : m = 3 + (m - 3) := by omega
      rw [e] at h
      have := (pb_tbT _ (by omega) _ hs.2 _ (by omega) ((pm_wyf (by omega)).mp h)).2
      omega
    · have e : m = 9 + (m - 9) := by omega
      rw [e] at h
      have := (pb_tbT _ (by omega) _ (h4 (pm_rg s) (by have := hs.1; omega)).2.1 (m - 9) (by omega) (pm_wyt.mp h).2.1).2
      omega
theorem pr_gust {s : Nat} (hs : s < 2880) : zf_X11_gust (nI s) = some (nI (pm_gust s)) := by
  unfold zf_X11_gust pm_gust
  rw [pn_rem5 hs]
  by_cases c : s % 5 = 0
  · rw [if_pos (by show nI (s % 5) = _; rw [c]; rfl), if_pos c]
  · rw [if_neg (show ¬ nI (pm_sg s) = (0 : Int32) from fun z => c ((pv_eq 0 (b := s % 5) (by omega) (by omega)).mp z)), if_neg c, pv_sub 1 (by omega)]
def pm_now (q : Nat → Nat) : Nat := pm_sd (q 37) (q 38) (q 39)
theorem pr_standNow {all : Nat → Int32} {q : Nat → Nat} (ha : pr_all all q) : zf_X11_standNow all = some (nI (pm_now q)) := by
  unfold zf_X11_standNow
  rw [pv_ld 37 (by omega) (by omega), pu_e1, pv_ld 38 (by omega) (by omega), pu_e1, pv_ld 39 (by omega) (by omega), pu_e1, ha 37 (by omega), ha 38 (by omega), ha 39 (by omega), pr_standOf, pu_e1]; rfl
/-- a list that lies in rows -/
def pr_S (L : List Nat) (many : Int32) (stand known : Nat → Int32) : Prop := many = nI L.length ∧ (∀ i, i < L.length → stand i = nI (L.getD i 0)) ∧ (∀ s, s < 2880 → known s = nI (if s ∈ L then 1 else 0)) ∧ L.Nodup ∧ (∀ t ∈ L, t < 2880)
theorem pm_getD_app {L : List Nat} {t i : Nat} (h : i < L.length) : (L ++ [t]).getD i 0 = L.getD i 0 := by
  rw [List.getD_eq_getElem?_getD, List.getD_eq_getElem?_getD, List.getElem?_append_left h]
theorem pm_getD_last {L : List Nat} {t : Nat} : (L ++ [t]).getD L.length 0 = t := by
  rw [List.getD_eq_getElem?_getD, List.getElem?_append_right (Nat.le_refl _), Nat.sub_self]; rfl
theorem pr_adds {L : List Nat} {many : Int32} {stand known : Nat → Int32} {t : Nat} (h : pr_S L many stand known) (ht : t < 2880) : pu_ok (zf_X11_adds many stand known (nI t)) (fun r => pr_S (pm_add L t) r.1 r.2.1 r.2.2) := by
  obtain ⟨h1, h2, h3, h4, h5⟩ := h
  unfold zf_X11_adds
  rw [pu_ld ht (by omega), pu_e1, h3 t ht]
  have hnd := pm_add_nd (t := t) h4
  have hb : ∀ x ∈ pm_add L t, x < 2880 := by
    intro x hx
    rcases pm_add_mem.mp hx with z | z
    · exact h5 x z
    · subst z; exact ht
  have hlen := pm_pig hnd hb
  by_cases c : t ∈ L
  · have e : pm_add L t = L := by unfold pm_add; rw [if_pos c]
    rw [if_pos c, if_neg (by decide), e]
    exact pu_some.mpr ⟨h1, h2, h3, h4, h5⟩
  · have e : pm_add L t = L ++ [t] := by unfold pm_add; rw [if_neg c]
    rw [e] at hnd hb hlen
    have hl : L.length < 2880 := by simp at hlen; omega
    rw [if_neg c, if_pos (by decide), pu_st ht (by omega), pu_e1, h1, pu_st hl (by omega), pu_e1, pn_a1, pu_e1, e]
    refine pu_some.mpr ⟨by simp, ?_, ?_, hnd, hb⟩
    · intro i hi
      have hi' : i < L.length + 1 := by simpa using hi
      by_cases d : i = L.length
      · subst d; dsimp only; rw [pu_upe, pm_getD_last]
      · dsimp only; rw [pu_upn d, h2 i (by omega), pm_getD_app (by omega)]
    · intro s hs
      by_cases d : s = t
      · subst d; dsimp only; rw [pu_upe, if_pos (by simp)]; rfl
      · dsimp only; rw [pu_upn d, h3 s hs]
        have : (s ∈ L ++ [t]) ↔ s ∈ L := by simp [d]
        by_cases f : s ∈ L
        · rw [if_pos f, if_pos (this.mpr f)]
        · rw [if_neg f, if_neg (fun z => f (this.mp z))]
def pm_tgx (q : Nat → Nat) (w more s m : Nat) : List Nat := if more = 1 then pm_tgm q w s m else pm_tg q w s m
theorem pm_tgx_st {q : Nat → Nat} {w more : Nat} (hq : pm_cliff q) : ∀ s m, pm_st q s → m < 15 → ∀ t ∈ pm_tgx q w more s m, pm_st q t := by
  intro s m hs hm t ht
  unfold pm_tgx at ht
  split at ht
  · exact pm_tgm_st hq s m hs hm t ht
  · exact pm_tg_st hq s m hs hm t ht
def pr_v (q : Nat → Nat) (w s m : Nat) : Int32 := if pm_wy q w s m = 0 then nI (pm_ac q w s m) else pz_m1
def pr_T (q : Nat → Nat) (w : Nat) (F : List Nat) (c : Nat) (th : Nat → Int32) : Prop := ∀ i m, m < 15 → 15 * i + m < c → th (15 * F.getD i 0 + m) = pr_v q w (F.getD i 0) m
/-- what is laid -/
def pr_ls (q : Nat → Nat) (w : Nat) (F : List Nat) (many : Int32) (stand th : Nat → Int32) : Prop := many = nI F.length ∧ (∀ i, i < F.length → stand i = nI (F.getD i 0)) ∧ (∀ s ∈ F, ∀ m, m < 15 → th (15 * s + m) = pr_v q w s m)
theorem pr_laysStands {n : Nat} {all rk wds stand th known : Nat → Int32} {many : Int32} {q : Nat → Nat} {more : Nat} (hn : 10000 ≤ n) (ha : pr_all all q) (hq : pm_cliff q) (hw : q 40 ≤ 9) (hs : pm_st q (pm_now q)) (hmo : more = 0 ∨ more = 1) :
    pu_ok (zf_X11_laysStands n many all rk wds stand th known (nI more)) (fun r => pr_ls q (q 40) (pm_F (pm_tgx q (q 40) more) (pm_now q)) r.1 r.2.2.2.1 r.2.2.2.2.1) := by
  generalize hwe : q 40 = w at hw ⊢
  generalize hse : pm_now q = s0 at hs ⊢
  generalize htg : pm_tgx q w more = tg
  have hP : ∀ s m, pm_st q s → m < 15 → ∀ t ∈ tg s m, pm_st q t := by rw [← htg]; exact pm_tgx_st hq
  have hts : ∀ s m, tg s m = pm_tgx q w more s m := fun s m => by rw [htg]
  have hBst := fun c => pm_B_P (P := pm_st q) (tg := tg) hs hP c
  have hBlen := fun c => pm_F_len (tg := tg) hq hs hP c
  have hFl : (pm_F tg s0).length ≤ 2880 := hBlen pm_N
  have hFnd : (pm_F tg s0).Nodup := pm_B_nd tg s0 pm_N
  have hlt0 := pm_st_lt hq hs
  have h2 := hq.2.1
  unfold zf_X11_laysStands
  -- known is cleared
  refine pu_d3.mpr (pu_up (fun i v => v.1 = nI i ∧ (∀ s, s < i → v.2 s = nI 0)) 2880 (by omega) ⟨rfl, fun s h => absurd h (by omega)⟩ ?_)
  rintro i ⟨v1, a1⟩ hi ⟨e1, e2⟩
  dsimp only at e1 e2 ⊢
  subst e1
  unfold zb_X11_laysStands_2
  by_cases hc : 2880 ≤ i
  rotate_left
  · rw [if_neg (fun z => hc ((pv_le 2880 (by omega) (by omega)).mp z)), pu_st (by omega) (by omega), pu_e1, pn_a1, pu_e1]
    refine pu_go ⟨by omega, rfl, ?_⟩
    intro s hs'
    by_cases d : s = i
    · subst d; dsimp only; rw [pu_upe]; rfl
    · dsimp only; rw [pu_upn d]; exact e2 s (by omega)
  rw [if_pos ((pv_le 2880 (by omega) (by omega)).mpr hc)]
  refine pu_out (by decide) ?_
  dsimp only
  rw [pr_standNow ha, hse, pu_e1]
  have hS0 : pr_S [] (0 : Int32) stand a1 := ⟨rfl, fun i h => absurd h (Nat.not_lt_zero i), fun s h => by rw [e2 s (by omega)]; rfl, List.nodup_nil, fun t h => absurd h (List.not_mem_nil)⟩
  refine pu_d3.mpr (pu_mono (pr_adds hS0 hlt0) ?_)
  rintro ⟨v9, a10, a11⟩ hS1
  dsimp only at hS1 ⊢
  have e0 : pm_add [] s0 = pm_B tg s0 0 := by unfold pm_add; rw [if_neg List.not_mem_nil]; rfl
  rw [e0] at hS1
  -- the outer loop
  refine pu_d8.mpr (pu_up (fun k v => v.1 = nI k ∧ pr_S (pm_B tg s0 (15 * k)) v.2.1 v.2.2.2.2.1 v.2.2.2.2.2.2 ∧ pr_T q w (pm_F tg s0) (15 * k) v.2.2.2.2.2.1) (pm_F tg s0).length (by omega) ⟨rfl, hS1, fun i m h1 h2 => absurd h2 (by omega)⟩ ?_)
  rintro k ⟨v12, v13, a14, a15, a16, a17, a18⟩ hk ⟨e1, hS, hT⟩
  dsimp only at e1 hS hT ⊢
  subst e1
  unfold zb_X11_laysStands_37
  have hl := hBlen (15 * k)
  by_cases hc2 : (pm_B tg s0 (15 * k)).length ≤ k
  · have hF := pm_F_eq (tg := tg) (s0 := s0) (by omega) hc2
    rw [hF] at hS hc2
    rw [hS.1, if_pos ((pn_le (by omega) (by omega)).mpr hc2)]
    refine pu_out (by decide) (pu_some.mpr ⟨rfl, hS.2.1, ?_⟩)
    intro s hs' m hm
    obtain ⟨i, i1, i2⟩ := pm_mem_get hs'
    rw [← i2]
    exact hT i m hm (by omega)
  · have hkl : k < (pm_B tg s0 (15 * k)).length := by omega
    rw [hS.1, if_neg (fun z => hc2 ((pn_le (by omega) (by omega)).mp z)), ← hS.1]
    have hkF : k < (pm_F tg s0).length := (pm_F_pre tg s0 (c := 15 * k) (by omega) hkl).2
    have hsk : pm_st q ((pm_F tg s0).getD k 0) := hBst pm_N _ (pm_getD_mem hkF)
    generalize hske : (pm_F tg s0).getD k 0 = sk at hsk
    have hsklt := pm_st_lt hq hsk
    -- the inner loop
    refine pu_d8.mpr (pu_up (fun m v => v.1 = nI m ∧ pr_S (pm_B tg s0 (15 * k + m)) v.2.1 v.2.2.2.2.1 v.2.2.2.2.2.2 ∧ pr_T q w (pm_F tg s0) (15 * k + m) v.2.2.2.2.2.1) 15 (by omega) ⟨rfl, hS, hT⟩ ?_)
    rintro m ⟨v19, v20, a21, a22, a23, a24, a25⟩ hm ⟨e1, hS, hT⟩
    dsimp only at e1 hS hT ⊢
    subst e1
    unfold zb_X11_laysStands_47
    by_cases hc3 : 15 ≤ m
    · have : m = 15 := by omega
      subst this
      rw [if_pos ((pv_le 15 (by omega) (by omega)).mpr hc3)]
      refine pu_out (by decide) ?_
      dsimp only
      rw [pn_a1, pu_e1]
      exact pu_go ⟨hkF, rfl, hS, hT⟩
    · have hkc : k < (pm_B tg s0 (15 * k + m)).length := Nat.lt_of_lt_of_le hkl (pm_B_mono (by omega))
      have hstk : a23 k = nI sk := by rw [hS.2.1 k hkc, ← (pm_F_pre tg s0 (c := 15 * k + m) (by omega) hkc).1, hske]
      have hBs := pm_B_step (tg := tg) (s0 := s0) (i := k) (m := m) (by omega) hkc
      rw [← (pm_F_pre tg s0 (c := 15 * k + m) (by omega) hkc).1, hske] at hBs
      rw [if_neg (fun z => hc3 ((pv_le 15 (by omega) (by omega)).mp z)), pr_isMove ha h2 (by omega), pu_e1, pu_ld (by omega) (by omega), hstk, pv_ld 40 (by omega) (by omega), ha 40 (by omega), hwe]
      refine pu_d3.mpr (pu_mono (P := fun r => r.1 = pr_v q w sk m) ?_ ?_)
      · by_cases c1 : m < 3 ∨ (m - 3) % 6 < q 2
        · rw [if_pos c1, if_neg (by decide), pu_e1, pu_e1]
          refine pu_d3.mpr (pu_mono (pr_whyBy (by omega) ha hq hsk (by omega) hw) ?_)
          rintro ⟨r1, r2, r3⟩ e1
          dsimp only at e1 ⊢
          subst e1
          unfold pr_v
          by_cases c2 : pm_wy q w sk m = 0
          · rw [if_pos (by rw [c2]; rfl), pu_e1, pu_e1, if_pos c2]
            refine pu_d3.mpr (pu_mono (pr_actedTo (by omega) ha hq hsk (by omega) hw c2) ?_)
            rintro ⟨r4, r5, r6⟩ e1
            dsimp only at e1 ⊢
            exact pu_some.mpr e1
          · rw [if_neg (fun z => c2 ((pv_eq 0 (by omega) (by unfold pm_wy; repeat (first | omega | split))).mp z)), if_neg c2]
            exact pu_some.mpr rfl
        · rw [if_neg c1, if_pos (by decide)]
          have : ¬ pm_wy q w sk m = 0 := fun z => c1 (pm_wy_mv hq hsk (by omega) z)
          unfold pr_v
          rw [if_neg this]
          exact pu_some.mpr rfl
      · rintro ⟨v37, a38, a39⟩ e1
        dsimp only at e1 ⊢
        subst e1
        rw [pu_e1, pv_mul 15, pn_add, pu_st (by omega) (by omega), pu_e1]
        have hT' : pr_T q w (pm_F tg s0) (15 * k + (m + 1)) (va_up a24 (15 * sk + m) (pr_v q w sk m)) := by
          intro i m' h1 h2
          by_cases d : 15 * (pm_F tg s0).getD i 0 + m' = 15 * sk + m
          · have d1 : (pm_F tg s0).getD i 0 = sk := by omega
            rw [d, pu_upe, d1, show m' = m from by omega]
          · rw [pu_upn d]
            have : ¬ (i = k ∧ m' = m) := by
              rintro ⟨rfl, rfl⟩; exact d (by rw [hske])
            exact hT i m' h1 (by omega)
        refine pu_d3.mpr (pu_mono (P := fun r => pr_S (pm_B tg s0 (15 * k + m + 1)) r.1 r.2.1 r.2.2) ?_ ?_)
        · rw [hBs, hts]
          unfold pr_v pm_tgx pm_tgm pm_tg
          by_cases c2 : pm_wy q w sk m = 0
          · have hac := pm_acst hq hsk (by omega) c2
            have haclt := pm_st_lt hq hac
            rw [if_pos c2, if_neg (fun z => (pn_ne1 (by omega)).mp z), if_pos c2, if_pos c2]
            refine pu_d3.mpr (pu_mono (pr_adds (t := pm_ac q w sk m) hS haclt) ?_)
            rintro ⟨v42, a43, a44⟩ hS2
            dsimp only at hS2 ⊢
            rcases hmo with rfl | rfl
            · rw [if_pos (by decide), if_neg (by decide)]
              exact pu_some.mpr hS2
            · rw [if_neg (by decide), if_pos rfl]
              by_cases c3 : m = 1
              · have g1 := pm_st_lt hq (pm_gust_st hac)
                rw [if_pos (by rw [c3]; rfl), if_pos c3, pr_gust haclt, pu_e1]
                refine pu_d3.mpr (pu_mono (pr_adds hS2 g1) ?_)
                rintro ⟨v46, a47, a48⟩ hS3
                dsimp only at hS3 ⊢
                have h320 : 320 ≤ pm_ac q w sk m := by
                  obtain ⟨e, _⟩ := pm_acp hq hsk (by omega) c2
                  rw [e, c3]; unfold pm_sd; simp; omega
                rw [pv_sub 320 h320]
                refine pu_d3.mpr (pu_mono (pr_adds hS3 (by omega)) ?_)
                rintro ⟨v49, a50, a51⟩ hS4
                exact pu_some.mpr hS4
              · rw [if_neg (fun z => c3 ((pv_eq 1 (by omega) (by omega)).mp z)), if_neg c3]
                exact pu_some.mpr hS2
          · rw [if_neg c2, if_pos (show pz_m1 = (-1 : Int32) from rfl), if_neg c2, if_neg c2, ite_self]
            exact pu_some.mpr hS
        · rintro ⟨v52, a53, a54⟩ hS2
          dsimp only at hS2 ⊢
          rw [pn_a1, pu_e1]
          exact pu_go ⟨by omega, rfl, hS2, hT'⟩
