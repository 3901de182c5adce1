/-! attempt, on both sides -/
def pc_att (n : Nat) (top things tf tt mf mt : Int32) (bars gives rough code : Nat → Int32) (st nw v2 v3 : Int32) (a4 a5 a6 : Nat → Int32) : Option (Int32 × Int32 × (Nat → Int32) × (Nat → Int32) × (Nat → Int32)) :=
      zd_5 (
        if v2 = 0 then
          some ((-1 : Int32), v3, a4, a5, a6)
        else
          zd_5 (zf_X10_mostAlike n top things tf tt mf mt bars gives rough code st v3 a4 a5 a6 v2 (0 : Int32)) (fun v7 v8 a9 a10 a11 =>
          zd_2 (
            if (11 : Int32) ≤ v7 then
              some ((-1 : Int32), (11 : Int32))
            else
              some ((0 : Int32), v7)) (fun v12 v13 =>
          if v2 = 0 then
            some (v12, v8, a9, a10, a11)
          else
            zd_5 (zf_X10_mostAlike n top things tf tt mf mt bars gives rough code st v8 a9 a10 a11 v2 (1 : Int32)) (fun v14 v15 a16 a17 a18 =>
            zd_2 (
              if v13 ≤ v14 then
                some (v12, v13)
              else
                some ((1 : Int32), v14)) (fun v19 v20 =>
            if v2 = 0 then
              some (v19, v15, a16, a17, a18)
            else
              zd_5 (zf_X10_mostAlike n top things tf tt mf mt bars gives rough code st v15 a16 a17 a18 v2 (2 : Int32)) (fun v21 v22 a23 a24 a25 =>
              zd_2 (
                if v20 ≤ v21 then
                  some (v19, v20)
                else
                  some ((2 : Int32), v21)) (fun v26 v27 =>
              some (v26, v22, a23, a24, a25)))))))) (fun v28 v29 a30 a31 a32 =>
      zd_2 (zf_X2_useWind n v29 a30 nw) (fun v33 a34 =>
      some (v28, v33, a34, a31, a32)))
def pm_pk (g : Nat → Nat) : Nat → Int32 × Nat
  | 0 => ((-1 : Int32), 268435456)
  | i + 1 => if g i < (pm_pk g i).2 then (nI i, g i) else pm_pk g i
theorem pm_pk_le (g : Nat → Nat) : ∀ i, (pm_pk g i).2 ≤ 268435456 := by
  intro i
  induction i with
  | zero => exact Nat.le_refl _
  | succ i ih =>
    show (if g i < (pm_pk g i).2 then (nI i, g i) else pm_pk g i).2 ≤ 268435456
    split
    · show g i ≤ _; omega
    · exact ih
section PAu
variable {n : Nat} {q : Nat → Nat} {w s0 : Nat} {top things tf tt mf mt : Int32} {bars gives rough code told fa sk : Nat → Int32}
theorem pc_att_ok {g : Nat → Nat} {b w1 : Nat} (hn : 1000 ≤ n) (hq : pm_cliff q) (hK : pc_K q top things tf tt mf mt bars gives rough code) (h0 : pm_st q s0) (hw : w ≤ 9) (hw1 : w1 ≤ 9) (hT : pc_told q w1 told) (hb : b < 1024) (hg : ∀ m, m < 3 → pm_gr (pm_en q s0 m b) 10 (g m) ∧ g m ≤ 10) :
    pu_ok (pc_att n top things tf tt mf mt bars gives rough code (nI s0) (nI w) (nI b) (nI w1) told fa sk) (fun r => r.1 = (if b = 0 then (-1 : Int32) else (pm_pk g 3).1) ∧ r.2.1 = nI w ∧ pc_told q w r.2.2.1) := by
  unfold pc_att
  have hmid : pu_ok (
        if nI b = 0 then
          some ((-1 : Int32), nI w1, told, fa, sk)
        else
          zd_5 (zf_X10_mostAlike n top things tf tt mf mt bars gives rough code (nI s0) (nI w1) told fa sk (nI b) (0 : Int32)) (fun v7 v8 a9 a10 a11 =>
          zd_2 (
            if (11 : Int32) ≤ v7 then
              some ((-1 : Int32), (11 : Int32))
            else
              some ((0 : Int32), v7)) (fun v12 v13 =>
          if nI b = 0 then
            some (v12, v8, a9, a10, a11)
          else
            zd_5 (zf_X10_mostAlike n top things tf tt mf mt bars gives rough code (nI s0) v8 a9 a10 a11 (nI b) (1 : Int32)) (fun v14 v15 a16 a17 a18 =>
            zd_2 (
              if v13 ≤ v14 then
                some (v12, v13)
              else
                some ((1 : Int32), v14)) (fun v19 v20 =>
            if nI b = 0 then
              some (v19, v15, a16, a17, a18)
            else
              zd_5 (zf_X10_mostAlike n top things tf tt mf mt bars gives rough code (nI s0) v15 a16 a17 a18 (nI b) (2 : Int32)) (fun v21 v22 a23 a24 a25 =>
              zd_2 (
                if v20 ≤ v21 then
                  some (v19, v20)
                else
                  some ((2 : Int32), v21)) (fun v26 v27 =>
              some (v26, v22, a23, a24, a25)))))))) (fun r => r.1 = (if b = 0 then (-1 : Int32) else (pm_pk g 3).1) ∧ ∃ w2, w2 ≤ 9 ∧ r.2.1 = nI w2 ∧ pc_told q w2 r.2.2.1) := by
    by_cases c : b = 0
    · rw [if_pos ((pv_eq 0 (by omega) (by omega)).mpr c), if_pos c]
      exact pu_some.mpr ⟨rfl, w1, hw1, rfl, hT⟩
    have cn : ¬ nI b = (0 : Int32) := fun z => c ((pv_eq 0 (by omega) (by omega)).mp z)
    rw [if_neg cn, if_neg c]
    refine pu_d5.mpr (pu_mono (pc_mostAlike (m := 0) hn hq hK h0 hw1 hT (by omega) hb) ?_)
    rintro ⟨x1, x2, x3, x4, x5⟩ ⟨g0, w2, y1, y2, y3, y4, y5, y6⟩
    dsimp only at y3 y5 y6 ⊢
    subst y3 y5
    have e0 := pm_gr_u y1 (hg 0 (by omega)).1
    subst e0
    rw [if_neg (fun z => by have := (pv_le 11 (by omega) (by omega)).mp z; omega), pu_e2, if_neg cn]
    refine pu_d5.mpr (pu_mono (pc_mostAlike (m := 1) hn hq hK h0 y4 y6 (by omega) hb) ?_)
    rintro ⟨x1, x2, x3, x4, x5⟩ ⟨g1, w3, z1, z2, z3, z4, z5, z6⟩
    dsimp only at z3 z5 z6 ⊢
    subst z3 z5
    have e1 := pm_gr_u z1 (hg 1 (by omega)).1
    subst e1
    have h2 : (if nI (g 0) ≤ nI (g 1) then some ((0 : Int32), nI (g 0)) else some ((1 : Int32), nI (g 1))) = some ((pm_pk g 2).1, nI (pm_pk g 2).2) := by
      have p1 : pm_pk g 1 = (nI 0, g 0) := if_pos (show g 0 < 268435456 by omega)
      have p2 : pm_pk g 2 = if g 1 < (pm_pk g 1).2 then (nI 1, g 1) else pm_pk g 1 := rfl
      rw [p2, p1]
      by_cases f : g 1 < g 0
      · rw [if_neg (fun z => by have := (pn_le (by omega) (by omega)).mp z; omega), if_pos f]; rfl
      · rw [if_pos ((pn_le (by omega) (by omega)).mpr (by omega)), if_neg f]; rfl
    rw [h2, pu_e2, if_neg cn]
    refine pu_d5.mpr (pu_mono (pc_mostAlike (m := 2) hn hq hK h0 z4 z6 (by omega) hb) ?_)
    rintro ⟨x1, x2, x3, x4, x5⟩ ⟨g2, w4, u1, u2, u3, u4, u5, u6⟩
    dsimp only at u3 u5 u6 ⊢
    subst u3 u5
    have e2 := pm_gr_u u1 (hg 2 (by omega)).1
    subst e2
    have hp2 := pm_pk_le g 2
    have h3 : (if nI (pm_pk g 2).2 ≤ nI (g 2) then some ((pm_pk g 2).1, nI (pm_pk g 2).2) else some ((2 : Int32), nI (g 2))) = some ((pm_pk g 3).1, nI (pm_pk g 3).2) := by
      have p3 : pm_pk g 3 = if g 2 < (pm_pk g 2).2 then (nI 2, g 2) else pm_pk g 2 := rfl
      rw [p3]
      by_cases f : g 2 < (pm_pk g 2).2
      · rw [if_neg (fun z => by have := (pn_le (by omega) (by omega)).mp z; omega), if_pos f]; rfl
      · rw [if_pos ((pn_le (by omega) (by omega)).mpr (by omega)), if_neg f]
    rw [h3, pu_e2]
    exact pu_some.mpr ⟨rfl, w4, u4, rfl, u6⟩
  refine pu_d5.mpr (pu_mono hmid ?_)
  rintro ⟨x1, x2, x3, x4, x5⟩ ⟨y1, w2, y2, y3, y4⟩
  dsimp only at y1 y3 y4 ⊢
  subst y3
  refine pu_d2.mpr (pu_mono (pc_useWind hn hq y2 hw y4) ?_)
  rintro ⟨z1, z2⟩ ⟨z3, z4⟩
  exact pu_some.mpr ⟨y1, z3, z4⟩
theorem pp_attempt {all rk wds sb missing tsize tsort rs rm : Nat → Int32} {trn : Nat → Nat → Int64} {num : Nat → Int64} {thrown p1 : Int32} (hn : 1000 ≤ n) (ha : pr_all all q) (hq : pm_cliff q) (hw9 : w ≤ 9) (hs : pm_now q = s0) (h0 : pm_st q s0) (hK : pc_K q top things tf tt mf mt bars gives rough code) (hT : pc_told q w told) (htr : pp_tr missing tsize tsort trn rs rm num) :
    ∃ v, pu_ok (zf_X10_attempt n top things tf tt mf mt bars gives rough code (nI s0) (nI w) (nI w) told fa sk missing tsize trn p1) (fun r => r.1 = v ∧ r.2.1 = nI w ∧ pc_told q w r.2.2.1) ∧ pu_ok (zf_X11_attempt n thrown all rk wds sb rs rm num p1) (fun r => r.1 = v) := by
  obtain ⟨c, c1, c2, c3⟩ := pp_tiredR (n := n) (p := p1) (by omega) htr
  rcases c3 with c3 | ⟨rfl, t, L, ht, rfl, hL1, hL, hsz, hrm, hnum⟩
  · refine ⟨c, ?_, ?_⟩
    · unfold zf_X10_attempt
      rw [c1, pu_e1, if_neg c3]
      exact pu_some.mpr ⟨rfl, rfl, hT⟩
    · unfold zf_X11_attempt
      rw [c2, pu_e1, if_neg c3]
      exact pu_some.mpr rfl
  obtain ⟨b, hb, hbw⟩ := pm_ws_n q s0 (fun k => (trn t k).toInt) L 10 (by omega)
  have hb : b < 1024 := hb
  obtain ⟨_, _, g0, g0a, g0b, _⟩ := pr_mostAlike (n := n) (rk := rk) (wds := wds) (sb := sb) (m := 0) (b := b) hn ha hq hs h0 (by omega) hb
  obtain ⟨_, _, g1, g1a, g1b, _⟩ := pr_mostAlike (n := n) (rk := rk) (wds := wds) (sb := sb) (m := 1) (b := b) hn ha hq hs h0 (by omega) hb
  obtain ⟨_, _, g2, g2a, g2b, _⟩ := pr_mostAlike (n := n) (rk := rk) (wds := wds) (sb := sb) (m := 2) (b := b) hn ha hq hs h0 (by omega) hb
  have hg : ∃ g : Nat → Nat, ∀ m, m < 3 → pm_gr (pm_en q s0 m b) 10 (g m) ∧ g m ≤ 10 := by
    refine ⟨fun m => if m = 0 then g0 else if m = 1 then g1 else g2, fun m hm => ?_⟩
    have : m = 0 ∨ m = 1 ∨ m = 2 := by omega
    rcases this with rfl | rfl | rfl
    · exact ⟨g0a, g0b⟩
    · exact ⟨g1a, g1b⟩
    · exact ⟨g2a, g2b⟩
  clear g0a g0b g1a g1b g2a g2b
  obtain ⟨g, hg⟩ := hg
  refine ⟨if b = 0 then (-1 : Int32) else (pm_pk g 3).1, ?_, ?_⟩
  · have key : zf_X10_attempt n top things tf tt mf mt bars gives rough code (nI s0) (nI w) (nI w) told fa sk missing tsize trn (nI t) = zd_5 (zf_X10_windsThatTire n top things tf tt mf mt bars gives rough code (nI s0) (nI w) (nI w) told fa sk (tsize t) (trn t)) (fun v2 v3 a4 a5 a6 => pc_att n top things tf tt mf mt bars gives rough code (nI s0) (nI w) v2 v3 a4 a5 a6) := by
      unfold zf_X10_attempt
      rw [c1, pu_e1, if_pos rfl]
      rcases pp_4 ht with rfl | rfl | rfl | rfl
      · rw [if_pos (by decide)]; rfl
      · rw [if_neg (by decide), if_pos (by decide)]; rfl
      · rw [if_neg (by decide), if_neg (by decide), if_pos (by decide)]; rfl
      · rw [if_neg (by decide), if_neg (by decide), if_neg (by decide), if_pos (by decide)]; rfl
    rw [key, hsz]
    refine pu_d5.mpr (pu_mono (pc_windsTire hn hq hK hT h0 hw9 (show L ≤ 40 by omega) (fun k _ => rfl)) ?_)
    rintro ⟨v2, v3, a4, a5, a6⟩ ⟨y1, y2, y3⟩
    dsimp only at y1 y2 y3 ⊢
    subst y1 y2
    rw [hbw]
    exact pc_att_ok hn hq hK h0 hw9 hw9 y3 hb hg
  · unfold zf_X11_attempt
    rw [c2, pu_e1, if_pos rfl]
    refine pu_d3.mpr (pu_mono (pr_windsOf (sz := L) (c := fun k => (trn t k).toInt) hn ha hq hs h0 ht (by omega) hrm (fun k hk => by rw [(hnum k hk).1])) ?_)
    rintro ⟨v2, a3, a4⟩ y1
    dsimp only at y1 ⊢
    rw [y1, hbw]
    refine pu_d7.mpr (pu_up (fun i v => (b = 0 → i = 0) ∧ v.1 = (pm_pk g i).1 ∧ v.2.1 = nI (pm_pk g i).2 ∧ v.2.2.1 = nI i) 3 (by omega) ⟨fun _ => rfl, rfl, rfl, rfl⟩ ?_)
    rintro i ⟨v5, v6, v7, a8, a9, a10⟩ hi ⟨e0, e1, e2, e3⟩
    dsimp only at e0 e1 e2 e3 ⊢
    subst e1 e2 e3
    unfold zb_X11_attempt_34
    by_cases hd : 3 ≤ i
    · have : i = 3 := by omega
      subst this
      rw [if_pos ((pv_le 3 (by omega) (by omega)).mpr hd)]
      refine pu_out (by decide) (pu_some.mpr ?_)
      have hb0 : ¬ b = 0 := fun z => by have := e0 z; omega
      rw [if_neg hb0]
    rw [if_neg (fun z => hd ((pv_le 3 (by omega) (by omega)).mp z))]
    by_cases hb0 : b = 0
    · have : i = 0 := e0 hb0
      subst this
      rw [if_pos ((pv_eq 0 (by omega) (by omega)).mpr hb0)]
      refine pu_out (by decide) (pu_some.mpr ?_)
      rw [if_pos hb0]; rfl
    rw [if_neg (fun z => hb0 ((pv_eq 0 (by omega) (by omega)).mp z))]
    refine pu_d4.mpr (pu_mono (pr_mostAlike (m := i) hn ha hq hs h0 (by omega) hb) ?_)
    rintro ⟨x1, x2, x3, x4⟩ ⟨h, z1, z2, z3⟩
    dsimp only at z3 ⊢
    subst z3
    have e9 := pm_gr_u z1 (hg i (by omega)).1
    subst e9
    have hle := pm_pk_le g i
    have hs3 : (if nI (g i) < nI (pm_pk g i).2 then some (nI i, nI (g i)) else some ((pm_pk g i).1, nI (pm_pk g i).2)) = some ((pm_pk g (i + 1)).1, nI (pm_pk g (i + 1)).2) := by
      have p1 : pm_pk g (i + 1) = if g i < (pm_pk g i).2 then (nI i, g i) else pm_pk g i := rfl
      rw [p1]
      by_cases f : g i < (pm_pk g i).2
      · rw [if_pos ((pn_lt (by omega) (by omega)).mpr f), if_pos f]
      · rw [if_neg (fun z => f ((pn_lt (by omega) (by omega)).mp z)), if_neg f]
    rw [hs3, pu_e2, pn_a1, pu_e1]
    exact pu_go ⟨by omega, fun z => absurd z hb0, rfl, rfl, rfl⟩
end PAu
