/-! seen, seenBy, surely on both sides -/
theorem pn_ofL {x : Int64} (h : -1 ≤ x.toInt ∧ x.toInt ≤ 6) : (Int64.toInt32 x = (-1 : Int32) ↔ x = (-1 : Int64)) ∧ ∀ c, c ≤ 6 → (Int64.toInt32 x = nI c ↔ x = Int32.toInt64 (nI c)) := by
  have e : Int64.toInt32 x = Int32.ofInt x.toInt := (Int32.ofInt_int64ToInt x).symm
  rw [e]
  constructor
  · rw [show (-1 : Int32) = Int32.ofInt (-1) from by decide, pi_eq (by omega) (by omega) (by omega) (by omega), ← Int64.toInt_inj, show (-1 : Int64).toInt = -1 from by decide]
  · intro c hc
    rw [pi_nI, pi_eq (by omega) (by omega) (by omega) (by omega), ← Int64.toInt_inj, Int32.toInt_toInt64, pi_to (by omega) (by omega)]
section PA
variable {n : Nat} {q : Nat → Nat} {w s0 : Nat} {top things tf tt mf mt : Int32} {bars gives rough code told fa sk : Nat → Int32}
def pm_W (num : Nat → Int64) (t : Nat) (i s : Nat) : Bool := decide (num (40 * t + i) = (-1 : Int64) ∨ num (40 * t + i) = Int32.toInt64 (nI (pm_pc (pm_hs s))))
theorem pr_Wm (num : Nat → Int64) (t L : Nat) : pr_W (pm_W num t) num t L := fun i s _ => by unfold pm_W; rw [decide_eq_true_eq]
theorem pc_want {a num : Nat → Int64} {wanted : Nat → Int32} {len : Int32} {t L : Nat} (hn : 100 ≤ n) (hL : L ≤ 6) (hnum : ∀ k, k < L → a k = num (40 * t + k) ∧ -1 ≤ (a k).toInt ∧ (a k).toInt ≤ 6) : pu_ok (zf_X6_want n len wanted (nI L) a) (fun r => r.1 = nI L ∧ pc_W (pm_W num t) r.2 L) := by
  unfold zf_X6_want
  rw [if_neg (show ¬ (10 : Int32) < nI L from fun z => by have := (pv_lt 10 (by omega) (by omega)).mp z; omega), pu_e1]
  refine pu_d3.mpr (pu_up (fun i v => v.1 = nI i ∧ ∀ j, j < i → v.2 j = Int64.toInt32 (a j)) L (by omega) ⟨rfl, fun j h => absurd h (by omega)⟩ ?_)
  rintro i ⟨v2, a3⟩ hi ⟨e1, e2⟩
  dsimp only at e1 e2 ⊢
  subst e1
  unfold zb_X6_want_15
  by_cases hcc : L ≤ i
  · rw [if_pos ((pn_le (by omega) (by omega)).mpr hcc)]
    refine pu_out (by decide) (pu_some.mpr ⟨rfl, ?_⟩)
    intro j s hj
    dsimp only
    obtain ⟨h1, h2⟩ := hnum j hj
    have h3 := pn_ofL h2
    rw [e2 j (by omega), h3.1, h3.2 _ (pb_pcle _ (pm_hs_lt s)), h1]
    unfold pm_W
    rw [decide_eq_true_eq]
  · rw [if_neg (fun z => hcc ((pn_le (by omega) (by omega)).mp z)), pu_ld (by omega) (by omega), pu_e1, pu_st (by omega) (by omega), pu_e1, pn_a1, pu_e1]
    refine pu_go ⟨by omega, rfl, ?_⟩
    intro j hj
    dsimp only
    by_cases f : j = i
    · subst f; rw [pu_upe]
    · rw [pu_upn f]; exact e2 j (by omega)
theorem pc_tallySeen {missing tsize : Nat → Int32} {trn : Nat → Nat → Int64} {num : Nat → Int64} {size known found : Int32} {deeds ends order depth from1 : Nat → Int32} {k1 k2 : Nat → Int64} {len : Int32} {wanted lv : Nat → Int32} {A1 A2 t L : Nat} (hn : 10000 ≤ n) (hq : pm_cliff q) (hw9 : w ≤ 9) (h0 : pm_st q s0) (hK : pc_K q top things tf tt mf mt bars gives rough code) (hT : pc_told q w told) (hC : pc_com q w s0 size known order depth from1) (ht : t < 4) (hL1 : 1 ≤ L) (hL : L ≤ 6) (hsz : tsize t = nI L) (hnum : ∀ k, k < L → trn t k = num (40 * t + k) ∧ -1 ≤ (trn t k).toInt ∧ (trn t k).toInt ≤ 6) (hr : zf_X10_toldRefused n missing tsize trn (nI t) (6 : Int32) (-1 : Int32) (6 : Int32) = some 0) :
    pu_ok (zf_X10_tallySeen n top things tf tt mf mt bars gives rough code (nI s0) (nI w) told fa sk found deeds ends size known order depth from1 len wanted A1 k1 A2 k2 lv missing tsize trn (nI t)) (fun r => r.1 = 0 ∧ pc_X q w s0 r.2.2.2.2.2.2.2.1 r.2.2.2.2.2.2.2.2.2.1 r.2.2.2.2.2.2.2.2.2.2.1 r.2.2.2.2.2.2.2.2.2.2.2.1 ∧ r.2.2.2.2.2.2.2.2.2.2.2.2.1 = nI L ∧ pc_cnt q w s0 (pm_W num t) L r.2.2.2.2.2.2.2.2.2.2.2.2.2.2.2.1 r.2.2.2.2.2.2.2.2.2.2.2.2.2.2.2.2.2.2 ∧ pc_told q w r.2.1 ∧ pc_com q w s0 r.2.2.2.2.2.2.2.1 r.2.2.2.2.2.2.2.2.1 r.2.2.2.2.2.2.2.2.2.1 r.2.2.2.2.2.2.2.2.2.2.1 r.2.2.2.2.2.2.2.2.2.2.2.1 ∧ (r.2.2.2.2.2.2.2.2.2.2.2.2.2.2.1 = A1 ∧ r.2.2.2.2.2.2.2.2.2.2.2.2.2.2.2.2.1 = A2 ∨ r.2.2.2.2.2.2.2.2.2.2.2.2.2.2.1 = A2 ∧ r.2.2.2.2.2.2.2.2.2.2.2.2.2.2.2.2.1 = A1)) := by
  unfold zf_X10_tallySeen
  rw [hr, pu_e1, if_pos rfl]
  refine pu_d18.mpr (pu_d11.mpr (pu_mono (pc_explore hn hq hK hT hw9 h0 hC) ?_))
  rintro ⟨y1, y2, y3, y4, y5, y6, y7, y8, y9, y10, y11⟩ ⟨hX, hy1, hy2⟩
  dsimp only at hX hy1 hy2 ⊢
  have key : pu_ok (zd_2 (zf_X6_want n len wanted (tsize t) (trn t)) (fun v13 a14 => zd_11 (zf_X6_tally n v13 y3 top things tf tt mf mt bars gives rough code (nI w) y4 y5 y6 y7 y8 y1 y9 y10 a14 A1 k1 A2 k2 lv (nI s0)) (fun v15 a16 a17 a18 a19 a20 v21 a22 v23 a24 a25 => some (v15, y1, y2, v13, a16, a17, a18, a19, a20, y9, y10, y11, a14, a22, a24, a25, v21, v23)))) (fun x => pu_ok (some ((0 : Int32), x.2.2.2.2.1, x.2.2.2.2.2.1, x.2.2.2.2.2.2.1, x.1, x.2.2.2.2.2.2.2.1, x.2.2.2.2.2.2.2.2.1, x.2.1, x.2.2.1, x.2.2.2.2.2.2.2.2.2.1, x.2.2.2.2.2.2.2.2.2.2.1, x.2.2.2.2.2.2.2.2.2.2.2.1, x.2.2.2.1, x.2.2.2.2.2.2.2.2.2.2.2.2.1, x.2.2.2.2.2.2.2.2.2.2.2.2.2.2.2.2.1, x.2.2.2.2.2.2.2.2.2.2.2.2.2.1, x.2.2.2.2.2.2.2.2.2.2.2.2.2.2.2.2.2, x.2.2.2.2.2.2.2.2.2.2.2.2.2.2.1, x.2.2.2.2.2.2.2.2.2.2.2.2.2.2.2.1)) (fun r => r.1 = 0 ∧ pc_X q w s0 r.2.2.2.2.2.2.2.1 r.2.2.2.2.2.2.2.2.2.1 r.2.2.2.2.2.2.2.2.2.2.1 r.2.2.2.2.2.2.2.2.2.2.2.1 ∧ r.2.2.2.2.2.2.2.2.2.2.2.2.1 = nI L ∧ pc_cnt q w s0 (pm_W num t) L r.2.2.2.2.2.2.2.2.2.2.2.2.2.2.2.1 r.2.2.2.2.2.2.2.2.2.2.2.2.2.2.2.2.2.2 ∧ pc_told q w r.2.1 ∧ pc_com q w s0 r.2.2.2.2.2.2.2.1 r.2.2.2.2.2.2.2.2.1 r.2.2.2.2.2.2.2.2.2.1 r.2.2.2.2.2.2.2.2.2.2.1 r.2.2.2.2.2.2.2.2.2.2.2.1 ∧ (r.2.2.2.2.2.2.2.2.2.2.2.2.2.2.1 = A1 ∧ r.2.2.2.2.2.2.2.2.2.2.2.2.2.2.2.2.1 = A2 ∨ r.2.2.2.2.2.2.2.2.2.2.2.2.2.2.1 = A2 ∧ r.2.2.2.2.2.2.2.2.2.2.2.2.2.2.2.2.1 = A1))) := by
    rw [hsz]
    refine pu_d2.mpr (pu_mono (pc_want (by omega) hL hnum) ?_)
    rintro ⟨v13, a14⟩ ⟨g1, g2⟩
    dsimp only at g1 g2 ⊢
    subst g1
    refine pu_d11.mpr (pu_mono (pc_tally hn hq hK hy2 hw9 h0 hX g2 (by omega)) ?_)
    rintro ⟨v15, a16, a17, a18, a19, a20, v21, a22, v23, a24, a25⟩ ⟨o1, o2, o3⟩
    dsimp only at o1 o2 o3 ⊢
    exact pu_some.mpr (pu_some.mpr ⟨rfl, hX, rfl, o1, o2, Or.inr ⟨hy1, hX⟩, o3⟩)
  rcases pp_4 ht with rfl | rfl | rfl | rfl
  · rw [if_pos (by decide)]; exact key
  · rw [if_neg (by decide), if_pos (by decide)]; exact key
  · rw [if_neg (by decide), if_neg (by decide), if_pos (by decide)]; exact key
  · rw [if_neg (by decide), if_neg (by decide), if_neg (by decide), if_pos (by decide)]; exact key
theorem pc_tallyNo {missing tsize : Nat → Int32} {trn : Nat → Nat → Int64} {size known found : Int32} {deeds ends order depth from1 : Nat → Int32} {k1 k2 : Nat → Int64} {len : Int32} {wanted lv : Nat → Int32} {A1 A2 : Nat} {p c : Int32} (hr : zf_X10_toldRefused n missing tsize trn p (6 : Int32) (-1 : Int32) (6 : Int32) = some c) (hc : ¬ c = 0) :
    zf_X10_tallySeen n top things tf tt mf mt bars gives rough code (nI s0) (nI w) told fa sk found deeds ends size known order depth from1 len wanted A1 k1 A2 k2 lv missing tsize trn p = some (c, told, fa, sk, found, deeds, ends, size, known, order, depth, from1, len, wanted, A1, k1, A2, k2, lv) := by
  unfold zf_X10_tallySeen
  rw [hr, pu_e1, if_neg hc]; rfl
theorem pp_seen {all rk wds stand th known1 : Nat → Int32} {thrown many : Int32} {size known found : Int32} {deeds ends order depth from1 : Nat → Int32} {missing tsize tsort rs rm : Nat → Int32} {trn : Nat → Nat → Int64} {num on k1 k2 : Nat → Int64} {len : Int32} {wanted lv : Nat → Int32} {A1 A2 : Nat} {p1 : Int32} (hn : 10000 ≤ n) (ha : pr_all all q) (hq : pm_cliff q) (hw : q 40 = w) (hw9 : w ≤ 9) (hs : pm_now q = s0) (h0 : pm_st q s0) (hK : pc_K q top things tf tt mf mt bars gives rough code) (hT : pc_told q w told) (hC : pc_com q w s0 size known order depth from1) (htr : pp_tr missing tsize tsort trn rs rm num) :
    ∃ v, pu_ok (zf_X10_seen n top things tf tt mf mt bars gives rough code (nI s0) (nI w) told fa sk found deeds ends size known order depth from1 len wanted A1 k1 A2 k2 lv missing tsize trn p1) (fun r => r.1 = v ∧ pc_told q w r.2.1 ∧ pc_com q w s0 r.2.2.2.2.2.2.2.1 r.2.2.2.2.2.2.2.2.1 r.2.2.2.2.2.2.2.2.2.1 r.2.2.2.2.2.2.2.2.2.2.1 r.2.2.2.2.2.2.2.2.2.2.2.1 ∧ (r.2.2.2.2.2.2.2.2.2.2.2.2.2.2.1 = A1 ∧ r.2.2.2.2.2.2.2.2.2.2.2.2.2.2.2.2.1 = A2 ∨ r.2.2.2.2.2.2.2.2.2.2.2.2.2.2.1 = A2 ∧ r.2.2.2.2.2.2.2.2.2.2.2.2.2.2.2.2.1 = A1)) ∧ pu_ok (zf_X11_seen n thrown many all rk wds stand th known1 on rs rm num p1) (fun r => r.1 = v) := by
  obtain ⟨c, c1, c2, c3⟩ := pp_seenR (n := n) (p := p1) (by omega) htr
  rcases c3 with c3 | ⟨rfl, t, L, ht, rfl, hL1, hL, hsz, hrm, hnum⟩
  · refine ⟨Int32.toInt64 c, ?_, ?_⟩
    · unfold zf_X10_seen
      rw [pc_tallyNo c1 c3]
      show pu_ok (if c = 0 then _ else _) _
      rw [if_neg c3]
      exact pu_some.mpr ⟨rfl, hT, hC, Or.inl ⟨rfl, rfl⟩⟩
    · unfold zf_X11_seen
      rw [c2, pu_e1, if_neg c3]
      exact pu_some.mpr rfl
  have hcl := pm_L_cl (q := q) (w := w) hq h0
  have hF0 := pm_F_0 (pm_tg q w) s0
  have hs0 : s0 ∈ (pm_F (pm_tg q w) s0) := by have := pm_getD_mem hF0.2; rw [hF0.1] at this; exact this
  refine ⟨nL (pm_O q w (pm_W num t) L (fun _ => 1) L s0), ?_, ?_⟩
  · unfold zf_X10_seen
    refine pu_d19.mpr (pu_mono (pc_tallySeen hn hq hw9 h0 hK hT hC ht hL1 hL hsz hnum c1) ?_)
    rintro ⟨r1, r2, r3, r4, r5, r6, r7, r8, r9, r10, r11, r12, r13, r14, r15, r16, r17, r18, r19⟩ ⟨o1, o2, o3, o4, o5, o6, o7⟩
    dsimp only at o1 o2 o3 o4 o5 o6 o7 ⊢
    subst o1 o3
    rw [if_pos rfl, pc_ending (C := fun _ => true) (r := 0) (t := 0) hn hq h0 o2 (by omega) o4 (Or.inl ⟨rfl, rfl, fun _ => rfl⟩), pu_e1]
    refine pu_some.mpr ⟨?_, o5, o6, o7⟩
    dsimp only
    rw [← pm_adn (q := q) (w := w) (F := (pm_F (pm_tg q w) s0)) (W := pm_W num t) (n := L) (e := fun _ => 1) hcl hs0]
    congr 1
    refine pm_si_congr _ ?_
    intro i _
    rw [if_pos rfl, Nat.mul_one]
  · unfold zf_X11_seen
    rw [c2, pu_e1, if_pos rfl]
    refine pu_d6.mpr (pu_mono (pr_laysStands (more := 0) hn ha hq (by omega) (by rw [hs]; exact h0) (Or.inl rfl)) ?_)
    rintro ⟨x1, x2, x3, x4, x5, x6⟩ hls
    dsimp only at hls ⊢
    rw [pm_tgx0, hw, hs] at hls
    refine pu_d2.mpr (pu_mono (pr_laysSeen (e := fun _ => 1) hn ha hq hs h0 hls ht hL hrm (pr_Wm num t L) (Or.inl ⟨rfl, fun _ => rfl⟩)) ?_)
    rintro ⟨v8, a9⟩ ⟨g1, g2⟩
    exact pu_some.mpr g1
theorem pp_surely {all rk wds stand th known1 : Nat → Int32} {thrown many : Int32} {size known found : Int32} {deeds ends order depth from1 : Nat → Int32} {missing tsize tsort rs rm : Nat → Int32} {trn : Nat → Nat → Int64} {num on k1 k2 : Nat → Int64} {len : Int32} {wanted lv : Nat → Int32} {A1 A2 : Nat} {p1 : Int32} (hn : 10000 ≤ n) (ha : pr_all all q) (hq : pm_cliff q) (hw : q 40 = w) (hw9 : w ≤ 9) (hs : pm_now q = s0) (h0 : pm_st q s0) (hK : pc_K q top things tf tt mf mt bars gives rough code) (hT : pc_told q w told) (hC : pc_com q w s0 size known order depth from1) (htr : pp_tr missing tsize tsort trn rs rm num) :
    ∃ v, pu_ok (zf_X10_surely n top things tf tt mf mt bars gives rough code (nI s0) (nI w) told fa sk found deeds ends size known order depth from1 len wanted A1 k1 A2 k2 lv missing tsize trn p1) (fun r => r.1 = v ∧ pc_told q w r.2.1 ∧ pc_com q w s0 r.2.2.2.2.2.2.2.1 r.2.2.2.2.2.2.2.2.1 r.2.2.2.2.2.2.2.2.2.1 r.2.2.2.2.2.2.2.2.2.2.1 r.2.2.2.2.2.2.2.2.2.2.2.1 ∧ (r.2.2.2.2.2.2.2.2.2.2.2.2.2.2.1 = A1 ∧ r.2.2.2.2.2.2.2.2.2.2.2.2.2.2.2.2.1 = A2 ∨ r.2.2.2.2.2.2.2.2.2.2.2.2.2.2.1 = A2 ∧ r.2.2.2.2.2.2.2.2.2.2.2.2.2.2.2.2.1 = A1)) ∧ pu_ok (zf_X11_surely n thrown many all rk wds stand th known1 on rs rm num p1) (fun r => r.1 = v) := by
  obtain ⟨c, c1, c2, c3⟩ := pp_seenR (n := n) (p := p1) (by omega) htr
  rcases c3 with c3 | ⟨rfl, t, L, ht, rfl, hL1, hL, hsz, hrm, hnum⟩
  · refine ⟨c, ?_, ?_⟩
    · unfold zf_X10_surely
      rw [pc_tallyNo c1 c3]
      show pu_ok (if c = 0 then _ else _) _
      rw [if_neg c3]
      exact pu_some.mpr ⟨rfl, hT, hC, Or.inl ⟨rfl, rfl⟩⟩
    · unfold zf_X11_surely
      rw [c2, pu_e1, if_neg c3]
      exact pu_some.mpr rfl
  have hcl := pm_L_cl (q := q) (w := w) hq h0
  have hF0 := pm_F_0 (pm_tg q w) s0
  have hs0 : s0 ∈ (pm_F (pm_tg q w) s0) := by have := pm_getD_mem hF0.2; rw [hF0.1] at this; exact this
  have hcls : pu_ok (zf_X10_surely n top things tf tt mf mt bars gives rough code (nI s0) (nI w) told fa sk found deeds ends size known order depth from1 len wanted A1 k1 A2 k2 lv missing tsize trn (nI t)) (fun r => ((r.1 = 0 ∧ ∀ i, i < (pm_F (pm_tg q w) s0).length → pm_fw q w (pm_F (pm_tg q w) s0) (pm_W num t) s0 L ((pm_F (pm_tg q w) s0).getD i 0) = 0) ∨ ((∃ i, i < (pm_F (pm_tg q w) s0).length ∧ ¬ pm_fw q w (pm_F (pm_tg q w) s0) (pm_W num t) s0 L ((pm_F (pm_tg q w) s0).getD i 0) = 0) ∧ ∃ x, x < 64 ∧ r.1 = nI x ∧ ∀ b, b < 6 → (x.testBit b = true ↔ ∀ i, i < (pm_F (pm_tg q w) s0).length → ¬ pm_fw q w (pm_F (pm_tg q w) s0) (pm_W num t) s0 L ((pm_F (pm_tg q w) s0).getD i 0) = 0 → (pm_hs ((pm_F (pm_tg q w) s0).getD i 0)).testBit b = true))) ∧ pc_told q w r.2.1 ∧ pc_com q w s0 r.2.2.2.2.2.2.2.1 r.2.2.2.2.2.2.2.2.1 r.2.2.2.2.2.2.2.2.2.1 r.2.2.2.2.2.2.2.2.2.2.1 r.2.2.2.2.2.2.2.2.2.2.2.1 ∧ (r.2.2.2.2.2.2.2.2.2.2.2.2.2.2.1 = A1 ∧ r.2.2.2.2.2.2.2.2.2.2.2.2.2.2.2.2.1 = A2 ∨ r.2.2.2.2.2.2.2.2.2.2.2.2.2.2.1 = A2 ∧ r.2.2.2.2.2.2.2.2.2.2.2.2.2.2.2.2.1 = A1)) := by
    unfold zf_X10_surely
    refine pu_d19.mpr (pu_mono (pc_tallySeen hn hq hw9 h0 hK hT hC ht hL1 hL hsz hnum c1) ?_)
    rintro ⟨r1, r2, r3, r4, r5, r6, r7, r8, r9, r10, r11, r12, r13, r14, r15, r16, r17, r18, r19⟩ ⟨o1, o2, o3, o4, o5, o6, o7⟩
    dsimp only at o1 o2 o3 o4 o5 o6 o7 ⊢
    subst o1 o3
    rw [if_pos rfl]
    refine pu_d1.mpr (pu_mono (pc_common hn hq h0 o2 (by omega) o4) ?_)
    intro v hv
    exact pu_some.mpr ⟨hv, o5, o6, o7⟩
  obtain ⟨z, hz, hz2, hz3⟩ := hcls
  refine ⟨z.1, ⟨z, hz, rfl, hz3⟩, ?_⟩
  unfold zf_X11_surely
  rw [c2, pu_e1, if_pos rfl]
  refine pu_d6.mpr (pu_mono (pr_laysStands (more := 0) hn ha hq (by omega) (by rw [hs]; exact h0) (Or.inl rfl)) ?_)
  rintro ⟨x1, x2, x3, x4, x5, x6⟩ hls
  dsimp only at hls ⊢
  rw [pm_tgx0, hw, hs] at hls
  refine pu_d2.mpr (pu_mono (pr_laysSeen (e := fun _ => 1) hn ha hq hs h0 hls ht hL hrm (pr_Wm num t L) (Or.inl ⟨rfl, fun _ => rfl⟩)) ?_)
  rintro ⟨v8, a9⟩ ⟨g1, g2⟩
  dsimp only at g1 ⊢
  subst g1
  have hOle := pm_O_le (q := q) (w := w) (W := pm_W num t) (n := L) (e := fun _ => 1) (fun _ => Nat.le_refl _) L s0
  have h15 := pm_15 (show L ≤ 10 by omega)
  have hsum := pm_adn (q := q) (w := w) (F := (pm_F (pm_tg q w) s0)) (W := pm_W num t) (n := L) (e := fun _ => 1) hcl hs0
  have hO1 : pm_O q w (pm_W num t) L (fun _ => 1) L s0 = 0 ↔ ∀ i, i < (pm_F (pm_tg q w) s0).length → pm_fw q w (pm_F (pm_tg q w) s0) (pm_W num t) s0 L ((pm_F (pm_tg q w) s0).getD i 0) = 0 := by
    rw [← hsum, pm_si_eq0]
    constructor
    · intro h i hi; have := h i hi; rw [Nat.mul_one] at this; exact this
    · intro h i hi; rw [h i hi]
  by_cases hno : pm_O q w (pm_W num t) L (fun _ => 1) L s0 = 0
  · rw [if_pos (lg_eq.mpr ((nL0 (by omega)).mpr hno))]
    refine pu_some.mpr ?_
    rcases hz2 with ⟨h1, _⟩ | ⟨⟨i, i1, i2⟩, _⟩
    · exact h1.symm
    · exact absurd (hO1.mp hno i i1) i2
  rw [if_neg (fun zz => hno ((nL0 (by omega)).mp (lg_eq.mp zz)))]
  have hz2 := hz2.resolve_left (fun h => hno (hO1.mpr h.2))
  obtain ⟨⟨i0, i1, i2⟩, x, hx, hx2, hx3⟩ := hz2
  have hq2 := hq.2.1
  refine pu_d4.mpr (pu_up (fun k v => v.2.1 = nI k ∧ ∃ y, y < 64 ∧ v.1 = nI y ∧ ∀ b, b < 6 → (y.testBit b = true ↔ b < k ∧ x.testBit b = true)) (q 2) (by omega) ⟨rfl, 0, by omega, rfl, fun b hb => ⟨fun h => (by rw [Nat.zero_testBit] at h; cases h), fun h => absurd h.1 (by omega)⟩⟩ ?_)
  rintro k ⟨v10, v11, a12⟩ hk ⟨e1, y, y1, y2, y3⟩
  dsimp only at e1 y2 ⊢
  subst e1 y2
  unfold zb_X11_surely_40
  rw [pv_ld 2 (by omega) (by omega), pu_e1, ha 2 (by omega)]
  have hxT : ∀ b, b < 6 → x.testBit b = true → b < q 2 := by
    intro b hb h
    have h1 := (hx3 b hb).mp h i0 i1 i2
    exact (pb_tbT _ (by omega) _ (pm_L_st (w := w) hq h0 i1).2 b hb h1).2
  by_cases hck : q 2 ≤ k
  · rw [if_pos ((pn_le (by omega) (by omega)).mpr hck)]
    refine pu_out (by decide) (pu_some.mpr ?_)
    dsimp only
    rw [hx2]
    congr 1
    refine Nat.eq_of_testBit_eq ?_
    intro b
    by_cases hb : b < 6
    · rw [Bool.eq_iff_iff, y3 b hb]
      exact ⟨fun h => h.2, fun h => ⟨by have := hxT b hb h; omega, h⟩⟩
    · rw [Nat.testBit_lt_two_pow (Nat.lt_of_lt_of_le y1 (Nat.pow_le_pow_right (n := 2) (i := 6) (by omega) (by omega))), Nat.testBit_lt_two_pow (Nat.lt_of_lt_of_le hx (Nat.pow_le_pow_right (n := 2) (i := 6) (by omega) (by omega)))]
  rw [if_neg (fun z => hck ((pn_le (by omega) (by omega)).mp z))]
  refine pu_d2.mpr (pu_mono (pr_laysSeen (e := fun s => if (pm_hs s).testBit k = true then 0 else 1) hn ha hq hs h0 hls ht hL hrm (pr_Wm num t L) (Or.inr ⟨k, by omega, rfl, fun _ => rfl⟩)) ?_)
  rintro ⟨v14, a15⟩ ⟨g1, g2⟩
  dsimp only at g1 ⊢
  subst g1
  have hOle2 := pm_O_le (q := q) (w := w) (W := pm_W num t) (n := L) (e := fun s => if (pm_hs s).testBit k = true then 0 else 1) (fun s => by split <;> omega) L s0
  have hsum2 := pm_adn (q := q) (w := w) (F := (pm_F (pm_tg q w) s0)) (W := pm_W num t) (n := L) (e := fun s => if (pm_hs s).testBit k = true then 0 else 1) hcl hs0
  have hO2 : pm_O q w (pm_W num t) L (fun s => if (pm_hs s).testBit k = true then 0 else 1) L s0 = 0 ↔ x.testBit k = true := by
    rw [← hsum2, pm_si_eq0, hx3 k (by omega)]
    constructor
    · intro h i hi hne
      have h1 := h i hi
      by_cases f : (pm_hs ((pm_F (pm_tg q w) s0).getD i 0)).testBit k = true
      · exact f
      · rw [if_neg f, Nat.mul_one] at h1; exact absurd h1 hne
    · intro h i hi
      by_cases f : pm_fw q w (pm_F (pm_tg q w) s0) (pm_W num t) s0 L ((pm_F (pm_tg q w) s0).getD i 0) = 0
      · rw [f, Nat.zero_mul]
      · rw [if_pos (h i hi f), Nat.mul_zero]
  refine pu_d1.mpr (pu_mono (P := fun v => ∃ z, z < 64 ∧ v = nI z ∧ ∀ b, b < 6 → (z.testBit b = true ↔ b = k ∧ x.testBit b = true)) ?_ ?_)
  · by_cases f : x.testBit k = true
    · rw [if_pos (lg_eq.mpr ((nL0 (by omega)).mpr (hO2.mpr f))), pb_sh _ (by omega)]
      refine pu_some.mpr ⟨2 ^ k, Nat.lt_of_lt_of_le (Nat.pow_lt_pow_right (a := 2) (m := k) (n := 6) (by omega) (by omega)) (by decide), rfl, ?_⟩
      intro b hb
      rw [Nat.testBit_two_pow, decide_eq_true_eq]
      exact ⟨fun h => by subst h; exact ⟨rfl, f⟩, fun h => h.1.symm⟩
    · rw [if_neg (fun z => f (hO2.mp ((nL0 (by omega)).mp (lg_eq.mp z))))]
      refine pu_some.mpr ⟨0, by omega, rfl, ?_⟩
      intro b hb
      rw [Nat.zero_testBit]
      exact ⟨fun h => (by cases h), fun h => absurd (h.1 ▸ h.2) f⟩
  · rintro v ⟨z, z1, rfl, z2⟩
    rw [pn_or, pu_e1, pn_a1, pu_e1]
    refine pu_go ⟨by omega, rfl, y ||| z, Nat.or_lt_two_pow (n := 6) y1 z1, rfl, ?_⟩
    intro b hb
    rw [Nat.testBit_or, Bool.or_eq_true, y3 b hb, z2 b hb]
    constructor
    · rintro (⟨h1, h2⟩ | ⟨h1, h2⟩)
      · exact ⟨by omega, h2⟩
      · exact ⟨by omega, h2⟩
    · rintro ⟨h1, h2⟩
      by_cases f : b = k
      · exact Or.inr ⟨f, h2⟩
      · exact Or.inl ⟨by omega, h2⟩
theorem pp_seenBy {all rk wds stand th known1 : Nat → Int32} {thrown many : Int32} {size known found : Int32} {deeds ends order depth from1 : Nat → Int32} {missing tsize tsort rs rm : Nat → Int32} {trn : Nat → Nat → Int64} {num on k1 k2 : Nat → Int64} {len : Int32} {wanted lv : Nat → Int32} {A1 A2 : Nat} {p1 p2 : Int32} (hn : 10000 ≤ n) (ha : pr_all all q) (hq : pm_cliff q) (hw : q 40 = w) (hw9 : w ≤ 9) (hs : pm_now q = s0) (h0 : pm_st q s0) (hK : pc_K q top things tf tt mf mt bars gives rough code) (hT : pc_told q w told) (hC : pc_com q w s0 size known order depth from1) (htr : pp_tr missing tsize tsort trn rs rm num) :
    ∃ v, pu_ok (zf_X10_seenBy n top things tf tt mf mt bars gives rough code (nI s0) (nI w) told fa sk found deeds ends size known order depth from1 len wanted A1 k1 A2 k2 lv missing tsize trn p1 p2) (fun r => r.1 = v ∧ pc_told q w r.2.1 ∧ pc_com q w s0 r.2.2.2.2.2.2.2.1 r.2.2.2.2.2.2.2.2.1 r.2.2.2.2.2.2.2.2.2.1 r.2.2.2.2.2.2.2.2.2.2.1 r.2.2.2.2.2.2.2.2.2.2.2.1 ∧ (r.2.2.2.2.2.2.2.2.2.2.2.2.2.2.1 = A1 ∧ r.2.2.2.2.2.2.2.2.2.2.2.2.2.2.2.2.1 = A2 ∨ r.2.2.2.2.2.2.2.2.2.2.2.2.2.2.1 = A2 ∧ r.2.2.2.2.2.2.2.2.2.2.2.2.2.2.2.2.1 = A1)) ∧ pu_ok (zf_X11_seenBy n thrown many all rk wds stand th known1 on rs rm num p1 p2) (fun r => r.1 = v) := by
  obtain ⟨c, c1, c2, c3⟩ := pp_seenR (n := n) (p := p1) (by omega) htr
  rcases c3 with c3 | ⟨rfl, t, L, ht, rfl, hL1, hL, hsz, hrm, hnum⟩
  · refine ⟨c, ?_, ?_⟩
    · unfold zf_X10_seenBy
      rw [pc_tallyNo c1 c3]
      show pu_ok (if c = 0 then _ else _) _
      rw [if_neg c3]
      exact pu_some.mpr ⟨rfl, hT, hC, Or.inl ⟨rfl, rfl⟩⟩
    · unfold zf_X11_seenBy
      rw [c2, pu_e1, if_neg c3]
      exact pu_some.mpr rfl
  have hcl := pm_L_cl (q := q) (w := w) hq h0
  have hF0 := pm_F_0 (pm_tg q w) s0
  have hs0 : s0 ∈ (pm_F (pm_tg q w) s0) := by have := pm_getD_mem hF0.2; rw [hF0.1] at this; exact this
  have hlt : ∀ t ∈ (pm_F (pm_tg q w) s0), t < 2880 := fun t ht => pm_st_lt hq (pm_B_P (P := pm_st q) h0 (pm_tg_st hq) pm_N _ ht)
  by_cases d1 : 0 ≤ p2.toInt
  rotate_left
  · have hneg : ¬ 0 ≤ p2 := by rw [Int32.le_iff_toInt_le]; exact d1
    refine ⟨(-3 : Int32), ?_, ?_⟩
    · unfold zf_X10_seenBy
      refine pu_d19.mpr (pu_mono (pc_tallySeen hn hq hw9 h0 hK hT hC ht hL1 hL hsz hnum c1) ?_)
      rintro ⟨r1, r2, r3, r4, r5, r6, r7, r8, r9, r10, r11, r12, r13, r14, r15, r16, r17, r18, r19⟩ ⟨o1, o2, o3, o4, o5, o6, o7⟩
      dsimp only at o1 o2 o3 o4 o5 o6 o7 ⊢
      subst o1
      rw [if_pos rfl, if_neg hneg]
      exact pu_some.mpr ⟨rfl, o5, o6, o7⟩
    · unfold zf_X11_seenBy
      rw [c2, pu_e1, if_pos rfl, if_neg hneg]
      exact pu_some.mpr rfl
  obtain ⟨i, rfl, hi, _⟩ := pn_of d1
  have hnn : (0 : Int32) ≤ nI i := (pv_le 0 (by omega) hi).mpr (by omega)
  refine ⟨if i < L ∧ ¬ pm_O q w (pm_W num t) L (fun _ => 1) L s0 = 0 then nI (pm_dd (pm_fm q w (pm_sP q w (pm_W num t) L i) (pm_pt q w (pm_sP q w (pm_W num t) L) s0 i) 15)) else (-1 : Int32), ?_, ?_⟩
  · unfold zf_X10_seenBy
    refine pu_d19.mpr (pu_mono (pc_tallySeen hn hq hw9 h0 hK hT hC ht hL1 hL hsz hnum c1) ?_)
    rintro ⟨r1, r2, r3, r4, r5, r6, r7, r8, r9, r10, r11, r12, r13, r14, r15, r16, r17, r18, r19⟩ ⟨o1, o2, o3, o4, o5, o6, o7⟩
    dsimp only at o1 o2 o3 o4 o5 o6 o7 ⊢
    subst o1 o3
    rw [if_pos rfl, if_pos hnn]
    refine pu_d8.mpr (pu_mono (pc_deedOfFirst hn hq hK o5 hw9 h0 o2 (by omega) o4 hi) ?_)
    rintro ⟨u1, u2, u3, u4, u5, u6, u7, u8⟩ ⟨h1, h2⟩
    exact pu_some.mpr ⟨h2, h1, o6, o7⟩
  · unfold zf_X11_seenBy
    rw [c2, pu_e1, if_pos rfl, if_pos hnn]
    refine pu_d6.mpr (pu_mono (pr_laysStands (more := 0) hn ha hq (by omega) (by rw [hs]; exact h0) (Or.inl rfl)) ?_)
    rintro ⟨x1, x2, x3, x4, x5, x6⟩ hls
    dsimp only at hls ⊢
    rw [pm_tgx0, hw, hs] at hls
    refine pu_d2.mpr (pu_mono (pr_laysSeen (e := fun _ => 1) hn ha hq hs h0 hls ht hL hrm (pr_Wm num t L) (Or.inl ⟨rfl, fun _ => rfl⟩)) ?_)
    rintro ⟨v8, a9⟩ ⟨g1, g2⟩
    dsimp only at g1 g2 ⊢
    subst g1
    have hOle := fun r s => pm_O_le (q := q) (w := w) (W := pm_W num t) (n := L) (e := fun _ => 1) (fun _ => Nat.le_refl _) r s
    have h15 := fun r (hr : r ≤ 10) => pm_15 hr
    have hO1 := hOle L s0
    have h151 := h15 L (by omega)
    by_cases hno : pm_O q w (pm_W num t) L (fun _ => 1) L s0 = 0
    · rw [if_pos (lg_eq.mpr ((nL0 (by omega)).mpr hno)), if_neg (fun z => z.2 hno)]
      exact pu_some.mpr rfl
    rw [if_neg (fun zz => hno ((nL0 (by omega)).mp (lg_eq.mp zz))), pu_ld ht (by omega), pu_e1, hrm]
    by_cases hcL : i < L
    rotate_left
    · rw [if_neg (fun z => hcL ((pn_lt (by omega) (by omega)).mp z)), if_neg (fun z => hcL z.1)]
      exact pu_some.mpr rfl
    rw [if_pos ((pn_lt (by omega) (by omega)).mpr hcL), if_pos ⟨hcL, hno⟩, pr_standNow ha, hs, pu_e1]
    refine pu_d4.mpr (pu_up (fun k v => v.2.1 = nI k ∧ v.1 = nI (pm_pt q w (pm_sP q w (pm_W num t) L) s0 k) ∧ (∃ x, x < (pm_F (pm_tg q w) s0).length ∧ (pm_F (pm_tg q w) s0).getD x 0 = pm_pt q w (pm_sP q w (pm_W num t) L) s0 k ∧ ¬ pm_fw q w (pm_F (pm_tg q w) s0) (pm_W num t) s0 k ((pm_F (pm_tg q w) s0).getD x 0) = 0 ∧ ¬ pm_O q w (pm_W num t) L (fun _ => 1) (L - k) ((pm_F (pm_tg q w) s0).getD x 0) = 0)) i (by omega) ⟨rfl, rfl, 0, hF0.2, hF0.1, ?_, ?_⟩ ?_)
    · rw [hF0.1, show pm_fw q w (pm_F (pm_tg q w) s0) (pm_W num t) s0 0 s0 = 1 from if_pos rfl]; omega
    · rw [hF0.1]; exact hno
    rintro k ⟨v12, v13, v14⟩ hk ⟨e1, e2, x, y1, y2, y3, y4⟩
    dsimp only at e1 e2 ⊢
    subst e1 e2
    obtain ⟨hb, j, j1, j2, j3, j4⟩ := pm_sP_step (q := q) (w := w) (s0 := s0) (W := pm_W num t) (L := L) (k := k) hq h0 (by omega) y1 y3 y4
    rw [y2] at hb j2
    have hmx : pm_pt q w (pm_sP q w (pm_W num t) L) s0 k ∈ (pm_F (pm_tg q w) s0) := by rw [← y2]; exact pm_getD_mem y1
    have hltx := hlt _ hmx
    unfold zb_X11_seenBy_61
    refine pu_d2.mpr (pu_up (fun m v => v = nI m ∧ m ≤ pm_fm q w (pm_sP q w (pm_W num t) L k) (pm_pt q w (pm_sP q w (pm_W num t) L) s0 k) 15) 14 (by omega) ⟨rfl, by omega⟩ ?_)
    rintro m v hm ⟨rfl, e4⟩
    unfold zb_X11_seenBy_64
    have hthm := hls.2.2 _ hmx m (by omega)
    rw [pv_mul 15, pn_add, pu_ld (by omega) (by omega), pu_e1, hthm]
    unfold pr_v
    have hnext : ¬ (pm_wy q w (pm_pt q w (pm_sP q w (pm_W num t) L) s0 k) m = 0 ∧ pm_sP q w (pm_W num t) L k (pm_ac q w (pm_pt q w (pm_sP q w (pm_W num t) L) s0 k) m) = true) → m + 1 ≤ pm_fm q w (pm_sP q w (pm_W num t) L k) (pm_pt q w (pm_sP q w (pm_W num t) L) s0 k) 15 := by
      intro h
      by_cases f : m = pm_fm q w (pm_sP q w (pm_W num t) L k) (pm_pt q w (pm_sP q w (pm_W num t) L) s0 k) 15
      · exfalso; rw [f] at h; exact h ⟨hb.2.1, hb.2.2.1⟩
      · omega
    have hb1 := hb.1
    by_cases cw : pm_wy q w (pm_pt q w (pm_sP q w (pm_W num t) L) s0 k) m = 0
    rotate_left
    · have := hnext (fun z => cw z.1)
      rw [if_neg cw, if_pos (show pz_m1 = (-1 : Int32) from rfl), pn_a1, pu_e1]
      exact pu_go ⟨by omega, rfl, this⟩
    have hin := hcl.2 _ hmx m (by omega) cw
    have hacl := hlt _ hin
    have hon := g2 (k + 1) (by omega) _ hin
    have hO2 := hOle (L - (k + 1)) (pm_ac q w (pm_pt q w (pm_sP q w (pm_W num t) L) s0 k) m)
    have h152 := h15 (L - (k + 1)) (by omega)
    rw [if_pos cw, if_neg (fun z => (pn_ne1 (by omega)).mp z), pu_e1, pr_isSeen (n := n) (L := L) (by omega) ht (by omega) (by omega) hacl (pr_Wm num t L), pu_e1]
    by_cases cW : pm_W num t k (pm_ac q w (pm_pt q w (pm_sP q w (pm_W num t) L) s0 k) m) = true
    rotate_left
    · have := hnext (fun z => cW (of_decide_eq_true z.2).1)
      rw [if_neg cW, if_pos rfl, pn_a1, pu_e1]
      exact pu_go ⟨by omega, rfl, this⟩
    rw [if_pos cW, if_neg (by decide), pu_e1, pn_a1, pv_mul 2880, pn_add, pu_ld (by omega) (by omega), pu_e1, hon]
    by_cases cO : pm_O q w (pm_W num t) L (fun _ => 1) (L - (k + 1)) (pm_ac q w (pm_pt q w (pm_sP q w (pm_W num t) L) s0 k) m) = 0
    · have := hnext (fun z => by have h9 := (of_decide_eq_true z.2).2; rw [show L - k - 1 = L - (k + 1) from by omega] at h9; exact h9 cO)
      rw [if_pos (lg_eq.mpr ((nL0 (by omega)).mpr cO)), pn_a1, pu_e1]
      exact pu_go ⟨by omega, rfl, this⟩
    rw [if_neg (fun zz => cO ((nL0 (by omega)).mp (lg_eq.mp zz)))]
    refine pu_out (by decide) ?_
    dsimp only
    have hmeq : m = pm_fm q w (pm_sP q w (pm_W num t) L k) (pm_pt q w (pm_sP q w (pm_W num t) L) s0 k) 15 := by
      rcases Nat.lt_or_ge m (pm_fm q w (pm_sP q w (pm_W num t) L k) (pm_pt q w (pm_sP q w (pm_W num t) L) s0 k) 15) with z | z
      · exfalso
        have h8 := hb.2.2.2 m z cw
        rw [show pm_sP q w (pm_W num t) L k (pm_ac q w (pm_pt q w (pm_sP q w (pm_W num t) L) s0 k) m) = true from decide_eq_true ⟨cW, by rw [show L - k - 1 = L - (k + 1) from by omega]; exact cO⟩] at h8
        cases h8
      · omega
    by_cases hki : k = i
    · rw [if_pos (by rw [hki])]
      refine pu_out (by decide) ?_
      dsimp only
      rw [pr_toldMove (by omega), pu_e1, hmeq, hki]
      exact pu_some.mpr rfl
    · rw [if_neg (fun z => hki ((pn_eq (by omega) (by omega)).mp z)), pn_add, pu_ld (by omega) (by omega), pu_e1, pu_e1, hthm]
      refine pu_go ⟨by omega, rfl, ?_, j, j1, j2, j3, j4⟩
      dsimp only
      unfold pr_v
      rw [if_pos cw, hmeq]; rfl
end PA
