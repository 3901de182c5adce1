/-! the laws' readers: what is common -/
theorem pe_tc_app {cd : Nat → Nat} : ∀ k f l ts, pe_tc cd f (k + l) ts = (pe_tc cd f k ts).bind (pe_tc cd (f + k) l) := by
  intro k
  induction k with
  | zero => intro f l ts; rw [Nat.zero_add]; rfl
  | succ k ih =>
    intro f l ts
    rw [show k + 1 + l = (k + l) + 1 from by omega]
    show (pe_ot (cd f) ts).bind (pe_tc cd (f + 1) (k + l)) = ((pe_ot (cd f) ts).bind (pe_tc cd (f + 1) k)).bind (pe_tc cd (f + (k + 1)) l)
    cases pe_ot (cd f) ts with
    | none => rfl
    | some u =>
      show pe_tc cd (f + 1) (k + l) u = (pe_tc cd (f + 1) k u).bind _
      rw [ih, show f + 1 + k = f + (k + 1) from by omega]
theorem pe_tc_cg {cd cd' : Nat → Nat} : ∀ k f ts, (∀ i, f ≤ i → i < f + k → cd i = cd' i) → pe_tc cd f k ts = pe_tc cd' f k ts := by
  intro k
  induction k with
  | zero => intro f ts _; rfl
  | succ k ih =>
    intro f ts h
    show (pe_ot (cd f) ts).bind (pe_tc cd (f + 1) k) = (pe_ot (cd' f) ts).bind (pe_tc cd' (f + 1) k)
    rw [h f (by omega) (by omega)]
    cases pe_ot (cd' f) ts with
    | none => rfl
    | some u => exact ih (f + 1) u (fun i h1 h2 => h i (by omega) (by omega))
theorem pu_it1 {V : Type} {b : V → Option (Nat × V)} {n : Nat} {v : V} {r : Nat × V} (hn : 1 ≤ n) (h : b v = some r) (h0 : r.1 ≠ 0) : za_it b n v = some r := by
  obtain ⟨m, rfl⟩ := Nat.exists_eq_add_of_le hn
  rw [Nat.add_comm]
  show (b v).bind (fun q => if q.1 = 0 then za_it b m q.2 else some q) = _
  rw [h]
  show (if r.1 = 0 then _ else some r) = some r
  rw [if_neg h0]
theorem pr_isW {rk wr c : Int32} (h : ¬ wr = 0) : zf_X11_is rk wr c = some 0 := by unfold zf_X11_is; rw [if_neg h]
theorem pr_eatsW {n : Nat} {at1 be sz rk nu wr c : Int32} {rt : Nat → Int32} (h : ¬ wr = 0) : zf_X11_eats n at1 be sz rk nu wr rt c = some (0, at1, be, rk, nu) := by unfold zf_X11_eats; rw [pr_isW h, pu_e1, if_pos rfl]
theorem pr_failsW {at1 rk wr wa c : Int32} (h : ¬ wr = 0) : zf_X11_fails at1 rk wr wa c = some (wr, wa) := by unfold zf_X11_fails; rw [if_neg h]
theorem pr_codesW {wr c : Int32} {fresh : Nat → Int32} (h : ¬ wr = 0) : zf_X11_codes wr fresh c = some fresh := by unfold zf_X11_codes; rw [if_neg h]
theorem pr_goesW {n : Nat} {at1 be sz rk nu wr wa p : Int32} {rt : Nat → Int32} (h : ¬ wr = 0) : zf_X11_goesIn n at1 be sz rk nu wr wa rt p = some (0, at1, be, rk, nu, wr, wa) := by
  unfold zf_X11_goesIn
  rw [pr_failsW h, pu_e2]
  by_cases c : p = 6
  · rw [if_pos c, pu_e2, if_neg h, pu_e4, if_neg h]
  · rw [if_neg c, pu_e2, if_neg h, pu_e4, if_neg h]
/-- once a fault is found, nothing more is read -/
theorem pr_idle {n : Nat} {at1 be sz rk nu wr wa rd p : Int32} {rt fresh : Nat → Int32} (hn : 1 ≤ n) (hw : ¬ wr = 0) : ∀ d t, t ≤ 5 → 6 - t ≤ d → zg_X11p n d t at1 be sz rk nu wr wa rd rt fresh p = some (at1, be, rk, nu, wr, wa, fresh) := by
  intro d
  induction d with
  | zero => intro t h1 h2; omega
  | succ d ih =>
    intro t h1 h2
    have ht : t = 0 ∨ t = 1 ∨ t = 2 ∨ t = 3 ∨ t = 4 ∨ t = 5 := by omega
    rcases ht with rfl | rfl | rfl | rfl | rfl | rfl
    · show zh_X11_readTruth n (zg_X11p n d) at1 be sz rk nu wr wa rd rt fresh p = _
      unfold zh_X11_readTruth
      rw [ih 1 (by omega) (by omega), pu_e7, pu_it1 (r := (1, at1, be, rk, nu, wr, wa, fresh)) hn (by unfold zb_X11_readTruth_5; rw [pr_eatsW hw, pu_e5, if_pos rfl]) (fun z => Nat.noConfusion z), pu_e8]
    · show zh_X11_readBoth n (zg_X11p n d) at1 be sz rk nu wr wa rd rt fresh p = _
      unfold zh_X11_readBoth
      rw [ih 2 (by omega) (by omega), pu_e7, pu_it1 (r := (1, at1, be, rk, nu, wr, wa, fresh)) hn (by unfold zb_X11_readBoth_5; rw [pr_eatsW hw, pu_e5, if_pos rfl]) (fun z => Nat.noConfusion z), pu_e8]
    · show zh_X11_readUnit n (zg_X11p n d) at1 be sz rk nu wr wa rd rt fresh p = _
      unfold zh_X11_readUnit
      rw [pr_isW hw, pu_e1, if_pos rfl, pr_isW hw, pu_e1, if_pos rfl, ih 3 (by omega) (by omega), pu_e7, pr_isW hw, pu_e1, if_pos rfl, pr_isW hw, pu_e1, if_pos rfl, pu_e1, pu_e1, if_pos rfl, pu_e1, if_pos rfl, pr_isW hw, pu_e1, if_pos rfl, pr_failsW hw, pu_e2, pu_e6, ih 3 (by omega) (by omega), pu_e7, pr_codesW hw, pu_e1]
    · show zh_X11_readSum n (zg_X11p n d) at1 be sz rk nu wr wa rd rt fresh p = _
      unfold zh_X11_readSum
      rw [ih 4 (by omega) (by omega), pu_e7, pu_it1 (r := (1, at1, be, rk, nu, wr, wa, fresh)) hn (by unfold zb_X11_readSum_5; rw [pr_isW hw, pu_e1, if_pos rfl, pr_isW hw, pu_e1, if_pos rfl]) (fun z => Nat.noConfusion z), pu_e8]
    · show zh_X11_readTerm n (zg_X11p n d) at1 be sz rk nu wr wa rd rt fresh p = _
      unfold zh_X11_readTerm
      rw [ih 5 (by omega) (by omega), pu_e7, pu_it1 (r := (1, at1, be, rk, nu, wr, wa, fresh)) hn (by unfold zb_X11_readTerm_5; rw [pr_eatsW hw, pu_e5, if_pos rfl]) (fun z => Nat.noConfusion z), pu_e8]
    · show zh_X11_readAtom n (zg_X11p n d) at1 be sz rk nu wr wa rd rt fresh p = _
      unfold zh_X11_readAtom
      rw [pr_isW hw, pu_e1, if_pos rfl, if_neg hw, pr_isW hw, pu_e1, if_pos rfl, pr_isW hw, pu_e1, if_pos rfl, pr_failsW hw, pu_e2]
def pp_C (F0 : Nat → Int32) (c : Nat) (x : Nat → Nat) (co : Int32) (code fresh : Nat → Int32) : Prop := co = nI c ∧ (∀ k, k < c → code k = nI (pe_cm (x k)) ∧ fresh (94 + k) = nI (x k)) ∧ fresh 93 = nI c ∧ ∀ k, k < 93 → fresh k = F0 k
def pm_wx (x : Nat → Nat) (c z : Nat) : Nat → Nat := fun k => if k = c then z else x k
theorem pm_wx_e (x : Nat → Nat) (c z : Nat) : pm_wx x c z c = z := if_pos rfl
theorem pm_wx_n {x : Nat → Nat} {c z k : Nat} (h : ¬ k = c) : pm_wx x c z k = x k := if_neg h
/-- a sign of a law is written down -/
theorem pp_emit {F0 : Nat → Int32} {c z : Nat} {x : Nat → Nat} {co : Int32} {code fresh : Nat → Int32} (h : pp_C F0 c x co code fresh) (hc : c < 900) : ∃ code' fresh', zf_X0_addSign co code (nI (pe_cm z)) = some (1, nI (c + 1), code') ∧ zf_X11_codes 0 fresh (nI z) = some fresh' ∧ pp_C F0 (c + 1) (pm_wx x c z) (nI (c + 1)) code' fresh' := by
  obtain ⟨rfl, h2, h3, h4⟩ := h
  refine ⟨va_up code c (nI (pe_cm z)), va_up (va_up fresh (94 + c) (nI z)) 93 (nI (c + 1)), ?_, ?_, rfl, ?_, pu_upe, ?_⟩
  · unfold zf_X0_addSign
    rw [if_neg (fun y => by have := (pv_le 900 (by omega) (by omega)).mp y; omega), pu_st hc (by omega), pu_e1, pn_a1, pu_e1, pu_e2]
  · unfold zf_X11_codes
    rw [if_pos rfl, pv_ld 93 (by omega) (by omega), pu_e1, h3, pv_add 94, pu_st (by omega) (by omega), pu_e1, pv_ld 93 (by omega) (by omega), pu_e1, pu_upn (by omega), h3, pn_a1, pv_st 93 (by omega) (by omega), pu_e1]
  · intro k hk
    by_cases f : k = c
    · subst f
      rw [pu_upe, pu_upn (by omega), pu_upe, pm_wx_e]
      exact ⟨rfl, rfl⟩
    · rw [pu_upn f, pu_upn (by omega), pu_upn (by omega), pm_wx_n f]
      exact h2 k (by omega)
  · intro k hk
    rw [pu_upn (by omega), pu_upn (by omega)]
    exact h4 k hk
def pp_Q (B : Nat → Nat) (sz : Nat) (F0 : Nat → Int32) (fa pl : Int32) (m a c : Nat) (x : Nat → Nat) (bu : Nat) (ty : Bool) (g st en ki va f p co : Int32) (code : Nat → Int32) (at1 be rk nu wr wa : Int32) (fresh : Nat → Int32) : Prop :=
  (g = 1 ∧ wr = 0 ∧ f = fa ∧ p = pl ∧ ∃ a' c' x', a + m ≤ a' ∧ c ≤ c' ∧ c' + a ≤ c + a' ∧ pp_ta B sz a' st en ki va at1 be rk nu ∧ pp_C F0 c' x' co code fresh ∧ (∀ k, k < c → x' k = x k) ∧ ∀ ts : List Bool, ts.length + bu ≤ 60 → pe_tc x' c (c' - c) ts = some (ty :: ts)) ∨ (g = 0 ∧ ¬ wr = 0 ∧ f = wr ∧ p = wa)
def pp_R (n : Nat) (B : Nat → Nat) (sz : Nat) (ct rt : Nat → Int32) (may rd : Int32) (d t dp : Nat) : Prop := ∀ F0 a c x st en ki va fa pl co code at1 be rk nu wa fresh, pp_ta B sz a st en ki va at1 be rk nu → pp_C F0 c x co code fresh → c ≤ a → ∃ g st' en' ki' va' f p co' code' at' be' rk' nu' wr wa' fresh', zg_X5p n d t (nI sz) st en ki va may fa pl ct co code (nI dp) = some (g, st', en', ki', va', f, p, co', code') ∧ zg_X11p n d t at1 be (nI sz) rk nu 0 wa rd rt fresh (nI dp) = some (at', be', rk', nu', wr, wa', fresh') ∧ pp_Q B sz F0 fa pl 1 a c x ((6 - t) + 5 * (6 - dp)) (decide (3 ≤ t)) g st' en' ki' va' f p co' code' at' be' rk' nu' wr wa' fresh'
theorem pp_ta_le {B : Nat → Nat} {sz a : Nat} {st en ki va at1 be rk nu : Int32} (h : pp_ta B sz a st en ki va at1 be rk nu) : a ≤ sz := by
  obtain ⟨b, _, _, _, _, h5, h6, _⟩ := h; omega
/-- two and a sign between -/
theorem pe_bin {x x' : Nat → Nat} {c c1 c2 z bu : Nat} {tl tr ty : Bool} (h1 : c ≤ c1) (h2 : c1 ≤ c2) (hx : ∀ k, k < c1 → x' k = x k) (hl : ∀ ts : List Bool, ts.length + bu ≤ 60 → pe_tc x c (c1 - c) ts = some (tl :: ts)) (hr : ∀ ts : List Bool, ts.length + (bu - 1) ≤ 60 → pe_tc x' c1 (c2 - c1) ts = some (tr :: ts)) (hb : 1 ≤ bu) (ho : ∀ ts : List Bool, pe_ot z (tr :: tl :: ts) = some (ty :: ts)) : ∀ ts : List Bool, ts.length + bu ≤ 60 → pe_tc (pm_wx x' c2 z) c (c2 + 1 - c) ts = some (ty :: ts) := by
  intro ts hts
  rw [show c2 + 1 - c = (c1 - c) + ((c2 - c1) + 1) from by omega, pe_tc_app, show pe_tc (pm_wx x' c2 z) c (c1 - c) ts = some (tl :: ts) from by
    rw [← hl ts hts]
    exact pe_tc_cg _ _ _ (fun i i1 i2 => by rw [pm_wx_n (by omega), hx i (by omega)])]
  show pe_tc (pm_wx x' c2 z) (c + (c1 - c)) ((c2 - c1) + 1) (tl :: ts) = _
  rw [show c + (c1 - c) = c1 from by omega, pe_tc_app, show pe_tc (pm_wx x' c2 z) c1 (c2 - c1) (tl :: ts) = some (tr :: tl :: ts) from by
    rw [← hr (tl :: ts) (by rw [List.length_cons]; omega)]
    exact pe_tc_cg _ _ _ (fun i i1 i2 => by rw [pm_wx_n (by omega)])]
  show pe_tc (pm_wx x' c2 z) (c1 + (c2 - c1)) 1 (tr :: tl :: ts) = _
  rw [show c1 + (c2 - c1) = c2 from by omega]
  show (pe_ot (pm_wx x' c2 z c2) (tr :: tl :: ts)).bind (pe_tc (pm_wx x' c2 z) (c2 + 1) 0) = _
  rw [pm_wx_e, ho]
  rfl
section PLr
variable {n sz : Nat} {B : Nat → Nat} {ct rt : Nat → Int32} {may rd : Int32}
theorem pp_Truth {d dp : Nat} (hn : 1000 ≤ n) (hx : pp_tx B sz ct rt) (hR : pp_R n B sz ct rt may rd d 1 dp) : pp_R n B sz ct rt may rd (d + 1) 0 dp := by
  have h9 := hx.1
  intro F0 a c x st en ki va fa pl co code at1 be rk nu wa fresh hta hC hca
  show ∃ g st' en' ki' va' f p co' code' at' be' rk' nu' wr wa' fresh', zh_X5_readTruth n (zg_X5p n d) (nI sz) st en ki va may fa pl ct co code (nI dp) = some (g, st', en', ki', va', f, p, co', code') ∧ zh_X11_readTruth n (zg_X11p n d) at1 be (nI sz) rk nu 0 wa rd rt fresh (nI dp) = some (at', be', rk', nu', wr, wa', fresh') ∧ _
  unfold zh_X5_readTruth zh_X11_readTruth
  obtain ⟨g, st1, en1, ki1, va1, f1, p1, co1, code1, at2, be2, rk2, nu2, wr2, wa2, fresh2, e1, e2, e3⟩ := hR F0 a c x st en ki va fa pl co code at1 be rk nu wa fresh hta hC hca
  rw [e1, e2, pu_e9, pu_e7]
  have hQ0 : pp_Q B sz F0 fa pl (1 + 0) a c x ((6 - 0) + 5 * (6 - dp)) false g st1 en1 ki1 va1 f1 p1 co1 code1 at2 be2 rk2 nu2 wr2 wa2 fresh2 := by
    rcases e3 with ⟨z1, z2, z3, z4, a', c', x', z5, z6, z7, z8, z9, z10, z11⟩ | z
    · exact Or.inl ⟨z1, z2, z3, z4, a', c', x', z5, z6, z7, z8, z9, z10, fun ts h => z11 ts (by omega)⟩
    · exact Or.inr z
  obtain ⟨r1, r2, q1, q2, q3⟩ := pu_two (b1 := fun v => zb_X5_readTruth_8 n (nI sz) ct (zg_X5p n d) may (nI dp) v.1 v.2.1 v.2.2.1 v.2.2.2.1 v.2.2.2.2.1 v.2.2.2.2.2.1 v.2.2.2.2.2.2.1 v.2.2.2.2.2.2.2.1 v.2.2.2.2.2.2.2.2.1 v.2.2.2.2.2.2.2.2.2) (b2 := fun v => zb_X11_readTruth_5 n (nI sz) rt (zg_X11p n d) rd (nI dp) v.1 v.2.1 v.2.2.1 v.2.2.2.1 v.2.2.2.2.1 v.2.2.2.2.2.1 v.2.2.2.2.2.2) (n := n) (v1 := (g, (0 : Int32), st1, en1, ki1, va1, f1, p1, co1, code1)) (v2 := (at2, be2, rk2, nu2, wr2, wa2, fresh2))
    (fun k u y => u.2.1 = nI k ∧ pp_Q B sz F0 fa pl (1 + k) a c x ((6 - 0) + 5 * (6 - dp)) false u.1 u.2.2.1 u.2.2.2.1 u.2.2.2.2.1 u.2.2.2.2.2.1 u.2.2.2.2.2.2.1 u.2.2.2.2.2.2.2.1 u.2.2.2.2.2.2.2.2.1 u.2.2.2.2.2.2.2.2.2 y.1 y.2.1 y.2.2.1 y.2.2.2.1 y.2.2.2.2.1 y.2.2.2.2.2.1 y.2.2.2.2.2.2)
    (P := fun r1 r2 => pp_Q B sz F0 fa pl 1 a c x ((6 - 0) + 5 * (6 - dp)) false r1.2.1 r1.2.2.2.1 r1.2.2.2.2.1 r1.2.2.2.2.2.1 r1.2.2.2.2.2.2.1 r1.2.2.2.2.2.2.2.1 r1.2.2.2.2.2.2.2.2.1 r1.2.2.2.2.2.2.2.2.2.1 r1.2.2.2.2.2.2.2.2.2.2 r2.2.1 r2.2.2.1 r2.2.2.2.1 r2.2.2.2.2.1 r2.2.2.2.2.2.1 r2.2.2.2.2.2.2.1 r2.2.2.2.2.2.2.2)
    900 (by omega) ⟨rfl, hQ0⟩ (by
      rintro k ⟨v10, v11, v12, v13, v14, v15, v16, v17, v18, a19⟩ ⟨u8, u9, u10, u11, u12, u13, a14⟩ hk ⟨w1, w2⟩
      dsimp only at w1 w2 ⊢
      subst w1
      rcases w2 with ⟨z1, z2, z3, z4, a', c', x', z5, z6, z7, z8, z9, z10, z11⟩ | ⟨z1, z2, z3, z4⟩
      rotate_left
      · refine ⟨(1, v10, nI k, v12, v13, v14, v15, v16, v17, v18, a19), (1, u8, u9, u10, u11, u12, u13, a14), ?_, ?_, Or.inr ⟨fun z => Nat.noConfusion z, fun z => Nat.noConfusion z, Or.inr ⟨z1, z2, z3, z4⟩⟩⟩
        · unfold zb_X5_readTruth_8
          by_cases q : (900 : Int32) ≤ nI k
          · rw [if_pos q]
          · rw [if_neg q, if_pos z1]
        · unfold zb_X11_readTruth_5
          rw [pr_eatsW z2, pu_e5, if_pos rfl]
      have hle := pp_ta_le z8
      subst z1 z2 z3 z4
      rcases pp_acc (i := 27) 22 hn hx z8 (by unfold pm_cc; decide) with ⟨st3, en3, ki3, va3, at3, be3, rk3, nu3, a3, y1, y2, y3, y4⟩ | ⟨y1, y2, y3⟩
      · obtain ⟨g4, st4, en4, ki4, va4, f4, p4, co4, code4, at4, be4, rk4, nu4, wr4, wa4, fresh4, i1, i2, i3⟩ := hR F0 a3 c' x' st3 en3 ki3 va3 v16 v17 v18 a19 at3 be3 rk3 nu3 u13 a14 y4 z9 (by omega)
        rcases i3 with ⟨j1, j2, j3, j4, a5, c5, x5, j5, j6, j7, j8, j9, j10, j11⟩ | ⟨j1, j2, j3, j4⟩
        · have hle5 := pp_ta_le j8
          obtain ⟨code6, fresh6, m1, m2, m3⟩ := pp_emit (z := 3008) j9 (by omega)
          refine ⟨(0, 1, nI (k + 1), st4, en4, ki4, va4, f4, p4, nI (c5 + 1), code6), (0, at4, be4, rk4, nu4, wr4, wa4, fresh6), ?_, ?_, Or.inl ⟨rfl, rfl, by omega, rfl, Or.inl ⟨rfl, j2, j3, j4, a5, c5 + 1, pm_wx x5 c5 3008, by omega, by omega, by omega, j8, m3, ?_, ?_⟩⟩⟩
          · unfold zb_X5_readTruth_8
            rw [if_neg (fun z => by have := (pv_le 900 (by omega) (by omega)).mp z; omega), if_neg (by decide), y1, pu_e5, if_neg (by decide), i1, pu_e9, j1, if_neg (by decide), show (1017 : Int32) = nI (pe_cm 3008) from by decide, m1, pu_e3, if_neg (by decide), pu_e3, pn_a1, pu_e1]
          · unfold zb_X11_readTruth_5
            rw [y2, pu_e5, if_neg (by decide), i2, pu_e7, j2, show (3008 : Int32) = nI 3008 from rfl, m2, pu_e1]
          · intro l hl
            rw [pm_wx_n (by omega), j10 l (by omega), z10 l hl]
          · exact pe_bin z6 j6 j10 z11 (fun ts h => j11 ts (by omega)) (by omega) (fun ts => rfl)
        · refine ⟨(0, 0, nI (k + 1), st4, en4, ki4, va4, f4, p4, co4, code4), (0, at4, be4, rk4, nu4, wr4, wa4, fresh4), ?_, ?_, Or.inl ⟨rfl, rfl, by omega, rfl, Or.inr ⟨rfl, j2, j3, j4⟩⟩⟩
          · unfold zb_X5_readTruth_8
            rw [if_neg (fun z => by have := (pv_le 900 (by omega) (by omega)).mp z; omega), if_neg (by decide), y1, pu_e5, if_neg (by decide), i1, pu_e9, j1, if_pos rfl, pu_e3, pn_a1, pu_e1]
          · unfold zb_X11_readTruth_5
            rw [y2, pu_e5, if_neg (by decide), i2, pu_e7, pr_codesW j2, pu_e1]
      · refine ⟨(1, 1, nI k, v12, v13, v14, v15, v16, v17, v18, a19), (1, u8, u9, u10, u11, 0, u13, a14), ?_, ?_, Or.inr ⟨fun z => Nat.noConfusion z, fun z => Nat.noConfusion z, Or.inl ⟨rfl, rfl, rfl, rfl, a', c', x', by omega, z6, z7, z8, z9, z10, z11⟩⟩⟩
        · unfold zb_X5_readTruth_8
          rw [if_neg (fun z => by have := (pv_le 900 (by omega) (by omega)).mp z; omega), if_neg (by decide), y1, pu_e5, if_pos rfl]
        · unfold zb_X11_readTruth_5
          rw [y2, pu_e5, if_pos rfl])
  obtain ⟨t0, t1, t2, t3, t4, t5, t6, t7, t8, t9, t10⟩ := r1
  obtain ⟨b0, b1, b2, b3, b4, b5, b6, b7⟩ := r2
  dsimp only at q3
  rw [q1, q2, pu_e11, pu_e8]
  have hzb : za_zb t1 = some t1 := by
    rcases q3 with ⟨rfl, _⟩ | ⟨rfl, _⟩ <;> rfl
  rw [hzb, pu_e1]
  exact ⟨_, _, _, _, _, _, _, _, _, _, _, _, _, _, _, _, rfl, rfl, q3⟩
theorem pp_Both {d dp : Nat} (hn : 1000 ≤ n) (hx : pp_tx B sz ct rt) (hR : pp_R n B sz ct rt may rd d 2 dp) : pp_R n B sz ct rt may rd (d + 1) 1 dp := by
  have h9 := hx.1
  intro F0 a c x st en ki va fa pl co code at1 be rk nu wa fresh hta hC hca
  show ∃ g st' en' ki' va' f p co' code' at' be' rk' nu' wr wa' fresh', zh_X5_readBoth n (zg_X5p n d) (nI sz) st en ki va may fa pl ct co code (nI dp) = some (g, st', en', ki', va', f, p, co', code') ∧ zh_X11_readBoth n (zg_X11p n d) at1 be (nI sz) rk nu 0 wa rd rt fresh (nI dp) = some (at', be', rk', nu', wr, wa', fresh') ∧ _
  unfold zh_X5_readBoth zh_X11_readBoth
  obtain ⟨g, st1, en1, ki1, va1, f1, p1, co1, code1, at2, be2, rk2, nu2, wr2, wa2, fresh2, e1, e2, e3⟩ := hR F0 a c x st en ki va fa pl co code at1 be rk nu wa fresh hta hC hca
  rw [e1, e2, pu_e9, pu_e7]
  have hQ0 : pp_Q B sz F0 fa pl (1 + 0) a c x ((6 - 1) + 5 * (6 - dp)) false g st1 en1 ki1 va1 f1 p1 co1 code1 at2 be2 rk2 nu2 wr2 wa2 fresh2 := by
    rcases e3 with ⟨z1, z2, z3, z4, a', c', x', z5, z6, z7, z8, z9, z10, z11⟩ | z
    · exact Or.inl ⟨z1, z2, z3, z4, a', c', x', z5, z6, z7, z8, z9, z10, fun ts h => z11 ts (by omega)⟩
    · exact Or.inr z
  obtain ⟨r1, r2, q1, q2, q3⟩ := pu_two (b1 := fun v => zb_X5_readBoth_8 n (nI sz) ct (zg_X5p n d) may (nI dp) v.1 v.2.1 v.2.2.1 v.2.2.2.1 v.2.2.2.2.1 v.2.2.2.2.2.1 v.2.2.2.2.2.2.1 v.2.2.2.2.2.2.2.1 v.2.2.2.2.2.2.2.2.1 v.2.2.2.2.2.2.2.2.2) (b2 := fun v => zb_X11_readBoth_5 n (nI sz) rt (zg_X11p n d) rd (nI dp) v.1 v.2.1 v.2.2.1 v.2.2.2.1 v.2.2.2.2.1 v.2.2.2.2.2.1 v.2.2.2.2.2.2) (n := n) (v1 := (g, (0 : Int32), st1, en1, ki1, va1, f1, p1, co1, code1)) (v2 := (at2, be2, rk2, nu2, wr2, wa2, fresh2))
    (fun k u y => u.2.1 = nI k ∧ pp_Q B sz F0 fa pl (1 + k) a c x ((6 - 1) + 5 * (6 - dp)) false u.1 u.2.2.1 u.2.2.2.1 u.2.2.2.2.1 u.2.2.2.2.2.1 u.2.2.2.2.2.2.1 u.2.2.2.2.2.2.2.1 u.2.2.2.2.2.2.2.2.1 u.2.2.2.2.2.2.2.2.2 y.1 y.2.1 y.2.2.1 y.2.2.2.1 y.2.2.2.2.1 y.2.2.2.2.2.1 y.2.2.2.2.2.2)
    (P := fun r1 r2 => pp_Q B sz F0 fa pl 1 a c x ((6 - 1) + 5 * (6 - dp)) false r1.2.1 r1.2.2.2.1 r1.2.2.2.2.1 r1.2.2.2.2.2.1 r1.2.2.2.2.2.2.1 r1.2.2.2.2.2.2.2.1 r1.2.2.2.2.2.2.2.2.1 r1.2.2.2.2.2.2.2.2.2.1 r1.2.2.2.2.2.2.2.2.2.2 r2.2.1 r2.2.2.1 r2.2.2.2.1 r2.2.2.2.2.1 r2.2.2.2.2.2.1 r2.2.2.2.2.2.2.1 r2.2.2.2.2.2.2.2)
    900 (by omega) ⟨rfl, hQ0⟩ (by
      rintro k ⟨v10, v11, v12, v13, v14, v15, v16, v17, v18, a19⟩ ⟨u8, u9, u10, u11, u12, u13, a14⟩ hk ⟨w1, w2⟩
      dsimp only at w1 w2 ⊢
      subst w1
      rcases w2 with ⟨z1, z2, z3, z4, a', c', x', z5, z6, z7, z8, z9, z10, z11⟩ | ⟨z1, z2, z3, z4⟩
      rotate_left
      · refine ⟨(1, v10, nI k, v12, v13, v14, v15, v16, v17, v18, a19), (1, u8, u9, u10, u11, u12, u13, a14), ?_, ?_, Or.inr ⟨fun z => Nat.noConfusion z, fun z => Nat.noConfusion z, Or.inr ⟨z1, z2, z3, z4⟩⟩⟩
        · unfold zb_X5_readBoth_8
          by_cases q : (900 : Int32) ≤ nI k
          · rw [if_pos q]
          · rw [if_neg q, if_pos z1]
        · unfold zb_X11_readBoth_5
          rw [pr_eatsW z2, pu_e5, if_pos rfl]
      have hle := pp_ta_le z8
      subst z1 z2 z3 z4
      rcases pp_acc (i := 26) 21 hn hx z8 (by unfold pm_cc; decide) with ⟨st3, en3, ki3, va3, at3, be3, rk3, nu3, a3, y1, y2, y3, y4⟩ | ⟨y1, y2, y3⟩
      · obtain ⟨g4, st4, en4, ki4, va4, f4, p4, co4, code4, at4, be4, rk4, nu4, wr4, wa4, fresh4, i1, i2, i3⟩ := hR F0 a3 c' x' st3 en3 ki3 va3 v16 v17 v18 a19 at3 be3 rk3 nu3 u13 a14 y4 z9 (by omega)
        rcases i3 with ⟨j1, j2, j3, j4, a5, c5, x5, j5, j6, j7, j8, j9, j10, j11⟩ | ⟨j1, j2, j3, j4⟩
        · have hle5 := pp_ta_le j8
          obtain ⟨code6, fresh6, m1, m2, m3⟩ := pp_emit (z := 3007) j9 (by omega)
          refine ⟨(0, 1, nI (k + 1), st4, en4, ki4, va4, f4, p4, nI (c5 + 1), code6), (0, at4, be4, rk4, nu4, wr4, wa4, fresh6), ?_, ?_, Or.inl ⟨rfl, rfl, by omega, rfl, Or.inl ⟨rfl, j2, j3, j4, a5, c5 + 1, pm_wx x5 c5 3007, by omega, by omega, by omega, j8, m3, ?_, ?_⟩⟩⟩
          · unfold zb_X5_readBoth_8
            rw [if_neg (fun z => by have := (pv_le 900 (by omega) (by omega)).mp z; omega), if_neg (by decide), y1, pu_e5, if_neg (by decide), i1, pu_e9, j1, if_neg (by decide), show (1016 : Int32) = nI (pe_cm 3007) from by decide, m1, pu_e3, if_neg (by decide), pu_e3, pn_a1, pu_e1]
          · unfold zb_X11_readBoth_5
            rw [y2, pu_e5, if_neg (by decide), i2, pu_e7, j2, show (3007 : Int32) = nI 3007 from rfl, m2, pu_e1]
          · intro l hl
            rw [pm_wx_n (by omega), j10 l (by omega), z10 l hl]
          · exact pe_bin z6 j6 j10 z11 (fun ts h => j11 ts (by omega)) (by omega) (fun ts => rfl)
        · refine ⟨(0, 0, nI (k + 1), st4, en4, ki4, va4, f4, p4, co4, code4), (0, at4, be4, rk4, nu4, wr4, wa4, fresh4), ?_, ?_, Or.inl ⟨rfl, rfl, by omega, rfl, Or.inr ⟨rfl, j2, j3, j4⟩⟩⟩
          · unfold zb_X5_readBoth_8
            rw [if_neg (fun z => by have := (pv_le 900 (by omega) (by omega)).mp z; omega), if_neg (by decide), y1, pu_e5, if_neg (by decide), i1, pu_e9, j1, if_pos rfl, pu_e3, pn_a1, pu_e1]
          · unfold zb_X11_readBoth_5
            rw [y2, pu_e5, if_neg (by decide), i2, pu_e7, pr_codesW j2, pu_e1]
      · refine ⟨(1, 1, nI k, v12, v13, v14, v15, v16, v17, v18, a19), (1, u8, u9, u10, u11, 0, u13, a14), ?_, ?_, Or.inr ⟨fun z => Nat.noConfusion z, fun z => Nat.noConfusion z, Or.inl ⟨rfl, rfl, rfl, rfl, a', c', x', by omega, z6, z7, z8, z9, z10, z11⟩⟩⟩
        · unfold zb_X5_readBoth_8
          rw [if_neg (fun z => by have := (pv_le 900 (by omega) (by omega)).mp z; omega), if_neg (by decide), y1, pu_e5, if_pos rfl]
        · unfold zb_X11_readBoth_5
          rw [y2, pu_e5, if_pos rfl])
  obtain ⟨t0, t1, t2, t3, t4, t5, t6, t7, t8, t9, t10⟩ := r1
  obtain ⟨b0, b1, b2, b3, b4, b5, b6, b7⟩ := r2
  dsimp only at q3
  rw [q1, q2, pu_e11, pu_e8]
  have hzb : za_zb t1 = some t1 := by
    rcases q3 with ⟨rfl, _⟩ | ⟨rfl, _⟩ <;> rfl
  rw [hzb, pu_e1]
  exact ⟨_, _, _, _, _, _, _, _, _, _, _, _, _, _, _, _, rfl, rfl, q3⟩
theorem pp_Term {d dp : Nat} (hn : 1000 ≤ n) (hx : pp_tx B sz ct rt) (hR : pp_R n B sz ct rt may rd d 5 dp) : pp_R n B sz ct rt may rd (d + 1) 4 dp := by
  have h9 := hx.1
  intro F0 a c x st en ki va fa pl co code at1 be rk nu wa fresh hta hC hca
  show ∃ g st' en' ki' va' f p co' code' at' be' rk' nu' wr wa' fresh', zh_X5_readTerm n (zg_X5p n d) (nI sz) st en ki va may fa pl ct co code (nI dp) = some (g, st', en', ki', va', f, p, co', code') ∧ zh_X11_readTerm n (zg_X11p n d) at1 be (nI sz) rk nu 0 wa rd rt fresh (nI dp) = some (at', be', rk', nu', wr, wa', fresh') ∧ _
  unfold zh_X5_readTerm zh_X11_readTerm
  obtain ⟨g, st1, en1, ki1, va1, f1, p1, co1, code1, at2, be2, rk2, nu2, wr2, wa2, fresh2, e1, e2, e3⟩ := hR F0 a c x st en ki va fa pl co code at1 be rk nu wa fresh hta hC hca
  rw [e1, e2, pu_e9, pu_e7]
  have hQ0 : pp_Q B sz F0 fa pl (1 + 0) a c x ((6 - 4) + 5 * (6 - dp)) true g st1 en1 ki1 va1 f1 p1 co1 code1 at2 be2 rk2 nu2 wr2 wa2 fresh2 := by
    rcases e3 with ⟨z1, z2, z3, z4, a', c', x', z5, z6, z7, z8, z9, z10, z11⟩ | z
    · exact Or.inl ⟨z1, z2, z3, z4, a', c', x', z5, z6, z7, z8, z9, z10, fun ts h => z11 ts (by omega)⟩
    · exact Or.inr z
  obtain ⟨r1, r2, q1, q2, q3⟩ := pu_two (b1 := fun v => zb_X5_readTerm_8 n (nI sz) ct (zg_X5p n d) may (nI dp) v.1 v.2.1 v.2.2.1 v.2.2.2.1 v.2.2.2.2.1 v.2.2.2.2.2.1 v.2.2.2.2.2.2.1 v.2.2.2.2.2.2.2.1 v.2.2.2.2.2.2.2.2.1 v.2.2.2.2.2.2.2.2.2) (b2 := fun v => zb_X11_readTerm_5 n (nI sz) rt (zg_X11p n d) rd (nI dp) v.1 v.2.1 v.2.2.1 v.2.2.2.1 v.2.2.2.2.1 v.2.2.2.2.2.1 v.2.2.2.2.2.2) (n := n) (v1 := (g, (0 : Int32), st1, en1, ki1, va1, f1, p1, co1, code1)) (v2 := (at2, be2, rk2, nu2, wr2, wa2, fresh2))
    (fun k u y => u.2.1 = nI k ∧ pp_Q B sz F0 fa pl (1 + k) a c x ((6 - 4) + 5 * (6 - dp)) true u.1 u.2.2.1 u.2.2.2.1 u.2.2.2.2.1 u.2.2.2.2.2.1 u.2.2.2.2.2.2.1 u.2.2.2.2.2.2.2.1 u.2.2.2.2.2.2.2.2.1 u.2.2.2.2.2.2.2.2.2 y.1 y.2.1 y.2.2.1 y.2.2.2.1 y.2.2.2.2.1 y.2.2.2.2.2.1 y.2.2.2.2.2.2)
    (P := fun r1 r2 => pp_Q B sz F0 fa pl 1 a c x ((6 - 4) + 5 * (6 - dp)) true r1.2.1 r1.2.2.2.1 r1.2.2.2.2.1 r1.2.2.2.2.2.1 r1.2.2.2.2.2.2.1 r1.2.2.2.2.2.2.2.1 r1.2.2.2.2.2.2.2.2.1 r1.2.2.2.2.2.2.2.2.2.1 r1.2.2.2.2.2.2.2.2.2.2 r2.2.1 r2.2.2.1 r2.2.2.2.1 r2.2.2.2.2.1 r2.2.2.2.2.2.1 r2.2.2.2.2.2.2.1 r2.2.2.2.2.2.2.2)
    900 (by omega) ⟨rfl, hQ0⟩ (by
      rintro k ⟨v10, v11, v12, v13, v14, v15, v16, v17, v18, a19⟩ ⟨u8, u9, u10, u11, u12, u13, a14⟩ hk ⟨w1, w2⟩
      dsimp only at w1 w2 ⊢
      subst w1
      rcases w2 with ⟨z1, z2, z3, z4, a', c', x', z5, z6, z7, z8, z9, z10, z11⟩ | ⟨z1, z2, z3, z4⟩
      rotate_left
      · refine ⟨(1, v10, nI k, v12, v13, v14, v15, v16, v17, v18, a19), (1, u8, u9, u10, u11, u12, u13, a14), ?_, ?_, Or.inr ⟨fun z => Nat.noConfusion z, fun z => Nat.noConfusion z, Or.inr ⟨z1, z2, z3, z4⟩⟩⟩
        · unfold zb_X5_readTerm_8
          by_cases q : (900 : Int32) ≤ nI k
          · rw [if_pos q]
          · rw [if_neg q, if_pos z1]
        · unfold zb_X11_readTerm_5
          rw [pr_eatsW z2, pu_e5, if_pos rfl]
      have hle := pp_ta_le z8
      subst z1 z2 z3 z4
      rcases pp_acc (i := 33) 34 hn hx z8 (by unfold pm_cc; decide) with ⟨st3, en3, ki3, va3, at3, be3, rk3, nu3, a3, y1, y2, y3, y4⟩ | ⟨y1, y2, y3⟩
      · obtain ⟨g4, st4, en4, ki4, va4, f4, p4, co4, code4, at4, be4, rk4, nu4, wr4, wa4, fresh4, i1, i2, i3⟩ := hR F0 a3 c' x' st3 en3 ki3 va3 v16 v17 v18 a19 at3 be3 rk3 nu3 u13 a14 y4 z9 (by omega)
        rcases i3 with ⟨j1, j2, j3, j4, a5, c5, x5, j5, j6, j7, j8, j9, j10, j11⟩ | ⟨j1, j2, j3, j4⟩
        · have hle5 := pp_ta_le j8
          obtain ⟨code6, fresh6, m1, m2, m3⟩ := pp_emit (z := 3002) j9 (by omega)
          refine ⟨(0, 1, nI (k + 1), st4, en4, ki4, va4, f4, p4, nI (c5 + 1), code6), (0, at4, be4, rk4, nu4, wr4, wa4, fresh6), ?_, ?_, Or.inl ⟨rfl, rfl, by omega, rfl, Or.inl ⟨rfl, j2, j3, j4, a5, c5 + 1, pm_wx x5 c5 3002, by omega, by omega, by omega, j8, m3, ?_, ?_⟩⟩⟩
          · unfold zb_X5_readTerm_8
            rw [if_neg (fun z => by have := (pv_le 900 (by omega) (by omega)).mp z; omega), if_neg (by decide), y1, pu_e5, if_neg (by decide), i1, pu_e9, j1, if_neg (by decide), show (1012 : Int32) = nI (pe_cm 3002) from by decide, m1, pu_e3, if_neg (by decide), pu_e3, pn_a1, pu_e1]
          · unfold zb_X11_readTerm_5
            rw [y2, pu_e5, if_neg (by decide), i2, pu_e7, j2, show (3002 : Int32) = nI 3002 from rfl, m2, pu_e1]
          · intro l hl
            rw [pm_wx_n (by omega), j10 l (by omega), z10 l hl]
          · exact pe_bin z6 j6 j10 z11 (fun ts h => j11 ts (by omega)) (by omega) (fun ts => rfl)
        · refine ⟨(0, 0, nI (k + 1), st4, en4, ki4, va4, f4, p4, co4, code4), (0, at4, be4, rk4, nu4, wr4, wa4, fresh4), ?_, ?_, Or.inl ⟨rfl, rfl, by omega, rfl, Or.inr ⟨rfl, j2, j3, j4⟩⟩⟩
          · unfold zb_X5_readTerm_8
            rw [if_neg (fun z => by have := (pv_le 900 (by omega) (by omega)).mp z; omega), if_neg (by decide), y1, pu_e5, if_neg (by decide), i1, pu_e9, j1, if_pos rfl, pu_e3, pn_a1, pu_e1]
          · unfold zb_X11_readTerm_5
            rw [y2, pu_e5, if_neg (by decide), i2, pu_e7, pr_codesW j2, pu_e1]
      · refine ⟨(1, 1, nI k, v12, v13, v14, v15, v16, v17, v18, a19), (1, u8, u9, u10, u11, 0, u13, a14), ?_, ?_, Or.inr ⟨fun z => Nat.noConfusion z, fun z => Nat.noConfusion z, Or.inl ⟨rfl, rfl, rfl, rfl, a', c', x', by omega, z6, z7, z8, z9, z10, z11⟩⟩⟩
        · unfold zb_X5_readTerm_8
          rw [if_neg (fun z => by have := (pv_le 900 (by omega) (by omega)).mp z; omega), if_neg (by decide), y1, pu_e5, if_pos rfl]
        · unfold zb_X11_readTerm_5
          rw [y2, pu_e5, if_pos rfl])
  obtain ⟨t0, t1, t2, t3, t4, t5, t6, t7, t8, t9, t10⟩ := r1
  obtain ⟨b0, b1, b2, b3, b4, b5, b6, b7⟩ := r2
  dsimp only at q3
  rw [q1, q2, pu_e11, pu_e8]
  have hzb : za_zb t1 = some t1 := by
    rcases q3 with ⟨rfl, _⟩ | ⟨rfl, _⟩ <;> rfl
  rw [hzb, pu_e1]
  exact ⟨_, _, _, _, _, _, _, _, _, _, _, _, _, _, _, _, rfl, rfl, q3⟩
end PLr
