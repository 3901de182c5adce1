/-! own rules: what a method does as a function, and the walk that follows that function -/
abbrev zz_tys (dA : Nat → ClassId) : List (ClassId × FieldType) := [(dA 0, .int), (dA 1, .long), (dA 2, .boolean), (dA 3, .object "HermitLadder$Pilgrim"), (dA 4, .object "HermitLadder$Tray"), (dA 5, .object "HermitLadder$Cliff")]
/-- an array's element, none outside it -/
def za_ld {α : Type} (f : Nat → α) (n : Nat) (i : Int32) : Option α := if i < 0 ∨ n ≤ i.toNatClampNeg then none else some (f i.toNatClampNeg)
/-- an array with another element, none outside it -/
def za_st {α : Type} (f : Nat → α) (n : Nat) (i : Int32) (x : α) : Option (Nat → α) := if i < 0 ∨ n ≤ i.toNatClampNeg then none else some (va_up f i.toNatClampNeg x)
/-- a number that is a boolean -/
def za_zb (v : Int32) : Option Int32 := if v = 0 ∨ v = 1 then some v else none
def za_nz (v : Int32) : Option Int32 := if v = 0 then none else some v
def za_nzl (v : Int64) : Option Int64 := if v = 0 then none else some v
/-- a body again and again: 0 goes on, others end it -/
def za_it {V : Type} (b : V → Option (Nat × V)) : Nat → V → Option (Nat × V)
  | 0, _ => none
  | n + 1, v => (b v).bind (fun q => if q.1 = 0 then za_it b n q.2 else some q)
theorem za_b {α β : Type} {o : Option α} {f : α → Option β} {b : β} (h : o.bind f = some b) : ∃ a, o = some a ∧ f a = some b := by
  cases o with
  | none => cases h
  | some a => exact ⟨a, rfl, h⟩
theorem za_t {α : Type} {c : Prop} [Decidable c] {a b x : α} (h : (if c then a else b) = x) (hc : c) : a = x := by rw [if_pos hc] at h; exact h
theorem za_f {α : Type} {c : Prop} [Decidable c] {a b x : α} (h : (if c then a else b) = x) (hc : ¬ c) : b = x := by rw [if_neg hc] at h; exact h
theorem za_lds {α : Type} {f : Nat → α} {n : Nat} {i : Int32} {v : α} (h : za_ld f n i = some v) : vp_in i n ∧ f i.toNatClampNeg = v := by
  unfold za_ld at h
  by_cases hc : i < 0 ∨ n ≤ i.toNatClampNeg
  · rw [if_pos hc] at h; cases h
  · rw [if_neg hc] at h; exact ⟨hc, Option.some.inj h⟩
theorem za_sts {α : Type} {f g : Nat → α} {n : Nat} {i : Int32} {v : α} (h : za_st f n i v = some g) : vp_in i n ∧ va_up f i.toNatClampNeg v = g := by
  unfold za_st at h
  by_cases hc : i < 0 ∨ n ≤ i.toNatClampNeg
  · rw [if_pos hc] at h; cases h
  · rw [if_neg hc] at h; exact ⟨hc, Option.some.inj h⟩
theorem za_zbs {v w : Int32} (h : za_zb v = some w) : v = w ∧ narrow .boolean (.int w) = .int w := by
  unfold za_zb at h
  by_cases hc : v = 0 ∨ v = 1
  · rw [if_pos hc] at h
    have := Option.some.inj h
    subst this
    refine ⟨rfl, ?_⟩
    rcases hc with rfl | rfl <;> rfl
  · rw [if_neg hc] at h; cases h
theorem za_nzs {v w : Int32} (h : za_nz v = some w) : v = w ∧ ¬ v = 0 := by
  unfold za_nz at h
  by_cases hc : v = 0
  · rw [if_pos hc] at h; cases h
  · rw [if_neg hc] at h; exact ⟨Option.some.inj h, hc⟩
theorem za_nzls {v w : Int64} (h : za_nzl v = some w) : v = w ∧ ¬ v = 0 := by
  unfold za_nzl at h
  by_cases hc : v = 0
  · rw [if_pos hc] at h; cases h
  · rw [if_neg hc] at h; exact ⟨Option.some.inj h, hc⟩
theorem za_upd (f : Nat → Int32) (k : Nat) (x : Int32) : upd f k x = va_up f k x := by
  funext j
  simp [upd, va_up]
theorem za_updL (f : Nat → Int64) (k : Nat) (x : Int64) : vp_updL f k x = va_up f k x := by
  funext j
  simp [vp_updL, va_up]
/-- a method's world at its start, and behind it -/
def zz_M (dC : Nat → ClassId) (dI : Nat → Nat → Nat) (dA : Nat → ClassId) (ws : va_W) (sz : Nat) (U : State) : Prop := U.heap.size = sz ∧ va_P (dC, dI) zz_cls ws U.heap ∧ va_K (dC, dI) zz_cls (zz_tys dA) U ∧ va_D (fun _ => True) ws
def zz_B (dC : Nat → ClassId) (dI : Nat → Nat → Nat) (dA : Nat → ClassId) (A : Nat → Prop) (ws : va_W) (t : State) : Prop := va_P (dC, dI) zz_cls ws t.heap ∧ va_K (dC, dI) zz_cls (zz_tys dA) t ∧ va_D A ws
theorem zz_blind {dC : Nat → ClassId} {dI : Nat → Nat → Nat} {dA : Nat → ClassId} {ws : va_W} {sz : Nat} {av : List Value} : FrameBlind (va_Pc av (zz_M dC dI dA ws sz)) := by
  intro a U g mk q
  obtain ⟨q0, q1, qP, qK, qD⟩ := q
  exact ⟨q0, q1, qP, va_K.moved (u := U) (U := U.calling g mk a) (Vm.Alike.refl U.vm) qK, qD⟩
section ZR
variable {p : Program} {l : Launch} {e : Env} {R : Room} {s : State} {m : MethodId} {args : Array Value} {below : List Frame} {meth : Method} {c : Code} {H : Heap} {locs : List Loc} {cells slots : Nat} {Q : State → Prop}
variable {cc : ByteArray} {pc : Nat} {ls : Array Slot} {rest : List Value} {D : va_G} {cl : List vw_C} {A : Nat → Prop} {a : Nat} {tys : List (ClassId × FieldType)} {ws : va_W} {H0 : Heap}
theorem zw_top {x y : Int32} (h : some x = some y) (k : W p l e R s m args below meth c H locs cells slots Q (F0 m pc ls (.int y :: rest))) : W p l e R s m args below meth c H locs cells slots Q (F0 m pc ls (.int x :: rest)) := by cases h; exact k
theorem zw_topl {x y : Int64} (h : some x = some y) (k : W p l e R s m args below meth c H locs cells slots Q (F0 m pc ls (.long y :: rest))) : W p l e R s m args below meth c H locs cells slots Q (F0 m pc ls (.long x :: rest)) := by cases h; exact k
theorem zw_iald (hexec : p.tables.exec = Jvm.exec) (hb : c.code = cc) (hK : va_K D cl tys s) (hP : va_P D cl ws H) (q0 t0 : Nat) {cA : ClassId} {n : Nat} {f : Nat → Int32} (ha : ws[q0]? = some (a, .inl (cA, n, .inl f))) (ht : tys[t0]? = some (cA, .int)) {i v : Int32} (hv : za_ld f n i = some v) (hdg : decode cc pc = .ok (.iaload, 1))
    (kk : W p l e R s m args below meth c H locs cells slots Q (F0 m (pc + 1) ls (.int v :: rest))) : W p l e R s m args below meth c H locs cells slots Q (F0 m pc ls (.int i :: .ref a :: rest)) := by
  obtain ⟨h1, h2⟩ := za_lds hv
  subst h2
  exact va_iald hexec hb hK hP q0 t0 ha ht h1 hdg kk
theorem zw_zald (hexec : p.tables.exec = Jvm.exec) (hb : c.code = cc) (hK : va_K D cl tys s) (hP : va_P D cl ws H) (q0 t0 : Nat) {cA : ClassId} {n : Nat} {f : Nat → Int32} (ha : ws[q0]? = some (a, .inl (cA, n, .inl f))) (ht : tys[t0]? = some (cA, .boolean)) {i v : Int32} (hv : za_ld f n i = some v) (hdg : decode cc pc = .ok (.baload, 1))
    (kk : W p l e R s m args below meth c H locs cells slots Q (F0 m (pc + 1) ls (.int v :: rest))) : W p l e R s m args below meth c H locs cells slots Q (F0 m pc ls (.int i :: .ref a :: rest)) := by
  obtain ⟨h1, h2⟩ := za_lds hv
  subst h2
  exact va_zald hexec hb hK hP q0 t0 ha ht h1 hdg kk
theorem zw_lald (hexec : p.tables.exec = Jvm.exec) (hb : c.code = cc) (hK : va_K D cl tys s) (hP : va_P D cl ws H) (q0 t0 : Nat) {cA : ClassId} {n : Nat} {f : Nat → Int64} (ha : ws[q0]? = some (a, .inl (cA, n, .inr (.inl f)))) (ht : tys[t0]? = some (cA, .long)) {i : Int32} {v : Int64} (hv : za_ld f n i = some v) (hdg : decode cc pc = .ok (.laload, 1))
    (kk : W p l e R s m args below meth c H locs cells slots Q (F0 m (pc + 1) ls (.long v :: rest))) : W p l e R s m args below meth c H locs cells slots Q (F0 m pc ls (.int i :: .ref a :: rest)) := by
  obtain ⟨h1, h2⟩ := za_lds hv
  subst h2
  exact va_lald hexec hb hK hP q0 t0 ha ht h1 hdg kk
theorem zw_iast (hexec : p.tables.exec = Jvm.exec) (hb : c.code = cc) (hK : va_K D cl tys s) (hP : va_P D cl ws H) (hD : va_D A ws) (hS : va_S A H0 H locs) (q0 t0 : Nat) {cA : ClassId} {n : Nat} {f g : Nat → Int32} (ha : ws[q0]? = some (a, .inl (cA, n, .inl f))) (ht : tys[t0]? = some (cA, .int)) {i : Int32} {x : Int32} (hv : za_st f n i x = some g) (hdg : decode cc pc = .ok (.iastore, 1))
    (kk : ∀ (H1 : Heap) (locs1 : List Loc), va_P D cl (ws.set q0 (a, .inl (cA, n, .inl g))) H1 → va_D A (ws.set q0 (a, .inl (cA, n, .inl g))) → va_S A H0 H1 locs1 → W p l e R s m args below meth c H1 locs1 cells slots Q (F0 m (pc + 1) ls rest)) : W p l e R s m args below meth c H locs cells slots Q (F0 m pc ls (.int x :: .int i :: .ref a :: rest)) := by
  obtain ⟨h1, h2⟩ := za_sts hv
  subst h2
  exact va_iast hexec hb hK hP hD hS q0 t0 ha ht h1 hdg (by rw [za_upd]; exact kk)
theorem zw_last (hexec : p.tables.exec = Jvm.exec) (hb : c.code = cc) (hK : va_K D cl tys s) (hP : va_P D cl ws H) (hD : va_D A ws) (hS : va_S A H0 H locs) (q0 t0 : Nat) {cA : ClassId} {n : Nat} {f g : Nat → Int64} (ha : ws[q0]? = some (a, .inl (cA, n, .inr (.inl f)))) (ht : tys[t0]? = some (cA, .long)) {i : Int32} {x : Int64} (hv : za_st f n i x = some g) (hdg : decode cc pc = .ok (.lastore, 1))
    (kk : ∀ (H1 : Heap) (locs1 : List Loc), va_P D cl (ws.set q0 (a, .inl (cA, n, .inr (.inl g)))) H1 → va_D A (ws.set q0 (a, .inl (cA, n, .inr (.inl g)))) → va_S A H0 H1 locs1 → W p l e R s m args below meth c H1 locs1 cells slots Q (F0 m (pc + 1) ls rest)) : W p l e R s m args below meth c H locs cells slots Q (F0 m pc ls (.long x :: .int i :: .ref a :: rest)) := by
  obtain ⟨h1, h2⟩ := za_sts hv
  subst h2
  exact va_last hexec hb hK hP hD hS q0 t0 ha ht h1 hdg (by rw [za_updL]; exact kk)
theorem zw_idiv (hexec : p.tables.exec = Jvm.exec) (hb : c.code = cc) {x y : Int32} (hv : za_nz y = some y) (hdg : decode cc pc = .ok (.idiv, 1))
    (k : W p l e R s m args below meth c H locs cells slots Q (F0 m (pc + 1) ls (.int (x / y) :: rest))) : W p l e R s m args below meth c H locs cells slots Q (F0 m pc ls (.int y :: .int x :: rest)) := lv_idiv hexec hb hdg (za_nzs hv).2 k
/-- a call of a method of an object, with a part of the world -/
theorem zw_Vi {S : Type} {y : MethodName} {bytes : ByteArray} {maxL nL n index ci N : Nat} {ret : Option FieldType} {wm : List Cond} {rm : Room} {Ts : List Cond} {own C : String} {T : u_T} {b : Addr} {As : List Value} {dC : Nat → ClassId} {dI : Nat → Nat → Nat} {dA : Nat → ClassId} {wc wr : va_W} {w1 : S → va_W} {post : Int32 → S → Prop} {fs : List Value}
    (X : CallFix p m c cc nL s args Ts own) (hM : Met l y wm rm (va_Pc (.ref b :: As) (zz_M dC dI dA wc H.size)) (va_Qi post (fun u t => zz_B dC dI dA (va_A wc H.size) (w1 u) t) (va_A wc H.size)) 0 0 (va_A wc H.size)) (cw : CallW R s args own C index y bytes maxL ret wm rm 0 0 n)
    (hrc : wc[0]? = some (b, .inr (ci, fs))) (hcl : zz_cls[ci]? = some (C, T, N)) (hK : va_K (dC, dI) zz_cls (zz_tys dA) s) (hP : va_P (dC, dI) zz_cls ws H) (hD : va_D A ws) (hS : va_S A H0 H locs) (hA : ∀ q, H0.size ≤ q → A q)
    (isC isR : List Nat) (hnC : va_nd isC = true) (hnR : va_nd isR = true) (hdis : ∀ i ∈ isR, i ∉ isC) (hC : isC.map (fun i => ws[i]?) = wc.map some) (hR : isR.map (fun i => ws[i]?) = wr.map some)
    (hn : As.length = n) (hsize : ls.size = nL) (hW : (rest.map fun v => v.category).sum ≤ 8) (hdg : decode cc pc = .ok (.invokevirtual index, 3)) (hf : cells ≤ R.cells ∧ slots ≤ R.slots) {st0 : List Value} (hst : st0 = As.reverse ++ .ref b :: rest)
    (kk : ∀ (r : Int32) (u : S) (H1 : Heap) (locs1 : List Loc), post r u → va_P (dC, dI) zz_cls (wr ++ w1 u) H1 → va_D A (wr ++ w1 u) → va_S A H0 H1 locs1 → W p l e R s m args below meth c H1 locs1 cells slots Q (F0 m (pc + 3) ls (.int r :: rest))) : W p l e R s m args below meth c H locs cells slots Q (F0 m pc ls st0) := by
  have hPc : va_P (dC, dI) zz_cls wc H := by
    intro k q hq
    have h1 : (isC.map (fun i => ws[i]?))[k]? = some (some q) := by rw [hC, List.getElem?_map, hq]; rfl
    rw [List.getElem?_map] at h1
    cases hi : isC[k]? with
    | none => rw [hi] at h1; cases h1
    | some i => rw [hi] at h1; exact hP i q (Option.some.inj h1)
  have hDc : va_D A wc := hD.sub isC hnC hC
  have hFc := va_free (wc := wc) hD hS hA isC hC
  refine va_calli (va_runV (As := As) (rest := rest) X hM cw ⟨zz_blind, va_recv hK hPc (ci := ci) (q0 := 0) hcl hrc, fun U hU hW => ⟨rfl, by rw [hU], by rw [hU]; exact hPc, va_K.moved hW.alike hK, hDc.weaken (fun _ _ _ _ => trivial)⟩⟩ rfl hn hsize hst (lv_room hW) hdg hf) hS (fun q _ h => hFc q h) hFc (fun r u t H1 locs1 ht hvm hw hB hz1 hk1 hS1 => ?_)
  obtain ⟨hP1, hK1, hD1⟩ := hB
  rw [ht] at hP1
  obtain ⟨hP2, hD2⟩ := va_join hP hD isC isR hC hR hnR hdis hk1 hFc hP1 hD1
  exact kk r u H1 locs1 hw hP2 hD2 hS1
theorem zw_Vv {S : Type} {y : MethodName} {bytes : ByteArray} {maxL nL n index ci N : Nat} {ret : Option FieldType} {wm : List Cond} {rm : Room} {Ts : List Cond} {own C : String} {T : u_T} {b : Addr} {As : List Value} {dC : Nat → ClassId} {dI : Nat → Nat → Nat} {dA : Nat → ClassId} {wc wr : va_W} {w1 : S → va_W} {post : S → Prop} {fs : List Value}
    (X : CallFix p m c cc nL s args Ts own) (hM : Met l y wm rm (va_Pc (.ref b :: As) (zz_M dC dI dA wc H.size)) (va_Qv post (fun u t => zz_B dC dI dA (va_A wc H.size) (w1 u) t) (va_A wc H.size)) 0 0 (va_A wc H.size)) (cw : CallW R s args own C index y bytes maxL ret wm rm 0 0 n)
    (hrc : wc[0]? = some (b, .inr (ci, fs))) (hcl : zz_cls[ci]? = some (C, T, N)) (hK : va_K (dC, dI) zz_cls (zz_tys dA) s) (hP : va_P (dC, dI) zz_cls ws H) (hD : va_D A ws) (hS : va_S A H0 H locs) (hA : ∀ q, H0.size ≤ q → A q)
    (isC isR : List Nat) (hnC : va_nd isC = true) (hnR : va_nd isR = true) (hdis : ∀ i ∈ isR, i ∉ isC) (hC : isC.map (fun i => ws[i]?) = wc.map some) (hR : isR.map (fun i => ws[i]?) = wr.map some)
    (hn : As.length = n) (hsize : ls.size = nL) (hW : (rest.map fun v => v.category).sum ≤ 8) (hdg : decode cc pc = .ok (.invokevirtual index, 3)) (hf : cells ≤ R.cells ∧ slots ≤ R.slots) {st0 : List Value} (hst : st0 = As.reverse ++ .ref b :: rest)
    (kk : ∀ (u : S) (H1 : Heap) (locs1 : List Loc), post u → va_P (dC, dI) zz_cls (wr ++ w1 u) H1 → va_D A (wr ++ w1 u) → va_S A H0 H1 locs1 → W p l e R s m args below meth c H1 locs1 cells slots Q (F0 m (pc + 3) ls rest)) : W p l e R s m args below meth c H locs cells slots Q (F0 m pc ls st0) := by
  have hPc : va_P (dC, dI) zz_cls wc H := by
    intro k q hq
    have h1 : (isC.map (fun i => ws[i]?))[k]? = some (some q) := by rw [hC, List.getElem?_map, hq]; rfl
    rw [List.getElem?_map] at h1
    cases hi : isC[k]? with
    | none => rw [hi] at h1; cases h1
    | some i => rw [hi] at h1; exact hP i q (Option.some.inj h1)
  have hDc : va_D A wc := hD.sub isC hnC hC
  have hFc := va_free (wc := wc) hD hS hA isC hC
  refine va_callv (va_runV (As := As) (rest := rest) X hM cw ⟨zz_blind, va_recv hK hPc (ci := ci) (q0 := 0) hcl hrc, fun U hU hW => ⟨rfl, by rw [hU], by rw [hU]; exact hPc, va_K.moved hW.alike hK, hDc.weaken (fun _ _ _ _ => trivial)⟩⟩ rfl hn hsize hst (lv_room hW) hdg hf) hS (fun q _ h => hFc q h) hFc (fun u t H1 locs1 ht hvm hw hB hz1 hk1 hS1 => ?_)
  obtain ⟨hP1, hK1, hD1⟩ := hB
  rw [ht] at hP1
  obtain ⟨hP2, hD2⟩ := va_join hP hD isC isR hC hR hnR hdis hk1 hFc hP1 hD1
  exact kk u H1 locs1 hw hP2 hD2 hS1
theorem zw_Vl {S : Type} {y : MethodName} {bytes : ByteArray} {maxL nL n index ci N : Nat} {ret : Option FieldType} {wm : List Cond} {rm : Room} {Ts : List Cond} {own C : String} {T : u_T} {b : Addr} {As : List Value} {dC : Nat → ClassId} {dI : Nat → Nat → Nat} {dA : Nat → ClassId} {wc wr : va_W} {w1 : S → va_W} {post : Int64 → S → Prop} {fs : List Value}
    (X : CallFix p m c cc nL s args Ts own) (hM : Met l y wm rm (va_Pc (.ref b :: As) (zz_M dC dI dA wc H.size)) (va_Ql post (fun u t => zz_B dC dI dA (va_A wc H.size) (w1 u) t) (va_A wc H.size)) 0 0 (va_A wc H.size)) (cw : CallW R s args own C index y bytes maxL ret wm rm 0 0 n)
    (hrc : wc[0]? = some (b, .inr (ci, fs))) (hcl : zz_cls[ci]? = some (C, T, N)) (hK : va_K (dC, dI) zz_cls (zz_tys dA) s) (hP : va_P (dC, dI) zz_cls ws H) (hD : va_D A ws) (hS : va_S A H0 H locs) (hA : ∀ q, H0.size ≤ q → A q)
    (isC isR : List Nat) (hnC : va_nd isC = true) (hnR : va_nd isR = true) (hdis : ∀ i ∈ isR, i ∉ isC) (hC : isC.map (fun i => ws[i]?) = wc.map some) (hR : isR.map (fun i => ws[i]?) = wr.map some)
    (hn : As.length = n) (hsize : ls.size = nL) (hW : (rest.map fun v => v.category).sum ≤ 8) (hdg : decode cc pc = .ok (.invokevirtual index, 3)) (hf : cells ≤ R.cells ∧ slots ≤ R.slots) {st0 : List Value} (hst : st0 = As.reverse ++ .ref b :: rest)
    (kk : ∀ (r : Int64) (u : S) (H1 : Heap) (locs1 : List Loc), post r u → va_P (dC, dI) zz_cls (wr ++ w1 u) H1 → va_D A (wr ++ w1 u) → va_S A H0 H1 locs1 → W p l e R s m args below meth c H1 locs1 cells slots Q (F0 m (pc + 3) ls (.long r :: rest))) : W p l e R s m args below meth c H locs cells slots Q (F0 m pc ls st0) := by
  have hPc : va_P (dC, dI) zz_cls wc H := by
    intro k q hq
    have h1 : (isC.map (fun i => ws[i]?))[k]? = some (some q) := by rw [hC, List.getElem?_map, hq]; rfl
    rw [List.getElem?_map] at h1
    cases hi : isC[k]? with
    | none => rw [hi] at h1; cases h1
    | some i => rw [hi] at h1; exact hP i q (Option.some.inj h1)
  have hDc : va_D A wc := hD.sub isC hnC hC
  have hFc := va_free (wc := wc) hD hS hA isC hC
  refine va_calll (va_runV (As := As) (rest := rest) X hM cw ⟨zz_blind, va_recv hK hPc (ci := ci) (q0 := 0) hcl hrc, fun U hU hW => ⟨rfl, by rw [hU], by rw [hU]; exact hPc, va_K.moved hW.alike hK, hDc.weaken (fun _ _ _ _ => trivial)⟩⟩ rfl hn hsize hst (lv_room hW) hdg hf) hS (fun q _ h => hFc q h) hFc (fun r u t H1 locs1 ht hvm hw hB hz1 hk1 hS1 => ?_)
  obtain ⟨hP1, hK1, hD1⟩ := hB
  rw [ht] at hP1
  obtain ⟨hP2, hD2⟩ := va_join hP hD isC isR hC hR hnR hdis hk1 hFc hP1 hD1
  exact kk r u H1 locs1 hw hP2 hD2 hS1
/-- a static method, with a part of the world -/
theorem zw_Si {S : Type} {y : MethodName} {bytes : ByteArray} {maxL nL n index : Nat} {ret : Option FieldType} {wm : List Cond} {rm : Room} {Ts : List Cond} {own : String} {As : List Value} {dC : Nat → ClassId} {dI : Nat → Nat → Nat} {dA : Nat → ClassId} {wc wr : va_W} {w1 : S → va_W} {post : Int32 → S → Prop}
    (X : CallFix p m c cc nL s args Ts own) (hM : Met l y wm rm (va_Pc As (zz_M dC dI dA wc H.size)) (va_Qi post (fun u t => zz_B dC dI dA (va_A wc H.size) (w1 u) t) (va_A wc H.size)) 0 0 (va_A wc H.size)) (cw : CallB R s args own index y bytes maxL ret wm rm 0 0 n ∧ (Cond.static y).before args s = true)
    (hK : va_K (dC, dI) zz_cls (zz_tys dA) s) (hP : va_P (dC, dI) zz_cls ws H) (hD : va_D A ws) (hS : va_S A H0 H locs) (hA : ∀ q, H0.size ≤ q → A q)
    (isC isR : List Nat) (hnC : va_nd isC = true) (hnR : va_nd isR = true) (hdis : ∀ i ∈ isR, i ∉ isC) (hC : isC.map (fun i => ws[i]?) = wc.map some) (hR : isR.map (fun i => ws[i]?) = wr.map some)
    (hn : As.length = n) (hsize : ls.size = nL) (hW : (rest.map fun v => v.category).sum ≤ 8) (hdg : decode cc pc = .ok (.invokestatic index, 3)) (hf : cells ≤ R.cells ∧ slots ≤ R.slots) {st0 : List Value} (hst : st0 = As.reverse ++ rest)
    (kk : ∀ (r : Int32) (u : S) (H1 : Heap) (locs1 : List Loc), post r u → va_P (dC, dI) zz_cls (wr ++ w1 u) H1 → va_D A (wr ++ w1 u) → va_S A H0 H1 locs1 → W p l e R s m args below meth c H1 locs1 cells slots Q (F0 m (pc + 3) ls (.int r :: rest))) : W p l e R s m args below meth c H locs cells slots Q (F0 m pc ls st0) := by
  have hPc : va_P (dC, dI) zz_cls wc H := by
    intro k q hq
    have h1 : (isC.map (fun i => ws[i]?))[k]? = some (some q) := by rw [hC, List.getElem?_map, hq]; rfl
    rw [List.getElem?_map] at h1
    cases hi : isC[k]? with
    | none => rw [hi] at h1; cases h1
    | some i => rw [hi] at h1; exact hP i q (Option.some.inj h1)
  have hDc : va_D A wc := hD.sub isC hnC hC
  have hFc := va_free (wc := wc) hD hS hA isC hC
  refine va_calli (va_runS (As := As) (rest := rest) X hM cw ⟨zz_blind, fun U hU hW => ⟨rfl, by rw [hU], by rw [hU]; exact hPc, va_K.moved hW.alike hK, hDc.weaken (fun _ _ _ _ => trivial)⟩⟩ rfl hn hsize hst (lv_room hW) hdg hf) hS (fun q _ h => hFc q h) hFc (fun r u t H1 locs1 ht hvm hw hB hz1 hk1 hS1 => ?_)
  obtain ⟨hP1, hK1, hD1⟩ := hB
  rw [ht] at hP1
  obtain ⟨hP2, hD2⟩ := va_join hP hD isC isR hC hR hnR hdis hk1 hFc hP1 hD1
  exact kk r u H1 locs1 hw hP2 hD2 hS1
theorem zw_Sl {S : Type} {y : MethodName} {bytes : ByteArray} {maxL nL n index : Nat} {ret : Option FieldType} {wm : List Cond} {rm : Room} {Ts : List Cond} {own : String} {As : List Value} {dC : Nat → ClassId} {dI : Nat → Nat → Nat} {dA : Nat → ClassId} {wc wr : va_W} {w1 : S → va_W} {post : Int64 → S → Prop}
    (X : CallFix p m c cc nL s args Ts own) (hM : Met l y wm rm (va_Pc As (zz_M dC dI dA wc H.size)) (va_Ql post (fun u t => zz_B dC dI dA (va_A wc H.size) (w1 u) t) (va_A wc H.size)) 0 0 (va_A wc H.size)) (cw : CallB R s args own index y bytes maxL ret wm rm 0 0 n ∧ (Cond.static y).before args s = true)
    (hK : va_K (dC, dI) zz_cls (zz_tys dA) s) (hP : va_P (dC, dI) zz_cls ws H) (hD : va_D A ws) (hS : va_S A H0 H locs) (hA : ∀ q, H0.size ≤ q → A q)
    (isC isR : List Nat) (hnC : va_nd isC = true) (hnR : va_nd isR = true) (hdis : ∀ i ∈ isR, i ∉ isC) (hC : isC.map (fun i => ws[i]?) = wc.map some) (hR : isR.map (fun i => ws[i]?) = wr.map some)
    (hn : As.length = n) (hsize : ls.size = nL) (hW : (rest.map fun v => v.category).sum ≤ 8) (hdg : decode cc pc = .ok (.invokestatic index, 3)) (hf : cells ≤ R.cells ∧ slots ≤ R.slots) {st0 : List Value} (hst : st0 = As.reverse ++ rest)
    (kk : ∀ (r : Int64) (u : S) (H1 : Heap) (locs1 : List Loc), post r u → va_P (dC, dI) zz_cls (wr ++ w1 u) H1 → va_D A (wr ++ w1 u) → va_S A H0 H1 locs1 → W p l e R s m args below meth c H1 locs1 cells slots Q (F0 m (pc + 3) ls (.long r :: rest))) : W p l e R s m args below meth c H locs cells slots Q (F0 m pc ls st0) := by
  have hPc : va_P (dC, dI) zz_cls wc H := by
    intro k q hq
    have h1 : (isC.map (fun i => ws[i]?))[k]? = some (some q) := by rw [hC, List.getElem?_map, hq]; rfl
    rw [List.getElem?_map] at h1
    cases hi : isC[k]? with
    | none => rw [hi] at h1; cases h1
    | some i => rw [hi] at h1; exact hP i q (Option.some.inj h1)
  have hDc : va_D A wc := hD.sub isC hnC hC
  have hFc := va_free (wc := wc) hD hS hA isC hC
  refine va_calll (va_runS (As := As) (rest := rest) X hM cw ⟨zz_blind, fun U hU hW => ⟨rfl, by rw [hU], by rw [hU]; exact hPc, va_K.moved hW.alike hK, hDc.weaken (fun _ _ _ _ => trivial)⟩⟩ rfl hn hsize hst (lv_room hW) hdg hf) hS (fun q _ h => hFc q h) hFc (fun r u t H1 locs1 ht hvm hw hB hz1 hk1 hS1 => ?_)
  obtain ⟨hP1, hK1, hD1⟩ := hB
  rw [ht] at hP1
  obtain ⟨hP2, hD2⟩ := va_join hP hD isC isR hC hR hnR hdis hk1 hFc hP1 hD1
  exact kk r u H1 locs1 hw hP2 hD2 hS1
theorem zw_Sv {S : Type} {y : MethodName} {bytes : ByteArray} {maxL nL n index : Nat} {ret : Option FieldType} {wm : List Cond} {rm : Room} {Ts : List Cond} {own : String} {As : List Value} {dC : Nat → ClassId} {dI : Nat → Nat → Nat} {dA : Nat → ClassId} {wc wr : va_W} {w1 : S → va_W} {post : S → Prop}
    (X : CallFix p m c cc nL s args Ts own) (hM : Met l y wm rm (va_Pc As (zz_M dC dI dA wc H.size)) (va_Qv post (fun u t => zz_B dC dI dA (va_A wc H.size) (w1 u) t) (va_A wc H.size)) 0 0 (va_A wc H.size)) (cw : CallB R s args own index y bytes maxL ret wm rm 0 0 n ∧ (Cond.static y).before args s = true)
    (hK : va_K (dC, dI) zz_cls (zz_tys dA) s) (hP : va_P (dC, dI) zz_cls ws H) (hD : va_D A ws) (hS : va_S A H0 H locs) (hA : ∀ q, H0.size ≤ q → A q)
    (isC isR : List Nat) (hnC : va_nd isC = true) (hnR : va_nd isR = true) (hdis : ∀ i ∈ isR, i ∉ isC) (hC : isC.map (fun i => ws[i]?) = wc.map some) (hR : isR.map (fun i => ws[i]?) = wr.map some)
    (hn : As.length = n) (hsize : ls.size = nL) (hW : (rest.map fun v => v.category).sum ≤ 8) (hdg : decode cc pc = .ok (.invokestatic index, 3)) (hf : cells ≤ R.cells ∧ slots ≤ R.slots) {st0 : List Value} (hst : st0 = As.reverse ++ rest)
    (kk : ∀ (u : S) (H1 : Heap) (locs1 : List Loc), post u → va_P (dC, dI) zz_cls (wr ++ w1 u) H1 → va_D A (wr ++ w1 u) → va_S A H0 H1 locs1 → W p l e R s m args below meth c H1 locs1 cells slots Q (F0 m (pc + 3) ls rest)) : W p l e R s m args below meth c H locs cells slots Q (F0 m pc ls st0) := by
  have hPc : va_P (dC, dI) zz_cls wc H := by
    intro k q hq
    have h1 : (isC.map (fun i => ws[i]?))[k]? = some (some q) := by rw [hC, List.getElem?_map, hq]; rfl
    rw [List.getElem?_map] at h1
    cases hi : isC[k]? with
    | none => rw [hi] at h1; cases h1
    | some i => rw [hi] at h1; exact hP i q (Option.some.inj h1)
  have hDc : va_D A wc := hD.sub isC hnC hC
  have hFc := va_free (wc := wc) hD hS hA isC hC
  refine va_callv (va_runS (As := As) (rest := rest) X hM cw ⟨zz_blind, fun U hU hW => ⟨rfl, by rw [hU], by rw [hU]; exact hPc, va_K.moved hW.alike hK, hDc.weaken (fun _ _ _ _ => trivial)⟩⟩ rfl hn hsize hst (lv_room hW) hdg hf) hS (fun q _ h => hFc q h) hFc (fun u t H1 locs1 ht hvm hw hB hz1 hk1 hS1 => ?_)
  obtain ⟨hP1, hK1, hD1⟩ := hB
  rw [ht] at hP1
  obtain ⟨hP2, hD2⟩ := va_join hP hD isC isR hC hR hnR hdis hk1 hFc hP1 hD1
  exact kk u H1 locs1 hw hP2 hD2 hS1
end ZR
