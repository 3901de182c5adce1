/-! rules for the law: a world of which a part is named, the rest is any -/
section ZL
theorem zL_Pm {D : va_G} {cl : List vw_C} {ws : va_W} {H : Heap} : va_P D cl ws H ↔ ∀ q ∈ ws, va_at D cl q H := by
  refine ⟨fun h q hq => ?_, fun h k q hk => h q (List.mem_of_getElem? hk)⟩
  obtain ⟨k, hk⟩ := List.getElem?_of_mem hq
  exact h k q hk
theorem zL_Dm {A : Nat → Prop} {ws : va_W} : va_D A ws ↔ (ws.map (fun q => q.1)).Nodup ∧ ∀ q ∈ ws, A q.1 := by
  constructor
  · rintro ⟨h1, h2⟩
    refine ⟨?_, fun q hq => ?_⟩
    · unfold List.Nodup
      rw [List.pairwise_map, List.pairwise_iff_getElem]
      intro i j hi hj hij z
      have := h1 i j _ _ (List.getElem?_eq_getElem hi) (List.getElem?_eq_getElem hj) z
      omega
    · obtain ⟨k, hk⟩ := List.getElem?_of_mem hq
      exact h2 k q hk
  · rintro ⟨h1, h2⟩
    unfold List.Nodup at h1
    rw [List.pairwise_map, List.pairwise_iff_getElem] at h1
    refine ⟨fun i j p q hp hq z => ?_, fun k q hk => h2 q (List.mem_of_getElem? hk)⟩
    obtain ⟨hi, rfl⟩ := List.getElem?_eq_some_iff.mp hp
    obtain ⟨hj, rfl⟩ := List.getElem?_eq_some_iff.mp hq
    rcases Nat.lt_trichotomy i j with h | h | h
    · exact absurd z (h1 i j hi hj h)
    · exact h
    · exact absurd z.symm (h1 j i hj hi h)
theorem zL_Dp {A : Nat → Prop} {u v : va_W} (h : va_D A u) (hp : u.Perm v) : va_D A v := by
  rw [zL_Dm] at *
  exact ⟨(hp.map (fun q => q.1)).nodup_iff.mp h.1, fun q hq => h.2 q (hp.mem_iff.mpr hq)⟩
theorem zL_Pp {D : va_G} {cl : List vw_C} {u v : va_W} {H : Heap} (h : va_P D cl u H) (hp : u.Perm v) : va_P D cl v H := by
  rw [zL_Pm] at *
  exact fun q hq => h q (hp.mem_iff.mpr hq)
theorem zL_Da {A : Nat → Prop} {u v : va_W} : va_D A (u ++ v) ↔ va_D A u ∧ va_D A v ∧ ∀ p ∈ u, ∀ q ∈ v, p.1 ≠ q.1 := by
  rw [zL_Dm, zL_Dm, zL_Dm, List.map_append, List.nodup_append]
  constructor
  · rintro ⟨⟨h1, h2, h3⟩, h4⟩
    exact ⟨⟨h1, fun q hq => h4 q (List.mem_append_left _ hq)⟩, ⟨h2, fun q hq => h4 q (List.mem_append_right _ hq)⟩, fun p hp q hq => h3 _ (List.mem_map_of_mem hp) _ (List.mem_map_of_mem hq)⟩
  · rintro ⟨⟨h1, h2⟩, ⟨h3, h4⟩, h5⟩
    refine ⟨⟨h1, h3, fun a ha b hb => ?_⟩, fun q hq => ?_⟩
    · obtain ⟨p, hp, rfl⟩ := List.mem_map.mp ha
      obtain ⟨q, hq, rfl⟩ := List.mem_map.mp hb
      exact h5 p hp q hq
    · rcases List.mem_append.mp hq with h | h
      · exact h2 q h
      · exact h4 q h
theorem zL_Pa {D : va_G} {cl : List vw_C} {u v : va_W} {H : Heap} : va_P D cl (u ++ v) H ↔ va_P D cl u H ∧ va_P D cl v H := by
  rw [zL_Pm, zL_Pm, zL_Pm]
  exact ⟨fun h => ⟨fun q hq => h q (List.mem_append_left _ hq), fun q hq => h q (List.mem_append_right _ hq)⟩, fun h q hq => by
    rcases List.mem_append.mp hq with z | z
    · exact h.1 q z
    · exact h.2 q z⟩
theorem zL_mem {ws ws' : va_W} (is : List Nat) (hs : is.map (fun i => ws[i]?) = ws'.map some) : ∀ q ∈ ws', q ∈ ws := by
  intro q hq
  have h1 : some q ∈ ws'.map some := List.mem_map_of_mem hq
  rw [← hs] at h1
  obtain ⟨i, _, hi⟩ := List.mem_map.mp h1
  exact List.mem_of_getElem? hi
/-- the named part in another order -/
theorem zL_sub {A : Nat → Prop} {D : va_G} {cl : List vw_C} {ws ws' X : va_W} {H : Heap} (hP : va_P D cl (ws ++ X) H) (hD : va_D A (ws ++ X)) (is : List Nat) (hn : va_nd is = true) (hs : is.map (fun i => ws[i]?) = ws'.map some) : va_P D cl (ws' ++ X) H ∧ va_D A (ws' ++ X) := by
  rw [zL_Pa] at hP
  rw [zL_Da] at hD
  have hm := zL_mem is hs
  refine ⟨zL_Pa.mpr ⟨zL_Pm.mpr fun q hq => zL_Pm.mp hP.1 q (hm q hq), hP.2⟩, zL_Da.mpr ⟨hD.1.sub is hn hs, hD.2.1, fun p hp q hq => hD.2.2 p (hm p hp) q hq⟩⟩
/-- behind a call -/
theorem zL_join {A0 : Nat → Prop} {D : va_G} {cl : List vw_C} {ws wc wr w1 ws' X : va_W} {H H1 : Heap} (hP : va_P D cl (ws ++ X) H) (hD : va_D A0 (ws ++ X)) (isC isR : List Nat) (hC : isC.map (fun i => ws[i]?) = wc.map some) (hR : isR.map (fun i => ws[i]?) = wr.map some) (hn : va_nd isR = true) (hdis : ∀ i ∈ isR, i ∉ isC)
    (hk : ∀ q : Nat, q < H.size → ¬ va_A wc H.size q → H1[q]? = H[q]?) (hF : ∀ q, va_A wc H.size q → A0 q) (hP1 : va_P D cl w1 H1) (hD1 : va_D (va_A wc H.size) w1) (is : List Nat) (hni : va_nd is = true) (hs : is.map (fun i => (wr ++ w1)[i]?) = ws'.map some) : va_P D cl (ws' ++ X) H1 ∧ va_D A0 (ws' ++ X) := by
  rw [zL_Pa] at hP
  rw [zL_Da] at hD
  obtain ⟨hPw, hPx⟩ := hP
  obtain ⟨hDw, hDx, hdj⟩ := hD
  obtain ⟨hP2, hD2⟩ := va_join hPw hDw isC isR hC hR hn hdis hk hF hP1 hD1
  have hmC := zL_mem isC hC
  have hmR := zL_mem isR hR
  have hlt : ∀ q ∈ X, q.1 < H.size := fun q hq => (zL_Pm.mp hPx q hq).lt
  have hout : ∀ q ∈ X, ¬ va_A wc H.size q.1 := fun q hq z => by
    rcases z with ⟨k, e, hk2⟩ | z
    · exact hdj (q.1, e) (hmC _ (List.mem_of_getElem? hk2)) q hq rfl
    · have := hlt q hq; omega
  have hPx1 : va_P D cl X H1 := zL_Pm.mpr fun q hq => (zL_Pm.mp hPx q hq).kept (hk q.1 (hlt q hq) (hout q hq))
  have hall : va_P D cl ((wr ++ w1) ++ X) H1 ∧ va_D A0 ((wr ++ w1) ++ X) := by
    refine ⟨zL_Pa.mpr ⟨hP2, hPx1⟩, zL_Da.mpr ⟨hD2, hDx, fun p hp q hq => ?_⟩⟩
    rcases List.mem_append.mp hp with z | z
    · exact hdj p (hmR p z) q hq
    · intro y
      have h1 : va_A wc H.size p.1 := (zL_Dm.mp hD1).2 p z
      rw [y] at h1
      exact hout q hq h1
  exact zL_sub hall.1 hall.2 is hni hs
variable {p : Program} {l : Launch} {e : Env} {R : Room} {s : State} {m : MethodId} {args : Array Value} {below : List Frame} {meth : Method} {c : Code} {H : Heap} {locs : List Loc} {cells slots : Nat} {Q : State → Prop}
variable {cc : ByteArray} {pc : Nat} {ls : Array Slot} {rest : List Value} {A : Nat → Prop} {a : Nat} {ws wc wr Xw : va_W} {dC : Nat → ClassId} {dI : Nat → Nat → Nat} {dA : Nat → ClassId} {U : Type} {w1 ws' : U → va_W}
theorem zL_Vi {y : MethodName} {bytes : ByteArray} {maxL nL n index ci N mc ms : Nat} {ret : Option FieldType} {wm : List Cond} {rm : Room} {Ts : List Cond} {own C : String} {T : u_T} {b : Addr} {fs : List Value} {As : List Value} {adK adV : Nat → Nat} {r0 : Int32}
    (X : CallFix p m c cc nL s args Ts own) (hM : Met l y wm rm (va_Pc (.ref b :: As) (zx_M dC dI dA adK adV wc H.size)) (va_Qi (fun (r : Int32) (_ : U) => r = r0) (fun u t => zz_B dC dI dA (va_A wc H.size) (w1 u) t) (va_A wc H.size)) mc ms (va_A wc H.size)) (cw : CallW R s args own C index y bytes maxL ret wm rm mc ms n)
    (hrc : wc[0]? = some (b, .inr (ci, fs))) (hcl : zz_cls[ci]? = some (C, T, N)) (hZ : zx adK adV A s s.heap) (hK : va_K (dC, dI) zz_cls (zz_tys dA) s) (hP : va_P (dC, dI) zz_cls (ws ++ Xw) H) (hD : va_D A (ws ++ Xw)) (hS : va_S A s.heap H locs) (hA : ∀ q, s.heap.size ≤ q → A q)
    (isC isR isO : List Nat) (hnC : va_nd isC = true) (hnR : va_nd isR = true) (hnO : va_nd isO = true) (hdis : ∀ i ∈ isR, i ∉ isC) (hC : isC.map (fun i => ws[i]?) = wc.map some) (hR : isR.map (fun i => ws[i]?) = wr.map some) (hO : ∀ u, isO.map (fun i => (wr ++ w1 u)[i]?) = (ws' u).map some)
    (hn : As.length = n) (hsize : ls.size = nL) (hW : (rest.map fun v => v.category).sum ≤ 8) (hdg : decode cc pc = .ok (.invokevirtual index, 3)) (hf : cells + mc ≤ R.cells ∧ slots + ms ≤ R.slots) {st0 : List Value} (hst : st0 = As.reverse ++ .ref b :: rest)
    (kk : ∀ (u : U) (H1 : Heap) (locs1 : List Loc), va_P (dC, dI) zz_cls (ws' u ++ Xw) H1 → va_D A (ws' u ++ Xw) → va_S A s.heap H1 locs1 → W p l e R s m args below meth c H1 locs1 (cells + mc) (slots + ms) Q (F0 m (pc + 3) ls (.int r0 :: rest))) : W p l e R s m args below meth c H locs cells slots Q (F0 m pc ls st0) := by
  have hPw := (zL_Pa.mp hP).1
  have hDw := (zL_Da.mp hD).1
  have hPc : va_P (dC, dI) zz_cls wc H := zL_Pm.mpr fun q hq => zL_Pm.mp hPw q (zL_mem isC hC q hq)
  have hDc : va_D A wc := hDw.sub isC hnC hC
  have hFc := va_free (wc := wc) hDw hS hA isC hC
  refine va_calli (va_runV (As := As) (rest := rest) X hM cw ⟨zx_blind, va_recv hK hPc (ci := ci) (q0 := 0) hcl hrc, fun U hU hW => ⟨rfl, ⟨by rw [hU], by rw [hU]; exact hPc, va_K.moved hW.alike hK, hDc.weaken (fun _ _ _ _ => trivial)⟩, by rw [hU]; exact zx.pass hW hZ hS.2.1 hFc⟩⟩ rfl hn hsize hst (lv_room hW) hdg hf) hS (fun q _ h => hFc q h) hFc (fun r u t H1 locs1 ht hvm hw hB hz1 hk1 hS1 => ?_)
  subst hw
  obtain ⟨hP1, hK1, hD1⟩ := hB
  rw [ht] at hP1
  obtain ⟨hP2, hD2⟩ := zL_join hP hD isC isR hC hR hnR hdis hk1 hFc hP1 hD1 isO hnO (hO u)
  exact kk u H1 locs1 hP2 hD2 hS1
theorem zL_Vl {y : MethodName} {bytes : ByteArray} {maxL nL n index ci N mc ms : Nat} {ret : Option FieldType} {wm : List Cond} {rm : Room} {Ts : List Cond} {own C : String} {T : u_T} {b : Addr} {fs : List Value} {As : List Value} {adK adV : Nat → Nat} {r0 : Int64}
    (X : CallFix p m c cc nL s args Ts own) (hM : Met l y wm rm (va_Pc (.ref b :: As) (zx_M dC dI dA adK adV wc H.size)) (va_Ql (fun (r : Int64) (_ : U) => r = r0) (fun u t => zz_B dC dI dA (va_A wc H.size) (w1 u) t) (va_A wc H.size)) mc ms (va_A wc H.size)) (cw : CallW R s args own C index y bytes maxL ret wm rm mc ms n)
    (hrc : wc[0]? = some (b, .inr (ci, fs))) (hcl : zz_cls[ci]? = some (C, T, N)) (hZ : zx adK adV A s s.heap) (hK : va_K (dC, dI) zz_cls (zz_tys dA) s) (hP : va_P (dC, dI) zz_cls (ws ++ Xw) H) (hD : va_D A (ws ++ Xw)) (hS : va_S A s.heap H locs) (hA : ∀ q, s.heap.size ≤ q → A q)
    (isC isR isO : List Nat) (hnC : va_nd isC = true) (hnR : va_nd isR = true) (hnO : va_nd isO = true) (hdis : ∀ i ∈ isR, i ∉ isC) (hC : isC.map (fun i => ws[i]?) = wc.map some) (hR : isR.map (fun i => ws[i]?) = wr.map some) (hO : ∀ u, isO.map (fun i => (wr ++ w1 u)[i]?) = (ws' u).map some)
    (hn : As.length = n) (hsize : ls.size = nL) (hW : (rest.map fun v => v.category).sum ≤ 8) (hdg : decode cc pc = .ok (.invokevirtual index, 3)) (hf : cells + mc ≤ R.cells ∧ slots + ms ≤ R.slots) {st0 : List Value} (hst : st0 = As.reverse ++ .ref b :: rest)
    (kk : ∀ (u : U) (H1 : Heap) (locs1 : List Loc), va_P (dC, dI) zz_cls (ws' u ++ Xw) H1 → va_D A (ws' u ++ Xw) → va_S A s.heap H1 locs1 → W p l e R s m args below meth c H1 locs1 (cells + mc) (slots + ms) Q (F0 m (pc + 3) ls (.long r0 :: rest))) : W p l e R s m args below meth c H locs cells slots Q (F0 m pc ls st0) := by
  have hPw := (zL_Pa.mp hP).1
  have hDw := (zL_Da.mp hD).1
  have hPc : va_P (dC, dI) zz_cls wc H := zL_Pm.mpr fun q hq => zL_Pm.mp hPw q (zL_mem isC hC q hq)
  have hDc : va_D A wc := hDw.sub isC hnC hC
  have hFc := va_free (wc := wc) hDw hS hA isC hC
  refine va_calll (va_runV (As := As) (rest := rest) X hM cw ⟨zx_blind, va_recv hK hPc (ci := ci) (q0 := 0) hcl hrc, fun U hU hW => ⟨rfl, ⟨by rw [hU], by rw [hU]; exact hPc, va_K.moved hW.alike hK, hDc.weaken (fun _ _ _ _ => trivial)⟩, by rw [hU]; exact zx.pass hW hZ hS.2.1 hFc⟩⟩ rfl hn hsize hst (lv_room hW) hdg hf) hS (fun q _ h => hFc q h) hFc (fun r u t H1 locs1 ht hvm hw hB hz1 hk1 hS1 => ?_)
  subst hw
  obtain ⟨hP1, hK1, hD1⟩ := hB
  rw [ht] at hP1
  obtain ⟨hP2, hD2⟩ := zL_join hP hD isC isR hC hR hnR hdis hk1 hFc hP1 hD1 isO hnO (hO u)
  exact kk u H1 locs1 hP2 hD2 hS1
theorem zL_Wi {y : MethodName} {bytes : ByteArray} {maxL nL n index ci N mc ms : Nat} {ret : Option FieldType} {wm : List Cond} {rm : Room} {Ts : List Cond} {own C : String} {T : u_T} {b : Addr} {fs : List Value} {As : List Value} {r0 : Int32}
    (X : CallFix p m c cc nL s args Ts own) (hM : Met l y wm rm (va_Pc (.ref b :: As) (zz_M dC dI dA wc H.size)) (va_Qi (fun (r : Int32) (_ : U) => r = r0) (fun u t => zz_B dC dI dA (va_A wc H.size) (w1 u) t) (va_A wc H.size)) mc ms (va_A wc H.size)) (cw : CallW R s args own C index y bytes maxL ret wm rm mc ms n)
    (hrc : wc[0]? = some (b, .inr (ci, fs))) (hcl : zz_cls[ci]? = some (C, T, N)) (hK : va_K (dC, dI) zz_cls (zz_tys dA) s) (hP : va_P (dC, dI) zz_cls (ws ++ Xw) H) (hD : va_D A (ws ++ Xw)) (hS : va_S A s.heap H locs) (hA : ∀ q, s.heap.size ≤ q → A q)
    (isC isR isO : List Nat) (hnC : va_nd isC = true) (hnR : va_nd isR = true) (hnO : va_nd isO = true) (hdis : ∀ i ∈ isR, i ∉ isC) (hC : isC.map (fun i => ws[i]?) = wc.map some) (hR : isR.map (fun i => ws[i]?) = wr.map some) (hO : ∀ u, isO.map (fun i => (wr ++ w1 u)[i]?) = (ws' u).map some)
    (hn : As.length = n) (hsize : ls.size = nL) (hW : (rest.map fun v => v.category).sum ≤ 8) (hdg : decode cc pc = .ok (.invokevirtual index, 3)) (hf : cells + mc ≤ R.cells ∧ slots + ms ≤ R.slots) {st0 : List Value} (hst : st0 = As.reverse ++ .ref b :: rest)
    (kk : ∀ (u : U) (H1 : Heap) (locs1 : List Loc), va_P (dC, dI) zz_cls (ws' u ++ Xw) H1 → va_D A (ws' u ++ Xw) → va_S A s.heap H1 locs1 → W p l e R s m args below meth c H1 locs1 (cells + mc) (slots + ms) Q (F0 m (pc + 3) ls (.int r0 :: rest))) : W p l e R s m args below meth c H locs cells slots Q (F0 m pc ls st0) := by
  have hPw := (zL_Pa.mp hP).1
  have hDw := (zL_Da.mp hD).1
  have hPc : va_P (dC, dI) zz_cls wc H := zL_Pm.mpr fun q hq => zL_Pm.mp hPw q (zL_mem isC hC q hq)
  have hDc : va_D A wc := hDw.sub isC hnC hC
  have hFc := va_free (wc := wc) hDw hS hA isC hC
  refine va_calli (va_runV (As := As) (rest := rest) X hM cw ⟨zz_blind, va_recv hK hPc (ci := ci) (q0 := 0) hcl hrc, fun U hU hW => ⟨rfl, by rw [hU], by rw [hU]; exact hPc, va_K.moved hW.alike hK, hDc.weaken (fun _ _ _ _ => trivial)⟩⟩ rfl hn hsize hst (lv_room hW) hdg hf) hS (fun q _ h => hFc q h) hFc (fun r u t H1 locs1 ht hvm hw hB hz1 hk1 hS1 => ?_)
  subst hw
  obtain ⟨hP1, hK1, hD1⟩ := hB
  rw [ht] at hP1
  obtain ⟨hP2, hD2⟩ := zL_join hP hD isC isR hC hR hnR hdis hk1 hFc hP1 hD1 isO hnO (hO u)
  exact kk u H1 locs1 hP2 hD2 hS1
theorem zL_Wl {y : MethodName} {bytes : ByteArray} {maxL nL n index ci N mc ms : Nat} {ret : Option FieldType} {wm : List Cond} {rm : Room} {Ts : List Cond} {own C : String} {T : u_T} {b : Addr} {fs : List Value} {As : List Value} {r0 : Int64}
    (X : CallFix p m c cc nL s args Ts own) (hM : Met l y wm rm (va_Pc (.ref b :: As) (zz_M dC dI dA wc H.size)) (va_Ql (fun (r : Int64) (_ : U) => r = r0) (fun u t => zz_B dC dI dA (va_A wc H.size) (w1 u) t) (va_A wc H.size)) mc ms (va_A wc H.size)) (cw : CallW R s args own C index y bytes maxL ret wm rm mc ms n)
    (hrc : wc[0]? = some (b, .inr (ci, fs))) (hcl : zz_cls[ci]? = some (C, T, N)) (hK : va_K (dC, dI) zz_cls (zz_tys dA) s) (hP : va_P (dC, dI) zz_cls (ws ++ Xw) H) (hD : va_D A (ws ++ Xw)) (hS : va_S A s.heap H locs) (hA : ∀ q, s.heap.size ≤ q → A q)
    (isC isR isO : List Nat) (hnC : va_nd isC = true) (hnR : va_nd isR = true) (hnO : va_nd isO = true) (hdis : ∀ i ∈ isR, i ∉ isC) (hC : isC.map (fun i => ws[i]?) = wc.map some) (hR : isR.map (fun i => ws[i]?) = wr.map some) (hO : ∀ u, isO.map (fun i => (wr ++ w1 u)[i]?) = (ws' u).map some)
    (hn : As.length = n) (hsize : ls.size = nL) (hW : (rest.map fun v => v.category).sum ≤ 8) (hdg : decode cc pc = .ok (.invokevirtual index, 3)) (hf : cells + mc ≤ R.cells ∧ slots + ms ≤ R.slots) {st0 : List Value} (hst : st0 = As.reverse ++ .ref b :: rest)
    (kk : ∀ (u : U) (H1 : Heap) (locs1 : List Loc), va_P (dC, dI) zz_cls (ws' u ++ Xw) H1 → va_D A (ws' u ++ Xw) → va_S A s.heap H1 locs1 → W p l e R s m args below meth c H1 locs1 (cells + mc) (slots + ms) Q (F0 m (pc + 3) ls (.long r0 :: rest))) : W p l e R s m args below meth c H locs cells slots Q (F0 m pc ls st0) := by
  have hPw := (zL_Pa.mp hP).1
  have hDw := (zL_Da.mp hD).1
  have hPc : va_P (dC, dI) zz_cls wc H := zL_Pm.mpr fun q hq => zL_Pm.mp hPw q (zL_mem isC hC q hq)
  have hDc : va_D A wc := hDw.sub isC hnC hC
  have hFc := va_free (wc := wc) hDw hS hA isC hC
  refine va_calll (va_runV (As := As) (rest := rest) X hM cw ⟨zz_blind, va_recv hK hPc (ci := ci) (q0 := 0) hcl hrc, fun U hU hW => ⟨rfl, by rw [hU], by rw [hU]; exact hPc, va_K.moved hW.alike hK, hDc.weaken (fun _ _ _ _ => trivial)⟩⟩ rfl hn hsize hst (lv_room hW) hdg hf) hS (fun q _ h => hFc q h) hFc (fun r u t H1 locs1 ht hvm hw hB hz1 hk1 hS1 => ?_)
  subst hw
  obtain ⟨hP1, hK1, hD1⟩ := hB
  rw [ht] at hP1
  obtain ⟨hP2, hD2⟩ := zL_join hP hD isC isR hC hR hnR hdis hk1 hFc hP1 hD1 isO hnO (hO u)
  exact kk u H1 locs1 hP2 hD2 hS1
end ZL
