/-- a row of references, told by a list -/
def za_l (l : List (Option Nat)) (k : Nat) : Option Nat := l.getD k none
/-- ten in a row, the first one behind the others -/
def za_rot {α : Type} (f : Nat → α) : Nat → α := fun k => if k = 9 then f 0 else f (k + 1)
theorem za_l_set {l : List (Option Nat)} {k : Nat} (h : k < l.length) (x : Option Nat) : va_up (za_l l) k x = za_l (l.set k x) := by
  funext j
  by_cases hj : j = k
  · subst hj
    simp [va_up, za_l, List.getD, h]
  · simp only [va_up, if_neg hj, za_l, List.getD]
    rw [List.getElem?_set_ne (Ne.symm hj)]
section ZW
variable {p : Program} {l : Launch} {e : Env} {R : Room} {s : State} {m : MethodId} {args : Array Value} {below : List Frame} {meth : Method} {c : Code} {H : Heap} {locs : List Loc} {cells slots : Nat} {Q : State → Prop}
variable {cc : ByteArray} {pc : Nat} {ls : Array Slot} {rest : List Value} {D : va_G} {cl : List vw_C} {A : Nat → Prop} {a : Nat} {tys : List (ClassId × FieldType)} {ws : va_W} {H0 : Heap}
theorem zw_aald (hexec : p.tables.exec = Jvm.exec) (hb : c.code = cc) (hK : va_K D cl tys s) (hP : va_P D cl ws H) (q0 t0 : Nat) {cA : ClassId} {C : String} {n k b : Nat} {L : List (Option Nat)} (ha : ws[q0]? = some (a, .inl (cA, n, .inr (.inr (.inr (.inr (za_l L))))))) (ht : tys[t0]? = some (cA, .object C)) {i : Int32} (hi : i = Int32.ofNat k) (hL : L[k]? = some (some b)) (hk : k < n ∧ n < 1000) (hdg : decode cc pc = .ok (.aaload, 1))
    (kk : W p l e R s m args below meth c H locs cells slots Q (F0 m (pc + 1) ls (.ref b :: rest))) : W p l e R s m args below meth c H locs cells slots Q (F0 m pc ls (.int i :: .ref a :: rest)) := by
  subst hi
  have h31 : k < 2 ^ 31 := by omega
  refine va_aldq hexec hb hK hP q0 t0 ha ht (vp_in_nI (n := k) hk.1 (by omega)) hdg ?_
  have h1 : (Int32.ofNat k).toNatClampNeg = k := nI_clamp h31
  rw [h1]
  have h2 : za_l L k = some b := by unfold za_l; simp [List.getD, hL]
  rw [h2]
  exact kk
theorem zw_aast (hexec : p.tables.exec = Jvm.exec) (hb : c.code = cc) (hK : va_K D cl tys s) (hP : va_P D cl ws H) (hD : va_D A ws) (hS : va_S A H0 H locs) (q0 t0 qk ci : Nat) {cA : ClassId} {r : vw_C} {n v k : Nat} {vs : List Value} {L L' : List (Option Nat)} (ha : ws[q0]? = some (a, .inl (cA, n, .inr (.inr (.inr (.inr (za_l L))))))) (ht : tys[t0]? = some (cA, .object r.1)) (hv : ws[qk]? = some (v, .inr (ci, vs))) (hc : cl[ci]? = some r) {i : Int32} (hi : i = Int32.ofNat k) (hk : k < n ∧ n < 1000 ∧ k < L.length) (hL : L.set k (some v) = L') (hdg : decode cc pc = .ok (.aastore, 1))
    (kk : ∀ (H1 : Heap) (locs1 : List Loc), va_P D cl (ws.set q0 (a, .inl (cA, n, .inr (.inr (.inr (.inr (za_l L'))))))) H1 → va_D A (ws.set q0 (a, .inl (cA, n, .inr (.inr (.inr (.inr (za_l L'))))))) → va_S A H0 H1 locs1 → W p l e R s m args below meth c H1 locs1 cells slots Q (F0 m (pc + 1) ls rest)) : W p l e R s m args below meth c H locs cells slots Q (F0 m pc ls (.ref v :: .int i :: .ref a :: rest)) := by
  subst hi
  subst hL
  have h31 : k < 2 ^ 31 := by omega
  have h1 : (Int32.ofNat k).toNatClampNeg = k := nI_clamp h31
  refine va_astq hexec hb hK hP hD hS q0 t0 qk ci ha ht hv hc (vp_in_nI (n := k) hk.1 (by omega)) hdg ?_
  rw [h1, za_l_set hk.2.2]
  exact kk
end ZW
