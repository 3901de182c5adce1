def zf_X11_within (p0 : Int64) (p2 : Int64) (p4 : Int64) : Option (Int32) :=
  if (lg_cmp p0 p2) < 0 then
    some (0 : Int32)
  else
    if 0 < (lg_cmp p0 p4) then
      some (0 : Int32)
    else
      some (1 : Int32)
theorem zk_X11_within : yX11_within.cls = RX11 ∧ yX11_within.cls ≠ "java/lang/invoke/MethodHandle" ∧ yX11_within.cls ≠ "java/lang/invoke/VarHandle" ∧ (parseMethodDescriptor yX11_within.desc).map (fun d => d.parameters.length) = some 3 := by decide +kernel
set_option maxHeartbeats 4000000 in
set_option maxRecDepth 100000 in
theorem zt_X11_within (l : Launch) (dC : Nat → ClassId) (dI : Nat → Nat → Nat) (dA : Nat → ClassId) (ad : Nat → Nat) (sz : Nat) (p0 : Int64) (p2 : Int64) (p4 : Int64) (r0 : Int32) (hf : zf_X11_within p0 p2 p4 = some r0) : Met l yX11_within (.code yX11_within cX11_within 6 (some .boolean) :: zr_T) ({ frames := 0, cells := 0, slots := 0, locals := 0 }) (va_Pc [.long p0, .long p2, .long p4] (zz_M dC dI dA [] sz)) (va_Qi (fun (r : Int32) (_ : Unit) => r = r0) (fun _ t => zz_B dC dI dA (va_A [] sz) [] t) (va_A [] sz)) 0 0 (va_A [] sz) := by
  unfold zf_X11_within at hf
  refine Met.ofW (cc := cX11_within) (maxL := 6) (ret := (some .boolean)) (by decide) rfl ?_
  intro p e s m args below meth c s₁ B hml hv
  obtain ⟨rfl, hsz, hP, hK, hD0⟩ := hv
  have hx := B.exec
  have hb := B.bytes
  have hr := B.returns
  have ht : ∀ w ∈ zr_T, w.before ([.long p0, .long p2, .long p4] : List Value).toArray s = true := fun w hw => atoms_spec (ws := .code yX11_within cX11_within 6 (some .boolean) :: zr_T) B.pre w (List.mem_cons_of_mem _ hw)
  have hown : s.vm.findClass RX11 = some m.cls := findClass_of_methodNamed B.named
  have hlocks := B.notSynchronized
  subst hsz
  have hD := hD0.self (sz := s.heap.size)
  generalize hAe : va_A [] s.heap.size = A at hD ⊢
  have hA : ∀ q : Nat, s.heap.size ≤ q → A q := fun q h => by rw [← hAe]; exact Or.inr h
  clear hAe hD0
  have hS : va_S A s.heap s.heap [] := va_S.rf
  have hl := lv_entry ([.long p0, .long p2, .long p4]) (n := 6) (Nat.le_of_ble_eq_true rfl)
  rw [lg_entry_eq]
  generalize (lg_sl ([.long p0, .long p2, .long p4]) ++ List.replicate (6 - (lg_sl ([.long p0, .long p2, .long p4])).length) Slot.unset).toArray = ls at hl ⊢
  have hl : lv_has ls 6 [(0, .long p0), (2, .long p2), (4, .long p4)] := hl
  refine lv_lload_n (pc := 0) hx hb dX11_within_0 rfl (lv_at hl 0 rfl) ?_
  refine lv_lload_n (pc := 1) hx hb dX11_within_1 rfl (lv_at hl 1 rfl) ?_
  refine W.lcmp (pc := 2) hx hb dX11_within_2 ?_
  refine lv_if_lt (tgt := 17) (pc := 3) hx hb dX11_within_3 rfl (fun hc => ?_) (fun hc => ?_)
  · have hf := za_t hf hc
    refine lv_iconst (v := (0 : Int32)) (pc := 17) hx hb dX11_within_17 (by decide) ?_
    cases hf
    exact W.zret (pc := 18) hx hb hr rfl (fun t ht hW => ⟨⟨_, (), rfl, rfl, zz_Bi (by rw [ht]; exact hP) (va_K.moved hW.alike hK) (hD)⟩, hS.F ht⟩) hS.2.2 dX11_within_18
  · have hf := za_f hf hc
    refine lv_lload_n (pc := 6) hx hb dX11_within_6 rfl (lv_at hl 0 rfl) ?_
    refine lv_lload (pc := 7) hx hb dX11_within_7 (lv_at hl 2 rfl) ?_
    refine W.lcmp (pc := 9) hx hb dX11_within_9 ?_
    refine lv_if_gt (tgt := 17) (pc := 10) hx hb dX11_within_10 rfl (fun hc => ?_) (fun hc => ?_)
    · have hf := za_t hf hc
      refine lv_iconst (v := (0 : Int32)) (pc := 17) hx hb dX11_within_17 (by decide) ?_
      cases hf
      exact W.zret (pc := 18) hx hb hr rfl (fun t ht hW => ⟨⟨_, (), rfl, rfl, zz_Bi (by rw [ht]; exact hP) (va_K.moved hW.alike hK) (hD)⟩, hS.F ht⟩) hS.2.2 dX11_within_18
    · have hf := za_f hf hc
      refine lv_iconst (v := (1 : Int32)) (pc := 13) hx hb dX11_within_13 (by decide) ?_
      refine lv_goto (tgt := 18) (pc := 14) hx hb dX11_within_14 rfl ?_
      cases hf
      exact W.zret (pc := 18) hx hb hr rfl (fun t ht hW => ⟨⟨_, (), rfl, rfl, zz_Bi (by rw [ht]; exact hP) (va_K.moved hW.alike hK) (hD)⟩, hS.F ht⟩) hS.2.2 dX11_within_18

def zf_X11_isIn (p0 : Int64) (p2 : Int32) : Option (Int32) :=
  if (lg_cmp ((p0 >>> (Int32.toInt64 p2 &&& 63)) &&& (1 : Int64)) (1 : Int64)) = 0 then
    some (1 : Int32)
  else
    some (0 : Int32)
theorem zk_X11_isIn : yX11_isIn.cls = RX11 ∧ yX11_isIn.cls ≠ "java/lang/invoke/MethodHandle" ∧ yX11_isIn.cls ≠ "java/lang/invoke/VarHandle" ∧ (parseMethodDescriptor yX11_isIn.desc).map (fun d => d.parameters.length) = some 2 := by decide +kernel
set_option maxHeartbeats 4000000 in
set_option maxRecDepth 100000 in
theorem zt_X11_isIn (l : Launch) (dC : Nat → ClassId) (dI : Nat → Nat → Nat) (dA : Nat → ClassId) (ad : Nat → Nat) (sz : Nat) (p0 : Int64) (p2 : Int32) (r0 : Int32) (hf : zf_X11_isIn p0 p2 = some r0) : Met l yX11_isIn (.code yX11_isIn cX11_isIn 3 (some .boolean) :: zr_T) ({ frames := 0, cells := 0, slots := 0, locals := 0 }) (va_Pc [.long p0, .int p2] (zz_M dC dI dA [] sz)) (va_Qi (fun (r : Int32) (_ : Unit) => r = r0) (fun _ t => zz_B dC dI dA (va_A [] sz) [] t) (va_A [] sz)) 0 0 (va_A [] sz) := by
  unfold zf_X11_isIn at hf
  refine Met.ofW (cc := cX11_isIn) (maxL := 3) (ret := (some .boolean)) (by decide) rfl ?_
  intro p e s m args below meth c s₁ B hml hv
  obtain ⟨rfl, hsz, hP, hK, hD0⟩ := hv
  have hx := B.exec
  have hb := B.bytes
  have hr := B.returns
  have ht : ∀ w ∈ zr_T, w.before ([.long p0, .int p2] : List Value).toArray s = true := fun w hw => atoms_spec (ws := .code yX11_isIn cX11_isIn 3 (some .boolean) :: zr_T) B.pre w (List.mem_cons_of_mem _ hw)
  have hown : s.vm.findClass RX11 = some m.cls := findClass_of_methodNamed B.named
  have hlocks := B.notSynchronized
  subst hsz
  have hD := hD0.self (sz := s.heap.size)
  generalize hAe : va_A [] s.heap.size = A at hD ⊢
  have hA : ∀ q : Nat, s.heap.size ≤ q → A q := fun q h => by rw [← hAe]; exact Or.inr h
  clear hAe hD0
  have hS : va_S A s.heap s.heap [] := va_S.rf
  have hl := lv_entry ([.long p0, .int p2]) (n := 3) (Nat.le_of_ble_eq_true rfl)
  rw [lg_entry_eq]
  generalize (lg_sl ([.long p0, .int p2]) ++ List.replicate (3 - (lg_sl ([.long p0, .int p2])).length) Slot.unset).toArray = ls at hl ⊢
  have hl : lv_has ls 3 [(0, .long p0), (2, .int p2)] := hl
  refine lv_lload_n (pc := 0) hx hb dX11_isIn_0 rfl (lv_at hl 0 rfl) ?_
  refine lv_iload_n (pc := 1) hx hb dX11_isIn_1 rfl (lv_at hl 1 rfl) ?_
  refine lv_lshr (pc := 2) hx hb dX11_isIn_2 rfl ?_
  refine lv_lconst (v := (1 : Int64)) (pc := 3) hx hb dX11_isIn_3 (by decide) ?_
  refine lv_land (pc := 4) hx hb dX11_isIn_4 ?_
  refine lv_lconst (v := (1 : Int64)) (pc := 5) hx hb dX11_isIn_5 (by decide) ?_
  refine W.lcmp (pc := 6) hx hb dX11_isIn_6 ?_
  refine lv_if_ne (tgt := 14) (pc := 7) hx hb dX11_isIn_7 rfl (fun hc => ?_) (fun hc => ?_)
  · have hf := za_f hf hc
    refine lv_iconst (v := (0 : Int32)) (pc := 14) hx hb dX11_isIn_14 (by decide) ?_
    cases hf
    exact W.zret (pc := 15) hx hb hr rfl (fun t ht hW => ⟨⟨_, (), rfl, rfl, zz_Bi (by rw [ht]; exact hP) (va_K.moved hW.alike hK) (hD)⟩, hS.F ht⟩) hS.2.2 dX11_isIn_15
  · have hf := za_t hf hc
    refine lv_iconst (v := (1 : Int32)) (pc := 10) hx hb dX11_isIn_10 (by decide) ?_
    refine lv_goto (tgt := 15) (pc := 11) hx hb dX11_isIn_11 rfl ?_
    cases hf
    exact W.zret (pc := 15) hx hb hr rfl (fun t ht hW => ⟨⟨_, (), rfl, rfl, zz_Bi (by rw [ht]; exact hP) (va_K.moved hW.alike hK) (hD)⟩, hS.F ht⟩) hS.2.2 dX11_isIn_15

def zb_X11_bitsOf_4 (p0 : Int32) (v1 : Int32) (v2 : Int32) : Option (Nat × Int32 × Int32) :=
  if (10 : Int32) ≤ v2 then
    some (1, v1, v2)
  else
    zd_1 (some ((v1 + ((p0 >>> (v2 &&& 31)) &&& (1 : Int32))))) (fun v3 =>
    zd_1 (some (v2 + (1 : Int32))) (fun v4 =>
    some (0, v3, v4)))
def zf_X11_bitsOf (n : Nat) (p0 : Int32) : Option (Int32) :=
  zd_3 (za_it (fun v => zb_X11_bitsOf_4 p0 v.1 v.2) n ((0 : Int32), (0 : Int32))) (fun g7 v5 v6 =>
  some v5)
theorem zk_X11_bitsOf : yX11_bitsOf.cls = RX11 ∧ yX11_bitsOf.cls ≠ "java/lang/invoke/MethodHandle" ∧ yX11_bitsOf.cls ≠ "java/lang/invoke/VarHandle" ∧ (parseMethodDescriptor yX11_bitsOf.desc).map (fun d => d.parameters.length) = some 1 := by decide +kernel
set_option maxHeartbeats 4000000 in
set_option maxRecDepth 100000 in
theorem zt_X11_bitsOf (l : Launch) (dC : Nat → ClassId) (dI : Nat → Nat → Nat) (dA : Nat → ClassId) (ad : Nat → Nat) (sz : Nat) (n : Nat) (p0 : Int32) (r0 : Int32) (hf : zf_X11_bitsOf n p0 = some r0) : Met l yX11_bitsOf (.code yX11_bitsOf cX11_bitsOf 3 (some .int) :: zr_T) ({ frames := 0, cells := 0, slots := 0, locals := 0 }) (va_Pc [.int p0] (zz_M dC dI dA [] sz)) (va_Qi (fun (r : Int32) (_ : Unit) => r = r0) (fun _ t => zz_B dC dI dA (va_A [] sz) [] t) (va_A [] sz)) 0 0 (va_A [] sz) := by
  unfold zf_X11_bitsOf at hf
  refine Met.ofW (cc := cX11_bitsOf) (maxL := 3) (ret := (some .int)) (by decide) rfl ?_
  intro p e s m args below meth c s₁ B hml hv
  obtain ⟨rfl, hsz, hP, hK, hD0⟩ := hv
  have hx := B.exec
  have hb := B.bytes
  have hr := B.returns
  have ht : ∀ w ∈ zr_T, w.before ([.int p0] : List Value).toArray s = true := fun w hw => atoms_spec (ws := .code yX11_bitsOf cX11_bitsOf 3 (some .int) :: zr_T) B.pre w (List.mem_cons_of_mem _ hw)
  have hown : s.vm.findClass RX11 = some m.cls := findClass_of_methodNamed B.named
  have hlocks := B.notSynchronized
  subst hsz
  have hD := hD0.self (sz := s.heap.size)
  generalize hAe : va_A [] s.heap.size = A at hD ⊢
  have hA : ∀ q : Nat, s.heap.size ≤ q → A q := fun q h => by rw [← hAe]; exact Or.inr h
  clear hAe hD0
  have hS : va_S A s.heap s.heap [] := va_S.rf
  have hl := lv_entry ([.int p0]) (n := 3) (Nat.le_of_ble_eq_true rfl)
  rw [lg_entry_eq]
  generalize (lg_sl ([.int p0]) ++ List.replicate (3 - (lg_sl ([.int p0])).length) Slot.unset).toArray = ls at hl ⊢
  have hl : lv_has ls 3 [(0, .int p0)] := hl
  refine lv_iconst (v := (0 : Int32)) (pc := 0) hx hb dX11_bitsOf_0 (by decide) ?_
  refine lv_istore_n (lv' := [(1, .int (0 : Int32)), (0, .int p0)]) (pc := 1) hx hb dX11_bitsOf_1 rfl hl (by decide) rfl (fun ls hl => ?_)
  refine lv_iconst (v := (0 : Int32)) (pc := 2) hx hb dX11_bitsOf_2 (by decide) ?_
  refine lv_istore_n (lv' := [(2, .int (0 : Int32)), (1, .int (0 : Int32)), (0, .int p0)]) (pc := 3) hx hb dX11_bitsOf_3 rfl hl (by decide) rfl (fun ls hl => ?_)
  obtain ⟨g7, v5, v6, hj, hf⟩ := zc_3 hf
  refine zj_join (pcJ := 24) (stk := []) (X := fun H locs ls => lv_has ls 3 [(1, .int v5)] ∧ va_P (dC, dI) zz_cls [] H ∧ va_D A [] ∧ va_S A s.heap H locs) (fun H locs ls hX => ?_) (fun E24 => ?_)
  · obtain ⟨hl, hP, hD, hS⟩ := hX
    clear hj
    refine lv_iload_n (pc := 24) hx hb dX11_bitsOf_24 rfl (lv_at hl 0 rfl) ?_
    cases hf
    exact W.iret (pc := 25) hx hb hr (fun t ht hW => ⟨⟨_, (), rfl, rfl, zz_Bi (by rw [ht]; exact hP) (va_K.moved hW.alike hK) (hD)⟩, hS.F ht⟩) hS.2.2 dX11_bitsOf_25
  clear hf
  refine zw_loop (pcH := 4) (X := fun v H locs ls => lv_has ls 3 [(0, .int p0), (1, .int v.1), (2, .int v.2)] ∧ va_P (dC, dI) zz_cls [] H ∧ va_D A [] ∧ va_S A s.heap H locs) hj (fun v w hf ih ex H locs ls hX => ?_) _ _ _ ⟨lv_sub hl [2, 1, 0] rfl, hP, hD, hS⟩
  clear hj
  obtain ⟨v1, v2⟩ := v
  obtain ⟨hl, hP, hD, hS⟩ := hX
  have hl : lv_has ls 3 [(0, .int p0), (1, .int v1), (2, .int v2)] := hl
  have hP : va_P (dC, dI) zz_cls [] H := hP
  have hD : va_D A [] := hD
  replace hf : zb_X11_bitsOf_4 p0 v1 v2 = some w := hf
  unfold zb_X11_bitsOf_4 at hf
  refine lv_iload_n (pc := 4) hx hb dX11_bitsOf_4 rfl (lv_at hl 2 rfl) ?_
  refine lv_bipush (v := (10 : Int32)) (pc := 5) hx hb dX11_bitsOf_5 (by decide) ?_
  refine lv_icmp_ge (tgt := 24) (pc := 7) hx hb dX11_bitsOf_7 rfl (fun hc => ?_) (fun hc => ?_)
  · have hf := za_t hf hc
    cases hf
    cases ex (show ¬ (1 : Nat) = 0 by decide)
    exact E24 _ _ _ ⟨lv_sub hl [1] rfl, hP, hD, hS⟩
  · have hf := za_f hf hc
    refine lv_iload_n (pc := 10) hx hb dX11_bitsOf_10 rfl (lv_at hl 1 rfl) ?_
    refine lv_iload_n (pc := 11) hx hb dX11_bitsOf_11 rfl (lv_at hl 0 rfl) ?_
    refine lv_iload_n (pc := 12) hx hb dX11_bitsOf_12 rfl (lv_at hl 2 rfl) ?_
    refine lv_ishr (pc := 13) hx hb dX11_bitsOf_13 ?_
    refine lv_iconst (v := (1 : Int32)) (pc := 14) hx hb dX11_bitsOf_14 (by decide) ?_
    refine lv_iand (pc := 15) hx hb dX11_bitsOf_15 ?_
    refine lv_iadd (pc := 16) hx hb dX11_bitsOf_16 ?_
    obtain ⟨v3, hv3, hf⟩ := zc_1 hf
    refine zw_top (hv3) ?_
    refine lv_istore_n (lv' := [(1, .int v3), (0, .int p0), (2, .int v2)]) (pc := 17) hx hb dX11_bitsOf_17 rfl hl (by decide) rfl (fun ls hl => ?_)
    obtain ⟨v4, hv4, hf⟩ := zc_1 hf
    refine lv_iinc (v := v4) (lv' := [(2, .int v4), (1, .int v3), (0, .int p0)]) (k := 2) (pc := 18) hx hb dX11_bitsOf_18 hl rfl (Option.some.inj hv4) (by decide) rfl (fun ls hl => ?_)
    refine lv_goto (tgt := 4) (pc := 21) hx hb dX11_bitsOf_21 rfl ?_
    cases hf
    exact ih rfl _ _ _ ⟨lv_sub hl [2, 1, 0] rfl, hP, hD, hS⟩

def zf_X11_rungIn (p0 : Int32) : Option (Int32) :=
  some (p0 / (320 : Int32))
theorem zk_X11_rungIn : yX11_rungIn.cls = RX11 ∧ yX11_rungIn.cls ≠ "java/lang/invoke/MethodHandle" ∧ yX11_rungIn.cls ≠ "java/lang/invoke/VarHandle" ∧ (parseMethodDescriptor yX11_rungIn.desc).map (fun d => d.parameters.length) = some 1 := by decide +kernel
set_option maxHeartbeats 4000000 in
set_option maxRecDepth 100000 in
theorem zt_X11_rungIn (l : Launch) (dC : Nat → ClassId) (dI : Nat → Nat → Nat) (dA : Nat → ClassId) (ad : Nat → Nat) (sz : Nat) (p0 : Int32) (r0 : Int32) (hf : zf_X11_rungIn p0 = some r0) : Met l yX11_rungIn (.code yX11_rungIn cX11_rungIn 1 (some .int) :: zr_T) ({ frames := 0, cells := 0, slots := 0, locals := 0 }) (va_Pc [.int p0] (zz_M dC dI dA [] sz)) (va_Qi (fun (r : Int32) (_ : Unit) => r = r0) (fun _ t => zz_B dC dI dA (va_A [] sz) [] t) (va_A [] sz)) 0 0 (va_A [] sz) := by
  unfold zf_X11_rungIn at hf
  refine Met.ofW (cc := cX11_rungIn) (maxL := 1) (ret := (some .int)) (by decide) rfl ?_
  intro p e s m args below meth c s₁ B hml hv
  obtain ⟨rfl, hsz, hP, hK, hD0⟩ := hv
  have hx := B.exec
  have hb := B.bytes
  have hr := B.returns
  have ht : ∀ w ∈ zr_T, w.before ([.int p0] : List Value).toArray s = true := fun w hw => atoms_spec (ws := .code yX11_rungIn cX11_rungIn 1 (some .int) :: zr_T) B.pre w (List.mem_cons_of_mem _ hw)
  have hown : s.vm.findClass RX11 = some m.cls := findClass_of_methodNamed B.named
  have hlocks := B.notSynchronized
  subst hsz
  have hD := hD0.self (sz := s.heap.size)
  generalize hAe : va_A [] s.heap.size = A at hD ⊢
  have hA : ∀ q : Nat, s.heap.size ≤ q → A q := fun q h => by rw [← hAe]; exact Or.inr h
  clear hAe hD0
  have hS : va_S A s.heap s.heap [] := va_S.rf
  have hl := lv_entry ([.int p0]) (n := 1) (Nat.le_of_ble_eq_true rfl)
  rw [lg_entry_eq]
  generalize (lg_sl ([.int p0]) ++ List.replicate (1 - (lg_sl ([.int p0])).length) Slot.unset).toArray = ls at hl ⊢
  have hl : lv_has ls 1 [(0, .int p0)] := hl
  refine lv_iload_n (pc := 0) hx hb dX11_rungIn_0 rfl (lv_at hl 0 rfl) ?_
  refine lv_sipush (v := (320 : Int32)) (pc := 1) hx hb dX11_rungIn_1 (by decide) ?_
  refine lv_idiv (pc := 4) hx hb dX11_rungIn_4 (by decide) ?_
  cases hf
  exact W.iret (pc := 5) hx hb hr (fun t ht hW => ⟨⟨_, (), rfl, rfl, zz_Bi (by rw [ht]; exact hP) (va_K.moved hW.alike hK) (hD)⟩, hS.F ht⟩) hS.2.2 dX11_rungIn_5

def zf_X11_hasIn (p0 : Int32) : Option (Int32) :=
  some (za_rem (p0 / (5 : Int32)) (64 : Int32))
theorem zk_X11_hasIn : yX11_hasIn.cls = RX11 ∧ yX11_hasIn.cls ≠ "java/lang/invoke/MethodHandle" ∧ yX11_hasIn.cls ≠ "java/lang/invoke/VarHandle" ∧ (parseMethodDescriptor yX11_hasIn.desc).map (fun d => d.parameters.length) = some 1 := by decide +kernel
set_option maxHeartbeats 4000000 in
set_option maxRecDepth 100000 in
theorem zt_X11_hasIn (l : Launch) (dC : Nat → ClassId) (dI : Nat → Nat → Nat) (dA : Nat → ClassId) (ad : Nat → Nat) (sz : Nat) (p0 : Int32) (r0 : Int32) (hf : zf_X11_hasIn p0 = some r0) : Met l yX11_hasIn (.code yX11_hasIn cX11_hasIn 1 (some .int) :: zr_T) ({ frames := 0, cells := 0, slots := 0, locals := 0 }) (va_Pc [.int p0] (zz_M dC dI dA [] sz)) (va_Qi (fun (r : Int32) (_ : Unit) => r = r0) (fun _ t => zz_B dC dI dA (va_A [] sz) [] t) (va_A [] sz)) 0 0 (va_A [] sz) := by
  unfold zf_X11_hasIn at hf
  refine Met.ofW (cc := cX11_hasIn) (maxL := 1) (ret := (some .int)) (by decide) rfl ?_
  intro p e s m args below meth c s₁ B hml hv
  obtain ⟨rfl, hsz, hP, hK, hD0⟩ := hv
  have hx := B.exec
  have hb := B.bytes
  have hr := B.returns
  have ht : ∀ w ∈ zr_T, w.before ([.int p0] : List Value).toArray s = true := fun w hw => atoms_spec (ws := .code yX11_hasIn cX11_hasIn 1 (some .int) :: zr_T) B.pre w (List.mem_cons_of_mem _ hw)
  have hown : s.vm.findClass RX11 = some m.cls := findClass_of_methodNamed B.named
  have hlocks := B.notSynchronized
  subst hsz
  have hD := hD0.self (sz := s.heap.size)
  generalize hAe : va_A [] s.heap.size = A at hD ⊢
  have hA : ∀ q : Nat, s.heap.size ≤ q → A q := fun q h => by rw [← hAe]; exact Or.inr h
  clear hAe hD0
  have hS : va_S A s.heap s.heap [] := va_S.rf
  have hl := lv_entry ([.int p0]) (n := 1) (Nat.le_of_ble_eq_true rfl)
  rw [lg_entry_eq]
  generalize (lg_sl ([.int p0]) ++ List.replicate (1 - (lg_sl ([.int p0])).length) Slot.unset).toArray = ls at hl ⊢
  have hl : lv_has ls 1 [(0, .int p0)] := hl
  refine lv_iload_n (pc := 0) hx hb dX11_hasIn_0 rfl (lv_at hl 0 rfl) ?_
  refine lv_iconst (v := (5 : Int32)) (pc := 1) hx hb dX11_hasIn_1 (by decide) ?_
  refine lv_idiv (pc := 2) hx hb dX11_hasIn_2 (by decide) ?_
  refine lv_bipush (v := (64 : Int32)) (pc := 3) hx hb dX11_hasIn_3 (by decide) ?_
  refine lv_irem (pc := 5) hx hb dX11_hasIn_5 (by decide) ?_
  cases hf
  exact W.iret (pc := 6) hx hb hr (fun t ht hW => ⟨⟨_, (), rfl, rfl, zz_Bi (by rw [ht]; exact hP) (va_K.moved hW.alike hK) (hD)⟩, hS.F ht⟩) hS.2.2 dX11_hasIn_6

def zf_X11_standOf (p0 : Int32) (p1 : Int32) (p2 : Int32) : Option (Int32) :=
  some ((((320 : Int32) * p0) + ((5 : Int32) * p1)) + p2)
theorem zk_X11_standOf : yX11_standOf.cls = RX11 ∧ yX11_standOf.cls ≠ "java/lang/invoke/MethodHandle" ∧ yX11_standOf.cls ≠ "java/lang/invoke/VarHandle" ∧ (parseMethodDescriptor yX11_standOf.desc).map (fun d => d.parameters.length) = some 3 := by decide +kernel
set_option maxHeartbeats 4000000 in
set_option maxRecDepth 100000 in
theorem zt_X11_standOf (l : Launch) (dC : Nat → ClassId) (dI : Nat → Nat → Nat) (dA : Nat → ClassId) (ad : Nat → Nat) (sz : Nat) (p0 : Int32) (p1 : Int32) (p2 : Int32) (r0 : Int32) (hf : zf_X11_standOf p0 p1 p2 = some r0) : Met l yX11_standOf (.code yX11_standOf cX11_standOf 3 (some .int) :: zr_T) ({ frames := 0, cells := 0, slots := 0, locals := 0 }) (va_Pc [.int p0, .int p1, .int p2] (zz_M dC dI dA [] sz)) (va_Qi (fun (r : Int32) (_ : Unit) => r = r0) (fun _ t => zz_B dC dI dA (va_A [] sz) [] t) (va_A [] sz)) 0 0 (va_A [] sz) := by
  unfold zf_X11_standOf at hf
  refine Met.ofW (cc := cX11_standOf) (maxL := 3) (ret := (some .int)) (by decide) rfl ?_
  intro p e s m args below meth c s₁ B hml hv
  obtain ⟨rfl, hsz, hP, hK, hD0⟩ := hv
  have hx := B.exec
  have hb := B.bytes
  have hr := B.returns
  have ht : ∀ w ∈ zr_T, w.before ([.int p0, .int p1, .int p2] : List Value).toArray s = true := fun w hw => atoms_spec (ws := .code yX11_standOf cX11_standOf 3 (some .int) :: zr_T) B.pre w (List.mem_cons_of_mem _ hw)
  have hown : s.vm.findClass RX11 = some m.cls := findClass_of_methodNamed B.named
  have hlocks := B.notSynchronized
  subst hsz
  have hD := hD0.self (sz := s.heap.size)
  generalize hAe : va_A [] s.heap.size = A at hD ⊢
  have hA : ∀ q : Nat, s.heap.size ≤ q → A q := fun q h => by rw [← hAe]; exact Or.inr h
  clear hAe hD0
  have hS : va_S A s.heap s.heap [] := va_S.rf
  have hl := lv_entry ([.int p0, .int p1, .int p2]) (n := 3) (Nat.le_of_ble_eq_true rfl)
  rw [lg_entry_eq]
  generalize (lg_sl ([.int p0, .int p1, .int p2]) ++ List.replicate (3 - (lg_sl ([.int p0, .int p1, .int p2])).length) Slot.unset).toArray = ls at hl ⊢
  have hl : lv_has ls 3 [(0, .int p0), (1, .int p1), (2, .int p2)] := hl
  refine lv_sipush (v := (320 : Int32)) (pc := 0) hx hb dX11_standOf_0 (by decide) ?_
  refine lv_iload_n (pc := 3) hx hb dX11_standOf_3 rfl (lv_at hl 0 rfl) ?_
  refine lv_imul (pc := 4) hx hb dX11_standOf_4 ?_
  refine lv_iconst (v := (5 : Int32)) (pc := 5) hx hb dX11_standOf_5 (by decide) ?_
  refine lv_iload_n (pc := 6) hx hb dX11_standOf_6 rfl (lv_at hl 1 rfl) ?_
  refine lv_imul (pc := 7) hx hb dX11_standOf_7 ?_
  refine lv_iadd (pc := 8) hx hb dX11_standOf_8 ?_
  refine lv_iload_n (pc := 9) hx hb dX11_standOf_9 rfl (lv_at hl 2 rfl) ?_
  refine lv_iadd (pc := 10) hx hb dX11_standOf_10 ?_
  cases hf
  exact W.iret (pc := 11) hx hb hr (fun t ht hW => ⟨⟨_, (), rfl, rfl, zz_Bi (by rw [ht]; exact hP) (va_K.moved hW.alike hK) (hD)⟩, hS.F ht⟩) hS.2.2 dX11_standOf_11

def zf_X11_see (f_size : Int32) (b_tape : (Nat → Int32)) (p1 : Int32) : Option (Int32) :=
  if f_size ≤ p1 then
    some (-1 : Int32)
  else
    zd_1 (za_ld b_tape 900 p1) (fun v1 =>
    some v1)
theorem zk_X11_see : yX11_see.cls = RX11 ∧ yX11_see.cls ≠ "java/lang/invoke/MethodHandle" ∧ yX11_see.cls ≠ "java/lang/invoke/VarHandle" ∧ (parseMethodDescriptor yX11_see.desc).map (fun d => d.parameters.length) = some 1 := by decide +kernel
set_option maxHeartbeats 4000000 in
set_option maxRecDepth 100000 in
theorem zt_X11_see (l : Launch) (dC : Nat → ClassId) (dI : Nat → Nat → Nat) (dA : Nat → ClassId) (ad : Nat → Nat) (sz : Nat) (f_thrown f_taped f_at f_behind f_size f_kind f_number f_wrong f_wrongAt f_faultKind f_faultPlace f_reading f_toldWhy f_x f_standMany f_bestMany f_tail f_round1 : Int32) (b_tape : (Nat → Int32)) (p1 : Int32) (r0 : Int32) (hf : zf_X11_see f_size b_tape p1 = some r0) : Met l yX11_see (.code yX11_see cX11_see 2 (some .int) :: zr_T) ({ frames := 0, cells := 0, slots := 0, locals := 0 }) (va_Pc [.ref (ad 0), .int p1] (zz_M dC dI dA [zr_o ad f_thrown f_taped f_at f_behind f_size f_kind f_number f_wrong f_wrongAt f_faultKind f_faultPlace f_reading f_toldWhy f_x f_standMany f_bestMany f_tail f_round1, (ad 4, .inl (dA 0, 900, .inl b_tape))] sz)) (va_Qi (fun (r : Int32) (_ : Unit) => r = r0) (fun _ t => zz_B dC dI dA (va_A [zr_o ad f_thrown f_taped f_at f_behind f_size f_kind f_number f_wrong f_wrongAt f_faultKind f_faultPlace f_reading f_toldWhy f_x f_standMany f_bestMany f_tail f_round1, (ad 4, .inl (dA 0, 900, .inl b_tape))] sz) [zr_o ad f_thrown f_taped f_at f_behind f_size f_kind f_number f_wrong f_wrongAt f_faultKind f_faultPlace f_reading f_toldWhy f_x f_standMany f_bestMany f_tail f_round1, (ad 4, .inl (dA 0, 900, .inl b_tape))] t) (va_A [zr_o ad f_thrown f_taped f_at f_behind f_size f_kind f_number f_wrong f_wrongAt f_faultKind f_faultPlace f_reading f_toldWhy f_x f_standMany f_bestMany f_tail f_round1, (ad 4, .inl (dA 0, 900, .inl b_tape))] sz)) 0 0 (va_A [zr_o ad f_thrown f_taped f_at f_behind f_size f_kind f_number f_wrong f_wrongAt f_faultKind f_faultPlace f_reading f_toldWhy f_x f_standMany f_bestMany f_tail f_round1, (ad 4, .inl (dA 0, 900, .inl b_tape))] sz) := by
  unfold zf_X11_see at hf
  refine Met.ofW (cc := cX11_see) (maxL := 2) (ret := (some .int)) (by decide) rfl ?_
  intro p e s m args below meth c s₁ B hml hv
  obtain ⟨rfl, hsz, hP, hK, hD0⟩ := hv
  have hx := B.exec
  have hb := B.bytes
  have hr := B.returns
  have ht : ∀ w ∈ zr_T, w.before ([.ref (ad 0), .int p1] : List Value).toArray s = true := fun w hw => atoms_spec (ws := .code yX11_see cX11_see 2 (some .int) :: zr_T) B.pre w (List.mem_cons_of_mem _ hw)
  have hown : s.vm.findClass RX11 = some m.cls := findClass_of_methodNamed B.named
  have hlocks := B.notSynchronized
  subst hsz
  have hD := hD0.self (sz := s.heap.size)
  generalize hAe : va_A [zr_o ad f_thrown f_taped f_at f_behind f_size f_kind f_number f_wrong f_wrongAt f_faultKind f_faultPlace f_reading f_toldWhy f_x f_standMany f_bestMany f_tail f_round1, (ad 4, .inl (dA 0, 900, .inl b_tape))] s.heap.size = A at hD ⊢
  have hA : ∀ q : Nat, s.heap.size ≤ q → A q := fun q h => by rw [← hAe]; exact Or.inr h
  clear hAe hD0
  have hS : va_S A s.heap s.heap [] := va_S.rf
  have hl := lv_entry ([.ref (ad 0), .int p1]) (n := 2) (Nat.le_of_ble_eq_true rfl)
  rw [lg_entry_eq]
  generalize (lg_sl ([.ref (ad 0), .int p1]) ++ List.replicate (2 - (lg_sl ([.ref (ad 0), .int p1])).length) Slot.unset).toArray = ls at hl ⊢
  have hl : lv_has ls 2 [(0, .ref (ad 0)), (1, .int p1)] := hl
  refine lv_iload_n (pc := 0) hx hb dX11_see_0 rfl (lv_at hl 1 rfl) ?_
  refine lv_aload_n (pc := 1) hx hb dX11_see_1 rfl (lv_at hl 0 rfl) ?_
  refine va_get (pc := 2) (D := (dC, dI)) (ci := 0) (v := .int f_size) (C := RX11) (T := TX11) (N := 42) hx hb ht zr_lay hown hK hP 0 rfl rfl 8 (by decide) (ht _ zr_42) (fun _ h9 => h9) rfl dX11_see_2 ?_
  refine lv_icmp_ge (tgt := 17) (pc := 5) hx hb dX11_see_5 rfl (fun hc => ?_) (fun hc => ?_)
  · have hf := za_t hf hc
    refine lv_iconst (v := (-1 : Int32)) (pc := 17) hx hb dX11_see_17 (by decide) ?_
    cases hf
    exact W.iret (pc := 18) hx hb hr (fun t ht hW => ⟨⟨_, (), rfl, rfl, zz_Bi (by rw [ht]; exact hP) (va_K.moved hW.alike hK) (hD)⟩, hS.F ht⟩) hS.2.2 dX11_see_18
  · have hf := za_f hf hc
    refine lv_aload_n (pc := 8) hx hb dX11_see_8 rfl (lv_at hl 0 rfl) ?_
    refine va_get (pc := 9) (D := (dC, dI)) (ci := 0) (v := .ref (ad 4)) (C := RX11) (T := TX11) (N := 42) hx hb ht zr_lay hown hK hP 0 rfl rfl 3 (by decide) (ht _ zr_9) (fun _ h9 => h9) rfl dX11_see_9 ?_
    refine lv_iload_n (pc := 12) hx hb dX11_see_12 rfl (lv_at hl 1 rfl) ?_
    obtain ⟨v1, hv1, hf⟩ := zc_1 hf
    refine zw_iald (pc := 13) hx hb hK hP 1 0 rfl rfl hv1 dX11_see_13 ?_
    refine lv_goto (tgt := 18) (pc := 14) hx hb dX11_see_14 rfl ?_
    cases hf
    exact W.iret (pc := 18) hx hb hr (fun t ht hW => ⟨⟨_, (), rfl, rfl, zz_Bi (by rw [ht]; exact hP) (va_K.moved hW.alike hK) (hD)⟩, hS.F ht⟩) hS.2.2 dX11_see_18

def zf_X11_fails (f_at : Int32) (f_kind : Int32) (f_wrong : Int32) (f_wrongAt : Int32) (p1 : Int32) : Option (Int32 × Int32) :=
  if f_wrong = 0 then
    zd_1 (
      if f_kind = (27 : Int32) then
        some (1 : Int32)
      else
        some p1) (fun v1 =>
    some (v1, f_at))
  else
    some (f_wrong, f_wrongAt)
theorem zk_X11_fails : yX11_fails.cls = RX11 ∧ yX11_fails.cls ≠ "java/lang/invoke/MethodHandle" ∧ yX11_fails.cls ≠ "java/lang/invoke/VarHandle" ∧ (parseMethodDescriptor yX11_fails.desc).map (fun d => d.parameters.length) = some 1 := by decide +kernel
set_option maxHeartbeats 4000000 in
set_option maxRecDepth 100000 in
theorem zt_X11_fails (l : Launch) (dC : Nat → ClassId) (dI : Nat → Nat → Nat) (dA : Nat → ClassId) (ad : Nat → Nat) (sz : Nat) (f_thrown f_taped f_at f_behind f_size f_kind f_number f_wrong f_wrongAt f_faultKind f_faultPlace f_reading f_toldWhy f_x f_standMany f_bestMany f_tail f_round1 : Int32) (p1 : Int32) (o1 : Int32) (o2 : Int32) (hf : zf_X11_fails f_at f_kind f_wrong f_wrongAt p1 = some (o1, o2)) : Met l yX11_fails (.code yX11_fails cX11_fails 2 none :: zr_T) ({ frames := 0, cells := 0, slots := 0, locals := 0 }) (va_Pc [.ref (ad 0), .int p1] (zz_M dC dI dA [zr_o ad f_thrown f_taped f_at f_behind f_size f_kind f_number f_wrong f_wrongAt f_faultKind f_faultPlace f_reading f_toldWhy f_x f_standMany f_bestMany f_tail f_round1] sz)) (va_Qv (fun _ : Unit => True) (fun _ t => zz_B dC dI dA (va_A [zr_o ad f_thrown f_taped f_at f_behind f_size f_kind f_number f_wrong f_wrongAt f_faultKind f_faultPlace f_reading f_toldWhy f_x f_standMany f_bestMany f_tail f_round1] sz) [zr_o ad f_thrown f_taped f_at f_behind f_size f_kind f_number o1 o2 f_faultKind f_faultPlace f_reading f_toldWhy f_x f_standMany f_bestMany f_tail f_round1] t) (va_A [zr_o ad f_thrown f_taped f_at f_behind f_size f_kind f_number f_wrong f_wrongAt f_faultKind f_faultPlace f_reading f_toldWhy f_x f_standMany f_bestMany f_tail f_round1] sz)) 0 0 (va_A [zr_o ad f_thrown f_taped f_at f_behind f_size f_kind f_number f_wrong f_wrongAt f_faultKind f_faultPlace f_reading f_toldWhy f_x f_standMany f_bestMany f_tail f_round1] sz) := by
  unfold zf_X11_fails at hf
  refine Met.ofW (cc := cX11_fails) (maxL := 2) (ret := none) (by decide) rfl ?_
  intro p e s m args below meth c s₁ B hml hv
  obtain ⟨rfl, hsz, hP, hK, hD0⟩ := hv
  have hx := B.exec
  have hb := B.bytes
  have hr := B.returns
  have ht : ∀ w ∈ zr_T, w.before ([.ref (ad 0), .int p1] : List Value).toArray s = true := fun w hw => atoms_spec (ws := .code yX11_fails cX11_fails 2 none :: zr_T) B.pre w (List.mem_cons_of_mem _ hw)
  have hown : s.vm.findClass RX11 = some m.cls := findClass_of_methodNamed B.named
  have hlocks := B.notSynchronized
  subst hsz
  have hD := hD0.self (sz := s.heap.size)
  generalize hAe : va_A [zr_o ad f_thrown f_taped f_at f_behind f_size f_kind f_number f_wrong f_wrongAt f_faultKind f_faultPlace f_reading f_toldWhy f_x f_standMany f_bestMany f_tail f_round1] s.heap.size = A at hD ⊢
  have hA : ∀ q : Nat, s.heap.size ≤ q → A q := fun q h => by rw [← hAe]; exact Or.inr h
  clear hAe hD0
  have hS : va_S A s.heap s.heap [] := va_S.rf
  have hl := lv_entry ([.ref (ad 0), .int p1]) (n := 2) (Nat.le_of_ble_eq_true rfl)
  rw [lg_entry_eq]
  generalize (lg_sl ([.ref (ad 0), .int p1]) ++ List.replicate (2 - (lg_sl ([.ref (ad 0), .int p1])).length) Slot.unset).toArray = ls at hl ⊢
  have hl : lv_has ls 2 [(0, .ref (ad 0)), (1, .int p1)] := hl
  refine lv_aload_n (pc := 0) hx hb dX11_fails_0 rfl (lv_at hl 0 rfl) ?_
  refine va_get (pc := 1) (D := (dC, dI)) (ci := 0) (v := .int f_wrong) (C := RX11) (T := TX11) (N := 42) hx hb ht zr_lay hown hK hP 0 rfl rfl 11 (by decide) (ht _ zr_111) (fun _ h9 => h9) rfl dX11_fails_1 ?_
  refine lv_if_eq (tgt := 8) (pc := 4) hx hb dX11_fails_4 rfl (fun hc => ?_) (fun hc => ?_)
  · have hf := za_t hf hc
    refine lv_aload_n (pc := 8) hx hb dX11_fails_8 rfl (lv_at hl 0 rfl) ?_
    refine lv_aload_n (pc := 9) hx hb dX11_fails_9 rfl (lv_at hl 0 rfl) ?_
    refine va_get (pc := 10) (D := (dC, dI)) (ci := 0) (v := .int f_kind) (C := RX11) (T := TX11) (N := 42) hx hb ht zr_lay hown hK hP 0 rfl rfl 9 (by decide) (ht _ zr_97) (fun _ h9 => h9) rfl dX11_fails_10 ?_
    refine lv_bipush (v := (27 : Int32)) (pc := 13) hx hb dX11_fails_13 (by decide) ?_
    obtain ⟨v1, hj, hf⟩ := zc_1 hf
    refine zj_join (pcJ := 23) (stk := [.int v1, .ref (ad 0)]) (X := fun H locs ls => lv_has ls 2 [(0, .ref (ad 0))] ∧ va_P (dC, dI) zz_cls [zr_o ad f_thrown f_taped f_at f_behind f_size f_kind f_number f_wrong f_wrongAt f_faultKind f_faultPlace f_reading f_toldWhy f_x f_standMany f_bestMany f_tail f_round1] H ∧ va_D A [zr_o ad f_thrown f_taped f_at f_behind f_size f_kind f_number f_wrong f_wrongAt f_faultKind f_faultPlace f_reading f_toldWhy f_x f_standMany f_bestMany f_tail f_round1] ∧ va_S A s.heap H locs) (fun H locs ls hX => ?_) (fun J23 => ?_)
    · obtain ⟨hl, hP, hD, hS⟩ := hX
      clear hj
      refine va_put (pc := 23) (D := (dC, dI)) (ci := 0) (v := .int v1) (ty := .int) (C := RX11) (T := TX11) (N := 42) hx hb ht zr_lay tyX11 tyX11_ok nmX11 hown hK hP hD hS 0 rfl rfl 11 (by decide) (ht _ zr_111) (fun _ h9 => h9) rfl (by decide +kernel) rfl rfl (Nat.le_of_ble_eq_true rfl) dX11_fails_23 (fun H locs hP hD hS => ?_)
      have hP : va_P (dC, dI) zz_cls [zr_o ad f_thrown f_taped f_at f_behind f_size f_kind f_number v1 f_wrongAt f_faultKind f_faultPlace f_reading f_toldWhy f_x f_standMany f_bestMany f_tail f_round1] H := hP
      have hD : va_D A [zr_o ad f_thrown f_taped f_at f_behind f_size f_kind f_number v1 f_wrongAt f_faultKind f_faultPlace f_reading f_toldWhy f_x f_standMany f_bestMany f_tail f_round1] := hD
      refine lv_aload_n (pc := 26) hx hb dX11_fails_26 rfl (lv_at hl 0 rfl) ?_
      refine lv_aload_n (pc := 27) hx hb dX11_fails_27 rfl (lv_at hl 0 rfl) ?_
      refine va_get (pc := 28) (D := (dC, dI)) (ci := 0) (v := .int f_at) (C := RX11) (T := TX11) (N := 42) hx hb ht zr_lay hown hK hP 0 rfl rfl 6 (by decide) (ht _ zr_45) (fun _ h9 => h9) rfl dX11_fails_28 ?_
      refine va_put (pc := 31) (D := (dC, dI)) (ci := 0) (v := .int f_at) (ty := .int) (C := RX11) (T := TX11) (N := 42) hx hb ht zr_lay tyX11 tyX11_ok nmX11 hown hK hP hD hS 0 rfl rfl 12 (by decide) (ht _ zr_112) (fun _ h9 => h9) rfl (by decide +kernel) rfl rfl (Nat.le_of_ble_eq_true rfl) dX11_fails_31 (fun H locs hP hD hS => ?_)
      have hP : va_P (dC, dI) zz_cls [zr_o ad f_thrown f_taped f_at f_behind f_size f_kind f_number v1 f_at f_faultKind f_faultPlace f_reading f_toldWhy f_x f_standMany f_bestMany f_tail f_round1] H := hP
      have hD : va_D A [zr_o ad f_thrown f_taped f_at f_behind f_size f_kind f_number v1 f_at f_faultKind f_faultPlace f_reading f_toldWhy f_x f_standMany f_bestMany f_tail f_round1] := hD
      cases hf
      exact W.vret (pc := 34) hx hb hr (fun t ht hW => ⟨⟨(), rfl, trivial, zz_Bi (by rw [ht]; exact hP) (va_K.moved hW.alike hK) (hD)⟩, hS.F ht⟩) hS.2.2 dX11_fails_34
    · clear hf
      have hf := hj
      clear hj
      refine lv_icmp_ne (tgt := 22) (pc := 15) hx hb dX11_fails_15 rfl (fun hc => ?_) (fun hc => ?_)
      · have hf := za_f hf hc
        refine lv_iload_n (pc := 22) hx hb dX11_fails_22 rfl (lv_at hl 1 rfl) ?_
        cases hf
        exact J23 _ _ _ ⟨lv_sub hl [0] rfl, hP, hD, hS⟩
      · have hf := za_t hf hc
        refine lv_iconst (v := (1 : Int32)) (pc := 18) hx hb dX11_fails_18 (by decide) ?_
        refine lv_goto (tgt := 23) (pc := 19) hx hb dX11_fails_19 rfl ?_
        cases hf
        exact J23 _ _ _ ⟨lv_sub hl [0] rfl, hP, hD, hS⟩
  · have hf := za_f hf hc
    cases hf
    exact W.vret (pc := 7) hx hb hr (fun t ht hW => ⟨⟨(), rfl, trivial, zz_Bi (by rw [ht]; exact hP) (va_K.moved hW.alike hK) (hD)⟩, hS.F ht⟩) hS.2.2 dX11_fails_7

def zf_X11_is (f_kind : Int32) (f_wrong : Int32) (p1 : Int32) : Option (Int32) :=
  if f_wrong = 0 then
    if f_kind = p1 then
      some (1 : Int32)
    else
      some (0 : Int32)
  else
    some (0 : Int32)
theorem zk_X11_is : yX11_is.cls = RX11 ∧ yX11_is.cls ≠ "java/lang/invoke/MethodHandle" ∧ yX11_is.cls ≠ "java/lang/invoke/VarHandle" ∧ (parseMethodDescriptor yX11_is.desc).map (fun d => d.parameters.length) = some 1 := by decide +kernel
set_option maxHeartbeats 4000000 in
set_option maxRecDepth 100000 in
theorem zt_X11_is (l : Launch) (dC : Nat → ClassId) (dI : Nat → Nat → Nat) (dA : Nat → ClassId) (ad : Nat → Nat) (sz : Nat) (f_thrown f_taped f_at f_behind f_size f_kind f_number f_wrong f_wrongAt f_faultKind f_faultPlace f_reading f_toldWhy f_x f_standMany f_bestMany f_tail f_round1 : Int32) (p1 : Int32) (r0 : Int32) (hf : zf_X11_is f_kind f_wrong p1 = some r0) : Met l yX11_is (.code yX11_is cX11_is 2 (some .boolean) :: zr_T) ({ frames := 0, cells := 0, slots := 0, locals := 0 }) (va_Pc [.ref (ad 0), .int p1] (zz_M dC dI dA [zr_o ad f_thrown f_taped f_at f_behind f_size f_kind f_number f_wrong f_wrongAt f_faultKind f_faultPlace f_reading f_toldWhy f_x f_standMany f_bestMany f_tail f_round1] sz)) (va_Qi (fun (r : Int32) (_ : Unit) => r = r0) (fun _ t => zz_B dC dI dA (va_A [zr_o ad f_thrown f_taped f_at f_behind f_size f_kind f_number f_wrong f_wrongAt f_faultKind f_faultPlace f_reading f_toldWhy f_x f_standMany f_bestMany f_tail f_round1] sz) [zr_o ad f_thrown f_taped f_at f_behind f_size f_kind f_number f_wrong f_wrongAt f_faultKind f_faultPlace f_reading f_toldWhy f_x f_standMany f_bestMany f_tail f_round1] t) (va_A [zr_o ad f_thrown f_taped f_at f_behind f_size f_kind f_number f_wrong f_wrongAt f_faultKind f_faultPlace f_reading f_toldWhy f_x f_standMany f_bestMany f_tail f_round1] sz)) 0 0 (va_A [zr_o ad f_thrown f_taped f_at f_behind f_size f_kind f_number f_wrong f_wrongAt f_faultKind f_faultPlace f_reading f_toldWhy f_x f_standMany f_bestMany f_tail f_round1] sz) := by
  unfold zf_X11_is at hf
  refine Met.ofW (cc := cX11_is) (maxL := 2) (ret := (some .boolean)) (by decide) rfl ?_
  intro p e s m args below meth c s₁ B hml hv
  obtain ⟨rfl, hsz, hP, hK, hD0⟩ := hv
  have hx := B.exec
  have hb := B.bytes
  have hr := B.returns
  have ht : ∀ w ∈ zr_T, w.before ([.ref (ad 0), .int p1] : List Value).toArray s = true := fun w hw => atoms_spec (ws := .code yX11_is cX11_is 2 (some .boolean) :: zr_T) B.pre w (List.mem_cons_of_mem _ hw)
  have hown : s.vm.findClass RX11 = some m.cls := findClass_of_methodNamed B.named
  have hlocks := B.notSynchronized
  subst hsz
  have hD := hD0.self (sz := s.heap.size)
  generalize hAe : va_A [zr_o ad f_thrown f_taped f_at f_behind f_size f_kind f_number f_wrong f_wrongAt f_faultKind f_faultPlace f_reading f_toldWhy f_x f_standMany f_bestMany f_tail f_round1] s.heap.size = A at hD ⊢
  have hA : ∀ q : Nat, s.heap.size ≤ q → A q := fun q h => by rw [← hAe]; exact Or.inr h
  clear hAe hD0
  have hS : va_S A s.heap s.heap [] := va_S.rf
  have hl := lv_entry ([.ref (ad 0), .int p1]) (n := 2) (Nat.le_of_ble_eq_true rfl)
  rw [lg_entry_eq]
  generalize (lg_sl ([.ref (ad 0), .int p1]) ++ List.replicate (2 - (lg_sl ([.ref (ad 0), .int p1])).length) Slot.unset).toArray = ls at hl ⊢
  have hl : lv_has ls 2 [(0, .ref (ad 0)), (1, .int p1)] := hl
  refine lv_aload_n (pc := 0) hx hb dX11_is_0 rfl (lv_at hl 0 rfl) ?_
  refine va_get (pc := 1) (D := (dC, dI)) (ci := 0) (v := .int f_wrong) (C := RX11) (T := TX11) (N := 42) hx hb ht zr_lay hown hK hP 0 rfl rfl 11 (by decide) (ht _ zr_111) (fun _ h9 => h9) rfl dX11_is_1 ?_
  refine lv_if_ne (tgt := 19) (pc := 4) hx hb dX11_is_4 rfl (fun hc => ?_) (fun hc => ?_)
  · have hf := za_f hf hc
    refine lv_iconst (v := (0 : Int32)) (pc := 19) hx hb dX11_is_19 (by decide) ?_
    cases hf
    exact W.zret (pc := 20) hx hb hr rfl (fun t ht hW => ⟨⟨_, (), rfl, rfl, zz_Bi (by rw [ht]; exact hP) (va_K.moved hW.alike hK) (hD)⟩, hS.F ht⟩) hS.2.2 dX11_is_20
  · have hf := za_t hf hc
    refine lv_aload_n (pc := 7) hx hb dX11_is_7 rfl (lv_at hl 0 rfl) ?_
    refine va_get (pc := 8) (D := (dC, dI)) (ci := 0) (v := .int f_kind) (C := RX11) (T := TX11) (N := 42) hx hb ht zr_lay hown hK hP 0 rfl rfl 9 (by decide) (ht _ zr_97) (fun _ h9 => h9) rfl dX11_is_8 ?_
    refine lv_iload_n (pc := 11) hx hb dX11_is_11 rfl (lv_at hl 1 rfl) ?_
    refine lv_icmp_ne (tgt := 19) (pc := 12) hx hb dX11_is_12 rfl (fun hc => ?_) (fun hc => ?_)
    · have hf := za_f hf hc
      refine lv_iconst (v := (0 : Int32)) (pc := 19) hx hb dX11_is_19 (by decide) ?_
      cases hf
      exact W.zret (pc := 20) hx hb hr rfl (fun t ht hW => ⟨⟨_, (), rfl, rfl, zz_Bi (by rw [ht]; exact hP) (va_K.moved hW.alike hK) (hD)⟩, hS.F ht⟩) hS.2.2 dX11_is_20
    · have hf := za_t hf hc
      refine lv_iconst (v := (1 : Int32)) (pc := 15) hx hb dX11_is_15 (by decide) ?_
      refine lv_goto (tgt := 20) (pc := 16) hx hb dX11_is_16 rfl ?_
      cases hf
      exact W.zret (pc := 20) hx hb hr rfl (fun t ht hW => ⟨⟨_, (), rfl, rfl, zz_Bi (by rw [ht]; exact hP) (va_K.moved hW.alike hK) (hD)⟩, hS.F ht⟩) hS.2.2 dX11_is_20

def zf_X11_codes (f_wrong : Int32) (b_fresh : (Nat → Int32)) (p1 : Int32) : Option ((Nat → Int32)) :=
  if f_wrong = 0 then
    zd_1 (za_ld b_fresh 994 (93 : Int32)) (fun v1 =>
    zd_1 (za_st b_fresh 994 ((94 : Int32) + v1) p1) (fun a2 =>
    zd_1 (za_ld a2 994 (93 : Int32)) (fun v3 =>
    zd_1 (za_st a2 994 (93 : Int32) (v3 + (1 : Int32))) (fun a4 =>
    some a4))))
  else
    some b_fresh
theorem zk_X11_codes : yX11_codes.cls = RX11 ∧ yX11_codes.cls ≠ "java/lang/invoke/MethodHandle" ∧ yX11_codes.cls ≠ "java/lang/invoke/VarHandle" ∧ (parseMethodDescriptor yX11_codes.desc).map (fun d => d.parameters.length) = some 1 := by decide +kernel
set_option maxHeartbeats 4000000 in
set_option maxRecDepth 100000 in
theorem zt_X11_codes (l : Launch) (dC : Nat → ClassId) (dI : Nat → Nat → Nat) (dA : Nat → ClassId) (ad : Nat → Nat) (sz : Nat) (f_thrown f_taped f_at f_behind f_size f_kind f_number f_wrong f_wrongAt f_faultKind f_faultPlace f_reading f_toldWhy f_x f_standMany f_bestMany f_tail f_round1 : Int32) (b_fresh : (Nat → Int32)) (p1 : Int32) (o1 : (Nat → Int32)) (hf : zf_X11_codes f_wrong b_fresh p1 = some o1) : Met l yX11_codes (.code yX11_codes cX11_codes 2 none :: zr_T) ({ frames := 0, cells := 0, slots := 0, locals := 0 }) (va_Pc [.ref (ad 0), .int p1] (zz_M dC dI dA [zr_o ad f_thrown f_taped f_at f_behind f_size f_kind f_number f_wrong f_wrongAt f_faultKind f_faultPlace f_reading f_toldWhy f_x f_standMany f_bestMany f_tail f_round1, (ad 5, .inl (dA 0, 994, .inl b_fresh))] sz)) (va_Qv (fun _ : Unit => True) (fun _ t => zz_B dC dI dA (va_A [zr_o ad f_thrown f_taped f_at f_behind f_size f_kind f_number f_wrong f_wrongAt f_faultKind f_faultPlace f_reading f_toldWhy f_x f_standMany f_bestMany f_tail f_round1, (ad 5, .inl (dA 0, 994, .inl b_fresh))] sz) [zr_o ad f_thrown f_taped f_at f_behind f_size f_kind f_number f_wrong f_wrongAt f_faultKind f_faultPlace f_reading f_toldWhy f_x f_standMany f_bestMany f_tail f_round1, (ad 5, .inl (dA 0, 994, .inl o1))] t) (va_A [zr_o ad f_thrown f_taped f_at f_behind f_size f_kind f_number f_wrong f_wrongAt f_faultKind f_faultPlace f_reading f_toldWhy f_x f_standMany f_bestMany f_tail f_round1, (ad 5, .inl (dA 0, 994, .inl b_fresh))] sz)) 0 0 (va_A [zr_o ad f_thrown f_taped f_at f_behind f_size f_kind f_number f_wrong f_wrongAt f_faultKind f_faultPlace f_reading f_toldWhy f_x f_standMany f_bestMany f_tail f_round1, (ad 5, .inl (dA 0, 994, .inl b_fresh))] sz) := by
  unfold zf_X11_codes at hf
  refine Met.ofW (cc := cX11_codes) (maxL := 2) (ret := none) (by decide) rfl ?_
  intro p e s m args below meth c s₁ B hml hv
  obtain ⟨rfl, hsz, hP, hK, hD0⟩ := hv
  have hx := B.exec
  have hb := B.bytes
  have hr := B.returns
  have ht : ∀ w ∈ zr_T, w.before ([.ref (ad 0), .int p1] : List Value).toArray s = true := fun w hw => atoms_spec (ws := .code yX11_codes cX11_codes 2 none :: zr_T) B.pre w (List.mem_cons_of_mem _ hw)
  have hown : s.vm.findClass RX11 = some m.cls := findClass_of_methodNamed B.named
  have hlocks := B.notSynchronized
  subst hsz
  have hD := hD0.self (sz := s.heap.size)
  generalize hAe : va_A [zr_o ad f_thrown f_taped f_at f_behind f_size f_kind f_number f_wrong f_wrongAt f_faultKind f_faultPlace f_reading f_toldWhy f_x f_standMany f_bestMany f_tail f_round1, (ad 5, .inl (dA 0, 994, .inl b_fresh))] s.heap.size = A at hD ⊢
  have hA : ∀ q : Nat, s.heap.size ≤ q → A q := fun q h => by rw [← hAe]; exact Or.inr h
  clear hAe hD0
  have hS : va_S A s.heap s.heap [] := va_S.rf
  have hl := lv_entry ([.ref (ad 0), .int p1]) (n := 2) (Nat.le_of_ble_eq_true rfl)
  rw [lg_entry_eq]
  generalize (lg_sl ([.ref (ad 0), .int p1]) ++ List.replicate (2 - (lg_sl ([.ref (ad 0), .int p1])).length) Slot.unset).toArray = ls at hl ⊢
  have hl : lv_has ls 2 [(0, .ref (ad 0)), (1, .int p1)] := hl
  refine lv_aload_n (pc := 0) hx hb dX11_codes_0 rfl (lv_at hl 0 rfl) ?_
  refine va_get (pc := 1) (D := (dC, dI)) (ci := 0) (v := .int f_wrong) (C := RX11) (T := TX11) (N := 42) hx hb ht zr_lay hown hK hP 0 rfl rfl 11 (by decide) (ht _ zr_111) (fun _ h9 => h9) rfl dX11_codes_1 ?_
  refine lv_if_eq (tgt := 8) (pc := 4) hx hb dX11_codes_4 rfl (fun hc => ?_) (fun hc => ?_)
  · have hf := za_t hf hc
    refine lv_aload_n (pc := 8) hx hb dX11_codes_8 rfl (lv_at hl 0 rfl) ?_
    refine va_get (pc := 9) (D := (dC, dI)) (ci := 0) (v := .ref (ad 5)) (C := RX11) (T := TX11) (N := 42) hx hb ht zr_lay hown hK hP 0 rfl rfl 4 (by decide) (ht _ zr_10) (fun _ h9 => h9) rfl dX11_codes_9 ?_
    refine lv_bipush (v := (94 : Int32)) (pc := 12) hx hb dX11_codes_12 (by decide) ?_
    refine lv_aload_n (pc := 14) hx hb dX11_codes_14 rfl (lv_at hl 0 rfl) ?_
    refine va_get (pc := 15) (D := (dC, dI)) (ci := 0) (v := .ref (ad 5)) (C := RX11) (T := TX11) (N := 42) hx hb ht zr_lay hown hK hP 0 rfl rfl 4 (by decide) (ht _ zr_10) (fun _ h9 => h9) rfl dX11_codes_15 ?_
    refine lv_bipush (v := (93 : Int32)) (pc := 18) hx hb dX11_codes_18 (by decide) ?_
    obtain ⟨v1, hv1, hf⟩ := zc_1 hf
    refine zw_iald (pc := 20) hx hb hK hP 1 0 rfl rfl hv1 dX11_codes_20 ?_
    refine lv_iadd (pc := 21) hx hb dX11_codes_21 ?_
    refine lv_iload_n (pc := 22) hx hb dX11_codes_22 rfl (lv_at hl 1 rfl) ?_
    obtain ⟨a2, ha2, hf⟩ := zc_1 hf
    refine zw_iast (pc := 23) hx hb hK hP hD hS 1 0 rfl rfl ha2 dX11_codes_23 (fun H locs hP hD hS => ?_)
    have hP : va_P (dC, dI) zz_cls [zr_o ad f_thrown f_taped f_at f_behind f_size f_kind f_number f_wrong f_wrongAt f_faultKind f_faultPlace f_reading f_toldWhy f_x f_standMany f_bestMany f_tail f_round1, (ad 5, .inl (dA 0, 994, .inl a2))] H := hP
    have hD : va_D A [zr_o ad f_thrown f_taped f_at f_behind f_size f_kind f_number f_wrong f_wrongAt f_faultKind f_faultPlace f_reading f_toldWhy f_x f_standMany f_bestMany f_tail f_round1, (ad 5, .inl (dA 0, 994, .inl a2))] := hD
    refine lv_aload_n (pc := 24) hx hb dX11_codes_24 rfl (lv_at hl 0 rfl) ?_
    refine va_get (pc := 25) (D := (dC, dI)) (ci := 0) (v := .ref (ad 5)) (C := RX11) (T := TX11) (N := 42) hx hb ht zr_lay hown hK hP 0 rfl rfl 4 (by decide) (ht _ zr_10) (fun _ h9 => h9) rfl dX11_codes_25 ?_
    refine lv_bipush (v := (93 : Int32)) (pc := 28) hx hb dX11_codes_28 (by decide) ?_
    refine lv_dup2_11 (pc := 30) hx hb dX11_codes_30 rfl rfl ?_
    obtain ⟨v3, hv3, hf⟩ := zc_1 hf
    refine zw_iald (pc := 31) hx hb hK hP 1 0 rfl rfl hv3 dX11_codes_31 ?_
    refine lv_iconst (v := (1 : Int32)) (pc := 32) hx hb dX11_codes_32 (by decide) ?_
    refine lv_iadd (pc := 33) hx hb dX11_codes_33 ?_
    obtain ⟨a4, ha4, hf⟩ := zc_1 hf
    refine zw_iast (pc := 34) hx hb hK hP hD hS 1 0 rfl rfl ha4 dX11_codes_34 (fun H locs hP hD hS => ?_)
    have hP : va_P (dC, dI) zz_cls [zr_o ad f_thrown f_taped f_at f_behind f_size f_kind f_number f_wrong f_wrongAt f_faultKind f_faultPlace f_reading f_toldWhy f_x f_standMany f_bestMany f_tail f_round1, (ad 5, .inl (dA 0, 994, .inl a4))] H := hP
    have hD : va_D A [zr_o ad f_thrown f_taped f_at f_behind f_size f_kind f_number f_wrong f_wrongAt f_faultKind f_faultPlace f_reading f_toldWhy f_x f_standMany f_bestMany f_tail f_round1, (ad 5, .inl (dA 0, 994, .inl a4))] := hD
    cases hf
    exact W.vret (pc := 35) hx hb hr (fun t ht hW => ⟨⟨(), rfl, trivial, zz_Bi (by rw [ht]; exact hP) (va_K.moved hW.alike hK) (hD)⟩, hS.F ht⟩) hS.2.2 dX11_codes_35
  · have hf := za_f hf hc
    cases hf
    exact W.vret (pc := 7) hx hb hr (fun t ht hW => ⟨⟨(), rfl, trivial, zz_Bi (by rw [ht]; exact hP) (va_K.moved hW.alike hK) (hD)⟩, hS.F ht⟩) hS.2.2 dX11_codes_7

def zf_X11_isThing (b_all : (Nat → Int32)) (p1 : Int64) : Option (Int32) :=
  zd_1 (za_ld b_all 2982 (2 : Int32)) (fun v1 =>
  zd_1 (zf_X11_within p1 (0 : Int64) (Int32.toInt64 (v1 - (1 : Int32)))) (fun v2 =>
  zd_1 (za_zb v2) (fun v3 =>
  some v3)))
theorem zk_X11_isThing : yX11_isThing.cls = RX11 ∧ yX11_isThing.cls ≠ "java/lang/invoke/MethodHandle" ∧ yX11_isThing.cls ≠ "java/lang/invoke/VarHandle" ∧ (parseMethodDescriptor yX11_isThing.desc).map (fun d => d.parameters.length) = some 1 := by decide +kernel
set_option maxHeartbeats 4000000 in
set_option maxRecDepth 100000 in
theorem zt_X11_isThing (l : Launch) (dC : Nat → ClassId) (dI : Nat → Nat → Nat) (dA : Nat → ClassId) (ad : Nat → Nat) (sz : Nat) (f_thrown f_taped f_at f_behind f_size f_kind f_number f_wrong f_wrongAt f_faultKind f_faultPlace f_reading f_toldWhy f_x f_standMany f_bestMany f_tail f_round1 : Int32) (b_all : (Nat → Int32)) (p1 : Int64) (r0 : Int32) (hf : zf_X11_isThing b_all p1 = some r0) : Met l yX11_isThing (.code yX11_isThing cX11_isThing 3 (some .boolean) :: zr_T) ({ frames := 1, cells := 0, slots := 0, locals := 25 }) (va_Pc [.ref (ad 0), .long p1] (zz_M dC dI dA [zr_o ad f_thrown f_taped f_at f_behind f_size f_kind f_number f_wrong f_wrongAt f_faultKind f_faultPlace f_reading f_toldWhy f_x f_standMany f_bestMany f_tail f_round1, (ad 2, .inl (dA 0, 2982, .inl b_all))] sz)) (va_Qi (fun (r : Int32) (_ : Unit) => r = r0) (fun _ t => zz_B dC dI dA (va_A [zr_o ad f_thrown f_taped f_at f_behind f_size f_kind f_number f_wrong f_wrongAt f_faultKind f_faultPlace f_reading f_toldWhy f_x f_standMany f_bestMany f_tail f_round1, (ad 2, .inl (dA 0, 2982, .inl b_all))] sz) [zr_o ad f_thrown f_taped f_at f_behind f_size f_kind f_number f_wrong f_wrongAt f_faultKind f_faultPlace f_reading f_toldWhy f_x f_standMany f_bestMany f_tail f_round1, (ad 2, .inl (dA 0, 2982, .inl b_all))] t) (va_A [zr_o ad f_thrown f_taped f_at f_behind f_size f_kind f_number f_wrong f_wrongAt f_faultKind f_faultPlace f_reading f_toldWhy f_x f_standMany f_bestMany f_tail f_round1, (ad 2, .inl (dA 0, 2982, .inl b_all))] sz)) 0 0 (va_A [zr_o ad f_thrown f_taped f_at f_behind f_size f_kind f_number f_wrong f_wrongAt f_faultKind f_faultPlace f_reading f_toldWhy f_x f_standMany f_bestMany f_tail f_round1, (ad 2, .inl (dA 0, 2982, .inl b_all))] sz) := by
  unfold zf_X11_isThing at hf
  refine Met.ofW (cc := cX11_isThing) (maxL := 3) (ret := (some .boolean)) (by decide) rfl ?_
  intro p e s m args below meth c s₁ B hml hv
  obtain ⟨rfl, hsz, hP, hK, hD0⟩ := hv
  have hx := B.exec
  have hb := B.bytes
  have hr := B.returns
  have ht : ∀ w ∈ zr_T, w.before ([.ref (ad 0), .long p1] : List Value).toArray s = true := fun w hw => atoms_spec (ws := .code yX11_isThing cX11_isThing 3 (some .boolean) :: zr_T) B.pre w (List.mem_cons_of_mem _ hw)
  have hown : s.vm.findClass RX11 = some m.cls := findClass_of_methodNamed B.named
  have hlocks := B.notSynchronized
  subst hsz
  have hD := hD0.self (sz := s.heap.size)
  generalize hAe : va_A [zr_o ad f_thrown f_taped f_at f_behind f_size f_kind f_number f_wrong f_wrongAt f_faultKind f_faultPlace f_reading f_toldWhy f_x f_standMany f_bestMany f_tail f_round1, (ad 2, .inl (dA 0, 2982, .inl b_all))] s.heap.size = A at hD ⊢
  have hA : ∀ q : Nat, s.heap.size ≤ q → A q := fun q h => by rw [← hAe]; exact Or.inr h
  clear hAe hD0
  have hS : va_S A s.heap s.heap [] := va_S.rf
  have hl := lv_entry ([.ref (ad 0), .long p1]) (n := 3) (Nat.le_of_ble_eq_true rfl)
  rw [lg_entry_eq]
  generalize (lg_sl ([.ref (ad 0), .long p1]) ++ List.replicate (3 - (lg_sl ([.ref (ad 0), .long p1])).length) Slot.unset).toArray = ls at hl ⊢
  have hl : lv_has ls 3 [(0, .ref (ad 0)), (1, .long p1)] := hl
  refine lv_lload_n (pc := 0) hx hb dX11_isThing_0 rfl (lv_at hl 1 rfl) ?_
  refine lv_lconst (v := (0 : Int64)) (pc := 1) hx hb dX11_isThing_1 (by decide) ?_
  refine lv_aload_n (pc := 2) hx hb dX11_isThing_2 rfl (lv_at hl 0 rfl) ?_
  refine va_get (pc := 3) (D := (dC, dI)) (ci := 0) (v := .ref (ad 2)) (C := RX11) (T := TX11) (N := 42) hx hb ht zr_lay hown hK hP 0 rfl rfl 1 (by decide) (ht _ zr_6) (fun _ h9 => h9) rfl dX11_isThing_3 ?_
  refine lv_iconst (v := (2 : Int32)) (pc := 6) hx hb dX11_isThing_6 (by decide) ?_
  obtain ⟨v1, hv1, hf⟩ := zc_1 hf
  refine zw_iald (pc := 7) hx hb hK hP 1 0 rfl rfl hv1 dX11_isThing_7 ?_
  refine lv_iconst (v := (1 : Int32)) (pc := 8) hx hb dX11_isThing_8 (by decide) ?_
  refine lv_isub (pc := 9) hx hb dX11_isThing_9 ?_
  refine lv_i2l (pc := 10) hx hb dX11_isThing_10 rfl ?_
  obtain ⟨v2, hv2, hf⟩ := zc_1 hf
  refine zw_Si (pc := 11) (wc := []) (wr := [zr_o ad f_thrown f_taped f_at f_behind f_size f_kind f_number f_wrong f_wrongAt f_faultKind f_faultPlace f_reading f_toldWhy f_x f_standMany f_bestMany f_tail f_round1, (ad 2, .inl (dA 0, 2982, .inl b_all))]) (w1 := []) (As := [.long p1, .long (0 : Int64), .long (Int32.toInt64 (v1 - (1 : Int32)))]) (rest := []) ⟨hx, hb, hml, hown, ht⟩ (zt_X11_within l dC dI dA ad _ p1 (0 : Int64) (Int32.toInt64 (v1 - (1 : Int32))) v2 hv2) (cwS 3 ht (zr_S zr_124 zr_125 zr_36 zr_0) rfl rfl rfl zk_X11_within ⟨Nat.le_of_ble_eq_true rfl, Nat.le_of_ble_eq_true rfl⟩) hK hP hD hS hA [] [0, 1] (by decide) (by decide) (by decide) rfl rfl rfl hl.1 (Nat.le_of_ble_eq_true rfl) dX11_isThing_11 ⟨Nat.zero_le _, Nat.zero_le _⟩ rfl (fun H locs hP hD hS => ?_)
  have hP : va_P (dC, dI) zz_cls [zr_o ad f_thrown f_taped f_at f_behind f_size f_kind f_number f_wrong f_wrongAt f_faultKind f_faultPlace f_reading f_toldWhy f_x f_standMany f_bestMany f_tail f_round1, (ad 2, .inl (dA 0, 2982, .inl b_all))] H := hP
  have hD : va_D A [zr_o ad f_thrown f_taped f_at f_behind f_size f_kind f_number f_wrong f_wrongAt f_faultKind f_faultPlace f_reading f_toldWhy f_x f_standMany f_bestMany f_tail f_round1, (ad 2, .inl (dA 0, 2982, .inl b_all))] := hD
  obtain ⟨v3, hv3, hf⟩ := zc_1 hf
  obtain ⟨ev3, nv3⟩ := za_zbs hv3
  refine zw_top (congrArg some ev3) ?_
  cases hf
  exact W.zret (pc := 14) hx hb hr nv3 (fun t ht hW => ⟨⟨_, (), rfl, rfl, zz_Bi (by rw [ht]; exact hP) (va_K.moved hW.alike hK) (hD)⟩, hS.F ht⟩) hS.2.2 dX11_isThing_14

def zf_X11_standNow (b_all : (Nat → Int32)) : Option (Int32) :=
  zd_1 (za_ld b_all 2982 (37 : Int32)) (fun v1 =>
  zd_1 (za_ld b_all 2982 (38 : Int32)) (fun v2 =>
  zd_1 (za_ld b_all 2982 (39 : Int32)) (fun v3 =>
  zd_1 (zf_X11_standOf v1 v2 v3) (fun v4 =>
  some v4))))
theorem zk_X11_standNow : yX11_standNow.cls = RX11 ∧ yX11_standNow.cls ≠ "java/lang/invoke/MethodHandle" ∧ yX11_standNow.cls ≠ "java/lang/invoke/VarHandle" ∧ (parseMethodDescriptor yX11_standNow.desc).map (fun d => d.parameters.length) = some 0 := by decide +kernel
set_option maxHeartbeats 4000000 in
set_option maxRecDepth 100000 in
theorem zt_X11_standNow (l : Launch) (dC : Nat → ClassId) (dI : Nat → Nat → Nat) (dA : Nat → ClassId) (ad : Nat → Nat) (sz : Nat) (f_thrown f_taped f_at f_behind f_size f_kind f_number f_wrong f_wrongAt f_faultKind f_faultPlace f_reading f_toldWhy f_x f_standMany f_bestMany f_tail f_round1 : Int32) (b_all : (Nat → Int32)) (r0 : Int32) (hf : zf_X11_standNow b_all = some r0) : Met l yX11_standNow (.code yX11_standNow cX11_standNow 1 (some .int) :: zr_T) ({ frames := 1, cells := 0, slots := 0, locals := 22 }) (va_Pc [.ref (ad 0)] (zz_M dC dI dA [zr_o ad f_thrown f_taped f_at f_behind f_size f_kind f_number f_wrong f_wrongAt f_faultKind f_faultPlace f_reading f_toldWhy f_x f_standMany f_bestMany f_tail f_round1, (ad 2, .inl (dA 0, 2982, .inl b_all))] sz)) (va_Qi (fun (r : Int32) (_ : Unit) => r = r0) (fun _ t => zz_B dC dI dA (va_A [zr_o ad f_thrown f_taped f_at f_behind f_size f_kind f_number f_wrong f_wrongAt f_faultKind f_faultPlace f_reading f_toldWhy f_x f_standMany f_bestMany f_tail f_round1, (ad 2, .inl (dA 0, 2982, .inl b_all))] sz) [zr_o ad f_thrown f_taped f_at f_behind f_size f_kind f_number f_wrong f_wrongAt f_faultKind f_faultPlace f_reading f_toldWhy f_x f_standMany f_bestMany f_tail f_round1, (ad 2, .inl (dA 0, 2982, .inl b_all))] t) (va_A [zr_o ad f_thrown f_taped f_at f_behind f_size f_kind f_number f_wrong f_wrongAt f_faultKind f_faultPlace f_reading f_toldWhy f_x f_standMany f_bestMany f_tail f_round1, (ad 2, .inl (dA 0, 2982, .inl b_all))] sz)) 0 0 (va_A [zr_o ad f_thrown f_taped f_at f_behind f_size f_kind f_number f_wrong f_wrongAt f_faultKind f_faultPlace f_reading f_toldWhy f_x f_standMany f_bestMany f_tail f_round1, (ad 2, .inl (dA 0, 2982, .inl b_all))] sz) := by
  unfold zf_X11_standNow at hf
  refine Met.ofW (cc := cX11_standNow) (maxL := 1) (ret := (some .int)) (by decide) rfl ?_
  intro p e s m args below meth c s₁ B hml hv
  obtain ⟨rfl, hsz, hP, hK, hD0⟩ := hv
  have hx := B.exec
  have hb := B.bytes
  have hr := B.returns
  have ht : ∀ w ∈ zr_T, w.before ([.ref (ad 0)] : List Value).toArray s = true := fun w hw => atoms_spec (ws := .code yX11_standNow cX11_standNow 1 (some .int) :: zr_T) B.pre w (List.mem_cons_of_mem _ hw)
  have hown : s.vm.findClass RX11 = some m.cls := findClass_of_methodNamed B.named
  have hlocks := B.notSynchronized
  subst hsz
  have hD := hD0.self (sz := s.heap.size)
  generalize hAe : va_A [zr_o ad f_thrown f_taped f_at f_behind f_size f_kind f_number f_wrong f_wrongAt f_faultKind f_faultPlace f_reading f_toldWhy f_x f_standMany f_bestMany f_tail f_round1, (ad 2, .inl (dA 0, 2982, .inl b_all))] s.heap.size = A at hD ⊢
  have hA : ∀ q : Nat, s.heap.size ≤ q → A q := fun q h => by rw [← hAe]; exact Or.inr h
  clear hAe hD0
  have hS : va_S A s.heap s.heap [] := va_S.rf
  have hl := lv_entry ([.ref (ad 0)]) (n := 1) (Nat.le_of_ble_eq_true rfl)
  rw [lg_entry_eq]
  generalize (lg_sl ([.ref (ad 0)]) ++ List.replicate (1 - (lg_sl ([.ref (ad 0)])).length) Slot.unset).toArray = ls at hl ⊢
  have hl : lv_has ls 1 [(0, .ref (ad 0))] := hl
  refine lv_aload_n (pc := 0) hx hb dX11_standNow_0 rfl (lv_at hl 0 rfl) ?_
  refine va_get (pc := 1) (D := (dC, dI)) (ci := 0) (v := .ref (ad 2)) (C := RX11) (T := TX11) (N := 42) hx hb ht zr_lay hown hK hP 0 rfl rfl 1 (by decide) (ht _ zr_6) (fun _ h9 => h9) rfl dX11_standNow_1 ?_
  refine lv_bipush (v := (37 : Int32)) (pc := 4) hx hb dX11_standNow_4 (by decide) ?_
  obtain ⟨v1, hv1, hf⟩ := zc_1 hf
  refine zw_iald (pc := 6) hx hb hK hP 1 0 rfl rfl hv1 dX11_standNow_6 ?_
  refine lv_aload_n (pc := 7) hx hb dX11_standNow_7 rfl (lv_at hl 0 rfl) ?_
  refine va_get (pc := 8) (D := (dC, dI)) (ci := 0) (v := .ref (ad 2)) (C := RX11) (T := TX11) (N := 42) hx hb ht zr_lay hown hK hP 0 rfl rfl 1 (by decide) (ht _ zr_6) (fun _ h9 => h9) rfl dX11_standNow_8 ?_
  refine lv_bipush (v := (38 : Int32)) (pc := 11) hx hb dX11_standNow_11 (by decide) ?_
  obtain ⟨v2, hv2, hf⟩ := zc_1 hf
  refine zw_iald (pc := 13) hx hb hK hP 1 0 rfl rfl hv2 dX11_standNow_13 ?_
  refine lv_aload_n (pc := 14) hx hb dX11_standNow_14 rfl (lv_at hl 0 rfl) ?_
  refine va_get (pc := 15) (D := (dC, dI)) (ci := 0) (v := .ref (ad 2)) (C := RX11) (T := TX11) (N := 42) hx hb ht zr_lay hown hK hP 0 rfl rfl 1 (by decide) (ht _ zr_6) (fun _ h9 => h9) rfl dX11_standNow_15 ?_
  refine lv_bipush (v := (39 : Int32)) (pc := 18) hx hb dX11_standNow_18 (by decide) ?_
  obtain ⟨v3, hv3, hf⟩ := zc_1 hf
  refine zw_iald (pc := 20) hx hb hK hP 1 0 rfl rfl hv3 dX11_standNow_20 ?_
  obtain ⟨v4, hv4, hf⟩ := zc_1 hf
  refine zw_Si (pc := 21) (wc := []) (wr := [zr_o ad f_thrown f_taped f_at f_behind f_size f_kind f_number f_wrong f_wrongAt f_faultKind f_faultPlace f_reading f_toldWhy f_x f_standMany f_bestMany f_tail f_round1, (ad 2, .inl (dA 0, 2982, .inl b_all))]) (w1 := []) (As := [.int v1, .int v2, .int v3]) (rest := []) ⟨hx, hb, hml, hown, ht⟩ (zt_X11_standOf l dC dI dA ad _ v1 v2 v3 v4 hv4) (cwS 3 ht (zr_S zr_214 zr_215 zr_36 zr_212) rfl rfl rfl zk_X11_standOf ⟨Nat.le_of_ble_eq_true rfl, Nat.le_of_ble_eq_true rfl⟩) hK hP hD hS hA [] [0, 1] (by decide) (by decide) (by decide) rfl rfl rfl hl.1 (Nat.le_of_ble_eq_true rfl) dX11_standNow_21 ⟨Nat.zero_le _, Nat.zero_le _⟩ rfl (fun H locs hP hD hS => ?_)
  have hP : va_P (dC, dI) zz_cls [zr_o ad f_thrown f_taped f_at f_behind f_size f_kind f_number f_wrong f_wrongAt f_faultKind f_faultPlace f_reading f_toldWhy f_x f_standMany f_bestMany f_tail f_round1, (ad 2, .inl (dA 0, 2982, .inl b_all))] H := hP
  have hD : va_D A [zr_o ad f_thrown f_taped f_at f_behind f_size f_kind f_number f_wrong f_wrongAt f_faultKind f_faultPlace f_reading f_toldWhy f_x f_standMany f_bestMany f_tail f_round1, (ad 2, .inl (dA 0, 2982, .inl b_all))] := hD
  cases hf
  exact W.iret (pc := 24) hx hb hr (fun t ht hW => ⟨⟨_, (), rfl, rfl, zz_Bi (by rw [ht]; exact hP) (va_K.moved hW.alike hK) (hD)⟩, hS.F ht⟩) hS.2.2 dX11_standNow_24

def zf_X11_isStand (b_all : (Nat → Int32)) (p1 : Int32) : Option ((Nat → Int32)) :=
  zd_1 (zf_X11_rungIn p1) (fun v1 =>
  zd_1 (za_st b_all 2982 (37 : Int32) v1) (fun a2 =>
  zd_1 (zf_X11_hasIn p1) (fun v3 =>
  zd_1 (za_st a2 2982 (38 : Int32) v3) (fun a4 =>
  zd_1 (za_st a4 2982 (39 : Int32) (za_rem p1 (5 : Int32))) (fun a5 =>
  some a5)))))
theorem zk_X11_isStand : yX11_isStand.cls = RX11 ∧ yX11_isStand.cls ≠ "java/lang/invoke/MethodHandle" ∧ yX11_isStand.cls ≠ "java/lang/invoke/VarHandle" ∧ (parseMethodDescriptor yX11_isStand.desc).map (fun d => d.parameters.length) = some 1 := by decide +kernel
set_option maxHeartbeats 4000000 in
set_option maxRecDepth 100000 in
theorem zt_X11_isStand (l : Launch) (dC : Nat → ClassId) (dI : Nat → Nat → Nat) (dA : Nat → ClassId) (ad : Nat → Nat) (sz : Nat) (f_thrown f_taped f_at f_behind f_size f_kind f_number f_wrong f_wrongAt f_faultKind f_faultPlace f_reading f_toldWhy f_x f_standMany f_bestMany f_tail f_round1 : Int32) (b_all : (Nat → Int32)) (p1 : Int32) (o1 : (Nat → Int32)) (hf : zf_X11_isStand b_all p1 = some o1) : Met l yX11_isStand (.code yX11_isStand cX11_isStand 2 none :: zr_T) ({ frames := 1, cells := 0, slots := 0, locals := 20 }) (va_Pc [.ref (ad 0), .int p1] (zz_M dC dI dA [zr_o ad f_thrown f_taped f_at f_behind f_size f_kind f_number f_wrong f_wrongAt f_faultKind f_faultPlace f_reading f_toldWhy f_x f_standMany f_bestMany f_tail f_round1, (ad 2, .inl (dA 0, 2982, .inl b_all))] sz)) (va_Qv (fun _ : Unit => True) (fun _ t => zz_B dC dI dA (va_A [zr_o ad f_thrown f_taped f_at f_behind f_size f_kind f_number f_wrong f_wrongAt f_faultKind f_faultPlace f_reading f_toldWhy f_x f_standMany f_bestMany f_tail f_round1, (ad 2, .inl (dA 0, 2982, .inl b_all))] sz) [zr_o ad f_thrown f_taped f_at f_behind f_size f_kind f_number f_wrong f_wrongAt f_faultKind f_faultPlace f_reading f_toldWhy f_x f_standMany f_bestMany f_tail f_round1, (ad 2, .inl (dA 0, 2982, .inl o1))] t) (va_A [zr_o ad f_thrown f_taped f_at f_behind f_size f_kind f_number f_wrong f_wrongAt f_faultKind f_faultPlace f_reading f_toldWhy f_x f_standMany f_bestMany f_tail f_round1, (ad 2, .inl (dA 0, 2982, .inl b_all))] sz)) 0 0 (va_A [zr_o ad f_thrown f_taped f_at f_behind f_size f_kind f_number f_wrong f_wrongAt f_faultKind f_faultPlace f_reading f_toldWhy f_x f_standMany f_bestMany f_tail f_round1, (ad 2, .inl (dA 0, 2982, .inl b_all))] sz) := by
  unfold zf_X11_isStand at hf
  refine Met.ofW (cc := cX11_isStand) (maxL := 2) (ret := none) (by decide) rfl ?_
  intro p e s m args below meth c s₁ B hml hv
  obtain ⟨rfl, hsz, hP, hK, hD0⟩ := hv
  have hx := B.exec
  have hb := B.bytes
  have hr := B.returns
  have ht : ∀ w ∈ zr_T, w.before ([.ref (ad 0), .int p1] : List Value).toArray s = true := fun w hw => atoms_spec (ws := .code yX11_isStand cX11_isStand 2 none :: zr_T) B.pre w (List.mem_cons_of_mem _ hw)
  have hown : s.vm.findClass RX11 = some m.cls := findClass_of_methodNamed B.named
  have hlocks := B.notSynchronized
  subst hsz
  have hD := hD0.self (sz := s.heap.size)
  generalize hAe : va_A [zr_o ad f_thrown f_taped f_at f_behind f_size f_kind f_number f_wrong f_wrongAt f_faultKind f_faultPlace f_reading f_toldWhy f_x f_standMany f_bestMany f_tail f_round1, (ad 2, .inl (dA 0, 2982, .inl b_all))] s.heap.size = A at hD ⊢
  have hA : ∀ q : Nat, s.heap.size ≤ q → A q := fun q h => by rw [← hAe]; exact Or.inr h
  clear hAe hD0
  have hS : va_S A s.heap s.heap [] := va_S.rf
  have hl := lv_entry ([.ref (ad 0), .int p1]) (n := 2) (Nat.le_of_ble_eq_true rfl)
  rw [lg_entry_eq]
  generalize (lg_sl ([.ref (ad 0), .int p1]) ++ List.replicate (2 - (lg_sl ([.ref (ad 0), .int p1])).length) Slot.unset).toArray = ls at hl ⊢
  have hl : lv_has ls 2 [(0, .ref (ad 0)), (1, .int p1)] := hl
  refine lv_aload_n (pc := 0) hx hb dX11_isStand_0 rfl (lv_at hl 0 rfl) ?_
  refine va_get (pc := 1) (D := (dC, dI)) (ci := 0) (v := .ref (ad 2)) (C := RX11) (T := TX11) (N := 42) hx hb ht zr_lay hown hK hP 0 rfl rfl 1 (by decide) (ht _ zr_6) (fun _ h9 => h9) rfl dX11_isStand_1 ?_
  refine lv_bipush (v := (37 : Int32)) (pc := 4) hx hb dX11_isStand_4 (by decide) ?_
  refine lv_iload_n (pc := 6) hx hb dX11_isStand_6 rfl (lv_at hl 1 rfl) ?_
  obtain ⟨v1, hv1, hf⟩ := zc_1 hf
  refine zw_Si (pc := 7) (wc := []) (wr := [zr_o ad f_thrown f_taped f_at f_behind f_size f_kind f_number f_wrong f_wrongAt f_faultKind f_faultPlace f_reading f_toldWhy f_x f_standMany f_bestMany f_tail f_round1, (ad 2, .inl (dA 0, 2982, .inl b_all))]) (w1 := []) (As := [.int p1]) (rest := [.int (37 : Int32), .ref (ad 2)]) ⟨hx, hb, hml, hown, ht⟩ (zt_X11_rungIn l dC dI dA ad _ p1 v1 hv1) (cwS 1 ht (zr_S zr_217 zr_218 zr_36 zr_210) rfl rfl rfl zk_X11_rungIn ⟨Nat.le_of_ble_eq_true rfl, Nat.le_of_ble_eq_true rfl⟩) hK hP hD hS hA [] [0, 1] (by decide) (by decide) (by decide) rfl rfl rfl hl.1 (Nat.le_of_ble_eq_true rfl) dX11_isStand_7 ⟨Nat.zero_le _, Nat.zero_le _⟩ rfl (fun H locs hP hD hS => ?_)
  have hP : va_P (dC, dI) zz_cls [zr_o ad f_thrown f_taped f_at f_behind f_size f_kind f_number f_wrong f_wrongAt f_faultKind f_faultPlace f_reading f_toldWhy f_x f_standMany f_bestMany f_tail f_round1, (ad 2, .inl (dA 0, 2982, .inl b_all))] H := hP
  have hD : va_D A [zr_o ad f_thrown f_taped f_at f_behind f_size f_kind f_number f_wrong f_wrongAt f_faultKind f_faultPlace f_reading f_toldWhy f_x f_standMany f_bestMany f_tail f_round1, (ad 2, .inl (dA 0, 2982, .inl b_all))] := hD
  obtain ⟨a2, ha2, hf⟩ := zc_1 hf
  refine zw_iast (pc := 10) hx hb hK hP hD hS 1 0 rfl rfl ha2 dX11_isStand_10 (fun H locs hP hD hS => ?_)
  have hP : va_P (dC, dI) zz_cls [zr_o ad f_thrown f_taped f_at f_behind f_size f_kind f_number f_wrong f_wrongAt f_faultKind f_faultPlace f_reading f_toldWhy f_x f_standMany f_bestMany f_tail f_round1, (ad 2, .inl (dA 0, 2982, .inl a2))] H := hP
  have hD : va_D A [zr_o ad f_thrown f_taped f_at f_behind f_size f_kind f_number f_wrong f_wrongAt f_faultKind f_faultPlace f_reading f_toldWhy f_x f_standMany f_bestMany f_tail f_round1, (ad 2, .inl (dA 0, 2982, .inl a2))] := hD
  refine lv_aload_n (pc := 11) hx hb dX11_isStand_11 rfl (lv_at hl 0 rfl) ?_
  refine va_get (pc := 12) (D := (dC, dI)) (ci := 0) (v := .ref (ad 2)) (C := RX11) (T := TX11) (N := 42) hx hb ht zr_lay hown hK hP 0 rfl rfl 1 (by decide) (ht _ zr_6) (fun _ h9 => h9) rfl dX11_isStand_12 ?_
  refine lv_bipush (v := (38 : Int32)) (pc := 15) hx hb dX11_isStand_15 (by decide) ?_
  refine lv_iload_n (pc := 17) hx hb dX11_isStand_17 rfl (lv_at hl 1 rfl) ?_
  obtain ⟨v3, hv3, hf⟩ := zc_1 hf
  refine zw_Si (pc := 18) (wc := []) (wr := [zr_o ad f_thrown f_taped f_at f_behind f_size f_kind f_number f_wrong f_wrongAt f_faultKind f_faultPlace f_reading f_toldWhy f_x f_standMany f_bestMany f_tail f_round1, (ad 2, .inl (dA 0, 2982, .inl a2))]) (w1 := []) (As := [.int p1]) (rest := [.int (38 : Int32), .ref (ad 2)]) ⟨hx, hb, hml, hown, ht⟩ (zt_X11_hasIn l dC dI dA ad _ p1 v3 hv3) (cwS 1 ht (zr_S zr_219 zr_220 zr_36 zr_211) rfl rfl rfl zk_X11_hasIn ⟨Nat.le_of_ble_eq_true rfl, Nat.le_of_ble_eq_true rfl⟩) hK hP hD hS hA [] [0, 1] (by decide) (by decide) (by decide) rfl rfl rfl hl.1 (Nat.le_of_ble_eq_true rfl) dX11_isStand_18 ⟨Nat.zero_le _, Nat.zero_le _⟩ rfl (fun H locs hP hD hS => ?_)
  have hP : va_P (dC, dI) zz_cls [zr_o ad f_thrown f_taped f_at f_behind f_size f_kind f_number f_wrong f_wrongAt f_faultKind f_faultPlace f_reading f_toldWhy f_x f_standMany f_bestMany f_tail f_round1, (ad 2, .inl (dA 0, 2982, .inl a2))] H := hP
  have hD : va_D A [zr_o ad f_thrown f_taped f_at f_behind f_size f_kind f_number f_wrong f_wrongAt f_faultKind f_faultPlace f_reading f_toldWhy f_x f_standMany f_bestMany f_tail f_round1, (ad 2, .inl (dA 0, 2982, .inl a2))] := hD
  obtain ⟨a4, ha4, hf⟩ := zc_1 hf
  refine zw_iast (pc := 21) hx hb hK hP hD hS 1 0 rfl rfl ha4 dX11_isStand_21 (fun H locs hP hD hS => ?_)
  have hP : va_P (dC, dI) zz_cls [zr_o ad f_thrown f_taped f_at f_behind f_size f_kind f_number f_wrong f_wrongAt f_faultKind f_faultPlace f_reading f_toldWhy f_x f_standMany f_bestMany f_tail f_round1, (ad 2, .inl (dA 0, 2982, .inl a4))] H := hP
  have hD : va_D A [zr_o ad f_thrown f_taped f_at f_behind f_size f_kind f_number f_wrong f_wrongAt f_faultKind f_faultPlace f_reading f_toldWhy f_x f_standMany f_bestMany f_tail f_round1, (ad 2, .inl (dA 0, 2982, .inl a4))] := hD
  refine lv_aload_n (pc := 22) hx hb dX11_isStand_22 rfl (lv_at hl 0 rfl) ?_
  refine va_get (pc := 23) (D := (dC, dI)) (ci := 0) (v := .ref (ad 2)) (C := RX11) (T := TX11) (N := 42) hx hb ht zr_lay hown hK hP 0 rfl rfl 1 (by decide) (ht _ zr_6) (fun _ h9 => h9) rfl dX11_isStand_23 ?_
  refine lv_bipush (v := (39 : Int32)) (pc := 26) hx hb dX11_isStand_26 (by decide) ?_
  refine lv_iload_n (pc := 28) hx hb dX11_isStand_28 rfl (lv_at hl 1 rfl) ?_
  refine lv_iconst (v := (5 : Int32)) (pc := 29) hx hb dX11_isStand_29 (by decide) ?_
  refine lv_irem (pc := 30) hx hb dX11_isStand_30 (by decide) ?_
  obtain ⟨a5, ha5, hf⟩ := zc_1 hf
  refine zw_iast (pc := 31) hx hb hK hP hD hS 1 0 rfl rfl ha5 dX11_isStand_31 (fun H locs hP hD hS => ?_)
  have hP : va_P (dC, dI) zz_cls [zr_o ad f_thrown f_taped f_at f_behind f_size f_kind f_number f_wrong f_wrongAt f_faultKind f_faultPlace f_reading f_toldWhy f_x f_standMany f_bestMany f_tail f_round1, (ad 2, .inl (dA 0, 2982, .inl a5))] H := hP
  have hD : va_D A [zr_o ad f_thrown f_taped f_at f_behind f_size f_kind f_number f_wrong f_wrongAt f_faultKind f_faultPlace f_reading f_toldWhy f_x f_standMany f_bestMany f_tail f_round1, (ad 2, .inl (dA 0, 2982, .inl a5))] := hD
  cases hf
  exact W.vret (pc := 32) hx hb hr (fun t ht hW => ⟨⟨(), rfl, trivial, zz_Bi (by rw [ht]; exact hP) (va_K.moved hW.alike hK) (hD)⟩, hS.F ht⟩) hS.2.2 dX11_isStand_32
