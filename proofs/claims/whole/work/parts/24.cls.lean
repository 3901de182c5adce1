def zf_J6_bitCount_0f7a4 (p0 : Int32) : Option (Int32) :=
  zd_1 (some (((Int32.toUInt32 p0 >>> (Int32.toUInt32 (1 : Int32) &&& Int32.toUInt32 31)).toInt32))) (fun v1 =>
  zd_1 (some ((p0 - (v1 &&& (1431655765 : Int32))))) (fun v2 =>
  zd_1 (some (((Int32.toUInt32 v2 >>> (Int32.toUInt32 (2 : Int32) &&& Int32.toUInt32 31)).toInt32))) (fun v3 =>
  zd_1 (some (((v2 &&& (858993459 : Int32)) + (v3 &&& (858993459 : Int32))))) (fun v4 =>
  zd_1 (some (((Int32.toUInt32 v4 >>> (Int32.toUInt32 (4 : Int32) &&& Int32.toUInt32 31)).toInt32))) (fun v5 =>
  zd_1 (some (((v4 + v5) &&& (252645135 : Int32)))) (fun v6 =>
  zd_1 (some (((Int32.toUInt32 v6 >>> (Int32.toUInt32 (8 : Int32) &&& Int32.toUInt32 31)).toInt32))) (fun v7 =>
  zd_1 (some ((v6 + v7))) (fun v8 =>
  zd_1 (some (((Int32.toUInt32 v8 >>> (Int32.toUInt32 (16 : Int32) &&& Int32.toUInt32 31)).toInt32))) (fun v9 =>
  zd_1 (some ((v8 + v9))) (fun v10 =>
  some (v10 &&& (63 : Int32))))))))))))
theorem zk_J6_bitCount_0f7a4 : yJ6_bitCount_0f7a4.cls = RJ6 ∧ yJ6_bitCount_0f7a4.cls ≠ "java/lang/invoke/MethodHandle" ∧ yJ6_bitCount_0f7a4.cls ≠ "java/lang/invoke/VarHandle" ∧ (parseMethodDescriptor yJ6_bitCount_0f7a4.desc).map (fun d => d.parameters.length) = some 1 := by decide +kernel
set_option maxHeartbeats 4000000 in
set_option maxRecDepth 100000 in
theorem zt_J6_bitCount_0f7a4 (l : Launch) (dC : Nat → ClassId) (dI : Nat → Nat → Nat) (dA : Nat → ClassId) (adK adV : Nat → Nat) (sz : Nat) (p0 : Int32) (r0 : Int32) (hf : zf_J6_bitCount_0f7a4 p0 = some r0) : Met l yJ6_bitCount_0f7a4 (.code yJ6_bitCount_0f7a4 cJ6_bitCount_0f7a4 1 (some .int) :: zq_T) ({ frames := 0, cells := 0, slots := 0, locals := 0 }) (va_Pc [.int p0] (zz_M dC dI dA [] sz)) (va_Qi (fun (r : Int32) (_ : Unit) => r = r0) (fun _ t => zz_B dC dI dA (va_A [] sz) [] t) (va_A [] sz)) 0 0 (va_A [] sz) := by
  unfold zf_J6_bitCount_0f7a4 at hf
  refine Met.ofW (cc := cJ6_bitCount_0f7a4) (maxL := 1) (ret := (some .int)) (by decide) rfl ?_
  intro p e s m args below meth c s₁ B hml hv
  obtain ⟨rfl, hsz, hP, hK, hD0⟩ := hv
  have hx := B.exec
  have hb := B.bytes
  have hr := B.returns
  have ht : ∀ w ∈ zq_T, w.before ([.int p0] : List Value).toArray s = true := fun w hw => atoms_spec (ws := .code yJ6_bitCount_0f7a4 cJ6_bitCount_0f7a4 1 (some .int) :: zq_T) B.pre w (List.mem_cons_of_mem _ hw)
  have hown : s.vm.findClass RJ6 = some m.cls := findClass_of_methodNamed B.named
  have hlocks := B.notSynchronized
  subst hsz
  have hD := hD0.self (sz := s.heap.size)
  generalize hAe : va_A [] s.heap.size = A at hD ⊢
  have hA : ∀ q : Nat, s.heap.size ≤ q → A q := fun q h => by rw [← hAe]; exact Or.inr h
  clear hAe hD0
  have hS : va_S A s.heap s.heap [] := va_S.rf
  have hl := lv_entry ([.int p0]) (n := 1) (Nat.le_of_ble_eq_true rfl)
  rw [lg_entry_eq]
  generalize (lg_sl ([.int p0]) ++ List.replicate (1 - (lg_sl ([.int p0])).length) Slot.unset).toArray = ls at hl ⊢
  have hl : lv_has ls 1 [(0, .int p0)] := hl
  refine lv_iload_n (pc := 0) hx hb dJ6_bitCount_0f7a4_0 rfl (lv_at hl 0 rfl) ?_
  refine lv_iload_n (pc := 1) hx hb dJ6_bitCount_0f7a4_1 rfl (lv_at hl 0 rfl) ?_
  refine lv_iconst (v := (1 : Int32)) (pc := 2) hx hb dJ6_bitCount_0f7a4_2 (by decide) ?_
  refine lv_iushr (pc := 3) hx hb dJ6_bitCount_0f7a4_3 rfl ?_
  obtain ⟨v1, hv1, hf⟩ := zc_1 hf
  refine zw_top (hv1) ?_
  refine lv_ldcw (v := (1431655765 : Int32)) (pc := 4) hx hb hown (ht _ zq_101) dJ6_bitCount_0f7a4_4 ?_
  refine lv_iand (pc := 7) hx hb dJ6_bitCount_0f7a4_7 ?_
  refine lv_isub (pc := 8) hx hb dJ6_bitCount_0f7a4_8 ?_
  obtain ⟨v2, hv2, hf⟩ := zc_1 hf
  refine zw_top (hv2) ?_
  refine lv_istore_n (lv' := [(0, .int v2)]) (pc := 9) hx hb dJ6_bitCount_0f7a4_9 rfl hl (by decide) rfl (fun ls hl => ?_)
  refine lv_iload_n (pc := 10) hx hb dJ6_bitCount_0f7a4_10 rfl (lv_at hl 0 rfl) ?_
  refine lv_ldcw (v := (858993459 : Int32)) (pc := 11) hx hb hown (ht _ zq_102) dJ6_bitCount_0f7a4_11 ?_
  refine lv_iand (pc := 14) hx hb dJ6_bitCount_0f7a4_14 ?_
  refine lv_iload_n (pc := 15) hx hb dJ6_bitCount_0f7a4_15 rfl (lv_at hl 0 rfl) ?_
  refine lv_iconst (v := (2 : Int32)) (pc := 16) hx hb dJ6_bitCount_0f7a4_16 (by decide) ?_
  refine lv_iushr (pc := 17) hx hb dJ6_bitCount_0f7a4_17 rfl ?_
  obtain ⟨v3, hv3, hf⟩ := zc_1 hf
  refine zw_top (hv3) ?_
  refine lv_ldcw (v := (858993459 : Int32)) (pc := 18) hx hb hown (ht _ zq_102) dJ6_bitCount_0f7a4_18 ?_
  refine lv_iand (pc := 21) hx hb dJ6_bitCount_0f7a4_21 ?_
  refine lv_iadd (pc := 22) hx hb dJ6_bitCount_0f7a4_22 ?_
  obtain ⟨v4, hv4, hf⟩ := zc_1 hf
  refine zw_top (hv4) ?_
  refine lv_istore_n (lv' := [(0, .int v4)]) (pc := 23) hx hb dJ6_bitCount_0f7a4_23 rfl hl (by decide) rfl (fun ls hl => ?_)
  refine lv_iload_n (pc := 24) hx hb dJ6_bitCount_0f7a4_24 rfl (lv_at hl 0 rfl) ?_
  refine lv_iload_n (pc := 25) hx hb dJ6_bitCount_0f7a4_25 rfl (lv_at hl 0 rfl) ?_
  refine lv_iconst (v := (4 : Int32)) (pc := 26) hx hb dJ6_bitCount_0f7a4_26 (by decide) ?_
  refine lv_iushr (pc := 27) hx hb dJ6_bitCount_0f7a4_27 rfl ?_
  obtain ⟨v5, hv5, hf⟩ := zc_1 hf
  refine zw_top (hv5) ?_
  refine lv_iadd (pc := 28) hx hb dJ6_bitCount_0f7a4_28 ?_
  refine lv_ldcw (v := (252645135 : Int32)) (pc := 29) hx hb hown (ht _ zq_103) dJ6_bitCount_0f7a4_29 ?_
  refine lv_iand (pc := 32) hx hb dJ6_bitCount_0f7a4_32 ?_
  obtain ⟨v6, hv6, hf⟩ := zc_1 hf
  refine zw_top (hv6) ?_
  refine lv_istore_n (lv' := [(0, .int v6)]) (pc := 33) hx hb dJ6_bitCount_0f7a4_33 rfl hl (by decide) rfl (fun ls hl => ?_)
  refine lv_iload_n (pc := 34) hx hb dJ6_bitCount_0f7a4_34 rfl (lv_at hl 0 rfl) ?_
  refine lv_iload_n (pc := 35) hx hb dJ6_bitCount_0f7a4_35 rfl (lv_at hl 0 rfl) ?_
  refine lv_bipush (v := (8 : Int32)) (pc := 36) hx hb dJ6_bitCount_0f7a4_36 (by decide) ?_
  refine lv_iushr (pc := 38) hx hb dJ6_bitCount_0f7a4_38 rfl ?_
  obtain ⟨v7, hv7, hf⟩ := zc_1 hf
  refine zw_top (hv7) ?_
  refine lv_iadd (pc := 39) hx hb dJ6_bitCount_0f7a4_39 ?_
  obtain ⟨v8, hv8, hf⟩ := zc_1 hf
  refine zw_top (hv8) ?_
  refine lv_istore_n (lv' := [(0, .int v8)]) (pc := 40) hx hb dJ6_bitCount_0f7a4_40 rfl hl (by decide) rfl (fun ls hl => ?_)
  refine lv_iload_n (pc := 41) hx hb dJ6_bitCount_0f7a4_41 rfl (lv_at hl 0 rfl) ?_
  refine lv_iload_n (pc := 42) hx hb dJ6_bitCount_0f7a4_42 rfl (lv_at hl 0 rfl) ?_
  refine lv_bipush (v := (16 : Int32)) (pc := 43) hx hb dJ6_bitCount_0f7a4_43 (by decide) ?_
  refine lv_iushr (pc := 45) hx hb dJ6_bitCount_0f7a4_45 rfl ?_
  obtain ⟨v9, hv9, hf⟩ := zc_1 hf
  refine zw_top (hv9) ?_
  refine lv_iadd (pc := 46) hx hb dJ6_bitCount_0f7a4_46 ?_
  obtain ⟨v10, hv10, hf⟩ := zc_1 hf
  refine zw_top (hv10) ?_
  refine lv_istore_n (lv' := [(0, .int v10)]) (pc := 47) hx hb dJ6_bitCount_0f7a4_47 rfl hl (by decide) rfl (fun ls hl => ?_)
  refine lv_iload_n (pc := 48) hx hb dJ6_bitCount_0f7a4_48 rfl (lv_at hl 0 rfl) ?_
  refine lv_bipush (v := (63 : Int32)) (pc := 49) hx hb dJ6_bitCount_0f7a4_49 (by decide) ?_
  refine lv_iand (pc := 51) hx hb dJ6_bitCount_0f7a4_51 ?_
  obtain rfl := Option.some.inj hf
  exact W.iret (pc := 52) hx hb hr (fun t ht hW => ⟨⟨_, (), rfl, rfl, zz_Bi (by rw [ht]; exact hP) (va_K.moved hW.alike hK) (hD)⟩, hS.F ht⟩) hS.2.2 dJ6_bitCount_0f7a4_52

def zb_J7_fill_53178_5 (v1 : Int32) (qn0 : Nat) (p1 : Int32) (v2 : Int32) (a3 : (Nat → Int32)) : Option (Nat × Int32 × (Nat → Int32)) :=
  if v1 ≤ v2 then
    some (1, v2, a3)
  else
    zd_1 (za_st a3 qn0 v2 p1) (fun a4 =>
    zd_1 (some (v2 + (1 : Int32))) (fun v5 =>
    some (0, v5, a4)))
def zf_J7_fill_53178 (n : Nat) (qn0 : Nat) (b_q0 : (Nat → Int32)) (p1 : Int32) : Option ((Nat → Int32)) :=
  zd_1 (some ((Int32.ofNat qn0))) (fun v1 =>
  zd_3 (za_it (fun v => zb_J7_fill_53178_5 v1 qn0 p1 v.1 v.2) n ((0 : Int32), b_q0)) (fun g8 v6 a7 =>
  some a7))
theorem zk_J7_fill_53178 : yJ7_fill_53178.cls = RJ7 ∧ yJ7_fill_53178.cls ≠ "java/lang/invoke/MethodHandle" ∧ yJ7_fill_53178.cls ≠ "java/lang/invoke/VarHandle" ∧ (parseMethodDescriptor yJ7_fill_53178.desc).map (fun d => d.parameters.length) = some 2 := by decide +kernel
set_option maxHeartbeats 4000000 in
set_option maxRecDepth 100000 in
theorem zt_J7_fill_53178 (l : Launch) (dC : Nat → ClassId) (dI : Nat → Nat → Nat) (dA : Nat → ClassId) (adK adV : Nat → Nat) (sz : Nat) (a_q0 : Nat) (qn0 : Nat) (n : Nat) (b_q0 : (Nat → Int32)) (p1 : Int32) (o1 : (Nat → Int32)) (hf : zf_J7_fill_53178 n qn0 b_q0 p1 = some o1) : Met l yJ7_fill_53178 (.code yJ7_fill_53178 cJ7_fill_53178 4 none :: zq_T) ({ frames := 0, cells := 0, slots := 0, locals := 0 }) (va_Pc [.ref a_q0, .int p1] (zz_M dC dI dA [(a_q0, .inl (dA 0, qn0, .inl b_q0))] sz)) (va_Qv (fun _ : Unit => True) (fun _ t => zz_B dC dI dA (va_A [(a_q0, .inl (dA 0, qn0, .inl b_q0))] sz) [(a_q0, .inl (dA 0, qn0, .inl o1))] t) (va_A [(a_q0, .inl (dA 0, qn0, .inl b_q0))] sz)) 0 0 (va_A [(a_q0, .inl (dA 0, qn0, .inl b_q0))] sz) := by
  unfold zf_J7_fill_53178 at hf
  refine Met.ofW (cc := cJ7_fill_53178) (maxL := 4) (ret := none) (by decide) rfl ?_
  intro p e s m args below meth c s₁ B hml hv
  obtain ⟨rfl, hsz, hP, hK, hD0⟩ := hv
  have hx := B.exec
  have hb := B.bytes
  have hr := B.returns
  have ht : ∀ w ∈ zq_T, w.before ([.ref a_q0, .int p1] : List Value).toArray s = true := fun w hw => atoms_spec (ws := .code yJ7_fill_53178 cJ7_fill_53178 4 none :: zq_T) B.pre w (List.mem_cons_of_mem _ hw)
  have hown : s.vm.findClass RJ7 = some m.cls := findClass_of_methodNamed B.named
  have hlocks := B.notSynchronized
  subst hsz
  have hD := hD0.self (sz := s.heap.size)
  generalize hAe : va_A [(a_q0, .inl (dA 0, qn0, .inl b_q0))] s.heap.size = A at hD ⊢
  have hA : ∀ q : Nat, s.heap.size ≤ q → A q := fun q h => by rw [← hAe]; exact Or.inr h
  clear hAe hD0
  have hS : va_S A s.heap s.heap [] := va_S.rf
  have hl := lv_entry ([.ref a_q0, .int p1]) (n := 4) (Nat.le_of_ble_eq_true rfl)
  rw [lg_entry_eq]
  generalize (lg_sl ([.ref a_q0, .int p1]) ++ List.replicate (4 - (lg_sl ([.ref a_q0, .int p1])).length) Slot.unset).toArray = ls at hl ⊢
  have hl : lv_has ls 4 [(0, .ref a_q0), (1, .int p1)] := hl
  refine lv_iconst (v := (0 : Int32)) (pc := 0) hx hb dJ7_fill_53178_0 (by decide) ?_
  refine lv_istore_n (lv' := [(2, .int (0 : Int32)), (0, .ref a_q0), (1, .int p1)]) (pc := 1) hx hb dJ7_fill_53178_1 rfl hl (by decide) rfl (fun ls hl => ?_)
  refine lv_aload_n (pc := 2) hx hb dJ7_fill_53178_2 rfl (lv_at hl 1 rfl) ?_
  refine va_alen (pc := 3) (v := (Int32.ofNat qn0)) hx hb hK hP 0 0 rfl rfl rfl dJ7_fill_53178_3 ?_
  obtain ⟨v1, hv1, hf⟩ := zc_1 hf
  refine zw_top (hv1) ?_
  refine lv_istore_n (lv' := [(3, .int v1), (2, .int (0 : Int32)), (0, .ref a_q0), (1, .int p1)]) (pc := 4) hx hb dJ7_fill_53178_4 rfl hl (by decide) rfl (fun ls hl => ?_)
  obtain ⟨g8, v6, a7, hj, hf⟩ := zc_3 hf
  refine zj_join (pcJ := 20) (stk := []) (X := fun H locs ls => lv_has ls 4 [] ∧ va_P (dC, dI) zz_cls [(a_q0, .inl (dA 0, qn0, .inl a7))] H ∧ va_D A [(a_q0, .inl (dA 0, qn0, .inl a7))] ∧ va_S A s.heap H locs) (fun H locs ls hX => ?_) (fun E20 => ?_)
  · obtain ⟨hl, hP, hD, hS⟩ := hX
    clear hj
    obtain rfl := Option.some.inj hf
    exact W.vret (pc := 20) hx hb hr (fun t ht hW => ⟨⟨(), rfl, trivial, zz_Bi (by rw [ht]; exact hP) (va_K.moved hW.alike hK) (hD)⟩, hS.F ht⟩) hS.2.2 dJ7_fill_53178_20
  clear hf
  refine zw_loop (pcH := 5) (X := fun v H locs ls => lv_has ls 4 [(0, .ref a_q0), (1, .int p1), (2, .int v.1), (3, .int v1)] ∧ va_P (dC, dI) zz_cls [(a_q0, .inl (dA 0, qn0, .inl v.2))] H ∧ va_D A [(a_q0, .inl (dA 0, qn0, .inl v.2))] ∧ va_S A s.heap H locs) hj (fun v w hf ih ex H locs ls hX => ?_) _ _ _ ⟨lv_sub hl [2, 3, 1, 0] rfl, hP, hD, hS⟩
  clear hj
  obtain ⟨v2, a3⟩ := v
  obtain ⟨hl, hP, hD, hS⟩ := hX
  have hl : lv_has ls 4 [(0, .ref a_q0), (1, .int p1), (2, .int v2), (3, .int v1)] := hl
  have hP : va_P (dC, dI) zz_cls [(a_q0, .inl (dA 0, qn0, .inl a3))] H := hP
  have hD : va_D A [(a_q0, .inl (dA 0, qn0, .inl a3))] := hD
  replace hf : zb_J7_fill_53178_5 v1 qn0 p1 v2 a3 = some w := hf
  unfold zb_J7_fill_53178_5 at hf
  refine lv_iload_n (pc := 5) hx hb dJ7_fill_53178_5 rfl (lv_at hl 2 rfl) ?_
  refine lv_iload_n (pc := 6) hx hb dJ7_fill_53178_6 rfl (lv_at hl 3 rfl) ?_
  refine lv_icmp_ge (tgt := 20) (pc := 7) hx hb dJ7_fill_53178_7 rfl (fun hc => ?_) (fun hc => ?_)
  · have hf := za_t hf hc
    obtain rfl := Option.some.inj hf
    obtain ⟨rfl, rfl, rfl⟩ := zp_3 (ex (show ¬ (1 : Nat) = 0 by decide))
    exact E20 _ _ _ ⟨lv_sub hl [] rfl, hP, hD, hS⟩
  · have hf := za_f hf hc
    refine lv_aload_n (pc := 10) hx hb dJ7_fill_53178_10 rfl (lv_at hl 0 rfl) ?_
    refine lv_iload_n (pc := 11) hx hb dJ7_fill_53178_11 rfl (lv_at hl 2 rfl) ?_
    refine lv_iload_n (pc := 12) hx hb dJ7_fill_53178_12 rfl (lv_at hl 1 rfl) ?_
    obtain ⟨a4, ha4, hf⟩ := zc_1 hf
    refine zw_iast (pc := 13) hx hb hK hP hD hS 0 0 rfl rfl ha4 dJ7_fill_53178_13 (fun H locs hP hD hS => ?_)
    have hP : va_P (dC, dI) zz_cls [(a_q0, .inl (dA 0, qn0, .inl a4))] H := hP
    have hD : va_D A [(a_q0, .inl (dA 0, qn0, .inl a4))] := hD
    obtain ⟨v5, hv5, hf⟩ := zc_1 hf
    refine lv_iinc (v := v5) (lv' := [(2, .int v5), (0, .ref a_q0), (1, .int p1), (3, .int v1)]) (k := 2) (pc := 14) hx hb dJ7_fill_53178_14 hl rfl (Option.some.inj hv5) (by decide) rfl (fun ls hl => ?_)
    refine lv_goto (tgt := 5) (pc := 17) hx hb dJ7_fill_53178_17 rfl ?_
    obtain rfl := Option.some.inj hf
    exact ih rfl _ _ _ ⟨lv_sub hl [1, 2, 0, 3] rfl, hP, hD, hS⟩

def zb_J7_fill_d0a16_6 (v1 : Int32) (qn0 : Nat) (p1 : Int64) (v2 : Int32) (a3 : (Nat → Int64)) : Option (Nat × Int32 × (Nat → Int64)) :=
  if v1 ≤ v2 then
    some (1, v2, a3)
  else
    zd_1 (za_st a3 qn0 v2 p1) (fun a4 =>
    zd_1 (some (v2 + (1 : Int32))) (fun v5 =>
    some (0, v5, a4)))
def zf_J7_fill_d0a16 (n : Nat) (qn0 : Nat) (b_q0 : (Nat → Int64)) (p1 : Int64) : Option ((Nat → Int64)) :=
  zd_1 (some ((Int32.ofNat qn0))) (fun v1 =>
  zd_3 (za_it (fun v => zb_J7_fill_d0a16_6 v1 qn0 p1 v.1 v.2) n ((0 : Int32), b_q0)) (fun g8 v6 a7 =>
  some a7))
theorem zk_J7_fill_d0a16 : yJ7_fill_d0a16.cls = RJ7 ∧ yJ7_fill_d0a16.cls ≠ "java/lang/invoke/MethodHandle" ∧ yJ7_fill_d0a16.cls ≠ "java/lang/invoke/VarHandle" ∧ (parseMethodDescriptor yJ7_fill_d0a16.desc).map (fun d => d.parameters.length) = some 2 := by decide +kernel
set_option maxHeartbeats 4000000 in
set_option maxRecDepth 100000 in
theorem zt_J7_fill_d0a16 (l : Launch) (dC : Nat → ClassId) (dI : Nat → Nat → Nat) (dA : Nat → ClassId) (adK adV : Nat → Nat) (sz : Nat) (a_q0 : Nat) (qn0 : Nat) (n : Nat) (b_q0 : (Nat → Int64)) (p1 : Int64) (o1 : (Nat → Int64)) (hf : zf_J7_fill_d0a16 n qn0 b_q0 p1 = some o1) : Met l yJ7_fill_d0a16 (.code yJ7_fill_d0a16 cJ7_fill_d0a16 5 none :: zq_T) ({ frames := 0, cells := 0, slots := 0, locals := 0 }) (va_Pc [.ref a_q0, .long p1] (zz_M dC dI dA [(a_q0, .inl (dA 1, qn0, .inr (.inl b_q0)))] sz)) (va_Qv (fun _ : Unit => True) (fun _ t => zz_B dC dI dA (va_A [(a_q0, .inl (dA 1, qn0, .inr (.inl b_q0)))] sz) [(a_q0, .inl (dA 1, qn0, .inr (.inl o1)))] t) (va_A [(a_q0, .inl (dA 1, qn0, .inr (.inl b_q0)))] sz)) 0 0 (va_A [(a_q0, .inl (dA 1, qn0, .inr (.inl b_q0)))] sz) := by
  unfold zf_J7_fill_d0a16 at hf
  refine Met.ofW (cc := cJ7_fill_d0a16) (maxL := 5) (ret := none) (by decide) rfl ?_
  intro p e s m args below meth c s₁ B hml hv
  obtain ⟨rfl, hsz, hP, hK, hD0⟩ := hv
  have hx := B.exec
  have hb := B.bytes
  have hr := B.returns
  have ht : ∀ w ∈ zq_T, w.before ([.ref a_q0, .long p1] : List Value).toArray s = true := fun w hw => atoms_spec (ws := .code yJ7_fill_d0a16 cJ7_fill_d0a16 5 none :: zq_T) B.pre w (List.mem_cons_of_mem _ hw)
  have hown : s.vm.findClass RJ7 = some m.cls := findClass_of_methodNamed B.named
  have hlocks := B.notSynchronized
  subst hsz
  have hD := hD0.self (sz := s.heap.size)
  generalize hAe : va_A [(a_q0, .inl (dA 1, qn0, .inr (.inl b_q0)))] s.heap.size = A at hD ⊢
  have hA : ∀ q : Nat, s.heap.size ≤ q → A q := fun q h => by rw [← hAe]; exact Or.inr h
  clear hAe hD0
  have hS : va_S A s.heap s.heap [] := va_S.rf
  have hl := lv_entry ([.ref a_q0, .long p1]) (n := 5) (Nat.le_of_ble_eq_true rfl)
  rw [lg_entry_eq]
  generalize (lg_sl ([.ref a_q0, .long p1]) ++ List.replicate (5 - (lg_sl ([.ref a_q0, .long p1])).length) Slot.unset).toArray = ls at hl ⊢
  have hl : lv_has ls 5 [(0, .ref a_q0), (1, .long p1)] := hl
  refine lv_iconst (v := (0 : Int32)) (pc := 0) hx hb dJ7_fill_d0a16_0 (by decide) ?_
  refine lv_istore_n (lv' := [(3, .int (0 : Int32)), (0, .ref a_q0), (1, .long p1)]) (pc := 1) hx hb dJ7_fill_d0a16_1 rfl hl (by decide) rfl (fun ls hl => ?_)
  refine lv_aload_n (pc := 2) hx hb dJ7_fill_d0a16_2 rfl (lv_at hl 1 rfl) ?_
  refine va_alen (pc := 3) (v := (Int32.ofNat qn0)) hx hb hK hP 0 1 rfl rfl rfl dJ7_fill_d0a16_3 ?_
  obtain ⟨v1, hv1, hf⟩ := zc_1 hf
  refine zw_top (hv1) ?_
  refine lv_istore (lv' := [(4, .int v1), (3, .int (0 : Int32)), (0, .ref a_q0), (1, .long p1)]) (pc := 4) hx hb dJ7_fill_d0a16_4 hl (by decide) rfl (fun ls hl => ?_)
  obtain ⟨g8, v6, a7, hj, hf⟩ := zc_3 hf
  refine zj_join (pcJ := 22) (stk := []) (X := fun H locs ls => lv_has ls 5 [] ∧ va_P (dC, dI) zz_cls [(a_q0, .inl (dA 1, qn0, .inr (.inl a7)))] H ∧ va_D A [(a_q0, .inl (dA 1, qn0, .inr (.inl a7)))] ∧ va_S A s.heap H locs) (fun H locs ls hX => ?_) (fun E22 => ?_)
  · obtain ⟨hl, hP, hD, hS⟩ := hX
    clear hj
    obtain rfl := Option.some.inj hf
    exact W.vret (pc := 22) hx hb hr (fun t ht hW => ⟨⟨(), rfl, trivial, zz_Bi (by rw [ht]; exact hP) (va_K.moved hW.alike hK) (hD)⟩, hS.F ht⟩) hS.2.2 dJ7_fill_d0a16_22
  clear hf
  refine zw_loop (pcH := 6) (X := fun v H locs ls => lv_has ls 5 [(0, .ref a_q0), (1, .long p1), (3, .int v.1), (4, .int v1)] ∧ va_P (dC, dI) zz_cls [(a_q0, .inl (dA 1, qn0, .inr (.inl v.2)))] H ∧ va_D A [(a_q0, .inl (dA 1, qn0, .inr (.inl v.2)))] ∧ va_S A s.heap H locs) hj (fun v w hf ih ex H locs ls hX => ?_) _ _ _ ⟨lv_sub hl [2, 3, 1, 0] rfl, hP, hD, hS⟩
  clear hj
  obtain ⟨v2, a3⟩ := v
  obtain ⟨hl, hP, hD, hS⟩ := hX
  have hl : lv_has ls 5 [(0, .ref a_q0), (1, .long p1), (3, .int v2), (4, .int v1)] := hl
  have hP : va_P (dC, dI) zz_cls [(a_q0, .inl (dA 1, qn0, .inr (.inl a3)))] H := hP
  have hD : va_D A [(a_q0, .inl (dA 1, qn0, .inr (.inl a3)))] := hD
  replace hf : zb_J7_fill_d0a16_6 v1 qn0 p1 v2 a3 = some w := hf
  unfold zb_J7_fill_d0a16_6 at hf
  refine lv_iload_n (pc := 6) hx hb dJ7_fill_d0a16_6 rfl (lv_at hl 2 rfl) ?_
  refine lv_iload (pc := 7) hx hb dJ7_fill_d0a16_7 (lv_at hl 3 rfl) ?_
  refine lv_icmp_ge (tgt := 22) (pc := 9) hx hb dJ7_fill_d0a16_9 rfl (fun hc => ?_) (fun hc => ?_)
  · have hf := za_t hf hc
    obtain rfl := Option.some.inj hf
    obtain ⟨rfl, rfl, rfl⟩ := zp_3 (ex (show ¬ (1 : Nat) = 0 by decide))
    exact E22 _ _ _ ⟨lv_sub hl [] rfl, hP, hD, hS⟩
  · have hf := za_f hf hc
    refine lv_aload_n (pc := 12) hx hb dJ7_fill_d0a16_12 rfl (lv_at hl 0 rfl) ?_
    refine lv_iload_n (pc := 13) hx hb dJ7_fill_d0a16_13 rfl (lv_at hl 2 rfl) ?_
    refine lv_lload_n (pc := 14) hx hb dJ7_fill_d0a16_14 rfl (lv_at hl 1 rfl) ?_
    obtain ⟨a4, ha4, hf⟩ := zc_1 hf
    refine zw_last (pc := 15) hx hb hK hP hD hS 0 1 rfl rfl ha4 dJ7_fill_d0a16_15 (fun H locs hP hD hS => ?_)
    have hP : va_P (dC, dI) zz_cls [(a_q0, .inl (dA 1, qn0, .inr (.inl a4)))] H := hP
    have hD : va_D A [(a_q0, .inl (dA 1, qn0, .inr (.inl a4)))] := hD
    obtain ⟨v5, hv5, hf⟩ := zc_1 hf
    refine lv_iinc (v := v5) (lv' := [(3, .int v5), (0, .ref a_q0), (1, .long p1), (4, .int v1)]) (k := 2) (pc := 16) hx hb dJ7_fill_d0a16_16 hl rfl (Option.some.inj hv5) (by decide) rfl (fun ls hl => ?_)
    refine lv_goto (tgt := 6) (pc := 19) hx hb dJ7_fill_d0a16_19 rfl ?_
    obtain rfl := Option.some.inj hf
    exact ih rfl _ _ _ ⟨lv_sub hl [1, 2, 0, 3] rfl, hP, hD, hS⟩

def zf_X0_clear (n : Nat) (f_o_top : Int32) (f_o_things : Int32) (f_o_startRung : Int32) (f_o_startThings : Int32) (f_o_startStrength : Int32) (f_o_startWind : Int32) (f_o_slips : Int32) (f_o_lines : Int32) (f_o_coded : Int32) (f_o_tiresFrom : Int32) (f_o_tiresTo : Int32) (f_o_mayFrom : Int32) (f_o_mayTo : Int32) (b_o_bars : (Nat → Int32)) (b_o_gives : (Nat → Int32)) (b_o_rough : (Nat → Int32)) : Option (Int32 × Int32 × Int32 × Int32 × Int32 × Int32 × Int32 × Int32 × Int32 × Int32 × Int32 × Int32 × Int32 × (Nat → Int32) × (Nat → Int32) × (Nat → Int32)) :=
  zd_1 (zf_J7_fill_53178 n 9 b_o_bars (0 : Int32)) (fun a1 =>
  zd_1 (zf_J7_fill_53178 n 9 b_o_gives (0 : Int32)) (fun a2 =>
  zd_1 (zf_J7_fill_53178 n 9 b_o_rough (0 : Int32)) (fun a3 =>
  some ((1 : Int32), (0 : Int32), (0 : Int32), (0 : Int32), (4 : Int32), (0 : Int32), (0 : Int32), (0 : Int32), (0 : Int32), (0 : Int32), (0 : Int32), (0 : Int32), (0 : Int32), a1, a2, a3))))
theorem zk_X0_clear : yX0_clear.cls = RX0 ∧ yX0_clear.cls ≠ "java/lang/invoke/MethodHandle" ∧ yX0_clear.cls ≠ "java/lang/invoke/VarHandle" ∧ (parseMethodDescriptor yX0_clear.desc).map (fun d => d.parameters.length) = some 0 := by decide +kernel
set_option maxHeartbeats 4000000 in
set_option maxRecDepth 100000 in
theorem zt_X0_clear (l : Launch) (dC : Nat → ClassId) (dI : Nat → Nat → Nat) (dA : Nat → ClassId) (adK adV : Nat → Nat) (sz : Nat) (a_o : Nat) (a_o_bars : Nat) (a_o_gives : Nat) (a_o_rough : Nat) (a_o_code : Nat) (n : Nat) (f_o_top : Int32) (f_o_things : Int32) (f_o_startRung : Int32) (f_o_startThings : Int32) (f_o_startStrength : Int32) (f_o_startWind : Int32) (f_o_slips : Int32) (f_o_lines : Int32) (f_o_coded : Int32) (f_o_tiresFrom : Int32) (f_o_tiresTo : Int32) (f_o_mayFrom : Int32) (f_o_mayTo : Int32) (b_o_bars : (Nat → Int32)) (b_o_gives : (Nat → Int32)) (b_o_rough : (Nat → Int32)) (o1 : Int32) (o2 : Int32) (o3 : Int32) (o4 : Int32) (o5 : Int32) (o6 : Int32) (o7 : Int32) (o8 : Int32) (o9 : Int32) (o10 : Int32) (o11 : Int32) (o12 : Int32) (o13 : Int32) (o14 : (Nat → Int32)) (o15 : (Nat → Int32)) (o16 : (Nat → Int32)) (hf : zf_X0_clear n f_o_top f_o_things f_o_startRung f_o_startThings f_o_startStrength f_o_startWind f_o_slips f_o_lines f_o_coded f_o_tiresFrom f_o_tiresTo f_o_mayFrom f_o_mayTo b_o_bars b_o_gives b_o_rough = some (o1, o2, o3, o4, o5, o6, o7, o8, o9, o10, o11, o12, o13, o14, o15, o16)) : Met l yX0_clear (.code yX0_clear cX0_clear 1 none :: zq_T) ({ frames := 1, cells := 0, slots := 0, locals := 23 }) (va_Pc [.ref a_o] (zx_M dC dI dA adK adV [zo_X0 a_o f_o_top f_o_things a_o_bars a_o_gives a_o_rough f_o_startRung f_o_startThings f_o_startStrength f_o_startWind f_o_slips f_o_lines a_o_code f_o_coded f_o_tiresFrom f_o_tiresTo f_o_mayFrom f_o_mayTo, (a_o_bars, .inl (dA 0, 9, .inl b_o_bars)), (a_o_gives, .inl (dA 0, 9, .inl b_o_gives)), (a_o_rough, .inl (dA 0, 9, .inl b_o_rough))] sz)) (va_Qv (fun _ : Unit => True) (fun _ t => zz_B dC dI dA (va_A [zo_X0 a_o f_o_top f_o_things a_o_bars a_o_gives a_o_rough f_o_startRung f_o_startThings f_o_startStrength f_o_startWind f_o_slips f_o_lines a_o_code f_o_coded f_o_tiresFrom f_o_tiresTo f_o_mayFrom f_o_mayTo, (a_o_bars, .inl (dA 0, 9, .inl b_o_bars)), (a_o_gives, .inl (dA 0, 9, .inl b_o_gives)), (a_o_rough, .inl (dA 0, 9, .inl b_o_rough))] sz) [zo_X0 a_o o1 o2 a_o_bars a_o_gives a_o_rough o3 o4 o5 o6 o7 o8 a_o_code o9 o10 o11 o12 o13, (a_o_bars, .inl (dA 0, 9, .inl o14)), (a_o_gives, .inl (dA 0, 9, .inl o15)), (a_o_rough, .inl (dA 0, 9, .inl o16))] t) (va_A [zo_X0 a_o f_o_top f_o_things a_o_bars a_o_gives a_o_rough f_o_startRung f_o_startThings f_o_startStrength f_o_startWind f_o_slips f_o_lines a_o_code f_o_coded f_o_tiresFrom f_o_tiresTo f_o_mayFrom f_o_mayTo, (a_o_bars, .inl (dA 0, 9, .inl b_o_bars)), (a_o_gives, .inl (dA 0, 9, .inl b_o_gives)), (a_o_rough, .inl (dA 0, 9, .inl b_o_rough))] sz)) 0 0 (va_A [zo_X0 a_o f_o_top f_o_things a_o_bars a_o_gives a_o_rough f_o_startRung f_o_startThings f_o_startStrength f_o_startWind f_o_slips f_o_lines a_o_code f_o_coded f_o_tiresFrom f_o_tiresTo f_o_mayFrom f_o_mayTo, (a_o_bars, .inl (dA 0, 9, .inl b_o_bars)), (a_o_gives, .inl (dA 0, 9, .inl b_o_gives)), (a_o_rough, .inl (dA 0, 9, .inl b_o_rough))] sz) := by
  unfold zf_X0_clear at hf
  refine Met.ofW (cc := cX0_clear) (maxL := 1) (ret := none) (by decide) rfl ?_
  intro p e s m args below meth c s₁ B hml hv
  obtain ⟨rfl, ⟨hsz, hP, hK, hD0⟩, hZ⟩ := hv
  have hx := B.exec
  have hb := B.bytes
  have hr := B.returns
  have ht : ∀ w ∈ zq_T, w.before ([.ref a_o] : List Value).toArray s = true := fun w hw => atoms_spec (ws := .code yX0_clear cX0_clear 1 none :: zq_T) B.pre w (List.mem_cons_of_mem _ hw)
  have hown : s.vm.findClass RX0 = some m.cls := findClass_of_methodNamed B.named
  have hlocks := B.notSynchronized
  subst hsz
  have hD := hD0.self (sz := s.heap.size)
  generalize hAe : va_A [zo_X0 a_o f_o_top f_o_things a_o_bars a_o_gives a_o_rough f_o_startRung f_o_startThings f_o_startStrength f_o_startWind f_o_slips f_o_lines a_o_code f_o_coded f_o_tiresFrom f_o_tiresTo f_o_mayFrom f_o_mayTo, (a_o_bars, .inl (dA 0, 9, .inl b_o_bars)), (a_o_gives, .inl (dA 0, 9, .inl b_o_gives)), (a_o_rough, .inl (dA 0, 9, .inl b_o_rough))] s.heap.size = A at hD hZ ⊢
  have hA : ∀ q : Nat, s.heap.size ≤ q → A q := fun q h => by rw [← hAe]; exact Or.inr h
  clear hAe hD0
  have hS : va_S A s.heap s.heap [] := va_S.rf
  have hl := lv_entry ([.ref a_o]) (n := 1) (Nat.le_of_ble_eq_true rfl)
  rw [lg_entry_eq]
  generalize (lg_sl ([.ref a_o]) ++ List.replicate (1 - (lg_sl ([.ref a_o])).length) Slot.unset).toArray = ls at hl ⊢
  have hl : lv_has ls 1 [(0, .ref a_o)] := hl
  refine lv_aload_n (pc := 0) hx hb dX0_clear_0 rfl (lv_at hl 0 rfl) ?_
  refine lv_iconst (v := (1 : Int32)) (pc := 1) hx hb dX0_clear_1 (by decide) ?_
  refine va_put (pc := 2) (D := (dC, dI)) (ci := 1) (v := .int (1 : Int32)) (ty := .int) (C := RX0) (T := TX0) (N := 17) hx hb ht zq_layX0 tyX0 tyX0_ok nmX0 hown hK hP hD hS 0 rfl rfl 0 (by decide) (ht _ zq_9) (fun _ h9 => h9) rfl (by decide +kernel) rfl rfl (Nat.le_of_ble_eq_true rfl) dX0_clear_2 (fun H locs hP hD hS => ?_)
  have hP : va_P (dC, dI) zz_cls [zo_X0 a_o (1 : Int32) f_o_things a_o_bars a_o_gives a_o_rough f_o_startRung f_o_startThings f_o_startStrength f_o_startWind f_o_slips f_o_lines a_o_code f_o_coded f_o_tiresFrom f_o_tiresTo f_o_mayFrom f_o_mayTo, (a_o_bars, .inl (dA 0, 9, .inl b_o_bars)), (a_o_gives, .inl (dA 0, 9, .inl b_o_gives)), (a_o_rough, .inl (dA 0, 9, .inl b_o_rough))] H := hP
  have hD : va_D A [zo_X0 a_o (1 : Int32) f_o_things a_o_bars a_o_gives a_o_rough f_o_startRung f_o_startThings f_o_startStrength f_o_startWind f_o_slips f_o_lines a_o_code f_o_coded f_o_tiresFrom f_o_tiresTo f_o_mayFrom f_o_mayTo, (a_o_bars, .inl (dA 0, 9, .inl b_o_bars)), (a_o_gives, .inl (dA 0, 9, .inl b_o_gives)), (a_o_rough, .inl (dA 0, 9, .inl b_o_rough))] := hD
  refine lv_aload_n (pc := 5) hx hb dX0_clear_5 rfl (lv_at hl 0 rfl) ?_
  refine lv_iconst (v := (0 : Int32)) (pc := 6) hx hb dX0_clear_6 (by decide) ?_
  refine va_put (pc := 7) (D := (dC, dI)) (ci := 1) (v := .int (0 : Int32)) (ty := .int) (C := RX0) (T := TX0) (N := 17) hx hb ht zq_layX0 tyX0 tyX0_ok nmX0 hown hK hP hD hS 0 rfl rfl 1 (by decide) (ht _ zq_12) (fun _ h9 => h9) rfl (by decide +kernel) rfl rfl (Nat.le_of_ble_eq_true rfl) dX0_clear_7 (fun H locs hP hD hS => ?_)
  have hP : va_P (dC, dI) zz_cls [zo_X0 a_o (1 : Int32) (0 : Int32) a_o_bars a_o_gives a_o_rough f_o_startRung f_o_startThings f_o_startStrength f_o_startWind f_o_slips f_o_lines a_o_code f_o_coded f_o_tiresFrom f_o_tiresTo f_o_mayFrom f_o_mayTo, (a_o_bars, .inl (dA 0, 9, .inl b_o_bars)), (a_o_gives, .inl (dA 0, 9, .inl b_o_gives)), (a_o_rough, .inl (dA 0, 9, .inl b_o_rough))] H := hP
  have hD : va_D A [zo_X0 a_o (1 : Int32) (0 : Int32) a_o_bars a_o_gives a_o_rough f_o_startRung f_o_startThings f_o_startStrength f_o_startWind f_o_slips f_o_lines a_o_code f_o_coded f_o_tiresFrom f_o_tiresTo f_o_mayFrom f_o_mayTo, (a_o_bars, .inl (dA 0, 9, .inl b_o_bars)), (a_o_gives, .inl (dA 0, 9, .inl b_o_gives)), (a_o_rough, .inl (dA 0, 9, .inl b_o_rough))] := hD
  refine lv_aload_n (pc := 10) hx hb dX0_clear_10 rfl (lv_at hl 0 rfl) ?_
  refine va_get (pc := 11) (D := (dC, dI)) (ci := 1) (v := .ref a_o_bars) (C := RX0) (T := TX0) (N := 17) hx hb ht zq_layX0 hown hK hP 0 rfl rfl 2 (by decide) (ht _ zq_5) (fun _ h9 => h9) rfl dX0_clear_11 ?_
  refine lv_iconst (v := (0 : Int32)) (pc := 14) hx hb dX0_clear_14 (by decide) ?_
  obtain ⟨a1, ha1, hf⟩ := zc_1 hf
  refine zy_Tv (pc := 15) (wc := [(a_o_bars, .inl (dA 0, 9, .inl b_o_bars))]) (wr := [zo_X0 a_o (1 : Int32) (0 : Int32) a_o_bars a_o_gives a_o_rough f_o_startRung f_o_startThings f_o_startStrength f_o_startWind f_o_slips f_o_lines a_o_code f_o_coded f_o_tiresFrom f_o_tiresTo f_o_mayFrom f_o_mayTo, (a_o_gives, .inl (dA 0, 9, .inl b_o_gives)), (a_o_rough, .inl (dA 0, 9, .inl b_o_rough))]) (w1 := [(a_o_bars, .inl (dA 0, 9, .inl a1))]) (As := [.ref a_o_bars, .int (0 : Int32)]) (rest := []) ⟨hx, hb, hml, hown, ht⟩ (zt_J7_fill_53178 l dC dI dA adK adV _ a_o_bars 9 n b_o_bars (0 : Int32) a1 ha1) (va_cwS 2 ht (zq_X zq_23 zq_24 zq_25 zq_26) rfl rfl rfl zk_J7_fill_53178.2 ⟨Nat.le_of_ble_eq_true rfl, Nat.le_of_ble_eq_true rfl⟩) hK hP hD hS hA [1] [0, 2, 3] (by decide) (by decide) (by decide) rfl rfl rfl hl.1 (Nat.le_of_ble_eq_true rfl) dX0_clear_15 ⟨Nat.zero_le _, Nat.zero_le _⟩ rfl (fun H locs hP hD hS => ?_)
  have hP : va_P (dC, dI) zz_cls [zo_X0 a_o (1 : Int32) (0 : Int32) a_o_bars a_o_gives a_o_rough f_o_startRung f_o_startThings f_o_startStrength f_o_startWind f_o_slips f_o_lines a_o_code f_o_coded f_o_tiresFrom f_o_tiresTo f_o_mayFrom f_o_mayTo, (a_o_gives, .inl (dA 0, 9, .inl b_o_gives)), (a_o_rough, .inl (dA 0, 9, .inl b_o_rough)), (a_o_bars, .inl (dA 0, 9, .inl a1))] H := hP
  have hD : va_D A [zo_X0 a_o (1 : Int32) (0 : Int32) a_o_bars a_o_gives a_o_rough f_o_startRung f_o_startThings f_o_startStrength f_o_startWind f_o_slips f_o_lines a_o_code f_o_coded f_o_tiresFrom f_o_tiresTo f_o_mayFrom f_o_mayTo, (a_o_gives, .inl (dA 0, 9, .inl b_o_gives)), (a_o_rough, .inl (dA 0, 9, .inl b_o_rough)), (a_o_bars, .inl (dA 0, 9, .inl a1))] := hD
  refine lv_aload_n (pc := 18) hx hb dX0_clear_18 rfl (lv_at hl 0 rfl) ?_
  refine va_get (pc := 19) (D := (dC, dI)) (ci := 1) (v := .ref a_o_gives) (C := RX0) (T := TX0) (N := 17) hx hb ht zq_layX0 hown hK hP 0 rfl rfl 3 (by decide) (ht _ zq_6) (fun _ h9 => h9) rfl dX0_clear_19 ?_
  refine lv_iconst (v := (0 : Int32)) (pc := 22) hx hb dX0_clear_22 (by decide) ?_
  obtain ⟨a2, ha2, hf⟩ := zc_1 hf
  refine zy_Tv (pc := 23) (wc := [(a_o_gives, .inl (dA 0, 9, .inl b_o_gives))]) (wr := [zo_X0 a_o (1 : Int32) (0 : Int32) a_o_bars a_o_gives a_o_rough f_o_startRung f_o_startThings f_o_startStrength f_o_startWind f_o_slips f_o_lines a_o_code f_o_coded f_o_tiresFrom f_o_tiresTo f_o_mayFrom f_o_mayTo, (a_o_rough, .inl (dA 0, 9, .inl b_o_rough)), (a_o_bars, .inl (dA 0, 9, .inl a1))]) (w1 := [(a_o_gives, .inl (dA 0, 9, .inl a2))]) (As := [.ref a_o_gives, .int (0 : Int32)]) (rest := []) ⟨hx, hb, hml, hown, ht⟩ (zt_J7_fill_53178 l dC dI dA adK adV _ a_o_gives 9 n b_o_gives (0 : Int32) a2 ha2) (va_cwS 2 ht (zq_X zq_23 zq_24 zq_25 zq_26) rfl rfl rfl zk_J7_fill_53178.2 ⟨Nat.le_of_ble_eq_true rfl, Nat.le_of_ble_eq_true rfl⟩) hK hP hD hS hA [1] [0, 2, 3] (by decide) (by decide) (by decide) rfl rfl rfl hl.1 (Nat.le_of_ble_eq_true rfl) dX0_clear_23 ⟨Nat.zero_le _, Nat.zero_le _⟩ rfl (fun H locs hP hD hS => ?_)
  have hP : va_P (dC, dI) zz_cls [zo_X0 a_o (1 : Int32) (0 : Int32) a_o_bars a_o_gives a_o_rough f_o_startRung f_o_startThings f_o_startStrength f_o_startWind f_o_slips f_o_lines a_o_code f_o_coded f_o_tiresFrom f_o_tiresTo f_o_mayFrom f_o_mayTo, (a_o_rough, .inl (dA 0, 9, .inl b_o_rough)), (a_o_bars, .inl (dA 0, 9, .inl a1)), (a_o_gives, .inl (dA 0, 9, .inl a2))] H := hP
  have hD : va_D A [zo_X0 a_o (1 : Int32) (0 : Int32) a_o_bars a_o_gives a_o_rough f_o_startRung f_o_startThings f_o_startStrength f_o_startWind f_o_slips f_o_lines a_o_code f_o_coded f_o_tiresFrom f_o_tiresTo f_o_mayFrom f_o_mayTo, (a_o_rough, .inl (dA 0, 9, .inl b_o_rough)), (a_o_bars, .inl (dA 0, 9, .inl a1)), (a_o_gives, .inl (dA 0, 9, .inl a2))] := hD
  refine lv_aload_n (pc := 26) hx hb dX0_clear_26 rfl (lv_at hl 0 rfl) ?_
  refine va_get (pc := 27) (D := (dC, dI)) (ci := 1) (v := .ref a_o_rough) (C := RX0) (T := TX0) (N := 17) hx hb ht zq_layX0 hown hK hP 0 rfl rfl 4 (by decide) (ht _ zq_7) (fun _ h9 => h9) rfl dX0_clear_27 ?_
  refine lv_iconst (v := (0 : Int32)) (pc := 30) hx hb dX0_clear_30 (by decide) ?_
  obtain ⟨a3, ha3, hf⟩ := zc_1 hf
  refine zy_Tv (pc := 31) (wc := [(a_o_rough, .inl (dA 0, 9, .inl b_o_rough))]) (wr := [zo_X0 a_o (1 : Int32) (0 : Int32) a_o_bars a_o_gives a_o_rough f_o_startRung f_o_startThings f_o_startStrength f_o_startWind f_o_slips f_o_lines a_o_code f_o_coded f_o_tiresFrom f_o_tiresTo f_o_mayFrom f_o_mayTo, (a_o_bars, .inl (dA 0, 9, .inl a1)), (a_o_gives, .inl (dA 0, 9, .inl a2))]) (w1 := [(a_o_rough, .inl (dA 0, 9, .inl a3))]) (As := [.ref a_o_rough, .int (0 : Int32)]) (rest := []) ⟨hx, hb, hml, hown, ht⟩ (zt_J7_fill_53178 l dC dI dA adK adV _ a_o_rough 9 n b_o_rough (0 : Int32) a3 ha3) (va_cwS 2 ht (zq_X zq_23 zq_24 zq_25 zq_26) rfl rfl rfl zk_J7_fill_53178.2 ⟨Nat.le_of_ble_eq_true rfl, Nat.le_of_ble_eq_true rfl⟩) hK hP hD hS hA [1] [0, 2, 3] (by decide) (by decide) (by decide) rfl rfl rfl hl.1 (Nat.le_of_ble_eq_true rfl) dX0_clear_31 ⟨Nat.zero_le _, Nat.zero_le _⟩ rfl (fun H locs hP hD hS => ?_)
  have hP : va_P (dC, dI) zz_cls [zo_X0 a_o (1 : Int32) (0 : Int32) a_o_bars a_o_gives a_o_rough f_o_startRung f_o_startThings f_o_startStrength f_o_startWind f_o_slips f_o_lines a_o_code f_o_coded f_o_tiresFrom f_o_tiresTo f_o_mayFrom f_o_mayTo, (a_o_bars, .inl (dA 0, 9, .inl a1)), (a_o_gives, .inl (dA 0, 9, .inl a2)), (a_o_rough, .inl (dA 0, 9, .inl a3))] H := hP
  have hD : va_D A [zo_X0 a_o (1 : Int32) (0 : Int32) a_o_bars a_o_gives a_o_rough f_o_startRung f_o_startThings f_o_startStrength f_o_startWind f_o_slips f_o_lines a_o_code f_o_coded f_o_tiresFrom f_o_tiresTo f_o_mayFrom f_o_mayTo, (a_o_bars, .inl (dA 0, 9, .inl a1)), (a_o_gives, .inl (dA 0, 9, .inl a2)), (a_o_rough, .inl (dA 0, 9, .inl a3))] := hD
  refine lv_aload_n (pc := 34) hx hb dX0_clear_34 rfl (lv_at hl 0 rfl) ?_
  refine lv_iconst (v := (0 : Int32)) (pc := 35) hx hb dX0_clear_35 (by decide) ?_
  refine va_put (pc := 36) (D := (dC, dI)) (ci := 1) (v := .int (0 : Int32)) (ty := .int) (C := RX0) (T := TX0) (N := 17) hx hb ht zq_layX0 tyX0 tyX0_ok nmX0 hown hK hP hD hS 0 rfl rfl 5 (by decide) (ht _ zq_13) (fun _ h9 => h9) rfl (by decide +kernel) rfl rfl (Nat.le_of_ble_eq_true rfl) dX0_clear_36 (fun H locs hP hD hS => ?_)
  have hP : va_P (dC, dI) zz_cls [zo_X0 a_o (1 : Int32) (0 : Int32) a_o_bars a_o_gives a_o_rough (0 : Int32) f_o_startThings f_o_startStrength f_o_startWind f_o_slips f_o_lines a_o_code f_o_coded f_o_tiresFrom f_o_tiresTo f_o_mayFrom f_o_mayTo, (a_o_bars, .inl (dA 0, 9, .inl a1)), (a_o_gives, .inl (dA 0, 9, .inl a2)), (a_o_rough, .inl (dA 0, 9, .inl a3))] H := hP
  have hD : va_D A [zo_X0 a_o (1 : Int32) (0 : Int32) a_o_bars a_o_gives a_o_rough (0 : Int32) f_o_startThings f_o_startStrength f_o_startWind f_o_slips f_o_lines a_o_code f_o_coded f_o_tiresFrom f_o_tiresTo f_o_mayFrom f_o_mayTo, (a_o_bars, .inl (dA 0, 9, .inl a1)), (a_o_gives, .inl (dA 0, 9, .inl a2)), (a_o_rough, .inl (dA 0, 9, .inl a3))] := hD
  refine lv_aload_n (pc := 39) hx hb dX0_clear_39 rfl (lv_at hl 0 rfl) ?_
  refine lv_iconst (v := (0 : Int32)) (pc := 40) hx hb dX0_clear_40 (by decide) ?_
  refine va_put (pc := 41) (D := (dC, dI)) (ci := 1) (v := .int (0 : Int32)) (ty := .int) (C := RX0) (T := TX0) (N := 17) hx hb ht zq_layX0 tyX0 tyX0_ok nmX0 hown hK hP hD hS 0 rfl rfl 6 (by decide) (ht _ zq_14) (fun _ h9 => h9) rfl (by decide +kernel) rfl rfl (Nat.le_of_ble_eq_true rfl) dX0_clear_41 (fun H locs hP hD hS => ?_)
  have hP : va_P (dC, dI) zz_cls [zo_X0 a_o (1 : Int32) (0 : Int32) a_o_bars a_o_gives a_o_rough (0 : Int32) (0 : Int32) f_o_startStrength f_o_startWind f_o_slips f_o_lines a_o_code f_o_coded f_o_tiresFrom f_o_tiresTo f_o_mayFrom f_o_mayTo, (a_o_bars, .inl (dA 0, 9, .inl a1)), (a_o_gives, .inl (dA 0, 9, .inl a2)), (a_o_rough, .inl (dA 0, 9, .inl a3))] H := hP
  have hD : va_D A [zo_X0 a_o (1 : Int32) (0 : Int32) a_o_bars a_o_gives a_o_rough (0 : Int32) (0 : Int32) f_o_startStrength f_o_startWind f_o_slips f_o_lines a_o_code f_o_coded f_o_tiresFrom f_o_tiresTo f_o_mayFrom f_o_mayTo, (a_o_bars, .inl (dA 0, 9, .inl a1)), (a_o_gives, .inl (dA 0, 9, .inl a2)), (a_o_rough, .inl (dA 0, 9, .inl a3))] := hD
  refine lv_aload_n (pc := 44) hx hb dX0_clear_44 rfl (lv_at hl 0 rfl) ?_
  refine lv_iconst (v := (4 : Int32)) (pc := 45) hx hb dX0_clear_45 (by decide) ?_
  refine va_put (pc := 46) (D := (dC, dI)) (ci := 1) (v := .int (4 : Int32)) (ty := .int) (C := RX0) (T := TX0) (N := 17) hx hb ht zq_layX0 tyX0 tyX0_ok nmX0 hown hK hP hD hS 0 rfl rfl 7 (by decide) (ht _ zq_10) (fun _ h9 => h9) rfl (by decide +kernel) rfl rfl (Nat.le_of_ble_eq_true rfl) dX0_clear_46 (fun H locs hP hD hS => ?_)
  have hP : va_P (dC, dI) zz_cls [zo_X0 a_o (1 : Int32) (0 : Int32) a_o_bars a_o_gives a_o_rough (0 : Int32) (0 : Int32) (4 : Int32) f_o_startWind f_o_slips f_o_lines a_o_code f_o_coded f_o_tiresFrom f_o_tiresTo f_o_mayFrom f_o_mayTo, (a_o_bars, .inl (dA 0, 9, .inl a1)), (a_o_gives, .inl (dA 0, 9, .inl a2)), (a_o_rough, .inl (dA 0, 9, .inl a3))] H := hP
  have hD : va_D A [zo_X0 a_o (1 : Int32) (0 : Int32) a_o_bars a_o_gives a_o_rough (0 : Int32) (0 : Int32) (4 : Int32) f_o_startWind f_o_slips f_o_lines a_o_code f_o_coded f_o_tiresFrom f_o_tiresTo f_o_mayFrom f_o_mayTo, (a_o_bars, .inl (dA 0, 9, .inl a1)), (a_o_gives, .inl (dA 0, 9, .inl a2)), (a_o_rough, .inl (dA 0, 9, .inl a3))] := hD
  refine lv_aload_n (pc := 49) hx hb dX0_clear_49 rfl (lv_at hl 0 rfl) ?_
  refine lv_iconst (v := (0 : Int32)) (pc := 50) hx hb dX0_clear_50 (by decide) ?_
  refine va_put (pc := 51) (D := (dC, dI)) (ci := 1) (v := .int (0 : Int32)) (ty := .int) (C := RX0) (T := TX0) (N := 17) hx hb ht zq_layX0 tyX0 tyX0_ok nmX0 hown hK hP hD hS 0 rfl rfl 8 (by decide) (ht _ zq_15) (fun _ h9 => h9) rfl (by decide +kernel) rfl rfl (Nat.le_of_ble_eq_true rfl) dX0_clear_51 (fun H locs hP hD hS => ?_)
  have hP : va_P (dC, dI) zz_cls [zo_X0 a_o (1 : Int32) (0 : Int32) a_o_bars a_o_gives a_o_rough (0 : Int32) (0 : Int32) (4 : Int32) (0 : Int32) f_o_slips f_o_lines a_o_code f_o_coded f_o_tiresFrom f_o_tiresTo f_o_mayFrom f_o_mayTo, (a_o_bars, .inl (dA 0, 9, .inl a1)), (a_o_gives, .inl (dA 0, 9, .inl a2)), (a_o_rough, .inl (dA 0, 9, .inl a3))] H := hP
  have hD : va_D A [zo_X0 a_o (1 : Int32) (0 : Int32) a_o_bars a_o_gives a_o_rough (0 : Int32) (0 : Int32) (4 : Int32) (0 : Int32) f_o_slips f_o_lines a_o_code f_o_coded f_o_tiresFrom f_o_tiresTo f_o_mayFrom f_o_mayTo, (a_o_bars, .inl (dA 0, 9, .inl a1)), (a_o_gives, .inl (dA 0, 9, .inl a2)), (a_o_rough, .inl (dA 0, 9, .inl a3))] := hD
  refine lv_aload_n (pc := 54) hx hb dX0_clear_54 rfl (lv_at hl 0 rfl) ?_
  refine lv_iconst (v := (0 : Int32)) (pc := 55) hx hb dX0_clear_55 (by decide) ?_
  refine va_put (pc := 56) (D := (dC, dI)) (ci := 1) (v := .int (0 : Int32)) (ty := .int) (C := RX0) (T := TX0) (N := 17) hx hb ht zq_layX0 tyX0 tyX0_ok nmX0 hown hK hP hD hS 0 rfl rfl 9 (by decide) (ht _ zq_16) (fun _ h9 => h9) rfl (by decide +kernel) rfl rfl (Nat.le_of_ble_eq_true rfl) dX0_clear_56 (fun H locs hP hD hS => ?_)
  have hP : va_P (dC, dI) zz_cls [zo_X0 a_o (1 : Int32) (0 : Int32) a_o_bars a_o_gives a_o_rough (0 : Int32) (0 : Int32) (4 : Int32) (0 : Int32) (0 : Int32) f_o_lines a_o_code f_o_coded f_o_tiresFrom f_o_tiresTo f_o_mayFrom f_o_mayTo, (a_o_bars, .inl (dA 0, 9, .inl a1)), (a_o_gives, .inl (dA 0, 9, .inl a2)), (a_o_rough, .inl (dA 0, 9, .inl a3))] H := hP
  have hD : va_D A [zo_X0 a_o (1 : Int32) (0 : Int32) a_o_bars a_o_gives a_o_rough (0 : Int32) (0 : Int32) (4 : Int32) (0 : Int32) (0 : Int32) f_o_lines a_o_code f_o_coded f_o_tiresFrom f_o_tiresTo f_o_mayFrom f_o_mayTo, (a_o_bars, .inl (dA 0, 9, .inl a1)), (a_o_gives, .inl (dA 0, 9, .inl a2)), (a_o_rough, .inl (dA 0, 9, .inl a3))] := hD
  refine lv_aload_n (pc := 59) hx hb dX0_clear_59 rfl (lv_at hl 0 rfl) ?_
  refine lv_iconst (v := (0 : Int32)) (pc := 60) hx hb dX0_clear_60 (by decide) ?_
  refine va_put (pc := 61) (D := (dC, dI)) (ci := 1) (v := .int (0 : Int32)) (ty := .int) (C := RX0) (T := TX0) (N := 17) hx hb ht zq_layX0 tyX0 tyX0_ok nmX0 hown hK hP hD hS 0 rfl rfl 10 (by decide) (ht _ zq_17) (fun _ h9 => h9) rfl (by decide +kernel) rfl rfl (Nat.le_of_ble_eq_true rfl) dX0_clear_61 (fun H locs hP hD hS => ?_)
  have hP : va_P (dC, dI) zz_cls [zo_X0 a_o (1 : Int32) (0 : Int32) a_o_bars a_o_gives a_o_rough (0 : Int32) (0 : Int32) (4 : Int32) (0 : Int32) (0 : Int32) (0 : Int32) a_o_code f_o_coded f_o_tiresFrom f_o_tiresTo f_o_mayFrom f_o_mayTo, (a_o_bars, .inl (dA 0, 9, .inl a1)), (a_o_gives, .inl (dA 0, 9, .inl a2)), (a_o_rough, .inl (dA 0, 9, .inl a3))] H := hP
  have hD : va_D A [zo_X0 a_o (1 : Int32) (0 : Int32) a_o_bars a_o_gives a_o_rough (0 : Int32) (0 : Int32) (4 : Int32) (0 : Int32) (0 : Int32) (0 : Int32) a_o_code f_o_coded f_o_tiresFrom f_o_tiresTo f_o_mayFrom f_o_mayTo, (a_o_bars, .inl (dA 0, 9, .inl a1)), (a_o_gives, .inl (dA 0, 9, .inl a2)), (a_o_rough, .inl (dA 0, 9, .inl a3))] := hD
  refine lv_aload_n (pc := 64) hx hb dX0_clear_64 rfl (lv_at hl 0 rfl) ?_
  refine lv_iconst (v := (0 : Int32)) (pc := 65) hx hb dX0_clear_65 (by decide) ?_
  refine va_put (pc := 66) (D := (dC, dI)) (ci := 1) (v := .int (0 : Int32)) (ty := .int) (C := RX0) (T := TX0) (N := 17) hx hb ht zq_layX0 tyX0 tyX0_ok nmX0 hown hK hP hD hS 0 rfl rfl 12 (by decide) (ht _ zq_18) (fun _ h9 => h9) rfl (by decide +kernel) rfl rfl (Nat.le_of_ble_eq_true rfl) dX0_clear_66 (fun H locs hP hD hS => ?_)
  have hP : va_P (dC, dI) zz_cls [zo_X0 a_o (1 : Int32) (0 : Int32) a_o_bars a_o_gives a_o_rough (0 : Int32) (0 : Int32) (4 : Int32) (0 : Int32) (0 : Int32) (0 : Int32) a_o_code (0 : Int32) f_o_tiresFrom f_o_tiresTo f_o_mayFrom f_o_mayTo, (a_o_bars, .inl (dA 0, 9, .inl a1)), (a_o_gives, .inl (dA 0, 9, .inl a2)), (a_o_rough, .inl (dA 0, 9, .inl a3))] H := hP
  have hD : va_D A [zo_X0 a_o (1 : Int32) (0 : Int32) a_o_bars a_o_gives a_o_rough (0 : Int32) (0 : Int32) (4 : Int32) (0 : Int32) (0 : Int32) (0 : Int32) a_o_code (0 : Int32) f_o_tiresFrom f_o_tiresTo f_o_mayFrom f_o_mayTo, (a_o_bars, .inl (dA 0, 9, .inl a1)), (a_o_gives, .inl (dA 0, 9, .inl a2)), (a_o_rough, .inl (dA 0, 9, .inl a3))] := hD
  refine lv_aload_n (pc := 69) hx hb dX0_clear_69 rfl (lv_at hl 0 rfl) ?_
  refine lv_iconst (v := (0 : Int32)) (pc := 70) hx hb dX0_clear_70 (by decide) ?_
  refine va_put (pc := 71) (D := (dC, dI)) (ci := 1) (v := .int (0 : Int32)) (ty := .int) (C := RX0) (T := TX0) (N := 17) hx hb ht zq_layX0 tyX0 tyX0_ok nmX0 hown hK hP hD hS 0 rfl rfl 13 (by decide) (ht _ zq_19) (fun _ h9 => h9) rfl (by decide +kernel) rfl rfl (Nat.le_of_ble_eq_true rfl) dX0_clear_71 (fun H locs hP hD hS => ?_)
  have hP : va_P (dC, dI) zz_cls [zo_X0 a_o (1 : Int32) (0 : Int32) a_o_bars a_o_gives a_o_rough (0 : Int32) (0 : Int32) (4 : Int32) (0 : Int32) (0 : Int32) (0 : Int32) a_o_code (0 : Int32) (0 : Int32) f_o_tiresTo f_o_mayFrom f_o_mayTo, (a_o_bars, .inl (dA 0, 9, .inl a1)), (a_o_gives, .inl (dA 0, 9, .inl a2)), (a_o_rough, .inl (dA 0, 9, .inl a3))] H := hP
  have hD : va_D A [zo_X0 a_o (1 : Int32) (0 : Int32) a_o_bars a_o_gives a_o_rough (0 : Int32) (0 : Int32) (4 : Int32) (0 : Int32) (0 : Int32) (0 : Int32) a_o_code (0 : Int32) (0 : Int32) f_o_tiresTo f_o_mayFrom f_o_mayTo, (a_o_bars, .inl (dA 0, 9, .inl a1)), (a_o_gives, .inl (dA 0, 9, .inl a2)), (a_o_rough, .inl (dA 0, 9, .inl a3))] := hD
  refine lv_aload_n (pc := 74) hx hb dX0_clear_74 rfl (lv_at hl 0 rfl) ?_
  refine lv_iconst (v := (0 : Int32)) (pc := 75) hx hb dX0_clear_75 (by decide) ?_
  refine va_put (pc := 76) (D := (dC, dI)) (ci := 1) (v := .int (0 : Int32)) (ty := .int) (C := RX0) (T := TX0) (N := 17) hx hb ht zq_layX0 tyX0 tyX0_ok nmX0 hown hK hP hD hS 0 rfl rfl 14 (by decide) (ht _ zq_20) (fun _ h9 => h9) rfl (by decide +kernel) rfl rfl (Nat.le_of_ble_eq_true rfl) dX0_clear_76 (fun H locs hP hD hS => ?_)
  have hP : va_P (dC, dI) zz_cls [zo_X0 a_o (1 : Int32) (0 : Int32) a_o_bars a_o_gives a_o_rough (0 : Int32) (0 : Int32) (4 : Int32) (0 : Int32) (0 : Int32) (0 : Int32) a_o_code (0 : Int32) (0 : Int32) (0 : Int32) f_o_mayFrom f_o_mayTo, (a_o_bars, .inl (dA 0, 9, .inl a1)), (a_o_gives, .inl (dA 0, 9, .inl a2)), (a_o_rough, .inl (dA 0, 9, .inl a3))] H := hP
  have hD : va_D A [zo_X0 a_o (1 : Int32) (0 : Int32) a_o_bars a_o_gives a_o_rough (0 : Int32) (0 : Int32) (4 : Int32) (0 : Int32) (0 : Int32) (0 : Int32) a_o_code (0 : Int32) (0 : Int32) (0 : Int32) f_o_mayFrom f_o_mayTo, (a_o_bars, .inl (dA 0, 9, .inl a1)), (a_o_gives, .inl (dA 0, 9, .inl a2)), (a_o_rough, .inl (dA 0, 9, .inl a3))] := hD
  refine lv_aload_n (pc := 79) hx hb dX0_clear_79 rfl (lv_at hl 0 rfl) ?_
  refine lv_iconst (v := (0 : Int32)) (pc := 80) hx hb dX0_clear_80 (by decide) ?_
  refine va_put (pc := 81) (D := (dC, dI)) (ci := 1) (v := .int (0 : Int32)) (ty := .int) (C := RX0) (T := TX0) (N := 17) hx hb ht zq_layX0 tyX0 tyX0_ok nmX0 hown hK hP hD hS 0 rfl rfl 15 (by decide) (ht _ zq_21) (fun _ h9 => h9) rfl (by decide +kernel) rfl rfl (Nat.le_of_ble_eq_true rfl) dX0_clear_81 (fun H locs hP hD hS => ?_)
  have hP : va_P (dC, dI) zz_cls [zo_X0 a_o (1 : Int32) (0 : Int32) a_o_bars a_o_gives a_o_rough (0 : Int32) (0 : Int32) (4 : Int32) (0 : Int32) (0 : Int32) (0 : Int32) a_o_code (0 : Int32) (0 : Int32) (0 : Int32) (0 : Int32) f_o_mayTo, (a_o_bars, .inl (dA 0, 9, .inl a1)), (a_o_gives, .inl (dA 0, 9, .inl a2)), (a_o_rough, .inl (dA 0, 9, .inl a3))] H := hP
  have hD : va_D A [zo_X0 a_o (1 : Int32) (0 : Int32) a_o_bars a_o_gives a_o_rough (0 : Int32) (0 : Int32) (4 : Int32) (0 : Int32) (0 : Int32) (0 : Int32) a_o_code (0 : Int32) (0 : Int32) (0 : Int32) (0 : Int32) f_o_mayTo, (a_o_bars, .inl (dA 0, 9, .inl a1)), (a_o_gives, .inl (dA 0, 9, .inl a2)), (a_o_rough, .inl (dA 0, 9, .inl a3))] := hD
  refine lv_aload_n (pc := 84) hx hb dX0_clear_84 rfl (lv_at hl 0 rfl) ?_
  refine lv_iconst (v := (0 : Int32)) (pc := 85) hx hb dX0_clear_85 (by decide) ?_
  refine va_put (pc := 86) (D := (dC, dI)) (ci := 1) (v := .int (0 : Int32)) (ty := .int) (C := RX0) (T := TX0) (N := 17) hx hb ht zq_layX0 tyX0 tyX0_ok nmX0 hown hK hP hD hS 0 rfl rfl 16 (by decide) (ht _ zq_22) (fun _ h9 => h9) rfl (by decide +kernel) rfl rfl (Nat.le_of_ble_eq_true rfl) dX0_clear_86 (fun H locs hP hD hS => ?_)
  have hP : va_P (dC, dI) zz_cls [zo_X0 a_o (1 : Int32) (0 : Int32) a_o_bars a_o_gives a_o_rough (0 : Int32) (0 : Int32) (4 : Int32) (0 : Int32) (0 : Int32) (0 : Int32) a_o_code (0 : Int32) (0 : Int32) (0 : Int32) (0 : Int32) (0 : Int32), (a_o_bars, .inl (dA 0, 9, .inl a1)), (a_o_gives, .inl (dA 0, 9, .inl a2)), (a_o_rough, .inl (dA 0, 9, .inl a3))] H := hP
  have hD : va_D A [zo_X0 a_o (1 : Int32) (0 : Int32) a_o_bars a_o_gives a_o_rough (0 : Int32) (0 : Int32) (4 : Int32) (0 : Int32) (0 : Int32) (0 : Int32) a_o_code (0 : Int32) (0 : Int32) (0 : Int32) (0 : Int32) (0 : Int32), (a_o_bars, .inl (dA 0, 9, .inl a1)), (a_o_gives, .inl (dA 0, 9, .inl a2)), (a_o_rough, .inl (dA 0, 9, .inl a3))] := hD
  obtain ⟨rfl, rfl, rfl, rfl, rfl, rfl, rfl, rfl, rfl, rfl, rfl, rfl, rfl, rfl, rfl, rfl⟩ := zi_16 hf
  exact W.vret (pc := 89) hx hb hr (fun t ht hW => ⟨⟨(), rfl, trivial, zz_Bi (by rw [ht]; exact hP) (va_K.moved hW.alike hK) (hD)⟩, hS.F ht⟩) hS.2.2 dX0_clear_89

def zf_X0_copyFrom (f_o_top : Int32) (f_o_things : Int32) (f_o_startRung : Int32) (f_o_startThings : Int32) (f_o_startStrength : Int32) (f_o_startWind : Int32) (f_o_slips : Int32) (f_o_lines : Int32) (f_o_coded : Int32) (f_o_tiresFrom : Int32) (f_o_tiresTo : Int32) (f_o_mayFrom : Int32) (f_o_mayTo : Int32) (b_o_bars : (Nat → Int32)) (b_o_gives : (Nat → Int32)) (b_o_rough : (Nat → Int32)) (b_o_code : (Nat → Int32)) (f_q0_top : Int32) (f_q0_things : Int32) (f_q0_startRung : Int32) (f_q0_startThings : Int32) (f_q0_startStrength : Int32) (f_q0_startWind : Int32) (f_q0_slips : Int32) (f_q0_lines : Int32) (f_q0_coded : Int32) (f_q0_tiresFrom : Int32) (f_q0_tiresTo : Int32) (f_q0_mayFrom : Int32) (f_q0_mayTo : Int32) (b_q0_bars : (Nat → Int32)) (b_q0_gives : (Nat → Int32)) (b_q0_rough : (Nat → Int32)) (b_q0_code : (Nat → Int32)) : Option (Int32 × Int32 × Int32 × Int32 × Int32 × Int32 × Int32 × Int32 × Int32 × Int32 × Int32 × Int32 × Int32 × (Nat → Int32) × (Nat → Int32) × (Nat → Int32) × (Nat → Int32)) :=
  zd_1 (za_cpy b_q0_bars 9 b_o_bars 9 (0 : Int32) (0 : Int32) (9 : Int32)) (fun a1 =>
  zd_1 (za_cpy b_q0_gives 9 b_o_gives 9 (0 : Int32) (0 : Int32) (9 : Int32)) (fun a2 =>
  zd_1 (za_cpy b_q0_rough 9 b_o_rough 9 (0 : Int32) (0 : Int32) (9 : Int32)) (fun a3 =>
  zd_1 (za_cpy b_q0_code 900 b_o_code 900 (0 : Int32) (0 : Int32) f_q0_coded) (fun a4 =>
  some (f_q0_top, f_q0_things, f_q0_startRung, f_q0_startThings, f_q0_startStrength, f_q0_startWind, f_q0_slips, f_q0_lines, f_q0_coded, f_q0_tiresFrom, f_q0_tiresTo, f_q0_mayFrom, f_q0_mayTo, a1, a2, a3, a4)))))
theorem zk_X0_copyFrom : yX0_copyFrom.cls = RX0 ∧ yX0_copyFrom.cls ≠ "java/lang/invoke/MethodHandle" ∧ yX0_copyFrom.cls ≠ "java/lang/invoke/VarHandle" ∧ (parseMethodDescriptor yX0_copyFrom.desc).map (fun d => d.parameters.length) = some 1 := by decide +kernel
set_option maxHeartbeats 4000000 in
set_option maxRecDepth 100000 in
theorem zt_X0_copyFrom (l : Launch) (dC : Nat → ClassId) (dI : Nat → Nat → Nat) (dA : Nat → ClassId) (adK adV : Nat → Nat) (sz : Nat) (a_o : Nat) (a_o_bars : Nat) (a_o_gives : Nat) (a_o_rough : Nat) (a_o_code : Nat) (a_q0 : Nat) (a_q0_bars : Nat) (a_q0_gives : Nat) (a_q0_rough : Nat) (a_q0_code : Nat) (f_o_top : Int32) (f_o_things : Int32) (f_o_startRung : Int32) (f_o_startThings : Int32) (f_o_startStrength : Int32) (f_o_startWind : Int32) (f_o_slips : Int32) (f_o_lines : Int32) (f_o_coded : Int32) (f_o_tiresFrom : Int32) (f_o_tiresTo : Int32) (f_o_mayFrom : Int32) (f_o_mayTo : Int32) (f_q0_top : Int32) (f_q0_things : Int32) (f_q0_startRung : Int32) (f_q0_startThings : Int32) (f_q0_startStrength : Int32) (f_q0_startWind : Int32) (f_q0_slips : Int32) (f_q0_lines : Int32) (f_q0_coded : Int32) (f_q0_tiresFrom : Int32) (f_q0_tiresTo : Int32) (f_q0_mayFrom : Int32) (f_q0_mayTo : Int32) (b_o_bars : (Nat → Int32)) (b_o_gives : (Nat → Int32)) (b_o_rough : (Nat → Int32)) (b_o_code : (Nat → Int32)) (b_q0_bars : (Nat → Int32)) (b_q0_gives : (Nat → Int32)) (b_q0_rough : (Nat → Int32)) (b_q0_code : (Nat → Int32)) (o1 : Int32) (o2 : Int32) (o3 : Int32) (o4 : Int32) (o5 : Int32) (o6 : Int32) (o7 : Int32) (o8 : Int32) (o9 : Int32) (o10 : Int32) (o11 : Int32) (o12 : Int32) (o13 : Int32) (o14 : (Nat → Int32)) (o15 : (Nat → Int32)) (o16 : (Nat → Int32)) (o17 : (Nat → Int32)) (hf : zf_X0_copyFrom f_o_top f_o_things f_o_startRung f_o_startThings f_o_startStrength f_o_startWind f_o_slips f_o_lines f_o_coded f_o_tiresFrom f_o_tiresTo f_o_mayFrom f_o_mayTo b_o_bars b_o_gives b_o_rough b_o_code f_q0_top f_q0_things f_q0_startRung f_q0_startThings f_q0_startStrength f_q0_startWind f_q0_slips f_q0_lines f_q0_coded f_q0_tiresFrom f_q0_tiresTo f_q0_mayFrom f_q0_mayTo b_q0_bars b_q0_gives b_q0_rough b_q0_code = some (o1, o2, o3, o4, o5, o6, o7, o8, o9, o10, o11, o12, o13, o14, o15, o16, o17)) : Met l yX0_copyFrom (.code yX0_copyFrom cX0_copyFrom 2 none :: zq_T) ({ frames := 1, cells := 0, slots := 0, locals := 48 }) (va_Pc [.ref a_o, .ref a_q0] (zx_M dC dI dA adK adV [zo_X0 a_o f_o_top f_o_things a_o_bars a_o_gives a_o_rough f_o_startRung f_o_startThings f_o_startStrength f_o_startWind f_o_slips f_o_lines a_o_code f_o_coded f_o_tiresFrom f_o_tiresTo f_o_mayFrom f_o_mayTo, (a_o_bars, .inl (dA 0, 9, .inl b_o_bars)), (a_o_gives, .inl (dA 0, 9, .inl b_o_gives)), (a_o_rough, .inl (dA 0, 9, .inl b_o_rough)), (a_o_code, .inl (dA 0, 900, .inl b_o_code)), zo_X0 a_q0 f_q0_top f_q0_things a_q0_bars a_q0_gives a_q0_rough f_q0_startRung f_q0_startThings f_q0_startStrength f_q0_startWind f_q0_slips f_q0_lines a_q0_code f_q0_coded f_q0_tiresFrom f_q0_tiresTo f_q0_mayFrom f_q0_mayTo, (a_q0_bars, .inl (dA 0, 9, .inl b_q0_bars)), (a_q0_gives, .inl (dA 0, 9, .inl b_q0_gives)), (a_q0_rough, .inl (dA 0, 9, .inl b_q0_rough)), (a_q0_code, .inl (dA 0, 900, .inl b_q0_code))] sz)) (va_Qv (fun _ : Unit => True) (fun _ t => zz_B dC dI dA (va_A [zo_X0 a_o f_o_top f_o_things a_o_bars a_o_gives a_o_rough f_o_startRung f_o_startThings f_o_startStrength f_o_startWind f_o_slips f_o_lines a_o_code f_o_coded f_o_tiresFrom f_o_tiresTo f_o_mayFrom f_o_mayTo, (a_o_bars, .inl (dA 0, 9, .inl b_o_bars)), (a_o_gives, .inl (dA 0, 9, .inl b_o_gives)), (a_o_rough, .inl (dA 0, 9, .inl b_o_rough)), (a_o_code, .inl (dA 0, 900, .inl b_o_code)), zo_X0 a_q0 f_q0_top f_q0_things a_q0_bars a_q0_gives a_q0_rough f_q0_startRung f_q0_startThings f_q0_startStrength f_q0_startWind f_q0_slips f_q0_lines a_q0_code f_q0_coded f_q0_tiresFrom f_q0_tiresTo f_q0_mayFrom f_q0_mayTo, (a_q0_bars, .inl (dA 0, 9, .inl b_q0_bars)), (a_q0_gives, .inl (dA 0, 9, .inl b_q0_gives)), (a_q0_rough, .inl (dA 0, 9, .inl b_q0_rough)), (a_q0_code, .inl (dA 0, 900, .inl b_q0_code))] sz) [zo_X0 a_o o1 o2 a_o_bars a_o_gives a_o_rough o3 o4 o5 o6 o7 o8 a_o_code o9 o10 o11 o12 o13, (a_o_bars, .inl (dA 0, 9, .inl o14)), (a_o_gives, .inl (dA 0, 9, .inl o15)), (a_o_rough, .inl (dA 0, 9, .inl o16)), (a_o_code, .inl (dA 0, 900, .inl o17)), zo_X0 a_q0 f_q0_top f_q0_things a_q0_bars a_q0_gives a_q0_rough f_q0_startRung f_q0_startThings f_q0_startStrength f_q0_startWind f_q0_slips f_q0_lines a_q0_code f_q0_coded f_q0_tiresFrom f_q0_tiresTo f_q0_mayFrom f_q0_mayTo, (a_q0_bars, .inl (dA 0, 9, .inl b_q0_bars)), (a_q0_gives, .inl (dA 0, 9, .inl b_q0_gives)), (a_q0_rough, .inl (dA 0, 9, .inl b_q0_rough)), (a_q0_code, .inl (dA 0, 900, .inl b_q0_code))] t) (va_A [zo_X0 a_o f_o_top f_o_things a_o_bars a_o_gives a_o_rough f_o_startRung f_o_startThings f_o_startStrength f_o_startWind f_o_slips f_o_lines a_o_code f_o_coded f_o_tiresFrom f_o_tiresTo f_o_mayFrom f_o_mayTo, (a_o_bars, .inl (dA 0, 9, .inl b_o_bars)), (a_o_gives, .inl (dA 0, 9, .inl b_o_gives)), (a_o_rough, .inl (dA 0, 9, .inl b_o_rough)), (a_o_code, .inl (dA 0, 900, .inl b_o_code)), zo_X0 a_q0 f_q0_top f_q0_things a_q0_bars a_q0_gives a_q0_rough f_q0_startRung f_q0_startThings f_q0_startStrength f_q0_startWind f_q0_slips f_q0_lines a_q0_code f_q0_coded f_q0_tiresFrom f_q0_tiresTo f_q0_mayFrom f_q0_mayTo, (a_q0_bars, .inl (dA 0, 9, .inl b_q0_bars)), (a_q0_gives, .inl (dA 0, 9, .inl b_q0_gives)), (a_q0_rough, .inl (dA 0, 9, .inl b_q0_rough)), (a_q0_code, .inl (dA 0, 900, .inl b_q0_code))] sz)) 0 0 (va_A [zo_X0 a_o f_o_top f_o_things a_o_bars a_o_gives a_o_rough f_o_startRung f_o_startThings f_o_startStrength f_o_startWind f_o_slips f_o_lines a_o_code f_o_coded f_o_tiresFrom f_o_tiresTo f_o_mayFrom f_o_mayTo, (a_o_bars, .inl (dA 0, 9, .inl b_o_bars)), (a_o_gives, .inl (dA 0, 9, .inl b_o_gives)), (a_o_rough, .inl (dA 0, 9, .inl b_o_rough)), (a_o_code, .inl (dA 0, 900, .inl b_o_code)), zo_X0 a_q0 f_q0_top f_q0_things a_q0_bars a_q0_gives a_q0_rough f_q0_startRung f_q0_startThings f_q0_startStrength f_q0_startWind f_q0_slips f_q0_lines a_q0_code f_q0_coded f_q0_tiresFrom f_q0_tiresTo f_q0_mayFrom f_q0_mayTo, (a_q0_bars, .inl (dA 0, 9, .inl b_q0_bars)), (a_q0_gives, .inl (dA 0, 9, .inl b_q0_gives)), (a_q0_rough, .inl (dA 0, 9, .inl b_q0_rough)), (a_q0_code, .inl (dA 0, 900, .inl b_q0_code))] sz) := by
  unfold zf_X0_copyFrom at hf
  refine Met.ofW (cc := cX0_copyFrom) (maxL := 2) (ret := none) (by decide) rfl ?_
  intro p e s m args below meth c s₁ B hml hv
  obtain ⟨rfl, ⟨hsz, hP, hK, hD0⟩, hZ⟩ := hv
  have hx := B.exec
  have hb := B.bytes
  have hr := B.returns
  have ht : ∀ w ∈ zq_T, w.before ([.ref a_o, .ref a_q0] : List Value).toArray s = true := fun w hw => atoms_spec (ws := .code yX0_copyFrom cX0_copyFrom 2 none :: zq_T) B.pre w (List.mem_cons_of_mem _ hw)
  have hown : s.vm.findClass RX0 = some m.cls := findClass_of_methodNamed B.named
  have hlocks := B.notSynchronized
  subst hsz
  have hD := hD0.self (sz := s.heap.size)
  generalize hAe : va_A [zo_X0 a_o f_o_top f_o_things a_o_bars a_o_gives a_o_rough f_o_startRung f_o_startThings f_o_startStrength f_o_startWind f_o_slips f_o_lines a_o_code f_o_coded f_o_tiresFrom f_o_tiresTo f_o_mayFrom f_o_mayTo, (a_o_bars, .inl (dA 0, 9, .inl b_o_bars)), (a_o_gives, .inl (dA 0, 9, .inl b_o_gives)), (a_o_rough, .inl (dA 0, 9, .inl b_o_rough)), (a_o_code, .inl (dA 0, 900, .inl b_o_code)), zo_X0 a_q0 f_q0_top f_q0_things a_q0_bars a_q0_gives a_q0_rough f_q0_startRung f_q0_startThings f_q0_startStrength f_q0_startWind f_q0_slips f_q0_lines a_q0_code f_q0_coded f_q0_tiresFrom f_q0_tiresTo f_q0_mayFrom f_q0_mayTo, (a_q0_bars, .inl (dA 0, 9, .inl b_q0_bars)), (a_q0_gives, .inl (dA 0, 9, .inl b_q0_gives)), (a_q0_rough, .inl (dA 0, 9, .inl b_q0_rough)), (a_q0_code, .inl (dA 0, 900, .inl b_q0_code))] s.heap.size = A at hD hZ ⊢
  have hA : ∀ q : Nat, s.heap.size ≤ q → A q := fun q h => by rw [← hAe]; exact Or.inr h
  clear hAe hD0
  have hS : va_S A s.heap s.heap [] := va_S.rf
  have hl := lv_entry ([.ref a_o, .ref a_q0]) (n := 2) (Nat.le_of_ble_eq_true rfl)
  rw [lg_entry_eq]
  generalize (lg_sl ([.ref a_o, .ref a_q0]) ++ List.replicate (2 - (lg_sl ([.ref a_o, .ref a_q0])).length) Slot.unset).toArray = ls at hl ⊢
  have hl : lv_has ls 2 [(0, .ref a_o), (1, .ref a_q0)] := hl
  refine lv_aload_n (pc := 0) hx hb dX0_copyFrom_0 rfl (lv_at hl 0 rfl) ?_
  refine lv_aload_n (pc := 1) hx hb dX0_copyFrom_1 rfl (lv_at hl 1 rfl) ?_
  refine va_get (pc := 2) (D := (dC, dI)) (ci := 1) (v := .int f_q0_top) (C := RX0) (T := TX0) (N := 17) hx hb ht zq_layX0 hown hK hP 5 rfl rfl 0 (by decide) (ht _ zq_9) (fun _ h9 => h9) rfl dX0_copyFrom_2 ?_
  refine va_put (pc := 5) (D := (dC, dI)) (ci := 1) (v := .int f_q0_top) (ty := .int) (C := RX0) (T := TX0) (N := 17) hx hb ht zq_layX0 tyX0 tyX0_ok nmX0 hown hK hP hD hS 0 rfl rfl 0 (by decide) (ht _ zq_9) (fun _ h9 => h9) rfl (by decide +kernel) rfl rfl (Nat.le_of_ble_eq_true rfl) dX0_copyFrom_5 (fun H locs hP hD hS => ?_)
  have hP : va_P (dC, dI) zz_cls [zo_X0 a_o f_q0_top f_o_things a_o_bars a_o_gives a_o_rough f_o_startRung f_o_startThings f_o_startStrength f_o_startWind f_o_slips f_o_lines a_o_code f_o_coded f_o_tiresFrom f_o_tiresTo f_o_mayFrom f_o_mayTo, (a_o_bars, .inl (dA 0, 9, .inl b_o_bars)), (a_o_gives, .inl (dA 0, 9, .inl b_o_gives)), (a_o_rough, .inl (dA 0, 9, .inl b_o_rough)), (a_o_code, .inl (dA 0, 900, .inl b_o_code)), zo_X0 a_q0 f_q0_top f_q0_things a_q0_bars a_q0_gives a_q0_rough f_q0_startRung f_q0_startThings f_q0_startStrength f_q0_startWind f_q0_slips f_q0_lines a_q0_code f_q0_coded f_q0_tiresFrom f_q0_tiresTo f_q0_mayFrom f_q0_mayTo, (a_q0_bars, .inl (dA 0, 9, .inl b_q0_bars)), (a_q0_gives, .inl (dA 0, 9, .inl b_q0_gives)), (a_q0_rough, .inl (dA 0, 9, .inl b_q0_rough)), (a_q0_code, .inl (dA 0, 900, .inl b_q0_code))] H := hP
  have hD : va_D A [zo_X0 a_o f_q0_top f_o_things a_o_bars a_o_gives a_o_rough f_o_startRung f_o_startThings f_o_startStrength f_o_startWind f_o_slips f_o_lines a_o_code f_o_coded f_o_tiresFrom f_o_tiresTo f_o_mayFrom f_o_mayTo, (a_o_bars, .inl (dA 0, 9, .inl b_o_bars)), (a_o_gives, .inl (dA 0, 9, .inl b_o_gives)), (a_o_rough, .inl (dA 0, 9, .inl b_o_rough)), (a_o_code, .inl (dA 0, 900, .inl b_o_code)), zo_X0 a_q0 f_q0_top f_q0_things a_q0_bars a_q0_gives a_q0_rough f_q0_startRung f_q0_startThings f_q0_startStrength f_q0_startWind f_q0_slips f_q0_lines a_q0_code f_q0_coded f_q0_tiresFrom f_q0_tiresTo f_q0_mayFrom f_q0_mayTo, (a_q0_bars, .inl (dA 0, 9, .inl b_q0_bars)), (a_q0_gives, .inl (dA 0, 9, .inl b_q0_gives)), (a_q0_rough, .inl (dA 0, 9, .inl b_q0_rough)), (a_q0_code, .inl (dA 0, 900, .inl b_q0_code))] := hD
  refine lv_aload_n (pc := 8) hx hb dX0_copyFrom_8 rfl (lv_at hl 0 rfl) ?_
  refine lv_aload_n (pc := 9) hx hb dX0_copyFrom_9 rfl (lv_at hl 1 rfl) ?_
  refine va_get (pc := 10) (D := (dC, dI)) (ci := 1) (v := .int f_q0_things) (C := RX0) (T := TX0) (N := 17) hx hb ht zq_layX0 hown hK hP 5 rfl rfl 1 (by decide) (ht _ zq_12) (fun _ h9 => h9) rfl dX0_copyFrom_10 ?_
  refine va_put (pc := 13) (D := (dC, dI)) (ci := 1) (v := .int f_q0_things) (ty := .int) (C := RX0) (T := TX0) (N := 17) hx hb ht zq_layX0 tyX0 tyX0_ok nmX0 hown hK hP hD hS 0 rfl rfl 1 (by decide) (ht _ zq_12) (fun _ h9 => h9) rfl (by decide +kernel) rfl rfl (Nat.le_of_ble_eq_true rfl) dX0_copyFrom_13 (fun H locs hP hD hS => ?_)
  have hP : va_P (dC, dI) zz_cls [zo_X0 a_o f_q0_top f_q0_things a_o_bars a_o_gives a_o_rough f_o_startRung f_o_startThings f_o_startStrength f_o_startWind f_o_slips f_o_lines a_o_code f_o_coded f_o_tiresFrom f_o_tiresTo f_o_mayFrom f_o_mayTo, (a_o_bars, .inl (dA 0, 9, .inl b_o_bars)), (a_o_gives, .inl (dA 0, 9, .inl b_o_gives)), (a_o_rough, .inl (dA 0, 9, .inl b_o_rough)), (a_o_code, .inl (dA 0, 900, .inl b_o_code)), zo_X0 a_q0 f_q0_top f_q0_things a_q0_bars a_q0_gives a_q0_rough f_q0_startRung f_q0_startThings f_q0_startStrength f_q0_startWind f_q0_slips f_q0_lines a_q0_code f_q0_coded f_q0_tiresFrom f_q0_tiresTo f_q0_mayFrom f_q0_mayTo, (a_q0_bars, .inl (dA 0, 9, .inl b_q0_bars)), (a_q0_gives, .inl (dA 0, 9, .inl b_q0_gives)), (a_q0_rough, .inl (dA 0, 9, .inl b_q0_rough)), (a_q0_code, .inl (dA 0, 900, .inl b_q0_code))] H := hP
  have hD : va_D A [zo_X0 a_o f_q0_top f_q0_things a_o_bars a_o_gives a_o_rough f_o_startRung f_o_startThings f_o_startStrength f_o_startWind f_o_slips f_o_lines a_o_code f_o_coded f_o_tiresFrom f_o_tiresTo f_o_mayFrom f_o_mayTo, (a_o_bars, .inl (dA 0, 9, .inl b_o_bars)), (a_o_gives, .inl (dA 0, 9, .inl b_o_gives)), (a_o_rough, .inl (dA 0, 9, .inl b_o_rough)), (a_o_code, .inl (dA 0, 900, .inl b_o_code)), zo_X0 a_q0 f_q0_top f_q0_things a_q0_bars a_q0_gives a_q0_rough f_q0_startRung f_q0_startThings f_q0_startStrength f_q0_startWind f_q0_slips f_q0_lines a_q0_code f_q0_coded f_q0_tiresFrom f_q0_tiresTo f_q0_mayFrom f_q0_mayTo, (a_q0_bars, .inl (dA 0, 9, .inl b_q0_bars)), (a_q0_gives, .inl (dA 0, 9, .inl b_q0_gives)), (a_q0_rough, .inl (dA 0, 9, .inl b_q0_rough)), (a_q0_code, .inl (dA 0, 900, .inl b_q0_code))] := hD
  refine lv_aload_n (pc := 16) hx hb dX0_copyFrom_16 rfl (lv_at hl 1 rfl) ?_
  refine va_get (pc := 17) (D := (dC, dI)) (ci := 1) (v := .ref a_q0_bars) (C := RX0) (T := TX0) (N := 17) hx hb ht zq_layX0 hown hK hP 5 rfl rfl 2 (by decide) (ht _ zq_5) (fun _ h9 => h9) rfl dX0_copyFrom_17 ?_
  refine lv_iconst (v := (0 : Int32)) (pc := 20) hx hb dX0_copyFrom_20 (by decide) ?_
  refine lv_aload_n (pc := 21) hx hb dX0_copyFrom_21 rfl (lv_at hl 0 rfl) ?_
  refine va_get (pc := 22) (D := (dC, dI)) (ci := 1) (v := .ref a_o_bars) (C := RX0) (T := TX0) (N := 17) hx hb ht zq_layX0 hown hK hP 0 rfl rfl 2 (by decide) (ht _ zq_5) (fun _ h9 => h9) rfl dX0_copyFrom_22 ?_
  refine lv_iconst (v := (0 : Int32)) (pc := 25) hx hb dX0_copyFrom_25 (by decide) ?_
  refine lv_bipush (v := (9 : Int32)) (pc := 26) hx hb dX0_copyFrom_26 (by decide) ?_
  obtain ⟨a1, ha1, hf⟩ := zc_1 hf
  refine zw_cpyi (pc := 28) hx hb (hml.trans hl.1.symm) hown (ht _ zq_28) (ht _ zq_29) (ht _ zq_30) (ht _ zq_31) hK hP hD hS 6 1 0 0 rfl rfl rfl rfl ha1 (Nat.le_of_ble_eq_true rfl) (Nat.le_of_ble_eq_true rfl) dX0_copyFrom_28 (fun H locs hP hD hS => ?_)
  have hP : va_P (dC, dI) zz_cls [zo_X0 a_o f_q0_top f_q0_things a_o_bars a_o_gives a_o_rough f_o_startRung f_o_startThings f_o_startStrength f_o_startWind f_o_slips f_o_lines a_o_code f_o_coded f_o_tiresFrom f_o_tiresTo f_o_mayFrom f_o_mayTo, (a_o_bars, .inl (dA 0, 9, .inl a1)), (a_o_gives, .inl (dA 0, 9, .inl b_o_gives)), (a_o_rough, .inl (dA 0, 9, .inl b_o_rough)), (a_o_code, .inl (dA 0, 900, .inl b_o_code)), zo_X0 a_q0 f_q0_top f_q0_things a_q0_bars a_q0_gives a_q0_rough f_q0_startRung f_q0_startThings f_q0_startStrength f_q0_startWind f_q0_slips f_q0_lines a_q0_code f_q0_coded f_q0_tiresFrom f_q0_tiresTo f_q0_mayFrom f_q0_mayTo, (a_q0_bars, .inl (dA 0, 9, .inl b_q0_bars)), (a_q0_gives, .inl (dA 0, 9, .inl b_q0_gives)), (a_q0_rough, .inl (dA 0, 9, .inl b_q0_rough)), (a_q0_code, .inl (dA 0, 900, .inl b_q0_code))] H := hP
  have hD : va_D A [zo_X0 a_o f_q0_top f_q0_things a_o_bars a_o_gives a_o_rough f_o_startRung f_o_startThings f_o_startStrength f_o_startWind f_o_slips f_o_lines a_o_code f_o_coded f_o_tiresFrom f_o_tiresTo f_o_mayFrom f_o_mayTo, (a_o_bars, .inl (dA 0, 9, .inl a1)), (a_o_gives, .inl (dA 0, 9, .inl b_o_gives)), (a_o_rough, .inl (dA 0, 9, .inl b_o_rough)), (a_o_code, .inl (dA 0, 900, .inl b_o_code)), zo_X0 a_q0 f_q0_top f_q0_things a_q0_bars a_q0_gives a_q0_rough f_q0_startRung f_q0_startThings f_q0_startStrength f_q0_startWind f_q0_slips f_q0_lines a_q0_code f_q0_coded f_q0_tiresFrom f_q0_tiresTo f_q0_mayFrom f_q0_mayTo, (a_q0_bars, .inl (dA 0, 9, .inl b_q0_bars)), (a_q0_gives, .inl (dA 0, 9, .inl b_q0_gives)), (a_q0_rough, .inl (dA 0, 9, .inl b_q0_rough)), (a_q0_code, .inl (dA 0, 900, .inl b_q0_code))] := hD
  refine lv_aload_n (pc := 31) hx hb dX0_copyFrom_31 rfl (lv_at hl 1 rfl) ?_
  refine va_get (pc := 32) (D := (dC, dI)) (ci := 1) (v := .ref a_q0_gives) (C := RX0) (T := TX0) (N := 17) hx hb ht zq_layX0 hown hK hP 5 rfl rfl 3 (by decide) (ht _ zq_6) (fun _ h9 => h9) rfl dX0_copyFrom_32 ?_
  refine lv_iconst (v := (0 : Int32)) (pc := 35) hx hb dX0_copyFrom_35 (by decide) ?_
  refine lv_aload_n (pc := 36) hx hb dX0_copyFrom_36 rfl (lv_at hl 0 rfl) ?_
  refine va_get (pc := 37) (D := (dC, dI)) (ci := 1) (v := .ref a_o_gives) (C := RX0) (T := TX0) (N := 17) hx hb ht zq_layX0 hown hK hP 0 rfl rfl 3 (by decide) (ht _ zq_6) (fun _ h9 => h9) rfl dX0_copyFrom_37 ?_
  refine lv_iconst (v := (0 : Int32)) (pc := 40) hx hb dX0_copyFrom_40 (by decide) ?_
  refine lv_bipush (v := (9 : Int32)) (pc := 41) hx hb dX0_copyFrom_41 (by decide) ?_
  obtain ⟨a2, ha2, hf⟩ := zc_1 hf
  refine zw_cpyi (pc := 43) hx hb (hml.trans hl.1.symm) hown (ht _ zq_28) (ht _ zq_29) (ht _ zq_30) (ht _ zq_31) hK hP hD hS 7 2 0 0 rfl rfl rfl rfl ha2 (Nat.le_of_ble_eq_true rfl) (Nat.le_of_ble_eq_true rfl) dX0_copyFrom_43 (fun H locs hP hD hS => ?_)
  have hP : va_P (dC, dI) zz_cls [zo_X0 a_o f_q0_top f_q0_things a_o_bars a_o_gives a_o_rough f_o_startRung f_o_startThings f_o_startStrength f_o_startWind f_o_slips f_o_lines a_o_code f_o_coded f_o_tiresFrom f_o_tiresTo f_o_mayFrom f_o_mayTo, (a_o_bars, .inl (dA 0, 9, .inl a1)), (a_o_gives, .inl (dA 0, 9, .inl a2)), (a_o_rough, .inl (dA 0, 9, .inl b_o_rough)), (a_o_code, .inl (dA 0, 900, .inl b_o_code)), zo_X0 a_q0 f_q0_top f_q0_things a_q0_bars a_q0_gives a_q0_rough f_q0_startRung f_q0_startThings f_q0_startStrength f_q0_startWind f_q0_slips f_q0_lines a_q0_code f_q0_coded f_q0_tiresFrom f_q0_tiresTo f_q0_mayFrom f_q0_mayTo, (a_q0_bars, .inl (dA 0, 9, .inl b_q0_bars)), (a_q0_gives, .inl (dA 0, 9, .inl b_q0_gives)), (a_q0_rough, .inl (dA 0, 9, .inl b_q0_rough)), (a_q0_code, .inl (dA 0, 900, .inl b_q0_code))] H := hP
  have hD : va_D A [zo_X0 a_o f_q0_top f_q0_things a_o_bars a_o_gives a_o_rough f_o_startRung f_o_startThings f_o_startStrength f_o_startWind f_o_slips f_o_lines a_o_code f_o_coded f_o_tiresFrom f_o_tiresTo f_o_mayFrom f_o_mayTo, (a_o_bars, .inl (dA 0, 9, .inl a1)), (a_o_gives, .inl (dA 0, 9, .inl a2)), (a_o_rough, .inl (dA 0, 9, .inl b_o_rough)), (a_o_code, .inl (dA 0, 900, .inl b_o_code)), zo_X0 a_q0 f_q0_top f_q0_things a_q0_bars a_q0_gives a_q0_rough f_q0_startRung f_q0_startThings f_q0_startStrength f_q0_startWind f_q0_slips f_q0_lines a_q0_code f_q0_coded f_q0_tiresFrom f_q0_tiresTo f_q0_mayFrom f_q0_mayTo, (a_q0_bars, .inl (dA 0, 9, .inl b_q0_bars)), (a_q0_gives, .inl (dA 0, 9, .inl b_q0_gives)), (a_q0_rough, .inl (dA 0, 9, .inl b_q0_rough)), (a_q0_code, .inl (dA 0, 900, .inl b_q0_code))] := hD
  refine lv_aload_n (pc := 46) hx hb dX0_copyFrom_46 rfl (lv_at hl 1 rfl) ?_
  refine va_get (pc := 47) (D := (dC, dI)) (ci := 1) (v := .ref a_q0_rough) (C := RX0) (T := TX0) (N := 17) hx hb ht zq_layX0 hown hK hP 5 rfl rfl 4 (by decide) (ht _ zq_7) (fun _ h9 => h9) rfl dX0_copyFrom_47 ?_
  refine lv_iconst (v := (0 : Int32)) (pc := 50) hx hb dX0_copyFrom_50 (by decide) ?_
  refine lv_aload_n (pc := 51) hx hb dX0_copyFrom_51 rfl (lv_at hl 0 rfl) ?_
  refine va_get (pc := 52) (D := (dC, dI)) (ci := 1) (v := .ref a_o_rough) (C := RX0) (T := TX0) (N := 17) hx hb ht zq_layX0 hown hK hP 0 rfl rfl 4 (by decide) (ht _ zq_7) (fun _ h9 => h9) rfl dX0_copyFrom_52 ?_
  refine lv_iconst (v := (0 : Int32)) (pc := 55) hx hb dX0_copyFrom_55 (by decide) ?_
  refine lv_bipush (v := (9 : Int32)) (pc := 56) hx hb dX0_copyFrom_56 (by decide) ?_
  obtain ⟨a3, ha3, hf⟩ := zc_1 hf
  refine zw_cpyi (pc := 58) hx hb (hml.trans hl.1.symm) hown (ht _ zq_28) (ht _ zq_29) (ht _ zq_30) (ht _ zq_31) hK hP hD hS 8 3 0 0 rfl rfl rfl rfl ha3 (Nat.le_of_ble_eq_true rfl) (Nat.le_of_ble_eq_true rfl) dX0_copyFrom_58 (fun H locs hP hD hS => ?_)
  have hP : va_P (dC, dI) zz_cls [zo_X0 a_o f_q0_top f_q0_things a_o_bars a_o_gives a_o_rough f_o_startRung f_o_startThings f_o_startStrength f_o_startWind f_o_slips f_o_lines a_o_code f_o_coded f_o_tiresFrom f_o_tiresTo f_o_mayFrom f_o_mayTo, (a_o_bars, .inl (dA 0, 9, .inl a1)), (a_o_gives, .inl (dA 0, 9, .inl a2)), (a_o_rough, .inl (dA 0, 9, .inl a3)), (a_o_code, .inl (dA 0, 900, .inl b_o_code)), zo_X0 a_q0 f_q0_top f_q0_things a_q0_bars a_q0_gives a_q0_rough f_q0_startRung f_q0_startThings f_q0_startStrength f_q0_startWind f_q0_slips f_q0_lines a_q0_code f_q0_coded f_q0_tiresFrom f_q0_tiresTo f_q0_mayFrom f_q0_mayTo, (a_q0_bars, .inl (dA 0, 9, .inl b_q0_bars)), (a_q0_gives, .inl (dA 0, 9, .inl b_q0_gives)), (a_q0_rough, .inl (dA 0, 9, .inl b_q0_rough)), (a_q0_code, .inl (dA 0, 900, .inl b_q0_code))] H := hP
  have hD : va_D A [zo_X0 a_o f_q0_top f_q0_things a_o_bars a_o_gives a_o_rough f_o_startRung f_o_startThings f_o_startStrength f_o_startWind f_o_slips f_o_lines a_o_code f_o_coded f_o_tiresFrom f_o_tiresTo f_o_mayFrom f_o_mayTo, (a_o_bars, .inl (dA 0, 9, .inl a1)), (a_o_gives, .inl (dA 0, 9, .inl a2)), (a_o_rough, .inl (dA 0, 9, .inl a3)), (a_o_code, .inl (dA 0, 900, .inl b_o_code)), zo_X0 a_q0 f_q0_top f_q0_things a_q0_bars a_q0_gives a_q0_rough f_q0_startRung f_q0_startThings f_q0_startStrength f_q0_startWind f_q0_slips f_q0_lines a_q0_code f_q0_coded f_q0_tiresFrom f_q0_tiresTo f_q0_mayFrom f_q0_mayTo, (a_q0_bars, .inl (dA 0, 9, .inl b_q0_bars)), (a_q0_gives, .inl (dA 0, 9, .inl b_q0_gives)), (a_q0_rough, .inl (dA 0, 9, .inl b_q0_rough)), (a_q0_code, .inl (dA 0, 900, .inl b_q0_code))] := hD
  refine lv_aload_n (pc := 61) hx hb dX0_copyFrom_61 rfl (lv_at hl 0 rfl) ?_
  refine lv_aload_n (pc := 62) hx hb dX0_copyFrom_62 rfl (lv_at hl 1 rfl) ?_
  refine va_get (pc := 63) (D := (dC, dI)) (ci := 1) (v := .int f_q0_startRung) (C := RX0) (T := TX0) (N := 17) hx hb ht zq_layX0 hown hK hP 5 rfl rfl 5 (by decide) (ht _ zq_13) (fun _ h9 => h9) rfl dX0_copyFrom_63 ?_
  refine va_put (pc := 66) (D := (dC, dI)) (ci := 1) (v := .int f_q0_startRung) (ty := .int) (C := RX0) (T := TX0) (N := 17) hx hb ht zq_layX0 tyX0 tyX0_ok nmX0 hown hK hP hD hS 0 rfl rfl 5 (by decide) (ht _ zq_13) (fun _ h9 => h9) rfl (by decide +kernel) rfl rfl (Nat.le_of_ble_eq_true rfl) dX0_copyFrom_66 (fun H locs hP hD hS => ?_)
  have hP : va_P (dC, dI) zz_cls [zo_X0 a_o f_q0_top f_q0_things a_o_bars a_o_gives a_o_rough f_q0_startRung f_o_startThings f_o_startStrength f_o_startWind f_o_slips f_o_lines a_o_code f_o_coded f_o_tiresFrom f_o_tiresTo f_o_mayFrom f_o_mayTo, (a_o_bars, .inl (dA 0, 9, .inl a1)), (a_o_gives, .inl (dA 0, 9, .inl a2)), (a_o_rough, .inl (dA 0, 9, .inl a3)), (a_o_code, .inl (dA 0, 900, .inl b_o_code)), zo_X0 a_q0 f_q0_top f_q0_things a_q0_bars a_q0_gives a_q0_rough f_q0_startRung f_q0_startThings f_q0_startStrength f_q0_startWind f_q0_slips f_q0_lines a_q0_code f_q0_coded f_q0_tiresFrom f_q0_tiresTo f_q0_mayFrom f_q0_mayTo, (a_q0_bars, .inl (dA 0, 9, .inl b_q0_bars)), (a_q0_gives, .inl (dA 0, 9, .inl b_q0_gives)), (a_q0_rough, .inl (dA 0, 9, .inl b_q0_rough)), (a_q0_code, .inl (dA 0, 900, .inl b_q0_code))] H := hP
  have hD : va_D A [zo_X0 a_o f_q0_top f_q0_things a_o_bars a_o_gives a_o_rough f_q0_startRung f_o_startThings f_o_startStrength f_o_startWind f_o_slips f_o_lines a_o_code f_o_coded f_o_tiresFrom f_o_tiresTo f_o_mayFrom f_o_mayTo, (a_o_bars, .inl (dA 0, 9, .inl a1)), (a_o_gives, .inl (dA 0, 9, .inl a2)), (a_o_rough, .inl (dA 0, 9, .inl a3)), (a_o_code, .inl (dA 0, 900, .inl b_o_code)), zo_X0 a_q0 f_q0_top f_q0_things a_q0_bars a_q0_gives a_q0_rough f_q0_startRung f_q0_startThings f_q0_startStrength f_q0_startWind f_q0_slips f_q0_lines a_q0_code f_q0_coded f_q0_tiresFrom f_q0_tiresTo f_q0_mayFrom f_q0_mayTo, (a_q0_bars, .inl (dA 0, 9, .inl b_q0_bars)), (a_q0_gives, .inl (dA 0, 9, .inl b_q0_gives)), (a_q0_rough, .inl (dA 0, 9, .inl b_q0_rough)), (a_q0_code, .inl (dA 0, 900, .inl b_q0_code))] := hD
  refine lv_aload_n (pc := 69) hx hb dX0_copyFrom_69 rfl (lv_at hl 0 rfl) ?_
  refine lv_aload_n (pc := 70) hx hb dX0_copyFrom_70 rfl (lv_at hl 1 rfl) ?_
  refine va_get (pc := 71) (D := (dC, dI)) (ci := 1) (v := .int f_q0_startThings) (C := RX0) (T := TX0) (N := 17) hx hb ht zq_layX0 hown hK hP 5 rfl rfl 6 (by decide) (ht _ zq_14) (fun _ h9 => h9) rfl dX0_copyFrom_71 ?_
  refine va_put (pc := 74) (D := (dC, dI)) (ci := 1) (v := .int f_q0_startThings) (ty := .int) (C := RX0) (T := TX0) (N := 17) hx hb ht zq_layX0 tyX0 tyX0_ok nmX0 hown hK hP hD hS 0 rfl rfl 6 (by decide) (ht _ zq_14) (fun _ h9 => h9) rfl (by decide +kernel) rfl rfl (Nat.le_of_ble_eq_true rfl) dX0_copyFrom_74 (fun H locs hP hD hS => ?_)
  have hP : va_P (dC, dI) zz_cls [zo_X0 a_o f_q0_top f_q0_things a_o_bars a_o_gives a_o_rough f_q0_startRung f_q0_startThings f_o_startStrength f_o_startWind f_o_slips f_o_lines a_o_code f_o_coded f_o_tiresFrom f_o_tiresTo f_o_mayFrom f_o_mayTo, (a_o_bars, .inl (dA 0, 9, .inl a1)), (a_o_gives, .inl (dA 0, 9, .inl a2)), (a_o_rough, .inl (dA 0, 9, .inl a3)), (a_o_code, .inl (dA 0, 900, .inl b_o_code)), zo_X0 a_q0 f_q0_top f_q0_things a_q0_bars a_q0_gives a_q0_rough f_q0_startRung f_q0_startThings f_q0_startStrength f_q0_startWind f_q0_slips f_q0_lines a_q0_code f_q0_coded f_q0_tiresFrom f_q0_tiresTo f_q0_mayFrom f_q0_mayTo, (a_q0_bars, .inl (dA 0, 9, .inl b_q0_bars)), (a_q0_gives, .inl (dA 0, 9, .inl b_q0_gives)), (a_q0_rough, .inl (dA 0, 9, .inl b_q0_rough)), (a_q0_code, .inl (dA 0, 900, .inl b_q0_code))] H := hP
  have hD : va_D A [zo_X0 a_o f_q0_top f_q0_things a_o_bars a_o_gives a_o_rough f_q0_startRung f_q0_startThings f_o_startStrength f_o_startWind f_o_slips f_o_lines a_o_code f_o_coded f_o_tiresFrom f_o_tiresTo f_o_mayFrom f_o_mayTo, (a_o_bars, .inl (dA 0, 9, .inl a1)), (a_o_gives, .inl (dA 0, 9, .inl a2)), (a_o_rough, .inl (dA 0, 9, .inl a3)), (a_o_code, .inl (dA 0, 900, .inl b_o_code)), zo_X0 a_q0 f_q0_top f_q0_things a_q0_bars a_q0_gives a_q0_rough f_q0_startRung f_q0_startThings f_q0_startStrength f_q0_startWind f_q0_slips f_q0_lines a_q0_code f_q0_coded f_q0_tiresFrom f_q0_tiresTo f_q0_mayFrom f_q0_mayTo, (a_q0_bars, .inl (dA 0, 9, .inl b_q0_bars)), (a_q0_gives, .inl (dA 0, 9, .inl b_q0_gives)), (a_q0_rough, .inl (dA 0, 9, .inl b_q0_rough)), (a_q0_code, .inl (dA 0, 900, .inl b_q0_code))] := hD
  refine lv_aload_n (pc := 77) hx hb dX0_copyFrom_77 rfl (lv_at hl 0 rfl) ?_
  refine lv_aload_n (pc := 78) hx hb dX0_copyFrom_78 rfl (lv_at hl 1 rfl) ?_
  refine va_get (pc := 79) (D := (dC, dI)) (ci := 1) (v := .int f_q0_startStrength) (C := RX0) (T := TX0) (N := 17) hx hb ht zq_layX0 hown hK hP 5 rfl rfl 7 (by decide) (ht _ zq_10) (fun _ h9 => h9) rfl dX0_copyFrom_79 ?_
  refine va_put (pc := 82) (D := (dC, dI)) (ci := 1) (v := .int f_q0_startStrength) (ty := .int) (C := RX0) (T := TX0) (N := 17) hx hb ht zq_layX0 tyX0 tyX0_ok nmX0 hown hK hP hD hS 0 rfl rfl 7 (by decide) (ht _ zq_10) (fun _ h9 => h9) rfl (by decide +kernel) rfl rfl (Nat.le_of_ble_eq_true rfl) dX0_copyFrom_82 (fun H locs hP hD hS => ?_)
  have hP : va_P (dC, dI) zz_cls [zo_X0 a_o f_q0_top f_q0_things a_o_bars a_o_gives a_o_rough f_q0_startRung f_q0_startThings f_q0_startStrength f_o_startWind f_o_slips f_o_lines a_o_code f_o_coded f_o_tiresFrom f_o_tiresTo f_o_mayFrom f_o_mayTo, (a_o_bars, .inl (dA 0, 9, .inl a1)), (a_o_gives, .inl (dA 0, 9, .inl a2)), (a_o_rough, .inl (dA 0, 9, .inl a3)), (a_o_code, .inl (dA 0, 900, .inl b_o_code)), zo_X0 a_q0 f_q0_top f_q0_things a_q0_bars a_q0_gives a_q0_rough f_q0_startRung f_q0_startThings f_q0_startStrength f_q0_startWind f_q0_slips f_q0_lines a_q0_code f_q0_coded f_q0_tiresFrom f_q0_tiresTo f_q0_mayFrom f_q0_mayTo, (a_q0_bars, .inl (dA 0, 9, .inl b_q0_bars)), (a_q0_gives, .inl (dA 0, 9, .inl b_q0_gives)), (a_q0_rough, .inl (dA 0, 9, .inl b_q0_rough)), (a_q0_code, .inl (dA 0, 900, .inl b_q0_code))] H := hP
  have hD : va_D A [zo_X0 a_o f_q0_top f_q0_things a_o_bars a_o_gives a_o_rough f_q0_startRung f_q0_startThings f_q0_startStrength f_o_startWind f_o_slips f_o_lines a_o_code f_o_coded f_o_tiresFrom f_o_tiresTo f_o_mayFrom f_o_mayTo, (a_o_bars, .inl (dA 0, 9, .inl a1)), (a_o_gives, .inl (dA 0, 9, .inl a2)), (a_o_rough, .inl (dA 0, 9, .inl a3)), (a_o_code, .inl (dA 0, 900, .inl b_o_code)), zo_X0 a_q0 f_q0_top f_q0_things a_q0_bars a_q0_gives a_q0_rough f_q0_startRung f_q0_startThings f_q0_startStrength f_q0_startWind f_q0_slips f_q0_lines a_q0_code f_q0_coded f_q0_tiresFrom f_q0_tiresTo f_q0_mayFrom f_q0_mayTo, (a_q0_bars, .inl (dA 0, 9, .inl b_q0_bars)), (a_q0_gives, .inl (dA 0, 9, .inl b_q0_gives)), (a_q0_rough, .inl (dA 0, 9, .inl b_q0_rough)), (a_q0_code, .inl (dA 0, 900, .inl b_q0_code))] := hD
  refine lv_aload_n (pc := 85) hx hb dX0_copyFrom_85 rfl (lv_at hl 0 rfl) ?_
  refine lv_aload_n (pc := 86) hx hb dX0_copyFrom_86 rfl (lv_at hl 1 rfl) ?_
  refine va_get (pc := 87) (D := (dC, dI)) (ci := 1) (v := .int f_q0_startWind) (C := RX0) (T := TX0) (N := 17) hx hb ht zq_layX0 hown hK hP 5 rfl rfl 8 (by decide) (ht _ zq_15) (fun _ h9 => h9) rfl dX0_copyFrom_87 ?_
  refine va_put (pc := 90) (D := (dC, dI)) (ci := 1) (v := .int f_q0_startWind) (ty := .int) (C := RX0) (T := TX0) (N := 17) hx hb ht zq_layX0 tyX0 tyX0_ok nmX0 hown hK hP hD hS 0 rfl rfl 8 (by decide) (ht _ zq_15) (fun _ h9 => h9) rfl (by decide +kernel) rfl rfl (Nat.le_of_ble_eq_true rfl) dX0_copyFrom_90 (fun H locs hP hD hS => ?_)
  have hP : va_P (dC, dI) zz_cls [zo_X0 a_o f_q0_top f_q0_things a_o_bars a_o_gives a_o_rough f_q0_startRung f_q0_startThings f_q0_startStrength f_q0_startWind f_o_slips f_o_lines a_o_code f_o_coded f_o_tiresFrom f_o_tiresTo f_o_mayFrom f_o_mayTo, (a_o_bars, .inl (dA 0, 9, .inl a1)), (a_o_gives, .inl (dA 0, 9, .inl a2)), (a_o_rough, .inl (dA 0, 9, .inl a3)), (a_o_code, .inl (dA 0, 900, .inl b_o_code)), zo_X0 a_q0 f_q0_top f_q0_things a_q0_bars a_q0_gives a_q0_rough f_q0_startRung f_q0_startThings f_q0_startStrength f_q0_startWind f_q0_slips f_q0_lines a_q0_code f_q0_coded f_q0_tiresFrom f_q0_tiresTo f_q0_mayFrom f_q0_mayTo, (a_q0_bars, .inl (dA 0, 9, .inl b_q0_bars)), (a_q0_gives, .inl (dA 0, 9, .inl b_q0_gives)), (a_q0_rough, .inl (dA 0, 9, .inl b_q0_rough)), (a_q0_code, .inl (dA 0, 900, .inl b_q0_code))] H := hP
  have hD : va_D A [zo_X0 a_o f_q0_top f_q0_things a_o_bars a_o_gives a_o_rough f_q0_startRung f_q0_startThings f_q0_startStrength f_q0_startWind f_o_slips f_o_lines a_o_code f_o_coded f_o_tiresFrom f_o_tiresTo f_o_mayFrom f_o_mayTo, (a_o_bars, .inl (dA 0, 9, .inl a1)), (a_o_gives, .inl (dA 0, 9, .inl a2)), (a_o_rough, .inl (dA 0, 9, .inl a3)), (a_o_code, .inl (dA 0, 900, .inl b_o_code)), zo_X0 a_q0 f_q0_top f_q0_things a_q0_bars a_q0_gives a_q0_rough f_q0_startRung f_q0_startThings f_q0_startStrength f_q0_startWind f_q0_slips f_q0_lines a_q0_code f_q0_coded f_q0_tiresFrom f_q0_tiresTo f_q0_mayFrom f_q0_mayTo, (a_q0_bars, .inl (dA 0, 9, .inl b_q0_bars)), (a_q0_gives, .inl (dA 0, 9, .inl b_q0_gives)), (a_q0_rough, .inl (dA 0, 9, .inl b_q0_rough)), (a_q0_code, .inl (dA 0, 900, .inl b_q0_code))] := hD
  refine lv_aload_n (pc := 93) hx hb dX0_copyFrom_93 rfl (lv_at hl 0 rfl) ?_
  refine lv_aload_n (pc := 94) hx hb dX0_copyFrom_94 rfl (lv_at hl 1 rfl) ?_
  refine va_get (pc := 95) (D := (dC, dI)) (ci := 1) (v := .int f_q0_slips) (C := RX0) (T := TX0) (N := 17) hx hb ht zq_layX0 hown hK hP 5 rfl rfl 9 (by decide) (ht _ zq_16) (fun _ h9 => h9) rfl dX0_copyFrom_95 ?_
  refine va_put (pc := 98) (D := (dC, dI)) (ci := 1) (v := .int f_q0_slips) (ty := .int) (C := RX0) (T := TX0) (N := 17) hx hb ht zq_layX0 tyX0 tyX0_ok nmX0 hown hK hP hD hS 0 rfl rfl 9 (by decide) (ht _ zq_16) (fun _ h9 => h9) rfl (by decide +kernel) rfl rfl (Nat.le_of_ble_eq_true rfl) dX0_copyFrom_98 (fun H locs hP hD hS => ?_)
  have hP : va_P (dC, dI) zz_cls [zo_X0 a_o f_q0_top f_q0_things a_o_bars a_o_gives a_o_rough f_q0_startRung f_q0_startThings f_q0_startStrength f_q0_startWind f_q0_slips f_o_lines a_o_code f_o_coded f_o_tiresFrom f_o_tiresTo f_o_mayFrom f_o_mayTo, (a_o_bars, .inl (dA 0, 9, .inl a1)), (a_o_gives, .inl (dA 0, 9, .inl a2)), (a_o_rough, .inl (dA 0, 9, .inl a3)), (a_o_code, .inl (dA 0, 900, .inl b_o_code)), zo_X0 a_q0 f_q0_top f_q0_things a_q0_bars a_q0_gives a_q0_rough f_q0_startRung f_q0_startThings f_q0_startStrength f_q0_startWind f_q0_slips f_q0_lines a_q0_code f_q0_coded f_q0_tiresFrom f_q0_tiresTo f_q0_mayFrom f_q0_mayTo, (a_q0_bars, .inl (dA 0, 9, .inl b_q0_bars)), (a_q0_gives, .inl (dA 0, 9, .inl b_q0_gives)), (a_q0_rough, .inl (dA 0, 9, .inl b_q0_rough)), (a_q0_code, .inl (dA 0, 900, .inl b_q0_code))] H := hP
  have hD : va_D A [zo_X0 a_o f_q0_top f_q0_things a_o_bars a_o_gives a_o_rough f_q0_startRung f_q0_startThings f_q0_startStrength f_q0_startWind f_q0_slips f_o_lines a_o_code f_o_coded f_o_tiresFrom f_o_tiresTo f_o_mayFrom f_o_mayTo, (a_o_bars, .inl (dA 0, 9, .inl a1)), (a_o_gives, .inl (dA 0, 9, .inl a2)), (a_o_rough, .inl (dA 0, 9, .inl a3)), (a_o_code, .inl (dA 0, 900, .inl b_o_code)), zo_X0 a_q0 f_q0_top f_q0_things a_q0_bars a_q0_gives a_q0_rough f_q0_startRung f_q0_startThings f_q0_startStrength f_q0_startWind f_q0_slips f_q0_lines a_q0_code f_q0_coded f_q0_tiresFrom f_q0_tiresTo f_q0_mayFrom f_q0_mayTo, (a_q0_bars, .inl (dA 0, 9, .inl b_q0_bars)), (a_q0_gives, .inl (dA 0, 9, .inl b_q0_gives)), (a_q0_rough, .inl (dA 0, 9, .inl b_q0_rough)), (a_q0_code, .inl (dA 0, 900, .inl b_q0_code))] := hD
  refine lv_aload_n (pc := 101) hx hb dX0_copyFrom_101 rfl (lv_at hl 0 rfl) ?_
  refine lv_aload_n (pc := 102) hx hb dX0_copyFrom_102 rfl (lv_at hl 1 rfl) ?_
  refine va_get (pc := 103) (D := (dC, dI)) (ci := 1) (v := .int f_q0_lines) (C := RX0) (T := TX0) (N := 17) hx hb ht zq_layX0 hown hK hP 5 rfl rfl 10 (by decide) (ht _ zq_17) (fun _ h9 => h9) rfl dX0_copyFrom_103 ?_
  refine va_put (pc := 106) (D := (dC, dI)) (ci := 1) (v := .int f_q0_lines) (ty := .int) (C := RX0) (T := TX0) (N := 17) hx hb ht zq_layX0 tyX0 tyX0_ok nmX0 hown hK hP hD hS 0 rfl rfl 10 (by decide) (ht _ zq_17) (fun _ h9 => h9) rfl (by decide +kernel) rfl rfl (Nat.le_of_ble_eq_true rfl) dX0_copyFrom_106 (fun H locs hP hD hS => ?_)
  have hP : va_P (dC, dI) zz_cls [zo_X0 a_o f_q0_top f_q0_things a_o_bars a_o_gives a_o_rough f_q0_startRung f_q0_startThings f_q0_startStrength f_q0_startWind f_q0_slips f_q0_lines a_o_code f_o_coded f_o_tiresFrom f_o_tiresTo f_o_mayFrom f_o_mayTo, (a_o_bars, .inl (dA 0, 9, .inl a1)), (a_o_gives, .inl (dA 0, 9, .inl a2)), (a_o_rough, .inl (dA 0, 9, .inl a3)), (a_o_code, .inl (dA 0, 900, .inl b_o_code)), zo_X0 a_q0 f_q0_top f_q0_things a_q0_bars a_q0_gives a_q0_rough f_q0_startRung f_q0_startThings f_q0_startStrength f_q0_startWind f_q0_slips f_q0_lines a_q0_code f_q0_coded f_q0_tiresFrom f_q0_tiresTo f_q0_mayFrom f_q0_mayTo, (a_q0_bars, .inl (dA 0, 9, .inl b_q0_bars)), (a_q0_gives, .inl (dA 0, 9, .inl b_q0_gives)), (a_q0_rough, .inl (dA 0, 9, .inl b_q0_rough)), (a_q0_code, .inl (dA 0, 900, .inl b_q0_code))] H := hP
  have hD : va_D A [zo_X0 a_o f_q0_top f_q0_things a_o_bars a_o_gives a_o_rough f_q0_startRung f_q0_startThings f_q0_startStrength f_q0_startWind f_q0_slips f_q0_lines a_o_code f_o_coded f_o_tiresFrom f_o_tiresTo f_o_mayFrom f_o_mayTo, (a_o_bars, .inl (dA 0, 9, .inl a1)), (a_o_gives, .inl (dA 0, 9, .inl a2)), (a_o_rough, .inl (dA 0, 9, .inl a3)), (a_o_code, .inl (dA 0, 900, .inl b_o_code)), zo_X0 a_q0 f_q0_top f_q0_things a_q0_bars a_q0_gives a_q0_rough f_q0_startRung f_q0_startThings f_q0_startStrength f_q0_startWind f_q0_slips f_q0_lines a_q0_code f_q0_coded f_q0_tiresFrom f_q0_tiresTo f_q0_mayFrom f_q0_mayTo, (a_q0_bars, .inl (dA 0, 9, .inl b_q0_bars)), (a_q0_gives, .inl (dA 0, 9, .inl b_q0_gives)), (a_q0_rough, .inl (dA 0, 9, .inl b_q0_rough)), (a_q0_code, .inl (dA 0, 900, .inl b_q0_code))] := hD
  refine lv_aload_n (pc := 109) hx hb dX0_copyFrom_109 rfl (lv_at hl 1 rfl) ?_
  refine va_get (pc := 110) (D := (dC, dI)) (ci := 1) (v := .ref a_q0_code) (C := RX0) (T := TX0) (N := 17) hx hb ht zq_layX0 hown hK hP 5 rfl rfl 11 (by decide) (ht _ zq_8) (fun _ h9 => h9) rfl dX0_copyFrom_110 ?_
  refine lv_iconst (v := (0 : Int32)) (pc := 113) hx hb dX0_copyFrom_113 (by decide) ?_
  refine lv_aload_n (pc := 114) hx hb dX0_copyFrom_114 rfl (lv_at hl 0 rfl) ?_
  refine va_get (pc := 115) (D := (dC, dI)) (ci := 1) (v := .ref a_o_code) (C := RX0) (T := TX0) (N := 17) hx hb ht zq_layX0 hown hK hP 0 rfl rfl 11 (by decide) (ht _ zq_8) (fun _ h9 => h9) rfl dX0_copyFrom_115 ?_
  refine lv_iconst (v := (0 : Int32)) (pc := 118) hx hb dX0_copyFrom_118 (by decide) ?_
  refine lv_aload_n (pc := 119) hx hb dX0_copyFrom_119 rfl (lv_at hl 1 rfl) ?_
  refine va_get (pc := 120) (D := (dC, dI)) (ci := 1) (v := .int f_q0_coded) (C := RX0) (T := TX0) (N := 17) hx hb ht zq_layX0 hown hK hP 5 rfl rfl 12 (by decide) (ht _ zq_18) (fun _ h9 => h9) rfl dX0_copyFrom_120 ?_
  obtain ⟨a4, ha4, hf⟩ := zc_1 hf
  refine zw_cpyi (pc := 123) hx hb (hml.trans hl.1.symm) hown (ht _ zq_28) (ht _ zq_29) (ht _ zq_30) (ht _ zq_31) hK hP hD hS 9 4 0 0 rfl rfl rfl rfl ha4 (Nat.le_of_ble_eq_true rfl) (Nat.le_of_ble_eq_true rfl) dX0_copyFrom_123 (fun H locs hP hD hS => ?_)
  have hP : va_P (dC, dI) zz_cls [zo_X0 a_o f_q0_top f_q0_things a_o_bars a_o_gives a_o_rough f_q0_startRung f_q0_startThings f_q0_startStrength f_q0_startWind f_q0_slips f_q0_lines a_o_code f_o_coded f_o_tiresFrom f_o_tiresTo f_o_mayFrom f_o_mayTo, (a_o_bars, .inl (dA 0, 9, .inl a1)), (a_o_gives, .inl (dA 0, 9, .inl a2)), (a_o_rough, .inl (dA 0, 9, .inl a3)), (a_o_code, .inl (dA 0, 900, .inl a4)), zo_X0 a_q0 f_q0_top f_q0_things a_q0_bars a_q0_gives a_q0_rough f_q0_startRung f_q0_startThings f_q0_startStrength f_q0_startWind f_q0_slips f_q0_lines a_q0_code f_q0_coded f_q0_tiresFrom f_q0_tiresTo f_q0_mayFrom f_q0_mayTo, (a_q0_bars, .inl (dA 0, 9, .inl b_q0_bars)), (a_q0_gives, .inl (dA 0, 9, .inl b_q0_gives)), (a_q0_rough, .inl (dA 0, 9, .inl b_q0_rough)), (a_q0_code, .inl (dA 0, 900, .inl b_q0_code))] H := hP
  have hD : va_D A [zo_X0 a_o f_q0_top f_q0_things a_o_bars a_o_gives a_o_rough f_q0_startRung f_q0_startThings f_q0_startStrength f_q0_startWind f_q0_slips f_q0_lines a_o_code f_o_coded f_o_tiresFrom f_o_tiresTo f_o_mayFrom f_o_mayTo, (a_o_bars, .inl (dA 0, 9, .inl a1)), (a_o_gives, .inl (dA 0, 9, .inl a2)), (a_o_rough, .inl (dA 0, 9, .inl a3)), (a_o_code, .inl (dA 0, 900, .inl a4)), zo_X0 a_q0 f_q0_top f_q0_things a_q0_bars a_q0_gives a_q0_rough f_q0_startRung f_q0_startThings f_q0_startStrength f_q0_startWind f_q0_slips f_q0_lines a_q0_code f_q0_coded f_q0_tiresFrom f_q0_tiresTo f_q0_mayFrom f_q0_mayTo, (a_q0_bars, .inl (dA 0, 9, .inl b_q0_bars)), (a_q0_gives, .inl (dA 0, 9, .inl b_q0_gives)), (a_q0_rough, .inl (dA 0, 9, .inl b_q0_rough)), (a_q0_code, .inl (dA 0, 900, .inl b_q0_code))] := hD
  refine lv_aload_n (pc := 126) hx hb dX0_copyFrom_126 rfl (lv_at hl 0 rfl) ?_
  refine lv_aload_n (pc := 127) hx hb dX0_copyFrom_127 rfl (lv_at hl 1 rfl) ?_
  refine va_get (pc := 128) (D := (dC, dI)) (ci := 1) (v := .int f_q0_coded) (C := RX0) (T := TX0) (N := 17) hx hb ht zq_layX0 hown hK hP 5 rfl rfl 12 (by decide) (ht _ zq_18) (fun _ h9 => h9) rfl dX0_copyFrom_128 ?_
  refine va_put (pc := 131) (D := (dC, dI)) (ci := 1) (v := .int f_q0_coded) (ty := .int) (C := RX0) (T := TX0) (N := 17) hx hb ht zq_layX0 tyX0 tyX0_ok nmX0 hown hK hP hD hS 0 rfl rfl 12 (by decide) (ht _ zq_18) (fun _ h9 => h9) rfl (by decide +kernel) rfl rfl (Nat.le_of_ble_eq_true rfl) dX0_copyFrom_131 (fun H locs hP hD hS => ?_)
  have hP : va_P (dC, dI) zz_cls [zo_X0 a_o f_q0_top f_q0_things a_o_bars a_o_gives a_o_rough f_q0_startRung f_q0_startThings f_q0_startStrength f_q0_startWind f_q0_slips f_q0_lines a_o_code f_q0_coded f_o_tiresFrom f_o_tiresTo f_o_mayFrom f_o_mayTo, (a_o_bars, .inl (dA 0, 9, .inl a1)), (a_o_gives, .inl (dA 0, 9, .inl a2)), (a_o_rough, .inl (dA 0, 9, .inl a3)), (a_o_code, .inl (dA 0, 900, .inl a4)), zo_X0 a_q0 f_q0_top f_q0_things a_q0_bars a_q0_gives a_q0_rough f_q0_startRung f_q0_startThings f_q0_startStrength f_q0_startWind f_q0_slips f_q0_lines a_q0_code f_q0_coded f_q0_tiresFrom f_q0_tiresTo f_q0_mayFrom f_q0_mayTo, (a_q0_bars, .inl (dA 0, 9, .inl b_q0_bars)), (a_q0_gives, .inl (dA 0, 9, .inl b_q0_gives)), (a_q0_rough, .inl (dA 0, 9, .inl b_q0_rough)), (a_q0_code, .inl (dA 0, 900, .inl b_q0_code))] H := hP
  have hD : va_D A [zo_X0 a_o f_q0_top f_q0_things a_o_bars a_o_gives a_o_rough f_q0_startRung f_q0_startThings f_q0_startStrength f_q0_startWind f_q0_slips f_q0_lines a_o_code f_q0_coded f_o_tiresFrom f_o_tiresTo f_o_mayFrom f_o_mayTo, (a_o_bars, .inl (dA 0, 9, .inl a1)), (a_o_gives, .inl (dA 0, 9, .inl a2)), (a_o_rough, .inl (dA 0, 9, .inl a3)), (a_o_code, .inl (dA 0, 900, .inl a4)), zo_X0 a_q0 f_q0_top f_q0_things a_q0_bars a_q0_gives a_q0_rough f_q0_startRung f_q0_startThings f_q0_startStrength f_q0_startWind f_q0_slips f_q0_lines a_q0_code f_q0_coded f_q0_tiresFrom f_q0_tiresTo f_q0_mayFrom f_q0_mayTo, (a_q0_bars, .inl (dA 0, 9, .inl b_q0_bars)), (a_q0_gives, .inl (dA 0, 9, .inl b_q0_gives)), (a_q0_rough, .inl (dA 0, 9, .inl b_q0_rough)), (a_q0_code, .inl (dA 0, 900, .inl b_q0_code))] := hD
  refine lv_aload_n (pc := 134) hx hb dX0_copyFrom_134 rfl (lv_at hl 0 rfl) ?_
  refine lv_aload_n (pc := 135) hx hb dX0_copyFrom_135 rfl (lv_at hl 1 rfl) ?_
  refine va_get (pc := 136) (D := (dC, dI)) (ci := 1) (v := .int f_q0_tiresFrom) (C := RX0) (T := TX0) (N := 17) hx hb ht zq_layX0 hown hK hP 5 rfl rfl 13 (by decide) (ht _ zq_19) (fun _ h9 => h9) rfl dX0_copyFrom_136 ?_
  refine va_put (pc := 139) (D := (dC, dI)) (ci := 1) (v := .int f_q0_tiresFrom) (ty := .int) (C := RX0) (T := TX0) (N := 17) hx hb ht zq_layX0 tyX0 tyX0_ok nmX0 hown hK hP hD hS 0 rfl rfl 13 (by decide) (ht _ zq_19) (fun _ h9 => h9) rfl (by decide +kernel) rfl rfl (Nat.le_of_ble_eq_true rfl) dX0_copyFrom_139 (fun H locs hP hD hS => ?_)
  have hP : va_P (dC, dI) zz_cls [zo_X0 a_o f_q0_top f_q0_things a_o_bars a_o_gives a_o_rough f_q0_startRung f_q0_startThings f_q0_startStrength f_q0_startWind f_q0_slips f_q0_lines a_o_code f_q0_coded f_q0_tiresFrom f_o_tiresTo f_o_mayFrom f_o_mayTo, (a_o_bars, .inl (dA 0, 9, .inl a1)), (a_o_gives, .inl (dA 0, 9, .inl a2)), (a_o_rough, .inl (dA 0, 9, .inl a3)), (a_o_code, .inl (dA 0, 900, .inl a4)), zo_X0 a_q0 f_q0_top f_q0_things a_q0_bars a_q0_gives a_q0_rough f_q0_startRung f_q0_startThings f_q0_startStrength f_q0_startWind f_q0_slips f_q0_lines a_q0_code f_q0_coded f_q0_tiresFrom f_q0_tiresTo f_q0_mayFrom f_q0_mayTo, (a_q0_bars, .inl (dA 0, 9, .inl b_q0_bars)), (a_q0_gives, .inl (dA 0, 9, .inl b_q0_gives)), (a_q0_rough, .inl (dA 0, 9, .inl b_q0_rough)), (a_q0_code, .inl (dA 0, 900, .inl b_q0_code))] H := hP
  have hD : va_D A [zo_X0 a_o f_q0_top f_q0_things a_o_bars a_o_gives a_o_rough f_q0_startRung f_q0_startThings f_q0_startStrength f_q0_startWind f_q0_slips f_q0_lines a_o_code f_q0_coded f_q0_tiresFrom f_o_tiresTo f_o_mayFrom f_o_mayTo, (a_o_bars, .inl (dA 0, 9, .inl a1)), (a_o_gives, .inl (dA 0, 9, .inl a2)), (a_o_rough, .inl (dA 0, 9, .inl a3)), (a_o_code, .inl (dA 0, 900, .inl a4)), zo_X0 a_q0 f_q0_top f_q0_things a_q0_bars a_q0_gives a_q0_rough f_q0_startRung f_q0_startThings f_q0_startStrength f_q0_startWind f_q0_slips f_q0_lines a_q0_code f_q0_coded f_q0_tiresFrom f_q0_tiresTo f_q0_mayFrom f_q0_mayTo, (a_q0_bars, .inl (dA 0, 9, .inl b_q0_bars)), (a_q0_gives, .inl (dA 0, 9, .inl b_q0_gives)), (a_q0_rough, .inl (dA 0, 9, .inl b_q0_rough)), (a_q0_code, .inl (dA 0, 900, .inl b_q0_code))] := hD
  refine lv_aload_n (pc := 142) hx hb dX0_copyFrom_142 rfl (lv_at hl 0 rfl) ?_
  refine lv_aload_n (pc := 143) hx hb dX0_copyFrom_143 rfl (lv_at hl 1 rfl) ?_
  refine va_get (pc := 144) (D := (dC, dI)) (ci := 1) (v := .int f_q0_tiresTo) (C := RX0) (T := TX0) (N := 17) hx hb ht zq_layX0 hown hK hP 5 rfl rfl 14 (by decide) (ht _ zq_20) (fun _ h9 => h9) rfl dX0_copyFrom_144 ?_
  refine va_put (pc := 147) (D := (dC, dI)) (ci := 1) (v := .int f_q0_tiresTo) (ty := .int) (C := RX0) (T := TX0) (N := 17) hx hb ht zq_layX0 tyX0 tyX0_ok nmX0 hown hK hP hD hS 0 rfl rfl 14 (by decide) (ht _ zq_20) (fun _ h9 => h9) rfl (by decide +kernel) rfl rfl (Nat.le_of_ble_eq_true rfl) dX0_copyFrom_147 (fun H locs hP hD hS => ?_)
  have hP : va_P (dC, dI) zz_cls [zo_X0 a_o f_q0_top f_q0_things a_o_bars a_o_gives a_o_rough f_q0_startRung f_q0_startThings f_q0_startStrength f_q0_startWind f_q0_slips f_q0_lines a_o_code f_q0_coded f_q0_tiresFrom f_q0_tiresTo f_o_mayFrom f_o_mayTo, (a_o_bars, .inl (dA 0, 9, .inl a1)), (a_o_gives, .inl (dA 0, 9, .inl a2)), (a_o_rough, .inl (dA 0, 9, .inl a3)), (a_o_code, .inl (dA 0, 900, .inl a4)), zo_X0 a_q0 f_q0_top f_q0_things a_q0_bars a_q0_gives a_q0_rough f_q0_startRung f_q0_startThings f_q0_startStrength f_q0_startWind f_q0_slips f_q0_lines a_q0_code f_q0_coded f_q0_tiresFrom f_q0_tiresTo f_q0_mayFrom f_q0_mayTo, (a_q0_bars, .inl (dA 0, 9, .inl b_q0_bars)), (a_q0_gives, .inl (dA 0, 9, .inl b_q0_gives)), (a_q0_rough, .inl (dA 0, 9, .inl b_q0_rough)), (a_q0_code, .inl (dA 0, 900, .inl b_q0_code))] H := hP
  have hD : va_D A [zo_X0 a_o f_q0_top f_q0_things a_o_bars a_o_gives a_o_rough f_q0_startRung f_q0_startThings f_q0_startStrength f_q0_startWind f_q0_slips f_q0_lines a_o_code f_q0_coded f_q0_tiresFrom f_q0_tiresTo f_o_mayFrom f_o_mayTo, (a_o_bars, .inl (dA 0, 9, .inl a1)), (a_o_gives, .inl (dA 0, 9, .inl a2)), (a_o_rough, .inl (dA 0, 9, .inl a3)), (a_o_code, .inl (dA 0, 900, .inl a4)), zo_X0 a_q0 f_q0_top f_q0_things a_q0_bars a_q0_gives a_q0_rough f_q0_startRung f_q0_startThings f_q0_startStrength f_q0_startWind f_q0_slips f_q0_lines a_q0_code f_q0_coded f_q0_tiresFrom f_q0_tiresTo f_q0_mayFrom f_q0_mayTo, (a_q0_bars, .inl (dA 0, 9, .inl b_q0_bars)), (a_q0_gives, .inl (dA 0, 9, .inl b_q0_gives)), (a_q0_rough, .inl (dA 0, 9, .inl b_q0_rough)), (a_q0_code, .inl (dA 0, 900, .inl b_q0_code))] := hD
  refine lv_aload_n (pc := 150) hx hb dX0_copyFrom_150 rfl (lv_at hl 0 rfl) ?_
  refine lv_aload_n (pc := 151) hx hb dX0_copyFrom_151 rfl (lv_at hl 1 rfl) ?_
  refine va_get (pc := 152) (D := (dC, dI)) (ci := 1) (v := .int f_q0_mayFrom) (C := RX0) (T := TX0) (N := 17) hx hb ht zq_layX0 hown hK hP 5 rfl rfl 15 (by decide) (ht _ zq_21) (fun _ h9 => h9) rfl dX0_copyFrom_152 ?_
  refine va_put (pc := 155) (D := (dC, dI)) (ci := 1) (v := .int f_q0_mayFrom) (ty := .int) (C := RX0) (T := TX0) (N := 17) hx hb ht zq_layX0 tyX0 tyX0_ok nmX0 hown hK hP hD hS 0 rfl rfl 15 (by decide) (ht _ zq_21) (fun _ h9 => h9) rfl (by decide +kernel) rfl rfl (Nat.le_of_ble_eq_true rfl) dX0_copyFrom_155 (fun H locs hP hD hS => ?_)
  have hP : va_P (dC, dI) zz_cls [zo_X0 a_o f_q0_top f_q0_things a_o_bars a_o_gives a_o_rough f_q0_startRung f_q0_startThings f_q0_startStrength f_q0_startWind f_q0_slips f_q0_lines a_o_code f_q0_coded f_q0_tiresFrom f_q0_tiresTo f_q0_mayFrom f_o_mayTo, (a_o_bars, .inl (dA 0, 9, .inl a1)), (a_o_gives, .inl (dA 0, 9, .inl a2)), (a_o_rough, .inl (dA 0, 9, .inl a3)), (a_o_code, .inl (dA 0, 900, .inl a4)), zo_X0 a_q0 f_q0_top f_q0_things a_q0_bars a_q0_gives a_q0_rough f_q0_startRung f_q0_startThings f_q0_startStrength f_q0_startWind f_q0_slips f_q0_lines a_q0_code f_q0_coded f_q0_tiresFrom f_q0_tiresTo f_q0_mayFrom f_q0_mayTo, (a_q0_bars, .inl (dA 0, 9, .inl b_q0_bars)), (a_q0_gives, .inl (dA 0, 9, .inl b_q0_gives)), (a_q0_rough, .inl (dA 0, 9, .inl b_q0_rough)), (a_q0_code, .inl (dA 0, 900, .inl b_q0_code))] H := hP
  have hD : va_D A [zo_X0 a_o f_q0_top f_q0_things a_o_bars a_o_gives a_o_rough f_q0_startRung f_q0_startThings f_q0_startStrength f_q0_startWind f_q0_slips f_q0_lines a_o_code f_q0_coded f_q0_tiresFrom f_q0_tiresTo f_q0_mayFrom f_o_mayTo, (a_o_bars, .inl (dA 0, 9, .inl a1)), (a_o_gives, .inl (dA 0, 9, .inl a2)), (a_o_rough, .inl (dA 0, 9, .inl a3)), (a_o_code, .inl (dA 0, 900, .inl a4)), zo_X0 a_q0 f_q0_top f_q0_things a_q0_bars a_q0_gives a_q0_rough f_q0_startRung f_q0_startThings f_q0_startStrength f_q0_startWind f_q0_slips f_q0_lines a_q0_code f_q0_coded f_q0_tiresFrom f_q0_tiresTo f_q0_mayFrom f_q0_mayTo, (a_q0_bars, .inl (dA 0, 9, .inl b_q0_bars)), (a_q0_gives, .inl (dA 0, 9, .inl b_q0_gives)), (a_q0_rough, .inl (dA 0, 9, .inl b_q0_rough)), (a_q0_code, .inl (dA 0, 900, .inl b_q0_code))] := hD
  refine lv_aload_n (pc := 158) hx hb dX0_copyFrom_158 rfl (lv_at hl 0 rfl) ?_
  refine lv_aload_n (pc := 159) hx hb dX0_copyFrom_159 rfl (lv_at hl 1 rfl) ?_
  refine va_get (pc := 160) (D := (dC, dI)) (ci := 1) (v := .int f_q0_mayTo) (C := RX0) (T := TX0) (N := 17) hx hb ht zq_layX0 hown hK hP 5 rfl rfl 16 (by decide) (ht _ zq_22) (fun _ h9 => h9) rfl dX0_copyFrom_160 ?_
  refine va_put (pc := 163) (D := (dC, dI)) (ci := 1) (v := .int f_q0_mayTo) (ty := .int) (C := RX0) (T := TX0) (N := 17) hx hb ht zq_layX0 tyX0 tyX0_ok nmX0 hown hK hP hD hS 0 rfl rfl 16 (by decide) (ht _ zq_22) (fun _ h9 => h9) rfl (by decide +kernel) rfl rfl (Nat.le_of_ble_eq_true rfl) dX0_copyFrom_163 (fun H locs hP hD hS => ?_)
  have hP : va_P (dC, dI) zz_cls [zo_X0 a_o f_q0_top f_q0_things a_o_bars a_o_gives a_o_rough f_q0_startRung f_q0_startThings f_q0_startStrength f_q0_startWind f_q0_slips f_q0_lines a_o_code f_q0_coded f_q0_tiresFrom f_q0_tiresTo f_q0_mayFrom f_q0_mayTo, (a_o_bars, .inl (dA 0, 9, .inl a1)), (a_o_gives, .inl (dA 0, 9, .inl a2)), (a_o_rough, .inl (dA 0, 9, .inl a3)), (a_o_code, .inl (dA 0, 900, .inl a4)), zo_X0 a_q0 f_q0_top f_q0_things a_q0_bars a_q0_gives a_q0_rough f_q0_startRung f_q0_startThings f_q0_startStrength f_q0_startWind f_q0_slips f_q0_lines a_q0_code f_q0_coded f_q0_tiresFrom f_q0_tiresTo f_q0_mayFrom f_q0_mayTo, (a_q0_bars, .inl (dA 0, 9, .inl b_q0_bars)), (a_q0_gives, .inl (dA 0, 9, .inl b_q0_gives)), (a_q0_rough, .inl (dA 0, 9, .inl b_q0_rough)), (a_q0_code, .inl (dA 0, 900, .inl b_q0_code))] H := hP
  have hD : va_D A [zo_X0 a_o f_q0_top f_q0_things a_o_bars a_o_gives a_o_rough f_q0_startRung f_q0_startThings f_q0_startStrength f_q0_startWind f_q0_slips f_q0_lines a_o_code f_q0_coded f_q0_tiresFrom f_q0_tiresTo f_q0_mayFrom f_q0_mayTo, (a_o_bars, .inl (dA 0, 9, .inl a1)), (a_o_gives, .inl (dA 0, 9, .inl a2)), (a_o_rough, .inl (dA 0, 9, .inl a3)), (a_o_code, .inl (dA 0, 900, .inl a4)), zo_X0 a_q0 f_q0_top f_q0_things a_q0_bars a_q0_gives a_q0_rough f_q0_startRung f_q0_startThings f_q0_startStrength f_q0_startWind f_q0_slips f_q0_lines a_q0_code f_q0_coded f_q0_tiresFrom f_q0_tiresTo f_q0_mayFrom f_q0_mayTo, (a_q0_bars, .inl (dA 0, 9, .inl b_q0_bars)), (a_q0_gives, .inl (dA 0, 9, .inl b_q0_gives)), (a_q0_rough, .inl (dA 0, 9, .inl b_q0_rough)), (a_q0_code, .inl (dA 0, 900, .inl b_q0_code))] := hD
  obtain ⟨rfl, rfl, rfl, rfl, rfl, rfl, rfl, rfl, rfl, rfl, rfl, rfl, rfl, rfl, rfl, rfl, rfl⟩ := zi_17 hf
  exact W.vret (pc := 166) hx hb hr (fun t ht hW => ⟨⟨(), rfl, trivial, zz_Bi (by rw [ht]; exact hP) (va_K.moved hW.alike hK) (hD)⟩, hS.F ht⟩) hS.2.2 dX0_copyFrom_166

def zf_X0_isRung (f_o_top : Int32) (p1 : Int32) : Option (Int32) :=
  if p1 < 0 then
    some (0 : Int32)
  else
    if f_o_top < p1 then
      some (0 : Int32)
    else
      some (1 : Int32)
theorem zk_X0_isRung : yX0_isRung.cls = RX0 ∧ yX0_isRung.cls ≠ "java/lang/invoke/MethodHandle" ∧ yX0_isRung.cls ≠ "java/lang/invoke/VarHandle" ∧ (parseMethodDescriptor yX0_isRung.desc).map (fun d => d.parameters.length) = some 1 := by decide +kernel
set_option maxHeartbeats 4000000 in
set_option maxRecDepth 100000 in
theorem zt_X0_isRung (l : Launch) (dC : Nat → ClassId) (dI : Nat → Nat → Nat) (dA : Nat → ClassId) (adK adV : Nat → Nat) (sz : Nat) (a_o : Nat) (a_o_bars : Nat) (a_o_gives : Nat) (a_o_rough : Nat) (a_o_code : Nat) (f_o_top : Int32) (f_o_things : Int32) (f_o_startRung : Int32) (f_o_startThings : Int32) (f_o_startStrength : Int32) (f_o_startWind : Int32) (f_o_slips : Int32) (f_o_lines : Int32) (f_o_coded : Int32) (f_o_tiresFrom : Int32) (f_o_tiresTo : Int32) (f_o_mayFrom : Int32) (f_o_mayTo : Int32) (p1 : Int32) (r0 : Int32) (hf : zf_X0_isRung f_o_top p1 = some r0) : Met l yX0_isRung (.code yX0_isRung cX0_isRung 2 (some .boolean) :: zq_T) ({ frames := 0, cells := 0, slots := 0, locals := 0 }) (va_Pc [.ref a_o, .int p1] (zx_M dC dI dA adK adV [zo_X0 a_o f_o_top f_o_things a_o_bars a_o_gives a_o_rough f_o_startRung f_o_startThings f_o_startStrength f_o_startWind f_o_slips f_o_lines a_o_code f_o_coded f_o_tiresFrom f_o_tiresTo f_o_mayFrom f_o_mayTo] sz)) (va_Qi (fun (r : Int32) (_ : Unit) => r = r0) (fun _ t => zz_B dC dI dA (va_A [zo_X0 a_o f_o_top f_o_things a_o_bars a_o_gives a_o_rough f_o_startRung f_o_startThings f_o_startStrength f_o_startWind f_o_slips f_o_lines a_o_code f_o_coded f_o_tiresFrom f_o_tiresTo f_o_mayFrom f_o_mayTo] sz) [zo_X0 a_o f_o_top f_o_things a_o_bars a_o_gives a_o_rough f_o_startRung f_o_startThings f_o_startStrength f_o_startWind f_o_slips f_o_lines a_o_code f_o_coded f_o_tiresFrom f_o_tiresTo f_o_mayFrom f_o_mayTo] t) (va_A [zo_X0 a_o f_o_top f_o_things a_o_bars a_o_gives a_o_rough f_o_startRung f_o_startThings f_o_startStrength f_o_startWind f_o_slips f_o_lines a_o_code f_o_coded f_o_tiresFrom f_o_tiresTo f_o_mayFrom f_o_mayTo] sz)) 0 0 (va_A [zo_X0 a_o f_o_top f_o_things a_o_bars a_o_gives a_o_rough f_o_startRung f_o_startThings f_o_startStrength f_o_startWind f_o_slips f_o_lines a_o_code f_o_coded f_o_tiresFrom f_o_tiresTo f_o_mayFrom f_o_mayTo] sz) := by
  unfold zf_X0_isRung at hf
  refine Met.ofW (cc := cX0_isRung) (maxL := 2) (ret := (some .boolean)) (by decide) rfl ?_
  intro p e s m args below meth c s₁ B hml hv
  obtain ⟨rfl, ⟨hsz, hP, hK, hD0⟩, hZ⟩ := hv
  have hx := B.exec
  have hb := B.bytes
  have hr := B.returns
  have ht : ∀ w ∈ zq_T, w.before ([.ref a_o, .int p1] : List Value).toArray s = true := fun w hw => atoms_spec (ws := .code yX0_isRung cX0_isRung 2 (some .boolean) :: zq_T) B.pre w (List.mem_cons_of_mem _ hw)
  have hown : s.vm.findClass RX0 = some m.cls := findClass_of_methodNamed B.named
  have hlocks := B.notSynchronized
  subst hsz
  have hD := hD0.self (sz := s.heap.size)
  generalize hAe : va_A [zo_X0 a_o f_o_top f_o_things a_o_bars a_o_gives a_o_rough f_o_startRung f_o_startThings f_o_startStrength f_o_startWind f_o_slips f_o_lines a_o_code f_o_coded f_o_tiresFrom f_o_tiresTo f_o_mayFrom f_o_mayTo] s.heap.size = A at hD hZ ⊢
  have hA : ∀ q : Nat, s.heap.size ≤ q → A q := fun q h => by rw [← hAe]; exact Or.inr h
  clear hAe hD0
  have hS : va_S A s.heap s.heap [] := va_S.rf
  have hl := lv_entry ([.ref a_o, .int p1]) (n := 2) (Nat.le_of_ble_eq_true rfl)
  rw [lg_entry_eq]
  generalize (lg_sl ([.ref a_o, .int p1]) ++ List.replicate (2 - (lg_sl ([.ref a_o, .int p1])).length) Slot.unset).toArray = ls at hl ⊢
  have hl : lv_has ls 2 [(0, .ref a_o), (1, .int p1)] := hl
  refine lv_iload_n (pc := 0) hx hb dX0_isRung_0 rfl (lv_at hl 1 rfl) ?_
  refine lv_if_lt (tgt := 16) (pc := 1) hx hb dX0_isRung_1 rfl (fun hc => ?_) (fun hc => ?_)
  · have hf := za_t hf hc
    refine lv_iconst (v := (0 : Int32)) (pc := 16) hx hb dX0_isRung_16 (by decide) ?_
    obtain rfl := Option.some.inj hf
    exact W.zret (pc := 17) hx hb hr rfl (fun t ht hW => ⟨⟨_, (), rfl, rfl, zz_Bi (by rw [ht]; exact hP) (va_K.moved hW.alike hK) (hD)⟩, hS.F ht⟩) hS.2.2 dX0_isRung_17
  · have hf := za_f hf hc
    refine lv_iload_n (pc := 4) hx hb dX0_isRung_4 rfl (lv_at hl 1 rfl) ?_
    refine lv_aload_n (pc := 5) hx hb dX0_isRung_5 rfl (lv_at hl 0 rfl) ?_
    refine va_get (pc := 6) (D := (dC, dI)) (ci := 1) (v := .int f_o_top) (C := RX0) (T := TX0) (N := 17) hx hb ht zq_layX0 hown hK hP 0 rfl rfl 0 (by decide) (ht _ zq_9) (fun _ h9 => h9) rfl dX0_isRung_6 ?_
    refine lv_icmp_gt (tgt := 16) (pc := 9) hx hb dX0_isRung_9 rfl (fun hc => ?_) (fun hc => ?_)
    · have hf := za_t hf hc
      refine lv_iconst (v := (0 : Int32)) (pc := 16) hx hb dX0_isRung_16 (by decide) ?_
      obtain rfl := Option.some.inj hf
      exact W.zret (pc := 17) hx hb hr rfl (fun t ht hW => ⟨⟨_, (), rfl, rfl, zz_Bi (by rw [ht]; exact hP) (va_K.moved hW.alike hK) (hD)⟩, hS.F ht⟩) hS.2.2 dX0_isRung_17
    · have hf := za_f hf hc
      refine lv_iconst (v := (1 : Int32)) (pc := 12) hx hb dX0_isRung_12 (by decide) ?_
      refine lv_goto (tgt := 17) (pc := 13) hx hb dX0_isRung_13 rfl ?_
      obtain rfl := Option.some.inj hf
      exact W.zret (pc := 17) hx hb hr rfl (fun t ht hW => ⟨⟨_, (), rfl, rfl, zz_Bi (by rw [ht]; exact hP) (va_K.moved hW.alike hK) (hD)⟩, hS.F ht⟩) hS.2.2 dX0_isRung_17

def zf_X0_isThing (f_o_things : Int32) (p1 : Int32) : Option (Int32) :=
  if p1 < 0 then
    some (0 : Int32)
  else
    if f_o_things ≤ p1 then
      some (0 : Int32)
    else
      some (1 : Int32)
theorem zk_X0_isThing : yX0_isThing.cls = RX0 ∧ yX0_isThing.cls ≠ "java/lang/invoke/MethodHandle" ∧ yX0_isThing.cls ≠ "java/lang/invoke/VarHandle" ∧ (parseMethodDescriptor yX0_isThing.desc).map (fun d => d.parameters.length) = some 1 := by decide +kernel
set_option maxHeartbeats 4000000 in
set_option maxRecDepth 100000 in
theorem zt_X0_isThing (l : Launch) (dC : Nat → ClassId) (dI : Nat → Nat → Nat) (dA : Nat → ClassId) (adK adV : Nat → Nat) (sz : Nat) (a_o : Nat) (a_o_bars : Nat) (a_o_gives : Nat) (a_o_rough : Nat) (a_o_code : Nat) (f_o_top : Int32) (f_o_things : Int32) (f_o_startRung : Int32) (f_o_startThings : Int32) (f_o_startStrength : Int32) (f_o_startWind : Int32) (f_o_slips : Int32) (f_o_lines : Int32) (f_o_coded : Int32) (f_o_tiresFrom : Int32) (f_o_tiresTo : Int32) (f_o_mayFrom : Int32) (f_o_mayTo : Int32) (p1 : Int32) (r0 : Int32) (hf : zf_X0_isThing f_o_things p1 = some r0) : Met l yX0_isThing (.code yX0_isThing cX0_isThing 2 (some .boolean) :: zq_T) ({ frames := 0, cells := 0, slots := 0, locals := 0 }) (va_Pc [.ref a_o, .int p1] (zx_M dC dI dA adK adV [zo_X0 a_o f_o_top f_o_things a_o_bars a_o_gives a_o_rough f_o_startRung f_o_startThings f_o_startStrength f_o_startWind f_o_slips f_o_lines a_o_code f_o_coded f_o_tiresFrom f_o_tiresTo f_o_mayFrom f_o_mayTo] sz)) (va_Qi (fun (r : Int32) (_ : Unit) => r = r0) (fun _ t => zz_B dC dI dA (va_A [zo_X0 a_o f_o_top f_o_things a_o_bars a_o_gives a_o_rough f_o_startRung f_o_startThings f_o_startStrength f_o_startWind f_o_slips f_o_lines a_o_code f_o_coded f_o_tiresFrom f_o_tiresTo f_o_mayFrom f_o_mayTo] sz) [zo_X0 a_o f_o_top f_o_things a_o_bars a_o_gives a_o_rough f_o_startRung f_o_startThings f_o_startStrength f_o_startWind f_o_slips f_o_lines a_o_code f_o_coded f_o_tiresFrom f_o_tiresTo f_o_mayFrom f_o_mayTo] t) (va_A [zo_X0 a_o f_o_top f_o_things a_o_bars a_o_gives a_o_rough f_o_startRung f_o_startThings f_o_startStrength f_o_startWind f_o_slips f_o_lines a_o_code f_o_coded f_o_tiresFrom f_o_tiresTo f_o_mayFrom f_o_mayTo] sz)) 0 0 (va_A [zo_X0 a_o f_o_top f_o_things a_o_bars a_o_gives a_o_rough f_o_startRung f_o_startThings f_o_startStrength f_o_startWind f_o_slips f_o_lines a_o_code f_o_coded f_o_tiresFrom f_o_tiresTo f_o_mayFrom f_o_mayTo] sz) := by
  unfold zf_X0_isThing at hf
  refine Met.ofW (cc := cX0_isThing) (maxL := 2) (ret := (some .boolean)) (by decide) rfl ?_
  intro p e s m args below meth c s₁ B hml hv
  obtain ⟨rfl, ⟨hsz, hP, hK, hD0⟩, hZ⟩ := hv
  have hx := B.exec
  have hb := B.bytes
  have hr := B.returns
  have ht : ∀ w ∈ zq_T, w.before ([.ref a_o, .int p1] : List Value).toArray s = true := fun w hw => atoms_spec (ws := .code yX0_isThing cX0_isThing 2 (some .boolean) :: zq_T) B.pre w (List.mem_cons_of_mem _ hw)
  have hown : s.vm.findClass RX0 = some m.cls := findClass_of_methodNamed B.named
  have hlocks := B.notSynchronized
  subst hsz
  have hD := hD0.self (sz := s.heap.size)
  generalize hAe : va_A [zo_X0 a_o f_o_top f_o_things a_o_bars a_o_gives a_o_rough f_o_startRung f_o_startThings f_o_startStrength f_o_startWind f_o_slips f_o_lines a_o_code f_o_coded f_o_tiresFrom f_o_tiresTo f_o_mayFrom f_o_mayTo] s.heap.size = A at hD hZ ⊢
  have hA : ∀ q : Nat, s.heap.size ≤ q → A q := fun q h => by rw [← hAe]; exact Or.inr h
  clear hAe hD0
  have hS : va_S A s.heap s.heap [] := va_S.rf
  have hl := lv_entry ([.ref a_o, .int p1]) (n := 2) (Nat.le_of_ble_eq_true rfl)
  rw [lg_entry_eq]
  generalize (lg_sl ([.ref a_o, .int p1]) ++ List.replicate (2 - (lg_sl ([.ref a_o, .int p1])).length) Slot.unset).toArray = ls at hl ⊢
  have hl : lv_has ls 2 [(0, .ref a_o), (1, .int p1)] := hl
  refine lv_iload_n (pc := 0) hx hb dX0_isThing_0 rfl (lv_at hl 1 rfl) ?_
  refine lv_if_lt (tgt := 16) (pc := 1) hx hb dX0_isThing_1 rfl (fun hc => ?_) (fun hc => ?_)
  · have hf := za_t hf hc
    refine lv_iconst (v := (0 : Int32)) (pc := 16) hx hb dX0_isThing_16 (by decide) ?_
    obtain rfl := Option.some.inj hf
    exact W.zret (pc := 17) hx hb hr rfl (fun t ht hW => ⟨⟨_, (), rfl, rfl, zz_Bi (by rw [ht]; exact hP) (va_K.moved hW.alike hK) (hD)⟩, hS.F ht⟩) hS.2.2 dX0_isThing_17
  · have hf := za_f hf hc
    refine lv_iload_n (pc := 4) hx hb dX0_isThing_4 rfl (lv_at hl 1 rfl) ?_
    refine lv_aload_n (pc := 5) hx hb dX0_isThing_5 rfl (lv_at hl 0 rfl) ?_
    refine va_get (pc := 6) (D := (dC, dI)) (ci := 1) (v := .int f_o_things) (C := RX0) (T := TX0) (N := 17) hx hb ht zq_layX0 hown hK hP 0 rfl rfl 1 (by decide) (ht _ zq_12) (fun _ h9 => h9) rfl dX0_isThing_6 ?_
    refine lv_icmp_ge (tgt := 16) (pc := 9) hx hb dX0_isThing_9 rfl (fun hc => ?_) (fun hc => ?_)
    · have hf := za_t hf hc
      refine lv_iconst (v := (0 : Int32)) (pc := 16) hx hb dX0_isThing_16 (by decide) ?_
      obtain rfl := Option.some.inj hf
      exact W.zret (pc := 17) hx hb hr rfl (fun t ht hW => ⟨⟨_, (), rfl, rfl, zz_Bi (by rw [ht]; exact hP) (va_K.moved hW.alike hK) (hD)⟩, hS.F ht⟩) hS.2.2 dX0_isThing_17
    · have hf := za_f hf hc
      refine lv_iconst (v := (1 : Int32)) (pc := 12) hx hb dX0_isThing_12 (by decide) ?_
      refine lv_goto (tgt := 17) (pc := 13) hx hb dX0_isThing_13 rfl ?_
      obtain rfl := Option.some.inj hf
      exact W.zret (pc := 17) hx hb hr rfl (fun t ht hW => ⟨⟨_, (), rfl, rfl, zz_Bi (by rw [ht]; exact hP) (va_K.moved hW.alike hK) (hD)⟩, hS.F ht⟩) hS.2.2 dX0_isThing_17

def zf_X0_isSet (f_o_things : Int32) (p1 : Int32) : Option (Int32) :=
  if p1 < 0 then
    some (0 : Int32)
  else
    if ((1 : Int32) <<< (f_o_things &&& 31)) ≤ p1 then
      some (0 : Int32)
    else
      some (1 : Int32)
theorem zk_X0_isSet : yX0_isSet.cls = RX0 ∧ yX0_isSet.cls ≠ "java/lang/invoke/MethodHandle" ∧ yX0_isSet.cls ≠ "java/lang/invoke/VarHandle" ∧ (parseMethodDescriptor yX0_isSet.desc).map (fun d => d.parameters.length) = some 1 := by decide +kernel
set_option maxHeartbeats 4000000 in
set_option maxRecDepth 100000 in
theorem zt_X0_isSet (l : Launch) (dC : Nat → ClassId) (dI : Nat → Nat → Nat) (dA : Nat → ClassId) (adK adV : Nat → Nat) (sz : Nat) (a_o : Nat) (a_o_bars : Nat) (a_o_gives : Nat) (a_o_rough : Nat) (a_o_code : Nat) (f_o_top : Int32) (f_o_things : Int32) (f_o_startRung : Int32) (f_o_startThings : Int32) (f_o_startStrength : Int32) (f_o_startWind : Int32) (f_o_slips : Int32) (f_o_lines : Int32) (f_o_coded : Int32) (f_o_tiresFrom : Int32) (f_o_tiresTo : Int32) (f_o_mayFrom : Int32) (f_o_mayTo : Int32) (p1 : Int32) (r0 : Int32) (hf : zf_X0_isSet f_o_things p1 = some r0) : Met l yX0_isSet (.code yX0_isSet cX0_isSet 2 (some .boolean) :: zq_T) ({ frames := 0, cells := 0, slots := 0, locals := 0 }) (va_Pc [.ref a_o, .int p1] (zx_M dC dI dA adK adV [zo_X0 a_o f_o_top f_o_things a_o_bars a_o_gives a_o_rough f_o_startRung f_o_startThings f_o_startStrength f_o_startWind f_o_slips f_o_lines a_o_code f_o_coded f_o_tiresFrom f_o_tiresTo f_o_mayFrom f_o_mayTo] sz)) (va_Qi (fun (r : Int32) (_ : Unit) => r = r0) (fun _ t => zz_B dC dI dA (va_A [zo_X0 a_o f_o_top f_o_things a_o_bars a_o_gives a_o_rough f_o_startRung f_o_startThings f_o_startStrength f_o_startWind f_o_slips f_o_lines a_o_code f_o_coded f_o_tiresFrom f_o_tiresTo f_o_mayFrom f_o_mayTo] sz) [zo_X0 a_o f_o_top f_o_things a_o_bars a_o_gives a_o_rough f_o_startRung f_o_startThings f_o_startStrength f_o_startWind f_o_slips f_o_lines a_o_code f_o_coded f_o_tiresFrom f_o_tiresTo f_o_mayFrom f_o_mayTo] t) (va_A [zo_X0 a_o f_o_top f_o_things a_o_bars a_o_gives a_o_rough f_o_startRung f_o_startThings f_o_startStrength f_o_startWind f_o_slips f_o_lines a_o_code f_o_coded f_o_tiresFrom f_o_tiresTo f_o_mayFrom f_o_mayTo] sz)) 0 0 (va_A [zo_X0 a_o f_o_top f_o_things a_o_bars a_o_gives a_o_rough f_o_startRung f_o_startThings f_o_startStrength f_o_startWind f_o_slips f_o_lines a_o_code f_o_coded f_o_tiresFrom f_o_tiresTo f_o_mayFrom f_o_mayTo] sz) := by
  unfold zf_X0_isSet at hf
  refine Met.ofW (cc := cX0_isSet) (maxL := 2) (ret := (some .boolean)) (by decide) rfl ?_
  intro p e s m args below meth c s₁ B hml hv
  obtain ⟨rfl, ⟨hsz, hP, hK, hD0⟩, hZ⟩ := hv
  have hx := B.exec
  have hb := B.bytes
  have hr := B.returns
  have ht : ∀ w ∈ zq_T, w.before ([.ref a_o, .int p1] : List Value).toArray s = true := fun w hw => atoms_spec (ws := .code yX0_isSet cX0_isSet 2 (some .boolean) :: zq_T) B.pre w (List.mem_cons_of_mem _ hw)
  have hown : s.vm.findClass RX0 = some m.cls := findClass_of_methodNamed B.named
  have hlocks := B.notSynchronized
  subst hsz
  have hD := hD0.self (sz := s.heap.size)
  generalize hAe : va_A [zo_X0 a_o f_o_top f_o_things a_o_bars a_o_gives a_o_rough f_o_startRung f_o_startThings f_o_startStrength f_o_startWind f_o_slips f_o_lines a_o_code f_o_coded f_o_tiresFrom f_o_tiresTo f_o_mayFrom f_o_mayTo] s.heap.size = A at hD hZ ⊢
  have hA : ∀ q : Nat, s.heap.size ≤ q → A q := fun q h => by rw [← hAe]; exact Or.inr h
  clear hAe hD0
  have hS : va_S A s.heap s.heap [] := va_S.rf
  have hl := lv_entry ([.ref a_o, .int p1]) (n := 2) (Nat.le_of_ble_eq_true rfl)
  rw [lg_entry_eq]
  generalize (lg_sl ([.ref a_o, .int p1]) ++ List.replicate (2 - (lg_sl ([.ref a_o, .int p1])).length) Slot.unset).toArray = ls at hl ⊢
  have hl : lv_has ls 2 [(0, .ref a_o), (1, .int p1)] := hl
  refine lv_iload_n (pc := 0) hx hb dX0_isSet_0 rfl (lv_at hl 1 rfl) ?_
  refine lv_if_lt (tgt := 18) (pc := 1) hx hb dX0_isSet_1 rfl (fun hc => ?_) (fun hc => ?_)
  · have hf := za_t hf hc
    refine lv_iconst (v := (0 : Int32)) (pc := 18) hx hb dX0_isSet_18 (by decide) ?_
    obtain rfl := Option.some.inj hf
    exact W.zret (pc := 19) hx hb hr rfl (fun t ht hW => ⟨⟨_, (), rfl, rfl, zz_Bi (by rw [ht]; exact hP) (va_K.moved hW.alike hK) (hD)⟩, hS.F ht⟩) hS.2.2 dX0_isSet_19
  · have hf := za_f hf hc
    refine lv_iload_n (pc := 4) hx hb dX0_isSet_4 rfl (lv_at hl 1 rfl) ?_
    refine lv_iconst (v := (1 : Int32)) (pc := 5) hx hb dX0_isSet_5 (by decide) ?_
    refine lv_aload_n (pc := 6) hx hb dX0_isSet_6 rfl (lv_at hl 0 rfl) ?_
    refine va_get (pc := 7) (D := (dC, dI)) (ci := 1) (v := .int f_o_things) (C := RX0) (T := TX0) (N := 17) hx hb ht zq_layX0 hown hK hP 0 rfl rfl 1 (by decide) (ht _ zq_12) (fun _ h9 => h9) rfl dX0_isSet_7 ?_
    refine lv_ishl (pc := 10) hx hb dX0_isSet_10 ?_
    refine lv_icmp_ge (tgt := 18) (pc := 11) hx hb dX0_isSet_11 rfl (fun hc => ?_) (fun hc => ?_)
    · have hf := za_t hf hc
      refine lv_iconst (v := (0 : Int32)) (pc := 18) hx hb dX0_isSet_18 (by decide) ?_
      obtain rfl := Option.some.inj hf
      exact W.zret (pc := 19) hx hb hr rfl (fun t ht hW => ⟨⟨_, (), rfl, rfl, zz_Bi (by rw [ht]; exact hP) (va_K.moved hW.alike hK) (hD)⟩, hS.F ht⟩) hS.2.2 dX0_isSet_19
    · have hf := za_f hf hc
      refine lv_iconst (v := (1 : Int32)) (pc := 14) hx hb dX0_isSet_14 (by decide) ?_
      refine lv_goto (tgt := 19) (pc := 15) hx hb dX0_isSet_15 rfl ?_
      obtain rfl := Option.some.inj hf
      exact W.zret (pc := 19) hx hb hr rfl (fun t ht hW => ⟨⟨_, (), rfl, rfl, zz_Bi (by rw [ht]; exact hP) (va_K.moved hW.alike hK) (hD)⟩, hS.F ht⟩) hS.2.2 dX0_isSet_19

def zf_X0_holds (b_o_bars : (Nat → Int32)) (b_o_gives : (Nat → Int32)) (p1 : Int32) (p2 : Int32) : Option (Int32) :=
  zd_1 (za_ld b_o_bars 9 p1) (fun v1 =>
  zd_1 (za_ld b_o_gives 9 p1) (fun v2 =>
  if (((v1 ||| v2) >>> (p2 &&& 31)) &&& (1 : Int32)) = 0 then
    some (1 : Int32)
  else
    some (0 : Int32)))
theorem zk_X0_holds : yX0_holds.cls = RX0 ∧ yX0_holds.cls ≠ "java/lang/invoke/MethodHandle" ∧ yX0_holds.cls ≠ "java/lang/invoke/VarHandle" ∧ (parseMethodDescriptor yX0_holds.desc).map (fun d => d.parameters.length) = some 2 := by decide +kernel
set_option maxHeartbeats 4000000 in
set_option maxRecDepth 100000 in
theorem zt_X0_holds (l : Launch) (dC : Nat → ClassId) (dI : Nat → Nat → Nat) (dA : Nat → ClassId) (adK adV : Nat → Nat) (sz : Nat) (a_o : Nat) (a_o_bars : Nat) (a_o_gives : Nat) (a_o_rough : Nat) (a_o_code : Nat) (f_o_top : Int32) (f_o_things : Int32) (f_o_startRung : Int32) (f_o_startThings : Int32) (f_o_startStrength : Int32) (f_o_startWind : Int32) (f_o_slips : Int32) (f_o_lines : Int32) (f_o_coded : Int32) (f_o_tiresFrom : Int32) (f_o_tiresTo : Int32) (f_o_mayFrom : Int32) (f_o_mayTo : Int32) (b_o_bars : (Nat → Int32)) (b_o_gives : (Nat → Int32)) (p1 : Int32) (p2 : Int32) (r0 : Int32) (hf : zf_X0_holds b_o_bars b_o_gives p1 p2 = some r0) : Met l yX0_holds (.code yX0_holds cX0_holds 3 (some .boolean) :: zq_T) ({ frames := 0, cells := 0, slots := 0, locals := 0 }) (va_Pc [.ref a_o, .int p1, .int p2] (zx_M dC dI dA adK adV [zo_X0 a_o f_o_top f_o_things a_o_bars a_o_gives a_o_rough f_o_startRung f_o_startThings f_o_startStrength f_o_startWind f_o_slips f_o_lines a_o_code f_o_coded f_o_tiresFrom f_o_tiresTo f_o_mayFrom f_o_mayTo, (a_o_bars, .inl (dA 0, 9, .inl b_o_bars)), (a_o_gives, .inl (dA 0, 9, .inl b_o_gives))] sz)) (va_Qi (fun (r : Int32) (_ : Unit) => r = r0) (fun _ t => zz_B dC dI dA (va_A [zo_X0 a_o f_o_top f_o_things a_o_bars a_o_gives a_o_rough f_o_startRung f_o_startThings f_o_startStrength f_o_startWind f_o_slips f_o_lines a_o_code f_o_coded f_o_tiresFrom f_o_tiresTo f_o_mayFrom f_o_mayTo, (a_o_bars, .inl (dA 0, 9, .inl b_o_bars)), (a_o_gives, .inl (dA 0, 9, .inl b_o_gives))] sz) [zo_X0 a_o f_o_top f_o_things a_o_bars a_o_gives a_o_rough f_o_startRung f_o_startThings f_o_startStrength f_o_startWind f_o_slips f_o_lines a_o_code f_o_coded f_o_tiresFrom f_o_tiresTo f_o_mayFrom f_o_mayTo, (a_o_bars, .inl (dA 0, 9, .inl b_o_bars)), (a_o_gives, .inl (dA 0, 9, .inl b_o_gives))] t) (va_A [zo_X0 a_o f_o_top f_o_things a_o_bars a_o_gives a_o_rough f_o_startRung f_o_startThings f_o_startStrength f_o_startWind f_o_slips f_o_lines a_o_code f_o_coded f_o_tiresFrom f_o_tiresTo f_o_mayFrom f_o_mayTo, (a_o_bars, .inl (dA 0, 9, .inl b_o_bars)), (a_o_gives, .inl (dA 0, 9, .inl b_o_gives))] sz)) 0 0 (va_A [zo_X0 a_o f_o_top f_o_things a_o_bars a_o_gives a_o_rough f_o_startRung f_o_startThings f_o_startStrength f_o_startWind f_o_slips f_o_lines a_o_code f_o_coded f_o_tiresFrom f_o_tiresTo f_o_mayFrom f_o_mayTo, (a_o_bars, .inl (dA 0, 9, .inl b_o_bars)), (a_o_gives, .inl (dA 0, 9, .inl b_o_gives))] sz) := by
  unfold zf_X0_holds at hf
  refine Met.ofW (cc := cX0_holds) (maxL := 3) (ret := (some .boolean)) (by decide) rfl ?_
  intro p e s m args below meth c s₁ B hml hv
  obtain ⟨rfl, ⟨hsz, hP, hK, hD0⟩, hZ⟩ := hv
  have hx := B.exec
  have hb := B.bytes
  have hr := B.returns
  have ht : ∀ w ∈ zq_T, w.before ([.ref a_o, .int p1, .int p2] : List Value).toArray s = true := fun w hw => atoms_spec (ws := .code yX0_holds cX0_holds 3 (some .boolean) :: zq_T) B.pre w (List.mem_cons_of_mem _ hw)
  have hown : s.vm.findClass RX0 = some m.cls := findClass_of_methodNamed B.named
  have hlocks := B.notSynchronized
  subst hsz
  have hD := hD0.self (sz := s.heap.size)
  generalize hAe : va_A [zo_X0 a_o f_o_top f_o_things a_o_bars a_o_gives a_o_rough f_o_startRung f_o_startThings f_o_startStrength f_o_startWind f_o_slips f_o_lines a_o_code f_o_coded f_o_tiresFrom f_o_tiresTo f_o_mayFrom f_o_mayTo, (a_o_bars, .inl (dA 0, 9, .inl b_o_bars)), (a_o_gives, .inl (dA 0, 9, .inl b_o_gives))] s.heap.size = A at hD hZ ⊢
  have hA : ∀ q : Nat, s.heap.size ≤ q → A q := fun q h => by rw [← hAe]; exact Or.inr h
  clear hAe hD0
  have hS : va_S A s.heap s.heap [] := va_S.rf
  have hl := lv_entry ([.ref a_o, .int p1, .int p2]) (n := 3) (Nat.le_of_ble_eq_true rfl)
  rw [lg_entry_eq]
  generalize (lg_sl ([.ref a_o, .int p1, .int p2]) ++ List.replicate (3 - (lg_sl ([.ref a_o, .int p1, .int p2])).length) Slot.unset).toArray = ls at hl ⊢
  have hl : lv_has ls 3 [(0, .ref a_o), (1, .int p1), (2, .int p2)] := hl
  refine lv_aload_n (pc := 0) hx hb dX0_holds_0 rfl (lv_at hl 0 rfl) ?_
  refine va_get (pc := 1) (D := (dC, dI)) (ci := 1) (v := .ref a_o_bars) (C := RX0) (T := TX0) (N := 17) hx hb ht zq_layX0 hown hK hP 0 rfl rfl 2 (by decide) (ht _ zq_5) (fun _ h9 => h9) rfl dX0_holds_1 ?_
  refine lv_iload_n (pc := 4) hx hb dX0_holds_4 rfl (lv_at hl 1 rfl) ?_
  obtain ⟨v1, hv1, hf⟩ := zc_1 hf
  refine zw_iald (pc := 5) hx hb hK hP 1 0 rfl rfl hv1 dX0_holds_5 ?_
  refine lv_aload_n (pc := 6) hx hb dX0_holds_6 rfl (lv_at hl 0 rfl) ?_
  refine va_get (pc := 7) (D := (dC, dI)) (ci := 1) (v := .ref a_o_gives) (C := RX0) (T := TX0) (N := 17) hx hb ht zq_layX0 hown hK hP 0 rfl rfl 3 (by decide) (ht _ zq_6) (fun _ h9 => h9) rfl dX0_holds_7 ?_
  refine lv_iload_n (pc := 10) hx hb dX0_holds_10 rfl (lv_at hl 1 rfl) ?_
  obtain ⟨v2, hv2, hf⟩ := zc_1 hf
  refine zw_iald (pc := 11) hx hb hK hP 2 0 rfl rfl hv2 dX0_holds_11 ?_
  refine lv_ior (pc := 12) hx hb dX0_holds_12 ?_
  refine lv_iload_n (pc := 13) hx hb dX0_holds_13 rfl (lv_at hl 2 rfl) ?_
  refine lv_ishr (pc := 14) hx hb dX0_holds_14 ?_
  refine lv_iconst (v := (1 : Int32)) (pc := 15) hx hb dX0_holds_15 (by decide) ?_
  refine lv_iand (pc := 16) hx hb dX0_holds_16 ?_
  refine lv_if_ne (tgt := 24) (pc := 17) hx hb dX0_holds_17 rfl (fun hc => ?_) (fun hc => ?_)
  · have hf := za_f hf hc
    refine lv_iconst (v := (0 : Int32)) (pc := 24) hx hb dX0_holds_24 (by decide) ?_
    obtain rfl := Option.some.inj hf
    exact W.zret (pc := 25) hx hb hr rfl (fun t ht hW => ⟨⟨_, (), rfl, rfl, zz_Bi (by rw [ht]; exact hP) (va_K.moved hW.alike hK) (hD)⟩, hS.F ht⟩) hS.2.2 dX0_holds_25
  · have hf := za_t hf hc
    refine lv_iconst (v := (1 : Int32)) (pc := 20) hx hb dX0_holds_20 (by decide) ?_
    refine lv_goto (tgt := 25) (pc := 21) hx hb dX0_holds_21 rfl ?_
    obtain rfl := Option.some.inj hf
    exact W.zret (pc := 25) hx hb hr rfl (fun t ht hW => ⟨⟨_, (), rfl, rfl, zz_Bi (by rw [ht]; exact hP) (va_K.moved hW.alike hK) (hD)⟩, hS.F ht⟩) hS.2.2 dX0_holds_25

def zf_X0_addSign (f_o_coded : Int32) (b_o_code : (Nat → Int32)) (p1 : Int32) : Option (Int32 × Int32 × (Nat → Int32)) :=
  zd_2 (
    if (900 : Int32) ≤ f_o_coded then
      some (f_o_coded, b_o_code)
    else
      zd_1 (za_st b_o_code 900 f_o_coded p1) (fun a1 =>
      zd_1 (some ((f_o_coded + (1 : Int32)))) (fun v2 =>
      some (v2, a1)))) (fun v3 a4 =>
  some ((1 : Int32), v3, a4))
theorem zk_X0_addSign : yX0_addSign.cls = RX0 ∧ yX0_addSign.cls ≠ "java/lang/invoke/MethodHandle" ∧ yX0_addSign.cls ≠ "java/lang/invoke/VarHandle" ∧ (parseMethodDescriptor yX0_addSign.desc).map (fun d => d.parameters.length) = some 1 := by decide +kernel
set_option maxHeartbeats 4000000 in
set_option maxRecDepth 100000 in
theorem zt_X0_addSign (l : Launch) (dC : Nat → ClassId) (dI : Nat → Nat → Nat) (dA : Nat → ClassId) (adK adV : Nat → Nat) (sz : Nat) (a_o : Nat) (a_o_bars : Nat) (a_o_gives : Nat) (a_o_rough : Nat) (a_o_code : Nat) (f_o_top : Int32) (f_o_things : Int32) (f_o_startRung : Int32) (f_o_startThings : Int32) (f_o_startStrength : Int32) (f_o_startWind : Int32) (f_o_slips : Int32) (f_o_lines : Int32) (f_o_coded : Int32) (f_o_tiresFrom : Int32) (f_o_tiresTo : Int32) (f_o_mayFrom : Int32) (f_o_mayTo : Int32) (b_o_code : (Nat → Int32)) (p1 : Int32) (r0 : Int32) (o1 : Int32) (o2 : (Nat → Int32)) (hf : zf_X0_addSign f_o_coded b_o_code p1 = some (r0, o1, o2)) : Met l yX0_addSign (.code yX0_addSign cX0_addSign 2 (some .boolean) :: zq_T) ({ frames := 0, cells := 0, slots := 0, locals := 0 }) (va_Pc [.ref a_o, .int p1] (zx_M dC dI dA adK adV [zo_X0 a_o f_o_top f_o_things a_o_bars a_o_gives a_o_rough f_o_startRung f_o_startThings f_o_startStrength f_o_startWind f_o_slips f_o_lines a_o_code f_o_coded f_o_tiresFrom f_o_tiresTo f_o_mayFrom f_o_mayTo, (a_o_code, .inl (dA 0, 900, .inl b_o_code))] sz)) (va_Qi (fun (r : Int32) (_ : Unit) => r = r0) (fun _ t => zz_B dC dI dA (va_A [zo_X0 a_o f_o_top f_o_things a_o_bars a_o_gives a_o_rough f_o_startRung f_o_startThings f_o_startStrength f_o_startWind f_o_slips f_o_lines a_o_code f_o_coded f_o_tiresFrom f_o_tiresTo f_o_mayFrom f_o_mayTo, (a_o_code, .inl (dA 0, 900, .inl b_o_code))] sz) [zo_X0 a_o f_o_top f_o_things a_o_bars a_o_gives a_o_rough f_o_startRung f_o_startThings f_o_startStrength f_o_startWind f_o_slips f_o_lines a_o_code o1 f_o_tiresFrom f_o_tiresTo f_o_mayFrom f_o_mayTo, (a_o_code, .inl (dA 0, 900, .inl o2))] t) (va_A [zo_X0 a_o f_o_top f_o_things a_o_bars a_o_gives a_o_rough f_o_startRung f_o_startThings f_o_startStrength f_o_startWind f_o_slips f_o_lines a_o_code f_o_coded f_o_tiresFrom f_o_tiresTo f_o_mayFrom f_o_mayTo, (a_o_code, .inl (dA 0, 900, .inl b_o_code))] sz)) 0 0 (va_A [zo_X0 a_o f_o_top f_o_things a_o_bars a_o_gives a_o_rough f_o_startRung f_o_startThings f_o_startStrength f_o_startWind f_o_slips f_o_lines a_o_code f_o_coded f_o_tiresFrom f_o_tiresTo f_o_mayFrom f_o_mayTo, (a_o_code, .inl (dA 0, 900, .inl b_o_code))] sz) := by
  unfold zf_X0_addSign at hf
  refine Met.ofW (cc := cX0_addSign) (maxL := 2) (ret := (some .boolean)) (by decide) rfl ?_
  intro p e s m args below meth c s₁ B hml hv
  obtain ⟨rfl, ⟨hsz, hP, hK, hD0⟩, hZ⟩ := hv
  have hx := B.exec
  have hb := B.bytes
  have hr := B.returns
  have ht : ∀ w ∈ zq_T, w.before ([.ref a_o, .int p1] : List Value).toArray s = true := fun w hw => atoms_spec (ws := .code yX0_addSign cX0_addSign 2 (some .boolean) :: zq_T) B.pre w (List.mem_cons_of_mem _ hw)
  have hown : s.vm.findClass RX0 = some m.cls := findClass_of_methodNamed B.named
  have hlocks := B.notSynchronized
  subst hsz
  have hD := hD0.self (sz := s.heap.size)
  generalize hAe : va_A [zo_X0 a_o f_o_top f_o_things a_o_bars a_o_gives a_o_rough f_o_startRung f_o_startThings f_o_startStrength f_o_startWind f_o_slips f_o_lines a_o_code f_o_coded f_o_tiresFrom f_o_tiresTo f_o_mayFrom f_o_mayTo, (a_o_code, .inl (dA 0, 900, .inl b_o_code))] s.heap.size = A at hD hZ ⊢
  have hA : ∀ q : Nat, s.heap.size ≤ q → A q := fun q h => by rw [← hAe]; exact Or.inr h
  clear hAe hD0
  have hS : va_S A s.heap s.heap [] := va_S.rf
  have hl := lv_entry ([.ref a_o, .int p1]) (n := 2) (Nat.le_of_ble_eq_true rfl)
  rw [lg_entry_eq]
  generalize (lg_sl ([.ref a_o, .int p1]) ++ List.replicate (2 - (lg_sl ([.ref a_o, .int p1])).length) Slot.unset).toArray = ls at hl ⊢
  have hl : lv_has ls 2 [(0, .ref a_o), (1, .int p1)] := hl
  refine lv_aload_n (pc := 0) hx hb dX0_addSign_0 rfl (lv_at hl 0 rfl) ?_
  refine va_get (pc := 1) (D := (dC, dI)) (ci := 1) (v := .int f_o_coded) (C := RX0) (T := TX0) (N := 17) hx hb ht zq_layX0 hown hK hP 0 rfl rfl 12 (by decide) (ht _ zq_18) (fun _ h9 => h9) rfl dX0_addSign_1 ?_
  refine lv_sipush (v := (900 : Int32)) (pc := 4) hx hb dX0_addSign_4 (by decide) ?_
  obtain ⟨v3, a4, hj, hf⟩ := zc_2 hf
  refine zj_join (pcJ := 30) (stk := []) (X := fun H locs ls => lv_has ls 2 [] ∧ va_P (dC, dI) zz_cls [zo_X0 a_o f_o_top f_o_things a_o_bars a_o_gives a_o_rough f_o_startRung f_o_startThings f_o_startStrength f_o_startWind f_o_slips f_o_lines a_o_code v3 f_o_tiresFrom f_o_tiresTo f_o_mayFrom f_o_mayTo, (a_o_code, .inl (dA 0, 900, .inl a4))] H ∧ va_D A [zo_X0 a_o f_o_top f_o_things a_o_bars a_o_gives a_o_rough f_o_startRung f_o_startThings f_o_startStrength f_o_startWind f_o_slips f_o_lines a_o_code v3 f_o_tiresFrom f_o_tiresTo f_o_mayFrom f_o_mayTo, (a_o_code, .inl (dA 0, 900, .inl a4))] ∧ va_S A s.heap H locs) (fun H locs ls hX => ?_) (fun J30 => ?_)
  · obtain ⟨hl, hP, hD, hS⟩ := hX
    clear hj
    refine lv_iconst (v := (1 : Int32)) (pc := 30) hx hb dX0_addSign_30 (by decide) ?_
    obtain ⟨rfl, rfl, rfl⟩ := zi_3 hf
    exact W.zret (pc := 31) hx hb hr rfl (fun t ht hW => ⟨⟨_, (), rfl, rfl, zz_Bi (by rw [ht]; exact hP) (va_K.moved hW.alike hK) (hD)⟩, hS.F ht⟩) hS.2.2 dX0_addSign_31
  · clear hf
    have hf := hj
    clear hj
    refine lv_icmp_ge (tgt := 30) (pc := 7) hx hb dX0_addSign_7 rfl (fun hc => ?_) (fun hc => ?_)
    · have hf := za_t hf hc
      obtain ⟨rfl, rfl⟩ := zi_2 hf
      exact J30 _ _ _ ⟨lv_sub hl [] rfl, hP, hD, hS⟩
    · have hf := za_f hf hc
      refine lv_aload_n (pc := 10) hx hb dX0_addSign_10 rfl (lv_at hl 0 rfl) ?_
      refine va_get (pc := 11) (D := (dC, dI)) (ci := 1) (v := .ref a_o_code) (C := RX0) (T := TX0) (N := 17) hx hb ht zq_layX0 hown hK hP 0 rfl rfl 11 (by decide) (ht _ zq_8) (fun _ h9 => h9) rfl dX0_addSign_11 ?_
      refine lv_aload_n (pc := 14) hx hb dX0_addSign_14 rfl (lv_at hl 0 rfl) ?_
      refine va_get (pc := 15) (D := (dC, dI)) (ci := 1) (v := .int f_o_coded) (C := RX0) (T := TX0) (N := 17) hx hb ht zq_layX0 hown hK hP 0 rfl rfl 12 (by decide) (ht _ zq_18) (fun _ h9 => h9) rfl dX0_addSign_15 ?_
      refine lv_iload_n (pc := 18) hx hb dX0_addSign_18 rfl (lv_at hl 1 rfl) ?_
      obtain ⟨a1, ha1, hf⟩ := zc_1 hf
      refine zw_iast (pc := 19) hx hb hK hP hD hS 1 0 rfl rfl ha1 dX0_addSign_19 (fun H locs hP hD hS => ?_)
      have hP : va_P (dC, dI) zz_cls [zo_X0 a_o f_o_top f_o_things a_o_bars a_o_gives a_o_rough f_o_startRung f_o_startThings f_o_startStrength f_o_startWind f_o_slips f_o_lines a_o_code f_o_coded f_o_tiresFrom f_o_tiresTo f_o_mayFrom f_o_mayTo, (a_o_code, .inl (dA 0, 900, .inl a1))] H := hP
      have hD : va_D A [zo_X0 a_o f_o_top f_o_things a_o_bars a_o_gives a_o_rough f_o_startRung f_o_startThings f_o_startStrength f_o_startWind f_o_slips f_o_lines a_o_code f_o_coded f_o_tiresFrom f_o_tiresTo f_o_mayFrom f_o_mayTo, (a_o_code, .inl (dA 0, 900, .inl a1))] := hD
      refine lv_aload_n (pc := 20) hx hb dX0_addSign_20 rfl (lv_at hl 0 rfl) ?_
      refine lv_dup (pc := 21) hx hb dX0_addSign_21 rfl ?_
      refine va_get (pc := 22) (D := (dC, dI)) (ci := 1) (v := .int f_o_coded) (C := RX0) (T := TX0) (N := 17) hx hb ht zq_layX0 hown hK hP 0 rfl rfl 12 (by decide) (ht _ zq_18) (fun _ h9 => h9) rfl dX0_addSign_22 ?_
      refine lv_iconst (v := (1 : Int32)) (pc := 25) hx hb dX0_addSign_25 (by decide) ?_
      refine lv_iadd (pc := 26) hx hb dX0_addSign_26 ?_
      obtain ⟨v2, hv2, hf⟩ := zc_1 hf
      refine zw_top (hv2) ?_
      refine va_put (pc := 27) (D := (dC, dI)) (ci := 1) (v := .int v2) (ty := .int) (C := RX0) (T := TX0) (N := 17) hx hb ht zq_layX0 tyX0 tyX0_ok nmX0 hown hK hP hD hS 0 rfl rfl 12 (by decide) (ht _ zq_18) (fun _ h9 => h9) rfl (by decide +kernel) rfl rfl (Nat.le_of_ble_eq_true rfl) dX0_addSign_27 (fun H locs hP hD hS => ?_)
      have hP : va_P (dC, dI) zz_cls [zo_X0 a_o f_o_top f_o_things a_o_bars a_o_gives a_o_rough f_o_startRung f_o_startThings f_o_startStrength f_o_startWind f_o_slips f_o_lines a_o_code v2 f_o_tiresFrom f_o_tiresTo f_o_mayFrom f_o_mayTo, (a_o_code, .inl (dA 0, 900, .inl a1))] H := hP
      have hD : va_D A [zo_X0 a_o f_o_top f_o_things a_o_bars a_o_gives a_o_rough f_o_startRung f_o_startThings f_o_startStrength f_o_startWind f_o_slips f_o_lines a_o_code v2 f_o_tiresFrom f_o_tiresTo f_o_mayFrom f_o_mayTo, (a_o_code, .inl (dA 0, 900, .inl a1))] := hD
      obtain ⟨rfl, rfl⟩ := zi_2 hf
      exact J30 _ _ _ ⟨lv_sub hl [] rfl, hP, hD, hS⟩

def zf_X1_forget (f_o_known : Int32) : Option (Int32) :=
  some (0 : Int32)
theorem zk_X1_forget : yX1_forget.cls = RX1 ∧ yX1_forget.cls ≠ "java/lang/invoke/MethodHandle" ∧ yX1_forget.cls ≠ "java/lang/invoke/VarHandle" ∧ (parseMethodDescriptor yX1_forget.desc).map (fun d => d.parameters.length) = some 0 := by decide +kernel
set_option maxHeartbeats 4000000 in
set_option maxRecDepth 100000 in
theorem zt_X1_forget (l : Launch) (dC : Nat → ClassId) (dI : Nat → Nat → Nat) (dA : Nat → ClassId) (adK adV : Nat → Nat) (sz : Nat) (a_o : Nat) (a_m : Nat) (a_o_order : Nat) (a_o_depth : Nat) (a_o_from : Nat) (f_o_size : Int32) (f_o_known : Int32) (o1 : Int32) (hf : zf_X1_forget f_o_known = some o1) : Met l yX1_forget (.code yX1_forget cX1_forget 1 none :: zq_T) ({ frames := 0, cells := 0, slots := 0, locals := 0 }) (va_Pc [.ref a_o] (zx_M dC dI dA adK adV [zo_X1 a_o a_m a_o_order a_o_depth a_o_from f_o_size f_o_known] sz)) (va_Qv (fun _ : Unit => True) (fun _ t => zz_B dC dI dA (va_A [zo_X1 a_o a_m a_o_order a_o_depth a_o_from f_o_size f_o_known] sz) [zo_X1 a_o a_m a_o_order a_o_depth a_o_from f_o_size o1] t) (va_A [zo_X1 a_o a_m a_o_order a_o_depth a_o_from f_o_size f_o_known] sz)) 0 0 (va_A [zo_X1 a_o a_m a_o_order a_o_depth a_o_from f_o_size f_o_known] sz) := by
  unfold zf_X1_forget at hf
  refine Met.ofW (cc := cX1_forget) (maxL := 1) (ret := none) (by decide) rfl ?_
  intro p e s m args below meth c s₁ B hml hv
  obtain ⟨rfl, ⟨hsz, hP, hK, hD0⟩, hZ⟩ := hv
  have hx := B.exec
  have hb := B.bytes
  have hr := B.returns
  have ht : ∀ w ∈ zq_T, w.before ([.ref a_o] : List Value).toArray s = true := fun w hw => atoms_spec (ws := .code yX1_forget cX1_forget 1 none :: zq_T) B.pre w (List.mem_cons_of_mem _ hw)
  have hown : s.vm.findClass RX1 = some m.cls := findClass_of_methodNamed B.named
  have hlocks := B.notSynchronized
  subst hsz
  have hD := hD0.self (sz := s.heap.size)
  generalize hAe : va_A [zo_X1 a_o a_m a_o_order a_o_depth a_o_from f_o_size f_o_known] s.heap.size = A at hD hZ ⊢
  have hA : ∀ q : Nat, s.heap.size ≤ q → A q := fun q h => by rw [← hAe]; exact Or.inr h
  clear hAe hD0
  have hS : va_S A s.heap s.heap [] := va_S.rf
  have hl := lv_entry ([.ref a_o]) (n := 1) (Nat.le_of_ble_eq_true rfl)
  rw [lg_entry_eq]
  generalize (lg_sl ([.ref a_o]) ++ List.replicate (1 - (lg_sl ([.ref a_o])).length) Slot.unset).toArray = ls at hl ⊢
  have hl : lv_has ls 1 [(0, .ref a_o)] := hl
  refine lv_aload_n (pc := 0) hx hb dX1_forget_0 rfl (lv_at hl 0 rfl) ?_
  refine lv_iconst (v := (0 : Int32)) (pc := 1) hx hb dX1_forget_1 (by decide) ?_
  refine va_put (pc := 2) (D := (dC, dI)) (ci := 2) (v := .int (0 : Int32)) (ty := .boolean) (C := RX1) (T := TX1) (N := 6) hx hb ht zq_layX1 tyX1 tyX1_ok nmX1 hown hK hP hD hS 0 rfl rfl 5 (by decide) (ht _ zq_43) (fun _ h9 => h9) rfl (by decide +kernel) rfl rfl (Nat.le_of_ble_eq_true rfl) dX1_forget_2 (fun H locs hP hD hS => ?_)
  have hP : va_P (dC, dI) zz_cls [zo_X1 a_o a_m a_o_order a_o_depth a_o_from f_o_size (0 : Int32)] H := hP
  have hD : va_D A [zo_X1 a_o a_m a_o_order a_o_depth a_o_from f_o_size (0 : Int32)] := hD
  obtain rfl := Option.some.inj hf
  exact W.vret (pc := 5) hx hb hr (fun t ht hW => ⟨⟨(), rfl, trivial, zz_Bi (by rw [ht]; exact hP) (va_K.moved hW.alike hK) (hD)⟩, hS.F ht⟩) hS.2.2 dX1_forget_5

def zf_X10_rungOf (p0 : Int32) : Option (Int32) :=
  some (p0 / (320 : Int32))
theorem zk_X10_rungOf : yX10_rungOf.cls = RX10 ∧ yX10_rungOf.cls ≠ "java/lang/invoke/MethodHandle" ∧ yX10_rungOf.cls ≠ "java/lang/invoke/VarHandle" ∧ (parseMethodDescriptor yX10_rungOf.desc).map (fun d => d.parameters.length) = some 1 := by decide +kernel
set_option maxHeartbeats 4000000 in
set_option maxRecDepth 100000 in
theorem zt_X10_rungOf (l : Launch) (dC : Nat → ClassId) (dI : Nat → Nat → Nat) (dA : Nat → ClassId) (adK adV : Nat → Nat) (sz : Nat) (p0 : Int32) (r0 : Int32) (hf : zf_X10_rungOf p0 = some r0) : Met l yX10_rungOf (.code yX10_rungOf cX10_rungOf 1 (some .int) :: zq_T) ({ frames := 0, cells := 0, slots := 0, locals := 0 }) (va_Pc [.int p0] (zx_M dC dI dA adK adV [] sz)) (va_Qi (fun (r : Int32) (_ : Unit) => r = r0) (fun _ t => zz_B dC dI dA (va_A [] sz) [] t) (va_A [] sz)) 0 0 (va_A [] sz) := by
  unfold zf_X10_rungOf at hf
  refine Met.ofW (cc := cX10_rungOf) (maxL := 1) (ret := (some .int)) (by decide) rfl ?_
  intro p e s m args below meth c s₁ B hml hv
  obtain ⟨rfl, ⟨hsz, hP, hK, hD0⟩, hZ⟩ := hv
  have hx := B.exec
  have hb := B.bytes
  have hr := B.returns
  have ht : ∀ w ∈ zq_T, w.before ([.int p0] : List Value).toArray s = true := fun w hw => atoms_spec (ws := .code yX10_rungOf cX10_rungOf 1 (some .int) :: zq_T) B.pre w (List.mem_cons_of_mem _ hw)
  have hown : s.vm.findClass RX10 = some m.cls := findClass_of_methodNamed B.named
  have hlocks := B.notSynchronized
  subst hsz
  have hD := hD0.self (sz := s.heap.size)
  generalize hAe : va_A [] s.heap.size = A at hD hZ ⊢
  have hA : ∀ q : Nat, s.heap.size ≤ q → A q := fun q h => by rw [← hAe]; exact Or.inr h
  clear hAe hD0
  have hS : va_S A s.heap s.heap [] := va_S.rf
  have hl := lv_entry ([.int p0]) (n := 1) (Nat.le_of_ble_eq_true rfl)
  rw [lg_entry_eq]
  generalize (lg_sl ([.int p0]) ++ List.replicate (1 - (lg_sl ([.int p0])).length) Slot.unset).toArray = ls at hl ⊢
  have hl : lv_has ls 1 [(0, .int p0)] := hl
  refine lv_iload_n (pc := 0) hx hb dX10_rungOf_0 rfl (lv_at hl 0 rfl) ?_
  refine lv_sipush (v := (320 : Int32)) (pc := 1) hx hb dX10_rungOf_1 (by decide) ?_
  refine lv_idiv (pc := 4) hx hb dX10_rungOf_4 (by decide) ?_
  obtain rfl := Option.some.inj hf
  exact W.iret (pc := 5) hx hb hr (fun t ht hW => ⟨⟨_, (), rfl, rfl, zz_Bi (by rw [ht]; exact hP) (va_K.moved hW.alike hK) (hD)⟩, hS.F ht⟩) hS.2.2 dX10_rungOf_5

def zf_X10_standOf (p0 : Int32) (p1 : Int32) (p2 : Int32) : Option (Int32) :=
  some ((((p0 * (64 : Int32)) + p1) * (5 : Int32)) + p2)
theorem zk_X10_standOf : yX10_standOf.cls = RX10 ∧ yX10_standOf.cls ≠ "java/lang/invoke/MethodHandle" ∧ yX10_standOf.cls ≠ "java/lang/invoke/VarHandle" ∧ (parseMethodDescriptor yX10_standOf.desc).map (fun d => d.parameters.length) = some 3 := by decide +kernel
set_option maxHeartbeats 4000000 in
set_option maxRecDepth 100000 in
theorem zt_X10_standOf (l : Launch) (dC : Nat → ClassId) (dI : Nat → Nat → Nat) (dA : Nat → ClassId) (adK adV : Nat → Nat) (sz : Nat) (p0 : Int32) (p1 : Int32) (p2 : Int32) (r0 : Int32) (hf : zf_X10_standOf p0 p1 p2 = some r0) : Met l yX10_standOf (.code yX10_standOf cX10_standOf 3 (some .int) :: zq_T) ({ frames := 0, cells := 0, slots := 0, locals := 0 }) (va_Pc [.int p0, .int p1, .int p2] (zx_M dC dI dA adK adV [] sz)) (va_Qi (fun (r : Int32) (_ : Unit) => r = r0) (fun _ t => zz_B dC dI dA (va_A [] sz) [] t) (va_A [] sz)) 0 0 (va_A [] sz) := by
  unfold zf_X10_standOf at hf
  refine Met.ofW (cc := cX10_standOf) (maxL := 3) (ret := (some .int)) (by decide) rfl ?_
  intro p e s m args below meth c s₁ B hml hv
  obtain ⟨rfl, ⟨hsz, hP, hK, hD0⟩, hZ⟩ := hv
  have hx := B.exec
  have hb := B.bytes
  have hr := B.returns
  have ht : ∀ w ∈ zq_T, w.before ([.int p0, .int p1, .int p2] : List Value).toArray s = true := fun w hw => atoms_spec (ws := .code yX10_standOf cX10_standOf 3 (some .int) :: zq_T) B.pre w (List.mem_cons_of_mem _ hw)
  have hown : s.vm.findClass RX10 = some m.cls := findClass_of_methodNamed B.named
  have hlocks := B.notSynchronized
  subst hsz
  have hD := hD0.self (sz := s.heap.size)
  generalize hAe : va_A [] s.heap.size = A at hD hZ ⊢
  have hA : ∀ q : Nat, s.heap.size ≤ q → A q := fun q h => by rw [← hAe]; exact Or.inr h
  clear hAe hD0
  have hS : va_S A s.heap s.heap [] := va_S.rf
  have hl := lv_entry ([.int p0, .int p1, .int p2]) (n := 3) (Nat.le_of_ble_eq_true rfl)
  rw [lg_entry_eq]
  generalize (lg_sl ([.int p0, .int p1, .int p2]) ++ List.replicate (3 - (lg_sl ([.int p0, .int p1, .int p2])).length) Slot.unset).toArray = ls at hl ⊢
  have hl : lv_has ls 3 [(0, .int p0), (1, .int p1), (2, .int p2)] := hl
  refine lv_iload_n (pc := 0) hx hb dX10_standOf_0 rfl (lv_at hl 0 rfl) ?_
  refine lv_bipush (v := (64 : Int32)) (pc := 1) hx hb dX10_standOf_1 (by decide) ?_
  refine lv_imul (pc := 3) hx hb dX10_standOf_3 ?_
  refine lv_iload_n (pc := 4) hx hb dX10_standOf_4 rfl (lv_at hl 1 rfl) ?_
  refine lv_iadd (pc := 5) hx hb dX10_standOf_5 ?_
  refine lv_iconst (v := (5 : Int32)) (pc := 6) hx hb dX10_standOf_6 (by decide) ?_
  refine lv_imul (pc := 7) hx hb dX10_standOf_7 ?_
  refine lv_iload_n (pc := 8) hx hb dX10_standOf_8 rfl (lv_at hl 2 rfl) ?_
  refine lv_iadd (pc := 9) hx hb dX10_standOf_9 ?_
  obtain rfl := Option.some.inj hf
  exact W.iret (pc := 10) hx hb hr (fun t ht hW => ⟨⟨_, (), rfl, rfl, zz_Bi (by rw [ht]; exact hP) (va_K.moved hW.alike hK) (hD)⟩, hS.F ht⟩) hS.2.2 dX10_standOf_10

def zf_X10_strengthOf (p0 : Int32) : Option (Int32) :=
  some (za_rem p0 (5 : Int32))
theorem zk_X10_strengthOf : yX10_strengthOf.cls = RX10 ∧ yX10_strengthOf.cls ≠ "java/lang/invoke/MethodHandle" ∧ yX10_strengthOf.cls ≠ "java/lang/invoke/VarHandle" ∧ (parseMethodDescriptor yX10_strengthOf.desc).map (fun d => d.parameters.length) = some 1 := by decide +kernel
set_option maxHeartbeats 4000000 in
set_option maxRecDepth 100000 in
theorem zt_X10_strengthOf (l : Launch) (dC : Nat → ClassId) (dI : Nat → Nat → Nat) (dA : Nat → ClassId) (adK adV : Nat → Nat) (sz : Nat) (p0 : Int32) (r0 : Int32) (hf : zf_X10_strengthOf p0 = some r0) : Met l yX10_strengthOf (.code yX10_strengthOf cX10_strengthOf 1 (some .int) :: zq_T) ({ frames := 0, cells := 0, slots := 0, locals := 0 }) (va_Pc [.int p0] (zx_M dC dI dA adK adV [] sz)) (va_Qi (fun (r : Int32) (_ : Unit) => r = r0) (fun _ t => zz_B dC dI dA (va_A [] sz) [] t) (va_A [] sz)) 0 0 (va_A [] sz) := by
  unfold zf_X10_strengthOf at hf
  refine Met.ofW (cc := cX10_strengthOf) (maxL := 1) (ret := (some .int)) (by decide) rfl ?_
  intro p e s m args below meth c s₁ B hml hv
  obtain ⟨rfl, ⟨hsz, hP, hK, hD0⟩, hZ⟩ := hv
  have hx := B.exec
  have hb := B.bytes
  have hr := B.returns
  have ht : ∀ w ∈ zq_T, w.before ([.int p0] : List Value).toArray s = true := fun w hw => atoms_spec (ws := .code yX10_strengthOf cX10_strengthOf 1 (some .int) :: zq_T) B.pre w (List.mem_cons_of_mem _ hw)
  have hown : s.vm.findClass RX10 = some m.cls := findClass_of_methodNamed B.named
  have hlocks := B.notSynchronized
  subst hsz
  have hD := hD0.self (sz := s.heap.size)
  generalize hAe : va_A [] s.heap.size = A at hD hZ ⊢
  have hA : ∀ q : Nat, s.heap.size ≤ q → A q := fun q h => by rw [← hAe]; exact Or.inr h
  clear hAe hD0
  have hS : va_S A s.heap s.heap [] := va_S.rf
  have hl := lv_entry ([.int p0]) (n := 1) (Nat.le_of_ble_eq_true rfl)
  rw [lg_entry_eq]
  generalize (lg_sl ([.int p0]) ++ List.replicate (1 - (lg_sl ([.int p0])).length) Slot.unset).toArray = ls at hl ⊢
  have hl : lv_has ls 1 [(0, .int p0)] := hl
  refine lv_iload_n (pc := 0) hx hb dX10_strengthOf_0 rfl (lv_at hl 0 rfl) ?_
  refine lv_iconst (v := (5 : Int32)) (pc := 1) hx hb dX10_strengthOf_1 (by decide) ?_
  refine lv_irem (pc := 2) hx hb dX10_strengthOf_2 (by decide) ?_
  obtain rfl := Option.some.inj hf
  exact W.iret (pc := 3) hx hb hr (fun t ht hW => ⟨⟨_, (), rfl, rfl, zz_Bi (by rw [ht]; exact hP) (va_K.moved hW.alike hK) (hD)⟩, hS.F ht⟩) hS.2.2 dX10_strengthOf_3

def zf_X10_thingsOf (p0 : Int32) : Option (Int32) :=
  some (za_rem (p0 / (5 : Int32)) (64 : Int32))
theorem zk_X10_thingsOf : yX10_thingsOf.cls = RX10 ∧ yX10_thingsOf.cls ≠ "java/lang/invoke/MethodHandle" ∧ yX10_thingsOf.cls ≠ "java/lang/invoke/VarHandle" ∧ (parseMethodDescriptor yX10_thingsOf.desc).map (fun d => d.parameters.length) = some 1 := by decide +kernel
set_option maxHeartbeats 4000000 in
set_option maxRecDepth 100000 in
theorem zt_X10_thingsOf (l : Launch) (dC : Nat → ClassId) (dI : Nat → Nat → Nat) (dA : Nat → ClassId) (adK adV : Nat → Nat) (sz : Nat) (p0 : Int32) (r0 : Int32) (hf : zf_X10_thingsOf p0 = some r0) : Met l yX10_thingsOf (.code yX10_thingsOf cX10_thingsOf 1 (some .int) :: zq_T) ({ frames := 0, cells := 0, slots := 0, locals := 0 }) (va_Pc [.int p0] (zx_M dC dI dA adK adV [] sz)) (va_Qi (fun (r : Int32) (_ : Unit) => r = r0) (fun _ t => zz_B dC dI dA (va_A [] sz) [] t) (va_A [] sz)) 0 0 (va_A [] sz) := by
  unfold zf_X10_thingsOf at hf
  refine Met.ofW (cc := cX10_thingsOf) (maxL := 1) (ret := (some .int)) (by decide) rfl ?_
  intro p e s m args below meth c s₁ B hml hv
  obtain ⟨rfl, ⟨hsz, hP, hK, hD0⟩, hZ⟩ := hv
  have hx := B.exec
  have hb := B.bytes
  have hr := B.returns
  have ht : ∀ w ∈ zq_T, w.before ([.int p0] : List Value).toArray s = true := fun w hw => atoms_spec (ws := .code yX10_thingsOf cX10_thingsOf 1 (some .int) :: zq_T) B.pre w (List.mem_cons_of_mem _ hw)
  have hown : s.vm.findClass RX10 = some m.cls := findClass_of_methodNamed B.named
  have hlocks := B.notSynchronized
  subst hsz
  have hD := hD0.self (sz := s.heap.size)
  generalize hAe : va_A [] s.heap.size = A at hD hZ ⊢
  have hA : ∀ q : Nat, s.heap.size ≤ q → A q := fun q h => by rw [← hAe]; exact Or.inr h
  clear hAe hD0
  have hS : va_S A s.heap s.heap [] := va_S.rf
  have hl := lv_entry ([.int p0]) (n := 1) (Nat.le_of_ble_eq_true rfl)
  rw [lg_entry_eq]
  generalize (lg_sl ([.int p0]) ++ List.replicate (1 - (lg_sl ([.int p0])).length) Slot.unset).toArray = ls at hl ⊢
  have hl : lv_has ls 1 [(0, .int p0)] := hl
  refine lv_iload_n (pc := 0) hx hb dX10_thingsOf_0 rfl (lv_at hl 0 rfl) ?_
  refine lv_iconst (v := (5 : Int32)) (pc := 1) hx hb dX10_thingsOf_1 (by decide) ?_
  refine lv_idiv (pc := 2) hx hb dX10_thingsOf_2 (by decide) ?_
  refine lv_bipush (v := (64 : Int32)) (pc := 3) hx hb dX10_thingsOf_3 (by decide) ?_
  refine lv_irem (pc := 5) hx hb dX10_thingsOf_5 (by decide) ?_
  obtain rfl := Option.some.inj hf
  exact W.iret (pc := 6) hx hb hr (fun t ht hW => ⟨⟨_, (), rfl, rfl, zz_Bi (by rw [ht]; exact hP) (va_K.moved hW.alike hK) (hD)⟩, hS.F ht⟩) hS.2.2 dX10_thingsOf_6

def zf_X2_learnFacts (f_o_wind : Int32) (f_c_things : Int32) (b_c_bars : (Nat → Int32)) (b_c_rough : (Nat → Int32)) (b_o_facts : (Nat → Int32)) (p1 : Int32) (p2 : Int32) (p3 : Int32) : Option ((Nat → Int32)) :=
  zd_1 (za_st b_o_facts 6 (0 : Int32) p1) (fun a1 =>
  zd_1 (za_ld b_c_rough 9 p1) (fun v2 =>
  zd_1 (za_st a1 6 (1 : Int32) v2) (fun a3 =>
  zd_1 (za_st a3 6 (2 : Int32) p3) (fun a4 =>
  zd_1 (za_st a4 6 (3 : Int32) p2) (fun a5 =>
  zd_1 (za_st a5 6 (4 : Int32) f_o_wind) (fun a6 =>
  zd_1 (za_ld b_c_bars 9 p1) (fun v7 =>
  zd_1 (zf_J6_bitCount_0f7a4 v7) (fun v8 =>
  zd_1 (za_st a6 6 (5 : Int32) (f_c_things - v8)) (fun a9 =>
  some a9)))))))))
theorem zk_X2_learnFacts : yX2_learnFacts.cls = RX2 ∧ yX2_learnFacts.cls ≠ "java/lang/invoke/MethodHandle" ∧ yX2_learnFacts.cls ≠ "java/lang/invoke/VarHandle" ∧ (parseMethodDescriptor yX2_learnFacts.desc).map (fun d => d.parameters.length) = some 3 := by decide +kernel
set_option maxHeartbeats 4000000 in
set_option maxRecDepth 100000 in
theorem zt_X2_learnFacts (l : Launch) (dC : Nat → ClassId) (dI : Nat → Nat → Nat) (dA : Nat → ClassId) (adK adV : Nat → Nat) (sz : Nat) (a_o : Nat) (a_c : Nat) (a_o_told : Nat) (a_o_facts : Nat) (a_o_stack : Nat) (a_c_bars : Nat) (a_c_gives : Nat) (a_c_rough : Nat) (a_c_code : Nat) (f_o_wind : Int32) (f_c_top : Int32) (f_c_things : Int32) (f_c_startRung : Int32) (f_c_startThings : Int32) (f_c_startStrength : Int32) (f_c_startWind : Int32) (f_c_slips : Int32) (f_c_lines : Int32) (f_c_coded : Int32) (f_c_tiresFrom : Int32) (f_c_tiresTo : Int32) (f_c_mayFrom : Int32) (f_c_mayTo : Int32) (b_c_bars : (Nat → Int32)) (b_c_rough : (Nat → Int32)) (b_o_facts : (Nat → Int32)) (p1 : Int32) (p2 : Int32) (p3 : Int32) (o1 : (Nat → Int32)) (hf : zf_X2_learnFacts f_o_wind f_c_things b_c_bars b_c_rough b_o_facts p1 p2 p3 = some o1) : Met l yX2_learnFacts (.code yX2_learnFacts cX2_learnFacts 4 none :: zq_T) ({ frames := 1, cells := 0, slots := 0, locals := 20 }) (va_Pc [.ref a_o, .int p1, .int p2, .int p3] (zx_M dC dI dA adK adV [zo_X2 a_o a_c a_o_told a_o_facts a_o_stack f_o_wind, zo_X0 a_c f_c_top f_c_things a_c_bars a_c_gives a_c_rough f_c_startRung f_c_startThings f_c_startStrength f_c_startWind f_c_slips f_c_lines a_c_code f_c_coded f_c_tiresFrom f_c_tiresTo f_c_mayFrom f_c_mayTo, (a_c_bars, .inl (dA 0, 9, .inl b_c_bars)), (a_c_rough, .inl (dA 0, 9, .inl b_c_rough)), (a_o_facts, .inl (dA 0, 6, .inl b_o_facts))] sz)) (va_Qv (fun _ : Unit => True) (fun _ t => zz_B dC dI dA (va_A [zo_X2 a_o a_c a_o_told a_o_facts a_o_stack f_o_wind, zo_X0 a_c f_c_top f_c_things a_c_bars a_c_gives a_c_rough f_c_startRung f_c_startThings f_c_startStrength f_c_startWind f_c_slips f_c_lines a_c_code f_c_coded f_c_tiresFrom f_c_tiresTo f_c_mayFrom f_c_mayTo, (a_c_bars, .inl (dA 0, 9, .inl b_c_bars)), (a_c_rough, .inl (dA 0, 9, .inl b_c_rough)), (a_o_facts, .inl (dA 0, 6, .inl b_o_facts))] sz) [zo_X2 a_o a_c a_o_told a_o_facts a_o_stack f_o_wind, zo_X0 a_c f_c_top f_c_things a_c_bars a_c_gives a_c_rough f_c_startRung f_c_startThings f_c_startStrength f_c_startWind f_c_slips f_c_lines a_c_code f_c_coded f_c_tiresFrom f_c_tiresTo f_c_mayFrom f_c_mayTo, (a_c_bars, .inl (dA 0, 9, .inl b_c_bars)), (a_c_rough, .inl (dA 0, 9, .inl b_c_rough)), (a_o_facts, .inl (dA 0, 6, .inl o1))] t) (va_A [zo_X2 a_o a_c a_o_told a_o_facts a_o_stack f_o_wind, zo_X0 a_c f_c_top f_c_things a_c_bars a_c_gives a_c_rough f_c_startRung f_c_startThings f_c_startStrength f_c_startWind f_c_slips f_c_lines a_c_code f_c_coded f_c_tiresFrom f_c_tiresTo f_c_mayFrom f_c_mayTo, (a_c_bars, .inl (dA 0, 9, .inl b_c_bars)), (a_c_rough, .inl (dA 0, 9, .inl b_c_rough)), (a_o_facts, .inl (dA 0, 6, .inl b_o_facts))] sz)) 0 0 (va_A [zo_X2 a_o a_c a_o_told a_o_facts a_o_stack f_o_wind, zo_X0 a_c f_c_top f_c_things a_c_bars a_c_gives a_c_rough f_c_startRung f_c_startThings f_c_startStrength f_c_startWind f_c_slips f_c_lines a_c_code f_c_coded f_c_tiresFrom f_c_tiresTo f_c_mayFrom f_c_mayTo, (a_c_bars, .inl (dA 0, 9, .inl b_c_bars)), (a_c_rough, .inl (dA 0, 9, .inl b_c_rough)), (a_o_facts, .inl (dA 0, 6, .inl b_o_facts))] sz) := by
  unfold zf_X2_learnFacts at hf
  refine Met.ofW (cc := cX2_learnFacts) (maxL := 4) (ret := none) (by decide) rfl ?_
  intro p e s m args below meth c s₁ B hml hv
  obtain ⟨rfl, ⟨hsz, hP, hK, hD0⟩, hZ⟩ := hv
  have hx := B.exec
  have hb := B.bytes
  have hr := B.returns
  have ht : ∀ w ∈ zq_T, w.before ([.ref a_o, .int p1, .int p2, .int p3] : List Value).toArray s = true := fun w hw => atoms_spec (ws := .code yX2_learnFacts cX2_learnFacts 4 none :: zq_T) B.pre w (List.mem_cons_of_mem _ hw)
  have hown : s.vm.findClass RX2 = some m.cls := findClass_of_methodNamed B.named
  have hlocks := B.notSynchronized
  subst hsz
  have hD := hD0.self (sz := s.heap.size)
  generalize hAe : va_A [zo_X2 a_o a_c a_o_told a_o_facts a_o_stack f_o_wind, zo_X0 a_c f_c_top f_c_things a_c_bars a_c_gives a_c_rough f_c_startRung f_c_startThings f_c_startStrength f_c_startWind f_c_slips f_c_lines a_c_code f_c_coded f_c_tiresFrom f_c_tiresTo f_c_mayFrom f_c_mayTo, (a_c_bars, .inl (dA 0, 9, .inl b_c_bars)), (a_c_rough, .inl (dA 0, 9, .inl b_c_rough)), (a_o_facts, .inl (dA 0, 6, .inl b_o_facts))] s.heap.size = A at hD hZ ⊢
  have hA : ∀ q : Nat, s.heap.size ≤ q → A q := fun q h => by rw [← hAe]; exact Or.inr h
  clear hAe hD0
  have hS : va_S A s.heap s.heap [] := va_S.rf
  have hl := lv_entry ([.ref a_o, .int p1, .int p2, .int p3]) (n := 4) (Nat.le_of_ble_eq_true rfl)
  rw [lg_entry_eq]
  generalize (lg_sl ([.ref a_o, .int p1, .int p2, .int p3]) ++ List.replicate (4 - (lg_sl ([.ref a_o, .int p1, .int p2, .int p3])).length) Slot.unset).toArray = ls at hl ⊢
  have hl : lv_has ls 4 [(0, .ref a_o), (1, .int p1), (2, .int p2), (3, .int p3)] := hl
  refine lv_aload_n (pc := 0) hx hb dX2_learnFacts_0 rfl (lv_at hl 0 rfl) ?_
  refine va_get (pc := 1) (D := (dC, dI)) (ci := 3) (v := .ref a_o_facts) (C := RX2) (T := TX2) (N := 5) hx hb ht zq_layX2 hown hK hP 0 rfl rfl 2 (by decide) (ht _ zq_108) (fun _ h9 => h9) rfl dX2_learnFacts_1 ?_
  refine lv_iconst (v := (0 : Int32)) (pc := 4) hx hb dX2_learnFacts_4 (by decide) ?_
  refine lv_iload_n (pc := 5) hx hb dX2_learnFacts_5 rfl (lv_at hl 1 rfl) ?_
  obtain ⟨a1, ha1, hf⟩ := zc_1 hf
  refine zw_iast (pc := 6) hx hb hK hP hD hS 4 0 rfl rfl ha1 dX2_learnFacts_6 (fun H locs hP hD hS => ?_)
  have hP : va_P (dC, dI) zz_cls [zo_X2 a_o a_c a_o_told a_o_facts a_o_stack f_o_wind, zo_X0 a_c f_c_top f_c_things a_c_bars a_c_gives a_c_rough f_c_startRung f_c_startThings f_c_startStrength f_c_startWind f_c_slips f_c_lines a_c_code f_c_coded f_c_tiresFrom f_c_tiresTo f_c_mayFrom f_c_mayTo, (a_c_bars, .inl (dA 0, 9, .inl b_c_bars)), (a_c_rough, .inl (dA 0, 9, .inl b_c_rough)), (a_o_facts, .inl (dA 0, 6, .inl a1))] H := hP
  have hD : va_D A [zo_X2 a_o a_c a_o_told a_o_facts a_o_stack f_o_wind, zo_X0 a_c f_c_top f_c_things a_c_bars a_c_gives a_c_rough f_c_startRung f_c_startThings f_c_startStrength f_c_startWind f_c_slips f_c_lines a_c_code f_c_coded f_c_tiresFrom f_c_tiresTo f_c_mayFrom f_c_mayTo, (a_c_bars, .inl (dA 0, 9, .inl b_c_bars)), (a_c_rough, .inl (dA 0, 9, .inl b_c_rough)), (a_o_facts, .inl (dA 0, 6, .inl a1))] := hD
  refine lv_aload_n (pc := 7) hx hb dX2_learnFacts_7 rfl (lv_at hl 0 rfl) ?_
  refine va_get (pc := 8) (D := (dC, dI)) (ci := 3) (v := .ref a_o_facts) (C := RX2) (T := TX2) (N := 5) hx hb ht zq_layX2 hown hK hP 0 rfl rfl 2 (by decide) (ht _ zq_108) (fun _ h9 => h9) rfl dX2_learnFacts_8 ?_
  refine lv_iconst (v := (1 : Int32)) (pc := 11) hx hb dX2_learnFacts_11 (by decide) ?_
  refine lv_aload_n (pc := 12) hx hb dX2_learnFacts_12 rfl (lv_at hl 0 rfl) ?_
  refine va_get (pc := 13) (D := (dC, dI)) (ci := 3) (v := .ref a_c) (C := RX2) (T := TX2) (N := 5) hx hb ht zq_layX2 hown hK hP 0 rfl rfl 0 (by decide) (ht _ zq_83) (fun _ h9 => h9) rfl dX2_learnFacts_13 ?_
  refine va_get (pc := 16) (D := (dC, dI)) (ci := 1) (v := .ref a_c_rough) (C := RX0) (T := TX0) (N := 17) hx hb ht zq_layX0 hown hK hP 1 rfl rfl 4 (by decide) (ht _ zq_109) (fun _ h9 => h9) rfl dX2_learnFacts_16 ?_
  refine lv_iload_n (pc := 19) hx hb dX2_learnFacts_19 rfl (lv_at hl 1 rfl) ?_
  obtain ⟨v2, hv2, hf⟩ := zc_1 hf
  refine zw_iald (pc := 20) hx hb hK hP 3 0 rfl rfl hv2 dX2_learnFacts_20 ?_
  obtain ⟨a3, ha3, hf⟩ := zc_1 hf
  refine zw_iast (pc := 21) hx hb hK hP hD hS 4 0 rfl rfl ha3 dX2_learnFacts_21 (fun H locs hP hD hS => ?_)
  have hP : va_P (dC, dI) zz_cls [zo_X2 a_o a_c a_o_told a_o_facts a_o_stack f_o_wind, zo_X0 a_c f_c_top f_c_things a_c_bars a_c_gives a_c_rough f_c_startRung f_c_startThings f_c_startStrength f_c_startWind f_c_slips f_c_lines a_c_code f_c_coded f_c_tiresFrom f_c_tiresTo f_c_mayFrom f_c_mayTo, (a_c_bars, .inl (dA 0, 9, .inl b_c_bars)), (a_c_rough, .inl (dA 0, 9, .inl b_c_rough)), (a_o_facts, .inl (dA 0, 6, .inl a3))] H := hP
  have hD : va_D A [zo_X2 a_o a_c a_o_told a_o_facts a_o_stack f_o_wind, zo_X0 a_c f_c_top f_c_things a_c_bars a_c_gives a_c_rough f_c_startRung f_c_startThings f_c_startStrength f_c_startWind f_c_slips f_c_lines a_c_code f_c_coded f_c_tiresFrom f_c_tiresTo f_c_mayFrom f_c_mayTo, (a_c_bars, .inl (dA 0, 9, .inl b_c_bars)), (a_c_rough, .inl (dA 0, 9, .inl b_c_rough)), (a_o_facts, .inl (dA 0, 6, .inl a3))] := hD
  refine lv_aload_n (pc := 22) hx hb dX2_learnFacts_22 rfl (lv_at hl 0 rfl) ?_
  refine va_get (pc := 23) (D := (dC, dI)) (ci := 3) (v := .ref a_o_facts) (C := RX2) (T := TX2) (N := 5) hx hb ht zq_layX2 hown hK hP 0 rfl rfl 2 (by decide) (ht _ zq_108) (fun _ h9 => h9) rfl dX2_learnFacts_23 ?_
  refine lv_iconst (v := (2 : Int32)) (pc := 26) hx hb dX2_learnFacts_26 (by decide) ?_
  refine lv_iload_n (pc := 27) hx hb dX2_learnFacts_27 rfl (lv_at hl 3 rfl) ?_
  obtain ⟨a4, ha4, hf⟩ := zc_1 hf
  refine zw_iast (pc := 28) hx hb hK hP hD hS 4 0 rfl rfl ha4 dX2_learnFacts_28 (fun H locs hP hD hS => ?_)
  have hP : va_P (dC, dI) zz_cls [zo_X2 a_o a_c a_o_told a_o_facts a_o_stack f_o_wind, zo_X0 a_c f_c_top f_c_things a_c_bars a_c_gives a_c_rough f_c_startRung f_c_startThings f_c_startStrength f_c_startWind f_c_slips f_c_lines a_c_code f_c_coded f_c_tiresFrom f_c_tiresTo f_c_mayFrom f_c_mayTo, (a_c_bars, .inl (dA 0, 9, .inl b_c_bars)), (a_c_rough, .inl (dA 0, 9, .inl b_c_rough)), (a_o_facts, .inl (dA 0, 6, .inl a4))] H := hP
  have hD : va_D A [zo_X2 a_o a_c a_o_told a_o_facts a_o_stack f_o_wind, zo_X0 a_c f_c_top f_c_things a_c_bars a_c_gives a_c_rough f_c_startRung f_c_startThings f_c_startStrength f_c_startWind f_c_slips f_c_lines a_c_code f_c_coded f_c_tiresFrom f_c_tiresTo f_c_mayFrom f_c_mayTo, (a_c_bars, .inl (dA 0, 9, .inl b_c_bars)), (a_c_rough, .inl (dA 0, 9, .inl b_c_rough)), (a_o_facts, .inl (dA 0, 6, .inl a4))] := hD
  refine lv_aload_n (pc := 29) hx hb dX2_learnFacts_29 rfl (lv_at hl 0 rfl) ?_
  refine va_get (pc := 30) (D := (dC, dI)) (ci := 3) (v := .ref a_o_facts) (C := RX2) (T := TX2) (N := 5) hx hb ht zq_layX2 hown hK hP 0 rfl rfl 2 (by decide) (ht _ zq_108) (fun _ h9 => h9) rfl dX2_learnFacts_30 ?_
  refine lv_iconst (v := (3 : Int32)) (pc := 33) hx hb dX2_learnFacts_33 (by decide) ?_
  refine lv_iload_n (pc := 34) hx hb dX2_learnFacts_34 rfl (lv_at hl 2 rfl) ?_
  obtain ⟨a5, ha5, hf⟩ := zc_1 hf
  refine zw_iast (pc := 35) hx hb hK hP hD hS 4 0 rfl rfl ha5 dX2_learnFacts_35 (fun H locs hP hD hS => ?_)
  have hP : va_P (dC, dI) zz_cls [zo_X2 a_o a_c a_o_told a_o_facts a_o_stack f_o_wind, zo_X0 a_c f_c_top f_c_things a_c_bars a_c_gives a_c_rough f_c_startRung f_c_startThings f_c_startStrength f_c_startWind f_c_slips f_c_lines a_c_code f_c_coded f_c_tiresFrom f_c_tiresTo f_c_mayFrom f_c_mayTo, (a_c_bars, .inl (dA 0, 9, .inl b_c_bars)), (a_c_rough, .inl (dA 0, 9, .inl b_c_rough)), (a_o_facts, .inl (dA 0, 6, .inl a5))] H := hP
  have hD : va_D A [zo_X2 a_o a_c a_o_told a_o_facts a_o_stack f_o_wind, zo_X0 a_c f_c_top f_c_things a_c_bars a_c_gives a_c_rough f_c_startRung f_c_startThings f_c_startStrength f_c_startWind f_c_slips f_c_lines a_c_code f_c_coded f_c_tiresFrom f_c_tiresTo f_c_mayFrom f_c_mayTo, (a_c_bars, .inl (dA 0, 9, .inl b_c_bars)), (a_c_rough, .inl (dA 0, 9, .inl b_c_rough)), (a_o_facts, .inl (dA 0, 6, .inl a5))] := hD
  refine lv_aload_n (pc := 36) hx hb dX2_learnFacts_36 rfl (lv_at hl 0 rfl) ?_
  refine va_get (pc := 37) (D := (dC, dI)) (ci := 3) (v := .ref a_o_facts) (C := RX2) (T := TX2) (N := 5) hx hb ht zq_layX2 hown hK hP 0 rfl rfl 2 (by decide) (ht _ zq_108) (fun _ h9 => h9) rfl dX2_learnFacts_37 ?_
  refine lv_iconst (v := (4 : Int32)) (pc := 40) hx hb dX2_learnFacts_40 (by decide) ?_
  refine lv_aload_n (pc := 41) hx hb dX2_learnFacts_41 rfl (lv_at hl 0 rfl) ?_
  refine va_get (pc := 42) (D := (dC, dI)) (ci := 3) (v := .int f_o_wind) (C := RX2) (T := TX2) (N := 5) hx hb ht zq_layX2 hown hK hP 0 rfl rfl 4 (by decide) (ht _ zq_110) (fun _ h9 => h9) rfl dX2_learnFacts_42 ?_
  obtain ⟨a6, ha6, hf⟩ := zc_1 hf
  refine zw_iast (pc := 45) hx hb hK hP hD hS 4 0 rfl rfl ha6 dX2_learnFacts_45 (fun H locs hP hD hS => ?_)
  have hP : va_P (dC, dI) zz_cls [zo_X2 a_o a_c a_o_told a_o_facts a_o_stack f_o_wind, zo_X0 a_c f_c_top f_c_things a_c_bars a_c_gives a_c_rough f_c_startRung f_c_startThings f_c_startStrength f_c_startWind f_c_slips f_c_lines a_c_code f_c_coded f_c_tiresFrom f_c_tiresTo f_c_mayFrom f_c_mayTo, (a_c_bars, .inl (dA 0, 9, .inl b_c_bars)), (a_c_rough, .inl (dA 0, 9, .inl b_c_rough)), (a_o_facts, .inl (dA 0, 6, .inl a6))] H := hP
  have hD : va_D A [zo_X2 a_o a_c a_o_told a_o_facts a_o_stack f_o_wind, zo_X0 a_c f_c_top f_c_things a_c_bars a_c_gives a_c_rough f_c_startRung f_c_startThings f_c_startStrength f_c_startWind f_c_slips f_c_lines a_c_code f_c_coded f_c_tiresFrom f_c_tiresTo f_c_mayFrom f_c_mayTo, (a_c_bars, .inl (dA 0, 9, .inl b_c_bars)), (a_c_rough, .inl (dA 0, 9, .inl b_c_rough)), (a_o_facts, .inl (dA 0, 6, .inl a6))] := hD
  refine lv_aload_n (pc := 46) hx hb dX2_learnFacts_46 rfl (lv_at hl 0 rfl) ?_
  refine va_get (pc := 47) (D := (dC, dI)) (ci := 3) (v := .ref a_o_facts) (C := RX2) (T := TX2) (N := 5) hx hb ht zq_layX2 hown hK hP 0 rfl rfl 2 (by decide) (ht _ zq_108) (fun _ h9 => h9) rfl dX2_learnFacts_47 ?_
  refine lv_iconst (v := (5 : Int32)) (pc := 50) hx hb dX2_learnFacts_50 (by decide) ?_
  refine lv_aload_n (pc := 51) hx hb dX2_learnFacts_51 rfl (lv_at hl 0 rfl) ?_
  refine va_get (pc := 52) (D := (dC, dI)) (ci := 3) (v := .ref a_c) (C := RX2) (T := TX2) (N := 5) hx hb ht zq_layX2 hown hK hP 0 rfl rfl 0 (by decide) (ht _ zq_83) (fun _ h9 => h9) rfl dX2_learnFacts_52 ?_
  refine va_get (pc := 55) (D := (dC, dI)) (ci := 1) (v := .int f_c_things) (C := RX0) (T := TX0) (N := 17) hx hb ht zq_layX0 hown hK hP 1 rfl rfl 1 (by decide) (ht _ zq_111) (fun _ h9 => h9) rfl dX2_learnFacts_55 ?_
  refine lv_aload_n (pc := 58) hx hb dX2_learnFacts_58 rfl (lv_at hl 0 rfl) ?_
  refine va_get (pc := 59) (D := (dC, dI)) (ci := 3) (v := .ref a_c) (C := RX2) (T := TX2) (N := 5) hx hb ht zq_layX2 hown hK hP 0 rfl rfl 0 (by decide) (ht _ zq_83) (fun _ h9 => h9) rfl dX2_learnFacts_59 ?_
  refine va_get (pc := 62) (D := (dC, dI)) (ci := 1) (v := .ref a_c_bars) (C := RX0) (T := TX0) (N := 17) hx hb ht zq_layX0 hown hK hP 1 rfl rfl 2 (by decide) (ht _ zq_112) (fun _ h9 => h9) rfl dX2_learnFacts_62 ?_
  refine lv_iload_n (pc := 65) hx hb dX2_learnFacts_65 rfl (lv_at hl 1 rfl) ?_
  obtain ⟨v7, hv7, hf⟩ := zc_1 hf
  refine zw_iald (pc := 66) hx hb hK hP 2 0 rfl rfl hv7 dX2_learnFacts_66 ?_
  obtain ⟨v8, hv8, hf⟩ := zc_1 hf
  refine zy_Ti (pc := 67) (wc := []) (wr := [zo_X2 a_o a_c a_o_told a_o_facts a_o_stack f_o_wind, zo_X0 a_c f_c_top f_c_things a_c_bars a_c_gives a_c_rough f_c_startRung f_c_startThings f_c_startStrength f_c_startWind f_c_slips f_c_lines a_c_code f_c_coded f_c_tiresFrom f_c_tiresTo f_c_mayFrom f_c_mayTo, (a_c_bars, .inl (dA 0, 9, .inl b_c_bars)), (a_c_rough, .inl (dA 0, 9, .inl b_c_rough)), (a_o_facts, .inl (dA 0, 6, .inl a6))]) (w1 := []) (As := [.int v7]) (rest := [.int f_c_things, .int (5 : Int32), .ref a_o_facts]) ⟨hx, hb, hml, hown, ht⟩ (zt_J6_bitCount_0f7a4 l dC dI dA adK adV _ v7 v8 hv8) (va_cwS 1 ht (zq_X zq_97 zq_98 zq_99 zq_100) rfl rfl rfl zk_J6_bitCount_0f7a4.2 ⟨Nat.le_of_ble_eq_true rfl, Nat.le_of_ble_eq_true rfl⟩) hK hP hD hS hA [] [0, 1, 2, 3, 4] (by decide) (by decide) (by decide) rfl rfl rfl hl.1 (Nat.le_of_ble_eq_true rfl) dX2_learnFacts_67 ⟨Nat.zero_le _, Nat.zero_le _⟩ rfl (fun H locs hP hD hS => ?_)
  have hP : va_P (dC, dI) zz_cls [zo_X2 a_o a_c a_o_told a_o_facts a_o_stack f_o_wind, zo_X0 a_c f_c_top f_c_things a_c_bars a_c_gives a_c_rough f_c_startRung f_c_startThings f_c_startStrength f_c_startWind f_c_slips f_c_lines a_c_code f_c_coded f_c_tiresFrom f_c_tiresTo f_c_mayFrom f_c_mayTo, (a_c_bars, .inl (dA 0, 9, .inl b_c_bars)), (a_c_rough, .inl (dA 0, 9, .inl b_c_rough)), (a_o_facts, .inl (dA 0, 6, .inl a6))] H := hP
  have hD : va_D A [zo_X2 a_o a_c a_o_told a_o_facts a_o_stack f_o_wind, zo_X0 a_c f_c_top f_c_things a_c_bars a_c_gives a_c_rough f_c_startRung f_c_startThings f_c_startStrength f_c_startWind f_c_slips f_c_lines a_c_code f_c_coded f_c_tiresFrom f_c_tiresTo f_c_mayFrom f_c_mayTo, (a_c_bars, .inl (dA 0, 9, .inl b_c_bars)), (a_c_rough, .inl (dA 0, 9, .inl b_c_rough)), (a_o_facts, .inl (dA 0, 6, .inl a6))] := hD
  refine lv_isub (pc := 70) hx hb dX2_learnFacts_70 ?_
  obtain ⟨a9, ha9, hf⟩ := zc_1 hf
  refine zw_iast (pc := 71) hx hb hK hP hD hS 4 0 rfl rfl ha9 dX2_learnFacts_71 (fun H locs hP hD hS => ?_)
  have hP : va_P (dC, dI) zz_cls [zo_X2 a_o a_c a_o_told a_o_facts a_o_stack f_o_wind, zo_X0 a_c f_c_top f_c_things a_c_bars a_c_gives a_c_rough f_c_startRung f_c_startThings f_c_startStrength f_c_startWind f_c_slips f_c_lines a_c_code f_c_coded f_c_tiresFrom f_c_tiresTo f_c_mayFrom f_c_mayTo, (a_c_bars, .inl (dA 0, 9, .inl b_c_bars)), (a_c_rough, .inl (dA 0, 9, .inl b_c_rough)), (a_o_facts, .inl (dA 0, 6, .inl a9))] H := hP
  have hD : va_D A [zo_X2 a_o a_c a_o_told a_o_facts a_o_stack f_o_wind, zo_X0 a_c f_c_top f_c_things a_c_bars a_c_gives a_c_rough f_c_startRung f_c_startThings f_c_startStrength f_c_startWind f_c_slips f_c_lines a_c_code f_c_coded f_c_tiresFrom f_c_tiresTo f_c_mayFrom f_c_mayTo, (a_c_bars, .inl (dA 0, 9, .inl b_c_bars)), (a_c_rough, .inl (dA 0, 9, .inl b_c_rough)), (a_o_facts, .inl (dA 0, 6, .inl a9))] := hD
  obtain rfl := Option.some.inj hf
  exact W.vret (pc := 72) hx hb hr (fun t ht hW => ⟨⟨(), rfl, trivial, zz_Bi (by rw [ht]; exact hP) (va_K.moved hW.alike hK) (hD)⟩, hS.F ht⟩) hS.2.2 dX2_learnFacts_72

def zf_X2_operate (b_o_stack : (Nat → Int32)) (p1 : Int32) (p2 : Int32) : Option (Int32 × (Nat → Int32)) :=
  if p1 = (1018 : Int32) then
    if p2 < (1 : Int32) then
      if p1 = (1019 : Int32) then
        if p2 < (3 : Int32) then
          if (2 : Int32) ≤ p2 then
            zd_1 (za_ld b_o_stack 64 (p2 - (2 : Int32))) (fun v1 =>
            zd_1 (some ((Int32.toInt64 v1))) (fun v2 =>
            zd_1 (za_ld b_o_stack 64 (p2 - (1 : Int32))) (fun v3 =>
            zd_1 (some ((Int32.toInt64 v3))) (fun v4 =>
            zd_1 (
              if p1 = (1010 : Int32) then
                zd_1 (some ((v2 + v4))) (fun v5 =>
                some v5)
              else if p1 = (1011 : Int32) then
                zd_1 (some ((v2 - v4))) (fun v6 =>
                some v6)
              else if p1 = (1012 : Int32) then
                zd_1 (some ((v2 * v4))) (fun v7 =>
                some v7)
              else if p1 = (1013 : Int32) then
                zd_1 (
                  if (lg_cmp v2 v4) = 0 then
                    some (1 : Int64)
                  else
                    some (0 : Int64)) (fun v8 =>
                some v8)
              else if p1 = (1014 : Int32) then
                zd_1 (
                  if 0 ≤ (lg_cmp v2 v4) then
                    some (0 : Int64)
                  else
                    some (1 : Int64)) (fun v9 =>
                some v9)
              else if p1 = (1015 : Int32) then
                zd_1 (
                  if (lg_cmp v2 v4) ≤ 0 then
                    some (0 : Int64)
                  else
                    some (1 : Int64)) (fun v10 =>
                some v10)
              else if p1 = (1016 : Int32) then
                zd_1 (some ((v2 &&& v4))) (fun v11 =>
                some v11)
              else if p1 = (1017 : Int32) then
                zd_1 (some ((v2 ||| v4))) (fun v12 =>
                some v12)
              else
                some (0 : Int64)) (fun v13 =>
            zd_1 (some ((if v13 < (1000000 : Int64) then v13 else (1000000 : Int64)))) (fun v14 =>
            zd_1 (some ((if v14 < (-1000000 : Int64) then (-1000000 : Int64) else v14))) (fun v15 =>
            zd_1 (za_st b_o_stack 64 (p2 - (2 : Int32)) (Int64.toInt32 v15)) (fun a16 =>
            some ((p2 - (1 : Int32)), a16)))))))))
          else
            some (p2, b_o_stack)
        else
          zd_1 (za_ld b_o_stack 64 (p2 - (3 : Int32))) (fun v17 =>
          zd_1 (
            if v17 = 0 then
              zd_1 (za_ld b_o_stack 64 (p2 - (1 : Int32))) (fun v18 =>
              some v18)
            else
              zd_1 (za_ld b_o_stack 64 (p2 - (2 : Int32))) (fun v19 =>
              some v19)) (fun v20 =>
          zd_1 (za_st b_o_stack 64 (p2 - (3 : Int32)) v20) (fun a21 =>
          some ((p2 - (2 : Int32)), a21))))
      else
        if (2 : Int32) ≤ p2 then
          zd_1 (za_ld b_o_stack 64 (p2 - (2 : Int32))) (fun v22 =>
          zd_1 (some ((Int32.toInt64 v22))) (fun v23 =>
          zd_1 (za_ld b_o_stack 64 (p2 - (1 : Int32))) (fun v24 =>
          zd_1 (some ((Int32.toInt64 v24))) (fun v25 =>
          zd_1 (
            if p1 = (1010 : Int32) then
              zd_1 (some ((v23 + v25))) (fun v26 =>
              some v26)
            else if p1 = (1011 : Int32) then
              zd_1 (some ((v23 - v25))) (fun v27 =>
              some v27)
            else if p1 = (1012 : Int32) then
              zd_1 (some ((v23 * v25))) (fun v28 =>
              some v28)
            else if p1 = (1013 : Int32) then
              zd_1 (
                if (lg_cmp v23 v25) = 0 then
                  some (1 : Int64)
                else
                  some (0 : Int64)) (fun v29 =>
              some v29)
            else if p1 = (1014 : Int32) then
              zd_1 (
                if 0 ≤ (lg_cmp v23 v25) then
                  some (0 : Int64)
                else
                  some (1 : Int64)) (fun v30 =>
              some v30)
            else if p1 = (1015 : Int32) then
              zd_1 (
                if (lg_cmp v23 v25) ≤ 0 then
                  some (0 : Int64)
                else
                  some (1 : Int64)) (fun v31 =>
              some v31)
            else if p1 = (1016 : Int32) then
              zd_1 (some ((v23 &&& v25))) (fun v32 =>
              some v32)
            else if p1 = (1017 : Int32) then
              zd_1 (some ((v23 ||| v25))) (fun v33 =>
              some v33)
            else
              some (0 : Int64)) (fun v34 =>
          zd_1 (some ((if v34 < (1000000 : Int64) then v34 else (1000000 : Int64)))) (fun v35 =>
          zd_1 (some ((if v35 < (-1000000 : Int64) then (-1000000 : Int64) else v35))) (fun v36 =>
          zd_1 (za_st b_o_stack 64 (p2 - (2 : Int32)) (Int64.toInt32 v36)) (fun a37 =>
          some ((p2 - (1 : Int32)), a37)))))))))
        else
          some (p2, b_o_stack)
    else
      zd_1 (za_ld b_o_stack 64 (p2 - (1 : Int32))) (fun v38 =>
      zd_1 (za_st b_o_stack 64 (p2 - (1 : Int32)) ((1 : Int32) - v38)) (fun a39 =>
      some (p2, a39)))
  else
    if p1 = (1019 : Int32) then
      if p2 < (3 : Int32) then
        if (2 : Int32) ≤ p2 then
          zd_1 (za_ld b_o_stack 64 (p2 - (2 : Int32))) (fun v40 =>
          zd_1 (some ((Int32.toInt64 v40))) (fun v41 =>
          zd_1 (za_ld b_o_stack 64 (p2 - (1 : Int32))) (fun v42 =>
          zd_1 (some ((Int32.toInt64 v42))) (fun v43 =>
          zd_1 (
            if p1 = (1010 : Int32) then
              zd_1 (some ((v41 + v43))) (fun v44 =>
              some v44)
            else if p1 = (1011 : Int32) then
              zd_1 (some ((v41 - v43))) (fun v45 =>
              some v45)
            else if p1 = (1012 : Int32) then
              zd_1 (some ((v41 * v43))) (fun v46 =>
              some v46)
            else if p1 = (1013 : Int32) then
              zd_1 (
                if (lg_cmp v41 v43) = 0 then
                  some (1 : Int64)
                else
                  some (0 : Int64)) (fun v47 =>
              some v47)
            else if p1 = (1014 : Int32) then
              zd_1 (
                if 0 ≤ (lg_cmp v41 v43) then
                  some (0 : Int64)
                else
                  some (1 : Int64)) (fun v48 =>
              some v48)
            else if p1 = (1015 : Int32) then
              zd_1 (
                if (lg_cmp v41 v43) ≤ 0 then
                  some (0 : Int64)
                else
                  some (1 : Int64)) (fun v49 =>
              some v49)
            else if p1 = (1016 : Int32) then
              zd_1 (some ((v41 &&& v43))) (fun v50 =>
              some v50)
            else if p1 = (1017 : Int32) then
              zd_1 (some ((v41 ||| v43))) (fun v51 =>
              some v51)
            else
              some (0 : Int64)) (fun v52 =>
          zd_1 (some ((if v52 < (1000000 : Int64) then v52 else (1000000 : Int64)))) (fun v53 =>
          zd_1 (some ((if v53 < (-1000000 : Int64) then (-1000000 : Int64) else v53))) (fun v54 =>
          zd_1 (za_st b_o_stack 64 (p2 - (2 : Int32)) (Int64.toInt32 v54)) (fun a55 =>
          some ((p2 - (1 : Int32)), a55)))))))))
        else
          some (p2, b_o_stack)
      else
        zd_1 (za_ld b_o_stack 64 (p2 - (3 : Int32))) (fun v56 =>
        zd_1 (
          if v56 = 0 then
            zd_1 (za_ld b_o_stack 64 (p2 - (1 : Int32))) (fun v57 =>
            some v57)
          else
            zd_1 (za_ld b_o_stack 64 (p2 - (2 : Int32))) (fun v58 =>
            some v58)) (fun v59 =>
        zd_1 (za_st b_o_stack 64 (p2 - (3 : Int32)) v59) (fun a60 =>
        some ((p2 - (2 : Int32)), a60))))
    else
      if (2 : Int32) ≤ p2 then
        zd_1 (za_ld b_o_stack 64 (p2 - (2 : Int32))) (fun v61 =>
        zd_1 (some ((Int32.toInt64 v61))) (fun v62 =>
        zd_1 (za_ld b_o_stack 64 (p2 - (1 : Int32))) (fun v63 =>
        zd_1 (some ((Int32.toInt64 v63))) (fun v64 =>
        zd_1 (
          if p1 = (1010 : Int32) then
            zd_1 (some ((v62 + v64))) (fun v65 =>
            some v65)
          else if p1 = (1011 : Int32) then
            zd_1 (some ((v62 - v64))) (fun v66 =>
            some v66)
          else if p1 = (1012 : Int32) then
            zd_1 (some ((v62 * v64))) (fun v67 =>
            some v67)
          else if p1 = (1013 : Int32) then
            zd_1 (
              if (lg_cmp v62 v64) = 0 then
                some (1 : Int64)
              else
                some (0 : Int64)) (fun v68 =>
            some v68)
          else if p1 = (1014 : Int32) then
            zd_1 (
              if 0 ≤ (lg_cmp v62 v64) then
                some (0 : Int64)
              else
                some (1 : Int64)) (fun v69 =>
            some v69)
          else if p1 = (1015 : Int32) then
            zd_1 (
              if (lg_cmp v62 v64) ≤ 0 then
                some (0 : Int64)
              else
                some (1 : Int64)) (fun v70 =>
            some v70)
          else if p1 = (1016 : Int32) then
            zd_1 (some ((v62 &&& v64))) (fun v71 =>
            some v71)
          else if p1 = (1017 : Int32) then
            zd_1 (some ((v62 ||| v64))) (fun v72 =>
            some v72)
          else
            some (0 : Int64)) (fun v73 =>
        zd_1 (some ((if v73 < (1000000 : Int64) then v73 else (1000000 : Int64)))) (fun v74 =>
        zd_1 (some ((if v74 < (-1000000 : Int64) then (-1000000 : Int64) else v74))) (fun v75 =>
        zd_1 (za_st b_o_stack 64 (p2 - (2 : Int32)) (Int64.toInt32 v75)) (fun a76 =>
        some ((p2 - (1 : Int32)), a76)))))))))
      else
        some (p2, b_o_stack)
theorem zk_X2_operate : yX2_operate.cls = RX2 ∧ yX2_operate.cls ≠ "java/lang/invoke/MethodHandle" ∧ yX2_operate.cls ≠ "java/lang/invoke/VarHandle" ∧ (parseMethodDescriptor yX2_operate.desc).map (fun d => d.parameters.length) = some 2 := by decide +kernel
set_option maxHeartbeats 4000000 in
set_option maxRecDepth 100000 in
theorem zt_X2_operate (l : Launch) (dC : Nat → ClassId) (dI : Nat → Nat → Nat) (dA : Nat → ClassId) (adK adV : Nat → Nat) (sz : Nat) (a_o : Nat) (a_c : Nat) (a_o_told : Nat) (a_o_facts : Nat) (a_o_stack : Nat) (f_o_wind : Int32) (b_o_stack : (Nat → Int32)) (p1 : Int32) (p2 : Int32) (r0 : Int32) (o1 : (Nat → Int32)) (hf : zf_X2_operate b_o_stack p1 p2 = some (r0, o1)) : Met l yX2_operate (.code yX2_operate cX2_operate 9 (some .int) :: zq_T) ({ frames := 1, cells := 0, slots := 0, locals := 48 }) (va_Pc [.ref a_o, .int p1, .int p2] (zx_M dC dI dA adK adV [zo_X2 a_o a_c a_o_told a_o_facts a_o_stack f_o_wind, (a_o_stack, .inl (dA 0, 64, .inl b_o_stack))] sz)) (va_Qi (fun (r : Int32) (_ : Unit) => r = r0) (fun _ t => zz_B dC dI dA (va_A [zo_X2 a_o a_c a_o_told a_o_facts a_o_stack f_o_wind, (a_o_stack, .inl (dA 0, 64, .inl b_o_stack))] sz) [zo_X2 a_o a_c a_o_told a_o_facts a_o_stack f_o_wind, (a_o_stack, .inl (dA 0, 64, .inl o1))] t) (va_A [zo_X2 a_o a_c a_o_told a_o_facts a_o_stack f_o_wind, (a_o_stack, .inl (dA 0, 64, .inl b_o_stack))] sz)) 0 0 (va_A [zo_X2 a_o a_c a_o_told a_o_facts a_o_stack f_o_wind, (a_o_stack, .inl (dA 0, 64, .inl b_o_stack))] sz) := by
  unfold zf_X2_operate at hf
  refine Met.ofW (cc := cX2_operate) (maxL := 9) (ret := (some .int)) (by decide) rfl ?_
  intro p e s m args below meth c s₁ B hml hv
  obtain ⟨rfl, ⟨hsz, hP, hK, hD0⟩, hZ⟩ := hv
  have hx := B.exec
  have hb := B.bytes
  have hr := B.returns
  have ht : ∀ w ∈ zq_T, w.before ([.ref a_o, .int p1, .int p2] : List Value).toArray s = true := fun w hw => atoms_spec (ws := .code yX2_operate cX2_operate 9 (some .int) :: zq_T) B.pre w (List.mem_cons_of_mem _ hw)
  have hown : s.vm.findClass RX2 = some m.cls := findClass_of_methodNamed B.named
  have hlocks := B.notSynchronized
  subst hsz
  have hD := hD0.self (sz := s.heap.size)
  generalize hAe : va_A [zo_X2 a_o a_c a_o_told a_o_facts a_o_stack f_o_wind, (a_o_stack, .inl (dA 0, 64, .inl b_o_stack))] s.heap.size = A at hD hZ ⊢
  have hA : ∀ q : Nat, s.heap.size ≤ q → A q := fun q h => by rw [← hAe]; exact Or.inr h
  clear hAe hD0
  have hS : va_S A s.heap s.heap [] := va_S.rf
  have hl := lv_entry ([.ref a_o, .int p1, .int p2]) (n := 9) (Nat.le_of_ble_eq_true rfl)
  rw [lg_entry_eq]
  generalize (lg_sl ([.ref a_o, .int p1, .int p2]) ++ List.replicate (9 - (lg_sl ([.ref a_o, .int p1, .int p2])).length) Slot.unset).toArray = ls at hl ⊢
  have hl : lv_has ls 9 [(0, .ref a_o), (1, .int p1), (2, .int p2)] := hl
  refine lv_iload_n (pc := 0) hx hb dX2_operate_0 rfl (lv_at hl 1 rfl) ?_
  refine lv_sipush (v := (1018 : Int32)) (pc := 1) hx hb dX2_operate_1 (by decide) ?_
  refine lv_icmp_ne (tgt := 32) (pc := 4) hx hb dX2_operate_4 rfl (fun hc => ?_) (fun hc => ?_)
  · have hf := za_f hf hc
    refine lv_iload_n (pc := 32) hx hb dX2_operate_32 rfl (lv_at hl 1 rfl) ?_
    refine lv_sipush (v := (1019 : Int32)) (pc := 33) hx hb dX2_operate_33 (by decide) ?_
    refine lv_icmp_ne (tgt := 86) (pc := 36) hx hb dX2_operate_36 rfl (fun hc => ?_) (fun hc => ?_)
    · have hf := za_f hf hc
      refine lv_iload_n (pc := 86) hx hb dX2_operate_86 rfl (lv_at hl 2 rfl) ?_
      refine lv_iconst (v := (2 : Int32)) (pc := 87) hx hb dX2_operate_87 (by decide) ?_
      refine lv_icmp_ge (tgt := 93) (pc := 88) hx hb dX2_operate_88 rfl (fun hc => ?_) (fun hc => ?_)
      · have hf := za_t hf hc
        refine lv_aload_n (pc := 93) hx hb dX2_operate_93 rfl (lv_at hl 0 rfl) ?_
        refine va_get (pc := 94) (D := (dC, dI)) (ci := 3) (v := .ref a_o_stack) (C := RX2) (T := TX2) (N := 5) hx hb ht zq_layX2 hown hK hP 0 rfl rfl 3 (by decide) (ht _ zq_118) (fun _ h9 => h9) rfl dX2_operate_94 ?_
        refine lv_iload_n (pc := 97) hx hb dX2_operate_97 rfl (lv_at hl 2 rfl) ?_
        refine lv_iconst (v := (2 : Int32)) (pc := 98) hx hb dX2_operate_98 (by decide) ?_
        refine lv_isub (pc := 99) hx hb dX2_operate_99 ?_
        obtain ⟨v61, hv61, hf⟩ := zc_1 hf
        refine zw_iald (pc := 100) hx hb hK hP 1 0 rfl rfl hv61 dX2_operate_100 ?_
        refine lv_i2l (pc := 101) hx hb dX2_operate_101 rfl ?_
        obtain ⟨v62, hv62, hf⟩ := zc_1 hf
        refine zw_topl (hv62) ?_
        refine lv_lstore_n (lv' := [(3, .long v62), (0, .ref a_o), (1, .int p1), (2, .int p2)]) (pc := 102) hx hb dX2_operate_102 rfl hl (by decide) rfl (fun ls hl => ?_)
        refine lv_aload_n (pc := 103) hx hb dX2_operate_103 rfl (lv_at hl 1 rfl) ?_
        refine va_get (pc := 104) (D := (dC, dI)) (ci := 3) (v := .ref a_o_stack) (C := RX2) (T := TX2) (N := 5) hx hb ht zq_layX2 hown hK hP 0 rfl rfl 3 (by decide) (ht _ zq_118) (fun _ h9 => h9) rfl dX2_operate_104 ?_
        refine lv_iload_n (pc := 107) hx hb dX2_operate_107 rfl (lv_at hl 3 rfl) ?_
        refine lv_iconst (v := (1 : Int32)) (pc := 108) hx hb dX2_operate_108 (by decide) ?_
        refine lv_isub (pc := 109) hx hb dX2_operate_109 ?_
        obtain ⟨v63, hv63, hf⟩ := zc_1 hf
        refine zw_iald (pc := 110) hx hb hK hP 1 0 rfl rfl hv63 dX2_operate_110 ?_
        refine lv_i2l (pc := 111) hx hb dX2_operate_111 rfl ?_
        obtain ⟨v64, hv64, hf⟩ := zc_1 hf
        refine zw_topl (hv64) ?_
        refine lv_lstore (lv' := [(5, .long v64), (3, .long v62), (0, .ref a_o), (1, .int p1), (2, .int p2)]) (pc := 112) hx hb dX2_operate_112 hl (by decide) rfl (fun ls hl => ?_)
        refine lv_lconst (v := (0 : Int64)) (pc := 114) hx hb dX2_operate_114 (by decide) ?_
        refine lv_lstore (lv' := [(7, .long (0 : Int64)), (5, .long v64), (3, .long v62), (0, .ref a_o), (1, .int p1), (2, .int p2)]) (pc := 115) hx hb dX2_operate_115 hl (by decide) rfl (fun ls hl => ?_)
        refine lv_iload_n (pc := 117) hx hb dX2_operate_117 rfl (lv_at hl 4 rfl) ?_
        obtain ⟨v73, hj, hf⟩ := zc_1 hf
        refine zj_join (pcJ := 260) (stk := []) (X := fun H locs ls => lv_has ls 9 [(0, .ref a_o), (2, .int p2), (7, .long v73)] ∧ va_P (dC, dI) zz_cls [zo_X2 a_o a_c a_o_told a_o_facts a_o_stack f_o_wind, (a_o_stack, .inl (dA 0, 64, .inl b_o_stack))] H ∧ va_D A [zo_X2 a_o a_c a_o_told a_o_facts a_o_stack f_o_wind, (a_o_stack, .inl (dA 0, 64, .inl b_o_stack))] ∧ va_S A s.heap H locs) (fun H locs ls hX => ?_) (fun J260 => ?_)
        · obtain ⟨hl, hP, hD, hS⟩ := hX
          clear hj
          refine lv_aload_n (pc := 260) hx hb dX2_operate_260 rfl (lv_at hl 0 rfl) ?_
          refine va_get (pc := 261) (D := (dC, dI)) (ci := 3) (v := .ref a_o_stack) (C := RX2) (T := TX2) (N := 5) hx hb ht zq_layX2 hown hK hP 0 rfl rfl 3 (by decide) (ht _ zq_118) (fun _ h9 => h9) rfl dX2_operate_261 ?_
          refine lv_iload_n (pc := 264) hx hb dX2_operate_264 rfl (lv_at hl 1 rfl) ?_
          refine lv_iconst (v := (2 : Int32)) (pc := 265) hx hb dX2_operate_265 (by decide) ?_
          refine lv_isub (pc := 266) hx hb dX2_operate_266 ?_
          refine lv_ldc2 (v := (-1000000 : Int64)) (pc := 267) hx hb hown (ht _ zq_123) dX2_operate_267 ?_
          refine lv_ldc2 (v := (1000000 : Int64)) (pc := 270) hx hb hown (ht _ zq_124) dX2_operate_270 ?_
          refine lv_lload (pc := 273) hx hb dX2_operate_273 (lv_at hl 2 rfl) ?_
          refine va_mmin_long (pc := 275) hx hb (hml.trans hl.1.symm) hown (ht _ zq_125) (ht _ zq_126) (ht _ zq_92) (ht _ zq_127) (Nat.le_of_ble_eq_true rfl) (Nat.le_of_ble_eq_true rfl) (Nat.zero_le _) (Nat.zero_le _) dX2_operate_275 ?_
          obtain ⟨v74, hv74, hf⟩ := zc_1 hf
          refine zw_topl (hv74) ?_
          refine va_mmax_long (pc := 278) hx hb (hml.trans hl.1.symm) hown (ht _ zq_128) (ht _ zq_129) (ht _ zq_92) (ht _ zq_130) (Nat.le_of_ble_eq_true rfl) (Nat.le_of_ble_eq_true rfl) (Nat.zero_le _) (Nat.zero_le _) dX2_operate_278 ?_
          obtain ⟨v75, hv75, hf⟩ := zc_1 hf
          refine zw_topl (hv75) ?_
          refine lv_l2i (pc := 281) hx hb dX2_operate_281 rfl ?_
          obtain ⟨a76, ha76, hf⟩ := zc_1 hf
          refine zw_iast (pc := 282) hx hb hK hP hD hS 1 0 rfl rfl ha76 dX2_operate_282 (fun H locs hP hD hS => ?_)
          have hP : va_P (dC, dI) zz_cls [zo_X2 a_o a_c a_o_told a_o_facts a_o_stack f_o_wind, (a_o_stack, .inl (dA 0, 64, .inl a76))] H := hP
          have hD : va_D A [zo_X2 a_o a_c a_o_told a_o_facts a_o_stack f_o_wind, (a_o_stack, .inl (dA 0, 64, .inl a76))] := hD
          refine lv_iload_n (pc := 283) hx hb dX2_operate_283 rfl (lv_at hl 1 rfl) ?_
          refine lv_iconst (v := (1 : Int32)) (pc := 284) hx hb dX2_operate_284 (by decide) ?_
          refine lv_isub (pc := 285) hx hb dX2_operate_285 ?_
          obtain ⟨rfl, rfl⟩ := zi_2 hf
          exact W.iret (pc := 286) hx hb hr (fun t ht hW => ⟨⟨_, (), rfl, rfl, zz_Bi (by rw [ht]; exact hP) (va_K.moved hW.alike hK) (hD)⟩, hS.F ht⟩) hS.2.2 dX2_operate_286
        · clear hf
          have hf := hj
          clear hj
          by_cases hc0 : p1 = (1010 : Int32)
          · have hf := za_t hf hc0
            refine lv_tableIn (tgt := 164) (off := 46) (pc := 118) hx hb dX2_operate_118 (by rw [hc0]; decide) (by rw [hc0]; decide) (by rw [hc0]; decide) rfl ?_
            refine lv_lload_n (pc := 164) hx hb dX2_operate_164 rfl (lv_at hl 2 rfl) ?_
            refine lv_lload (pc := 165) hx hb dX2_operate_165 (lv_at hl 1 rfl) ?_
            refine lv_ladd (pc := 167) hx hb dX2_operate_167 ?_
            obtain ⟨v65, hv65, hf⟩ := zc_1 hf
            refine zw_topl (hv65) ?_
            refine lv_lstore (lv' := [(7, .long v65), (5, .long v64), (3, .long v62), (0, .ref a_o), (1, .int p1), (2, .int p2)]) (pc := 168) hx hb dX2_operate_168 hl (by decide) rfl (fun ls hl => ?_)
            refine lv_goto (tgt := 260) (pc := 170) hx hb dX2_operate_170 rfl ?_
            obtain rfl := Option.some.inj hf
            exact J260 _ _ _ ⟨lv_sub hl [3, 5, 0] rfl, hP, hD, hS⟩
          have hf := za_f hf hc0
          by_cases hc1 : p1 = (1011 : Int32)
          · have hf := za_t hf hc1
            refine lv_tableIn (tgt := 173) (off := 55) (pc := 118) hx hb dX2_operate_118 (by rw [hc1]; decide) (by rw [hc1]; decide) (by rw [hc1]; decide) rfl ?_
            refine lv_lload_n (pc := 173) hx hb dX2_operate_173 rfl (lv_at hl 2 rfl) ?_
            refine lv_lload (pc := 174) hx hb dX2_operate_174 (lv_at hl 1 rfl) ?_
            refine lv_lsub (pc := 176) hx hb dX2_operate_176 ?_
            obtain ⟨v66, hv66, hf⟩ := zc_1 hf
            refine zw_topl (hv66) ?_
            refine lv_lstore (lv' := [(7, .long v66), (5, .long v64), (3, .long v62), (0, .ref a_o), (1, .int p1), (2, .int p2)]) (pc := 177) hx hb dX2_operate_177 hl (by decide) rfl (fun ls hl => ?_)
            refine lv_goto (tgt := 260) (pc := 179) hx hb dX2_operate_179 rfl ?_
            obtain rfl := Option.some.inj hf
            exact J260 _ _ _ ⟨lv_sub hl [3, 5, 0] rfl, hP, hD, hS⟩
          have hf := za_f hf hc1
          by_cases hc2 : p1 = (1012 : Int32)
          · have hf := za_t hf hc2
            refine lv_tableIn (tgt := 182) (off := 64) (pc := 118) hx hb dX2_operate_118 (by rw [hc2]; decide) (by rw [hc2]; decide) (by rw [hc2]; decide) rfl ?_
            refine lv_lload_n (pc := 182) hx hb dX2_operate_182 rfl (lv_at hl 2 rfl) ?_
            refine lv_lload (pc := 183) hx hb dX2_operate_183 (lv_at hl 1 rfl) ?_
            refine lv_lmul (pc := 185) hx hb dX2_operate_185 ?_
            obtain ⟨v67, hv67, hf⟩ := zc_1 hf
            refine zw_topl (hv67) ?_
            refine lv_lstore (lv' := [(7, .long v67), (5, .long v64), (3, .long v62), (0, .ref a_o), (1, .int p1), (2, .int p2)]) (pc := 186) hx hb dX2_operate_186 hl (by decide) rfl (fun ls hl => ?_)
            refine lv_goto (tgt := 260) (pc := 188) hx hb dX2_operate_188 rfl ?_
            obtain rfl := Option.some.inj hf
            exact J260 _ _ _ ⟨lv_sub hl [3, 5, 0] rfl, hP, hD, hS⟩
          have hf := za_f hf hc2
          by_cases hc3 : p1 = (1013 : Int32)
          · have hf := za_t hf hc3
            refine lv_tableIn (tgt := 191) (off := 73) (pc := 118) hx hb dX2_operate_118 (by rw [hc3]; decide) (by rw [hc3]; decide) (by rw [hc3]; decide) rfl ?_
            refine lv_lload_n (pc := 191) hx hb dX2_operate_191 rfl (lv_at hl 2 rfl) ?_
            refine lv_lload (pc := 192) hx hb dX2_operate_192 (lv_at hl 1 rfl) ?_
            refine W.lcmp (pc := 194) hx hb dX2_operate_194 ?_
            obtain ⟨v68, hj, hf⟩ := zc_1 hf
            refine zj_join (pcJ := 203) (stk := [.long v68]) (X := fun H locs ls => lv_has ls 9 [(0, .ref a_o), (2, .int p2)] ∧ va_P (dC, dI) zz_cls [zo_X2 a_o a_c a_o_told a_o_facts a_o_stack f_o_wind, (a_o_stack, .inl (dA 0, 64, .inl b_o_stack))] H ∧ va_D A [zo_X2 a_o a_c a_o_told a_o_facts a_o_stack f_o_wind, (a_o_stack, .inl (dA 0, 64, .inl b_o_stack))] ∧ va_S A s.heap H locs) (fun H locs ls hX => ?_) (fun J203 => ?_)
            · obtain ⟨hl, hP, hD, hS⟩ := hX
              clear hj
              refine lv_lstore (lv' := [(7, .long v68), (0, .ref a_o), (2, .int p2)]) (pc := 203) hx hb dX2_operate_203 hl (by decide) rfl (fun ls hl => ?_)
              refine lv_goto (tgt := 260) (pc := 205) hx hb dX2_operate_205 rfl ?_
              obtain rfl := Option.some.inj hf
              exact J260 _ _ _ ⟨lv_sub hl [1, 2, 0] rfl, hP, hD, hS⟩
            · clear hf
              have hf := hj
              clear hj
              refine lv_if_ne (tgt := 202) (pc := 195) hx hb dX2_operate_195 rfl (fun hc => ?_) (fun hc => ?_)
              · have hf := za_f hf hc
                refine lv_lconst (v := (0 : Int64)) (pc := 202) hx hb dX2_operate_202 (by decide) ?_
                obtain rfl := Option.some.inj hf
                exact J203 _ _ _ ⟨lv_sub hl [3, 5] rfl, hP, hD, hS⟩
              · have hf := za_t hf hc
                refine lv_lconst (v := (1 : Int64)) (pc := 198) hx hb dX2_operate_198 (by decide) ?_
                refine lv_goto (tgt := 203) (pc := 199) hx hb dX2_operate_199 rfl ?_
                obtain rfl := Option.some.inj hf
                exact J203 _ _ _ ⟨lv_sub hl [3, 5] rfl, hP, hD, hS⟩
          have hf := za_f hf hc3
          by_cases hc4 : p1 = (1014 : Int32)
          · have hf := za_t hf hc4
            refine lv_tableIn (tgt := 208) (off := 90) (pc := 118) hx hb dX2_operate_118 (by rw [hc4]; decide) (by rw [hc4]; decide) (by rw [hc4]; decide) rfl ?_
            refine lv_lload_n (pc := 208) hx hb dX2_operate_208 rfl (lv_at hl 2 rfl) ?_
            refine lv_lload (pc := 209) hx hb dX2_operate_209 (lv_at hl 1 rfl) ?_
            refine W.lcmp (pc := 211) hx hb dX2_operate_211 ?_
            obtain ⟨v69, hj, hf⟩ := zc_1 hf
            refine zj_join (pcJ := 220) (stk := [.long v69]) (X := fun H locs ls => lv_has ls 9 [(0, .ref a_o), (2, .int p2)] ∧ va_P (dC, dI) zz_cls [zo_X2 a_o a_c a_o_told a_o_facts a_o_stack f_o_wind, (a_o_stack, .inl (dA 0, 64, .inl b_o_stack))] H ∧ va_D A [zo_X2 a_o a_c a_o_told a_o_facts a_o_stack f_o_wind, (a_o_stack, .inl (dA 0, 64, .inl b_o_stack))] ∧ va_S A s.heap H locs) (fun H locs ls hX => ?_) (fun J220 => ?_)
            · obtain ⟨hl, hP, hD, hS⟩ := hX
              clear hj
              refine lv_lstore (lv' := [(7, .long v69), (0, .ref a_o), (2, .int p2)]) (pc := 220) hx hb dX2_operate_220 hl (by decide) rfl (fun ls hl => ?_)
              refine lv_goto (tgt := 260) (pc := 222) hx hb dX2_operate_222 rfl ?_
              obtain rfl := Option.some.inj hf
              exact J260 _ _ _ ⟨lv_sub hl [1, 2, 0] rfl, hP, hD, hS⟩
            · clear hf
              have hf := hj
              clear hj
              refine lv_if_ge (tgt := 219) (pc := 212) hx hb dX2_operate_212 rfl (fun hc => ?_) (fun hc => ?_)
              · have hf := za_t hf hc
                refine lv_lconst (v := (0 : Int64)) (pc := 219) hx hb dX2_operate_219 (by decide) ?_
                obtain rfl := Option.some.inj hf
                exact J220 _ _ _ ⟨lv_sub hl [3, 5] rfl, hP, hD, hS⟩
              · have hf := za_f hf hc
                refine lv_lconst (v := (1 : Int64)) (pc := 215) hx hb dX2_operate_215 (by decide) ?_
                refine lv_goto (tgt := 220) (pc := 216) hx hb dX2_operate_216 rfl ?_
                obtain rfl := Option.some.inj hf
                exact J220 _ _ _ ⟨lv_sub hl [3, 5] rfl, hP, hD, hS⟩
          have hf := za_f hf hc4
          by_cases hc5 : p1 = (1015 : Int32)
          · have hf := za_t hf hc5
            refine lv_tableIn (tgt := 225) (off := 107) (pc := 118) hx hb dX2_operate_118 (by rw [hc5]; decide) (by rw [hc5]; decide) (by rw [hc5]; decide) rfl ?_
            refine lv_lload_n (pc := 225) hx hb dX2_operate_225 rfl (lv_at hl 2 rfl) ?_
            refine lv_lload (pc := 226) hx hb dX2_operate_226 (lv_at hl 1 rfl) ?_
            refine W.lcmp (pc := 228) hx hb dX2_operate_228 ?_
            obtain ⟨v70, hj, hf⟩ := zc_1 hf
            refine zj_join (pcJ := 237) (stk := [.long v70]) (X := fun H locs ls => lv_has ls 9 [(0, .ref a_o), (2, .int p2)] ∧ va_P (dC, dI) zz_cls [zo_X2 a_o a_c a_o_told a_o_facts a_o_stack f_o_wind, (a_o_stack, .inl (dA 0, 64, .inl b_o_stack))] H ∧ va_D A [zo_X2 a_o a_c a_o_told a_o_facts a_o_stack f_o_wind, (a_o_stack, .inl (dA 0, 64, .inl b_o_stack))] ∧ va_S A s.heap H locs) (fun H locs ls hX => ?_) (fun J237 => ?_)
            · obtain ⟨hl, hP, hD, hS⟩ := hX
              clear hj
              refine lv_lstore (lv' := [(7, .long v70), (0, .ref a_o), (2, .int p2)]) (pc := 237) hx hb dX2_operate_237 hl (by decide) rfl (fun ls hl => ?_)
              refine lv_goto (tgt := 260) (pc := 239) hx hb dX2_operate_239 rfl ?_
              obtain rfl := Option.some.inj hf
              exact J260 _ _ _ ⟨lv_sub hl [1, 2, 0] rfl, hP, hD, hS⟩
            · clear hf
              have hf := hj
              clear hj
              refine lv_if_le (tgt := 236) (pc := 229) hx hb dX2_operate_229 rfl (fun hc => ?_) (fun hc => ?_)
              · have hf := za_t hf hc
                refine lv_lconst (v := (0 : Int64)) (pc := 236) hx hb dX2_operate_236 (by decide) ?_
                obtain rfl := Option.some.inj hf
                exact J237 _ _ _ ⟨lv_sub hl [3, 5] rfl, hP, hD, hS⟩
              · have hf := za_f hf hc
                refine lv_lconst (v := (1 : Int64)) (pc := 232) hx hb dX2_operate_232 (by decide) ?_
                refine lv_goto (tgt := 237) (pc := 233) hx hb dX2_operate_233 rfl ?_
                obtain rfl := Option.some.inj hf
                exact J237 _ _ _ ⟨lv_sub hl [3, 5] rfl, hP, hD, hS⟩
          have hf := za_f hf hc5
          by_cases hc6 : p1 = (1016 : Int32)
          · have hf := za_t hf hc6
            refine lv_tableIn (tgt := 242) (off := 124) (pc := 118) hx hb dX2_operate_118 (by rw [hc6]; decide) (by rw [hc6]; decide) (by rw [hc6]; decide) rfl ?_
            refine lv_lload_n (pc := 242) hx hb dX2_operate_242 rfl (lv_at hl 2 rfl) ?_
            refine lv_lload (pc := 243) hx hb dX2_operate_243 (lv_at hl 1 rfl) ?_
            refine lv_land (pc := 245) hx hb dX2_operate_245 ?_
            obtain ⟨v71, hv71, hf⟩ := zc_1 hf
            refine zw_topl (hv71) ?_
            refine lv_lstore (lv' := [(7, .long v71), (5, .long v64), (3, .long v62), (0, .ref a_o), (1, .int p1), (2, .int p2)]) (pc := 246) hx hb dX2_operate_246 hl (by decide) rfl (fun ls hl => ?_)
            refine lv_goto (tgt := 260) (pc := 248) hx hb dX2_operate_248 rfl ?_
            obtain rfl := Option.some.inj hf
            exact J260 _ _ _ ⟨lv_sub hl [3, 5, 0] rfl, hP, hD, hS⟩
          have hf := za_f hf hc6
          by_cases hc7 : p1 = (1017 : Int32)
          · have hf := za_t hf hc7
            refine lv_tableIn (tgt := 251) (off := 133) (pc := 118) hx hb dX2_operate_118 (by rw [hc7]; decide) (by rw [hc7]; decide) (by rw [hc7]; decide) rfl ?_
            refine lv_lload_n (pc := 251) hx hb dX2_operate_251 rfl (lv_at hl 2 rfl) ?_
            refine lv_lload (pc := 252) hx hb dX2_operate_252 (lv_at hl 1 rfl) ?_
            refine lv_lor (pc := 254) hx hb dX2_operate_254 ?_
            obtain ⟨v72, hv72, hf⟩ := zc_1 hf
            refine zw_topl (hv72) ?_
            refine lv_lstore (lv' := [(7, .long v72), (5, .long v64), (3, .long v62), (0, .ref a_o), (1, .int p1), (2, .int p2)]) (pc := 255) hx hb dX2_operate_255 hl (by decide) rfl (fun ls hl => ?_)
            refine lv_goto (tgt := 260) (pc := 257) hx hb dX2_operate_257 rfl ?_
            obtain rfl := Option.some.inj hf
            exact J260 _ _ _ ⟨lv_sub hl [3, 5, 0] rfl, hP, hD, hS⟩
          have hf := za_f hf hc7
          refine lv_tableOut (tgt := 260) (pc := 118) hx hb dX2_operate_118 (by have q0 := lv_neT (a := 1010) hc0 (by decide); have q1 := lv_neT (a := 1011) hc1 (by decide); have q2 := lv_neT (a := 1012) hc2 (by decide); have q3 := lv_neT (a := 1013) hc3 (by decide); have q4 := lv_neT (a := 1014) hc4 (by decide); have q5 := lv_neT (a := 1015) hc5 (by decide); have q6 := lv_neT (a := 1016) hc6 (by decide); have q7 := lv_neT (a := 1017) hc7 (by decide); omega) rfl ?_
          obtain rfl := Option.some.inj hf
          exact J260 _ _ _ ⟨lv_sub hl [3, 5, 0] rfl, hP, hD, hS⟩
      · have hf := za_f hf hc
        refine lv_iload_n (pc := 91) hx hb dX2_operate_91 rfl (lv_at hl 2 rfl) ?_
        obtain ⟨rfl, rfl⟩ := zi_2 hf
        exact W.iret (pc := 92) hx hb hr (fun t ht hW => ⟨⟨_, (), rfl, rfl, zz_Bi (by rw [ht]; exact hP) (va_K.moved hW.alike hK) (hD)⟩, hS.F ht⟩) hS.2.2 dX2_operate_92
    · have hf := za_t hf hc
      refine lv_iload_n (pc := 39) hx hb dX2_operate_39 rfl (lv_at hl 2 rfl) ?_
      refine lv_iconst (v := (3 : Int32)) (pc := 40) hx hb dX2_operate_40 (by decide) ?_
      refine lv_icmp_lt (tgt := 86) (pc := 41) hx hb dX2_operate_41 rfl (fun hc => ?_) (fun hc => ?_)
      · have hf := za_t hf hc
        refine lv_iload_n (pc := 86) hx hb dX2_operate_86 rfl (lv_at hl 2 rfl) ?_
        refine lv_iconst (v := (2 : Int32)) (pc := 87) hx hb dX2_operate_87 (by decide) ?_
        refine lv_icmp_ge (tgt := 93) (pc := 88) hx hb dX2_operate_88 rfl (fun hc => ?_) (fun hc => ?_)
        · have hf := za_t hf hc
          refine lv_aload_n (pc := 93) hx hb dX2_operate_93 rfl (lv_at hl 0 rfl) ?_
          refine va_get (pc := 94) (D := (dC, dI)) (ci := 3) (v := .ref a_o_stack) (C := RX2) (T := TX2) (N := 5) hx hb ht zq_layX2 hown hK hP 0 rfl rfl 3 (by decide) (ht _ zq_118) (fun _ h9 => h9) rfl dX2_operate_94 ?_
          refine lv_iload_n (pc := 97) hx hb dX2_operate_97 rfl (lv_at hl 2 rfl) ?_
          refine lv_iconst (v := (2 : Int32)) (pc := 98) hx hb dX2_operate_98 (by decide) ?_
          refine lv_isub (pc := 99) hx hb dX2_operate_99 ?_
          obtain ⟨v40, hv40, hf⟩ := zc_1 hf
          refine zw_iald (pc := 100) hx hb hK hP 1 0 rfl rfl hv40 dX2_operate_100 ?_
          refine lv_i2l (pc := 101) hx hb dX2_operate_101 rfl ?_
          obtain ⟨v41, hv41, hf⟩ := zc_1 hf
          refine zw_topl (hv41) ?_
          refine lv_lstore_n (lv' := [(3, .long v41), (0, .ref a_o), (1, .int p1), (2, .int p2)]) (pc := 102) hx hb dX2_operate_102 rfl hl (by decide) rfl (fun ls hl => ?_)
          refine lv_aload_n (pc := 103) hx hb dX2_operate_103 rfl (lv_at hl 1 rfl) ?_
          refine va_get (pc := 104) (D := (dC, dI)) (ci := 3) (v := .ref a_o_stack) (C := RX2) (T := TX2) (N := 5) hx hb ht zq_layX2 hown hK hP 0 rfl rfl 3 (by decide) (ht _ zq_118) (fun _ h9 => h9) rfl dX2_operate_104 ?_
          refine lv_iload_n (pc := 107) hx hb dX2_operate_107 rfl (lv_at hl 3 rfl) ?_
          refine lv_iconst (v := (1 : Int32)) (pc := 108) hx hb dX2_operate_108 (by decide) ?_
          refine lv_isub (pc := 109) hx hb dX2_operate_109 ?_
          obtain ⟨v42, hv42, hf⟩ := zc_1 hf
          refine zw_iald (pc := 110) hx hb hK hP 1 0 rfl rfl hv42 dX2_operate_110 ?_
          refine lv_i2l (pc := 111) hx hb dX2_operate_111 rfl ?_
          obtain ⟨v43, hv43, hf⟩ := zc_1 hf
          refine zw_topl (hv43) ?_
          refine lv_lstore (lv' := [(5, .long v43), (3, .long v41), (0, .ref a_o), (1, .int p1), (2, .int p2)]) (pc := 112) hx hb dX2_operate_112 hl (by decide) rfl (fun ls hl => ?_)
          refine lv_lconst (v := (0 : Int64)) (pc := 114) hx hb dX2_operate_114 (by decide) ?_
          refine lv_lstore (lv' := [(7, .long (0 : Int64)), (5, .long v43), (3, .long v41), (0, .ref a_o), (1, .int p1), (2, .int p2)]) (pc := 115) hx hb dX2_operate_115 hl (by decide) rfl (fun ls hl => ?_)
          refine lv_iload_n (pc := 117) hx hb dX2_operate_117 rfl (lv_at hl 4 rfl) ?_
          obtain ⟨v52, hj, hf⟩ := zc_1 hf
          refine zj_join (pcJ := 260) (stk := []) (X := fun H locs ls => lv_has ls 9 [(0, .ref a_o), (2, .int p2), (7, .long v52)] ∧ va_P (dC, dI) zz_cls [zo_X2 a_o a_c a_o_told a_o_facts a_o_stack f_o_wind, (a_o_stack, .inl (dA 0, 64, .inl b_o_stack))] H ∧ va_D A [zo_X2 a_o a_c a_o_told a_o_facts a_o_stack f_o_wind, (a_o_stack, .inl (dA 0, 64, .inl b_o_stack))] ∧ va_S A s.heap H locs) (fun H locs ls hX => ?_) (fun J260 => ?_)
          · obtain ⟨hl, hP, hD, hS⟩ := hX
            clear hj
            refine lv_aload_n (pc := 260) hx hb dX2_operate_260 rfl (lv_at hl 0 rfl) ?_
            refine va_get (pc := 261) (D := (dC, dI)) (ci := 3) (v := .ref a_o_stack) (C := RX2) (T := TX2) (N := 5) hx hb ht zq_layX2 hown hK hP 0 rfl rfl 3 (by decide) (ht _ zq_118) (fun _ h9 => h9) rfl dX2_operate_261 ?_
            refine lv_iload_n (pc := 264) hx hb dX2_operate_264 rfl (lv_at hl 1 rfl) ?_
            refine lv_iconst (v := (2 : Int32)) (pc := 265) hx hb dX2_operate_265 (by decide) ?_
            refine lv_isub (pc := 266) hx hb dX2_operate_266 ?_
            refine lv_ldc2 (v := (-1000000 : Int64)) (pc := 267) hx hb hown (ht _ zq_123) dX2_operate_267 ?_
            refine lv_ldc2 (v := (1000000 : Int64)) (pc := 270) hx hb hown (ht _ zq_124) dX2_operate_270 ?_
            refine lv_lload (pc := 273) hx hb dX2_operate_273 (lv_at hl 2 rfl) ?_
            refine va_mmin_long (pc := 275) hx hb (hml.trans hl.1.symm) hown (ht _ zq_125) (ht _ zq_126) (ht _ zq_92) (ht _ zq_127) (Nat.le_of_ble_eq_true rfl) (Nat.le_of_ble_eq_true rfl) (Nat.zero_le _) (Nat.zero_le _) dX2_operate_275 ?_
            obtain ⟨v53, hv53, hf⟩ := zc_1 hf
            refine zw_topl (hv53) ?_
            refine va_mmax_long (pc := 278) hx hb (hml.trans hl.1.symm) hown (ht _ zq_128) (ht _ zq_129) (ht _ zq_92) (ht _ zq_130) (Nat.le_of_ble_eq_true rfl) (Nat.le_of_ble_eq_true rfl) (Nat.zero_le _) (Nat.zero_le _) dX2_operate_278 ?_
            obtain ⟨v54, hv54, hf⟩ := zc_1 hf
            refine zw_topl (hv54) ?_
            refine lv_l2i (pc := 281) hx hb dX2_operate_281 rfl ?_
            obtain ⟨a55, ha55, hf⟩ := zc_1 hf
            refine zw_iast (pc := 282) hx hb hK hP hD hS 1 0 rfl rfl ha55 dX2_operate_282 (fun H locs hP hD hS => ?_)
            have hP : va_P (dC, dI) zz_cls [zo_X2 a_o a_c a_o_told a_o_facts a_o_stack f_o_wind, (a_o_stack, .inl (dA 0, 64, .inl a55))] H := hP
            have hD : va_D A [zo_X2 a_o a_c a_o_told a_o_facts a_o_stack f_o_wind, (a_o_stack, .inl (dA 0, 64, .inl a55))] := hD
            refine lv_iload_n (pc := 283) hx hb dX2_operate_283 rfl (lv_at hl 1 rfl) ?_
            refine lv_iconst (v := (1 : Int32)) (pc := 284) hx hb dX2_operate_284 (by decide) ?_
            refine lv_isub (pc := 285) hx hb dX2_operate_285 ?_
            obtain ⟨rfl, rfl⟩ := zi_2 hf
            exact W.iret (pc := 286) hx hb hr (fun t ht hW => ⟨⟨_, (), rfl, rfl, zz_Bi (by rw [ht]; exact hP) (va_K.moved hW.alike hK) (hD)⟩, hS.F ht⟩) hS.2.2 dX2_operate_286
          · clear hf
            have hf := hj
            clear hj
            by_cases hc0 : p1 = (1010 : Int32)
            · have hf := za_t hf hc0
              refine lv_tableIn (tgt := 164) (off := 46) (pc := 118) hx hb dX2_operate_118 (by rw [hc0]; decide) (by rw [hc0]; decide) (by rw [hc0]; decide) rfl ?_
              refine lv_lload_n (pc := 164) hx hb dX2_operate_164 rfl (lv_at hl 2 rfl) ?_
              refine lv_lload (pc := 165) hx hb dX2_operate_165 (lv_at hl 1 rfl) ?_
              refine lv_ladd (pc := 167) hx hb dX2_operate_167 ?_
              obtain ⟨v44, hv44, hf⟩ := zc_1 hf
              refine zw_topl (hv44) ?_
              refine lv_lstore (lv' := [(7, .long v44), (5, .long v43), (3, .long v41), (0, .ref a_o), (1, .int p1), (2, .int p2)]) (pc := 168) hx hb dX2_operate_168 hl (by decide) rfl (fun ls hl => ?_)
              refine lv_goto (tgt := 260) (pc := 170) hx hb dX2_operate_170 rfl ?_
              obtain rfl := Option.some.inj hf
              exact J260 _ _ _ ⟨lv_sub hl [3, 5, 0] rfl, hP, hD, hS⟩
            have hf := za_f hf hc0
            by_cases hc1 : p1 = (1011 : Int32)
            · have hf := za_t hf hc1
              refine lv_tableIn (tgt := 173) (off := 55) (pc := 118) hx hb dX2_operate_118 (by rw [hc1]; decide) (by rw [hc1]; decide) (by rw [hc1]; decide) rfl ?_
              refine lv_lload_n (pc := 173) hx hb dX2_operate_173 rfl (lv_at hl 2 rfl) ?_
              refine lv_lload (pc := 174) hx hb dX2_operate_174 (lv_at hl 1 rfl) ?_
              refine lv_lsub (pc := 176) hx hb dX2_operate_176 ?_
              obtain ⟨v45, hv45, hf⟩ := zc_1 hf
              refine zw_topl (hv45) ?_
              refine lv_lstore (lv' := [(7, .long v45), (5, .long v43), (3, .long v41), (0, .ref a_o), (1, .int p1), (2, .int p2)]) (pc := 177) hx hb dX2_operate_177 hl (by decide) rfl (fun ls hl => ?_)
              refine lv_goto (tgt := 260) (pc := 179) hx hb dX2_operate_179 rfl ?_
              obtain rfl := Option.some.inj hf
              exact J260 _ _ _ ⟨lv_sub hl [3, 5, 0] rfl, hP, hD, hS⟩
            have hf := za_f hf hc1
            by_cases hc2 : p1 = (1012 : Int32)
            · have hf := za_t hf hc2
              refine lv_tableIn (tgt := 182) (off := 64) (pc := 118) hx hb dX2_operate_118 (by rw [hc2]; decide) (by rw [hc2]; decide) (by rw [hc2]; decide) rfl ?_
              refine lv_lload_n (pc := 182) hx hb dX2_operate_182 rfl (lv_at hl 2 rfl) ?_
              refine lv_lload (pc := 183) hx hb dX2_operate_183 (lv_at hl 1 rfl) ?_
              refine lv_lmul (pc := 185) hx hb dX2_operate_185 ?_
              obtain ⟨v46, hv46, hf⟩ := zc_1 hf
              refine zw_topl (hv46) ?_
              refine lv_lstore (lv' := [(7, .long v46), (5, .long v43), (3, .long v41), (0, .ref a_o), (1, .int p1), (2, .int p2)]) (pc := 186) hx hb dX2_operate_186 hl (by decide) rfl (fun ls hl => ?_)
              refine lv_goto (tgt := 260) (pc := 188) hx hb dX2_operate_188 rfl ?_
              obtain rfl := Option.some.inj hf
              exact J260 _ _ _ ⟨lv_sub hl [3, 5, 0] rfl, hP, hD, hS⟩
            have hf := za_f hf hc2
            by_cases hc3 : p1 = (1013 : Int32)
            · have hf := za_t hf hc3
              refine lv_tableIn (tgt := 191) (off := 73) (pc := 118) hx hb dX2_operate_118 (by rw [hc3]; decide) (by rw [hc3]; decide) (by rw [hc3]; decide) rfl ?_
              refine lv_lload_n (pc := 191) hx hb dX2_operate_191 rfl (lv_at hl 2 rfl) ?_
              refine lv_lload (pc := 192) hx hb dX2_operate_192 (lv_at hl 1 rfl) ?_
              refine W.lcmp (pc := 194) hx hb dX2_operate_194 ?_
              obtain ⟨v47, hj, hf⟩ := zc_1 hf
              refine zj_join (pcJ := 203) (stk := [.long v47]) (X := fun H locs ls => lv_has ls 9 [(0, .ref a_o), (2, .int p2)] ∧ va_P (dC, dI) zz_cls [zo_X2 a_o a_c a_o_told a_o_facts a_o_stack f_o_wind, (a_o_stack, .inl (dA 0, 64, .inl b_o_stack))] H ∧ va_D A [zo_X2 a_o a_c a_o_told a_o_facts a_o_stack f_o_wind, (a_o_stack, .inl (dA 0, 64, .inl b_o_stack))] ∧ va_S A s.heap H locs) (fun H locs ls hX => ?_) (fun J203 => ?_)
              · obtain ⟨hl, hP, hD, hS⟩ := hX
                clear hj
                refine lv_lstore (lv' := [(7, .long v47), (0, .ref a_o), (2, .int p2)]) (pc := 203) hx hb dX2_operate_203 hl (by decide) rfl (fun ls hl => ?_)
                refine lv_goto (tgt := 260) (pc := 205) hx hb dX2_operate_205 rfl ?_
                obtain rfl := Option.some.inj hf
                exact J260 _ _ _ ⟨lv_sub hl [1, 2, 0] rfl, hP, hD, hS⟩
              · clear hf
                have hf := hj
                clear hj
                refine lv_if_ne (tgt := 202) (pc := 195) hx hb dX2_operate_195 rfl (fun hc => ?_) (fun hc => ?_)
                · have hf := za_f hf hc
                  refine lv_lconst (v := (0 : Int64)) (pc := 202) hx hb dX2_operate_202 (by decide) ?_
                  obtain rfl := Option.some.inj hf
                  exact J203 _ _ _ ⟨lv_sub hl [3, 5] rfl, hP, hD, hS⟩
                · have hf := za_t hf hc
                  refine lv_lconst (v := (1 : Int64)) (pc := 198) hx hb dX2_operate_198 (by decide) ?_
                  refine lv_goto (tgt := 203) (pc := 199) hx hb dX2_operate_199 rfl ?_
                  obtain rfl := Option.some.inj hf
                  exact J203 _ _ _ ⟨lv_sub hl [3, 5] rfl, hP, hD, hS⟩
            have hf := za_f hf hc3
            by_cases hc4 : p1 = (1014 : Int32)
            · have hf := za_t hf hc4
              refine lv_tableIn (tgt := 208) (off := 90) (pc := 118) hx hb dX2_operate_118 (by rw [hc4]; decide) (by rw [hc4]; decide) (by rw [hc4]; decide) rfl ?_
              refine lv_lload_n (pc := 208) hx hb dX2_operate_208 rfl (lv_at hl 2 rfl) ?_
              refine lv_lload (pc := 209) hx hb dX2_operate_209 (lv_at hl 1 rfl) ?_
              refine W.lcmp (pc := 211) hx hb dX2_operate_211 ?_
              obtain ⟨v48, hj, hf⟩ := zc_1 hf
              refine zj_join (pcJ := 220) (stk := [.long v48]) (X := fun H locs ls => lv_has ls 9 [(0, .ref a_o), (2, .int p2)] ∧ va_P (dC, dI) zz_cls [zo_X2 a_o a_c a_o_told a_o_facts a_o_stack f_o_wind, (a_o_stack, .inl (dA 0, 64, .inl b_o_stack))] H ∧ va_D A [zo_X2 a_o a_c a_o_told a_o_facts a_o_stack f_o_wind, (a_o_stack, .inl (dA 0, 64, .inl b_o_stack))] ∧ va_S A s.heap H locs) (fun H locs ls hX => ?_) (fun J220 => ?_)
              · obtain ⟨hl, hP, hD, hS⟩ := hX
                clear hj
                refine lv_lstore (lv' := [(7, .long v48), (0, .ref a_o), (2, .int p2)]) (pc := 220) hx hb dX2_operate_220 hl (by decide) rfl (fun ls hl => ?_)
                refine lv_goto (tgt := 260) (pc := 222) hx hb dX2_operate_222 rfl ?_
                obtain rfl := Option.some.inj hf
                exact J260 _ _ _ ⟨lv_sub hl [1, 2, 0] rfl, hP, hD, hS⟩
              · clear hf
                have hf := hj
                clear hj
                refine lv_if_ge (tgt := 219) (pc := 212) hx hb dX2_operate_212 rfl (fun hc => ?_) (fun hc => ?_)
                · have hf := za_t hf hc
                  refine lv_lconst (v := (0 : Int64)) (pc := 219) hx hb dX2_operate_219 (by decide) ?_
                  obtain rfl := Option.some.inj hf
                  exact J220 _ _ _ ⟨lv_sub hl [3, 5] rfl, hP, hD, hS⟩
                · have hf := za_f hf hc
                  refine lv_lconst (v := (1 : Int64)) (pc := 215) hx hb dX2_operate_215 (by decide) ?_
                  refine lv_goto (tgt := 220) (pc := 216) hx hb dX2_operate_216 rfl ?_
                  obtain rfl := Option.some.inj hf
                  exact J220 _ _ _ ⟨lv_sub hl [3, 5] rfl, hP, hD, hS⟩
            have hf := za_f hf hc4
            by_cases hc5 : p1 = (1015 : Int32)
            · have hf := za_t hf hc5
              refine lv_tableIn (tgt := 225) (off := 107) (pc := 118) hx hb dX2_operate_118 (by rw [hc5]; decide) (by rw [hc5]; decide) (by rw [hc5]; decide) rfl ?_
              refine lv_lload_n (pc := 225) hx hb dX2_operate_225 rfl (lv_at hl 2 rfl) ?_
              refine lv_lload (pc := 226) hx hb dX2_operate_226 (lv_at hl 1 rfl) ?_
              refine W.lcmp (pc := 228) hx hb dX2_operate_228 ?_
              obtain ⟨v49, hj, hf⟩ := zc_1 hf
              refine zj_join (pcJ := 237) (stk := [.long v49]) (X := fun H locs ls => lv_has ls 9 [(0, .ref a_o), (2, .int p2)] ∧ va_P (dC, dI) zz_cls [zo_X2 a_o a_c a_o_told a_o_facts a_o_stack f_o_wind, (a_o_stack, .inl (dA 0, 64, .inl b_o_stack))] H ∧ va_D A [zo_X2 a_o a_c a_o_told a_o_facts a_o_stack f_o_wind, (a_o_stack, .inl (dA 0, 64, .inl b_o_stack))] ∧ va_S A s.heap H locs) (fun H locs ls hX => ?_) (fun J237 => ?_)
              · obtain ⟨hl, hP, hD, hS⟩ := hX
                clear hj
                refine lv_lstore (lv' := [(7, .long v49), (0, .ref a_o), (2, .int p2)]) (pc := 237) hx hb dX2_operate_237 hl (by decide) rfl (fun ls hl => ?_)
                refine lv_goto (tgt := 260) (pc := 239) hx hb dX2_operate_239 rfl ?_
                obtain rfl := Option.some.inj hf
                exact J260 _ _ _ ⟨lv_sub hl [1, 2, 0] rfl, hP, hD, hS⟩
              · clear hf
                have hf := hj
                clear hj
                refine lv_if_le (tgt := 236) (pc := 229) hx hb dX2_operate_229 rfl (fun hc => ?_) (fun hc => ?_)
                · have hf := za_t hf hc
                  refine lv_lconst (v := (0 : Int64)) (pc := 236) hx hb dX2_operate_236 (by decide) ?_
                  obtain rfl := Option.some.inj hf
                  exact J237 _ _ _ ⟨lv_sub hl [3, 5] rfl, hP, hD, hS⟩
                · have hf := za_f hf hc
                  refine lv_lconst (v := (1 : Int64)) (pc := 232) hx hb dX2_operate_232 (by decide) ?_
                  refine lv_goto (tgt := 237) (pc := 233) hx hb dX2_operate_233 rfl ?_
                  obtain rfl := Option.some.inj hf
                  exact J237 _ _ _ ⟨lv_sub hl [3, 5] rfl, hP, hD, hS⟩
            have hf := za_f hf hc5
            by_cases hc6 : p1 = (1016 : Int32)
            · have hf := za_t hf hc6
              refine lv_tableIn (tgt := 242) (off := 124) (pc := 118) hx hb dX2_operate_118 (by rw [hc6]; decide) (by rw [hc6]; decide) (by rw [hc6]; decide) rfl ?_
              refine lv_lload_n (pc := 242) hx hb dX2_operate_242 rfl (lv_at hl 2 rfl) ?_
              refine lv_lload (pc := 243) hx hb dX2_operate_243 (lv_at hl 1 rfl) ?_
              refine lv_land (pc := 245) hx hb dX2_operate_245 ?_
              obtain ⟨v50, hv50, hf⟩ := zc_1 hf
              refine zw_topl (hv50) ?_
              refine lv_lstore (lv' := [(7, .long v50), (5, .long v43), (3, .long v41), (0, .ref a_o), (1, .int p1), (2, .int p2)]) (pc := 246) hx hb dX2_operate_246 hl (by decide) rfl (fun ls hl => ?_)
              refine lv_goto (tgt := 260) (pc := 248) hx hb dX2_operate_248 rfl ?_
              obtain rfl := Option.some.inj hf
              exact J260 _ _ _ ⟨lv_sub hl [3, 5, 0] rfl, hP, hD, hS⟩
            have hf := za_f hf hc6
            by_cases hc7 : p1 = (1017 : Int32)
            · have hf := za_t hf hc7
              refine lv_tableIn (tgt := 251) (off := 133) (pc := 118) hx hb dX2_operate_118 (by rw [hc7]; decide) (by rw [hc7]; decide) (by rw [hc7]; decide) rfl ?_
              refine lv_lload_n (pc := 251) hx hb dX2_operate_251 rfl (lv_at hl 2 rfl) ?_
              refine lv_lload (pc := 252) hx hb dX2_operate_252 (lv_at hl 1 rfl) ?_
              refine lv_lor (pc := 254) hx hb dX2_operate_254 ?_
              obtain ⟨v51, hv51, hf⟩ := zc_1 hf
              refine zw_topl (hv51) ?_
              refine lv_lstore (lv' := [(7, .long v51), (5, .long v43), (3, .long v41), (0, .ref a_o), (1, .int p1), (2, .int p2)]) (pc := 255) hx hb dX2_operate_255 hl (by decide) rfl (fun ls hl => ?_)
              refine lv_goto (tgt := 260) (pc := 257) hx hb dX2_operate_257 rfl ?_
              obtain rfl := Option.some.inj hf
              exact J260 _ _ _ ⟨lv_sub hl [3, 5, 0] rfl, hP, hD, hS⟩
            have hf := za_f hf hc7
            refine lv_tableOut (tgt := 260) (pc := 118) hx hb dX2_operate_118 (by have q0 := lv_neT (a := 1010) hc0 (by decide); have q1 := lv_neT (a := 1011) hc1 (by decide); have q2 := lv_neT (a := 1012) hc2 (by decide); have q3 := lv_neT (a := 1013) hc3 (by decide); have q4 := lv_neT (a := 1014) hc4 (by decide); have q5 := lv_neT (a := 1015) hc5 (by decide); have q6 := lv_neT (a := 1016) hc6 (by decide); have q7 := lv_neT (a := 1017) hc7 (by decide); omega) rfl ?_
            obtain rfl := Option.some.inj hf
            exact J260 _ _ _ ⟨lv_sub hl [3, 5, 0] rfl, hP, hD, hS⟩
        · have hf := za_f hf hc
          refine lv_iload_n (pc := 91) hx hb dX2_operate_91 rfl (lv_at hl 2 rfl) ?_
          obtain ⟨rfl, rfl⟩ := zi_2 hf
          exact W.iret (pc := 92) hx hb hr (fun t ht hW => ⟨⟨_, (), rfl, rfl, zz_Bi (by rw [ht]; exact hP) (va_K.moved hW.alike hK) (hD)⟩, hS.F ht⟩) hS.2.2 dX2_operate_92
      · have hf := za_f hf hc
        refine lv_aload_n (pc := 44) hx hb dX2_operate_44 rfl (lv_at hl 0 rfl) ?_
        refine va_get (pc := 45) (D := (dC, dI)) (ci := 3) (v := .ref a_o_stack) (C := RX2) (T := TX2) (N := 5) hx hb ht zq_layX2 hown hK hP 0 rfl rfl 3 (by decide) (ht _ zq_118) (fun _ h9 => h9) rfl dX2_operate_45 ?_
        refine lv_iload_n (pc := 48) hx hb dX2_operate_48 rfl (lv_at hl 2 rfl) ?_
        refine lv_iconst (v := (3 : Int32)) (pc := 49) hx hb dX2_operate_49 (by decide) ?_
        refine lv_isub (pc := 50) hx hb dX2_operate_50 ?_
        refine lv_aload_n (pc := 51) hx hb dX2_operate_51 rfl (lv_at hl 0 rfl) ?_
        refine va_get (pc := 52) (D := (dC, dI)) (ci := 3) (v := .ref a_o_stack) (C := RX2) (T := TX2) (N := 5) hx hb ht zq_layX2 hown hK hP 0 rfl rfl 3 (by decide) (ht _ zq_118) (fun _ h9 => h9) rfl dX2_operate_52 ?_
        refine lv_iload_n (pc := 55) hx hb dX2_operate_55 rfl (lv_at hl 2 rfl) ?_
        refine lv_iconst (v := (3 : Int32)) (pc := 56) hx hb dX2_operate_56 (by decide) ?_
        refine lv_isub (pc := 57) hx hb dX2_operate_57 ?_
        obtain ⟨v56, hv56, hf⟩ := zc_1 hf
        refine zw_iald (pc := 58) hx hb hK hP 1 0 rfl rfl hv56 dX2_operate_58 ?_
        obtain ⟨v59, hj, hf⟩ := zc_1 hf
        refine zj_join (pcJ := 81) (stk := [.int v59, .int (p2 - (3 : Int32)), .ref a_o_stack]) (X := fun H locs ls => lv_has ls 9 [(2, .int p2)] ∧ va_P (dC, dI) zz_cls [zo_X2 a_o a_c a_o_told a_o_facts a_o_stack f_o_wind, (a_o_stack, .inl (dA 0, 64, .inl b_o_stack))] H ∧ va_D A [zo_X2 a_o a_c a_o_told a_o_facts a_o_stack f_o_wind, (a_o_stack, .inl (dA 0, 64, .inl b_o_stack))] ∧ va_S A s.heap H locs) (fun H locs ls hX => ?_) (fun J81 => ?_)
        · obtain ⟨hl, hP, hD, hS⟩ := hX
          clear hj
          obtain ⟨a60, ha60, hf⟩ := zc_1 hf
          refine zw_iast (pc := 81) hx hb hK hP hD hS 1 0 rfl rfl ha60 dX2_operate_81 (fun H locs hP hD hS => ?_)
          have hP : va_P (dC, dI) zz_cls [zo_X2 a_o a_c a_o_told a_o_facts a_o_stack f_o_wind, (a_o_stack, .inl (dA 0, 64, .inl a60))] H := hP
          have hD : va_D A [zo_X2 a_o a_c a_o_told a_o_facts a_o_stack f_o_wind, (a_o_stack, .inl (dA 0, 64, .inl a60))] := hD
          refine lv_iload_n (pc := 82) hx hb dX2_operate_82 rfl (lv_at hl 0 rfl) ?_
          refine lv_iconst (v := (2 : Int32)) (pc := 83) hx hb dX2_operate_83 (by decide) ?_
          refine lv_isub (pc := 84) hx hb dX2_operate_84 ?_
          obtain ⟨rfl, rfl⟩ := zi_2 hf
          exact W.iret (pc := 85) hx hb hr (fun t ht hW => ⟨⟨_, (), rfl, rfl, zz_Bi (by rw [ht]; exact hP) (va_K.moved hW.alike hK) (hD)⟩, hS.F ht⟩) hS.2.2 dX2_operate_85
        · clear hf
          have hf := hj
          clear hj
          refine lv_if_eq (tgt := 73) (pc := 59) hx hb dX2_operate_59 rfl (fun hc => ?_) (fun hc => ?_)
          · have hf := za_t hf hc
            refine lv_aload_n (pc := 73) hx hb dX2_operate_73 rfl (lv_at hl 0 rfl) ?_
            refine va_get (pc := 74) (D := (dC, dI)) (ci := 3) (v := .ref a_o_stack) (C := RX2) (T := TX2) (N := 5) hx hb ht zq_layX2 hown hK hP 0 rfl rfl 3 (by decide) (ht _ zq_118) (fun _ h9 => h9) rfl dX2_operate_74 ?_
            refine lv_iload_n (pc := 77) hx hb dX2_operate_77 rfl (lv_at hl 2 rfl) ?_
            refine lv_iconst (v := (1 : Int32)) (pc := 78) hx hb dX2_operate_78 (by decide) ?_
            refine lv_isub (pc := 79) hx hb dX2_operate_79 ?_
            obtain ⟨v57, hv57, hf⟩ := zc_1 hf
            refine zw_iald (pc := 80) hx hb hK hP 1 0 rfl rfl hv57 dX2_operate_80 ?_
            obtain rfl := Option.some.inj hf
            exact J81 _ _ _ ⟨lv_sub hl [2] rfl, hP, hD, hS⟩
          · have hf := za_f hf hc
            refine lv_aload_n (pc := 62) hx hb dX2_operate_62 rfl (lv_at hl 0 rfl) ?_
            refine va_get (pc := 63) (D := (dC, dI)) (ci := 3) (v := .ref a_o_stack) (C := RX2) (T := TX2) (N := 5) hx hb ht zq_layX2 hown hK hP 0 rfl rfl 3 (by decide) (ht _ zq_118) (fun _ h9 => h9) rfl dX2_operate_63 ?_
            refine lv_iload_n (pc := 66) hx hb dX2_operate_66 rfl (lv_at hl 2 rfl) ?_
            refine lv_iconst (v := (2 : Int32)) (pc := 67) hx hb dX2_operate_67 (by decide) ?_
            refine lv_isub (pc := 68) hx hb dX2_operate_68 ?_
            obtain ⟨v58, hv58, hf⟩ := zc_1 hf
            refine zw_iald (pc := 69) hx hb hK hP 1 0 rfl rfl hv58 dX2_operate_69 ?_
            refine lv_goto (tgt := 81) (pc := 70) hx hb dX2_operate_70 rfl ?_
            obtain rfl := Option.some.inj hf
            exact J81 _ _ _ ⟨lv_sub hl [2] rfl, hP, hD, hS⟩
  · have hf := za_t hf hc
    refine lv_iload_n (pc := 7) hx hb dX2_operate_7 rfl (lv_at hl 2 rfl) ?_
    refine lv_iconst (v := (1 : Int32)) (pc := 8) hx hb dX2_operate_8 (by decide) ?_
    refine lv_icmp_lt (tgt := 32) (pc := 9) hx hb dX2_operate_9 rfl (fun hc => ?_) (fun hc => ?_)
    · have hf := za_t hf hc
      refine lv_iload_n (pc := 32) hx hb dX2_operate_32 rfl (lv_at hl 1 rfl) ?_
      refine lv_sipush (v := (1019 : Int32)) (pc := 33) hx hb dX2_operate_33 (by decide) ?_
      refine lv_icmp_ne (tgt := 86) (pc := 36) hx hb dX2_operate_36 rfl (fun hc => ?_) (fun hc => ?_)
      · have hf := za_f hf hc
        refine lv_iload_n (pc := 86) hx hb dX2_operate_86 rfl (lv_at hl 2 rfl) ?_
        refine lv_iconst (v := (2 : Int32)) (pc := 87) hx hb dX2_operate_87 (by decide) ?_
        refine lv_icmp_ge (tgt := 93) (pc := 88) hx hb dX2_operate_88 rfl (fun hc => ?_) (fun hc => ?_)
        · have hf := za_t hf hc
          refine lv_aload_n (pc := 93) hx hb dX2_operate_93 rfl (lv_at hl 0 rfl) ?_
          refine va_get (pc := 94) (D := (dC, dI)) (ci := 3) (v := .ref a_o_stack) (C := RX2) (T := TX2) (N := 5) hx hb ht zq_layX2 hown hK hP 0 rfl rfl 3 (by decide) (ht _ zq_118) (fun _ h9 => h9) rfl dX2_operate_94 ?_
          refine lv_iload_n (pc := 97) hx hb dX2_operate_97 rfl (lv_at hl 2 rfl) ?_
          refine lv_iconst (v := (2 : Int32)) (pc := 98) hx hb dX2_operate_98 (by decide) ?_
          refine lv_isub (pc := 99) hx hb dX2_operate_99 ?_
          obtain ⟨v22, hv22, hf⟩ := zc_1 hf
          refine zw_iald (pc := 100) hx hb hK hP 1 0 rfl rfl hv22 dX2_operate_100 ?_
          refine lv_i2l (pc := 101) hx hb dX2_operate_101 rfl ?_
          obtain ⟨v23, hv23, hf⟩ := zc_1 hf
          refine zw_topl (hv23) ?_
          refine lv_lstore_n (lv' := [(3, .long v23), (0, .ref a_o), (1, .int p1), (2, .int p2)]) (pc := 102) hx hb dX2_operate_102 rfl hl (by decide) rfl (fun ls hl => ?_)
          refine lv_aload_n (pc := 103) hx hb dX2_operate_103 rfl (lv_at hl 1 rfl) ?_
          refine va_get (pc := 104) (D := (dC, dI)) (ci := 3) (v := .ref a_o_stack) (C := RX2) (T := TX2) (N := 5) hx hb ht zq_layX2 hown hK hP 0 rfl rfl 3 (by decide) (ht _ zq_118) (fun _ h9 => h9) rfl dX2_operate_104 ?_
          refine lv_iload_n (pc := 107) hx hb dX2_operate_107 rfl (lv_at hl 3 rfl) ?_
          refine lv_iconst (v := (1 : Int32)) (pc := 108) hx hb dX2_operate_108 (by decide) ?_
          refine lv_isub (pc := 109) hx hb dX2_operate_109 ?_
          obtain ⟨v24, hv24, hf⟩ := zc_1 hf
          refine zw_iald (pc := 110) hx hb hK hP 1 0 rfl rfl hv24 dX2_operate_110 ?_
          refine lv_i2l (pc := 111) hx hb dX2_operate_111 rfl ?_
          obtain ⟨v25, hv25, hf⟩ := zc_1 hf
          refine zw_topl (hv25) ?_
          refine lv_lstore (lv' := [(5, .long v25), (3, .long v23), (0, .ref a_o), (1, .int p1), (2, .int p2)]) (pc := 112) hx hb dX2_operate_112 hl (by decide) rfl (fun ls hl => ?_)
          refine lv_lconst (v := (0 : Int64)) (pc := 114) hx hb dX2_operate_114 (by decide) ?_
          refine lv_lstore (lv' := [(7, .long (0 : Int64)), (5, .long v25), (3, .long v23), (0, .ref a_o), (1, .int p1), (2, .int p2)]) (pc := 115) hx hb dX2_operate_115 hl (by decide) rfl (fun ls hl => ?_)
          refine lv_iload_n (pc := 117) hx hb dX2_operate_117 rfl (lv_at hl 4 rfl) ?_
          obtain ⟨v34, hj, hf⟩ := zc_1 hf
          refine zj_join (pcJ := 260) (stk := []) (X := fun H locs ls => lv_has ls 9 [(0, .ref a_o), (2, .int p2), (7, .long v34)] ∧ va_P (dC, dI) zz_cls [zo_X2 a_o a_c a_o_told a_o_facts a_o_stack f_o_wind, (a_o_stack, .inl (dA 0, 64, .inl b_o_stack))] H ∧ va_D A [zo_X2 a_o a_c a_o_told a_o_facts a_o_stack f_o_wind, (a_o_stack, .inl (dA 0, 64, .inl b_o_stack))] ∧ va_S A s.heap H locs) (fun H locs ls hX => ?_) (fun J260 => ?_)
          · obtain ⟨hl, hP, hD, hS⟩ := hX
            clear hj
            refine lv_aload_n (pc := 260) hx hb dX2_operate_260 rfl (lv_at hl 0 rfl) ?_
            refine va_get (pc := 261) (D := (dC, dI)) (ci := 3) (v := .ref a_o_stack) (C := RX2) (T := TX2) (N := 5) hx hb ht zq_layX2 hown hK hP 0 rfl rfl 3 (by decide) (ht _ zq_118) (fun _ h9 => h9) rfl dX2_operate_261 ?_
            refine lv_iload_n (pc := 264) hx hb dX2_operate_264 rfl (lv_at hl 1 rfl) ?_
            refine lv_iconst (v := (2 : Int32)) (pc := 265) hx hb dX2_operate_265 (by decide) ?_
            refine lv_isub (pc := 266) hx hb dX2_operate_266 ?_
            refine lv_ldc2 (v := (-1000000 : Int64)) (pc := 267) hx hb hown (ht _ zq_123) dX2_operate_267 ?_
            refine lv_ldc2 (v := (1000000 : Int64)) (pc := 270) hx hb hown (ht _ zq_124) dX2_operate_270 ?_
            refine lv_lload (pc := 273) hx hb dX2_operate_273 (lv_at hl 2 rfl) ?_
            refine va_mmin_long (pc := 275) hx hb (hml.trans hl.1.symm) hown (ht _ zq_125) (ht _ zq_126) (ht _ zq_92) (ht _ zq_127) (Nat.le_of_ble_eq_true rfl) (Nat.le_of_ble_eq_true rfl) (Nat.zero_le _) (Nat.zero_le _) dX2_operate_275 ?_
            obtain ⟨v35, hv35, hf⟩ := zc_1 hf
            refine zw_topl (hv35) ?_
            refine va_mmax_long (pc := 278) hx hb (hml.trans hl.1.symm) hown (ht _ zq_128) (ht _ zq_129) (ht _ zq_92) (ht _ zq_130) (Nat.le_of_ble_eq_true rfl) (Nat.le_of_ble_eq_true rfl) (Nat.zero_le _) (Nat.zero_le _) dX2_operate_278 ?_
            obtain ⟨v36, hv36, hf⟩ := zc_1 hf
            refine zw_topl (hv36) ?_
            refine lv_l2i (pc := 281) hx hb dX2_operate_281 rfl ?_
            obtain ⟨a37, ha37, hf⟩ := zc_1 hf
            refine zw_iast (pc := 282) hx hb hK hP hD hS 1 0 rfl rfl ha37 dX2_operate_282 (fun H locs hP hD hS => ?_)
            have hP : va_P (dC, dI) zz_cls [zo_X2 a_o a_c a_o_told a_o_facts a_o_stack f_o_wind, (a_o_stack, .inl (dA 0, 64, .inl a37))] H := hP
            have hD : va_D A [zo_X2 a_o a_c a_o_told a_o_facts a_o_stack f_o_wind, (a_o_stack, .inl (dA 0, 64, .inl a37))] := hD
            refine lv_iload_n (pc := 283) hx hb dX2_operate_283 rfl (lv_at hl 1 rfl) ?_
            refine lv_iconst (v := (1 : Int32)) (pc := 284) hx hb dX2_operate_284 (by decide) ?_
            refine lv_isub (pc := 285) hx hb dX2_operate_285 ?_
            obtain ⟨rfl, rfl⟩ := zi_2 hf
            exact W.iret (pc := 286) hx hb hr (fun t ht hW => ⟨⟨_, (), rfl, rfl, zz_Bi (by rw [ht]; exact hP) (va_K.moved hW.alike hK) (hD)⟩, hS.F ht⟩) hS.2.2 dX2_operate_286
          · clear hf
            have hf := hj
            clear hj
            by_cases hc0 : p1 = (1010 : Int32)
            · have hf := za_t hf hc0
              refine lv_tableIn (tgt := 164) (off := 46) (pc := 118) hx hb dX2_operate_118 (by rw [hc0]; decide) (by rw [hc0]; decide) (by rw [hc0]; decide) rfl ?_
              refine lv_lload_n (pc := 164) hx hb dX2_operate_164 rfl (lv_at hl 2 rfl) ?_
              refine lv_lload (pc := 165) hx hb dX2_operate_165 (lv_at hl 1 rfl) ?_
              refine lv_ladd (pc := 167) hx hb dX2_operate_167 ?_
              obtain ⟨v26, hv26, hf⟩ := zc_1 hf
              refine zw_topl (hv26) ?_
              refine lv_lstore (lv' := [(7, .long v26), (5, .long v25), (3, .long v23), (0, .ref a_o), (1, .int p1), (2, .int p2)]) (pc := 168) hx hb dX2_operate_168 hl (by decide) rfl (fun ls hl => ?_)
              refine lv_goto (tgt := 260) (pc := 170) hx hb dX2_operate_170 rfl ?_
              obtain rfl := Option.some.inj hf
              exact J260 _ _ _ ⟨lv_sub hl [3, 5, 0] rfl, hP, hD, hS⟩
            have hf := za_f hf hc0
            by_cases hc1 : p1 = (1011 : Int32)
            · have hf := za_t hf hc1
              refine lv_tableIn (tgt := 173) (off := 55) (pc := 118) hx hb dX2_operate_118 (by rw [hc1]; decide) (by rw [hc1]; decide) (by rw [hc1]; decide) rfl ?_
              refine lv_lload_n (pc := 173) hx hb dX2_operate_173 rfl (lv_at hl 2 rfl) ?_
              refine lv_lload (pc := 174) hx hb dX2_operate_174 (lv_at hl 1 rfl) ?_
              refine lv_lsub (pc := 176) hx hb dX2_operate_176 ?_
              obtain ⟨v27, hv27, hf⟩ := zc_1 hf
              refine zw_topl (hv27) ?_
              refine lv_lstore (lv' := [(7, .long v27), (5, .long v25), (3, .long v23), (0, .ref a_o), (1, .int p1), (2, .int p2)]) (pc := 177) hx hb dX2_operate_177 hl (by decide) rfl (fun ls hl => ?_)
              refine lv_goto (tgt := 260) (pc := 179) hx hb dX2_operate_179 rfl ?_
              obtain rfl := Option.some.inj hf
              exact J260 _ _ _ ⟨lv_sub hl [3, 5, 0] rfl, hP, hD, hS⟩
            have hf := za_f hf hc1
            by_cases hc2 : p1 = (1012 : Int32)
            · have hf := za_t hf hc2
              refine lv_tableIn (tgt := 182) (off := 64) (pc := 118) hx hb dX2_operate_118 (by rw [hc2]; decide) (by rw [hc2]; decide) (by rw [hc2]; decide) rfl ?_
              refine lv_lload_n (pc := 182) hx hb dX2_operate_182 rfl (lv_at hl 2 rfl) ?_
              refine lv_lload (pc := 183) hx hb dX2_operate_183 (lv_at hl 1 rfl) ?_
              refine lv_lmul (pc := 185) hx hb dX2_operate_185 ?_
              obtain ⟨v28, hv28, hf⟩ := zc_1 hf
              refine zw_topl (hv28) ?_
              refine lv_lstore (lv' := [(7, .long v28), (5, .long v25), (3, .long v23), (0, .ref a_o), (1, .int p1), (2, .int p2)]) (pc := 186) hx hb dX2_operate_186 hl (by decide) rfl (fun ls hl => ?_)
              refine lv_goto (tgt := 260) (pc := 188) hx hb dX2_operate_188 rfl ?_
              obtain rfl := Option.some.inj hf
              exact J260 _ _ _ ⟨lv_sub hl [3, 5, 0] rfl, hP, hD, hS⟩
            have hf := za_f hf hc2
            by_cases hc3 : p1 = (1013 : Int32)
            · have hf := za_t hf hc3
              refine lv_tableIn (tgt := 191) (off := 73) (pc := 118) hx hb dX2_operate_118 (by rw [hc3]; decide) (by rw [hc3]; decide) (by rw [hc3]; decide) rfl ?_
              refine lv_lload_n (pc := 191) hx hb dX2_operate_191 rfl (lv_at hl 2 rfl) ?_
              refine lv_lload (pc := 192) hx hb dX2_operate_192 (lv_at hl 1 rfl) ?_
              refine W.lcmp (pc := 194) hx hb dX2_operate_194 ?_
              obtain ⟨v29, hj, hf⟩ := zc_1 hf
              refine zj_join (pcJ := 203) (stk := [.long v29]) (X := fun H locs ls => lv_has ls 9 [(0, .ref a_o), (2, .int p2)] ∧ va_P (dC, dI) zz_cls [zo_X2 a_o a_c a_o_told a_o_facts a_o_stack f_o_wind, (a_o_stack, .inl (dA 0, 64, .inl b_o_stack))] H ∧ va_D A [zo_X2 a_o a_c a_o_told a_o_facts a_o_stack f_o_wind, (a_o_stack, .inl (dA 0, 64, .inl b_o_stack))] ∧ va_S A s.heap H locs) (fun H locs ls hX => ?_) (fun J203 => ?_)
              · obtain ⟨hl, hP, hD, hS⟩ := hX
                clear hj
                refine lv_lstore (lv' := [(7, .long v29), (0, .ref a_o), (2, .int p2)]) (pc := 203) hx hb dX2_operate_203 hl (by decide) rfl (fun ls hl => ?_)
                refine lv_goto (tgt := 260) (pc := 205) hx hb dX2_operate_205 rfl ?_
                obtain rfl := Option.some.inj hf
                exact J260 _ _ _ ⟨lv_sub hl [1, 2, 0] rfl, hP, hD, hS⟩
              · clear hf
                have hf := hj
                clear hj
                refine lv_if_ne (tgt := 202) (pc := 195) hx hb dX2_operate_195 rfl (fun hc => ?_) (fun hc => ?_)
                · have hf := za_f hf hc
                  refine lv_lconst (v := (0 : Int64)) (pc := 202) hx hb dX2_operate_202 (by decide) ?_
                  obtain rfl := Option.some.inj hf
                  exact J203 _ _ _ ⟨lv_sub hl [3, 5] rfl, hP, hD, hS⟩
                · have hf := za_t hf hc
                  refine lv_lconst (v := (1 : Int64)) (pc := 198) hx hb dX2_operate_198 (by decide) ?_
                  refine lv_goto (tgt := 203) (pc := 199) hx hb dX2_operate_199 rfl ?_
                  obtain rfl := Option.some.inj hf
                  exact J203 _ _ _ ⟨lv_sub hl [3, 5] rfl, hP, hD, hS⟩
            have hf := za_f hf hc3
            by_cases hc4 : p1 = (1014 : Int32)
            · have hf := za_t hf hc4
              refine lv_tableIn (tgt := 208) (off := 90) (pc := 118) hx hb dX2_operate_118 (by rw [hc4]; decide) (by rw [hc4]; decide) (by rw [hc4]; decide) rfl ?_
              refine lv_lload_n (pc := 208) hx hb dX2_operate_208 rfl (lv_at hl 2 rfl) ?_
              refine lv_lload (pc := 209) hx hb dX2_operate_209 (lv_at hl 1 rfl) ?_
              refine W.lcmp (pc := 211) hx hb dX2_operate_211 ?_
              obtain ⟨v30, hj, hf⟩ := zc_1 hf
              refine zj_join (pcJ := 220) (stk := [.long v30]) (X := fun H locs ls => lv_has ls 9 [(0, .ref a_o), (2, .int p2)] ∧ va_P (dC, dI) zz_cls [zo_X2 a_o a_c a_o_told a_o_facts a_o_stack f_o_wind, (a_o_stack, .inl (dA 0, 64, .inl b_o_stack))] H ∧ va_D A [zo_X2 a_o a_c a_o_told a_o_facts a_o_stack f_o_wind, (a_o_stack, .inl (dA 0, 64, .inl b_o_stack))] ∧ va_S A s.heap H locs) (fun H locs ls hX => ?_) (fun J220 => ?_)
              · obtain ⟨hl, hP, hD, hS⟩ := hX
                clear hj
                refine lv_lstore (lv' := [(7, .long v30), (0, .ref a_o), (2, .int p2)]) (pc := 220) hx hb dX2_operate_220 hl (by decide) rfl (fun ls hl => ?_)
                refine lv_goto (tgt := 260) (pc := 222) hx hb dX2_operate_222 rfl ?_
                obtain rfl := Option.some.inj hf
                exact J260 _ _ _ ⟨lv_sub hl [1, 2, 0] rfl, hP, hD, hS⟩
              · clear hf
                have hf := hj
                clear hj
                refine lv_if_ge (tgt := 219) (pc := 212) hx hb dX2_operate_212 rfl (fun hc => ?_) (fun hc => ?_)
                · have hf := za_t hf hc
                  refine lv_lconst (v := (0 : Int64)) (pc := 219) hx hb dX2_operate_219 (by decide) ?_
                  obtain rfl := Option.some.inj hf
                  exact J220 _ _ _ ⟨lv_sub hl [3, 5] rfl, hP, hD, hS⟩
                · have hf := za_f hf hc
                  refine lv_lconst (v := (1 : Int64)) (pc := 215) hx hb dX2_operate_215 (by decide) ?_
                  refine lv_goto (tgt := 220) (pc := 216) hx hb dX2_operate_216 rfl ?_
                  obtain rfl := Option.some.inj hf
                  exact J220 _ _ _ ⟨lv_sub hl [3, 5] rfl, hP, hD, hS⟩
            have hf := za_f hf hc4
            by_cases hc5 : p1 = (1015 : Int32)
            · have hf := za_t hf hc5
              refine lv_tableIn (tgt := 225) (off := 107) (pc := 118) hx hb dX2_operate_118 (by rw [hc5]; decide) (by rw [hc5]; decide) (by rw [hc5]; decide) rfl ?_
              refine lv_lload_n (pc := 225) hx hb dX2_operate_225 rfl (lv_at hl 2 rfl) ?_
              refine lv_lload (pc := 226) hx hb dX2_operate_226 (lv_at hl 1 rfl) ?_
              refine W.lcmp (pc := 228) hx hb dX2_operate_228 ?_
              obtain ⟨v31, hj, hf⟩ := zc_1 hf
              refine zj_join (pcJ := 237) (stk := [.long v31]) (X := fun H locs ls => lv_has ls 9 [(0, .ref a_o), (2, .int p2)] ∧ va_P (dC, dI) zz_cls [zo_X2 a_o a_c a_o_told a_o_facts a_o_stack f_o_wind, (a_o_stack, .inl (dA 0, 64, .inl b_o_stack))] H ∧ va_D A [zo_X2 a_o a_c a_o_told a_o_facts a_o_stack f_o_wind, (a_o_stack, .inl (dA 0, 64, .inl b_o_stack))] ∧ va_S A s.heap H locs) (fun H locs ls hX => ?_) (fun J237 => ?_)
              · obtain ⟨hl, hP, hD, hS⟩ := hX
                clear hj
                refine lv_lstore (lv' := [(7, .long v31), (0, .ref a_o), (2, .int p2)]) (pc := 237) hx hb dX2_operate_237 hl (by decide) rfl (fun ls hl => ?_)
                refine lv_goto (tgt := 260) (pc := 239) hx hb dX2_operate_239 rfl ?_
                obtain rfl := Option.some.inj hf
                exact J260 _ _ _ ⟨lv_sub hl [1, 2, 0] rfl, hP, hD, hS⟩
              · clear hf
                have hf := hj
                clear hj
                refine lv_if_le (tgt := 236) (pc := 229) hx hb dX2_operate_229 rfl (fun hc => ?_) (fun hc => ?_)
                · have hf := za_t hf hc
                  refine lv_lconst (v := (0 : Int64)) (pc := 236) hx hb dX2_operate_236 (by decide) ?_
                  obtain rfl := Option.some.inj hf
                  exact J237 _ _ _ ⟨lv_sub hl [3, 5] rfl, hP, hD, hS⟩
                · have hf := za_f hf hc
                  refine lv_lconst (v := (1 : Int64)) (pc := 232) hx hb dX2_operate_232 (by decide) ?_
                  refine lv_goto (tgt := 237) (pc := 233) hx hb dX2_operate_233 rfl ?_
                  obtain rfl := Option.some.inj hf
                  exact J237 _ _ _ ⟨lv_sub hl [3, 5] rfl, hP, hD, hS⟩
            have hf := za_f hf hc5
            by_cases hc6 : p1 = (1016 : Int32)
            · have hf := za_t hf hc6
              refine lv_tableIn (tgt := 242) (off := 124) (pc := 118) hx hb dX2_operate_118 (by rw [hc6]; decide) (by rw [hc6]; decide) (by rw [hc6]; decide) rfl ?_
              refine lv_lload_n (pc := 242) hx hb dX2_operate_242 rfl (lv_at hl 2 rfl) ?_
              refine lv_lload (pc := 243) hx hb dX2_operate_243 (lv_at hl 1 rfl) ?_
              refine lv_land (pc := 245) hx hb dX2_operate_245 ?_
              obtain ⟨v32, hv32, hf⟩ := zc_1 hf
              refine zw_topl (hv32) ?_
              refine lv_lstore (lv' := [(7, .long v32), (5, .long v25), (3, .long v23), (0, .ref a_o), (1, .int p1), (2, .int p2)]) (pc := 246) hx hb dX2_operate_246 hl (by decide) rfl (fun ls hl => ?_)
              refine lv_goto (tgt := 260) (pc := 248) hx hb dX2_operate_248 rfl ?_
              obtain rfl := Option.some.inj hf
              exact J260 _ _ _ ⟨lv_sub hl [3, 5, 0] rfl, hP, hD, hS⟩
            have hf := za_f hf hc6
            by_cases hc7 : p1 = (1017 : Int32)
            · have hf := za_t hf hc7
              refine lv_tableIn (tgt := 251) (off := 133) (pc := 118) hx hb dX2_operate_118 (by rw [hc7]; decide) (by rw [hc7]; decide) (by rw [hc7]; decide) rfl ?_
              refine lv_lload_n (pc := 251) hx hb dX2_operate_251 rfl (lv_at hl 2 rfl) ?_
              refine lv_lload (pc := 252) hx hb dX2_operate_252 (lv_at hl 1 rfl) ?_
              refine lv_lor (pc := 254) hx hb dX2_operate_254 ?_
              obtain ⟨v33, hv33, hf⟩ := zc_1 hf
              refine zw_topl (hv33) ?_
              refine lv_lstore (lv' := [(7, .long v33), (5, .long v25), (3, .long v23), (0, .ref a_o), (1, .int p1), (2, .int p2)]) (pc := 255) hx hb dX2_operate_255 hl (by decide) rfl (fun ls hl => ?_)
              refine lv_goto (tgt := 260) (pc := 257) hx hb dX2_operate_257 rfl ?_
              obtain rfl := Option.some.inj hf
              exact J260 _ _ _ ⟨lv_sub hl [3, 5, 0] rfl, hP, hD, hS⟩
            have hf := za_f hf hc7
            refine lv_tableOut (tgt := 260) (pc := 118) hx hb dX2_operate_118 (by have q0 := lv_neT (a := 1010) hc0 (by decide); have q1 := lv_neT (a := 1011) hc1 (by decide); have q2 := lv_neT (a := 1012) hc2 (by decide); have q3 := lv_neT (a := 1013) hc3 (by decide); have q4 := lv_neT (a := 1014) hc4 (by decide); have q5 := lv_neT (a := 1015) hc5 (by decide); have q6 := lv_neT (a := 1016) hc6 (by decide); have q7 := lv_neT (a := 1017) hc7 (by decide); omega) rfl ?_
            obtain rfl := Option.some.inj hf
            exact J260 _ _ _ ⟨lv_sub hl [3, 5, 0] rfl, hP, hD, hS⟩
        · have hf := za_f hf hc
          refine lv_iload_n (pc := 91) hx hb dX2_operate_91 rfl (lv_at hl 2 rfl) ?_
          obtain ⟨rfl, rfl⟩ := zi_2 hf
          exact W.iret (pc := 92) hx hb hr (fun t ht hW => ⟨⟨_, (), rfl, rfl, zz_Bi (by rw [ht]; exact hP) (va_K.moved hW.alike hK) (hD)⟩, hS.F ht⟩) hS.2.2 dX2_operate_92
      · have hf := za_t hf hc
        refine lv_iload_n (pc := 39) hx hb dX2_operate_39 rfl (lv_at hl 2 rfl) ?_
        refine lv_iconst (v := (3 : Int32)) (pc := 40) hx hb dX2_operate_40 (by decide) ?_
        refine lv_icmp_lt (tgt := 86) (pc := 41) hx hb dX2_operate_41 rfl (fun hc => ?_) (fun hc => ?_)
        · have hf := za_t hf hc
          refine lv_iload_n (pc := 86) hx hb dX2_operate_86 rfl (lv_at hl 2 rfl) ?_
          refine lv_iconst (v := (2 : Int32)) (pc := 87) hx hb dX2_operate_87 (by decide) ?_
          refine lv_icmp_ge (tgt := 93) (pc := 88) hx hb dX2_operate_88 rfl (fun hc => ?_) (fun hc => ?_)
          · have hf := za_t hf hc
            refine lv_aload_n (pc := 93) hx hb dX2_operate_93 rfl (lv_at hl 0 rfl) ?_
            refine va_get (pc := 94) (D := (dC, dI)) (ci := 3) (v := .ref a_o_stack) (C := RX2) (T := TX2) (N := 5) hx hb ht zq_layX2 hown hK hP 0 rfl rfl 3 (by decide) (ht _ zq_118) (fun _ h9 => h9) rfl dX2_operate_94 ?_
            refine lv_iload_n (pc := 97) hx hb dX2_operate_97 rfl (lv_at hl 2 rfl) ?_
            refine lv_iconst (v := (2 : Int32)) (pc := 98) hx hb dX2_operate_98 (by decide) ?_
            refine lv_isub (pc := 99) hx hb dX2_operate_99 ?_
            obtain ⟨v1, hv1, hf⟩ := zc_1 hf
            refine zw_iald (pc := 100) hx hb hK hP 1 0 rfl rfl hv1 dX2_operate_100 ?_
            refine lv_i2l (pc := 101) hx hb dX2_operate_101 rfl ?_
            obtain ⟨v2, hv2, hf⟩ := zc_1 hf
            refine zw_topl (hv2) ?_
            refine lv_lstore_n (lv' := [(3, .long v2), (0, .ref a_o), (1, .int p1), (2, .int p2)]) (pc := 102) hx hb dX2_operate_102 rfl hl (by decide) rfl (fun ls hl => ?_)
            refine lv_aload_n (pc := 103) hx hb dX2_operate_103 rfl (lv_at hl 1 rfl) ?_
            refine va_get (pc := 104) (D := (dC, dI)) (ci := 3) (v := .ref a_o_stack) (C := RX2) (T := TX2) (N := 5) hx hb ht zq_layX2 hown hK hP 0 rfl rfl 3 (by decide) (ht _ zq_118) (fun _ h9 => h9) rfl dX2_operate_104 ?_
            refine lv_iload_n (pc := 107) hx hb dX2_operate_107 rfl (lv_at hl 3 rfl) ?_
            refine lv_iconst (v := (1 : Int32)) (pc := 108) hx hb dX2_operate_108 (by decide) ?_
            refine lv_isub (pc := 109) hx hb dX2_operate_109 ?_
            obtain ⟨v3, hv3, hf⟩ := zc_1 hf
            refine zw_iald (pc := 110) hx hb hK hP 1 0 rfl rfl hv3 dX2_operate_110 ?_
            refine lv_i2l (pc := 111) hx hb dX2_operate_111 rfl ?_
            obtain ⟨v4, hv4, hf⟩ := zc_1 hf
            refine zw_topl (hv4) ?_
            refine lv_lstore (lv' := [(5, .long v4), (3, .long v2), (0, .ref a_o), (1, .int p1), (2, .int p2)]) (pc := 112) hx hb dX2_operate_112 hl (by decide) rfl (fun ls hl => ?_)
            refine lv_lconst (v := (0 : Int64)) (pc := 114) hx hb dX2_operate_114 (by decide) ?_
            refine lv_lstore (lv' := [(7, .long (0 : Int64)), (5, .long v4), (3, .long v2), (0, .ref a_o), (1, .int p1), (2, .int p2)]) (pc := 115) hx hb dX2_operate_115 hl (by decide) rfl (fun ls hl => ?_)
            refine lv_iload_n (pc := 117) hx hb dX2_operate_117 rfl (lv_at hl 4 rfl) ?_
            obtain ⟨v13, hj, hf⟩ := zc_1 hf
            refine zj_join (pcJ := 260) (stk := []) (X := fun H locs ls => lv_has ls 9 [(0, .ref a_o), (2, .int p2), (7, .long v13)] ∧ va_P (dC, dI) zz_cls [zo_X2 a_o a_c a_o_told a_o_facts a_o_stack f_o_wind, (a_o_stack, .inl (dA 0, 64, .inl b_o_stack))] H ∧ va_D A [zo_X2 a_o a_c a_o_told a_o_facts a_o_stack f_o_wind, (a_o_stack, .inl (dA 0, 64, .inl b_o_stack))] ∧ va_S A s.heap H locs) (fun H locs ls hX => ?_) (fun J260 => ?_)
            · obtain ⟨hl, hP, hD, hS⟩ := hX
              clear hj
              refine lv_aload_n (pc := 260) hx hb dX2_operate_260 rfl (lv_at hl 0 rfl) ?_
              refine va_get (pc := 261) (D := (dC, dI)) (ci := 3) (v := .ref a_o_stack) (C := RX2) (T := TX2) (N := 5) hx hb ht zq_layX2 hown hK hP 0 rfl rfl 3 (by decide) (ht _ zq_118) (fun _ h9 => h9) rfl dX2_operate_261 ?_
              refine lv_iload_n (pc := 264) hx hb dX2_operate_264 rfl (lv_at hl 1 rfl) ?_
              refine lv_iconst (v := (2 : Int32)) (pc := 265) hx hb dX2_operate_265 (by decide) ?_
              refine lv_isub (pc := 266) hx hb dX2_operate_266 ?_
              refine lv_ldc2 (v := (-1000000 : Int64)) (pc := 267) hx hb hown (ht _ zq_123) dX2_operate_267 ?_
              refine lv_ldc2 (v := (1000000 : Int64)) (pc := 270) hx hb hown (ht _ zq_124) dX2_operate_270 ?_
              refine lv_lload (pc := 273) hx hb dX2_operate_273 (lv_at hl 2 rfl) ?_
              refine va_mmin_long (pc := 275) hx hb (hml.trans hl.1.symm) hown (ht _ zq_125) (ht _ zq_126) (ht _ zq_92) (ht _ zq_127) (Nat.le_of_ble_eq_true rfl) (Nat.le_of_ble_eq_true rfl) (Nat.zero_le _) (Nat.zero_le _) dX2_operate_275 ?_
              obtain ⟨v14, hv14, hf⟩ := zc_1 hf
              refine zw_topl (hv14) ?_
              refine va_mmax_long (pc := 278) hx hb (hml.trans hl.1.symm) hown (ht _ zq_128) (ht _ zq_129) (ht _ zq_92) (ht _ zq_130) (Nat.le_of_ble_eq_true rfl) (Nat.le_of_ble_eq_true rfl) (Nat.zero_le _) (Nat.zero_le _) dX2_operate_278 ?_
              obtain ⟨v15, hv15, hf⟩ := zc_1 hf
              refine zw_topl (hv15) ?_
              refine lv_l2i (pc := 281) hx hb dX2_operate_281 rfl ?_
              obtain ⟨a16, ha16, hf⟩ := zc_1 hf
              refine zw_iast (pc := 282) hx hb hK hP hD hS 1 0 rfl rfl ha16 dX2_operate_282 (fun H locs hP hD hS => ?_)
              have hP : va_P (dC, dI) zz_cls [zo_X2 a_o a_c a_o_told a_o_facts a_o_stack f_o_wind, (a_o_stack, .inl (dA 0, 64, .inl a16))] H := hP
              have hD : va_D A [zo_X2 a_o a_c a_o_told a_o_facts a_o_stack f_o_wind, (a_o_stack, .inl (dA 0, 64, .inl a16))] := hD
              refine lv_iload_n (pc := 283) hx hb dX2_operate_283 rfl (lv_at hl 1 rfl) ?_
              refine lv_iconst (v := (1 : Int32)) (pc := 284) hx hb dX2_operate_284 (by decide) ?_
              refine lv_isub (pc := 285) hx hb dX2_operate_285 ?_
              obtain ⟨rfl, rfl⟩ := zi_2 hf
              exact W.iret (pc := 286) hx hb hr (fun t ht hW => ⟨⟨_, (), rfl, rfl, zz_Bi (by rw [ht]; exact hP) (va_K.moved hW.alike hK) (hD)⟩, hS.F ht⟩) hS.2.2 dX2_operate_286
            · clear hf
              have hf := hj
              clear hj
              by_cases hc0 : p1 = (1010 : Int32)
              · have hf := za_t hf hc0
                refine lv_tableIn (tgt := 164) (off := 46) (pc := 118) hx hb dX2_operate_118 (by rw [hc0]; decide) (by rw [hc0]; decide) (by rw [hc0]; decide) rfl ?_
                refine lv_lload_n (pc := 164) hx hb dX2_operate_164 rfl (lv_at hl 2 rfl) ?_
                refine lv_lload (pc := 165) hx hb dX2_operate_165 (lv_at hl 1 rfl) ?_
                refine lv_ladd (pc := 167) hx hb dX2_operate_167 ?_
                obtain ⟨v5, hv5, hf⟩ := zc_1 hf
                refine zw_topl (hv5) ?_
                refine lv_lstore (lv' := [(7, .long v5), (5, .long v4), (3, .long v2), (0, .ref a_o), (1, .int p1), (2, .int p2)]) (pc := 168) hx hb dX2_operate_168 hl (by decide) rfl (fun ls hl => ?_)
                refine lv_goto (tgt := 260) (pc := 170) hx hb dX2_operate_170 rfl ?_
                obtain rfl := Option.some.inj hf
                exact J260 _ _ _ ⟨lv_sub hl [3, 5, 0] rfl, hP, hD, hS⟩
              have hf := za_f hf hc0
              by_cases hc1 : p1 = (1011 : Int32)
              · have hf := za_t hf hc1
                refine lv_tableIn (tgt := 173) (off := 55) (pc := 118) hx hb dX2_operate_118 (by rw [hc1]; decide) (by rw [hc1]; decide) (by rw [hc1]; decide) rfl ?_
                refine lv_lload_n (pc := 173) hx hb dX2_operate_173 rfl (lv_at hl 2 rfl) ?_
                refine lv_lload (pc := 174) hx hb dX2_operate_174 (lv_at hl 1 rfl) ?_
                refine lv_lsub (pc := 176) hx hb dX2_operate_176 ?_
                obtain ⟨v6, hv6, hf⟩ := zc_1 hf
                refine zw_topl (hv6) ?_
                refine lv_lstore (lv' := [(7, .long v6), (5, .long v4), (3, .long v2), (0, .ref a_o), (1, .int p1), (2, .int p2)]) (pc := 177) hx hb dX2_operate_177 hl (by decide) rfl (fun ls hl => ?_)
                refine lv_goto (tgt := 260) (pc := 179) hx hb dX2_operate_179 rfl ?_
                obtain rfl := Option.some.inj hf
                exact J260 _ _ _ ⟨lv_sub hl [3, 5, 0] rfl, hP, hD, hS⟩
              have hf := za_f hf hc1
              by_cases hc2 : p1 = (1012 : Int32)
              · have hf := za_t hf hc2
                refine lv_tableIn (tgt := 182) (off := 64) (pc := 118) hx hb dX2_operate_118 (by rw [hc2]; decide) (by rw [hc2]; decide) (by rw [hc2]; decide) rfl ?_
                refine lv_lload_n (pc := 182) hx hb dX2_operate_182 rfl (lv_at hl 2 rfl) ?_
                refine lv_lload (pc := 183) hx hb dX2_operate_183 (lv_at hl 1 rfl) ?_
                refine lv_lmul (pc := 185) hx hb dX2_operate_185 ?_
                obtain ⟨v7, hv7, hf⟩ := zc_1 hf
                refine zw_topl (hv7) ?_
                refine lv_lstore (lv' := [(7, .long v7), (5, .long v4), (3, .long v2), (0, .ref a_o), (1, .int p1), (2, .int p2)]) (pc := 186) hx hb dX2_operate_186 hl (by decide) rfl (fun ls hl => ?_)
                refine lv_goto (tgt := 260) (pc := 188) hx hb dX2_operate_188 rfl ?_
                obtain rfl := Option.some.inj hf
                exact J260 _ _ _ ⟨lv_sub hl [3, 5, 0] rfl, hP, hD, hS⟩
              have hf := za_f hf hc2
              by_cases hc3 : p1 = (1013 : Int32)
              · have hf := za_t hf hc3
                refine lv_tableIn (tgt := 191) (off := 73) (pc := 118) hx hb dX2_operate_118 (by rw [hc3]; decide) (by rw [hc3]; decide) (by rw [hc3]; decide) rfl ?_
                refine lv_lload_n (pc := 191) hx hb dX2_operate_191 rfl (lv_at hl 2 rfl) ?_
                refine lv_lload (pc := 192) hx hb dX2_operate_192 (lv_at hl 1 rfl) ?_
                refine W.lcmp (pc := 194) hx hb dX2_operate_194 ?_
                obtain ⟨v8, hj, hf⟩ := zc_1 hf
                refine zj_join (pcJ := 203) (stk := [.long v8]) (X := fun H locs ls => lv_has ls 9 [(0, .ref a_o), (2, .int p2)] ∧ va_P (dC, dI) zz_cls [zo_X2 a_o a_c a_o_told a_o_facts a_o_stack f_o_wind, (a_o_stack, .inl (dA 0, 64, .inl b_o_stack))] H ∧ va_D A [zo_X2 a_o a_c a_o_told a_o_facts a_o_stack f_o_wind, (a_o_stack, .inl (dA 0, 64, .inl b_o_stack))] ∧ va_S A s.heap H locs) (fun H locs ls hX => ?_) (fun J203 => ?_)
                · obtain ⟨hl, hP, hD, hS⟩ := hX
                  clear hj
                  refine lv_lstore (lv' := [(7, .long v8), (0, .ref a_o), (2, .int p2)]) (pc := 203) hx hb dX2_operate_203 hl (by decide) rfl (fun ls hl => ?_)
                  refine lv_goto (tgt := 260) (pc := 205) hx hb dX2_operate_205 rfl ?_
                  obtain rfl := Option.some.inj hf
                  exact J260 _ _ _ ⟨lv_sub hl [1, 2, 0] rfl, hP, hD, hS⟩
                · clear hf
                  have hf := hj
                  clear hj
                  refine lv_if_ne (tgt := 202) (pc := 195) hx hb dX2_operate_195 rfl (fun hc => ?_) (fun hc => ?_)
                  · have hf := za_f hf hc
                    refine lv_lconst (v := (0 : Int64)) (pc := 202) hx hb dX2_operate_202 (by decide) ?_
                    obtain rfl := Option.some.inj hf
                    exact J203 _ _ _ ⟨lv_sub hl [3, 5] rfl, hP, hD, hS⟩
                  · have hf := za_t hf hc
                    refine lv_lconst (v := (1 : Int64)) (pc := 198) hx hb dX2_operate_198 (by decide) ?_
                    refine lv_goto (tgt := 203) (pc := 199) hx hb dX2_operate_199 rfl ?_
                    obtain rfl := Option.some.inj hf
                    exact J203 _ _ _ ⟨lv_sub hl [3, 5] rfl, hP, hD, hS⟩
              have hf := za_f hf hc3
              by_cases hc4 : p1 = (1014 : Int32)
              · have hf := za_t hf hc4
                refine lv_tableIn (tgt := 208) (off := 90) (pc := 118) hx hb dX2_operate_118 (by rw [hc4]; decide) (by rw [hc4]; decide) (by rw [hc4]; decide) rfl ?_
                refine lv_lload_n (pc := 208) hx hb dX2_operate_208 rfl (lv_at hl 2 rfl) ?_
                refine lv_lload (pc := 209) hx hb dX2_operate_209 (lv_at hl 1 rfl) ?_
                refine W.lcmp (pc := 211) hx hb dX2_operate_211 ?_
                obtain ⟨v9, hj, hf⟩ := zc_1 hf
                refine zj_join (pcJ := 220) (stk := [.long v9]) (X := fun H locs ls => lv_has ls 9 [(0, .ref a_o), (2, .int p2)] ∧ va_P (dC, dI) zz_cls [zo_X2 a_o a_c a_o_told a_o_facts a_o_stack f_o_wind, (a_o_stack, .inl (dA 0, 64, .inl b_o_stack))] H ∧ va_D A [zo_X2 a_o a_c a_o_told a_o_facts a_o_stack f_o_wind, (a_o_stack, .inl (dA 0, 64, .inl b_o_stack))] ∧ va_S A s.heap H locs) (fun H locs ls hX => ?_) (fun J220 => ?_)
                · obtain ⟨hl, hP, hD, hS⟩ := hX
                  clear hj
                  refine lv_lstore (lv' := [(7, .long v9), (0, .ref a_o), (2, .int p2)]) (pc := 220) hx hb dX2_operate_220 hl (by decide) rfl (fun ls hl => ?_)
                  refine lv_goto (tgt := 260) (pc := 222) hx hb dX2_operate_222 rfl ?_
                  obtain rfl := Option.some.inj hf
                  exact J260 _ _ _ ⟨lv_sub hl [1, 2, 0] rfl, hP, hD, hS⟩
                · clear hf
                  have hf := hj
                  clear hj
                  refine lv_if_ge (tgt := 219) (pc := 212) hx hb dX2_operate_212 rfl (fun hc => ?_) (fun hc => ?_)
                  · have hf := za_t hf hc
                    refine lv_lconst (v := (0 : Int64)) (pc := 219) hx hb dX2_operate_219 (by decide) ?_
                    obtain rfl := Option.some.inj hf
                    exact J220 _ _ _ ⟨lv_sub hl [3, 5] rfl, hP, hD, hS⟩
                  · have hf := za_f hf hc
                    refine lv_lconst (v := (1 : Int64)) (pc := 215) hx hb dX2_operate_215 (by decide) ?_
                    refine lv_goto (tgt := 220) (pc := 216) hx hb dX2_operate_216 rfl ?_
                    obtain rfl := Option.some.inj hf
                    exact J220 _ _ _ ⟨lv_sub hl [3, 5] rfl, hP, hD, hS⟩
              have hf := za_f hf hc4
              by_cases hc5 : p1 = (1015 : Int32)
              · have hf := za_t hf hc5
                refine lv_tableIn (tgt := 225) (off := 107) (pc := 118) hx hb dX2_operate_118 (by rw [hc5]; decide) (by rw [hc5]; decide) (by rw [hc5]; decide) rfl ?_
                refine lv_lload_n (pc := 225) hx hb dX2_operate_225 rfl (lv_at hl 2 rfl) ?_
                refine lv_lload (pc := 226) hx hb dX2_operate_226 (lv_at hl 1 rfl) ?_
                refine W.lcmp (pc := 228) hx hb dX2_operate_228 ?_
                obtain ⟨v10, hj, hf⟩ := zc_1 hf
                refine zj_join (pcJ := 237) (stk := [.long v10]) (X := fun H locs ls => lv_has ls 9 [(0, .ref a_o), (2, .int p2)] ∧ va_P (dC, dI) zz_cls [zo_X2 a_o a_c a_o_told a_o_facts a_o_stack f_o_wind, (a_o_stack, .inl (dA 0, 64, .inl b_o_stack))] H ∧ va_D A [zo_X2 a_o a_c a_o_told a_o_facts a_o_stack f_o_wind, (a_o_stack, .inl (dA 0, 64, .inl b_o_stack))] ∧ va_S A s.heap H locs) (fun H locs ls hX => ?_) (fun J237 => ?_)
                · obtain ⟨hl, hP, hD, hS⟩ := hX
                  clear hj
                  refine lv_lstore (lv' := [(7, .long v10), (0, .ref a_o), (2, .int p2)]) (pc := 237) hx hb dX2_operate_237 hl (by decide) rfl (fun ls hl => ?_)
                  refine lv_goto (tgt := 260) (pc := 239) hx hb dX2_operate_239 rfl ?_
                  obtain rfl := Option.some.inj hf
                  exact J260 _ _ _ ⟨lv_sub hl [1, 2, 0] rfl, hP, hD, hS⟩
                · clear hf
                  have hf := hj
                  clear hj
                  refine lv_if_le (tgt := 236) (pc := 229) hx hb dX2_operate_229 rfl (fun hc => ?_) (fun hc => ?_)
                  · have hf := za_t hf hc
                    refine lv_lconst (v := (0 : Int64)) (pc := 236) hx hb dX2_operate_236 (by decide) ?_
                    obtain rfl := Option.some.inj hf
                    exact J237 _ _ _ ⟨lv_sub hl [3, 5] rfl, hP, hD, hS⟩
                  · have hf := za_f hf hc
                    refine lv_lconst (v := (1 : Int64)) (pc := 232) hx hb dX2_operate_232 (by decide) ?_
                    refine lv_goto (tgt := 237) (pc := 233) hx hb dX2_operate_233 rfl ?_
                    obtain rfl := Option.some.inj hf
                    exact J237 _ _ _ ⟨lv_sub hl [3, 5] rfl, hP, hD, hS⟩
              have hf := za_f hf hc5
              by_cases hc6 : p1 = (1016 : Int32)
              · have hf := za_t hf hc6
                refine lv_tableIn (tgt := 242) (off := 124) (pc := 118) hx hb dX2_operate_118 (by rw [hc6]; decide) (by rw [hc6]; decide) (by rw [hc6]; decide) rfl ?_
                refine lv_lload_n (pc := 242) hx hb dX2_operate_242 rfl (lv_at hl 2 rfl) ?_
                refine lv_lload (pc := 243) hx hb dX2_operate_243 (lv_at hl 1 rfl) ?_
                refine lv_land (pc := 245) hx hb dX2_operate_245 ?_
                obtain ⟨v11, hv11, hf⟩ := zc_1 hf
                refine zw_topl (hv11) ?_
                refine lv_lstore (lv' := [(7, .long v11), (5, .long v4), (3, .long v2), (0, .ref a_o), (1, .int p1), (2, .int p2)]) (pc := 246) hx hb dX2_operate_246 hl (by decide) rfl (fun ls hl => ?_)
                refine lv_goto (tgt := 260) (pc := 248) hx hb dX2_operate_248 rfl ?_
                obtain rfl := Option.some.inj hf
                exact J260 _ _ _ ⟨lv_sub hl [3, 5, 0] rfl, hP, hD, hS⟩
              have hf := za_f hf hc6
              by_cases hc7 : p1 = (1017 : Int32)
              · have hf := za_t hf hc7
                refine lv_tableIn (tgt := 251) (off := 133) (pc := 118) hx hb dX2_operate_118 (by rw [hc7]; decide) (by rw [hc7]; decide) (by rw [hc7]; decide) rfl ?_
                refine lv_lload_n (pc := 251) hx hb dX2_operate_251 rfl (lv_at hl 2 rfl) ?_
                refine lv_lload (pc := 252) hx hb dX2_operate_252 (lv_at hl 1 rfl) ?_
                refine lv_lor (pc := 254) hx hb dX2_operate_254 ?_
                obtain ⟨v12, hv12, hf⟩ := zc_1 hf
                refine zw_topl (hv12) ?_
                refine lv_lstore (lv' := [(7, .long v12), (5, .long v4), (3, .long v2), (0, .ref a_o), (1, .int p1), (2, .int p2)]) (pc := 255) hx hb dX2_operate_255 hl (by decide) rfl (fun ls hl => ?_)
                refine lv_goto (tgt := 260) (pc := 257) hx hb dX2_operate_257 rfl ?_
                obtain rfl := Option.some.inj hf
                exact J260 _ _ _ ⟨lv_sub hl [3, 5, 0] rfl, hP, hD, hS⟩
              have hf := za_f hf hc7
              refine lv_tableOut (tgt := 260) (pc := 118) hx hb dX2_operate_118 (by have q0 := lv_neT (a := 1010) hc0 (by decide); have q1 := lv_neT (a := 1011) hc1 (by decide); have q2 := lv_neT (a := 1012) hc2 (by decide); have q3 := lv_neT (a := 1013) hc3 (by decide); have q4 := lv_neT (a := 1014) hc4 (by decide); have q5 := lv_neT (a := 1015) hc5 (by decide); have q6 := lv_neT (a := 1016) hc6 (by decide); have q7 := lv_neT (a := 1017) hc7 (by decide); omega) rfl ?_
              obtain rfl := Option.some.inj hf
              exact J260 _ _ _ ⟨lv_sub hl [3, 5, 0] rfl, hP, hD, hS⟩
          · have hf := za_f hf hc
            refine lv_iload_n (pc := 91) hx hb dX2_operate_91 rfl (lv_at hl 2 rfl) ?_
            obtain ⟨rfl, rfl⟩ := zi_2 hf
            exact W.iret (pc := 92) hx hb hr (fun t ht hW => ⟨⟨_, (), rfl, rfl, zz_Bi (by rw [ht]; exact hP) (va_K.moved hW.alike hK) (hD)⟩, hS.F ht⟩) hS.2.2 dX2_operate_92
        · have hf := za_f hf hc
          refine lv_aload_n (pc := 44) hx hb dX2_operate_44 rfl (lv_at hl 0 rfl) ?_
          refine va_get (pc := 45) (D := (dC, dI)) (ci := 3) (v := .ref a_o_stack) (C := RX2) (T := TX2) (N := 5) hx hb ht zq_layX2 hown hK hP 0 rfl rfl 3 (by decide) (ht _ zq_118) (fun _ h9 => h9) rfl dX2_operate_45 ?_
          refine lv_iload_n (pc := 48) hx hb dX2_operate_48 rfl (lv_at hl 2 rfl) ?_
          refine lv_iconst (v := (3 : Int32)) (pc := 49) hx hb dX2_operate_49 (by decide) ?_
          refine lv_isub (pc := 50) hx hb dX2_operate_50 ?_
          refine lv_aload_n (pc := 51) hx hb dX2_operate_51 rfl (lv_at hl 0 rfl) ?_
          refine va_get (pc := 52) (D := (dC, dI)) (ci := 3) (v := .ref a_o_stack) (C := RX2) (T := TX2) (N := 5) hx hb ht zq_layX2 hown hK hP 0 rfl rfl 3 (by decide) (ht _ zq_118) (fun _ h9 => h9) rfl dX2_operate_52 ?_
          refine lv_iload_n (pc := 55) hx hb dX2_operate_55 rfl (lv_at hl 2 rfl) ?_
          refine lv_iconst (v := (3 : Int32)) (pc := 56) hx hb dX2_operate_56 (by decide) ?_
          refine lv_isub (pc := 57) hx hb dX2_operate_57 ?_
          obtain ⟨v17, hv17, hf⟩ := zc_1 hf
          refine zw_iald (pc := 58) hx hb hK hP 1 0 rfl rfl hv17 dX2_operate_58 ?_
          obtain ⟨v20, hj, hf⟩ := zc_1 hf
          refine zj_join (pcJ := 81) (stk := [.int v20, .int (p2 - (3 : Int32)), .ref a_o_stack]) (X := fun H locs ls => lv_has ls 9 [(2, .int p2)] ∧ va_P (dC, dI) zz_cls [zo_X2 a_o a_c a_o_told a_o_facts a_o_stack f_o_wind, (a_o_stack, .inl (dA 0, 64, .inl b_o_stack))] H ∧ va_D A [zo_X2 a_o a_c a_o_told a_o_facts a_o_stack f_o_wind, (a_o_stack, .inl (dA 0, 64, .inl b_o_stack))] ∧ va_S A s.heap H locs) (fun H locs ls hX => ?_) (fun J81 => ?_)
          · obtain ⟨hl, hP, hD, hS⟩ := hX
            clear hj
            obtain ⟨a21, ha21, hf⟩ := zc_1 hf
            refine zw_iast (pc := 81) hx hb hK hP hD hS 1 0 rfl rfl ha21 dX2_operate_81 (fun H locs hP hD hS => ?_)
            have hP : va_P (dC, dI) zz_cls [zo_X2 a_o a_c a_o_told a_o_facts a_o_stack f_o_wind, (a_o_stack, .inl (dA 0, 64, .inl a21))] H := hP
            have hD : va_D A [zo_X2 a_o a_c a_o_told a_o_facts a_o_stack f_o_wind, (a_o_stack, .inl (dA 0, 64, .inl a21))] := hD
            refine lv_iload_n (pc := 82) hx hb dX2_operate_82 rfl (lv_at hl 0 rfl) ?_
            refine lv_iconst (v := (2 : Int32)) (pc := 83) hx hb dX2_operate_83 (by decide) ?_
            refine lv_isub (pc := 84) hx hb dX2_operate_84 ?_
            obtain ⟨rfl, rfl⟩ := zi_2 hf
            exact W.iret (pc := 85) hx hb hr (fun t ht hW => ⟨⟨_, (), rfl, rfl, zz_Bi (by rw [ht]; exact hP) (va_K.moved hW.alike hK) (hD)⟩, hS.F ht⟩) hS.2.2 dX2_operate_85
          · clear hf
            have hf := hj
            clear hj
            refine lv_if_eq (tgt := 73) (pc := 59) hx hb dX2_operate_59 rfl (fun hc => ?_) (fun hc => ?_)
            · have hf := za_t hf hc
              refine lv_aload_n (pc := 73) hx hb dX2_operate_73 rfl (lv_at hl 0 rfl) ?_
              refine va_get (pc := 74) (D := (dC, dI)) (ci := 3) (v := .ref a_o_stack) (C := RX2) (T := TX2) (N := 5) hx hb ht zq_layX2 hown hK hP 0 rfl rfl 3 (by decide) (ht _ zq_118) (fun _ h9 => h9) rfl dX2_operate_74 ?_
              refine lv_iload_n (pc := 77) hx hb dX2_operate_77 rfl (lv_at hl 2 rfl) ?_
              refine lv_iconst (v := (1 : Int32)) (pc := 78) hx hb dX2_operate_78 (by decide) ?_
              refine lv_isub (pc := 79) hx hb dX2_operate_79 ?_
              obtain ⟨v18, hv18, hf⟩ := zc_1 hf
              refine zw_iald (pc := 80) hx hb hK hP 1 0 rfl rfl hv18 dX2_operate_80 ?_
              obtain rfl := Option.some.inj hf
              exact J81 _ _ _ ⟨lv_sub hl [2] rfl, hP, hD, hS⟩
            · have hf := za_f hf hc
              refine lv_aload_n (pc := 62) hx hb dX2_operate_62 rfl (lv_at hl 0 rfl) ?_
              refine va_get (pc := 63) (D := (dC, dI)) (ci := 3) (v := .ref a_o_stack) (C := RX2) (T := TX2) (N := 5) hx hb ht zq_layX2 hown hK hP 0 rfl rfl 3 (by decide) (ht _ zq_118) (fun _ h9 => h9) rfl dX2_operate_63 ?_
              refine lv_iload_n (pc := 66) hx hb dX2_operate_66 rfl (lv_at hl 2 rfl) ?_
              refine lv_iconst (v := (2 : Int32)) (pc := 67) hx hb dX2_operate_67 (by decide) ?_
              refine lv_isub (pc := 68) hx hb dX2_operate_68 ?_
              obtain ⟨v19, hv19, hf⟩ := zc_1 hf
              refine zw_iald (pc := 69) hx hb hK hP 1 0 rfl rfl hv19 dX2_operate_69 ?_
              refine lv_goto (tgt := 81) (pc := 70) hx hb dX2_operate_70 rfl ?_
              obtain rfl := Option.some.inj hf
              exact J81 _ _ _ ⟨lv_sub hl [2] rfl, hP, hD, hS⟩
    · have hf := za_f hf hc
      refine lv_aload_n (pc := 12) hx hb dX2_operate_12 rfl (lv_at hl 0 rfl) ?_
      refine va_get (pc := 13) (D := (dC, dI)) (ci := 3) (v := .ref a_o_stack) (C := RX2) (T := TX2) (N := 5) hx hb ht zq_layX2 hown hK hP 0 rfl rfl 3 (by decide) (ht _ zq_118) (fun _ h9 => h9) rfl dX2_operate_13 ?_
      refine lv_iload_n (pc := 16) hx hb dX2_operate_16 rfl (lv_at hl 2 rfl) ?_
      refine lv_iconst (v := (1 : Int32)) (pc := 17) hx hb dX2_operate_17 (by decide) ?_
      refine lv_isub (pc := 18) hx hb dX2_operate_18 ?_
      refine lv_iconst (v := (1 : Int32)) (pc := 19) hx hb dX2_operate_19 (by decide) ?_
      refine lv_aload_n (pc := 20) hx hb dX2_operate_20 rfl (lv_at hl 0 rfl) ?_
      refine va_get (pc := 21) (D := (dC, dI)) (ci := 3) (v := .ref a_o_stack) (C := RX2) (T := TX2) (N := 5) hx hb ht zq_layX2 hown hK hP 0 rfl rfl 3 (by decide) (ht _ zq_118) (fun _ h9 => h9) rfl dX2_operate_21 ?_
      refine lv_iload_n (pc := 24) hx hb dX2_operate_24 rfl (lv_at hl 2 rfl) ?_
      refine lv_iconst (v := (1 : Int32)) (pc := 25) hx hb dX2_operate_25 (by decide) ?_
      refine lv_isub (pc := 26) hx hb dX2_operate_26 ?_
      obtain ⟨v38, hv38, hf⟩ := zc_1 hf
      refine zw_iald (pc := 27) hx hb hK hP 1 0 rfl rfl hv38 dX2_operate_27 ?_
      refine lv_isub (pc := 28) hx hb dX2_operate_28 ?_
      obtain ⟨a39, ha39, hf⟩ := zc_1 hf
      refine zw_iast (pc := 29) hx hb hK hP hD hS 1 0 rfl rfl ha39 dX2_operate_29 (fun H locs hP hD hS => ?_)
      have hP : va_P (dC, dI) zz_cls [zo_X2 a_o a_c a_o_told a_o_facts a_o_stack f_o_wind, (a_o_stack, .inl (dA 0, 64, .inl a39))] H := hP
      have hD : va_D A [zo_X2 a_o a_c a_o_told a_o_facts a_o_stack f_o_wind, (a_o_stack, .inl (dA 0, 64, .inl a39))] := hD
      refine lv_iload_n (pc := 30) hx hb dX2_operate_30 rfl (lv_at hl 2 rfl) ?_
      obtain ⟨rfl, rfl⟩ := zi_2 hf
      exact W.iret (pc := 31) hx hb hr (fun t ht hW => ⟨⟨_, (), rfl, rfl, zz_Bi (by rw [ht]; exact hP) (va_K.moved hW.alike hK) (hD)⟩, hS.F ht⟩) hS.2.2 dX2_operate_31

def zb_X2_reckon_5 (p2 : Int32) (b_c_code : (Nat → Int32)) (b_o_facts : (Nat → Int32)) (v1 : Int32) (v2 : Int32) (a3 : (Nat → Int32)) : Option (Nat × Int32 × Int32 × (Nat → Int32)) :=
  if p2 ≤ v2 then
    some (1, v1, v2, a3)
  else
    if (64 : Int32) ≤ v1 then
      some (1, v1, v2, a3)
    else
      zd_1 (za_ld b_c_code 900 v2) (fun v4 =>
      zd_2 (
        if (1000 : Int32) ≤ v4 then
          if (1006 : Int32) ≤ v4 then
            zd_2 (zf_X2_operate a3 v4 v1) (fun v5 a6 =>
            some (v5, a6))
          else
            zd_1 (za_ld b_o_facts 6 (v4 - (1000 : Int32))) (fun v7 =>
            zd_1 (za_st a3 64 v1 v7) (fun a8 =>
            zd_1 (some (v1 + (1 : Int32))) (fun v9 =>
            some (v9, a8))))
        else
          zd_1 (za_st a3 64 v1 v4) (fun a10 =>
          zd_1 (some (v1 + (1 : Int32))) (fun v11 =>
          some (v11, a10)))) (fun v12 a13 =>
      zd_1 (some (v2 + (1 : Int32))) (fun v14 =>
      some (0, v12, v14, a13))))
def zf_X2_reckon (n : Nat) (b_c_code : (Nat → Int32)) (b_o_facts : (Nat → Int32)) (b_o_stack : (Nat → Int32)) (p1 : Int32) (p2 : Int32) : Option (Int32 × (Nat → Int32)) :=
  zd_4 (za_it (fun v => zb_X2_reckon_5 p2 b_c_code b_o_facts v.1 v.2.1 v.2.2) n ((0 : Int32), p1, b_o_stack)) (fun g18 v15 v16 a17 =>
  if v15 ≤ 0 then
    some ((0 : Int32), a17)
  else
    zd_1 (za_ld a17 64 (0 : Int32)) (fun v19 =>
    some (v19, a17)))
theorem zk_X2_reckon : yX2_reckon.cls = RX2 ∧ yX2_reckon.cls ≠ "java/lang/invoke/MethodHandle" ∧ yX2_reckon.cls ≠ "java/lang/invoke/VarHandle" ∧ (parseMethodDescriptor yX2_reckon.desc).map (fun d => d.parameters.length) = some 2 := by decide +kernel
set_option maxHeartbeats 4000000 in
set_option maxRecDepth 100000 in
theorem zt_X2_reckon (l : Launch) (dC : Nat → ClassId) (dI : Nat → Nat → Nat) (dA : Nat → ClassId) (adK adV : Nat → Nat) (sz : Nat) (a_o : Nat) (a_c : Nat) (a_o_told : Nat) (a_o_facts : Nat) (a_o_stack : Nat) (a_c_bars : Nat) (a_c_gives : Nat) (a_c_rough : Nat) (a_c_code : Nat) (n : Nat) (f_o_wind : Int32) (f_c_top : Int32) (f_c_things : Int32) (f_c_startRung : Int32) (f_c_startThings : Int32) (f_c_startStrength : Int32) (f_c_startWind : Int32) (f_c_slips : Int32) (f_c_lines : Int32) (f_c_coded : Int32) (f_c_tiresFrom : Int32) (f_c_tiresTo : Int32) (f_c_mayFrom : Int32) (f_c_mayTo : Int32) (b_c_code : (Nat → Int32)) (b_o_facts : (Nat → Int32)) (b_o_stack : (Nat → Int32)) (p1 : Int32) (p2 : Int32) (r0 : Int32) (o1 : (Nat → Int32)) (hf : zf_X2_reckon n b_c_code b_o_facts b_o_stack p1 p2 = some (r0, o1)) : Met l yX2_reckon (.code yX2_reckon cX2_reckon 6 (some .int) :: zq_T) ({ frames := 2, cells := 0, slots := 0, locals := 76 }) (va_Pc [.ref a_o, .int p1, .int p2] (zx_M dC dI dA adK adV [zo_X2 a_o a_c a_o_told a_o_facts a_o_stack f_o_wind, zo_X0 a_c f_c_top f_c_things a_c_bars a_c_gives a_c_rough f_c_startRung f_c_startThings f_c_startStrength f_c_startWind f_c_slips f_c_lines a_c_code f_c_coded f_c_tiresFrom f_c_tiresTo f_c_mayFrom f_c_mayTo, (a_c_code, .inl (dA 0, 900, .inl b_c_code)), (a_o_facts, .inl (dA 0, 6, .inl b_o_facts)), (a_o_stack, .inl (dA 0, 64, .inl b_o_stack))] sz)) (va_Qi (fun (r : Int32) (_ : Unit) => r = r0) (fun _ t => zz_B dC dI dA (va_A [zo_X2 a_o a_c a_o_told a_o_facts a_o_stack f_o_wind, zo_X0 a_c f_c_top f_c_things a_c_bars a_c_gives a_c_rough f_c_startRung f_c_startThings f_c_startStrength f_c_startWind f_c_slips f_c_lines a_c_code f_c_coded f_c_tiresFrom f_c_tiresTo f_c_mayFrom f_c_mayTo, (a_c_code, .inl (dA 0, 900, .inl b_c_code)), (a_o_facts, .inl (dA 0, 6, .inl b_o_facts)), (a_o_stack, .inl (dA 0, 64, .inl b_o_stack))] sz) [zo_X2 a_o a_c a_o_told a_o_facts a_o_stack f_o_wind, zo_X0 a_c f_c_top f_c_things a_c_bars a_c_gives a_c_rough f_c_startRung f_c_startThings f_c_startStrength f_c_startWind f_c_slips f_c_lines a_c_code f_c_coded f_c_tiresFrom f_c_tiresTo f_c_mayFrom f_c_mayTo, (a_c_code, .inl (dA 0, 900, .inl b_c_code)), (a_o_facts, .inl (dA 0, 6, .inl b_o_facts)), (a_o_stack, .inl (dA 0, 64, .inl o1))] t) (va_A [zo_X2 a_o a_c a_o_told a_o_facts a_o_stack f_o_wind, zo_X0 a_c f_c_top f_c_things a_c_bars a_c_gives a_c_rough f_c_startRung f_c_startThings f_c_startStrength f_c_startWind f_c_slips f_c_lines a_c_code f_c_coded f_c_tiresFrom f_c_tiresTo f_c_mayFrom f_c_mayTo, (a_c_code, .inl (dA 0, 900, .inl b_c_code)), (a_o_facts, .inl (dA 0, 6, .inl b_o_facts)), (a_o_stack, .inl (dA 0, 64, .inl b_o_stack))] sz)) 0 0 (va_A [zo_X2 a_o a_c a_o_told a_o_facts a_o_stack f_o_wind, zo_X0 a_c f_c_top f_c_things a_c_bars a_c_gives a_c_rough f_c_startRung f_c_startThings f_c_startStrength f_c_startWind f_c_slips f_c_lines a_c_code f_c_coded f_c_tiresFrom f_c_tiresTo f_c_mayFrom f_c_mayTo, (a_c_code, .inl (dA 0, 900, .inl b_c_code)), (a_o_facts, .inl (dA 0, 6, .inl b_o_facts)), (a_o_stack, .inl (dA 0, 64, .inl b_o_stack))] sz) := by
  unfold zf_X2_reckon at hf
  refine Met.ofW (cc := cX2_reckon) (maxL := 6) (ret := (some .int)) (by decide) rfl ?_
  intro p e s m args below meth c s₁ B hml hv
  obtain ⟨rfl, ⟨hsz, hP, hK, hD0⟩, hZ⟩ := hv
  have hx := B.exec
  have hb := B.bytes
  have hr := B.returns
  have ht : ∀ w ∈ zq_T, w.before ([.ref a_o, .int p1, .int p2] : List Value).toArray s = true := fun w hw => atoms_spec (ws := .code yX2_reckon cX2_reckon 6 (some .int) :: zq_T) B.pre w (List.mem_cons_of_mem _ hw)
  have hown : s.vm.findClass RX2 = some m.cls := findClass_of_methodNamed B.named
  have hlocks := B.notSynchronized
  subst hsz
  have hD := hD0.self (sz := s.heap.size)
  generalize hAe : va_A [zo_X2 a_o a_c a_o_told a_o_facts a_o_stack f_o_wind, zo_X0 a_c f_c_top f_c_things a_c_bars a_c_gives a_c_rough f_c_startRung f_c_startThings f_c_startStrength f_c_startWind f_c_slips f_c_lines a_c_code f_c_coded f_c_tiresFrom f_c_tiresTo f_c_mayFrom f_c_mayTo, (a_c_code, .inl (dA 0, 900, .inl b_c_code)), (a_o_facts, .inl (dA 0, 6, .inl b_o_facts)), (a_o_stack, .inl (dA 0, 64, .inl b_o_stack))] s.heap.size = A at hD hZ ⊢
  have hA : ∀ q : Nat, s.heap.size ≤ q → A q := fun q h => by rw [← hAe]; exact Or.inr h
  clear hAe hD0
  have hS : va_S A s.heap s.heap [] := va_S.rf
  have hl := lv_entry ([.ref a_o, .int p1, .int p2]) (n := 6) (Nat.le_of_ble_eq_true rfl)
  rw [lg_entry_eq]
  generalize (lg_sl ([.ref a_o, .int p1, .int p2]) ++ List.replicate (6 - (lg_sl ([.ref a_o, .int p1, .int p2])).length) Slot.unset).toArray = ls at hl ⊢
  have hl : lv_has ls 6 [(0, .ref a_o), (1, .int p1), (2, .int p2)] := hl
  refine lv_iconst (v := (0 : Int32)) (pc := 0) hx hb dX2_reckon_0 (by decide) ?_
  refine lv_istore_n (lv' := [(3, .int (0 : Int32)), (0, .ref a_o), (1, .int p1), (2, .int p2)]) (pc := 1) hx hb dX2_reckon_1 rfl hl (by decide) rfl (fun ls hl => ?_)
  refine lv_iload_n (pc := 2) hx hb dX2_reckon_2 rfl (lv_at hl 2 rfl) ?_
  refine lv_istore (lv' := [(4, .int p1), (3, .int (0 : Int32)), (0, .ref a_o), (1, .int p1), (2, .int p2)]) (pc := 3) hx hb dX2_reckon_3 hl (by decide) rfl (fun ls hl => ?_)
  obtain ⟨g18, v15, v16, a17, hj, hf⟩ := zc_4 hf
  refine zj_join (pcJ := 96) (stk := []) (X := fun H locs ls => lv_has ls 6 [(0, .ref a_o), (3, .int v15)] ∧ va_P (dC, dI) zz_cls [zo_X2 a_o a_c a_o_told a_o_facts a_o_stack f_o_wind, zo_X0 a_c f_c_top f_c_things a_c_bars a_c_gives a_c_rough f_c_startRung f_c_startThings f_c_startStrength f_c_startWind f_c_slips f_c_lines a_c_code f_c_coded f_c_tiresFrom f_c_tiresTo f_c_mayFrom f_c_mayTo, (a_c_code, .inl (dA 0, 900, .inl b_c_code)), (a_o_facts, .inl (dA 0, 6, .inl b_o_facts)), (a_o_stack, .inl (dA 0, 64, .inl a17))] H ∧ va_D A [zo_X2 a_o a_c a_o_told a_o_facts a_o_stack f_o_wind, zo_X0 a_c f_c_top f_c_things a_c_bars a_c_gives a_c_rough f_c_startRung f_c_startThings f_c_startStrength f_c_startWind f_c_slips f_c_lines a_c_code f_c_coded f_c_tiresFrom f_c_tiresTo f_c_mayFrom f_c_mayTo, (a_c_code, .inl (dA 0, 900, .inl b_c_code)), (a_o_facts, .inl (dA 0, 6, .inl b_o_facts)), (a_o_stack, .inl (dA 0, 64, .inl a17))] ∧ va_S A s.heap H locs) (fun H locs ls hX => ?_) (fun E96 => ?_)
  · obtain ⟨hl, hP, hD, hS⟩ := hX
    clear hj
    refine lv_iload_n (pc := 96) hx hb dX2_reckon_96 rfl (lv_at hl 1 rfl) ?_
    refine lv_if_le (tgt := 109) (pc := 97) hx hb dX2_reckon_97 rfl (fun hc => ?_) (fun hc => ?_)
    · have hf := za_t hf hc
      refine lv_iconst (v := (0 : Int32)) (pc := 109) hx hb dX2_reckon_109 (by decide) ?_
      obtain ⟨rfl, rfl⟩ := zi_2 hf
      exact W.iret (pc := 110) hx hb hr (fun t ht hW => ⟨⟨_, (), rfl, rfl, zz_Bi (by rw [ht]; exact hP) (va_K.moved hW.alike hK) (hD)⟩, hS.F ht⟩) hS.2.2 dX2_reckon_110
    · have hf := za_f hf hc
      refine lv_aload_n (pc := 100) hx hb dX2_reckon_100 rfl (lv_at hl 0 rfl) ?_
      refine va_get (pc := 101) (D := (dC, dI)) (ci := 3) (v := .ref a_o_stack) (C := RX2) (T := TX2) (N := 5) hx hb ht zq_layX2 hown hK hP 0 rfl rfl 3 (by decide) (ht _ zq_118) (fun _ h9 => h9) rfl dX2_reckon_101 ?_
      refine lv_iconst (v := (0 : Int32)) (pc := 104) hx hb dX2_reckon_104 (by decide) ?_
      obtain ⟨v19, hv19, hf⟩ := zc_1 hf
      refine zw_iald (pc := 105) hx hb hK hP 4 0 rfl rfl hv19 dX2_reckon_105 ?_
      refine lv_goto (tgt := 110) (pc := 106) hx hb dX2_reckon_106 rfl ?_
      obtain ⟨rfl, rfl⟩ := zi_2 hf
      exact W.iret (pc := 110) hx hb hr (fun t ht hW => ⟨⟨_, (), rfl, rfl, zz_Bi (by rw [ht]; exact hP) (va_K.moved hW.alike hK) (hD)⟩, hS.F ht⟩) hS.2.2 dX2_reckon_110
  clear hf
  refine zw_loop (pcH := 5) (X := fun v H locs ls => lv_has ls 6 [(0, .ref a_o), (2, .int p2), (3, .int v.1), (4, .int v.2.1)] ∧ va_P (dC, dI) zz_cls [zo_X2 a_o a_c a_o_told a_o_facts a_o_stack f_o_wind, zo_X0 a_c f_c_top f_c_things a_c_bars a_c_gives a_c_rough f_c_startRung f_c_startThings f_c_startStrength f_c_startWind f_c_slips f_c_lines a_c_code f_c_coded f_c_tiresFrom f_c_tiresTo f_c_mayFrom f_c_mayTo, (a_c_code, .inl (dA 0, 900, .inl b_c_code)), (a_o_facts, .inl (dA 0, 6, .inl b_o_facts)), (a_o_stack, .inl (dA 0, 64, .inl v.2.2))] H ∧ va_D A [zo_X2 a_o a_c a_o_told a_o_facts a_o_stack f_o_wind, zo_X0 a_c f_c_top f_c_things a_c_bars a_c_gives a_c_rough f_c_startRung f_c_startThings f_c_startStrength f_c_startWind f_c_slips f_c_lines a_c_code f_c_coded f_c_tiresFrom f_c_tiresTo f_c_mayFrom f_c_mayTo, (a_c_code, .inl (dA 0, 900, .inl b_c_code)), (a_o_facts, .inl (dA 0, 6, .inl b_o_facts)), (a_o_stack, .inl (dA 0, 64, .inl v.2.2))] ∧ va_S A s.heap H locs) hj (fun v w hf ih ex H locs ls hX => ?_) _ _ _ ⟨lv_sub hl [2, 4, 1, 0] rfl, hP, hD, hS⟩
  clear hj
  obtain ⟨v1, v2, a3⟩ := v
  obtain ⟨hl, hP, hD, hS⟩ := hX
  have hl : lv_has ls 6 [(0, .ref a_o), (2, .int p2), (3, .int v1), (4, .int v2)] := hl
  have hP : va_P (dC, dI) zz_cls [zo_X2 a_o a_c a_o_told a_o_facts a_o_stack f_o_wind, zo_X0 a_c f_c_top f_c_things a_c_bars a_c_gives a_c_rough f_c_startRung f_c_startThings f_c_startStrength f_c_startWind f_c_slips f_c_lines a_c_code f_c_coded f_c_tiresFrom f_c_tiresTo f_c_mayFrom f_c_mayTo, (a_c_code, .inl (dA 0, 900, .inl b_c_code)), (a_o_facts, .inl (dA 0, 6, .inl b_o_facts)), (a_o_stack, .inl (dA 0, 64, .inl a3))] H := hP
  have hD : va_D A [zo_X2 a_o a_c a_o_told a_o_facts a_o_stack f_o_wind, zo_X0 a_c f_c_top f_c_things a_c_bars a_c_gives a_c_rough f_c_startRung f_c_startThings f_c_startStrength f_c_startWind f_c_slips f_c_lines a_c_code f_c_coded f_c_tiresFrom f_c_tiresTo f_c_mayFrom f_c_mayTo, (a_c_code, .inl (dA 0, 900, .inl b_c_code)), (a_o_facts, .inl (dA 0, 6, .inl b_o_facts)), (a_o_stack, .inl (dA 0, 64, .inl a3))] := hD
  replace hf : zb_X2_reckon_5 p2 b_c_code b_o_facts v1 v2 a3 = some w := hf
  unfold zb_X2_reckon_5 at hf
  refine lv_iload (pc := 5) hx hb dX2_reckon_5 (lv_at hl 3 rfl) ?_
  refine lv_iload_n (pc := 7) hx hb dX2_reckon_7 rfl (lv_at hl 1 rfl) ?_
  refine lv_icmp_ge (tgt := 96) (pc := 8) hx hb dX2_reckon_8 rfl (fun hc => ?_) (fun hc => ?_)
  · have hf := za_t hf hc
    obtain rfl := Option.some.inj hf
    obtain ⟨rfl, rfl, rfl, rfl⟩ := zp_4 (ex (show ¬ (1 : Nat) = 0 by decide))
    exact E96 _ _ _ ⟨lv_sub hl [0, 2] rfl, hP, hD, hS⟩
  · have hf := za_f hf hc
    refine lv_iload_n (pc := 11) hx hb dX2_reckon_11 rfl (lv_at hl 2 rfl) ?_
    refine lv_bipush (v := (64 : Int32)) (pc := 12) hx hb dX2_reckon_12 (by decide) ?_
    refine lv_icmp_ge (tgt := 96) (pc := 14) hx hb dX2_reckon_14 rfl (fun hc => ?_) (fun hc => ?_)
    · have hf := za_t hf hc
      obtain rfl := Option.some.inj hf
      obtain ⟨rfl, rfl, rfl, rfl⟩ := zp_4 (ex (show ¬ (1 : Nat) = 0 by decide))
      exact E96 _ _ _ ⟨lv_sub hl [0, 2] rfl, hP, hD, hS⟩
    · have hf := za_f hf hc
      refine lv_aload_n (pc := 17) hx hb dX2_reckon_17 rfl (lv_at hl 0 rfl) ?_
      refine va_get (pc := 18) (D := (dC, dI)) (ci := 3) (v := .ref a_c) (C := RX2) (T := TX2) (N := 5) hx hb ht zq_layX2 hown hK hP 0 rfl rfl 0 (by decide) (ht _ zq_83) (fun _ h9 => h9) rfl dX2_reckon_18 ?_
      refine va_get (pc := 21) (D := (dC, dI)) (ci := 1) (v := .ref a_c_code) (C := RX0) (T := TX0) (N := 17) hx hb ht zq_layX0 hown hK hP 1 rfl rfl 11 (by decide) (ht _ zq_117) (fun _ h9 => h9) rfl dX2_reckon_21 ?_
      refine lv_iload (pc := 24) hx hb dX2_reckon_24 (lv_at hl 3 rfl) ?_
      obtain ⟨v4, hv4, hf⟩ := zc_1 hf
      refine zw_iald (pc := 26) hx hb hK hP 2 0 rfl rfl hv4 dX2_reckon_26 ?_
      refine lv_istore (lv' := [(5, .int v4), (0, .ref a_o), (2, .int p2), (3, .int v1), (4, .int v2)]) (pc := 27) hx hb dX2_reckon_27 hl (by decide) rfl (fun ls hl => ?_)
      refine lv_iload (pc := 29) hx hb dX2_reckon_29 (lv_at hl 0 rfl) ?_
      refine lv_sipush (v := (1000 : Int32)) (pc := 31) hx hb dX2_reckon_31 (by decide) ?_
      obtain ⟨v12, a13, hj, hf⟩ := zc_2 hf
      refine zj_join (pcJ := 90) (stk := []) (X := fun H locs ls => lv_has ls 6 [(0, .ref a_o), (2, .int p2), (3, .int v12), (4, .int v2)] ∧ va_P (dC, dI) zz_cls [zo_X2 a_o a_c a_o_told a_o_facts a_o_stack f_o_wind, zo_X0 a_c f_c_top f_c_things a_c_bars a_c_gives a_c_rough f_c_startRung f_c_startThings f_c_startStrength f_c_startWind f_c_slips f_c_lines a_c_code f_c_coded f_c_tiresFrom f_c_tiresTo f_c_mayFrom f_c_mayTo, (a_c_code, .inl (dA 0, 900, .inl b_c_code)), (a_o_facts, .inl (dA 0, 6, .inl b_o_facts)), (a_o_stack, .inl (dA 0, 64, .inl a13))] H ∧ va_D A [zo_X2 a_o a_c a_o_told a_o_facts a_o_stack f_o_wind, zo_X0 a_c f_c_top f_c_things a_c_bars a_c_gives a_c_rough f_c_startRung f_c_startThings f_c_startStrength f_c_startWind f_c_slips f_c_lines a_c_code f_c_coded f_c_tiresFrom f_c_tiresTo f_c_mayFrom f_c_mayTo, (a_c_code, .inl (dA 0, 900, .inl b_c_code)), (a_o_facts, .inl (dA 0, 6, .inl b_o_facts)), (a_o_stack, .inl (dA 0, 64, .inl a13))] ∧ va_S A s.heap H locs) (fun H locs ls hX => ?_) (fun J90 => ?_)
      · obtain ⟨hl, hP, hD, hS⟩ := hX
        clear hj
        obtain ⟨v14, hv14, hf⟩ := zc_1 hf
        refine lv_iinc (v := v14) (lv' := [(4, .int v14), (0, .ref a_o), (2, .int p2), (3, .int v12)]) (k := 3) (pc := 90) hx hb dX2_reckon_90 hl rfl (Option.some.inj hv14) (by decide) rfl (fun ls hl => ?_)
        refine lv_goto (tgt := 5) (pc := 93) hx hb dX2_reckon_93 rfl ?_
        obtain rfl := Option.some.inj hf
        exact ih rfl _ _ _ ⟨lv_sub hl [1, 2, 3, 0] rfl, hP, hD, hS⟩
      · clear hf
        have hf := hj
        clear hj
        refine lv_icmp_ge (tgt := 51) (pc := 34) hx hb dX2_reckon_34 rfl (fun hc => ?_) (fun hc => ?_)
        · have hf := za_t hf hc
          refine lv_iload (pc := 51) hx hb dX2_reckon_51 (lv_at hl 0 rfl) ?_
          refine lv_sipush (v := (1006 : Int32)) (pc := 53) hx hb dX2_reckon_53 (by decide) ?_
          refine lv_icmp_ge (tgt := 82) (pc := 56) hx hb dX2_reckon_56 rfl (fun hc => ?_) (fun hc => ?_)
          · have hf := za_t hf hc
            refine lv_aload_n (pc := 82) hx hb dX2_reckon_82 rfl (lv_at hl 1 rfl) ?_
            refine lv_iload (pc := 83) hx hb dX2_reckon_83 (lv_at hl 0 rfl) ?_
            refine lv_iload_n (pc := 85) hx hb dX2_reckon_85 rfl (lv_at hl 3 rfl) ?_
            obtain ⟨v5, a6, hv5, hf⟩ := zc_2 hf
            refine zx_Vi (pc := 86) (wc := [zo_X2 a_o a_c a_o_told a_o_facts a_o_stack f_o_wind, (a_o_stack, .inl (dA 0, 64, .inl a3))]) (wr := [zo_X0 a_c f_c_top f_c_things a_c_bars a_c_gives a_c_rough f_c_startRung f_c_startThings f_c_startStrength f_c_startWind f_c_slips f_c_lines a_c_code f_c_coded f_c_tiresFrom f_c_tiresTo f_c_mayFrom f_c_mayTo, (a_c_code, .inl (dA 0, 900, .inl b_c_code)), (a_o_facts, .inl (dA 0, 6, .inl b_o_facts))]) (w1 := [zo_X2 a_o a_c a_o_told a_o_facts a_o_stack f_o_wind, (a_o_stack, .inl (dA 0, 64, .inl a6))]) (As := [.int v4, .int v1]) (rest := []) ⟨hx, hb, hml, hown, ht⟩ (zt_X2_operate l dC dI dA adK adV _ a_o a_c a_o_told a_o_facts a_o_stack f_o_wind a3 v4 v1 v5 a6 hv5) (cwV 2 ht (zq_V zq_119 zq_120 zq_121 zq_81 zq_122) rfl rfl rfl zk_X2_operate ⟨Nat.le_of_ble_eq_true rfl, Nat.le_of_ble_eq_true rfl⟩) rfl rfl hZ hK hP hD hS hA [0, 4] [1, 2, 3] (by decide) (by decide) (by decide) rfl rfl rfl hl.1 (Nat.le_of_ble_eq_true rfl) dX2_reckon_86 ⟨Nat.zero_le _, Nat.zero_le _⟩ rfl (fun H locs hP hD hS => ?_)
            have hP : va_P (dC, dI) zz_cls [zo_X0 a_c f_c_top f_c_things a_c_bars a_c_gives a_c_rough f_c_startRung f_c_startThings f_c_startStrength f_c_startWind f_c_slips f_c_lines a_c_code f_c_coded f_c_tiresFrom f_c_tiresTo f_c_mayFrom f_c_mayTo, (a_c_code, .inl (dA 0, 900, .inl b_c_code)), (a_o_facts, .inl (dA 0, 6, .inl b_o_facts)), zo_X2 a_o a_c a_o_told a_o_facts a_o_stack f_o_wind, (a_o_stack, .inl (dA 0, 64, .inl a6))] H := hP
            have hD : va_D A [zo_X0 a_c f_c_top f_c_things a_c_bars a_c_gives a_c_rough f_c_startRung f_c_startThings f_c_startStrength f_c_startWind f_c_slips f_c_lines a_c_code f_c_coded f_c_tiresFrom f_c_tiresTo f_c_mayFrom f_c_mayTo, (a_c_code, .inl (dA 0, 900, .inl b_c_code)), (a_o_facts, .inl (dA 0, 6, .inl b_o_facts)), zo_X2 a_o a_c a_o_told a_o_facts a_o_stack f_o_wind, (a_o_stack, .inl (dA 0, 64, .inl a6))] := hD
            refine lv_istore_n (lv' := [(3, .int v5), (5, .int v4), (0, .ref a_o), (2, .int p2), (4, .int v2)]) (pc := 89) hx hb dX2_reckon_89 rfl hl (by decide) rfl (fun ls hl => ?_)
            obtain ⟨rfl, rfl⟩ := zi_2 hf
            exact J90 _ _ _ ⟨lv_sub hl [2, 3, 0, 4] rfl, hP.sub [3, 0, 1, 2, 4] rfl, hD.sub [3, 0, 1, 2, 4] (by decide) rfl, hS⟩
          · have hf := za_f hf hc
            refine lv_aload_n (pc := 59) hx hb dX2_reckon_59 rfl (lv_at hl 1 rfl) ?_
            refine va_get (pc := 60) (D := (dC, dI)) (ci := 3) (v := .ref a_o_stack) (C := RX2) (T := TX2) (N := 5) hx hb ht zq_layX2 hown hK hP 0 rfl rfl 3 (by decide) (ht _ zq_118) (fun _ h9 => h9) rfl dX2_reckon_60 ?_
            refine lv_iload_n (pc := 63) hx hb dX2_reckon_63 rfl (lv_at hl 3 rfl) ?_
            refine lv_aload_n (pc := 64) hx hb dX2_reckon_64 rfl (lv_at hl 1 rfl) ?_
            refine va_get (pc := 65) (D := (dC, dI)) (ci := 3) (v := .ref a_o_facts) (C := RX2) (T := TX2) (N := 5) hx hb ht zq_layX2 hown hK hP 0 rfl rfl 2 (by decide) (ht _ zq_108) (fun _ h9 => h9) rfl dX2_reckon_65 ?_
            refine lv_iload (pc := 68) hx hb dX2_reckon_68 (lv_at hl 0 rfl) ?_
            refine lv_sipush (v := (1000 : Int32)) (pc := 70) hx hb dX2_reckon_70 (by decide) ?_
            refine lv_isub (pc := 73) hx hb dX2_reckon_73 ?_
            obtain ⟨v7, hv7, hf⟩ := zc_1 hf
            refine zw_iald (pc := 74) hx hb hK hP 3 0 rfl rfl hv7 dX2_reckon_74 ?_
            obtain ⟨a8, ha8, hf⟩ := zc_1 hf
            refine zw_iast (pc := 75) hx hb hK hP hD hS 4 0 rfl rfl ha8 dX2_reckon_75 (fun H locs hP hD hS => ?_)
            have hP : va_P (dC, dI) zz_cls [zo_X2 a_o a_c a_o_told a_o_facts a_o_stack f_o_wind, zo_X0 a_c f_c_top f_c_things a_c_bars a_c_gives a_c_rough f_c_startRung f_c_startThings f_c_startStrength f_c_startWind f_c_slips f_c_lines a_c_code f_c_coded f_c_tiresFrom f_c_tiresTo f_c_mayFrom f_c_mayTo, (a_c_code, .inl (dA 0, 900, .inl b_c_code)), (a_o_facts, .inl (dA 0, 6, .inl b_o_facts)), (a_o_stack, .inl (dA 0, 64, .inl a8))] H := hP
            have hD : va_D A [zo_X2 a_o a_c a_o_told a_o_facts a_o_stack f_o_wind, zo_X0 a_c f_c_top f_c_things a_c_bars a_c_gives a_c_rough f_c_startRung f_c_startThings f_c_startStrength f_c_startWind f_c_slips f_c_lines a_c_code f_c_coded f_c_tiresFrom f_c_tiresTo f_c_mayFrom f_c_mayTo, (a_c_code, .inl (dA 0, 900, .inl b_c_code)), (a_o_facts, .inl (dA 0, 6, .inl b_o_facts)), (a_o_stack, .inl (dA 0, 64, .inl a8))] := hD
            obtain ⟨v9, hv9, hf⟩ := zc_1 hf
            refine lv_iinc (v := v9) (lv' := [(3, .int v9), (5, .int v4), (0, .ref a_o), (2, .int p2), (4, .int v2)]) (k := 3) (pc := 76) hx hb dX2_reckon_76 hl rfl (Option.some.inj hv9) (by decide) rfl (fun ls hl => ?_)
            refine lv_goto (tgt := 90) (pc := 79) hx hb dX2_reckon_79 rfl ?_
            obtain ⟨rfl, rfl⟩ := zi_2 hf
            exact J90 _ _ _ ⟨lv_sub hl [2, 3, 0, 4] rfl, hP, hD, hS⟩
        · have hf := za_f hf hc
          refine lv_aload_n (pc := 37) hx hb dX2_reckon_37 rfl (lv_at hl 1 rfl) ?_
          refine va_get (pc := 38) (D := (dC, dI)) (ci := 3) (v := .ref a_o_stack) (C := RX2) (T := TX2) (N := 5) hx hb ht zq_layX2 hown hK hP 0 rfl rfl 3 (by decide) (ht _ zq_118) (fun _ h9 => h9) rfl dX2_reckon_38 ?_
          refine lv_iload_n (pc := 41) hx hb dX2_reckon_41 rfl (lv_at hl 3 rfl) ?_
          refine lv_iload (pc := 42) hx hb dX2_reckon_42 (lv_at hl 0 rfl) ?_
          obtain ⟨a10, ha10, hf⟩ := zc_1 hf
          refine zw_iast (pc := 44) hx hb hK hP hD hS 4 0 rfl rfl ha10 dX2_reckon_44 (fun H locs hP hD hS => ?_)
          have hP : va_P (dC, dI) zz_cls [zo_X2 a_o a_c a_o_told a_o_facts a_o_stack f_o_wind, zo_X0 a_c f_c_top f_c_things a_c_bars a_c_gives a_c_rough f_c_startRung f_c_startThings f_c_startStrength f_c_startWind f_c_slips f_c_lines a_c_code f_c_coded f_c_tiresFrom f_c_tiresTo f_c_mayFrom f_c_mayTo, (a_c_code, .inl (dA 0, 900, .inl b_c_code)), (a_o_facts, .inl (dA 0, 6, .inl b_o_facts)), (a_o_stack, .inl (dA 0, 64, .inl a10))] H := hP
          have hD : va_D A [zo_X2 a_o a_c a_o_told a_o_facts a_o_stack f_o_wind, zo_X0 a_c f_c_top f_c_things a_c_bars a_c_gives a_c_rough f_c_startRung f_c_startThings f_c_startStrength f_c_startWind f_c_slips f_c_lines a_c_code f_c_coded f_c_tiresFrom f_c_tiresTo f_c_mayFrom f_c_mayTo, (a_c_code, .inl (dA 0, 900, .inl b_c_code)), (a_o_facts, .inl (dA 0, 6, .inl b_o_facts)), (a_o_stack, .inl (dA 0, 64, .inl a10))] := hD
          obtain ⟨v11, hv11, hf⟩ := zc_1 hf
          refine lv_iinc (v := v11) (lv' := [(3, .int v11), (5, .int v4), (0, .ref a_o), (2, .int p2), (4, .int v2)]) (k := 3) (pc := 45) hx hb dX2_reckon_45 hl rfl (Option.some.inj hv11) (by decide) rfl (fun ls hl => ?_)
          refine lv_goto (tgt := 90) (pc := 48) hx hb dX2_reckon_48 rfl ?_
          obtain ⟨rfl, rfl⟩ := zi_2 hf
          exact J90 _ _ _ ⟨lv_sub hl [2, 3, 0, 4] rfl, hP, hD, hS⟩

def zf_X2_strengthAbove (n : Nat) (f_o_wind : Int32) (f_c_top : Int32) (f_c_things : Int32) (f_c_tiresFrom : Int32) (f_c_tiresTo : Int32) (f_c_mayFrom : Int32) (f_c_mayTo : Int32) (b_c_bars : (Nat → Int32)) (b_c_rough : (Nat → Int32)) (b_c_code : (Nat → Int32)) (b_o_told : (Nat → Int32)) (b_o_facts : (Nat → Int32)) (b_o_stack : (Nat → Int32)) (p1 : Int32) : Option (Int32 × (Nat → Int32) × (Nat → Int32) × (Nat → Int32)) :=
  zd_1 (zf_X10_rungOf p1) (fun v1 =>
  zd_1 (some ((v1 + (1 : Int32)))) (fun v2 =>
  zd_1 (zf_X10_thingsOf p1) (fun v3 =>
  zd_1 (zf_J6_bitCount_0f7a4 v3) (fun v4 =>
  zd_1 (zf_X10_strengthOf p1) (fun v5 =>
  if v2 ≤ f_c_top then
    zd_1 (some (((((v2 * (7 : Int32)) + v4) * (5 : Int32)) + v5))) (fun v6 =>
    zd_1 (za_ld b_o_told 315 v6) (fun v7 =>
    if v7 = (-2 : Int32) then
      zd_1 (zf_X2_learnFacts f_o_wind f_c_things b_c_bars b_c_rough b_o_facts v2 v4 v5) (fun a8 =>
      zd_1 (
        if v5 < (1 : Int32) then
          some (0 : Int32)
        else
          some (1 : Int32)) (fun v9 =>
      zd_2 (
        if f_c_mayTo ≤ f_c_mayFrom then
          some (v9, b_o_stack)
        else
          zd_2 (zf_X2_reckon n b_c_code a8 b_o_stack f_c_mayFrom f_c_mayTo) (fun v10 a11 =>
          zd_1 (
            if v10 = 0 then
              some (0 : Int32)
            else
              some (1 : Int32)) (fun v12 =>
          some (v12, a11)))) (fun v13 a14 =>
      zd_1 (some ((v5 - (1 : Int32)))) (fun v15 =>
      zd_2 (
        if v13 = 0 then
          some (v15, a14)
        else
          if f_c_tiresTo ≤ f_c_tiresFrom then
            some (v15, a14)
          else
            zd_2 (zf_X2_reckon n b_c_code a8 a14 f_c_tiresFrom f_c_tiresTo) (fun v16 a17 =>
            some (v16, a17))) (fun v18 a19 =>
      zd_1 (
        if v13 = 0 then
          some (-1 : Int32)
        else
          zd_1 (some ((if v18 < (4 : Int32) then v18 else (4 : Int32)))) (fun v20 =>
          zd_1 (some ((if (0 : Int32) < v20 then v20 else (0 : Int32)))) (fun v21 =>
          some v21))) (fun v22 =>
      zd_1 (za_st b_o_told 315 v6 v22) (fun a23 =>
      zd_1 (za_ld a23 315 v6) (fun v24 =>
      some (v24, a23, a8, a19)))))))))
    else
      zd_1 (za_ld b_o_told 315 v6) (fun v25 =>
      some (v25, b_o_told, b_o_facts, b_o_stack))))
  else
    some ((-1 : Int32), b_o_told, b_o_facts, b_o_stack))))))
theorem zk_X2_strengthAbove : yX2_strengthAbove.cls = RX2 ∧ yX2_strengthAbove.cls ≠ "java/lang/invoke/MethodHandle" ∧ yX2_strengthAbove.cls ≠ "java/lang/invoke/VarHandle" ∧ (parseMethodDescriptor yX2_strengthAbove.desc).map (fun d => d.parameters.length) = some 1 := by decide +kernel
set_option maxHeartbeats 4000000 in
set_option maxRecDepth 100000 in
theorem zt_X2_strengthAbove (l : Launch) (dC : Nat → ClassId) (dI : Nat → Nat → Nat) (dA : Nat → ClassId) (adK adV : Nat → Nat) (sz : Nat) (a_o : Nat) (a_c : Nat) (a_o_told : Nat) (a_o_facts : Nat) (a_o_stack : Nat) (a_c_bars : Nat) (a_c_gives : Nat) (a_c_rough : Nat) (a_c_code : Nat) (n : Nat) (f_o_wind : Int32) (f_c_top : Int32) (f_c_things : Int32) (f_c_startRung : Int32) (f_c_startThings : Int32) (f_c_startStrength : Int32) (f_c_startWind : Int32) (f_c_slips : Int32) (f_c_lines : Int32) (f_c_coded : Int32) (f_c_tiresFrom : Int32) (f_c_tiresTo : Int32) (f_c_mayFrom : Int32) (f_c_mayTo : Int32) (b_c_bars : (Nat → Int32)) (b_c_rough : (Nat → Int32)) (b_c_code : (Nat → Int32)) (b_o_told : (Nat → Int32)) (b_o_facts : (Nat → Int32)) (b_o_stack : (Nat → Int32)) (p1 : Int32) (r0 : Int32) (o1 : (Nat → Int32)) (o2 : (Nat → Int32)) (o3 : (Nat → Int32)) (hf : zf_X2_strengthAbove n f_o_wind f_c_top f_c_things f_c_tiresFrom f_c_tiresTo f_c_mayFrom f_c_mayTo b_c_bars b_c_rough b_c_code b_o_told b_o_facts b_o_stack p1 = some (r0, o1, o2, o3)) : Met l yX2_strengthAbove (.code yX2_strengthAbove cX2_strengthAbove 8 (some .int) :: zq_T) ({ frames := 3, cells := 0, slots := 0, locals := 101 }) (va_Pc [.ref a_o, .int p1] (zx_M dC dI dA adK adV [zo_X2 a_o a_c a_o_told a_o_facts a_o_stack f_o_wind, zo_X0 a_c f_c_top f_c_things a_c_bars a_c_gives a_c_rough f_c_startRung f_c_startThings f_c_startStrength f_c_startWind f_c_slips f_c_lines a_c_code f_c_coded f_c_tiresFrom f_c_tiresTo f_c_mayFrom f_c_mayTo, (a_c_bars, .inl (dA 0, 9, .inl b_c_bars)), (a_c_rough, .inl (dA 0, 9, .inl b_c_rough)), (a_c_code, .inl (dA 0, 900, .inl b_c_code)), (a_o_told, .inl (dA 0, 315, .inl b_o_told)), (a_o_facts, .inl (dA 0, 6, .inl b_o_facts)), (a_o_stack, .inl (dA 0, 64, .inl b_o_stack))] sz)) (va_Qi (fun (r : Int32) (_ : Unit) => r = r0) (fun _ t => zz_B dC dI dA (va_A [zo_X2 a_o a_c a_o_told a_o_facts a_o_stack f_o_wind, zo_X0 a_c f_c_top f_c_things a_c_bars a_c_gives a_c_rough f_c_startRung f_c_startThings f_c_startStrength f_c_startWind f_c_slips f_c_lines a_c_code f_c_coded f_c_tiresFrom f_c_tiresTo f_c_mayFrom f_c_mayTo, (a_c_bars, .inl (dA 0, 9, .inl b_c_bars)), (a_c_rough, .inl (dA 0, 9, .inl b_c_rough)), (a_c_code, .inl (dA 0, 900, .inl b_c_code)), (a_o_told, .inl (dA 0, 315, .inl b_o_told)), (a_o_facts, .inl (dA 0, 6, .inl b_o_facts)), (a_o_stack, .inl (dA 0, 64, .inl b_o_stack))] sz) [zo_X2 a_o a_c a_o_told a_o_facts a_o_stack f_o_wind, zo_X0 a_c f_c_top f_c_things a_c_bars a_c_gives a_c_rough f_c_startRung f_c_startThings f_c_startStrength f_c_startWind f_c_slips f_c_lines a_c_code f_c_coded f_c_tiresFrom f_c_tiresTo f_c_mayFrom f_c_mayTo, (a_c_bars, .inl (dA 0, 9, .inl b_c_bars)), (a_c_rough, .inl (dA 0, 9, .inl b_c_rough)), (a_c_code, .inl (dA 0, 900, .inl b_c_code)), (a_o_told, .inl (dA 0, 315, .inl o1)), (a_o_facts, .inl (dA 0, 6, .inl o2)), (a_o_stack, .inl (dA 0, 64, .inl o3))] t) (va_A [zo_X2 a_o a_c a_o_told a_o_facts a_o_stack f_o_wind, zo_X0 a_c f_c_top f_c_things a_c_bars a_c_gives a_c_rough f_c_startRung f_c_startThings f_c_startStrength f_c_startWind f_c_slips f_c_lines a_c_code f_c_coded f_c_tiresFrom f_c_tiresTo f_c_mayFrom f_c_mayTo, (a_c_bars, .inl (dA 0, 9, .inl b_c_bars)), (a_c_rough, .inl (dA 0, 9, .inl b_c_rough)), (a_c_code, .inl (dA 0, 900, .inl b_c_code)), (a_o_told, .inl (dA 0, 315, .inl b_o_told)), (a_o_facts, .inl (dA 0, 6, .inl b_o_facts)), (a_o_stack, .inl (dA 0, 64, .inl b_o_stack))] sz)) 0 0 (va_A [zo_X2 a_o a_c a_o_told a_o_facts a_o_stack f_o_wind, zo_X0 a_c f_c_top f_c_things a_c_bars a_c_gives a_c_rough f_c_startRung f_c_startThings f_c_startStrength f_c_startWind f_c_slips f_c_lines a_c_code f_c_coded f_c_tiresFrom f_c_tiresTo f_c_mayFrom f_c_mayTo, (a_c_bars, .inl (dA 0, 9, .inl b_c_bars)), (a_c_rough, .inl (dA 0, 9, .inl b_c_rough)), (a_c_code, .inl (dA 0, 900, .inl b_c_code)), (a_o_told, .inl (dA 0, 315, .inl b_o_told)), (a_o_facts, .inl (dA 0, 6, .inl b_o_facts)), (a_o_stack, .inl (dA 0, 64, .inl b_o_stack))] sz) := by
  unfold zf_X2_strengthAbove at hf
  refine Met.ofW (cc := cX2_strengthAbove) (maxL := 8) (ret := (some .int)) (by decide) rfl ?_
  intro p e s m args below meth c s₁ B hml hv
  obtain ⟨rfl, ⟨hsz, hP, hK, hD0⟩, hZ⟩ := hv
  have hx := B.exec
  have hb := B.bytes
  have hr := B.returns
  have ht : ∀ w ∈ zq_T, w.before ([.ref a_o, .int p1] : List Value).toArray s = true := fun w hw => atoms_spec (ws := .code yX2_strengthAbove cX2_strengthAbove 8 (some .int) :: zq_T) B.pre w (List.mem_cons_of_mem _ hw)
  have hown : s.vm.findClass RX2 = some m.cls := findClass_of_methodNamed B.named
  have hlocks := B.notSynchronized
  subst hsz
  have hD := hD0.self (sz := s.heap.size)
  generalize hAe : va_A [zo_X2 a_o a_c a_o_told a_o_facts a_o_stack f_o_wind, zo_X0 a_c f_c_top f_c_things a_c_bars a_c_gives a_c_rough f_c_startRung f_c_startThings f_c_startStrength f_c_startWind f_c_slips f_c_lines a_c_code f_c_coded f_c_tiresFrom f_c_tiresTo f_c_mayFrom f_c_mayTo, (a_c_bars, .inl (dA 0, 9, .inl b_c_bars)), (a_c_rough, .inl (dA 0, 9, .inl b_c_rough)), (a_c_code, .inl (dA 0, 900, .inl b_c_code)), (a_o_told, .inl (dA 0, 315, .inl b_o_told)), (a_o_facts, .inl (dA 0, 6, .inl b_o_facts)), (a_o_stack, .inl (dA 0, 64, .inl b_o_stack))] s.heap.size = A at hD hZ ⊢
  have hA : ∀ q : Nat, s.heap.size ≤ q → A q := fun q h => by rw [← hAe]; exact Or.inr h
  clear hAe hD0
  have hS : va_S A s.heap s.heap [] := va_S.rf
  have hl := lv_entry ([.ref a_o, .int p1]) (n := 8) (Nat.le_of_ble_eq_true rfl)
  rw [lg_entry_eq]
  generalize (lg_sl ([.ref a_o, .int p1]) ++ List.replicate (8 - (lg_sl ([.ref a_o, .int p1])).length) Slot.unset).toArray = ls at hl ⊢
  have hl : lv_has ls 8 [(0, .ref a_o), (1, .int p1)] := hl
  refine lv_iload_n (pc := 0) hx hb dX2_strengthAbove_0 rfl (lv_at hl 1 rfl) ?_
  obtain ⟨v1, hv1, hf⟩ := zc_1 hf
  refine zx_Ni (pc := 1) (wc := []) (wr := [zo_X2 a_o a_c a_o_told a_o_facts a_o_stack f_o_wind, zo_X0 a_c f_c_top f_c_things a_c_bars a_c_gives a_c_rough f_c_startRung f_c_startThings f_c_startStrength f_c_startWind f_c_slips f_c_lines a_c_code f_c_coded f_c_tiresFrom f_c_tiresTo f_c_mayFrom f_c_mayTo, (a_c_bars, .inl (dA 0, 9, .inl b_c_bars)), (a_c_rough, .inl (dA 0, 9, .inl b_c_rough)), (a_c_code, .inl (dA 0, 900, .inl b_c_code)), (a_o_told, .inl (dA 0, 315, .inl b_o_told)), (a_o_facts, .inl (dA 0, 6, .inl b_o_facts)), (a_o_stack, .inl (dA 0, 64, .inl b_o_stack))]) (w1 := []) (As := [.int p1]) (rest := []) ⟨hx, hb, hml, hown, ht⟩ (zt_X10_rungOf l dC dI dA adK adV _ p1 v1 hv1) ⟨va_cnB 1 ht (zq_C zq_59) rfl rfl rfl (zx_n5 hZ) (ht _ zq_58) zk_X10_rungOf.2 ⟨Nat.le_of_ble_eq_true rfl, Nat.le_of_ble_eq_true rfl⟩, ht _ zq_57, trivial⟩ hZ hK hP hD hS hA [] [0, 1, 2, 3, 4, 5, 6, 7] (by decide) (by decide) (by decide) rfl rfl rfl hl.1 (Nat.le_of_ble_eq_true rfl) dX2_strengthAbove_1 ⟨Nat.zero_le _, Nat.zero_le _⟩ rfl (fun H locs hP hD hS => ?_)
  have hP : va_P (dC, dI) zz_cls [zo_X2 a_o a_c a_o_told a_o_facts a_o_stack f_o_wind, zo_X0 a_c f_c_top f_c_things a_c_bars a_c_gives a_c_rough f_c_startRung f_c_startThings f_c_startStrength f_c_startWind f_c_slips f_c_lines a_c_code f_c_coded f_c_tiresFrom f_c_tiresTo f_c_mayFrom f_c_mayTo, (a_c_bars, .inl (dA 0, 9, .inl b_c_bars)), (a_c_rough, .inl (dA 0, 9, .inl b_c_rough)), (a_c_code, .inl (dA 0, 900, .inl b_c_code)), (a_o_told, .inl (dA 0, 315, .inl b_o_told)), (a_o_facts, .inl (dA 0, 6, .inl b_o_facts)), (a_o_stack, .inl (dA 0, 64, .inl b_o_stack))] H := hP
  have hD : va_D A [zo_X2 a_o a_c a_o_told a_o_facts a_o_stack f_o_wind, zo_X0 a_c f_c_top f_c_things a_c_bars a_c_gives a_c_rough f_c_startRung f_c_startThings f_c_startStrength f_c_startWind f_c_slips f_c_lines a_c_code f_c_coded f_c_tiresFrom f_c_tiresTo f_c_mayFrom f_c_mayTo, (a_c_bars, .inl (dA 0, 9, .inl b_c_bars)), (a_c_rough, .inl (dA 0, 9, .inl b_c_rough)), (a_c_code, .inl (dA 0, 900, .inl b_c_code)), (a_o_told, .inl (dA 0, 315, .inl b_o_told)), (a_o_facts, .inl (dA 0, 6, .inl b_o_facts)), (a_o_stack, .inl (dA 0, 64, .inl b_o_stack))] := hD
  refine lv_iconst (v := (1 : Int32)) (pc := 4) hx hb dX2_strengthAbove_4 (by decide) ?_
  refine lv_iadd (pc := 5) hx hb dX2_strengthAbove_5 ?_
  obtain ⟨v2, hv2, hf⟩ := zc_1 hf
  refine zw_top (hv2) ?_
  refine lv_istore_n (lv' := [(2, .int v2), (0, .ref a_o), (1, .int p1)]) (pc := 6) hx hb dX2_strengthAbove_6 rfl hl (by decide) rfl (fun ls hl => ?_)
  refine lv_iload_n (pc := 7) hx hb dX2_strengthAbove_7 rfl (lv_at hl 2 rfl) ?_
  obtain ⟨v3, hv3, hf⟩ := zc_1 hf
  refine zx_Ni (pc := 8) (wc := []) (wr := [zo_X2 a_o a_c a_o_told a_o_facts a_o_stack f_o_wind, zo_X0 a_c f_c_top f_c_things a_c_bars a_c_gives a_c_rough f_c_startRung f_c_startThings f_c_startStrength f_c_startWind f_c_slips f_c_lines a_c_code f_c_coded f_c_tiresFrom f_c_tiresTo f_c_mayFrom f_c_mayTo, (a_c_bars, .inl (dA 0, 9, .inl b_c_bars)), (a_c_rough, .inl (dA 0, 9, .inl b_c_rough)), (a_c_code, .inl (dA 0, 900, .inl b_c_code)), (a_o_told, .inl (dA 0, 315, .inl b_o_told)), (a_o_facts, .inl (dA 0, 6, .inl b_o_facts)), (a_o_stack, .inl (dA 0, 64, .inl b_o_stack))]) (w1 := []) (As := [.int p1]) (rest := []) ⟨hx, hb, hml, hown, ht⟩ (zt_X10_thingsOf l dC dI dA adK adV _ p1 v3 hv3) ⟨va_cnB 1 ht (zq_C zq_61) rfl rfl rfl (zx_n6 hZ) (ht _ zq_58) zk_X10_thingsOf.2 ⟨Nat.le_of_ble_eq_true rfl, Nat.le_of_ble_eq_true rfl⟩, ht _ zq_60, trivial⟩ hZ hK hP hD hS hA [] [0, 1, 2, 3, 4, 5, 6, 7] (by decide) (by decide) (by decide) rfl rfl rfl hl.1 (Nat.le_of_ble_eq_true rfl) dX2_strengthAbove_8 ⟨Nat.zero_le _, Nat.zero_le _⟩ rfl (fun H locs hP hD hS => ?_)
  have hP : va_P (dC, dI) zz_cls [zo_X2 a_o a_c a_o_told a_o_facts a_o_stack f_o_wind, zo_X0 a_c f_c_top f_c_things a_c_bars a_c_gives a_c_rough f_c_startRung f_c_startThings f_c_startStrength f_c_startWind f_c_slips f_c_lines a_c_code f_c_coded f_c_tiresFrom f_c_tiresTo f_c_mayFrom f_c_mayTo, (a_c_bars, .inl (dA 0, 9, .inl b_c_bars)), (a_c_rough, .inl (dA 0, 9, .inl b_c_rough)), (a_c_code, .inl (dA 0, 900, .inl b_c_code)), (a_o_told, .inl (dA 0, 315, .inl b_o_told)), (a_o_facts, .inl (dA 0, 6, .inl b_o_facts)), (a_o_stack, .inl (dA 0, 64, .inl b_o_stack))] H := hP
  have hD : va_D A [zo_X2 a_o a_c a_o_told a_o_facts a_o_stack f_o_wind, zo_X0 a_c f_c_top f_c_things a_c_bars a_c_gives a_c_rough f_c_startRung f_c_startThings f_c_startStrength f_c_startWind f_c_slips f_c_lines a_c_code f_c_coded f_c_tiresFrom f_c_tiresTo f_c_mayFrom f_c_mayTo, (a_c_bars, .inl (dA 0, 9, .inl b_c_bars)), (a_c_rough, .inl (dA 0, 9, .inl b_c_rough)), (a_c_code, .inl (dA 0, 900, .inl b_c_code)), (a_o_told, .inl (dA 0, 315, .inl b_o_told)), (a_o_facts, .inl (dA 0, 6, .inl b_o_facts)), (a_o_stack, .inl (dA 0, 64, .inl b_o_stack))] := hD
  obtain ⟨v4, hv4, hf⟩ := zc_1 hf
  refine zy_Ti (pc := 11) (wc := []) (wr := [zo_X2 a_o a_c a_o_told a_o_facts a_o_stack f_o_wind, zo_X0 a_c f_c_top f_c_things a_c_bars a_c_gives a_c_rough f_c_startRung f_c_startThings f_c_startStrength f_c_startWind f_c_slips f_c_lines a_c_code f_c_coded f_c_tiresFrom f_c_tiresTo f_c_mayFrom f_c_mayTo, (a_c_bars, .inl (dA 0, 9, .inl b_c_bars)), (a_c_rough, .inl (dA 0, 9, .inl b_c_rough)), (a_c_code, .inl (dA 0, 900, .inl b_c_code)), (a_o_told, .inl (dA 0, 315, .inl b_o_told)), (a_o_facts, .inl (dA 0, 6, .inl b_o_facts)), (a_o_stack, .inl (dA 0, 64, .inl b_o_stack))]) (w1 := []) (As := [.int v3]) (rest := []) ⟨hx, hb, hml, hown, ht⟩ (zt_J6_bitCount_0f7a4 l dC dI dA adK adV _ v3 v4 hv4) (va_cwS 1 ht (zq_X zq_97 zq_98 zq_99 zq_100) rfl rfl rfl zk_J6_bitCount_0f7a4.2 ⟨Nat.le_of_ble_eq_true rfl, Nat.le_of_ble_eq_true rfl⟩) hK hP hD hS hA [] [0, 1, 2, 3, 4, 5, 6, 7] (by decide) (by decide) (by decide) rfl rfl rfl hl.1 (Nat.le_of_ble_eq_true rfl) dX2_strengthAbove_11 ⟨Nat.zero_le _, Nat.zero_le _⟩ rfl (fun H locs hP hD hS => ?_)
  have hP : va_P (dC, dI) zz_cls [zo_X2 a_o a_c a_o_told a_o_facts a_o_stack f_o_wind, zo_X0 a_c f_c_top f_c_things a_c_bars a_c_gives a_c_rough f_c_startRung f_c_startThings f_c_startStrength f_c_startWind f_c_slips f_c_lines a_c_code f_c_coded f_c_tiresFrom f_c_tiresTo f_c_mayFrom f_c_mayTo, (a_c_bars, .inl (dA 0, 9, .inl b_c_bars)), (a_c_rough, .inl (dA 0, 9, .inl b_c_rough)), (a_c_code, .inl (dA 0, 900, .inl b_c_code)), (a_o_told, .inl (dA 0, 315, .inl b_o_told)), (a_o_facts, .inl (dA 0, 6, .inl b_o_facts)), (a_o_stack, .inl (dA 0, 64, .inl b_o_stack))] H := hP
  have hD : va_D A [zo_X2 a_o a_c a_o_told a_o_facts a_o_stack f_o_wind, zo_X0 a_c f_c_top f_c_things a_c_bars a_c_gives a_c_rough f_c_startRung f_c_startThings f_c_startStrength f_c_startWind f_c_slips f_c_lines a_c_code f_c_coded f_c_tiresFrom f_c_tiresTo f_c_mayFrom f_c_mayTo, (a_c_bars, .inl (dA 0, 9, .inl b_c_bars)), (a_c_rough, .inl (dA 0, 9, .inl b_c_rough)), (a_c_code, .inl (dA 0, 900, .inl b_c_code)), (a_o_told, .inl (dA 0, 315, .inl b_o_told)), (a_o_facts, .inl (dA 0, 6, .inl b_o_facts)), (a_o_stack, .inl (dA 0, 64, .inl b_o_stack))] := hD
  refine lv_istore_n (lv' := [(3, .int v4), (2, .int v2), (0, .ref a_o), (1, .int p1)]) (pc := 14) hx hb dX2_strengthAbove_14 rfl hl (by decide) rfl (fun ls hl => ?_)
  refine lv_iload_n (pc := 15) hx hb dX2_strengthAbove_15 rfl (lv_at hl 3 rfl) ?_
  obtain ⟨v5, hv5, hf⟩ := zc_1 hf
  refine zx_Ni (pc := 16) (wc := []) (wr := [zo_X2 a_o a_c a_o_told a_o_facts a_o_stack f_o_wind, zo_X0 a_c f_c_top f_c_things a_c_bars a_c_gives a_c_rough f_c_startRung f_c_startThings f_c_startStrength f_c_startWind f_c_slips f_c_lines a_c_code f_c_coded f_c_tiresFrom f_c_tiresTo f_c_mayFrom f_c_mayTo, (a_c_bars, .inl (dA 0, 9, .inl b_c_bars)), (a_c_rough, .inl (dA 0, 9, .inl b_c_rough)), (a_c_code, .inl (dA 0, 900, .inl b_c_code)), (a_o_told, .inl (dA 0, 315, .inl b_o_told)), (a_o_facts, .inl (dA 0, 6, .inl b_o_facts)), (a_o_stack, .inl (dA 0, 64, .inl b_o_stack))]) (w1 := []) (As := [.int p1]) (rest := []) ⟨hx, hb, hml, hown, ht⟩ (zt_X10_strengthOf l dC dI dA adK adV _ p1 v5 hv5) ⟨va_cnB 1 ht (zq_C zq_63) rfl rfl rfl (zx_n7 hZ) (ht _ zq_58) zk_X10_strengthOf.2 ⟨Nat.le_of_ble_eq_true rfl, Nat.le_of_ble_eq_true rfl⟩, ht _ zq_62, trivial⟩ hZ hK hP hD hS hA [] [0, 1, 2, 3, 4, 5, 6, 7] (by decide) (by decide) (by decide) rfl rfl rfl hl.1 (Nat.le_of_ble_eq_true rfl) dX2_strengthAbove_16 ⟨Nat.zero_le _, Nat.zero_le _⟩ rfl (fun H locs hP hD hS => ?_)
  have hP : va_P (dC, dI) zz_cls [zo_X2 a_o a_c a_o_told a_o_facts a_o_stack f_o_wind, zo_X0 a_c f_c_top f_c_things a_c_bars a_c_gives a_c_rough f_c_startRung f_c_startThings f_c_startStrength f_c_startWind f_c_slips f_c_lines a_c_code f_c_coded f_c_tiresFrom f_c_tiresTo f_c_mayFrom f_c_mayTo, (a_c_bars, .inl (dA 0, 9, .inl b_c_bars)), (a_c_rough, .inl (dA 0, 9, .inl b_c_rough)), (a_c_code, .inl (dA 0, 900, .inl b_c_code)), (a_o_told, .inl (dA 0, 315, .inl b_o_told)), (a_o_facts, .inl (dA 0, 6, .inl b_o_facts)), (a_o_stack, .inl (dA 0, 64, .inl b_o_stack))] H := hP
  have hD : va_D A [zo_X2 a_o a_c a_o_told a_o_facts a_o_stack f_o_wind, zo_X0 a_c f_c_top f_c_things a_c_bars a_c_gives a_c_rough f_c_startRung f_c_startThings f_c_startStrength f_c_startWind f_c_slips f_c_lines a_c_code f_c_coded f_c_tiresFrom f_c_tiresTo f_c_mayFrom f_c_mayTo, (a_c_bars, .inl (dA 0, 9, .inl b_c_bars)), (a_c_rough, .inl (dA 0, 9, .inl b_c_rough)), (a_c_code, .inl (dA 0, 900, .inl b_c_code)), (a_o_told, .inl (dA 0, 315, .inl b_o_told)), (a_o_facts, .inl (dA 0, 6, .inl b_o_facts)), (a_o_stack, .inl (dA 0, 64, .inl b_o_stack))] := hD
  refine lv_istore (lv' := [(4, .int v5), (3, .int v4), (2, .int v2), (0, .ref a_o), (1, .int p1)]) (pc := 19) hx hb dX2_strengthAbove_19 hl (by decide) rfl (fun ls hl => ?_)
  refine lv_iload_n (pc := 21) hx hb dX2_strengthAbove_21 rfl (lv_at hl 2 rfl) ?_
  refine lv_aload_n (pc := 22) hx hb dX2_strengthAbove_22 rfl (lv_at hl 3 rfl) ?_
  refine va_get (pc := 23) (D := (dC, dI)) (ci := 3) (v := .ref a_c) (C := RX2) (T := TX2) (N := 5) hx hb ht zq_layX2 hown hK hP 0 rfl rfl 0 (by decide) (ht _ zq_83) (fun _ h9 => h9) rfl dX2_strengthAbove_23 ?_
  refine va_get (pc := 26) (D := (dC, dI)) (ci := 1) (v := .int f_c_top) (C := RX0) (T := TX0) (N := 17) hx hb ht zq_layX0 hown hK hP 1 rfl rfl 0 (by decide) (ht _ zq_84) (fun _ h9 => h9) rfl dX2_strengthAbove_26 ?_
  refine lv_icmp_le (tgt := 34) (pc := 29) hx hb dX2_strengthAbove_29 rfl (fun hc => ?_) (fun hc => ?_)
  · have hf := za_t hf hc
    refine lv_iload_n (pc := 34) hx hb dX2_strengthAbove_34 rfl (lv_at hl 2 rfl) ?_
    refine lv_bipush (v := (7 : Int32)) (pc := 35) hx hb dX2_strengthAbove_35 (by decide) ?_
    refine lv_imul (pc := 37) hx hb dX2_strengthAbove_37 ?_
    refine lv_iload_n (pc := 38) hx hb dX2_strengthAbove_38 rfl (lv_at hl 1 rfl) ?_
    refine lv_iadd (pc := 39) hx hb dX2_strengthAbove_39 ?_
    refine lv_iconst (v := (5 : Int32)) (pc := 40) hx hb dX2_strengthAbove_40 (by decide) ?_
    refine lv_imul (pc := 41) hx hb dX2_strengthAbove_41 ?_
    refine lv_iload (pc := 42) hx hb dX2_strengthAbove_42 (lv_at hl 0 rfl) ?_
    refine lv_iadd (pc := 44) hx hb dX2_strengthAbove_44 ?_
    obtain ⟨v6, hv6, hf⟩ := zc_1 hf
    refine zw_top (hv6) ?_
    refine lv_istore (lv' := [(5, .int v6), (4, .int v5), (3, .int v4), (2, .int v2), (0, .ref a_o), (1, .int p1)]) (pc := 45) hx hb dX2_strengthAbove_45 hl (by decide) rfl (fun ls hl => ?_)
    refine lv_aload_n (pc := 47) hx hb dX2_strengthAbove_47 rfl (lv_at hl 4 rfl) ?_
    refine va_get (pc := 48) (D := (dC, dI)) (ci := 3) (v := .ref a_o_told) (C := RX2) (T := TX2) (N := 5) hx hb ht zq_layX2 hown hK hP 0 rfl rfl 1 (by decide) (ht _ zq_85) (fun _ h9 => h9) rfl dX2_strengthAbove_48 ?_
    refine lv_iload (pc := 51) hx hb dX2_strengthAbove_51 (lv_at hl 0 rfl) ?_
    obtain ⟨v7, hv7, hf⟩ := zc_1 hf
    refine zw_iald (pc := 53) hx hb hK hP 5 0 rfl rfl hv7 dX2_strengthAbove_53 ?_
    refine lv_bipush (v := (-2 : Int32)) (pc := 54) hx hb dX2_strengthAbove_54 (by decide) ?_
    refine lv_icmp_eq (tgt := 67) (pc := 56) hx hb dX2_strengthAbove_56 rfl (fun hc => ?_) (fun hc => ?_)
    · have hf := za_t hf hc
      refine lv_aload_n (pc := 67) hx hb dX2_strengthAbove_67 rfl (lv_at hl 4 rfl) ?_
      refine lv_iload_n (pc := 68) hx hb dX2_strengthAbove_68 rfl (lv_at hl 3 rfl) ?_
      refine lv_iload_n (pc := 69) hx hb dX2_strengthAbove_69 rfl (lv_at hl 2 rfl) ?_
      refine lv_iload (pc := 70) hx hb dX2_strengthAbove_70 (lv_at hl 1 rfl) ?_
      obtain ⟨a8, ha8, hf⟩ := zc_1 hf
      refine zx_Vv (pc := 72) (wc := [zo_X2 a_o a_c a_o_told a_o_facts a_o_stack f_o_wind, zo_X0 a_c f_c_top f_c_things a_c_bars a_c_gives a_c_rough f_c_startRung f_c_startThings f_c_startStrength f_c_startWind f_c_slips f_c_lines a_c_code f_c_coded f_c_tiresFrom f_c_tiresTo f_c_mayFrom f_c_mayTo, (a_c_bars, .inl (dA 0, 9, .inl b_c_bars)), (a_c_rough, .inl (dA 0, 9, .inl b_c_rough)), (a_o_facts, .inl (dA 0, 6, .inl b_o_facts))]) (wr := [(a_c_code, .inl (dA 0, 900, .inl b_c_code)), (a_o_told, .inl (dA 0, 315, .inl b_o_told)), (a_o_stack, .inl (dA 0, 64, .inl b_o_stack))]) (w1 := [zo_X2 a_o a_c a_o_told a_o_facts a_o_stack f_o_wind, zo_X0 a_c f_c_top f_c_things a_c_bars a_c_gives a_c_rough f_c_startRung f_c_startThings f_c_startStrength f_c_startWind f_c_slips f_c_lines a_c_code f_c_coded f_c_tiresFrom f_c_tiresTo f_c_mayFrom f_c_mayTo, (a_c_bars, .inl (dA 0, 9, .inl b_c_bars)), (a_c_rough, .inl (dA 0, 9, .inl b_c_rough)), (a_o_facts, .inl (dA 0, 6, .inl a8))]) (As := [.int v2, .int v4, .int v5]) (rest := []) ⟨hx, hb, hml, hown, ht⟩ (zt_X2_learnFacts l dC dI dA adK adV _ a_o a_c a_o_told a_o_facts a_o_stack a_c_bars a_c_gives a_c_rough a_c_code f_o_wind f_c_top f_c_things f_c_startRung f_c_startThings f_c_startStrength f_c_startWind f_c_slips f_c_lines f_c_coded f_c_tiresFrom f_c_tiresTo f_c_mayFrom f_c_mayTo b_c_bars b_c_rough b_o_facts v2 v4 v5 a8 ha8) (cwV 3 ht (zq_V zq_104 zq_105 zq_106 zq_81 zq_107) rfl rfl rfl zk_X2_learnFacts ⟨Nat.le_of_ble_eq_true rfl, Nat.le_of_ble_eq_true rfl⟩) rfl rfl hZ hK hP hD hS hA [0, 1, 2, 3, 6] [4, 5, 7] (by decide) (by decide) (by decide) rfl rfl rfl hl.1 (Nat.le_of_ble_eq_true rfl) dX2_strengthAbove_72 ⟨Nat.zero_le _, Nat.zero_le _⟩ rfl (fun H locs hP hD hS => ?_)
      have hP : va_P (dC, dI) zz_cls [(a_c_code, .inl (dA 0, 900, .inl b_c_code)), (a_o_told, .inl (dA 0, 315, .inl b_o_told)), (a_o_stack, .inl (dA 0, 64, .inl b_o_stack)), zo_X2 a_o a_c a_o_told a_o_facts a_o_stack f_o_wind, zo_X0 a_c f_c_top f_c_things a_c_bars a_c_gives a_c_rough f_c_startRung f_c_startThings f_c_startStrength f_c_startWind f_c_slips f_c_lines a_c_code f_c_coded f_c_tiresFrom f_c_tiresTo f_c_mayFrom f_c_mayTo, (a_c_bars, .inl (dA 0, 9, .inl b_c_bars)), (a_c_rough, .inl (dA 0, 9, .inl b_c_rough)), (a_o_facts, .inl (dA 0, 6, .inl a8))] H := hP
      have hD : va_D A [(a_c_code, .inl (dA 0, 900, .inl b_c_code)), (a_o_told, .inl (dA 0, 315, .inl b_o_told)), (a_o_stack, .inl (dA 0, 64, .inl b_o_stack)), zo_X2 a_o a_c a_o_told a_o_facts a_o_stack f_o_wind, zo_X0 a_c f_c_top f_c_things a_c_bars a_c_gives a_c_rough f_c_startRung f_c_startThings f_c_startStrength f_c_startWind f_c_slips f_c_lines a_c_code f_c_coded f_c_tiresFrom f_c_tiresTo f_c_mayFrom f_c_mayTo, (a_c_bars, .inl (dA 0, 9, .inl b_c_bars)), (a_c_rough, .inl (dA 0, 9, .inl b_c_rough)), (a_o_facts, .inl (dA 0, 6, .inl a8))] := hD
      refine lv_iload (pc := 75) hx hb dX2_strengthAbove_75 (lv_at hl 1 rfl) ?_
      refine lv_iconst (v := (1 : Int32)) (pc := 77) hx hb dX2_strengthAbove_77 (by decide) ?_
      obtain ⟨v9, hj, hf⟩ := zc_1 hf
      refine zj_join (pcJ := 86) (stk := [.int v9]) (X := fun H locs ls => lv_has ls 8 [(0, .ref a_o), (4, .int v5), (5, .int v6)] ∧ va_P (dC, dI) zz_cls [zo_X2 a_o a_c a_o_told a_o_facts a_o_stack f_o_wind, zo_X0 a_c f_c_top f_c_things a_c_bars a_c_gives a_c_rough f_c_startRung f_c_startThings f_c_startStrength f_c_startWind f_c_slips f_c_lines a_c_code f_c_coded f_c_tiresFrom f_c_tiresTo f_c_mayFrom f_c_mayTo, (a_c_bars, .inl (dA 0, 9, .inl b_c_bars)), (a_c_rough, .inl (dA 0, 9, .inl b_c_rough)), (a_c_code, .inl (dA 0, 900, .inl b_c_code)), (a_o_told, .inl (dA 0, 315, .inl b_o_told)), (a_o_facts, .inl (dA 0, 6, .inl a8)), (a_o_stack, .inl (dA 0, 64, .inl b_o_stack))] H ∧ va_D A [zo_X2 a_o a_c a_o_told a_o_facts a_o_stack f_o_wind, zo_X0 a_c f_c_top f_c_things a_c_bars a_c_gives a_c_rough f_c_startRung f_c_startThings f_c_startStrength f_c_startWind f_c_slips f_c_lines a_c_code f_c_coded f_c_tiresFrom f_c_tiresTo f_c_mayFrom f_c_mayTo, (a_c_bars, .inl (dA 0, 9, .inl b_c_bars)), (a_c_rough, .inl (dA 0, 9, .inl b_c_rough)), (a_c_code, .inl (dA 0, 900, .inl b_c_code)), (a_o_told, .inl (dA 0, 315, .inl b_o_told)), (a_o_facts, .inl (dA 0, 6, .inl a8)), (a_o_stack, .inl (dA 0, 64, .inl b_o_stack))] ∧ va_S A s.heap H locs) (fun H locs ls hX => ?_) (fun J86 => ?_)
      · obtain ⟨hl, hP, hD, hS⟩ := hX
        clear hj
        refine lv_istore (lv' := [(6, .int v9), (0, .ref a_o), (4, .int v5), (5, .int v6)]) (pc := 86) hx hb dX2_strengthAbove_86 hl (by decide) rfl (fun ls hl => ?_)
        refine lv_aload_n (pc := 88) hx hb dX2_strengthAbove_88 rfl (lv_at hl 1 rfl) ?_
        refine va_get (pc := 89) (D := (dC, dI)) (ci := 3) (v := .ref a_c) (C := RX2) (T := TX2) (N := 5) hx hb ht zq_layX2 hown hK hP 0 rfl rfl 0 (by decide) (ht _ zq_83) (fun _ h9 => h9) rfl dX2_strengthAbove_89 ?_
        refine va_get (pc := 92) (D := (dC, dI)) (ci := 1) (v := .int f_c_mayFrom) (C := RX0) (T := TX0) (N := 17) hx hb ht zq_layX0 hown hK hP 1 rfl rfl 15 (by decide) (ht _ zq_86) (fun _ h9 => h9) rfl dX2_strengthAbove_92 ?_
        refine lv_aload_n (pc := 95) hx hb dX2_strengthAbove_95 rfl (lv_at hl 1 rfl) ?_
        refine va_get (pc := 96) (D := (dC, dI)) (ci := 3) (v := .ref a_c) (C := RX2) (T := TX2) (N := 5) hx hb ht zq_layX2 hown hK hP 0 rfl rfl 0 (by decide) (ht _ zq_83) (fun _ h9 => h9) rfl dX2_strengthAbove_96 ?_
        refine va_get (pc := 99) (D := (dC, dI)) (ci := 1) (v := .int f_c_mayTo) (C := RX0) (T := TX0) (N := 17) hx hb ht zq_layX0 hown hK hP 1 rfl rfl 16 (by decide) (ht _ zq_87) (fun _ h9 => h9) rfl dX2_strengthAbove_99 ?_
        obtain ⟨v13, a14, hj, hf⟩ := zc_2 hf
        refine zj_join (pcJ := 133) (stk := []) (X := fun H locs ls => lv_has ls 8 [(0, .ref a_o), (4, .int v5), (5, .int v6), (6, .int v13)] ∧ va_P (dC, dI) zz_cls [zo_X2 a_o a_c a_o_told a_o_facts a_o_stack f_o_wind, zo_X0 a_c f_c_top f_c_things a_c_bars a_c_gives a_c_rough f_c_startRung f_c_startThings f_c_startStrength f_c_startWind f_c_slips f_c_lines a_c_code f_c_coded f_c_tiresFrom f_c_tiresTo f_c_mayFrom f_c_mayTo, (a_c_bars, .inl (dA 0, 9, .inl b_c_bars)), (a_c_rough, .inl (dA 0, 9, .inl b_c_rough)), (a_c_code, .inl (dA 0, 900, .inl b_c_code)), (a_o_told, .inl (dA 0, 315, .inl b_o_told)), (a_o_facts, .inl (dA 0, 6, .inl a8)), (a_o_stack, .inl (dA 0, 64, .inl a14))] H ∧ va_D A [zo_X2 a_o a_c a_o_told a_o_facts a_o_stack f_o_wind, zo_X0 a_c f_c_top f_c_things a_c_bars a_c_gives a_c_rough f_c_startRung f_c_startThings f_c_startStrength f_c_startWind f_c_slips f_c_lines a_c_code f_c_coded f_c_tiresFrom f_c_tiresTo f_c_mayFrom f_c_mayTo, (a_c_bars, .inl (dA 0, 9, .inl b_c_bars)), (a_c_rough, .inl (dA 0, 9, .inl b_c_rough)), (a_c_code, .inl (dA 0, 900, .inl b_c_code)), (a_o_told, .inl (dA 0, 315, .inl b_o_told)), (a_o_facts, .inl (dA 0, 6, .inl a8)), (a_o_stack, .inl (dA 0, 64, .inl a14))] ∧ va_S A s.heap H locs) (fun H locs ls hX => ?_) (fun J133 => ?_)
        · obtain ⟨hl, hP, hD, hS⟩ := hX
          clear hj
          refine lv_iload (pc := 133) hx hb dX2_strengthAbove_133 (lv_at hl 1 rfl) ?_
          refine lv_iconst (v := (1 : Int32)) (pc := 135) hx hb dX2_strengthAbove_135 (by decide) ?_
          refine lv_isub (pc := 136) hx hb dX2_strengthAbove_136 ?_
          obtain ⟨v15, hv15, hf⟩ := zc_1 hf
          refine zw_top (hv15) ?_
          refine lv_istore (lv' := [(7, .int v15), (0, .ref a_o), (4, .int v5), (5, .int v6), (6, .int v13)]) (pc := 137) hx hb dX2_strengthAbove_137 hl (by decide) rfl (fun ls hl => ?_)
          refine lv_iload (pc := 139) hx hb dX2_strengthAbove_139 (lv_at hl 4 rfl) ?_
          obtain ⟨v18, a19, hj, hf⟩ := zc_2 hf
          refine zj_join (pcJ := 181) (stk := []) (X := fun H locs ls => lv_has ls 8 [(0, .ref a_o), (5, .int v6), (6, .int v13), (7, .int v18)] ∧ va_P (dC, dI) zz_cls [zo_X2 a_o a_c a_o_told a_o_facts a_o_stack f_o_wind, zo_X0 a_c f_c_top f_c_things a_c_bars a_c_gives a_c_rough f_c_startRung f_c_startThings f_c_startStrength f_c_startWind f_c_slips f_c_lines a_c_code f_c_coded f_c_tiresFrom f_c_tiresTo f_c_mayFrom f_c_mayTo, (a_c_bars, .inl (dA 0, 9, .inl b_c_bars)), (a_c_rough, .inl (dA 0, 9, .inl b_c_rough)), (a_c_code, .inl (dA 0, 900, .inl b_c_code)), (a_o_told, .inl (dA 0, 315, .inl b_o_told)), (a_o_facts, .inl (dA 0, 6, .inl a8)), (a_o_stack, .inl (dA 0, 64, .inl a19))] H ∧ va_D A [zo_X2 a_o a_c a_o_told a_o_facts a_o_stack f_o_wind, zo_X0 a_c f_c_top f_c_things a_c_bars a_c_gives a_c_rough f_c_startRung f_c_startThings f_c_startStrength f_c_startWind f_c_slips f_c_lines a_c_code f_c_coded f_c_tiresFrom f_c_tiresTo f_c_mayFrom f_c_mayTo, (a_c_bars, .inl (dA 0, 9, .inl b_c_bars)), (a_c_rough, .inl (dA 0, 9, .inl b_c_rough)), (a_c_code, .inl (dA 0, 900, .inl b_c_code)), (a_o_told, .inl (dA 0, 315, .inl b_o_told)), (a_o_facts, .inl (dA 0, 6, .inl a8)), (a_o_stack, .inl (dA 0, 64, .inl a19))] ∧ va_S A s.heap H locs) (fun H locs ls hX => ?_) (fun J181 => ?_)
          · obtain ⟨hl, hP, hD, hS⟩ := hX
            clear hj
            refine lv_aload_n (pc := 181) hx hb dX2_strengthAbove_181 rfl (lv_at hl 0 rfl) ?_
            refine va_get (pc := 182) (D := (dC, dI)) (ci := 3) (v := .ref a_o_told) (C := RX2) (T := TX2) (N := 5) hx hb ht zq_layX2 hown hK hP 0 rfl rfl 1 (by decide) (ht _ zq_85) (fun _ h9 => h9) rfl dX2_strengthAbove_182 ?_
            refine lv_iload (pc := 185) hx hb dX2_strengthAbove_185 (lv_at hl 1 rfl) ?_
            refine lv_iload (pc := 187) hx hb dX2_strengthAbove_187 (lv_at hl 2 rfl) ?_
            obtain ⟨v22, hj, hf⟩ := zc_1 hf
            refine zj_join (pcJ := 206) (stk := [.int v22, .int v6, .ref a_o_told]) (X := fun H locs ls => lv_has ls 8 [(0, .ref a_o), (5, .int v6)] ∧ va_P (dC, dI) zz_cls [zo_X2 a_o a_c a_o_told a_o_facts a_o_stack f_o_wind, zo_X0 a_c f_c_top f_c_things a_c_bars a_c_gives a_c_rough f_c_startRung f_c_startThings f_c_startStrength f_c_startWind f_c_slips f_c_lines a_c_code f_c_coded f_c_tiresFrom f_c_tiresTo f_c_mayFrom f_c_mayTo, (a_c_bars, .inl (dA 0, 9, .inl b_c_bars)), (a_c_rough, .inl (dA 0, 9, .inl b_c_rough)), (a_c_code, .inl (dA 0, 900, .inl b_c_code)), (a_o_told, .inl (dA 0, 315, .inl b_o_told)), (a_o_facts, .inl (dA 0, 6, .inl a8)), (a_o_stack, .inl (dA 0, 64, .inl a19))] H ∧ va_D A [zo_X2 a_o a_c a_o_told a_o_facts a_o_stack f_o_wind, zo_X0 a_c f_c_top f_c_things a_c_bars a_c_gives a_c_rough f_c_startRung f_c_startThings f_c_startStrength f_c_startWind f_c_slips f_c_lines a_c_code f_c_coded f_c_tiresFrom f_c_tiresTo f_c_mayFrom f_c_mayTo, (a_c_bars, .inl (dA 0, 9, .inl b_c_bars)), (a_c_rough, .inl (dA 0, 9, .inl b_c_rough)), (a_c_code, .inl (dA 0, 900, .inl b_c_code)), (a_o_told, .inl (dA 0, 315, .inl b_o_told)), (a_o_facts, .inl (dA 0, 6, .inl a8)), (a_o_stack, .inl (dA 0, 64, .inl a19))] ∧ va_S A s.heap H locs) (fun H locs ls hX => ?_) (fun J206 => ?_)
            · obtain ⟨hl, hP, hD, hS⟩ := hX
              clear hj
              obtain ⟨a23, ha23, hf⟩ := zc_1 hf
              refine zw_iast (pc := 206) hx hb hK hP hD hS 5 0 rfl rfl ha23 dX2_strengthAbove_206 (fun H locs hP hD hS => ?_)
              have hP : va_P (dC, dI) zz_cls [zo_X2 a_o a_c a_o_told a_o_facts a_o_stack f_o_wind, zo_X0 a_c f_c_top f_c_things a_c_bars a_c_gives a_c_rough f_c_startRung f_c_startThings f_c_startStrength f_c_startWind f_c_slips f_c_lines a_c_code f_c_coded f_c_tiresFrom f_c_tiresTo f_c_mayFrom f_c_mayTo, (a_c_bars, .inl (dA 0, 9, .inl b_c_bars)), (a_c_rough, .inl (dA 0, 9, .inl b_c_rough)), (a_c_code, .inl (dA 0, 900, .inl b_c_code)), (a_o_told, .inl (dA 0, 315, .inl a23)), (a_o_facts, .inl (dA 0, 6, .inl a8)), (a_o_stack, .inl (dA 0, 64, .inl a19))] H := hP
              have hD : va_D A [zo_X2 a_o a_c a_o_told a_o_facts a_o_stack f_o_wind, zo_X0 a_c f_c_top f_c_things a_c_bars a_c_gives a_c_rough f_c_startRung f_c_startThings f_c_startStrength f_c_startWind f_c_slips f_c_lines a_c_code f_c_coded f_c_tiresFrom f_c_tiresTo f_c_mayFrom f_c_mayTo, (a_c_bars, .inl (dA 0, 9, .inl b_c_bars)), (a_c_rough, .inl (dA 0, 9, .inl b_c_rough)), (a_c_code, .inl (dA 0, 900, .inl b_c_code)), (a_o_told, .inl (dA 0, 315, .inl a23)), (a_o_facts, .inl (dA 0, 6, .inl a8)), (a_o_stack, .inl (dA 0, 64, .inl a19))] := hD
              refine lv_aload_n (pc := 207) hx hb dX2_strengthAbove_207 rfl (lv_at hl 0 rfl) ?_
              refine va_get (pc := 208) (D := (dC, dI)) (ci := 3) (v := .ref a_o_told) (C := RX2) (T := TX2) (N := 5) hx hb ht zq_layX2 hown hK hP 0 rfl rfl 1 (by decide) (ht _ zq_85) (fun _ h9 => h9) rfl dX2_strengthAbove_208 ?_
              refine lv_iload (pc := 211) hx hb dX2_strengthAbove_211 (lv_at hl 1 rfl) ?_
              obtain ⟨v24, hv24, hf⟩ := zc_1 hf
              refine zw_iald (pc := 213) hx hb hK hP 5 0 rfl rfl hv24 dX2_strengthAbove_213 ?_
              obtain ⟨rfl, rfl, rfl, rfl⟩ := zi_4 hf
              exact W.iret (pc := 214) hx hb hr (fun t ht hW => ⟨⟨_, (), rfl, rfl, zz_Bi (by rw [ht]; exact hP) (va_K.moved hW.alike hK) (hD)⟩, hS.F ht⟩) hS.2.2 dX2_strengthAbove_214
            · clear hf
              have hf := hj
              clear hj
              refine lv_if_eq (tgt := 205) (pc := 189) hx hb dX2_strengthAbove_189 rfl (fun hc => ?_) (fun hc => ?_)
              · have hf := za_t hf hc
                refine lv_iconst (v := (-1 : Int32)) (pc := 205) hx hb dX2_strengthAbove_205 (by decide) ?_
                obtain rfl := Option.some.inj hf
                exact J206 _ _ _ ⟨lv_sub hl [0, 1] rfl, hP, hD, hS⟩
              · have hf := za_f hf hc
                refine lv_iconst (v := (0 : Int32)) (pc := 192) hx hb dX2_strengthAbove_192 (by decide) ?_
                refine lv_iconst (v := (4 : Int32)) (pc := 193) hx hb dX2_strengthAbove_193 (by decide) ?_
                refine lv_iload (pc := 194) hx hb dX2_strengthAbove_194 (lv_at hl 3 rfl) ?_
                refine va_mmin (pc := 196) hx hb (hml.trans hl.1.symm) hown (ht _ zq_90) (ht _ zq_91) (ht _ zq_92) (ht _ zq_93) (Nat.le_of_ble_eq_true rfl) (Nat.le_of_ble_eq_true rfl) (Nat.zero_le _) (Nat.zero_le _) dX2_strengthAbove_196 ?_
                obtain ⟨v20, hv20, hf⟩ := zc_1 hf
                refine zw_top (hv20) ?_
                refine va_mmax (pc := 199) hx hb (hml.trans hl.1.symm) hown (ht _ zq_94) (ht _ zq_95) (ht _ zq_92) (ht _ zq_96) (Nat.le_of_ble_eq_true rfl) (Nat.le_of_ble_eq_true rfl) (Nat.zero_le _) (Nat.zero_le _) dX2_strengthAbove_199 ?_
                obtain ⟨v21, hv21, hf⟩ := zc_1 hf
                refine zw_top (hv21) ?_
                refine lv_goto (tgt := 206) (pc := 202) hx hb dX2_strengthAbove_202 rfl ?_
                obtain rfl := Option.some.inj hf
                exact J206 _ _ _ ⟨lv_sub hl [0, 1] rfl, hP, hD, hS⟩
          · clear hf
            have hf := hj
            clear hj
            refine lv_if_eq (tgt := 181) (pc := 141) hx hb dX2_strengthAbove_141 rfl (fun hc => ?_) (fun hc => ?_)
            · have hf := za_t hf hc
              obtain ⟨rfl, rfl⟩ := zi_2 hf
              exact J181 _ _ _ ⟨lv_sub hl [1, 3, 4, 0] rfl, hP, hD, hS⟩
            · have hf := za_f hf hc
              refine lv_aload_n (pc := 144) hx hb dX2_strengthAbove_144 rfl (lv_at hl 1 rfl) ?_
              refine va_get (pc := 145) (D := (dC, dI)) (ci := 3) (v := .ref a_c) (C := RX2) (T := TX2) (N := 5) hx hb ht zq_layX2 hown hK hP 0 rfl rfl 0 (by decide) (ht _ zq_83) (fun _ h9 => h9) rfl dX2_strengthAbove_145 ?_
              refine va_get (pc := 148) (D := (dC, dI)) (ci := 1) (v := .int f_c_tiresFrom) (C := RX0) (T := TX0) (N := 17) hx hb ht zq_layX0 hown hK hP 1 rfl rfl 13 (by decide) (ht _ zq_88) (fun _ h9 => h9) rfl dX2_strengthAbove_148 ?_
              refine lv_aload_n (pc := 151) hx hb dX2_strengthAbove_151 rfl (lv_at hl 1 rfl) ?_
              refine va_get (pc := 152) (D := (dC, dI)) (ci := 3) (v := .ref a_c) (C := RX2) (T := TX2) (N := 5) hx hb ht zq_layX2 hown hK hP 0 rfl rfl 0 (by decide) (ht _ zq_83) (fun _ h9 => h9) rfl dX2_strengthAbove_152 ?_
              refine va_get (pc := 155) (D := (dC, dI)) (ci := 1) (v := .int f_c_tiresTo) (C := RX0) (T := TX0) (N := 17) hx hb ht zq_layX0 hown hK hP 1 rfl rfl 14 (by decide) (ht _ zq_89) (fun _ h9 => h9) rfl dX2_strengthAbove_155 ?_
              refine lv_icmp_ge (tgt := 181) (pc := 158) hx hb dX2_strengthAbove_158 rfl (fun hc => ?_) (fun hc => ?_)
              · have hf := za_t hf hc
                obtain ⟨rfl, rfl⟩ := zi_2 hf
                exact J181 _ _ _ ⟨lv_sub hl [1, 3, 4, 0] rfl, hP, hD, hS⟩
              · have hf := za_f hf hc
                refine lv_aload_n (pc := 161) hx hb dX2_strengthAbove_161 rfl (lv_at hl 1 rfl) ?_
                refine lv_aload_n (pc := 162) hx hb dX2_strengthAbove_162 rfl (lv_at hl 1 rfl) ?_
                refine va_get (pc := 163) (D := (dC, dI)) (ci := 3) (v := .ref a_c) (C := RX2) (T := TX2) (N := 5) hx hb ht zq_layX2 hown hK hP 0 rfl rfl 0 (by decide) (ht _ zq_83) (fun _ h9 => h9) rfl dX2_strengthAbove_163 ?_
                refine va_get (pc := 166) (D := (dC, dI)) (ci := 1) (v := .int f_c_tiresFrom) (C := RX0) (T := TX0) (N := 17) hx hb ht zq_layX0 hown hK hP 1 rfl rfl 13 (by decide) (ht _ zq_88) (fun _ h9 => h9) rfl dX2_strengthAbove_166 ?_
                refine lv_aload_n (pc := 169) hx hb dX2_strengthAbove_169 rfl (lv_at hl 1 rfl) ?_
                refine va_get (pc := 170) (D := (dC, dI)) (ci := 3) (v := .ref a_c) (C := RX2) (T := TX2) (N := 5) hx hb ht zq_layX2 hown hK hP 0 rfl rfl 0 (by decide) (ht _ zq_83) (fun _ h9 => h9) rfl dX2_strengthAbove_170 ?_
                refine va_get (pc := 173) (D := (dC, dI)) (ci := 1) (v := .int f_c_tiresTo) (C := RX0) (T := TX0) (N := 17) hx hb ht zq_layX0 hown hK hP 1 rfl rfl 14 (by decide) (ht _ zq_89) (fun _ h9 => h9) rfl dX2_strengthAbove_173 ?_
                obtain ⟨v16, a17, hv16, hf⟩ := zc_2 hf
                refine zx_Vi (pc := 176) (wc := [zo_X2 a_o a_c a_o_told a_o_facts a_o_stack f_o_wind, zo_X0 a_c f_c_top f_c_things a_c_bars a_c_gives a_c_rough f_c_startRung f_c_startThings f_c_startStrength f_c_startWind f_c_slips f_c_lines a_c_code f_c_coded f_c_tiresFrom f_c_tiresTo f_c_mayFrom f_c_mayTo, (a_c_code, .inl (dA 0, 900, .inl b_c_code)), (a_o_facts, .inl (dA 0, 6, .inl a8)), (a_o_stack, .inl (dA 0, 64, .inl a14))]) (wr := [(a_c_bars, .inl (dA 0, 9, .inl b_c_bars)), (a_c_rough, .inl (dA 0, 9, .inl b_c_rough)), (a_o_told, .inl (dA 0, 315, .inl b_o_told))]) (w1 := [zo_X2 a_o a_c a_o_told a_o_facts a_o_stack f_o_wind, zo_X0 a_c f_c_top f_c_things a_c_bars a_c_gives a_c_rough f_c_startRung f_c_startThings f_c_startStrength f_c_startWind f_c_slips f_c_lines a_c_code f_c_coded f_c_tiresFrom f_c_tiresTo f_c_mayFrom f_c_mayTo, (a_c_code, .inl (dA 0, 900, .inl b_c_code)), (a_o_facts, .inl (dA 0, 6, .inl a8)), (a_o_stack, .inl (dA 0, 64, .inl a17))]) (As := [.int f_c_tiresFrom, .int f_c_tiresTo]) (rest := []) ⟨hx, hb, hml, hown, ht⟩ (zt_X2_reckon l dC dI dA adK adV _ a_o a_c a_o_told a_o_facts a_o_stack a_c_bars a_c_gives a_c_rough a_c_code n f_o_wind f_c_top f_c_things f_c_startRung f_c_startThings f_c_startStrength f_c_startWind f_c_slips f_c_lines f_c_coded f_c_tiresFrom f_c_tiresTo f_c_mayFrom f_c_mayTo b_c_code a8 a14 f_c_tiresFrom f_c_tiresTo v16 a17 hv16) (cwV 2 ht (zq_V zq_113 zq_114 zq_115 zq_81 zq_116) rfl rfl rfl zk_X2_reckon ⟨Nat.le_of_ble_eq_true rfl, Nat.le_of_ble_eq_true rfl⟩) rfl rfl hZ hK hP hD hS hA [0, 1, 4, 6, 7] [2, 3, 5] (by decide) (by decide) (by decide) rfl rfl rfl hl.1 (Nat.le_of_ble_eq_true rfl) dX2_strengthAbove_176 ⟨Nat.zero_le _, Nat.zero_le _⟩ rfl (fun H locs hP hD hS => ?_)
                have hP : va_P (dC, dI) zz_cls [(a_c_bars, .inl (dA 0, 9, .inl b_c_bars)), (a_c_rough, .inl (dA 0, 9, .inl b_c_rough)), (a_o_told, .inl (dA 0, 315, .inl b_o_told)), zo_X2 a_o a_c a_o_told a_o_facts a_o_stack f_o_wind, zo_X0 a_c f_c_top f_c_things a_c_bars a_c_gives a_c_rough f_c_startRung f_c_startThings f_c_startStrength f_c_startWind f_c_slips f_c_lines a_c_code f_c_coded f_c_tiresFrom f_c_tiresTo f_c_mayFrom f_c_mayTo, (a_c_code, .inl (dA 0, 900, .inl b_c_code)), (a_o_facts, .inl (dA 0, 6, .inl a8)), (a_o_stack, .inl (dA 0, 64, .inl a17))] H := hP
                have hD : va_D A [(a_c_bars, .inl (dA 0, 9, .inl b_c_bars)), (a_c_rough, .inl (dA 0, 9, .inl b_c_rough)), (a_o_told, .inl (dA 0, 315, .inl b_o_told)), zo_X2 a_o a_c a_o_told a_o_facts a_o_stack f_o_wind, zo_X0 a_c f_c_top f_c_things a_c_bars a_c_gives a_c_rough f_c_startRung f_c_startThings f_c_startStrength f_c_startWind f_c_slips f_c_lines a_c_code f_c_coded f_c_tiresFrom f_c_tiresTo f_c_mayFrom f_c_mayTo, (a_c_code, .inl (dA 0, 900, .inl b_c_code)), (a_o_facts, .inl (dA 0, 6, .inl a8)), (a_o_stack, .inl (dA 0, 64, .inl a17))] := hD
                refine lv_istore (lv' := [(7, .int v16), (0, .ref a_o), (4, .int v5), (5, .int v6), (6, .int v13)]) (pc := 179) hx hb dX2_strengthAbove_179 hl (by decide) rfl (fun ls hl => ?_)
                obtain ⟨rfl, rfl⟩ := zi_2 hf
                exact J181 _ _ _ ⟨lv_sub hl [1, 3, 4, 0] rfl, hP.sub [3, 4, 0, 1, 5, 2, 6, 7] rfl, hD.sub [3, 4, 0, 1, 5, 2, 6, 7] (by decide) rfl, hS⟩
        · clear hf
          have hf := hj
          clear hj
          refine lv_icmp_ge (tgt := 133) (pc := 102) hx hb dX2_strengthAbove_102 rfl (fun hc => ?_) (fun hc => ?_)
          · have hf := za_t hf hc
            obtain ⟨rfl, rfl⟩ := zi_2 hf
            exact J133 _ _ _ ⟨lv_sub hl [1, 2, 3, 0] rfl, hP, hD, hS⟩
          · have hf := za_f hf hc
            refine lv_aload_n (pc := 105) hx hb dX2_strengthAbove_105 rfl (lv_at hl 1 rfl) ?_
            refine lv_aload_n (pc := 106) hx hb dX2_strengthAbove_106 rfl (lv_at hl 1 rfl) ?_
            refine va_get (pc := 107) (D := (dC, dI)) (ci := 3) (v := .ref a_c) (C := RX2) (T := TX2) (N := 5) hx hb ht zq_layX2 hown hK hP 0 rfl rfl 0 (by decide) (ht _ zq_83) (fun _ h9 => h9) rfl dX2_strengthAbove_107 ?_
            refine va_get (pc := 110) (D := (dC, dI)) (ci := 1) (v := .int f_c_mayFrom) (C := RX0) (T := TX0) (N := 17) hx hb ht zq_layX0 hown hK hP 1 rfl rfl 15 (by decide) (ht _ zq_86) (fun _ h9 => h9) rfl dX2_strengthAbove_110 ?_
            refine lv_aload_n (pc := 113) hx hb dX2_strengthAbove_113 rfl (lv_at hl 1 rfl) ?_
            refine va_get (pc := 114) (D := (dC, dI)) (ci := 3) (v := .ref a_c) (C := RX2) (T := TX2) (N := 5) hx hb ht zq_layX2 hown hK hP 0 rfl rfl 0 (by decide) (ht _ zq_83) (fun _ h9 => h9) rfl dX2_strengthAbove_114 ?_
            refine va_get (pc := 117) (D := (dC, dI)) (ci := 1) (v := .int f_c_mayTo) (C := RX0) (T := TX0) (N := 17) hx hb ht zq_layX0 hown hK hP 1 rfl rfl 16 (by decide) (ht _ zq_87) (fun _ h9 => h9) rfl dX2_strengthAbove_117 ?_
            obtain ⟨v10, a11, hv10, hf⟩ := zc_2 hf
            refine zx_Vi (pc := 120) (wc := [zo_X2 a_o a_c a_o_told a_o_facts a_o_stack f_o_wind, zo_X0 a_c f_c_top f_c_things a_c_bars a_c_gives a_c_rough f_c_startRung f_c_startThings f_c_startStrength f_c_startWind f_c_slips f_c_lines a_c_code f_c_coded f_c_tiresFrom f_c_tiresTo f_c_mayFrom f_c_mayTo, (a_c_code, .inl (dA 0, 900, .inl b_c_code)), (a_o_facts, .inl (dA 0, 6, .inl a8)), (a_o_stack, .inl (dA 0, 64, .inl b_o_stack))]) (wr := [(a_c_bars, .inl (dA 0, 9, .inl b_c_bars)), (a_c_rough, .inl (dA 0, 9, .inl b_c_rough)), (a_o_told, .inl (dA 0, 315, .inl b_o_told))]) (w1 := [zo_X2 a_o a_c a_o_told a_o_facts a_o_stack f_o_wind, zo_X0 a_c f_c_top f_c_things a_c_bars a_c_gives a_c_rough f_c_startRung f_c_startThings f_c_startStrength f_c_startWind f_c_slips f_c_lines a_c_code f_c_coded f_c_tiresFrom f_c_tiresTo f_c_mayFrom f_c_mayTo, (a_c_code, .inl (dA 0, 900, .inl b_c_code)), (a_o_facts, .inl (dA 0, 6, .inl a8)), (a_o_stack, .inl (dA 0, 64, .inl a11))]) (As := [.int f_c_mayFrom, .int f_c_mayTo]) (rest := []) ⟨hx, hb, hml, hown, ht⟩ (zt_X2_reckon l dC dI dA adK adV _ a_o a_c a_o_told a_o_facts a_o_stack a_c_bars a_c_gives a_c_rough a_c_code n f_o_wind f_c_top f_c_things f_c_startRung f_c_startThings f_c_startStrength f_c_startWind f_c_slips f_c_lines f_c_coded f_c_tiresFrom f_c_tiresTo f_c_mayFrom f_c_mayTo b_c_code a8 b_o_stack f_c_mayFrom f_c_mayTo v10 a11 hv10) (cwV 2 ht (zq_V zq_113 zq_114 zq_115 zq_81 zq_116) rfl rfl rfl zk_X2_reckon ⟨Nat.le_of_ble_eq_true rfl, Nat.le_of_ble_eq_true rfl⟩) rfl rfl hZ hK hP hD hS hA [0, 1, 4, 6, 7] [2, 3, 5] (by decide) (by decide) (by decide) rfl rfl rfl hl.1 (Nat.le_of_ble_eq_true rfl) dX2_strengthAbove_120 ⟨Nat.zero_le _, Nat.zero_le _⟩ rfl (fun H locs hP hD hS => ?_)
            have hP : va_P (dC, dI) zz_cls [(a_c_bars, .inl (dA 0, 9, .inl b_c_bars)), (a_c_rough, .inl (dA 0, 9, .inl b_c_rough)), (a_o_told, .inl (dA 0, 315, .inl b_o_told)), zo_X2 a_o a_c a_o_told a_o_facts a_o_stack f_o_wind, zo_X0 a_c f_c_top f_c_things a_c_bars a_c_gives a_c_rough f_c_startRung f_c_startThings f_c_startStrength f_c_startWind f_c_slips f_c_lines a_c_code f_c_coded f_c_tiresFrom f_c_tiresTo f_c_mayFrom f_c_mayTo, (a_c_code, .inl (dA 0, 900, .inl b_c_code)), (a_o_facts, .inl (dA 0, 6, .inl a8)), (a_o_stack, .inl (dA 0, 64, .inl a11))] H := hP
            have hD : va_D A [(a_c_bars, .inl (dA 0, 9, .inl b_c_bars)), (a_c_rough, .inl (dA 0, 9, .inl b_c_rough)), (a_o_told, .inl (dA 0, 315, .inl b_o_told)), zo_X2 a_o a_c a_o_told a_o_facts a_o_stack f_o_wind, zo_X0 a_c f_c_top f_c_things a_c_bars a_c_gives a_c_rough f_c_startRung f_c_startThings f_c_startStrength f_c_startWind f_c_slips f_c_lines a_c_code f_c_coded f_c_tiresFrom f_c_tiresTo f_c_mayFrom f_c_mayTo, (a_c_code, .inl (dA 0, 900, .inl b_c_code)), (a_o_facts, .inl (dA 0, 6, .inl a8)), (a_o_stack, .inl (dA 0, 64, .inl a11))] := hD
            obtain ⟨v12, hj, hf⟩ := zc_1 hf
            refine zj_join (pcJ := 131) (stk := [.int v12]) (X := fun H locs ls => lv_has ls 8 [(0, .ref a_o), (4, .int v5), (5, .int v6)] ∧ va_P (dC, dI) zz_cls [zo_X2 a_o a_c a_o_told a_o_facts a_o_stack f_o_wind, zo_X0 a_c f_c_top f_c_things a_c_bars a_c_gives a_c_rough f_c_startRung f_c_startThings f_c_startStrength f_c_startWind f_c_slips f_c_lines a_c_code f_c_coded f_c_tiresFrom f_c_tiresTo f_c_mayFrom f_c_mayTo, (a_c_bars, .inl (dA 0, 9, .inl b_c_bars)), (a_c_rough, .inl (dA 0, 9, .inl b_c_rough)), (a_c_code, .inl (dA 0, 900, .inl b_c_code)), (a_o_told, .inl (dA 0, 315, .inl b_o_told)), (a_o_facts, .inl (dA 0, 6, .inl a8)), (a_o_stack, .inl (dA 0, 64, .inl a11))] H ∧ va_D A [zo_X2 a_o a_c a_o_told a_o_facts a_o_stack f_o_wind, zo_X0 a_c f_c_top f_c_things a_c_bars a_c_gives a_c_rough f_c_startRung f_c_startThings f_c_startStrength f_c_startWind f_c_slips f_c_lines a_c_code f_c_coded f_c_tiresFrom f_c_tiresTo f_c_mayFrom f_c_mayTo, (a_c_bars, .inl (dA 0, 9, .inl b_c_bars)), (a_c_rough, .inl (dA 0, 9, .inl b_c_rough)), (a_c_code, .inl (dA 0, 900, .inl b_c_code)), (a_o_told, .inl (dA 0, 315, .inl b_o_told)), (a_o_facts, .inl (dA 0, 6, .inl a8)), (a_o_stack, .inl (dA 0, 64, .inl a11))] ∧ va_S A s.heap H locs) (fun H locs ls hX => ?_) (fun J131 => ?_)
            · obtain ⟨hl, hP, hD, hS⟩ := hX
              clear hj
              refine lv_istore (lv' := [(6, .int v12), (0, .ref a_o), (4, .int v5), (5, .int v6)]) (pc := 131) hx hb dX2_strengthAbove_131 hl (by decide) rfl (fun ls hl => ?_)
              obtain ⟨rfl, rfl⟩ := zi_2 hf
              exact J133 _ _ _ ⟨lv_sub hl [1, 2, 3, 0] rfl, hP, hD, hS⟩
            · clear hf
              have hf := hj
              clear hj
              refine lv_if_eq (tgt := 130) (pc := 123) hx hb dX2_strengthAbove_123 rfl (fun hc => ?_) (fun hc => ?_)
              · have hf := za_t hf hc
                refine lv_iconst (v := (0 : Int32)) (pc := 130) hx hb dX2_strengthAbove_130 (by decide) ?_
                obtain rfl := Option.some.inj hf
                exact J131 _ _ _ ⟨lv_sub hl [1, 2, 3] rfl, hP.sub [3, 4, 0, 1, 5, 2, 6, 7] rfl, hD.sub [3, 4, 0, 1, 5, 2, 6, 7] (by decide) rfl, hS⟩
              · have hf := za_f hf hc
                refine lv_iconst (v := (1 : Int32)) (pc := 126) hx hb dX2_strengthAbove_126 (by decide) ?_
                refine lv_goto (tgt := 131) (pc := 127) hx hb dX2_strengthAbove_127 rfl ?_
                obtain rfl := Option.some.inj hf
                exact J131 _ _ _ ⟨lv_sub hl [1, 2, 3] rfl, hP.sub [3, 4, 0, 1, 5, 2, 6, 7] rfl, hD.sub [3, 4, 0, 1, 5, 2, 6, 7] (by decide) rfl, hS⟩
      · clear hf
        have hf := hj
        clear hj
        refine lv_icmp_lt (tgt := 85) (pc := 78) hx hb dX2_strengthAbove_78 rfl (fun hc => ?_) (fun hc => ?_)
        · have hf := za_t hf hc
          refine lv_iconst (v := (0 : Int32)) (pc := 85) hx hb dX2_strengthAbove_85 (by decide) ?_
          obtain rfl := Option.some.inj hf
          exact J86 _ _ _ ⟨lv_sub hl [4, 1, 0] rfl, hP.sub [3, 4, 5, 6, 0, 1, 7, 2] rfl, hD.sub [3, 4, 5, 6, 0, 1, 7, 2] (by decide) rfl, hS⟩
        · have hf := za_f hf hc
          refine lv_iconst (v := (1 : Int32)) (pc := 81) hx hb dX2_strengthAbove_81 (by decide) ?_
          refine lv_goto (tgt := 86) (pc := 82) hx hb dX2_strengthAbove_82 rfl ?_
          obtain rfl := Option.some.inj hf
          exact J86 _ _ _ ⟨lv_sub hl [4, 1, 0] rfl, hP.sub [3, 4, 5, 6, 0, 1, 7, 2] rfl, hD.sub [3, 4, 5, 6, 0, 1, 7, 2] (by decide) rfl, hS⟩
    · have hf := za_f hf hc
      refine lv_aload_n (pc := 59) hx hb dX2_strengthAbove_59 rfl (lv_at hl 4 rfl) ?_
      refine va_get (pc := 60) (D := (dC, dI)) (ci := 3) (v := .ref a_o_told) (C := RX2) (T := TX2) (N := 5) hx hb ht zq_layX2 hown hK hP 0 rfl rfl 1 (by decide) (ht _ zq_85) (fun _ h9 => h9) rfl dX2_strengthAbove_60 ?_
      refine lv_iload (pc := 63) hx hb dX2_strengthAbove_63 (lv_at hl 0 rfl) ?_
      obtain ⟨v25, hv25, hf⟩ := zc_1 hf
      refine zw_iald (pc := 65) hx hb hK hP 5 0 rfl rfl hv25 dX2_strengthAbove_65 ?_
      obtain ⟨rfl, rfl, rfl, rfl⟩ := zi_4 hf
      exact W.iret (pc := 66) hx hb hr (fun t ht hW => ⟨⟨_, (), rfl, rfl, zz_Bi (by rw [ht]; exact hP) (va_K.moved hW.alike hK) (hD)⟩, hS.F ht⟩) hS.2.2 dX2_strengthAbove_66
  · have hf := za_f hf hc
    refine lv_iconst (v := (-1 : Int32)) (pc := 32) hx hb dX2_strengthAbove_32 (by decide) ?_
    obtain ⟨rfl, rfl, rfl, rfl⟩ := zi_4 hf
    exact W.iret (pc := 33) hx hb hr (fun t ht hW => ⟨⟨_, (), rfl, rfl, zz_Bi (by rw [ht]; exact hP) (va_K.moved hW.alike hK) (hD)⟩, hS.F ht⟩) hS.2.2 dX2_strengthAbove_33
