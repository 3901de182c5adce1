def zf_X1_isRicher (p0 : Int32) (p1 : Int32) : Option (Int32) :=
  if p1 = (-1 : Int32) then
    some (1 : Int32)
  else
    zd_1 (zf_J6_bitCount_0f7a4 p0) (fun v1 =>
    zd_1 (zf_J6_bitCount_0f7a4 p1) (fun v2 =>
    zd_1 (some ((v1 - v2))) (fun v3 =>
    if 0 < v3 then
      some (1 : Int32)
    else
      if v3 = 0 then
        if p1 ≤ p0 then
          some (0 : Int32)
        else
          some (1 : Int32)
      else
        some (0 : Int32))))
theorem zk_X1_isRicher : yX1_isRicher.cls = RX1 ∧ yX1_isRicher.cls ≠ "java/lang/invoke/MethodHandle" ∧ yX1_isRicher.cls ≠ "java/lang/invoke/VarHandle" ∧ (parseMethodDescriptor yX1_isRicher.desc).map (fun d => d.parameters.length) = some 2 := by decide +kernel
set_option maxHeartbeats 4000000 in
set_option maxRecDepth 100000 in
theorem zt_X1_isRicher (l : Launch) (dC : Nat → ClassId) (dI : Nat → Nat → Nat) (dA : Nat → ClassId) (adK adV : Nat → Nat) (sz : Nat) (p0 : Int32) (p1 : Int32) (r0 : Int32) (hf : zf_X1_isRicher p0 p1 = some r0) : Met l yX1_isRicher (.code yX1_isRicher cX1_isRicher 3 (some .boolean) :: zq_T) ({ frames := 1, cells := 0, slots := 0, locals := 20 }) (va_Pc [.int p0, .int p1] (zx_M dC dI dA adK adV [] sz)) (va_Qi (fun (r : Int32) (_ : Unit) => r = r0) (fun _ t => zz_B dC dI dA (va_A [] sz) [] t) (va_A [] sz)) 0 0 (va_A [] sz) := by
  unfold zf_X1_isRicher at hf
  refine Met.ofW (cc := cX1_isRicher) (maxL := 3) (ret := (some .boolean)) (by decide) rfl ?_
  intro p e s m args below meth c s₁ B hml hv
  obtain ⟨rfl, ⟨hsz, hP, hK, hD0⟩, hZ⟩ := hv
  have hx := B.exec
  have hb := B.bytes
  have hr := B.returns
  have ht : ∀ w ∈ zq_T, w.before ([.int p0, .int p1] : List Value).toArray s = true := fun w hw => atoms_spec (ws := .code yX1_isRicher cX1_isRicher 3 (some .boolean) :: zq_T) B.pre w (List.mem_cons_of_mem _ hw)
  have hown : s.vm.findClass RX1 = some m.cls := findClass_of_methodNamed B.named
  have hlocks := B.notSynchronized
  subst hsz
  have hD := hD0.self (sz := s.heap.size)
  generalize hAe : va_A [] s.heap.size = A at hD hZ ⊢
  have hA : ∀ q : Nat, s.heap.size ≤ q → A q := fun q h => by rw [← hAe]; exact Or.inr h
  clear hAe hD0
  have hS : va_S A s.heap s.heap [] := va_S.rf
  have hl := lv_entry ([.int p0, .int p1]) (n := 3) (Nat.le_of_ble_eq_true rfl)
  rw [lg_entry_eq]
  generalize (lg_sl ([.int p0, .int p1]) ++ List.replicate (3 - (lg_sl ([.int p0, .int p1])).length) Slot.unset).toArray = ls at hl ⊢
  have hl : lv_has ls 3 [(0, .int p0), (1, .int p1)] := hl
  refine lv_iload_n (pc := 0) hx hb dX1_isRicher_0 rfl (lv_at hl 1 rfl) ?_
  refine lv_iconst (v := (-1 : Int32)) (pc := 1) hx hb dX1_isRicher_1 (by decide) ?_
  refine lv_icmp_ne (tgt := 7) (pc := 2) hx hb dX1_isRicher_2 rfl (fun hc => ?_) (fun hc => ?_)
  · have hf := za_f hf hc
    refine lv_iload_n (pc := 7) hx hb dX1_isRicher_7 rfl (lv_at hl 0 rfl) ?_
    obtain ⟨v1, hv1, hf⟩ := zc_1 hf
    refine zy_Ti (pc := 8) (wc := []) (wr := []) (w1 := []) (As := [.int p0]) (rest := []) ⟨hx, hb, hml, hown, ht⟩ (zt_J6_bitCount_0f7a4 l dC dI dA adK adV _ p0 v1 hv1) (va_cwS 1 ht (zq_X zq_155 zq_98 zq_99 zq_100) rfl rfl rfl zk_J6_bitCount_0f7a4.2 ⟨Nat.le_of_ble_eq_true rfl, Nat.le_of_ble_eq_true rfl⟩) hK hP hD hS hA [] [] (by decide) (by decide) (by decide) rfl rfl rfl hl.1 (Nat.le_of_ble_eq_true rfl) dX1_isRicher_8 ⟨Nat.zero_le _, Nat.zero_le _⟩ rfl (fun H locs hP hD hS => ?_)
    have hP : va_P (dC, dI) zz_cls [] H := hP
    have hD : va_D A [] := hD
    refine lv_iload_n (pc := 11) hx hb dX1_isRicher_11 rfl (lv_at hl 1 rfl) ?_
    obtain ⟨v2, hv2, hf⟩ := zc_1 hf
    refine zy_Ti (pc := 12) (wc := []) (wr := []) (w1 := []) (As := [.int p1]) (rest := [.int v1]) ⟨hx, hb, hml, hown, ht⟩ (zt_J6_bitCount_0f7a4 l dC dI dA adK adV _ p1 v2 hv2) (va_cwS 1 ht (zq_X zq_155 zq_98 zq_99 zq_100) rfl rfl rfl zk_J6_bitCount_0f7a4.2 ⟨Nat.le_of_ble_eq_true rfl, Nat.le_of_ble_eq_true rfl⟩) hK hP hD hS hA [] [] (by decide) (by decide) (by decide) rfl rfl rfl hl.1 (Nat.le_of_ble_eq_true rfl) dX1_isRicher_12 ⟨Nat.zero_le _, Nat.zero_le _⟩ rfl (fun H locs hP hD hS => ?_)
    have hP : va_P (dC, dI) zz_cls [] H := hP
    have hD : va_D A [] := hD
    refine lv_isub (pc := 15) hx hb dX1_isRicher_15 ?_
    obtain ⟨v3, hv3, hf⟩ := zc_1 hf
    refine zw_top (hv3) ?_
    refine lv_istore_n (lv' := [(2, .int v3), (0, .int p0), (1, .int p1)]) (pc := 16) hx hb dX1_isRicher_16 rfl hl (by decide) rfl (fun ls hl => ?_)
    refine lv_iload_n (pc := 17) hx hb dX1_isRicher_17 rfl (lv_at hl 0 rfl) ?_
    refine lv_if_gt (tgt := 30) (pc := 18) hx hb dX1_isRicher_18 rfl (fun hc => ?_) (fun hc => ?_)
    · have hf := za_t hf hc
      refine lv_iconst (v := (1 : Int32)) (pc := 30) hx hb dX1_isRicher_30 (by decide) ?_
      refine lv_goto (tgt := 35) (pc := 31) hx hb dX1_isRicher_31 rfl ?_
      obtain rfl := Option.some.inj hf
      exact W.zret (pc := 35) hx hb hr rfl (fun t ht hW => ⟨⟨_, (), rfl, rfl, zz_Bi (by rw [ht]; exact hP) (va_K.moved hW.alike hK) (hD)⟩, hS.F ht⟩) hS.2.2 dX1_isRicher_35
    · have hf := za_f hf hc
      refine lv_iload_n (pc := 21) hx hb dX1_isRicher_21 rfl (lv_at hl 0 rfl) ?_
      refine lv_if_ne (tgt := 34) (pc := 22) hx hb dX1_isRicher_22 rfl (fun hc => ?_) (fun hc => ?_)
      · have hf := za_f hf hc
        refine lv_iconst (v := (0 : Int32)) (pc := 34) hx hb dX1_isRicher_34 (by decide) ?_
        obtain rfl := Option.some.inj hf
        exact W.zret (pc := 35) hx hb hr rfl (fun t ht hW => ⟨⟨_, (), rfl, rfl, zz_Bi (by rw [ht]; exact hP) (va_K.moved hW.alike hK) (hD)⟩, hS.F ht⟩) hS.2.2 dX1_isRicher_35
      · have hf := za_t hf hc
        refine lv_iload_n (pc := 25) hx hb dX1_isRicher_25 rfl (lv_at hl 1 rfl) ?_
        refine lv_iload_n (pc := 26) hx hb dX1_isRicher_26 rfl (lv_at hl 2 rfl) ?_
        refine lv_icmp_ge (tgt := 34) (pc := 27) hx hb dX1_isRicher_27 rfl (fun hc => ?_) (fun hc => ?_)
        · have hf := za_t hf hc
          refine lv_iconst (v := (0 : Int32)) (pc := 34) hx hb dX1_isRicher_34 (by decide) ?_
          obtain rfl := Option.some.inj hf
          exact W.zret (pc := 35) hx hb hr rfl (fun t ht hW => ⟨⟨_, (), rfl, rfl, zz_Bi (by rw [ht]; exact hP) (va_K.moved hW.alike hK) (hD)⟩, hS.F ht⟩) hS.2.2 dX1_isRicher_35
        · have hf := za_f hf hc
          refine lv_iconst (v := (1 : Int32)) (pc := 30) hx hb dX1_isRicher_30 (by decide) ?_
          refine lv_goto (tgt := 35) (pc := 31) hx hb dX1_isRicher_31 rfl ?_
          obtain rfl := Option.some.inj hf
          exact W.zret (pc := 35) hx hb hr rfl (fun t ht hW => ⟨⟨_, (), rfl, rfl, zz_Bi (by rw [ht]; exact hP) (va_K.moved hW.alike hK) (hD)⟩, hS.F ht⟩) hS.2.2 dX1_isRicher_35
  · have hf := za_t hf hc
    refine lv_iconst (v := (1 : Int32)) (pc := 5) hx hb dX1_isRicher_5 (by decide) ?_
    obtain rfl := Option.some.inj hf
    exact W.zret (pc := 6) hx hb hr rfl (fun t ht hW => ⟨⟨_, (), rfl, rfl, zz_Bi (by rw [ht]; exact hP) (va_K.moved hW.alike hK) (hD)⟩, hS.F ht⟩) hS.2.2 dX1_isRicher_6

def zb_X1_richestSet_4 (f_o_size : Int32) (b_o_order : (Nat → Int32)) (p1 : Int32) (v1 : Int32) (v2 : Int32) : Option (Nat × Int32 × Int32) :=
  if f_o_size ≤ v2 then
    some (1, v1, v2)
  else
    zd_1 (za_ld b_o_order 2880 v2) (fun v3 =>
    zd_1 (zf_X10_rungOf v3) (fun v4 =>
    zd_1 (
      if v4 = p1 then
        zd_1 (za_ld b_o_order 2880 v2) (fun v5 =>
        zd_1 (zf_X10_thingsOf v5) (fun v6 =>
        zd_1 (zf_X1_isRicher v6 v1) (fun v7 =>
        if v7 = 0 then
          some v1
        else
          zd_1 (za_ld b_o_order 2880 v2) (fun v8 =>
          zd_1 (zf_X10_thingsOf v8) (fun v9 =>
          some v9)))))
      else
        some v1) (fun v10 =>
    zd_1 (some (v2 + (1 : Int32))) (fun v11 =>
    some (0, v10, v11)))))
def zf_X1_richestSet (n : Nat) (f_o_size : Int32) (b_o_order : (Nat → Int32)) (p1 : Int32) : Option (Int32) :=
  zd_3 (za_it (fun v => zb_X1_richestSet_4 f_o_size b_o_order p1 v.1 v.2) n ((-1 : Int32), (0 : Int32))) (fun g14 v12 v13 =>
  some v12)
theorem zk_X1_richestSet : yX1_richestSet.cls = RX1 ∧ yX1_richestSet.cls ≠ "java/lang/invoke/MethodHandle" ∧ yX1_richestSet.cls ≠ "java/lang/invoke/VarHandle" ∧ (parseMethodDescriptor yX1_richestSet.desc).map (fun d => d.parameters.length) = some 1 := by decide +kernel
set_option maxHeartbeats 4000000 in
set_option maxRecDepth 100000 in
theorem zt_X1_richestSet (l : Launch) (dC : Nat → ClassId) (dI : Nat → Nat → Nat) (dA : Nat → ClassId) (adK adV : Nat → Nat) (sz : Nat) (a_o : Nat) (a_m : Nat) (a_o_order : Nat) (a_o_depth : Nat) (a_o_from : Nat) (n : Nat) (f_o_size : Int32) (f_o_known : Int32) (b_o_order : (Nat → Int32)) (p1 : Int32) (r0 : Int32) (hf : zf_X1_richestSet n f_o_size b_o_order p1 = some r0) : Met l yX1_richestSet (.code yX1_richestSet cX1_richestSet 4 (some .int) :: zq_T) ({ frames := 2, cells := 0, slots := 0, locals := 42 }) (va_Pc [.ref a_o, .int p1] (zx_M dC dI dA adK adV [zo_X1 a_o a_m a_o_order a_o_depth a_o_from f_o_size f_o_known, (a_o_order, .inl (dA 0, 2880, .inl b_o_order))] sz)) (va_Qi (fun (r : Int32) (_ : Unit) => r = r0) (fun _ t => zz_B dC dI dA (va_A [zo_X1 a_o a_m a_o_order a_o_depth a_o_from f_o_size f_o_known, (a_o_order, .inl (dA 0, 2880, .inl b_o_order))] sz) [zo_X1 a_o a_m a_o_order a_o_depth a_o_from f_o_size f_o_known, (a_o_order, .inl (dA 0, 2880, .inl b_o_order))] t) (va_A [zo_X1 a_o a_m a_o_order a_o_depth a_o_from f_o_size f_o_known, (a_o_order, .inl (dA 0, 2880, .inl b_o_order))] sz)) 0 0 (va_A [zo_X1 a_o a_m a_o_order a_o_depth a_o_from f_o_size f_o_known, (a_o_order, .inl (dA 0, 2880, .inl b_o_order))] sz) := by
  unfold zf_X1_richestSet at hf
  refine Met.ofW (cc := cX1_richestSet) (maxL := 4) (ret := (some .int)) (by decide) rfl ?_
  intro p e s m args below meth c s₁ B hml hv
  obtain ⟨rfl, ⟨hsz, hP, hK, hD0⟩, hZ⟩ := hv
  have hx := B.exec
  have hb := B.bytes
  have hr := B.returns
  have ht : ∀ w ∈ zq_T, w.before ([.ref a_o, .int p1] : List Value).toArray s = true := fun w hw => atoms_spec (ws := .code yX1_richestSet cX1_richestSet 4 (some .int) :: zq_T) B.pre w (List.mem_cons_of_mem _ hw)
  have hown : s.vm.findClass RX1 = some m.cls := findClass_of_methodNamed B.named
  have hlocks := B.notSynchronized
  subst hsz
  have hD := hD0.self (sz := s.heap.size)
  generalize hAe : va_A [zo_X1 a_o a_m a_o_order a_o_depth a_o_from f_o_size f_o_known, (a_o_order, .inl (dA 0, 2880, .inl b_o_order))] s.heap.size = A at hD hZ ⊢
  have hA : ∀ q : Nat, s.heap.size ≤ q → A q := fun q h => by rw [← hAe]; exact Or.inr h
  clear hAe hD0
  have hS : va_S A s.heap s.heap [] := va_S.rf
  have hl := lv_entry ([.ref a_o, .int p1]) (n := 4) (Nat.le_of_ble_eq_true rfl)
  rw [lg_entry_eq]
  generalize (lg_sl ([.ref a_o, .int p1]) ++ List.replicate (4 - (lg_sl ([.ref a_o, .int p1])).length) Slot.unset).toArray = ls at hl ⊢
  have hl : lv_has ls 4 [(0, .ref a_o), (1, .int p1)] := hl
  refine lv_iconst (v := (-1 : Int32)) (pc := 0) hx hb dX1_richestSet_0 (by decide) ?_
  refine lv_istore_n (lv' := [(2, .int (-1 : Int32)), (0, .ref a_o), (1, .int p1)]) (pc := 1) hx hb dX1_richestSet_1 rfl hl (by decide) rfl (fun ls hl => ?_)
  refine lv_iconst (v := (0 : Int32)) (pc := 2) hx hb dX1_richestSet_2 (by decide) ?_
  refine lv_istore_n (lv' := [(3, .int (0 : Int32)), (2, .int (-1 : Int32)), (0, .ref a_o), (1, .int p1)]) (pc := 3) hx hb dX1_richestSet_3 rfl hl (by decide) rfl (fun ls hl => ?_)
  obtain ⟨g14, v12, v13, hj, hf⟩ := zc_3 hf
  refine zj_join (pcJ := 57) (stk := []) (X := fun H locs ls => lv_has ls 4 [(2, .int v12)] ∧ va_P (dC, dI) zz_cls [zo_X1 a_o a_m a_o_order a_o_depth a_o_from f_o_size f_o_known, (a_o_order, .inl (dA 0, 2880, .inl b_o_order))] H ∧ va_D A [zo_X1 a_o a_m a_o_order a_o_depth a_o_from f_o_size f_o_known, (a_o_order, .inl (dA 0, 2880, .inl b_o_order))] ∧ va_S A s.heap H locs) (fun H locs ls hX => ?_) (fun E57 => ?_)
  · obtain ⟨hl, hP, hD, hS⟩ := hX
    clear hj
    refine lv_iload_n (pc := 57) hx hb dX1_richestSet_57 rfl (lv_at hl 0 rfl) ?_
    obtain rfl := Option.some.inj hf
    exact W.iret (pc := 58) hx hb hr (fun t ht hW => ⟨⟨_, (), rfl, rfl, zz_Bi (by rw [ht]; exact hP) (va_K.moved hW.alike hK) (hD)⟩, hS.F ht⟩) hS.2.2 dX1_richestSet_58
  clear hf
  refine zw_loop (pcH := 4) (X := fun v H locs ls => lv_has ls 4 [(0, .ref a_o), (1, .int p1), (2, .int v.1), (3, .int v.2)] ∧ va_P (dC, dI) zz_cls [zo_X1 a_o a_m a_o_order a_o_depth a_o_from f_o_size f_o_known, (a_o_order, .inl (dA 0, 2880, .inl b_o_order))] H ∧ va_D A [zo_X1 a_o a_m a_o_order a_o_depth a_o_from f_o_size f_o_known, (a_o_order, .inl (dA 0, 2880, .inl b_o_order))] ∧ va_S A s.heap H locs) hj (fun v w hf ih ex H locs ls hX => ?_) _ _ _ ⟨lv_sub hl [2, 3, 1, 0] rfl, hP, hD, hS⟩
  clear hj
  obtain ⟨v1, v2⟩ := v
  obtain ⟨hl, hP, hD, hS⟩ := hX
  have hl : lv_has ls 4 [(0, .ref a_o), (1, .int p1), (2, .int v1), (3, .int v2)] := hl
  have hP : va_P (dC, dI) zz_cls [zo_X1 a_o a_m a_o_order a_o_depth a_o_from f_o_size f_o_known, (a_o_order, .inl (dA 0, 2880, .inl b_o_order))] H := hP
  have hD : va_D A [zo_X1 a_o a_m a_o_order a_o_depth a_o_from f_o_size f_o_known, (a_o_order, .inl (dA 0, 2880, .inl b_o_order))] := hD
  replace hf : zb_X1_richestSet_4 f_o_size b_o_order p1 v1 v2 = some w := hf
  unfold zb_X1_richestSet_4 at hf
  refine lv_iload_n (pc := 4) hx hb dX1_richestSet_4 rfl (lv_at hl 3 rfl) ?_
  refine lv_aload_n (pc := 5) hx hb dX1_richestSet_5 rfl (lv_at hl 0 rfl) ?_
  refine va_get (pc := 6) (D := (dC, dI)) (ci := 2) (v := .int f_o_size) (C := RX1) (T := TX1) (N := 6) hx hb ht zq_layX1 hown hK hP 0 rfl rfl 4 (by decide) (ht _ zq_42) (fun _ h9 => h9) rfl dX1_richestSet_6 ?_
  refine lv_icmp_ge (tgt := 57) (pc := 9) hx hb dX1_richestSet_9 rfl (fun hc => ?_) (fun hc => ?_)
  · have hf := za_t hf hc
    obtain rfl := Option.some.inj hf
    obtain ⟨rfl, rfl, rfl⟩ := zp_3 (ex (show ¬ (1 : Nat) = 0 by decide))
    exact E57 _ _ _ ⟨lv_sub hl [2] rfl, hP, hD, hS⟩
  · have hf := za_f hf hc
    refine lv_aload_n (pc := 12) hx hb dX1_richestSet_12 rfl (lv_at hl 0 rfl) ?_
    refine va_get (pc := 13) (D := (dC, dI)) (ci := 2) (v := .ref a_o_order) (C := RX1) (T := TX1) (N := 6) hx hb ht zq_layX1 hown hK hP 0 rfl rfl 1 (by decide) (ht _ zq_39) (fun _ h9 => h9) rfl dX1_richestSet_13 ?_
    refine lv_iload_n (pc := 16) hx hb dX1_richestSet_16 rfl (lv_at hl 3 rfl) ?_
    obtain ⟨v3, hv3, hf⟩ := zc_1 hf
    refine zw_iald (pc := 17) hx hb hK hP 1 0 rfl rfl hv3 dX1_richestSet_17 ?_
    obtain ⟨v4, hv4, hf⟩ := zc_1 hf
    refine zx_Ni (pc := 18) (wc := []) (wr := [zo_X1 a_o a_m a_o_order a_o_depth a_o_from f_o_size f_o_known, (a_o_order, .inl (dA 0, 2880, .inl b_o_order))]) (w1 := []) (As := [.int v3]) (rest := []) ⟨hx, hb, hml, hown, ht⟩ (zt_X10_rungOf l dC dI dA adK adV _ v3 v4 hv4) ⟨va_cnB 1 ht (zq_C zq_59) rfl rfl rfl (hZ.nest 10 rfl) (ht _ zq_58) zk_X10_rungOf.2 ⟨Nat.le_of_ble_eq_true rfl, Nat.le_of_ble_eq_true rfl⟩, ht _ zq_57, trivial⟩ hZ hK hP hD hS hA [] [0, 1] (by decide) (by decide) (by decide) rfl rfl rfl hl.1 (Nat.le_of_ble_eq_true rfl) dX1_richestSet_18 ⟨Nat.zero_le _, Nat.zero_le _⟩ rfl (fun H locs hP hD hS => ?_)
    have hP : va_P (dC, dI) zz_cls [zo_X1 a_o a_m a_o_order a_o_depth a_o_from f_o_size f_o_known, (a_o_order, .inl (dA 0, 2880, .inl b_o_order))] H := hP
    have hD : va_D A [zo_X1 a_o a_m a_o_order a_o_depth a_o_from f_o_size f_o_known, (a_o_order, .inl (dA 0, 2880, .inl b_o_order))] := hD
    refine lv_iload_n (pc := 21) hx hb dX1_richestSet_21 rfl (lv_at hl 1 rfl) ?_
    obtain ⟨v10, hj, hf⟩ := zc_1 hf
    refine zj_join (pcJ := 51) (stk := []) (X := fun H locs ls => lv_has ls 4 [(0, .ref a_o), (1, .int p1), (2, .int v10), (3, .int v2)] ∧ va_P (dC, dI) zz_cls [zo_X1 a_o a_m a_o_order a_o_depth a_o_from f_o_size f_o_known, (a_o_order, .inl (dA 0, 2880, .inl b_o_order))] H ∧ va_D A [zo_X1 a_o a_m a_o_order a_o_depth a_o_from f_o_size f_o_known, (a_o_order, .inl (dA 0, 2880, .inl b_o_order))] ∧ va_S A s.heap H locs) (fun H locs ls hX => ?_) (fun J51 => ?_)
    · obtain ⟨hl, hP, hD, hS⟩ := hX
      clear hj
      obtain ⟨v11, hv11, hf⟩ := zc_1 hf
      refine lv_iinc (v := v11) (lv' := [(3, .int v11), (0, .ref a_o), (1, .int p1), (2, .int v10)]) (k := 3) (pc := 51) hx hb dX1_richestSet_51 hl rfl (Option.some.inj hv11) (by decide) rfl (fun ls hl => ?_)
      refine lv_goto (tgt := 4) (pc := 54) hx hb dX1_richestSet_54 rfl ?_
      obtain rfl := Option.some.inj hf
      exact ih rfl _ _ _ ⟨lv_sub hl [1, 2, 3, 0] rfl, hP, hD, hS⟩
    · clear hf
      have hf := hj
      clear hj
      refine lv_icmp_ne (tgt := 51) (pc := 22) hx hb dX1_richestSet_22 rfl (fun hc => ?_) (fun hc => ?_)
      · have hf := za_f hf hc
        obtain rfl := Option.some.inj hf
        exact J51 _ _ _ ⟨lv_sub hl [0, 1, 2, 3] rfl, hP, hD, hS⟩
      · have hf := za_t hf hc
        refine lv_aload_n (pc := 25) hx hb dX1_richestSet_25 rfl (lv_at hl 0 rfl) ?_
        refine va_get (pc := 26) (D := (dC, dI)) (ci := 2) (v := .ref a_o_order) (C := RX1) (T := TX1) (N := 6) hx hb ht zq_layX1 hown hK hP 0 rfl rfl 1 (by decide) (ht _ zq_39) (fun _ h9 => h9) rfl dX1_richestSet_26 ?_
        refine lv_iload_n (pc := 29) hx hb dX1_richestSet_29 rfl (lv_at hl 3 rfl) ?_
        obtain ⟨v5, hv5, hf⟩ := zc_1 hf
        refine zw_iald (pc := 30) hx hb hK hP 1 0 rfl rfl hv5 dX1_richestSet_30 ?_
        obtain ⟨v6, hv6, hf⟩ := zc_1 hf
        refine zx_Ni (pc := 31) (wc := []) (wr := [zo_X1 a_o a_m a_o_order a_o_depth a_o_from f_o_size f_o_known, (a_o_order, .inl (dA 0, 2880, .inl b_o_order))]) (w1 := []) (As := [.int v5]) (rest := []) ⟨hx, hb, hml, hown, ht⟩ (zt_X10_thingsOf l dC dI dA adK adV _ v5 v6 hv6) ⟨va_cnB 1 ht (zq_C zq_61) rfl rfl rfl (hZ.nest 11 rfl) (ht _ zq_58) zk_X10_thingsOf.2 ⟨Nat.le_of_ble_eq_true rfl, Nat.le_of_ble_eq_true rfl⟩, ht _ zq_60, trivial⟩ hZ hK hP hD hS hA [] [0, 1] (by decide) (by decide) (by decide) rfl rfl rfl hl.1 (Nat.le_of_ble_eq_true rfl) dX1_richestSet_31 ⟨Nat.zero_le _, Nat.zero_le _⟩ rfl (fun H locs hP hD hS => ?_)
        have hP : va_P (dC, dI) zz_cls [zo_X1 a_o a_m a_o_order a_o_depth a_o_from f_o_size f_o_known, (a_o_order, .inl (dA 0, 2880, .inl b_o_order))] H := hP
        have hD : va_D A [zo_X1 a_o a_m a_o_order a_o_depth a_o_from f_o_size f_o_known, (a_o_order, .inl (dA 0, 2880, .inl b_o_order))] := hD
        refine lv_iload_n (pc := 34) hx hb dX1_richestSet_34 rfl (lv_at hl 2 rfl) ?_
        obtain ⟨v7, hv7, hf⟩ := zc_1 hf
        refine zx_Si (pc := 35) (wc := []) (wr := [zo_X1 a_o a_m a_o_order a_o_depth a_o_from f_o_size f_o_known, (a_o_order, .inl (dA 0, 2880, .inl b_o_order))]) (w1 := []) (As := [.int v6, .int v1]) (rest := []) ⟨hx, hb, hml, hown, ht⟩ (zt_X1_isRicher l dC dI dA adK adV _ v6 v1 v7 hv7) (cwS 2 ht (zq_S zq_157 zq_158 zq_142 zq_154) rfl rfl rfl zk_X1_isRicher ⟨Nat.le_of_ble_eq_true rfl, Nat.le_of_ble_eq_true rfl⟩) hZ hK hP hD hS hA [] [0, 1] (by decide) (by decide) (by decide) rfl rfl rfl hl.1 (Nat.le_of_ble_eq_true rfl) dX1_richestSet_35 ⟨Nat.zero_le _, Nat.zero_le _⟩ rfl (fun H locs hP hD hS => ?_)
        have hP : va_P (dC, dI) zz_cls [zo_X1 a_o a_m a_o_order a_o_depth a_o_from f_o_size f_o_known, (a_o_order, .inl (dA 0, 2880, .inl b_o_order))] H := hP
        have hD : va_D A [zo_X1 a_o a_m a_o_order a_o_depth a_o_from f_o_size f_o_known, (a_o_order, .inl (dA 0, 2880, .inl b_o_order))] := hD
        refine lv_if_eq (tgt := 51) (pc := 38) hx hb dX1_richestSet_38 rfl (fun hc => ?_) (fun hc => ?_)
        · have hf := za_t hf hc
          obtain rfl := Option.some.inj hf
          exact J51 _ _ _ ⟨lv_sub hl [0, 1, 2, 3] rfl, hP, hD, hS⟩
        · have hf := za_f hf hc
          refine lv_aload_n (pc := 41) hx hb dX1_richestSet_41 rfl (lv_at hl 0 rfl) ?_
          refine va_get (pc := 42) (D := (dC, dI)) (ci := 2) (v := .ref a_o_order) (C := RX1) (T := TX1) (N := 6) hx hb ht zq_layX1 hown hK hP 0 rfl rfl 1 (by decide) (ht _ zq_39) (fun _ h9 => h9) rfl dX1_richestSet_42 ?_
          refine lv_iload_n (pc := 45) hx hb dX1_richestSet_45 rfl (lv_at hl 3 rfl) ?_
          obtain ⟨v8, hv8, hf⟩ := zc_1 hf
          refine zw_iald (pc := 46) hx hb hK hP 1 0 rfl rfl hv8 dX1_richestSet_46 ?_
          obtain ⟨v9, hv9, hf⟩ := zc_1 hf
          refine zx_Ni (pc := 47) (wc := []) (wr := [zo_X1 a_o a_m a_o_order a_o_depth a_o_from f_o_size f_o_known, (a_o_order, .inl (dA 0, 2880, .inl b_o_order))]) (w1 := []) (As := [.int v8]) (rest := []) ⟨hx, hb, hml, hown, ht⟩ (zt_X10_thingsOf l dC dI dA adK adV _ v8 v9 hv9) ⟨va_cnB 1 ht (zq_C zq_61) rfl rfl rfl (hZ.nest 11 rfl) (ht _ zq_58) zk_X10_thingsOf.2 ⟨Nat.le_of_ble_eq_true rfl, Nat.le_of_ble_eq_true rfl⟩, ht _ zq_60, trivial⟩ hZ hK hP hD hS hA [] [0, 1] (by decide) (by decide) (by decide) rfl rfl rfl hl.1 (Nat.le_of_ble_eq_true rfl) dX1_richestSet_47 ⟨Nat.zero_le _, Nat.zero_le _⟩ rfl (fun H locs hP hD hS => ?_)
          have hP : va_P (dC, dI) zz_cls [zo_X1 a_o a_m a_o_order a_o_depth a_o_from f_o_size f_o_known, (a_o_order, .inl (dA 0, 2880, .inl b_o_order))] H := hP
          have hD : va_D A [zo_X1 a_o a_m a_o_order a_o_depth a_o_from f_o_size f_o_known, (a_o_order, .inl (dA 0, 2880, .inl b_o_order))] := hD
          refine lv_istore_n (lv' := [(2, .int v9), (0, .ref a_o), (1, .int p1), (3, .int v2)]) (pc := 50) hx hb dX1_richestSet_50 rfl hl (by decide) rfl (fun ls hl => ?_)
          obtain rfl := Option.some.inj hf
          exact J51 _ _ _ ⟨lv_sub hl [1, 2, 0, 3] rfl, hP, hD, hS⟩

def zb_X1_everHadOn_7 (f_o_size : Int32) (b_o_order : (Nat → Int32)) (p1 : Int32) (v1 : Int32) (v2 : Int32) (v3 : Int32) : Option (Nat × Int32 × Int32 × Int32) :=
  if f_o_size ≤ v3 then
    some (1, v1, v2, v3)
  else
    zd_1 (za_ld b_o_order 2880 v3) (fun v4 =>
    zd_1 (zf_X10_rungOf v4) (fun v5 =>
    zd_2 (
      if v5 = p1 then
        zd_1 (za_ld b_o_order 2880 v3) (fun v6 =>
        zd_1 (zf_X10_thingsOf v6) (fun v7 =>
        zd_1 (some ((v1 ||| v7))) (fun v8 =>
        some (v8, (1 : Int32)))))
      else
        some (v1, v2)) (fun v9 v10 =>
    zd_1 (some (v3 + (1 : Int32))) (fun v11 =>
    some (0, v9, v10, v11)))))
def zf_X1_everHadOn (n : Nat) (f_o_size : Int32) (b_o_order : (Nat → Int32)) (p1 : Int32) : Option (Int32) :=
  zd_4 (za_it (fun v => zb_X1_everHadOn_7 f_o_size b_o_order p1 v.1 v.2.1 v.2.2) n ((0 : Int32), (0 : Int32), (0 : Int32))) (fun g15 v12 v13 v14 =>
  if v13 = 0 then
    some (-1 : Int32)
  else
    some v12)
theorem zk_X1_everHadOn : yX1_everHadOn.cls = RX1 ∧ yX1_everHadOn.cls ≠ "java/lang/invoke/MethodHandle" ∧ yX1_everHadOn.cls ≠ "java/lang/invoke/VarHandle" ∧ (parseMethodDescriptor yX1_everHadOn.desc).map (fun d => d.parameters.length) = some 1 := by decide +kernel
set_option maxHeartbeats 4000000 in
set_option maxRecDepth 100000 in
theorem zt_X1_everHadOn (l : Launch) (dC : Nat → ClassId) (dI : Nat → Nat → Nat) (dA : Nat → ClassId) (adK adV : Nat → Nat) (sz : Nat) (a_o : Nat) (a_m : Nat) (a_o_order : Nat) (a_o_depth : Nat) (a_o_from : Nat) (n : Nat) (f_o_size : Int32) (f_o_known : Int32) (b_o_order : (Nat → Int32)) (p1 : Int32) (r0 : Int32) (hf : zf_X1_everHadOn n f_o_size b_o_order p1 = some r0) : Met l yX1_everHadOn (.code yX1_everHadOn cX1_everHadOn 5 (some .int) :: zq_T) ({ frames := 1, cells := 0, slots := 0, locals := 20 }) (va_Pc [.ref a_o, .int p1] (zx_M dC dI dA adK adV [zo_X1 a_o a_m a_o_order a_o_depth a_o_from f_o_size f_o_known, (a_o_order, .inl (dA 0, 2880, .inl b_o_order))] sz)) (va_Qi (fun (r : Int32) (_ : Unit) => r = r0) (fun _ t => zz_B dC dI dA (va_A [zo_X1 a_o a_m a_o_order a_o_depth a_o_from f_o_size f_o_known, (a_o_order, .inl (dA 0, 2880, .inl b_o_order))] sz) [zo_X1 a_o a_m a_o_order a_o_depth a_o_from f_o_size f_o_known, (a_o_order, .inl (dA 0, 2880, .inl b_o_order))] t) (va_A [zo_X1 a_o a_m a_o_order a_o_depth a_o_from f_o_size f_o_known, (a_o_order, .inl (dA 0, 2880, .inl b_o_order))] sz)) 0 0 (va_A [zo_X1 a_o a_m a_o_order a_o_depth a_o_from f_o_size f_o_known, (a_o_order, .inl (dA 0, 2880, .inl b_o_order))] sz) := by
  unfold zf_X1_everHadOn at hf
  refine Met.ofW (cc := cX1_everHadOn) (maxL := 5) (ret := (some .int)) (by decide) rfl ?_
  intro p e s m args below meth c s₁ B hml hv
  obtain ⟨rfl, ⟨hsz, hP, hK, hD0⟩, hZ⟩ := hv
  have hx := B.exec
  have hb := B.bytes
  have hr := B.returns
  have ht : ∀ w ∈ zq_T, w.before ([.ref a_o, .int p1] : List Value).toArray s = true := fun w hw => atoms_spec (ws := .code yX1_everHadOn cX1_everHadOn 5 (some .int) :: zq_T) B.pre w (List.mem_cons_of_mem _ hw)
  have hown : s.vm.findClass RX1 = some m.cls := findClass_of_methodNamed B.named
  have hlocks := B.notSynchronized
  subst hsz
  have hD := hD0.self (sz := s.heap.size)
  generalize hAe : va_A [zo_X1 a_o a_m a_o_order a_o_depth a_o_from f_o_size f_o_known, (a_o_order, .inl (dA 0, 2880, .inl b_o_order))] s.heap.size = A at hD hZ ⊢
  have hA : ∀ q : Nat, s.heap.size ≤ q → A q := fun q h => by rw [← hAe]; exact Or.inr h
  clear hAe hD0
  have hS : va_S A s.heap s.heap [] := va_S.rf
  have hl := lv_entry ([.ref a_o, .int p1]) (n := 5) (Nat.le_of_ble_eq_true rfl)
  rw [lg_entry_eq]
  generalize (lg_sl ([.ref a_o, .int p1]) ++ List.replicate (5 - (lg_sl ([.ref a_o, .int p1])).length) Slot.unset).toArray = ls at hl ⊢
  have hl : lv_has ls 5 [(0, .ref a_o), (1, .int p1)] := hl
  refine lv_iconst (v := (0 : Int32)) (pc := 0) hx hb dX1_everHadOn_0 (by decide) ?_
  refine lv_istore_n (lv' := [(2, .int (0 : Int32)), (0, .ref a_o), (1, .int p1)]) (pc := 1) hx hb dX1_everHadOn_1 rfl hl (by decide) rfl (fun ls hl => ?_)
  refine lv_iconst (v := (0 : Int32)) (pc := 2) hx hb dX1_everHadOn_2 (by decide) ?_
  refine lv_istore_n (lv' := [(3, .int (0 : Int32)), (2, .int (0 : Int32)), (0, .ref a_o), (1, .int p1)]) (pc := 3) hx hb dX1_everHadOn_3 rfl hl (by decide) rfl (fun ls hl => ?_)
  refine lv_iconst (v := (0 : Int32)) (pc := 4) hx hb dX1_everHadOn_4 (by decide) ?_
  refine lv_istore (lv' := [(4, .int (0 : Int32)), (3, .int (0 : Int32)), (2, .int (0 : Int32)), (0, .ref a_o), (1, .int p1)]) (pc := 5) hx hb dX1_everHadOn_5 hl (by decide) rfl (fun ls hl => ?_)
  obtain ⟨g15, v12, v13, v14, hj, hf⟩ := zc_4 hf
  refine zj_join (pcJ := 51) (stk := []) (X := fun H locs ls => lv_has ls 5 [(2, .int v12), (3, .int v13)] ∧ va_P (dC, dI) zz_cls [zo_X1 a_o a_m a_o_order a_o_depth a_o_from f_o_size f_o_known, (a_o_order, .inl (dA 0, 2880, .inl b_o_order))] H ∧ va_D A [zo_X1 a_o a_m a_o_order a_o_depth a_o_from f_o_size f_o_known, (a_o_order, .inl (dA 0, 2880, .inl b_o_order))] ∧ va_S A s.heap H locs) (fun H locs ls hX => ?_) (fun E51 => ?_)
  · obtain ⟨hl, hP, hD, hS⟩ := hX
    clear hj
    refine lv_iload_n (pc := 51) hx hb dX1_everHadOn_51 rfl (lv_at hl 1 rfl) ?_
    refine lv_if_eq (tgt := 59) (pc := 52) hx hb dX1_everHadOn_52 rfl (fun hc => ?_) (fun hc => ?_)
    · have hf := za_t hf hc
      refine lv_iconst (v := (-1 : Int32)) (pc := 59) hx hb dX1_everHadOn_59 (by decide) ?_
      obtain rfl := Option.some.inj hf
      exact W.iret (pc := 60) hx hb hr (fun t ht hW => ⟨⟨_, (), rfl, rfl, zz_Bi (by rw [ht]; exact hP) (va_K.moved hW.alike hK) (hD)⟩, hS.F ht⟩) hS.2.2 dX1_everHadOn_60
    · have hf := za_f hf hc
      refine lv_iload_n (pc := 55) hx hb dX1_everHadOn_55 rfl (lv_at hl 0 rfl) ?_
      refine lv_goto (tgt := 60) (pc := 56) hx hb dX1_everHadOn_56 rfl ?_
      obtain rfl := Option.some.inj hf
      exact W.iret (pc := 60) hx hb hr (fun t ht hW => ⟨⟨_, (), rfl, rfl, zz_Bi (by rw [ht]; exact hP) (va_K.moved hW.alike hK) (hD)⟩, hS.F ht⟩) hS.2.2 dX1_everHadOn_60
  clear hf
  refine zw_loop (pcH := 7) (X := fun v H locs ls => lv_has ls 5 [(0, .ref a_o), (1, .int p1), (2, .int v.1), (3, .int v.2.1), (4, .int v.2.2)] ∧ va_P (dC, dI) zz_cls [zo_X1 a_o a_m a_o_order a_o_depth a_o_from f_o_size f_o_known, (a_o_order, .inl (dA 0, 2880, .inl b_o_order))] H ∧ va_D A [zo_X1 a_o a_m a_o_order a_o_depth a_o_from f_o_size f_o_known, (a_o_order, .inl (dA 0, 2880, .inl b_o_order))] ∧ va_S A s.heap H locs) hj (fun v w hf ih ex H locs ls hX => ?_) _ _ _ ⟨lv_sub hl [3, 4, 2, 1, 0] rfl, hP, hD, hS⟩
  clear hj
  obtain ⟨v1, v2, v3⟩ := v
  obtain ⟨hl, hP, hD, hS⟩ := hX
  have hl : lv_has ls 5 [(0, .ref a_o), (1, .int p1), (2, .int v1), (3, .int v2), (4, .int v3)] := hl
  have hP : va_P (dC, dI) zz_cls [zo_X1 a_o a_m a_o_order a_o_depth a_o_from f_o_size f_o_known, (a_o_order, .inl (dA 0, 2880, .inl b_o_order))] H := hP
  have hD : va_D A [zo_X1 a_o a_m a_o_order a_o_depth a_o_from f_o_size f_o_known, (a_o_order, .inl (dA 0, 2880, .inl b_o_order))] := hD
  replace hf : zb_X1_everHadOn_7 f_o_size b_o_order p1 v1 v2 v3 = some w := hf
  unfold zb_X1_everHadOn_7 at hf
  refine lv_iload (pc := 7) hx hb dX1_everHadOn_7 (lv_at hl 4 rfl) ?_
  refine lv_aload_n (pc := 9) hx hb dX1_everHadOn_9 rfl (lv_at hl 0 rfl) ?_
  refine va_get (pc := 10) (D := (dC, dI)) (ci := 2) (v := .int f_o_size) (C := RX1) (T := TX1) (N := 6) hx hb ht zq_layX1 hown hK hP 0 rfl rfl 4 (by decide) (ht _ zq_42) (fun _ h9 => h9) rfl dX1_everHadOn_10 ?_
  refine lv_icmp_ge (tgt := 51) (pc := 13) hx hb dX1_everHadOn_13 rfl (fun hc => ?_) (fun hc => ?_)
  · have hf := za_t hf hc
    obtain rfl := Option.some.inj hf
    obtain ⟨rfl, rfl, rfl, rfl⟩ := zp_4 (ex (show ¬ (1 : Nat) = 0 by decide))
    exact E51 _ _ _ ⟨lv_sub hl [2, 3] rfl, hP, hD, hS⟩
  · have hf := za_f hf hc
    refine lv_aload_n (pc := 16) hx hb dX1_everHadOn_16 rfl (lv_at hl 0 rfl) ?_
    refine va_get (pc := 17) (D := (dC, dI)) (ci := 2) (v := .ref a_o_order) (C := RX1) (T := TX1) (N := 6) hx hb ht zq_layX1 hown hK hP 0 rfl rfl 1 (by decide) (ht _ zq_39) (fun _ h9 => h9) rfl dX1_everHadOn_17 ?_
    refine lv_iload (pc := 20) hx hb dX1_everHadOn_20 (lv_at hl 4 rfl) ?_
    obtain ⟨v4, hv4, hf⟩ := zc_1 hf
    refine zw_iald (pc := 22) hx hb hK hP 1 0 rfl rfl hv4 dX1_everHadOn_22 ?_
    obtain ⟨v5, hv5, hf⟩ := zc_1 hf
    refine zx_Ni (pc := 23) (wc := []) (wr := [zo_X1 a_o a_m a_o_order a_o_depth a_o_from f_o_size f_o_known, (a_o_order, .inl (dA 0, 2880, .inl b_o_order))]) (w1 := []) (As := [.int v4]) (rest := []) ⟨hx, hb, hml, hown, ht⟩ (zt_X10_rungOf l dC dI dA adK adV _ v4 v5 hv5) ⟨va_cnB 1 ht (zq_C zq_59) rfl rfl rfl (hZ.nest 10 rfl) (ht _ zq_58) zk_X10_rungOf.2 ⟨Nat.le_of_ble_eq_true rfl, Nat.le_of_ble_eq_true rfl⟩, ht _ zq_57, trivial⟩ hZ hK hP hD hS hA [] [0, 1] (by decide) (by decide) (by decide) rfl rfl rfl hl.1 (Nat.le_of_ble_eq_true rfl) dX1_everHadOn_23 ⟨Nat.zero_le _, Nat.zero_le _⟩ rfl (fun H locs hP hD hS => ?_)
    have hP : va_P (dC, dI) zz_cls [zo_X1 a_o a_m a_o_order a_o_depth a_o_from f_o_size f_o_known, (a_o_order, .inl (dA 0, 2880, .inl b_o_order))] H := hP
    have hD : va_D A [zo_X1 a_o a_m a_o_order a_o_depth a_o_from f_o_size f_o_known, (a_o_order, .inl (dA 0, 2880, .inl b_o_order))] := hD
    refine lv_iload_n (pc := 26) hx hb dX1_everHadOn_26 rfl (lv_at hl 1 rfl) ?_
    obtain ⟨v9, v10, hj, hf⟩ := zc_2 hf
    refine zj_join (pcJ := 45) (stk := []) (X := fun H locs ls => lv_has ls 5 [(0, .ref a_o), (1, .int p1), (2, .int v9), (3, .int v10), (4, .int v3)] ∧ va_P (dC, dI) zz_cls [zo_X1 a_o a_m a_o_order a_o_depth a_o_from f_o_size f_o_known, (a_o_order, .inl (dA 0, 2880, .inl b_o_order))] H ∧ va_D A [zo_X1 a_o a_m a_o_order a_o_depth a_o_from f_o_size f_o_known, (a_o_order, .inl (dA 0, 2880, .inl b_o_order))] ∧ va_S A s.heap H locs) (fun H locs ls hX => ?_) (fun J45 => ?_)
    · obtain ⟨hl, hP, hD, hS⟩ := hX
      clear hj
      obtain ⟨v11, hv11, hf⟩ := zc_1 hf
      refine lv_iinc (v := v11) (lv' := [(4, .int v11), (0, .ref a_o), (1, .int p1), (2, .int v9), (3, .int v10)]) (k := 4) (pc := 45) hx hb dX1_everHadOn_45 hl rfl (Option.some.inj hv11) (by decide) rfl (fun ls hl => ?_)
      refine lv_goto (tgt := 7) (pc := 48) hx hb dX1_everHadOn_48 rfl ?_
      obtain rfl := Option.some.inj hf
      exact ih rfl _ _ _ ⟨lv_sub hl [1, 2, 3, 4, 0] rfl, hP, hD, hS⟩
    · clear hf
      have hf := hj
      clear hj
      refine lv_icmp_ne (tgt := 45) (pc := 27) hx hb dX1_everHadOn_27 rfl (fun hc => ?_) (fun hc => ?_)
      · have hf := za_f hf hc
        obtain ⟨rfl, rfl⟩ := zi_2 hf
        exact J45 _ _ _ ⟨lv_sub hl [0, 1, 2, 3, 4] rfl, hP, hD, hS⟩
      · have hf := za_t hf hc
        refine lv_iconst (v := (1 : Int32)) (pc := 30) hx hb dX1_everHadOn_30 (by decide) ?_
        refine lv_istore_n (lv' := [(3, .int (1 : Int32)), (0, .ref a_o), (1, .int p1), (2, .int v1), (4, .int v3)]) (pc := 31) hx hb dX1_everHadOn_31 rfl hl (by decide) rfl (fun ls hl => ?_)
        refine lv_iload_n (pc := 32) hx hb dX1_everHadOn_32 rfl (lv_at hl 3 rfl) ?_
        refine lv_aload_n (pc := 33) hx hb dX1_everHadOn_33 rfl (lv_at hl 1 rfl) ?_
        refine va_get (pc := 34) (D := (dC, dI)) (ci := 2) (v := .ref a_o_order) (C := RX1) (T := TX1) (N := 6) hx hb ht zq_layX1 hown hK hP 0 rfl rfl 1 (by decide) (ht _ zq_39) (fun _ h9 => h9) rfl dX1_everHadOn_34 ?_
        refine lv_iload (pc := 37) hx hb dX1_everHadOn_37 (lv_at hl 4 rfl) ?_
        obtain ⟨v6, hv6, hf⟩ := zc_1 hf
        refine zw_iald (pc := 39) hx hb hK hP 1 0 rfl rfl hv6 dX1_everHadOn_39 ?_
        obtain ⟨v7, hv7, hf⟩ := zc_1 hf
        refine zx_Ni (pc := 40) (wc := []) (wr := [zo_X1 a_o a_m a_o_order a_o_depth a_o_from f_o_size f_o_known, (a_o_order, .inl (dA 0, 2880, .inl b_o_order))]) (w1 := []) (As := [.int v6]) (rest := [.int v1]) ⟨hx, hb, hml, hown, ht⟩ (zt_X10_thingsOf l dC dI dA adK adV _ v6 v7 hv7) ⟨va_cnB 1 ht (zq_C zq_61) rfl rfl rfl (hZ.nest 11 rfl) (ht _ zq_58) zk_X10_thingsOf.2 ⟨Nat.le_of_ble_eq_true rfl, Nat.le_of_ble_eq_true rfl⟩, ht _ zq_60, trivial⟩ hZ hK hP hD hS hA [] [0, 1] (by decide) (by decide) (by decide) rfl rfl rfl hl.1 (Nat.le_of_ble_eq_true rfl) dX1_everHadOn_40 ⟨Nat.zero_le _, Nat.zero_le _⟩ rfl (fun H locs hP hD hS => ?_)
        have hP : va_P (dC, dI) zz_cls [zo_X1 a_o a_m a_o_order a_o_depth a_o_from f_o_size f_o_known, (a_o_order, .inl (dA 0, 2880, .inl b_o_order))] H := hP
        have hD : va_D A [zo_X1 a_o a_m a_o_order a_o_depth a_o_from f_o_size f_o_known, (a_o_order, .inl (dA 0, 2880, .inl b_o_order))] := hD
        refine lv_ior (pc := 43) hx hb dX1_everHadOn_43 ?_
        obtain ⟨v8, hv8, hf⟩ := zc_1 hf
        refine zw_top (hv8) ?_
        refine lv_istore_n (lv' := [(2, .int v8), (3, .int (1 : Int32)), (0, .ref a_o), (1, .int p1), (4, .int v3)]) (pc := 44) hx hb dX1_everHadOn_44 rfl hl (by decide) rfl (fun ls hl => ?_)
        obtain ⟨rfl, rfl⟩ := zi_2 hf
        exact J45 _ _ _ ⟨lv_sub hl [2, 3, 0, 1, 4] rfl, hP, hD, hS⟩

def zf_X2_forget (n : Nat) (b_o_told : (Nat → Int32)) : Option ((Nat → Int32)) :=
  zd_1 (zf_J7_fill_53178 n 315 b_o_told (-2 : Int32)) (fun a1 =>
  some a1)
theorem zk_X2_forget : yX2_forget.cls = RX2 ∧ yX2_forget.cls ≠ "java/lang/invoke/MethodHandle" ∧ yX2_forget.cls ≠ "java/lang/invoke/VarHandle" ∧ (parseMethodDescriptor yX2_forget.desc).map (fun d => d.parameters.length) = some 0 := by decide +kernel
set_option maxHeartbeats 4000000 in
set_option maxRecDepth 100000 in
theorem zt_X2_forget (l : Launch) (dC : Nat → ClassId) (dI : Nat → Nat → Nat) (dA : Nat → ClassId) (adK adV : Nat → Nat) (sz : Nat) (a_o : Nat) (a_c : Nat) (a_o_told : Nat) (a_o_facts : Nat) (a_o_stack : Nat) (n : Nat) (f_o_wind : Int32) (b_o_told : (Nat → Int32)) (o1 : (Nat → Int32)) (hf : zf_X2_forget n b_o_told = some o1) : Met l yX2_forget (.code yX2_forget cX2_forget 1 none :: zq_T) ({ frames := 1, cells := 0, slots := 0, locals := 23 }) (va_Pc [.ref a_o] (zx_M dC dI dA adK adV [zo_X2 a_o a_c a_o_told a_o_facts a_o_stack f_o_wind, (a_o_told, .inl (dA 0, 315, .inl b_o_told))] sz)) (va_Qv (fun _ : Unit => True) (fun _ t => zz_B dC dI dA (va_A [zo_X2 a_o a_c a_o_told a_o_facts a_o_stack f_o_wind, (a_o_told, .inl (dA 0, 315, .inl b_o_told))] sz) [zo_X2 a_o a_c a_o_told a_o_facts a_o_stack f_o_wind, (a_o_told, .inl (dA 0, 315, .inl o1))] t) (va_A [zo_X2 a_o a_c a_o_told a_o_facts a_o_stack f_o_wind, (a_o_told, .inl (dA 0, 315, .inl b_o_told))] sz)) 0 0 (va_A [zo_X2 a_o a_c a_o_told a_o_facts a_o_stack f_o_wind, (a_o_told, .inl (dA 0, 315, .inl b_o_told))] sz) := by
  unfold zf_X2_forget at hf
  refine Met.ofW (cc := cX2_forget) (maxL := 1) (ret := none) (by decide) rfl ?_
  intro p e s m args below meth c s₁ B hml hv
  obtain ⟨rfl, ⟨hsz, hP, hK, hD0⟩, hZ⟩ := hv
  have hx := B.exec
  have hb := B.bytes
  have hr := B.returns
  have ht : ∀ w ∈ zq_T, w.before ([.ref a_o] : List Value).toArray s = true := fun w hw => atoms_spec (ws := .code yX2_forget cX2_forget 1 none :: zq_T) B.pre w (List.mem_cons_of_mem _ hw)
  have hown : s.vm.findClass RX2 = some m.cls := findClass_of_methodNamed B.named
  have hlocks := B.notSynchronized
  subst hsz
  have hD := hD0.self (sz := s.heap.size)
  generalize hAe : va_A [zo_X2 a_o a_c a_o_told a_o_facts a_o_stack f_o_wind, (a_o_told, .inl (dA 0, 315, .inl b_o_told))] s.heap.size = A at hD hZ ⊢
  have hA : ∀ q : Nat, s.heap.size ≤ q → A q := fun q h => by rw [← hAe]; exact Or.inr h
  clear hAe hD0
  have hS : va_S A s.heap s.heap [] := va_S.rf
  have hl := lv_entry ([.ref a_o]) (n := 1) (Nat.le_of_ble_eq_true rfl)
  rw [lg_entry_eq]
  generalize (lg_sl ([.ref a_o]) ++ List.replicate (1 - (lg_sl ([.ref a_o])).length) Slot.unset).toArray = ls at hl ⊢
  have hl : lv_has ls 1 [(0, .ref a_o)] := hl
  refine lv_aload_n (pc := 0) hx hb dX2_forget_0 rfl (lv_at hl 0 rfl) ?_
  refine va_get (pc := 1) (D := (dC, dI)) (ci := 3) (v := .ref a_o_told) (C := RX2) (T := TX2) (N := 5) hx hb ht zq_layX2 hown hK hP 0 rfl rfl 1 (by decide) (ht _ zq_85) (fun _ h9 => h9) rfl dX2_forget_1 ?_
  refine lv_bipush (v := (-2 : Int32)) (pc := 4) hx hb dX2_forget_4 (by decide) ?_
  obtain ⟨a1, ha1, hf⟩ := zc_1 hf
  refine zy_Tv (pc := 6) (wc := [(a_o_told, .inl (dA 0, 315, .inl b_o_told))]) (wr := [zo_X2 a_o a_c a_o_told a_o_facts a_o_stack f_o_wind]) (w1 := [(a_o_told, .inl (dA 0, 315, .inl a1))]) (As := [.ref a_o_told, .int (-2 : Int32)]) (rest := []) ⟨hx, hb, hml, hown, ht⟩ (zt_J7_fill_53178 l dC dI dA adK adV _ a_o_told 315 n b_o_told (-2 : Int32) a1 ha1) (va_cwS 2 ht (zq_X zq_161 zq_24 zq_25 zq_26) rfl rfl rfl zk_J7_fill_53178.2 ⟨Nat.le_of_ble_eq_true rfl, Nat.le_of_ble_eq_true rfl⟩) hK hP hD hS hA [1] [0] (by decide) (by decide) (by decide) rfl rfl rfl hl.1 (Nat.le_of_ble_eq_true rfl) dX2_forget_6 ⟨Nat.zero_le _, Nat.zero_le _⟩ rfl (fun H locs hP hD hS => ?_)
  have hP : va_P (dC, dI) zz_cls [zo_X2 a_o a_c a_o_told a_o_facts a_o_stack f_o_wind, (a_o_told, .inl (dA 0, 315, .inl a1))] H := hP
  have hD : va_D A [zo_X2 a_o a_c a_o_told a_o_facts a_o_stack f_o_wind, (a_o_told, .inl (dA 0, 315, .inl a1))] := hD
  obtain rfl := Option.some.inj hf
  exact W.vret (pc := 9) hx hb hr (fun t ht hW => ⟨⟨(), rfl, trivial, zz_Bi (by rw [ht]; exact hP) (va_K.moved hW.alike hK) (hD)⟩, hS.F ht⟩) hS.2.2 dX2_forget_9

def zf_X2_useWind (n : Nat) (f_o_wind : Int32) (b_o_told : (Nat → Int32)) (p1 : Int32) : Option (Int32 × (Nat → Int32)) :=
  if p1 = f_o_wind then
    some (f_o_wind, b_o_told)
  else
    zd_1 (zf_X2_forget n b_o_told) (fun a1 =>
    some (p1, a1))
theorem zk_X2_useWind : yX2_useWind.cls = RX2 ∧ yX2_useWind.cls ≠ "java/lang/invoke/MethodHandle" ∧ yX2_useWind.cls ≠ "java/lang/invoke/VarHandle" ∧ (parseMethodDescriptor yX2_useWind.desc).map (fun d => d.parameters.length) = some 1 := by decide +kernel
set_option maxHeartbeats 4000000 in
set_option maxRecDepth 100000 in
theorem zt_X2_useWind (l : Launch) (dC : Nat → ClassId) (dI : Nat → Nat → Nat) (dA : Nat → ClassId) (adK adV : Nat → Nat) (sz : Nat) (a_o : Nat) (a_c : Nat) (a_o_told : Nat) (a_o_facts : Nat) (a_o_stack : Nat) (n : Nat) (f_o_wind : Int32) (b_o_told : (Nat → Int32)) (p1 : Int32) (o1 : Int32) (o2 : (Nat → Int32)) (hf : zf_X2_useWind n f_o_wind b_o_told p1 = some (o1, o2)) : Met l yX2_useWind (.code yX2_useWind cX2_useWind 2 none :: zq_T) ({ frames := 2, cells := 0, slots := 0, locals := 43 }) (va_Pc [.ref a_o, .int p1] (zx_M dC dI dA adK adV [zo_X2 a_o a_c a_o_told a_o_facts a_o_stack f_o_wind, (a_o_told, .inl (dA 0, 315, .inl b_o_told))] sz)) (va_Qv (fun _ : Unit => True) (fun _ t => zz_B dC dI dA (va_A [zo_X2 a_o a_c a_o_told a_o_facts a_o_stack f_o_wind, (a_o_told, .inl (dA 0, 315, .inl b_o_told))] sz) [zo_X2 a_o a_c a_o_told a_o_facts a_o_stack o1, (a_o_told, .inl (dA 0, 315, .inl o2))] t) (va_A [zo_X2 a_o a_c a_o_told a_o_facts a_o_stack f_o_wind, (a_o_told, .inl (dA 0, 315, .inl b_o_told))] sz)) 0 0 (va_A [zo_X2 a_o a_c a_o_told a_o_facts a_o_stack f_o_wind, (a_o_told, .inl (dA 0, 315, .inl b_o_told))] sz) := by
  unfold zf_X2_useWind at hf
  refine Met.ofW (cc := cX2_useWind) (maxL := 2) (ret := none) (by decide) rfl ?_
  intro p e s m args below meth c s₁ B hml hv
  obtain ⟨rfl, ⟨hsz, hP, hK, hD0⟩, hZ⟩ := hv
  have hx := B.exec
  have hb := B.bytes
  have hr := B.returns
  have ht : ∀ w ∈ zq_T, w.before ([.ref a_o, .int p1] : List Value).toArray s = true := fun w hw => atoms_spec (ws := .code yX2_useWind cX2_useWind 2 none :: zq_T) B.pre w (List.mem_cons_of_mem _ hw)
  have hown : s.vm.findClass RX2 = some m.cls := findClass_of_methodNamed B.named
  have hlocks := B.notSynchronized
  subst hsz
  have hD := hD0.self (sz := s.heap.size)
  generalize hAe : va_A [zo_X2 a_o a_c a_o_told a_o_facts a_o_stack f_o_wind, (a_o_told, .inl (dA 0, 315, .inl b_o_told))] s.heap.size = A at hD hZ ⊢
  have hA : ∀ q : Nat, s.heap.size ≤ q → A q := fun q h => by rw [← hAe]; exact Or.inr h
  clear hAe hD0
  have hS : va_S A s.heap s.heap [] := va_S.rf
  have hl := lv_entry ([.ref a_o, .int p1]) (n := 2) (Nat.le_of_ble_eq_true rfl)
  rw [lg_entry_eq]
  generalize (lg_sl ([.ref a_o, .int p1]) ++ List.replicate (2 - (lg_sl ([.ref a_o, .int p1])).length) Slot.unset).toArray = ls at hl ⊢
  have hl : lv_has ls 2 [(0, .ref a_o), (1, .int p1)] := hl
  refine lv_iload_n (pc := 0) hx hb dX2_useWind_0 rfl (lv_at hl 1 rfl) ?_
  refine lv_aload_n (pc := 1) hx hb dX2_useWind_1 rfl (lv_at hl 0 rfl) ?_
  refine va_get (pc := 2) (D := (dC, dI)) (ci := 3) (v := .int f_o_wind) (C := RX2) (T := TX2) (N := 5) hx hb ht zq_layX2 hown hK hP 0 rfl rfl 4 (by decide) (ht _ zq_110) (fun _ h9 => h9) rfl dX2_useWind_2 ?_
  refine lv_icmp_eq (tgt := 17) (pc := 5) hx hb dX2_useWind_5 rfl (fun hc => ?_) (fun hc => ?_)
  · have hf := za_t hf hc
    obtain ⟨rfl, rfl⟩ := zi_2 hf
    exact W.vret (pc := 17) hx hb hr (fun t ht hW => ⟨⟨(), rfl, trivial, zz_Bi (by rw [ht]; exact hP) (va_K.moved hW.alike hK) (hD)⟩, hS.F ht⟩) hS.2.2 dX2_useWind_17
  · have hf := za_f hf hc
    refine lv_aload_n (pc := 8) hx hb dX2_useWind_8 rfl (lv_at hl 0 rfl) ?_
    refine lv_iload_n (pc := 9) hx hb dX2_useWind_9 rfl (lv_at hl 1 rfl) ?_
    refine va_put (pc := 10) (D := (dC, dI)) (ci := 3) (v := .int p1) (ty := .int) (C := RX2) (T := TX2) (N := 5) hx hb ht zq_layX2 tyX2 tyX2_ok nmX2 hown hK hP hD hS 0 rfl rfl 4 (by decide) (ht _ zq_110) (fun _ h9 => h9) rfl (by decide +kernel) rfl rfl (Nat.le_of_ble_eq_true rfl) dX2_useWind_10 (fun H locs hP hD hS => ?_)
    have hP : va_P (dC, dI) zz_cls [zo_X2 a_o a_c a_o_told a_o_facts a_o_stack p1, (a_o_told, .inl (dA 0, 315, .inl b_o_told))] H := hP
    have hD : va_D A [zo_X2 a_o a_c a_o_told a_o_facts a_o_stack p1, (a_o_told, .inl (dA 0, 315, .inl b_o_told))] := hD
    refine lv_aload_n (pc := 13) hx hb dX2_useWind_13 rfl (lv_at hl 0 rfl) ?_
    obtain ⟨a1, ha1, hf⟩ := zc_1 hf
    refine zx_Vv (pc := 14) (wc := [zo_X2 a_o a_c a_o_told a_o_facts a_o_stack p1, (a_o_told, .inl (dA 0, 315, .inl b_o_told))]) (wr := []) (w1 := [zo_X2 a_o a_c a_o_told a_o_facts a_o_stack p1, (a_o_told, .inl (dA 0, 315, .inl a1))]) (As := []) (rest := []) ⟨hx, hb, hml, hown, ht⟩ (zt_X2_forget l dC dI dA adK adV _ a_o a_c a_o_told a_o_facts a_o_stack n p1 b_o_told a1 ha1) (cwV 0 ht (zq_V zq_164 zq_165 zq_166 zq_81 zq_160) rfl rfl rfl zk_X2_forget ⟨Nat.le_of_ble_eq_true rfl, Nat.le_of_ble_eq_true rfl⟩) rfl rfl hZ hK hP hD hS hA [0, 1] [] (by decide) (by decide) (by decide) rfl rfl rfl hl.1 (Nat.le_of_ble_eq_true rfl) dX2_useWind_14 ⟨Nat.zero_le _, Nat.zero_le _⟩ rfl (fun H locs hP hD hS => ?_)
    have hP : va_P (dC, dI) zz_cls [zo_X2 a_o a_c a_o_told a_o_facts a_o_stack p1, (a_o_told, .inl (dA 0, 315, .inl a1))] H := hP
    have hD : va_D A [zo_X2 a_o a_c a_o_told a_o_facts a_o_stack p1, (a_o_told, .inl (dA 0, 315, .inl a1))] := hD
    obtain ⟨rfl, rfl⟩ := zi_2 hf
    exact W.vret (pc := 17) hx hb hr (fun t ht hW => ⟨⟨(), rfl, trivial, zz_Bi (by rw [ht]; exact hP) (va_K.moved hW.alike hK) (hD)⟩, hS.F ht⟩) hS.2.2 dX2_useWind_17

def zf_X3_takeRefusal (b_c_bars : (Nat → Int32)) (b_c_gives : (Nat → Int32)) (p1 : Int32) (p2 : Int32) (p3 : Int32) : Option (Int32) :=
  if (p2 &&& p3) = 0 then
    zd_1 (za_ld b_c_gives 9 p1) (fun v1 =>
    if (v1 &&& p3) = 0 then
      some (2 : Int32)
    else
      zd_1 (za_ld b_c_bars 9 p1) (fun v2 =>
      if (v2 &&& p3) = 0 then
        some (0 : Int32)
      else
        some (3 : Int32)))
  else
    some (2 : Int32)
theorem zk_X3_takeRefusal : yX3_takeRefusal.cls = RX3 ∧ yX3_takeRefusal.cls ≠ "java/lang/invoke/MethodHandle" ∧ yX3_takeRefusal.cls ≠ "java/lang/invoke/VarHandle" ∧ (parseMethodDescriptor yX3_takeRefusal.desc).map (fun d => d.parameters.length) = some 3 := by decide +kernel
set_option maxHeartbeats 4000000 in
set_option maxRecDepth 100000 in
theorem zt_X3_takeRefusal (l : Launch) (dC : Nat → ClassId) (dI : Nat → Nat → Nat) (dA : Nat → ClassId) (adK adV : Nat → Nat) (sz : Nat) (a_o : Nat) (a_c : Nat) (a_w : Nat) (a_o_deeds : Nat) (a_o_ends : Nat) (a_c_bars : Nat) (a_c_gives : Nat) (a_c_rough : Nat) (a_c_code : Nat) (f_o_found : Int32) (f_c_top : Int32) (f_c_things : Int32) (f_c_startRung : Int32) (f_c_startThings : Int32) (f_c_startStrength : Int32) (f_c_startWind : Int32) (f_c_slips : Int32) (f_c_lines : Int32) (f_c_coded : Int32) (f_c_tiresFrom : Int32) (f_c_tiresTo : Int32) (f_c_mayFrom : Int32) (f_c_mayTo : Int32) (b_c_bars : (Nat → Int32)) (b_c_gives : (Nat → Int32)) (p1 : Int32) (p2 : Int32) (p3 : Int32) (r0 : Int32) (hf : zf_X3_takeRefusal b_c_bars b_c_gives p1 p2 p3 = some r0) : Met l yX3_takeRefusal (.code yX3_takeRefusal cX3_takeRefusal 4 (some .int) :: zq_T) ({ frames := 0, cells := 0, slots := 0, locals := 0 }) (va_Pc [.ref a_o, .int p1, .int p2, .int p3] (zx_M dC dI dA adK adV [zo_X3 a_o a_c a_w a_o_deeds a_o_ends f_o_found, zo_X0 a_c f_c_top f_c_things a_c_bars a_c_gives a_c_rough f_c_startRung f_c_startThings f_c_startStrength f_c_startWind f_c_slips f_c_lines a_c_code f_c_coded f_c_tiresFrom f_c_tiresTo f_c_mayFrom f_c_mayTo, (a_c_bars, .inl (dA 0, 9, .inl b_c_bars)), (a_c_gives, .inl (dA 0, 9, .inl b_c_gives))] sz)) (va_Qi (fun (r : Int32) (_ : Unit) => r = r0) (fun _ t => zz_B dC dI dA (va_A [zo_X3 a_o a_c a_w a_o_deeds a_o_ends f_o_found, zo_X0 a_c f_c_top f_c_things a_c_bars a_c_gives a_c_rough f_c_startRung f_c_startThings f_c_startStrength f_c_startWind f_c_slips f_c_lines a_c_code f_c_coded f_c_tiresFrom f_c_tiresTo f_c_mayFrom f_c_mayTo, (a_c_bars, .inl (dA 0, 9, .inl b_c_bars)), (a_c_gives, .inl (dA 0, 9, .inl b_c_gives))] sz) [zo_X3 a_o a_c a_w a_o_deeds a_o_ends f_o_found, zo_X0 a_c f_c_top f_c_things a_c_bars a_c_gives a_c_rough f_c_startRung f_c_startThings f_c_startStrength f_c_startWind f_c_slips f_c_lines a_c_code f_c_coded f_c_tiresFrom f_c_tiresTo f_c_mayFrom f_c_mayTo, (a_c_bars, .inl (dA 0, 9, .inl b_c_bars)), (a_c_gives, .inl (dA 0, 9, .inl b_c_gives))] t) (va_A [zo_X3 a_o a_c a_w a_o_deeds a_o_ends f_o_found, zo_X0 a_c f_c_top f_c_things a_c_bars a_c_gives a_c_rough f_c_startRung f_c_startThings f_c_startStrength f_c_startWind f_c_slips f_c_lines a_c_code f_c_coded f_c_tiresFrom f_c_tiresTo f_c_mayFrom f_c_mayTo, (a_c_bars, .inl (dA 0, 9, .inl b_c_bars)), (a_c_gives, .inl (dA 0, 9, .inl b_c_gives))] sz)) 0 0 (va_A [zo_X3 a_o a_c a_w a_o_deeds a_o_ends f_o_found, zo_X0 a_c f_c_top f_c_things a_c_bars a_c_gives a_c_rough f_c_startRung f_c_startThings f_c_startStrength f_c_startWind f_c_slips f_c_lines a_c_code f_c_coded f_c_tiresFrom f_c_tiresTo f_c_mayFrom f_c_mayTo, (a_c_bars, .inl (dA 0, 9, .inl b_c_bars)), (a_c_gives, .inl (dA 0, 9, .inl b_c_gives))] sz) := by
  unfold zf_X3_takeRefusal at hf
  refine Met.ofW (cc := cX3_takeRefusal) (maxL := 4) (ret := (some .int)) (by decide) rfl ?_
  intro p e s m args below meth c s₁ B hml hv
  obtain ⟨rfl, ⟨hsz, hP, hK, hD0⟩, hZ⟩ := hv
  have hx := B.exec
  have hb := B.bytes
  have hr := B.returns
  have ht : ∀ w ∈ zq_T, w.before ([.ref a_o, .int p1, .int p2, .int p3] : List Value).toArray s = true := fun w hw => atoms_spec (ws := .code yX3_takeRefusal cX3_takeRefusal 4 (some .int) :: zq_T) B.pre w (List.mem_cons_of_mem _ hw)
  have hown : s.vm.findClass RX3 = some m.cls := findClass_of_methodNamed B.named
  have hlocks := B.notSynchronized
  subst hsz
  have hD := hD0.self (sz := s.heap.size)
  generalize hAe : va_A [zo_X3 a_o a_c a_w a_o_deeds a_o_ends f_o_found, zo_X0 a_c f_c_top f_c_things a_c_bars a_c_gives a_c_rough f_c_startRung f_c_startThings f_c_startStrength f_c_startWind f_c_slips f_c_lines a_c_code f_c_coded f_c_tiresFrom f_c_tiresTo f_c_mayFrom f_c_mayTo, (a_c_bars, .inl (dA 0, 9, .inl b_c_bars)), (a_c_gives, .inl (dA 0, 9, .inl b_c_gives))] s.heap.size = A at hD hZ ⊢
  have hA : ∀ q : Nat, s.heap.size ≤ q → A q := fun q h => by rw [← hAe]; exact Or.inr h
  clear hAe hD0
  have hS : va_S A s.heap s.heap [] := va_S.rf
  have hl := lv_entry ([.ref a_o, .int p1, .int p2, .int p3]) (n := 4) (Nat.le_of_ble_eq_true rfl)
  rw [lg_entry_eq]
  generalize (lg_sl ([.ref a_o, .int p1, .int p2, .int p3]) ++ List.replicate (4 - (lg_sl ([.ref a_o, .int p1, .int p2, .int p3])).length) Slot.unset).toArray = ls at hl ⊢
  have hl : lv_has ls 4 [(0, .ref a_o), (1, .int p1), (2, .int p2), (3, .int p3)] := hl
  refine lv_iload_n (pc := 0) hx hb dX3_takeRefusal_0 rfl (lv_at hl 2 rfl) ?_
  refine lv_iload_n (pc := 1) hx hb dX3_takeRefusal_1 rfl (lv_at hl 3 rfl) ?_
  refine lv_iand (pc := 2) hx hb dX3_takeRefusal_2 ?_
  refine lv_if_ne (tgt := 20) (pc := 3) hx hb dX3_takeRefusal_3 rfl (fun hc => ?_) (fun hc => ?_)
  · have hf := za_f hf hc
    refine lv_iconst (v := (2 : Int32)) (pc := 20) hx hb dX3_takeRefusal_20 (by decide) ?_
    obtain rfl := Option.some.inj hf
    exact W.iret (pc := 21) hx hb hr (fun t ht hW => ⟨⟨_, (), rfl, rfl, zz_Bi (by rw [ht]; exact hP) (va_K.moved hW.alike hK) (hD)⟩, hS.F ht⟩) hS.2.2 dX3_takeRefusal_21
  · have hf := za_t hf hc
    refine lv_aload_n (pc := 6) hx hb dX3_takeRefusal_6 rfl (lv_at hl 0 rfl) ?_
    refine va_get (pc := 7) (D := (dC, dI)) (ci := 4) (v := .ref a_c) (C := RX3) (T := TX3) (N := 5) hx hb ht zq_layX3 hown hK hP 0 rfl rfl 0 (by decide) (ht _ zq_54) (fun _ h9 => h9) rfl dX3_takeRefusal_7 ?_
    refine va_get (pc := 10) (D := (dC, dI)) (ci := 1) (v := .ref a_c_gives) (C := RX0) (T := TX0) (N := 17) hx hb ht zq_layX0 hown hK hP 1 rfl rfl 3 (by decide) (ht _ zq_55) (fun _ h9 => h9) rfl dX3_takeRefusal_10 ?_
    refine lv_iload_n (pc := 13) hx hb dX3_takeRefusal_13 rfl (lv_at hl 1 rfl) ?_
    obtain ⟨v1, hv1, hf⟩ := zc_1 hf
    refine zw_iald (pc := 14) hx hb hK hP 3 0 rfl rfl hv1 dX3_takeRefusal_14 ?_
    refine lv_iload_n (pc := 15) hx hb dX3_takeRefusal_15 rfl (lv_at hl 3 rfl) ?_
    refine lv_iand (pc := 16) hx hb dX3_takeRefusal_16 ?_
    refine lv_if_ne (tgt := 22) (pc := 17) hx hb dX3_takeRefusal_17 rfl (fun hc => ?_) (fun hc => ?_)
    · have hf := za_f hf hc
      refine lv_aload_n (pc := 22) hx hb dX3_takeRefusal_22 rfl (lv_at hl 0 rfl) ?_
      refine va_get (pc := 23) (D := (dC, dI)) (ci := 4) (v := .ref a_c) (C := RX3) (T := TX3) (N := 5) hx hb ht zq_layX3 hown hK hP 0 rfl rfl 0 (by decide) (ht _ zq_54) (fun _ h9 => h9) rfl dX3_takeRefusal_23 ?_
      refine va_get (pc := 26) (D := (dC, dI)) (ci := 1) (v := .ref a_c_bars) (C := RX0) (T := TX0) (N := 17) hx hb ht zq_layX0 hown hK hP 1 rfl rfl 2 (by decide) (ht _ zq_56) (fun _ h9 => h9) rfl dX3_takeRefusal_26 ?_
      refine lv_iload_n (pc := 29) hx hb dX3_takeRefusal_29 rfl (lv_at hl 1 rfl) ?_
      obtain ⟨v2, hv2, hf⟩ := zc_1 hf
      refine zw_iald (pc := 30) hx hb hK hP 2 0 rfl rfl hv2 dX3_takeRefusal_30 ?_
      refine lv_iload_n (pc := 31) hx hb dX3_takeRefusal_31 rfl (lv_at hl 3 rfl) ?_
      refine lv_iand (pc := 32) hx hb dX3_takeRefusal_32 ?_
      refine lv_if_eq (tgt := 40) (pc := 33) hx hb dX3_takeRefusal_33 rfl (fun hc => ?_) (fun hc => ?_)
      · have hf := za_t hf hc
        refine lv_iconst (v := (0 : Int32)) (pc := 40) hx hb dX3_takeRefusal_40 (by decide) ?_
        obtain rfl := Option.some.inj hf
        exact W.iret (pc := 41) hx hb hr (fun t ht hW => ⟨⟨_, (), rfl, rfl, zz_Bi (by rw [ht]; exact hP) (va_K.moved hW.alike hK) (hD)⟩, hS.F ht⟩) hS.2.2 dX3_takeRefusal_41
      · have hf := za_f hf hc
        refine lv_iconst (v := (3 : Int32)) (pc := 36) hx hb dX3_takeRefusal_36 (by decide) ?_
        refine lv_goto (tgt := 41) (pc := 37) hx hb dX3_takeRefusal_37 rfl ?_
        obtain rfl := Option.some.inj hf
        exact W.iret (pc := 41) hx hb hr (fun t ht hW => ⟨⟨_, (), rfl, rfl, zz_Bi (by rw [ht]; exact hP) (va_K.moved hW.alike hK) (hD)⟩, hS.F ht⟩) hS.2.2 dX3_takeRefusal_41
    · have hf := za_t hf hc
      refine lv_iconst (v := (2 : Int32)) (pc := 20) hx hb dX3_takeRefusal_20 (by decide) ?_
      obtain rfl := Option.some.inj hf
      exact W.iret (pc := 21) hx hb hr (fun t ht hW => ⟨⟨_, (), rfl, rfl, zz_Bi (by rw [ht]; exact hP) (va_K.moved hW.alike hK) (hD)⟩, hS.F ht⟩) hS.2.2 dX3_takeRefusal_21

def zf_X3_refusal (n : Nat) (f_c_top : Int32) (f_c_things : Int32) (f_c_tiresFrom : Int32) (f_c_tiresTo : Int32) (f_c_mayFrom : Int32) (f_c_mayTo : Int32) (b_c_bars : (Nat → Int32)) (b_c_gives : (Nat → Int32)) (b_c_rough : (Nat → Int32)) (b_c_code : (Nat → Int32)) (f_w_wind : Int32) (b_w_told : (Nat → Int32)) (b_w_facts : (Nat → Int32)) (b_w_stack : (Nat → Int32)) (p1 : Int32) (p2 : Int32) : Option (Int32 × (Nat → Int32) × (Nat → Int32) × (Nat → Int32)) :=
  zd_1 (zf_X10_rungOf p1) (fun v1 =>
  zd_1 (zf_X10_thingsOf p1) (fun v2 =>
  if p2 = 0 then
    some ((0 : Int32), b_w_told, b_w_facts, b_w_stack)
  else
    if p2 = (1 : Int32) then
      zd_1 (zf_X3_entryRefusal f_c_top b_c_bars (v1 + (1 : Int32)) v2) (fun v3 =>
      if v3 = 0 then
        zd_4 (zf_X2_strengthAbove n f_w_wind f_c_top f_c_things f_c_tiresFrom f_c_tiresTo f_c_mayFrom f_c_mayTo b_c_bars b_c_rough b_c_code b_w_told b_w_facts b_w_stack p1) (fun v4 a5 a6 a7 =>
        if v4 = (-1 : Int32) then
          some ((4 : Int32), a5, a6, a7)
        else
          some (v3, a5, a6, a7))
      else
        some (v3, b_w_told, b_w_facts, b_w_stack))
    else
      if p2 = (2 : Int32) then
        zd_1 (zf_X3_entryRefusal f_c_top b_c_bars (v1 - (1 : Int32)) v2) (fun v8 =>
        some (v8, b_w_told, b_w_facts, b_w_stack))
      else
        zd_1 (zf_X0_isThing f_c_things (p2 - (10 : Int32))) (fun v9 =>
        if v9 = 0 then
          zd_1 (zf_X0_isThing f_c_things (p2 - (20 : Int32))) (fun v10 =>
          if v10 = 0 then
            some ((1 : Int32), b_w_told, b_w_facts, b_w_stack)
          else
            zd_1 (zf_X3_takeRefusal b_c_bars b_c_gives v1 v2 ((1 : Int32) <<< ((p2 - (20 : Int32)) &&& 31))) (fun v11 =>
            some (v11, b_w_told, b_w_facts, b_w_stack)))
        else
          if ((v2 >>> ((p2 - (10 : Int32)) &&& 31)) &&& (1 : Int32)) = 0 then
            some ((2 : Int32), b_w_told, b_w_facts, b_w_stack)
          else
            some ((0 : Int32), b_w_told, b_w_facts, b_w_stack))))
theorem zk_X3_refusal : yX3_refusal.cls = RX3 ∧ yX3_refusal.cls ≠ "java/lang/invoke/MethodHandle" ∧ yX3_refusal.cls ≠ "java/lang/invoke/VarHandle" ∧ (parseMethodDescriptor yX3_refusal.desc).map (fun d => d.parameters.length) = some 2 := by decide +kernel
set_option maxHeartbeats 4000000 in
set_option maxRecDepth 100000 in
theorem zt_X3_refusal (l : Launch) (dC : Nat → ClassId) (dI : Nat → Nat → Nat) (dA : Nat → ClassId) (adK adV : Nat → Nat) (sz : Nat) (a_o : Nat) (a_c : Nat) (a_w : Nat) (a_o_deeds : Nat) (a_o_ends : Nat) (a_c_bars : Nat) (a_c_gives : Nat) (a_c_rough : Nat) (a_c_code : Nat) (a_w_told : Nat) (a_w_facts : Nat) (a_w_stack : Nat) (n : Nat) (f_o_found : Int32) (f_c_top : Int32) (f_c_things : Int32) (f_c_startRung : Int32) (f_c_startThings : Int32) (f_c_startStrength : Int32) (f_c_startWind : Int32) (f_c_slips : Int32) (f_c_lines : Int32) (f_c_coded : Int32) (f_c_tiresFrom : Int32) (f_c_tiresTo : Int32) (f_c_mayFrom : Int32) (f_c_mayTo : Int32) (f_w_wind : Int32) (b_c_bars : (Nat → Int32)) (b_c_gives : (Nat → Int32)) (b_c_rough : (Nat → Int32)) (b_c_code : (Nat → Int32)) (b_w_told : (Nat → Int32)) (b_w_facts : (Nat → Int32)) (b_w_stack : (Nat → Int32)) (p1 : Int32) (p2 : Int32) (r0 : Int32) (o1 : (Nat → Int32)) (o2 : (Nat → Int32)) (o3 : (Nat → Int32)) (hf : zf_X3_refusal n f_c_top f_c_things f_c_tiresFrom f_c_tiresTo f_c_mayFrom f_c_mayTo b_c_bars b_c_gives b_c_rough b_c_code f_w_wind b_w_told b_w_facts b_w_stack p1 p2 = some (r0, o1, o2, o3)) : Met l yX3_refusal (.code yX3_refusal cX3_refusal 6 (some .int) :: zq_T) ({ frames := 4, cells := 0, slots := 0, locals := 128 }) (va_Pc [.ref a_o, .int p1, .int p2] (zx_M dC dI dA adK adV [zo_X3 a_o a_c a_w a_o_deeds a_o_ends f_o_found, zo_X0 a_c f_c_top f_c_things a_c_bars a_c_gives a_c_rough f_c_startRung f_c_startThings f_c_startStrength f_c_startWind f_c_slips f_c_lines a_c_code f_c_coded f_c_tiresFrom f_c_tiresTo f_c_mayFrom f_c_mayTo, (a_c_bars, .inl (dA 0, 9, .inl b_c_bars)), (a_c_gives, .inl (dA 0, 9, .inl b_c_gives)), (a_c_rough, .inl (dA 0, 9, .inl b_c_rough)), (a_c_code, .inl (dA 0, 900, .inl b_c_code)), zo_X2 a_w a_c a_w_told a_w_facts a_w_stack f_w_wind, (a_w_told, .inl (dA 0, 315, .inl b_w_told)), (a_w_facts, .inl (dA 0, 6, .inl b_w_facts)), (a_w_stack, .inl (dA 0, 64, .inl b_w_stack))] sz)) (va_Qi (fun (r : Int32) (_ : Unit) => r = r0) (fun _ t => zz_B dC dI dA (va_A [zo_X3 a_o a_c a_w a_o_deeds a_o_ends f_o_found, zo_X0 a_c f_c_top f_c_things a_c_bars a_c_gives a_c_rough f_c_startRung f_c_startThings f_c_startStrength f_c_startWind f_c_slips f_c_lines a_c_code f_c_coded f_c_tiresFrom f_c_tiresTo f_c_mayFrom f_c_mayTo, (a_c_bars, .inl (dA 0, 9, .inl b_c_bars)), (a_c_gives, .inl (dA 0, 9, .inl b_c_gives)), (a_c_rough, .inl (dA 0, 9, .inl b_c_rough)), (a_c_code, .inl (dA 0, 900, .inl b_c_code)), zo_X2 a_w a_c a_w_told a_w_facts a_w_stack f_w_wind, (a_w_told, .inl (dA 0, 315, .inl b_w_told)), (a_w_facts, .inl (dA 0, 6, .inl b_w_facts)), (a_w_stack, .inl (dA 0, 64, .inl b_w_stack))] sz) [zo_X3 a_o a_c a_w a_o_deeds a_o_ends f_o_found, zo_X0 a_c f_c_top f_c_things a_c_bars a_c_gives a_c_rough f_c_startRung f_c_startThings f_c_startStrength f_c_startWind f_c_slips f_c_lines a_c_code f_c_coded f_c_tiresFrom f_c_tiresTo f_c_mayFrom f_c_mayTo, (a_c_bars, .inl (dA 0, 9, .inl b_c_bars)), (a_c_gives, .inl (dA 0, 9, .inl b_c_gives)), (a_c_rough, .inl (dA 0, 9, .inl b_c_rough)), (a_c_code, .inl (dA 0, 900, .inl b_c_code)), zo_X2 a_w a_c a_w_told a_w_facts a_w_stack f_w_wind, (a_w_told, .inl (dA 0, 315, .inl o1)), (a_w_facts, .inl (dA 0, 6, .inl o2)), (a_w_stack, .inl (dA 0, 64, .inl o3))] t) (va_A [zo_X3 a_o a_c a_w a_o_deeds a_o_ends f_o_found, zo_X0 a_c f_c_top f_c_things a_c_bars a_c_gives a_c_rough f_c_startRung f_c_startThings f_c_startStrength f_c_startWind f_c_slips f_c_lines a_c_code f_c_coded f_c_tiresFrom f_c_tiresTo f_c_mayFrom f_c_mayTo, (a_c_bars, .inl (dA 0, 9, .inl b_c_bars)), (a_c_gives, .inl (dA 0, 9, .inl b_c_gives)), (a_c_rough, .inl (dA 0, 9, .inl b_c_rough)), (a_c_code, .inl (dA 0, 900, .inl b_c_code)), zo_X2 a_w a_c a_w_told a_w_facts a_w_stack f_w_wind, (a_w_told, .inl (dA 0, 315, .inl b_w_told)), (a_w_facts, .inl (dA 0, 6, .inl b_w_facts)), (a_w_stack, .inl (dA 0, 64, .inl b_w_stack))] sz)) 0 0 (va_A [zo_X3 a_o a_c a_w a_o_deeds a_o_ends f_o_found, zo_X0 a_c f_c_top f_c_things a_c_bars a_c_gives a_c_rough f_c_startRung f_c_startThings f_c_startStrength f_c_startWind f_c_slips f_c_lines a_c_code f_c_coded f_c_tiresFrom f_c_tiresTo f_c_mayFrom f_c_mayTo, (a_c_bars, .inl (dA 0, 9, .inl b_c_bars)), (a_c_gives, .inl (dA 0, 9, .inl b_c_gives)), (a_c_rough, .inl (dA 0, 9, .inl b_c_rough)), (a_c_code, .inl (dA 0, 900, .inl b_c_code)), zo_X2 a_w a_c a_w_told a_w_facts a_w_stack f_w_wind, (a_w_told, .inl (dA 0, 315, .inl b_w_told)), (a_w_facts, .inl (dA 0, 6, .inl b_w_facts)), (a_w_stack, .inl (dA 0, 64, .inl b_w_stack))] sz) := by
  unfold zf_X3_refusal at hf
  refine Met.ofW (cc := cX3_refusal) (maxL := 6) (ret := (some .int)) (by decide) rfl ?_
  intro p e s m args below meth c s₁ B hml hv
  obtain ⟨rfl, ⟨hsz, hP, hK, hD0⟩, hZ⟩ := hv
  have hx := B.exec
  have hb := B.bytes
  have hr := B.returns
  have ht : ∀ w ∈ zq_T, w.before ([.ref a_o, .int p1, .int p2] : List Value).toArray s = true := fun w hw => atoms_spec (ws := .code yX3_refusal cX3_refusal 6 (some .int) :: zq_T) B.pre w (List.mem_cons_of_mem _ hw)
  have hown : s.vm.findClass RX3 = some m.cls := findClass_of_methodNamed B.named
  have hlocks := B.notSynchronized
  subst hsz
  have hD := hD0.self (sz := s.heap.size)
  generalize hAe : va_A [zo_X3 a_o a_c a_w a_o_deeds a_o_ends f_o_found, zo_X0 a_c f_c_top f_c_things a_c_bars a_c_gives a_c_rough f_c_startRung f_c_startThings f_c_startStrength f_c_startWind f_c_slips f_c_lines a_c_code f_c_coded f_c_tiresFrom f_c_tiresTo f_c_mayFrom f_c_mayTo, (a_c_bars, .inl (dA 0, 9, .inl b_c_bars)), (a_c_gives, .inl (dA 0, 9, .inl b_c_gives)), (a_c_rough, .inl (dA 0, 9, .inl b_c_rough)), (a_c_code, .inl (dA 0, 900, .inl b_c_code)), zo_X2 a_w a_c a_w_told a_w_facts a_w_stack f_w_wind, (a_w_told, .inl (dA 0, 315, .inl b_w_told)), (a_w_facts, .inl (dA 0, 6, .inl b_w_facts)), (a_w_stack, .inl (dA 0, 64, .inl b_w_stack))] s.heap.size = A at hD hZ ⊢
  have hA : ∀ q : Nat, s.heap.size ≤ q → A q := fun q h => by rw [← hAe]; exact Or.inr h
  clear hAe hD0
  have hS : va_S A s.heap s.heap [] := va_S.rf
  have hl := lv_entry ([.ref a_o, .int p1, .int p2]) (n := 6) (Nat.le_of_ble_eq_true rfl)
  rw [lg_entry_eq]
  generalize (lg_sl ([.ref a_o, .int p1, .int p2]) ++ List.replicate (6 - (lg_sl ([.ref a_o, .int p1, .int p2])).length) Slot.unset).toArray = ls at hl ⊢
  have hl : lv_has ls 6 [(0, .ref a_o), (1, .int p1), (2, .int p2)] := hl
  refine lv_iload_n (pc := 0) hx hb dX3_refusal_0 rfl (lv_at hl 1 rfl) ?_
  obtain ⟨v1, hv1, hf⟩ := zc_1 hf
  refine zx_Ni (pc := 1) (wc := []) (wr := [zo_X3 a_o a_c a_w a_o_deeds a_o_ends f_o_found, zo_X0 a_c f_c_top f_c_things a_c_bars a_c_gives a_c_rough f_c_startRung f_c_startThings f_c_startStrength f_c_startWind f_c_slips f_c_lines a_c_code f_c_coded f_c_tiresFrom f_c_tiresTo f_c_mayFrom f_c_mayTo, (a_c_bars, .inl (dA 0, 9, .inl b_c_bars)), (a_c_gives, .inl (dA 0, 9, .inl b_c_gives)), (a_c_rough, .inl (dA 0, 9, .inl b_c_rough)), (a_c_code, .inl (dA 0, 900, .inl b_c_code)), zo_X2 a_w a_c a_w_told a_w_facts a_w_stack f_w_wind, (a_w_told, .inl (dA 0, 315, .inl b_w_told)), (a_w_facts, .inl (dA 0, 6, .inl b_w_facts)), (a_w_stack, .inl (dA 0, 64, .inl b_w_stack))]) (w1 := []) (As := [.int p1]) (rest := []) ⟨hx, hb, hml, hown, ht⟩ (zt_X10_rungOf l dC dI dA adK adV _ p1 v1 hv1) ⟨va_cnB 1 ht (zq_C zq_59) rfl rfl rfl (hZ.nest 3 rfl) (ht _ zq_58) zk_X10_rungOf.2 ⟨Nat.le_of_ble_eq_true rfl, Nat.le_of_ble_eq_true rfl⟩, ht _ zq_57, trivial⟩ hZ hK hP hD hS hA [] [0, 1, 2, 3, 4, 5, 6, 7, 8, 9] (by decide) (by decide) (by decide) rfl rfl rfl hl.1 (Nat.le_of_ble_eq_true rfl) dX3_refusal_1 ⟨Nat.zero_le _, Nat.zero_le _⟩ rfl (fun H locs hP hD hS => ?_)
  have hP : va_P (dC, dI) zz_cls [zo_X3 a_o a_c a_w a_o_deeds a_o_ends f_o_found, zo_X0 a_c f_c_top f_c_things a_c_bars a_c_gives a_c_rough f_c_startRung f_c_startThings f_c_startStrength f_c_startWind f_c_slips f_c_lines a_c_code f_c_coded f_c_tiresFrom f_c_tiresTo f_c_mayFrom f_c_mayTo, (a_c_bars, .inl (dA 0, 9, .inl b_c_bars)), (a_c_gives, .inl (dA 0, 9, .inl b_c_gives)), (a_c_rough, .inl (dA 0, 9, .inl b_c_rough)), (a_c_code, .inl (dA 0, 900, .inl b_c_code)), zo_X2 a_w a_c a_w_told a_w_facts a_w_stack f_w_wind, (a_w_told, .inl (dA 0, 315, .inl b_w_told)), (a_w_facts, .inl (dA 0, 6, .inl b_w_facts)), (a_w_stack, .inl (dA 0, 64, .inl b_w_stack))] H := hP
  have hD : va_D A [zo_X3 a_o a_c a_w a_o_deeds a_o_ends f_o_found, zo_X0 a_c f_c_top f_c_things a_c_bars a_c_gives a_c_rough f_c_startRung f_c_startThings f_c_startStrength f_c_startWind f_c_slips f_c_lines a_c_code f_c_coded f_c_tiresFrom f_c_tiresTo f_c_mayFrom f_c_mayTo, (a_c_bars, .inl (dA 0, 9, .inl b_c_bars)), (a_c_gives, .inl (dA 0, 9, .inl b_c_gives)), (a_c_rough, .inl (dA 0, 9, .inl b_c_rough)), (a_c_code, .inl (dA 0, 900, .inl b_c_code)), zo_X2 a_w a_c a_w_told a_w_facts a_w_stack f_w_wind, (a_w_told, .inl (dA 0, 315, .inl b_w_told)), (a_w_facts, .inl (dA 0, 6, .inl b_w_facts)), (a_w_stack, .inl (dA 0, 64, .inl b_w_stack))] := hD
  refine lv_istore_n (lv' := [(3, .int v1), (0, .ref a_o), (1, .int p1), (2, .int p2)]) (pc := 4) hx hb dX3_refusal_4 rfl hl (by decide) rfl (fun ls hl => ?_)
  refine lv_iload_n (pc := 5) hx hb dX3_refusal_5 rfl (lv_at hl 2 rfl) ?_
  obtain ⟨v2, hv2, hf⟩ := zc_1 hf
  refine zx_Ni (pc := 6) (wc := []) (wr := [zo_X3 a_o a_c a_w a_o_deeds a_o_ends f_o_found, zo_X0 a_c f_c_top f_c_things a_c_bars a_c_gives a_c_rough f_c_startRung f_c_startThings f_c_startStrength f_c_startWind f_c_slips f_c_lines a_c_code f_c_coded f_c_tiresFrom f_c_tiresTo f_c_mayFrom f_c_mayTo, (a_c_bars, .inl (dA 0, 9, .inl b_c_bars)), (a_c_gives, .inl (dA 0, 9, .inl b_c_gives)), (a_c_rough, .inl (dA 0, 9, .inl b_c_rough)), (a_c_code, .inl (dA 0, 900, .inl b_c_code)), zo_X2 a_w a_c a_w_told a_w_facts a_w_stack f_w_wind, (a_w_told, .inl (dA 0, 315, .inl b_w_told)), (a_w_facts, .inl (dA 0, 6, .inl b_w_facts)), (a_w_stack, .inl (dA 0, 64, .inl b_w_stack))]) (w1 := []) (As := [.int p1]) (rest := []) ⟨hx, hb, hml, hown, ht⟩ (zt_X10_thingsOf l dC dI dA adK adV _ p1 v2 hv2) ⟨va_cnB 1 ht (zq_C zq_61) rfl rfl rfl (hZ.nest 4 rfl) (ht _ zq_58) zk_X10_thingsOf.2 ⟨Nat.le_of_ble_eq_true rfl, Nat.le_of_ble_eq_true rfl⟩, ht _ zq_60, trivial⟩ hZ hK hP hD hS hA [] [0, 1, 2, 3, 4, 5, 6, 7, 8, 9] (by decide) (by decide) (by decide) rfl rfl rfl hl.1 (Nat.le_of_ble_eq_true rfl) dX3_refusal_6 ⟨Nat.zero_le _, Nat.zero_le _⟩ rfl (fun H locs hP hD hS => ?_)
  have hP : va_P (dC, dI) zz_cls [zo_X3 a_o a_c a_w a_o_deeds a_o_ends f_o_found, zo_X0 a_c f_c_top f_c_things a_c_bars a_c_gives a_c_rough f_c_startRung f_c_startThings f_c_startStrength f_c_startWind f_c_slips f_c_lines a_c_code f_c_coded f_c_tiresFrom f_c_tiresTo f_c_mayFrom f_c_mayTo, (a_c_bars, .inl (dA 0, 9, .inl b_c_bars)), (a_c_gives, .inl (dA 0, 9, .inl b_c_gives)), (a_c_rough, .inl (dA 0, 9, .inl b_c_rough)), (a_c_code, .inl (dA 0, 900, .inl b_c_code)), zo_X2 a_w a_c a_w_told a_w_facts a_w_stack f_w_wind, (a_w_told, .inl (dA 0, 315, .inl b_w_told)), (a_w_facts, .inl (dA 0, 6, .inl b_w_facts)), (a_w_stack, .inl (dA 0, 64, .inl b_w_stack))] H := hP
  have hD : va_D A [zo_X3 a_o a_c a_w a_o_deeds a_o_ends f_o_found, zo_X0 a_c f_c_top f_c_things a_c_bars a_c_gives a_c_rough f_c_startRung f_c_startThings f_c_startStrength f_c_startWind f_c_slips f_c_lines a_c_code f_c_coded f_c_tiresFrom f_c_tiresTo f_c_mayFrom f_c_mayTo, (a_c_bars, .inl (dA 0, 9, .inl b_c_bars)), (a_c_gives, .inl (dA 0, 9, .inl b_c_gives)), (a_c_rough, .inl (dA 0, 9, .inl b_c_rough)), (a_c_code, .inl (dA 0, 900, .inl b_c_code)), zo_X2 a_w a_c a_w_told a_w_facts a_w_stack f_w_wind, (a_w_told, .inl (dA 0, 315, .inl b_w_told)), (a_w_facts, .inl (dA 0, 6, .inl b_w_facts)), (a_w_stack, .inl (dA 0, 64, .inl b_w_stack))] := hD
  refine lv_istore (lv' := [(4, .int v2), (3, .int v1), (0, .ref a_o), (1, .int p1), (2, .int p2)]) (pc := 9) hx hb dX3_refusal_9 hl (by decide) rfl (fun ls hl => ?_)
  refine lv_iload_n (pc := 11) hx hb dX3_refusal_11 rfl (lv_at hl 4 rfl) ?_
  refine lv_if_ne (tgt := 17) (pc := 12) hx hb dX3_refusal_12 rfl (fun hc => ?_) (fun hc => ?_)
  · have hf := za_f hf hc
    refine lv_iload_n (pc := 17) hx hb dX3_refusal_17 rfl (lv_at hl 4 rfl) ?_
    refine lv_iconst (v := (1 : Int32)) (pc := 18) hx hb dX3_refusal_18 (by decide) ?_
    refine lv_icmp_ne (tgt := 57) (pc := 19) hx hb dX3_refusal_19 rfl (fun hc => ?_) (fun hc => ?_)
    · have hf := za_f hf hc
      refine lv_iload_n (pc := 57) hx hb dX3_refusal_57 rfl (lv_at hl 4 rfl) ?_
      refine lv_iconst (v := (2 : Int32)) (pc := 58) hx hb dX3_refusal_58 (by decide) ?_
      refine lv_icmp_ne (tgt := 72) (pc := 59) hx hb dX3_refusal_59 rfl (fun hc => ?_) (fun hc => ?_)
      · have hf := za_f hf hc
        refine lv_aload_n (pc := 72) hx hb dX3_refusal_72 rfl (lv_at hl 2 rfl) ?_
        refine va_get (pc := 73) (D := (dC, dI)) (ci := 4) (v := .ref a_c) (C := RX3) (T := TX3) (N := 5) hx hb ht zq_layX3 hown hK hP 0 rfl rfl 0 (by decide) (ht _ zq_54) (fun _ h9 => h9) rfl dX3_refusal_73 ?_
        refine lv_iload_n (pc := 76) hx hb dX3_refusal_76 rfl (lv_at hl 4 rfl) ?_
        refine lv_bipush (v := (10 : Int32)) (pc := 77) hx hb dX3_refusal_77 (by decide) ?_
        refine lv_isub (pc := 79) hx hb dX3_refusal_79 ?_
        obtain ⟨v9, hv9, hf⟩ := zc_1 hf
        refine zx_Vi (pc := 80) (wc := [zo_X0 a_c f_c_top f_c_things a_c_bars a_c_gives a_c_rough f_c_startRung f_c_startThings f_c_startStrength f_c_startWind f_c_slips f_c_lines a_c_code f_c_coded f_c_tiresFrom f_c_tiresTo f_c_mayFrom f_c_mayTo]) (wr := [zo_X3 a_o a_c a_w a_o_deeds a_o_ends f_o_found, (a_c_bars, .inl (dA 0, 9, .inl b_c_bars)), (a_c_gives, .inl (dA 0, 9, .inl b_c_gives)), (a_c_rough, .inl (dA 0, 9, .inl b_c_rough)), (a_c_code, .inl (dA 0, 900, .inl b_c_code)), zo_X2 a_w a_c a_w_told a_w_facts a_w_stack f_w_wind, (a_w_told, .inl (dA 0, 315, .inl b_w_told)), (a_w_facts, .inl (dA 0, 6, .inl b_w_facts)), (a_w_stack, .inl (dA 0, 64, .inl b_w_stack))]) (w1 := [zo_X0 a_c f_c_top f_c_things a_c_bars a_c_gives a_c_rough f_c_startRung f_c_startThings f_c_startStrength f_c_startWind f_c_slips f_c_lines a_c_code f_c_coded f_c_tiresFrom f_c_tiresTo f_c_mayFrom f_c_mayTo]) (As := [.int (p2 - (10 : Int32))]) (rest := []) ⟨hx, hb, hml, hown, ht⟩ (zt_X0_isThing l dC dI dA adK adV _ a_c a_c_bars a_c_gives a_c_rough a_c_code f_c_top f_c_things f_c_startRung f_c_startThings f_c_startStrength f_c_startWind f_c_slips f_c_lines f_c_coded f_c_tiresFrom f_c_tiresTo f_c_mayFrom f_c_mayTo (p2 - (10 : Int32)) v9 hv9) (cwV 1 ht (zq_V zq_171 zq_172 zq_173 zq_77 zq_33) rfl rfl rfl zk_X0_isThing ⟨Nat.le_of_ble_eq_true rfl, Nat.le_of_ble_eq_true rfl⟩) rfl rfl hZ hK hP hD hS hA [1] [0, 2, 3, 4, 5, 6, 7, 8, 9] (by decide) (by decide) (by decide) rfl rfl rfl hl.1 (Nat.le_of_ble_eq_true rfl) dX3_refusal_80 ⟨Nat.zero_le _, Nat.zero_le _⟩ rfl (fun H locs hP hD hS => ?_)
        have hP : va_P (dC, dI) zz_cls [zo_X3 a_o a_c a_w a_o_deeds a_o_ends f_o_found, (a_c_bars, .inl (dA 0, 9, .inl b_c_bars)), (a_c_gives, .inl (dA 0, 9, .inl b_c_gives)), (a_c_rough, .inl (dA 0, 9, .inl b_c_rough)), (a_c_code, .inl (dA 0, 900, .inl b_c_code)), zo_X2 a_w a_c a_w_told a_w_facts a_w_stack f_w_wind, (a_w_told, .inl (dA 0, 315, .inl b_w_told)), (a_w_facts, .inl (dA 0, 6, .inl b_w_facts)), (a_w_stack, .inl (dA 0, 64, .inl b_w_stack)), zo_X0 a_c f_c_top f_c_things a_c_bars a_c_gives a_c_rough f_c_startRung f_c_startThings f_c_startStrength f_c_startWind f_c_slips f_c_lines a_c_code f_c_coded f_c_tiresFrom f_c_tiresTo f_c_mayFrom f_c_mayTo] H := hP
        have hD : va_D A [zo_X3 a_o a_c a_w a_o_deeds a_o_ends f_o_found, (a_c_bars, .inl (dA 0, 9, .inl b_c_bars)), (a_c_gives, .inl (dA 0, 9, .inl b_c_gives)), (a_c_rough, .inl (dA 0, 9, .inl b_c_rough)), (a_c_code, .inl (dA 0, 900, .inl b_c_code)), zo_X2 a_w a_c a_w_told a_w_facts a_w_stack f_w_wind, (a_w_told, .inl (dA 0, 315, .inl b_w_told)), (a_w_facts, .inl (dA 0, 6, .inl b_w_facts)), (a_w_stack, .inl (dA 0, 64, .inl b_w_stack)), zo_X0 a_c f_c_top f_c_things a_c_bars a_c_gives a_c_rough f_c_startRung f_c_startThings f_c_startStrength f_c_startWind f_c_slips f_c_lines a_c_code f_c_coded f_c_tiresFrom f_c_tiresTo f_c_mayFrom f_c_mayTo] := hD
        refine lv_if_eq (tgt := 104) (pc := 83) hx hb dX3_refusal_83 rfl (fun hc => ?_) (fun hc => ?_)
        · have hf := za_t hf hc
          refine lv_aload_n (pc := 104) hx hb dX3_refusal_104 rfl (lv_at hl 2 rfl) ?_
          refine va_get (pc := 105) (D := (dC, dI)) (ci := 4) (v := .ref a_c) (C := RX3) (T := TX3) (N := 5) hx hb ht zq_layX3 hown hK hP 0 rfl rfl 0 (by decide) (ht _ zq_54) (fun _ h9 => h9) rfl dX3_refusal_105 ?_
          refine lv_iload_n (pc := 108) hx hb dX3_refusal_108 rfl (lv_at hl 4 rfl) ?_
          refine lv_bipush (v := (20 : Int32)) (pc := 109) hx hb dX3_refusal_109 (by decide) ?_
          refine lv_isub (pc := 111) hx hb dX3_refusal_111 ?_
          obtain ⟨v10, hv10, hf⟩ := zc_1 hf
          refine zx_Vi (pc := 112) (wc := [zo_X0 a_c f_c_top f_c_things a_c_bars a_c_gives a_c_rough f_c_startRung f_c_startThings f_c_startStrength f_c_startWind f_c_slips f_c_lines a_c_code f_c_coded f_c_tiresFrom f_c_tiresTo f_c_mayFrom f_c_mayTo]) (wr := [zo_X3 a_o a_c a_w a_o_deeds a_o_ends f_o_found, (a_c_bars, .inl (dA 0, 9, .inl b_c_bars)), (a_c_gives, .inl (dA 0, 9, .inl b_c_gives)), (a_c_rough, .inl (dA 0, 9, .inl b_c_rough)), (a_c_code, .inl (dA 0, 900, .inl b_c_code)), zo_X2 a_w a_c a_w_told a_w_facts a_w_stack f_w_wind, (a_w_told, .inl (dA 0, 315, .inl b_w_told)), (a_w_facts, .inl (dA 0, 6, .inl b_w_facts)), (a_w_stack, .inl (dA 0, 64, .inl b_w_stack))]) (w1 := [zo_X0 a_c f_c_top f_c_things a_c_bars a_c_gives a_c_rough f_c_startRung f_c_startThings f_c_startStrength f_c_startWind f_c_slips f_c_lines a_c_code f_c_coded f_c_tiresFrom f_c_tiresTo f_c_mayFrom f_c_mayTo]) (As := [.int (p2 - (20 : Int32))]) (rest := []) ⟨hx, hb, hml, hown, ht⟩ (zt_X0_isThing l dC dI dA adK adV _ a_c a_c_bars a_c_gives a_c_rough a_c_code f_c_top f_c_things f_c_startRung f_c_startThings f_c_startStrength f_c_startWind f_c_slips f_c_lines f_c_coded f_c_tiresFrom f_c_tiresTo f_c_mayFrom f_c_mayTo (p2 - (20 : Int32)) v10 hv10) (cwV 1 ht (zq_V zq_171 zq_172 zq_173 zq_77 zq_33) rfl rfl rfl zk_X0_isThing ⟨Nat.le_of_ble_eq_true rfl, Nat.le_of_ble_eq_true rfl⟩) rfl rfl hZ hK hP hD hS hA [9] [0, 1, 2, 3, 4, 5, 6, 7, 8] (by decide) (by decide) (by decide) rfl rfl rfl hl.1 (Nat.le_of_ble_eq_true rfl) dX3_refusal_112 ⟨Nat.zero_le _, Nat.zero_le _⟩ rfl (fun H locs hP hD hS => ?_)
          have hP : va_P (dC, dI) zz_cls [zo_X3 a_o a_c a_w a_o_deeds a_o_ends f_o_found, (a_c_bars, .inl (dA 0, 9, .inl b_c_bars)), (a_c_gives, .inl (dA 0, 9, .inl b_c_gives)), (a_c_rough, .inl (dA 0, 9, .inl b_c_rough)), (a_c_code, .inl (dA 0, 900, .inl b_c_code)), zo_X2 a_w a_c a_w_told a_w_facts a_w_stack f_w_wind, (a_w_told, .inl (dA 0, 315, .inl b_w_told)), (a_w_facts, .inl (dA 0, 6, .inl b_w_facts)), (a_w_stack, .inl (dA 0, 64, .inl b_w_stack)), zo_X0 a_c f_c_top f_c_things a_c_bars a_c_gives a_c_rough f_c_startRung f_c_startThings f_c_startStrength f_c_startWind f_c_slips f_c_lines a_c_code f_c_coded f_c_tiresFrom f_c_tiresTo f_c_mayFrom f_c_mayTo] H := hP
          have hD : va_D A [zo_X3 a_o a_c a_w a_o_deeds a_o_ends f_o_found, (a_c_bars, .inl (dA 0, 9, .inl b_c_bars)), (a_c_gives, .inl (dA 0, 9, .inl b_c_gives)), (a_c_rough, .inl (dA 0, 9, .inl b_c_rough)), (a_c_code, .inl (dA 0, 900, .inl b_c_code)), zo_X2 a_w a_c a_w_told a_w_facts a_w_stack f_w_wind, (a_w_told, .inl (dA 0, 315, .inl b_w_told)), (a_w_facts, .inl (dA 0, 6, .inl b_w_facts)), (a_w_stack, .inl (dA 0, 64, .inl b_w_stack)), zo_X0 a_c f_c_top f_c_things a_c_bars a_c_gives a_c_rough f_c_startRung f_c_startThings f_c_startStrength f_c_startWind f_c_slips f_c_lines a_c_code f_c_coded f_c_tiresFrom f_c_tiresTo f_c_mayFrom f_c_mayTo] := hD
          refine lv_if_eq (tgt := 132) (pc := 115) hx hb dX3_refusal_115 rfl (fun hc => ?_) (fun hc => ?_)
          · have hf := za_t hf hc
            refine lv_iconst (v := (1 : Int32)) (pc := 132) hx hb dX3_refusal_132 (by decide) ?_
            obtain ⟨rfl, rfl, rfl, rfl⟩ := zi_4 hf
            exact W.iret (pc := 133) hx hb hr (fun t ht hW => ⟨⟨_, (), rfl, rfl, zz_Bi (by rw [ht]; exact hP.sub [0, 9, 1, 2, 3, 4, 5, 6, 7, 8] rfl) (va_K.moved hW.alike hK) (hD.sub [0, 9, 1, 2, 3, 4, 5, 6, 7, 8] (by decide) rfl)⟩, hS.F ht⟩) hS.2.2 dX3_refusal_133
          · have hf := za_f hf hc
            refine lv_aload_n (pc := 118) hx hb dX3_refusal_118 rfl (lv_at hl 2 rfl) ?_
            refine lv_iload_n (pc := 119) hx hb dX3_refusal_119 rfl (lv_at hl 1 rfl) ?_
            refine lv_iload (pc := 120) hx hb dX3_refusal_120 (lv_at hl 0 rfl) ?_
            refine lv_iconst (v := (1 : Int32)) (pc := 122) hx hb dX3_refusal_122 (by decide) ?_
            refine lv_iload_n (pc := 123) hx hb dX3_refusal_123 rfl (lv_at hl 4 rfl) ?_
            refine lv_bipush (v := (20 : Int32)) (pc := 124) hx hb dX3_refusal_124 (by decide) ?_
            refine lv_isub (pc := 126) hx hb dX3_refusal_126 ?_
            refine lv_ishl (pc := 127) hx hb dX3_refusal_127 ?_
            obtain ⟨v11, hv11, hf⟩ := zc_1 hf
            refine zx_Vi (pc := 128) (wc := [zo_X3 a_o a_c a_w a_o_deeds a_o_ends f_o_found, zo_X0 a_c f_c_top f_c_things a_c_bars a_c_gives a_c_rough f_c_startRung f_c_startThings f_c_startStrength f_c_startWind f_c_slips f_c_lines a_c_code f_c_coded f_c_tiresFrom f_c_tiresTo f_c_mayFrom f_c_mayTo, (a_c_bars, .inl (dA 0, 9, .inl b_c_bars)), (a_c_gives, .inl (dA 0, 9, .inl b_c_gives))]) (wr := [(a_c_rough, .inl (dA 0, 9, .inl b_c_rough)), (a_c_code, .inl (dA 0, 900, .inl b_c_code)), zo_X2 a_w a_c a_w_told a_w_facts a_w_stack f_w_wind, (a_w_told, .inl (dA 0, 315, .inl b_w_told)), (a_w_facts, .inl (dA 0, 6, .inl b_w_facts)), (a_w_stack, .inl (dA 0, 64, .inl b_w_stack))]) (w1 := [zo_X3 a_o a_c a_w a_o_deeds a_o_ends f_o_found, zo_X0 a_c f_c_top f_c_things a_c_bars a_c_gives a_c_rough f_c_startRung f_c_startThings f_c_startStrength f_c_startWind f_c_slips f_c_lines a_c_code f_c_coded f_c_tiresFrom f_c_tiresTo f_c_mayFrom f_c_mayTo, (a_c_bars, .inl (dA 0, 9, .inl b_c_bars)), (a_c_gives, .inl (dA 0, 9, .inl b_c_gives))]) (As := [.int v1, .int v2, .int ((1 : Int32) <<< ((p2 - (20 : Int32)) &&& 31))]) (rest := []) ⟨hx, hb, hml, hown, ht⟩ (zt_X3_takeRefusal l dC dI dA adK adV _ a_o a_c a_w a_o_deeds a_o_ends a_c_bars a_c_gives a_c_rough a_c_code f_o_found f_c_top f_c_things f_c_startRung f_c_startThings f_c_startStrength f_c_startWind f_c_slips f_c_lines f_c_coded f_c_tiresFrom f_c_tiresTo f_c_mayFrom f_c_mayTo b_c_bars b_c_gives v1 v2 ((1 : Int32) <<< ((p2 - (20 : Int32)) &&& 31)) v11 hv11) (cwV 3 ht (zq_V zq_174 zq_175 zq_176 zq_50 zq_170) rfl rfl rfl zk_X3_takeRefusal ⟨Nat.le_of_ble_eq_true rfl, Nat.le_of_ble_eq_true rfl⟩) rfl rfl hZ hK hP hD hS hA [0, 9, 1, 2] [3, 4, 5, 6, 7, 8] (by decide) (by decide) (by decide) rfl rfl rfl hl.1 (Nat.le_of_ble_eq_true rfl) dX3_refusal_128 ⟨Nat.zero_le _, Nat.zero_le _⟩ rfl (fun H locs hP hD hS => ?_)
            have hP : va_P (dC, dI) zz_cls [(a_c_rough, .inl (dA 0, 9, .inl b_c_rough)), (a_c_code, .inl (dA 0, 900, .inl b_c_code)), zo_X2 a_w a_c a_w_told a_w_facts a_w_stack f_w_wind, (a_w_told, .inl (dA 0, 315, .inl b_w_told)), (a_w_facts, .inl (dA 0, 6, .inl b_w_facts)), (a_w_stack, .inl (dA 0, 64, .inl b_w_stack)), zo_X3 a_o a_c a_w a_o_deeds a_o_ends f_o_found, zo_X0 a_c f_c_top f_c_things a_c_bars a_c_gives a_c_rough f_c_startRung f_c_startThings f_c_startStrength f_c_startWind f_c_slips f_c_lines a_c_code f_c_coded f_c_tiresFrom f_c_tiresTo f_c_mayFrom f_c_mayTo, (a_c_bars, .inl (dA 0, 9, .inl b_c_bars)), (a_c_gives, .inl (dA 0, 9, .inl b_c_gives))] H := hP
            have hD : va_D A [(a_c_rough, .inl (dA 0, 9, .inl b_c_rough)), (a_c_code, .inl (dA 0, 900, .inl b_c_code)), zo_X2 a_w a_c a_w_told a_w_facts a_w_stack f_w_wind, (a_w_told, .inl (dA 0, 315, .inl b_w_told)), (a_w_facts, .inl (dA 0, 6, .inl b_w_facts)), (a_w_stack, .inl (dA 0, 64, .inl b_w_stack)), zo_X3 a_o a_c a_w a_o_deeds a_o_ends f_o_found, zo_X0 a_c f_c_top f_c_things a_c_bars a_c_gives a_c_rough f_c_startRung f_c_startThings f_c_startStrength f_c_startWind f_c_slips f_c_lines a_c_code f_c_coded f_c_tiresFrom f_c_tiresTo f_c_mayFrom f_c_mayTo, (a_c_bars, .inl (dA 0, 9, .inl b_c_bars)), (a_c_gives, .inl (dA 0, 9, .inl b_c_gives))] := hD
            obtain ⟨rfl, rfl, rfl, rfl⟩ := zi_4 hf
            exact W.iret (pc := 131) hx hb hr (fun t ht hW => ⟨⟨_, (), rfl, rfl, zz_Bi (by rw [ht]; exact hP.sub [6, 7, 8, 9, 0, 1, 2, 3, 4, 5] rfl) (va_K.moved hW.alike hK) (hD.sub [6, 7, 8, 9, 0, 1, 2, 3, 4, 5] (by decide) rfl)⟩, hS.F ht⟩) hS.2.2 dX3_refusal_131
        · have hf := za_f hf hc
          refine lv_iload (pc := 86) hx hb dX3_refusal_86 (lv_at hl 0 rfl) ?_
          refine lv_iload_n (pc := 88) hx hb dX3_refusal_88 rfl (lv_at hl 4 rfl) ?_
          refine lv_bipush (v := (10 : Int32)) (pc := 89) hx hb dX3_refusal_89 (by decide) ?_
          refine lv_isub (pc := 91) hx hb dX3_refusal_91 ?_
          refine lv_ishr (pc := 92) hx hb dX3_refusal_92 ?_
          refine lv_iconst (v := (1 : Int32)) (pc := 93) hx hb dX3_refusal_93 (by decide) ?_
          refine lv_iand (pc := 94) hx hb dX3_refusal_94 ?_
          refine lv_if_eq (tgt := 102) (pc := 95) hx hb dX3_refusal_95 rfl (fun hc => ?_) (fun hc => ?_)
          · have hf := za_t hf hc
            refine lv_iconst (v := (2 : Int32)) (pc := 102) hx hb dX3_refusal_102 (by decide) ?_
            obtain ⟨rfl, rfl, rfl, rfl⟩ := zi_4 hf
            exact W.iret (pc := 103) hx hb hr (fun t ht hW => ⟨⟨_, (), rfl, rfl, zz_Bi (by rw [ht]; exact hP.sub [0, 9, 1, 2, 3, 4, 5, 6, 7, 8] rfl) (va_K.moved hW.alike hK) (hD.sub [0, 9, 1, 2, 3, 4, 5, 6, 7, 8] (by decide) rfl)⟩, hS.F ht⟩) hS.2.2 dX3_refusal_103
          · have hf := za_f hf hc
            refine lv_iconst (v := (0 : Int32)) (pc := 98) hx hb dX3_refusal_98 (by decide) ?_
            refine lv_goto (tgt := 103) (pc := 99) hx hb dX3_refusal_99 rfl ?_
            obtain ⟨rfl, rfl, rfl, rfl⟩ := zi_4 hf
            exact W.iret (pc := 103) hx hb hr (fun t ht hW => ⟨⟨_, (), rfl, rfl, zz_Bi (by rw [ht]; exact hP.sub [0, 9, 1, 2, 3, 4, 5, 6, 7, 8] rfl) (va_K.moved hW.alike hK) (hD.sub [0, 9, 1, 2, 3, 4, 5, 6, 7, 8] (by decide) rfl)⟩, hS.F ht⟩) hS.2.2 dX3_refusal_103
      · have hf := za_t hf hc
        refine lv_aload_n (pc := 62) hx hb dX3_refusal_62 rfl (lv_at hl 2 rfl) ?_
        refine lv_iload_n (pc := 63) hx hb dX3_refusal_63 rfl (lv_at hl 1 rfl) ?_
        refine lv_iconst (v := (1 : Int32)) (pc := 64) hx hb dX3_refusal_64 (by decide) ?_
        refine lv_isub (pc := 65) hx hb dX3_refusal_65 ?_
        refine lv_iload (pc := 66) hx hb dX3_refusal_66 (lv_at hl 0 rfl) ?_
        obtain ⟨v8, hv8, hf⟩ := zc_1 hf
        refine zx_Vi (pc := 68) (wc := [zo_X3 a_o a_c a_w a_o_deeds a_o_ends f_o_found, zo_X0 a_c f_c_top f_c_things a_c_bars a_c_gives a_c_rough f_c_startRung f_c_startThings f_c_startStrength f_c_startWind f_c_slips f_c_lines a_c_code f_c_coded f_c_tiresFrom f_c_tiresTo f_c_mayFrom f_c_mayTo, (a_c_bars, .inl (dA 0, 9, .inl b_c_bars))]) (wr := [(a_c_gives, .inl (dA 0, 9, .inl b_c_gives)), (a_c_rough, .inl (dA 0, 9, .inl b_c_rough)), (a_c_code, .inl (dA 0, 900, .inl b_c_code)), zo_X2 a_w a_c a_w_told a_w_facts a_w_stack f_w_wind, (a_w_told, .inl (dA 0, 315, .inl b_w_told)), (a_w_facts, .inl (dA 0, 6, .inl b_w_facts)), (a_w_stack, .inl (dA 0, 64, .inl b_w_stack))]) (w1 := [zo_X3 a_o a_c a_w a_o_deeds a_o_ends f_o_found, zo_X0 a_c f_c_top f_c_things a_c_bars a_c_gives a_c_rough f_c_startRung f_c_startThings f_c_startStrength f_c_startWind f_c_slips f_c_lines a_c_code f_c_coded f_c_tiresFrom f_c_tiresTo f_c_mayFrom f_c_mayTo, (a_c_bars, .inl (dA 0, 9, .inl b_c_bars))]) (As := [.int (v1 - (1 : Int32)), .int v2]) (rest := []) ⟨hx, hb, hml, hown, ht⟩ (zt_X3_entryRefusal l dC dI dA adK adV _ a_o a_c a_w a_o_deeds a_o_ends a_c_bars a_c_gives a_c_rough a_c_code f_o_found f_c_top f_c_things f_c_startRung f_c_startThings f_c_startStrength f_c_startWind f_c_slips f_c_lines f_c_coded f_c_tiresFrom f_c_tiresTo f_c_mayFrom f_c_mayTo b_c_bars (v1 - (1 : Int32)) v2 v8 hv8) (cwV 2 ht (zq_V zq_70 zq_71 zq_72 zq_50 zq_73) rfl rfl rfl zk_X3_entryRefusal ⟨Nat.le_of_ble_eq_true rfl, Nat.le_of_ble_eq_true rfl⟩) rfl rfl hZ hK hP hD hS hA [0, 1, 2] [3, 4, 5, 6, 7, 8, 9] (by decide) (by decide) (by decide) rfl rfl rfl hl.1 (Nat.le_of_ble_eq_true rfl) dX3_refusal_68 ⟨Nat.zero_le _, Nat.zero_le _⟩ rfl (fun H locs hP hD hS => ?_)
        have hP : va_P (dC, dI) zz_cls [(a_c_gives, .inl (dA 0, 9, .inl b_c_gives)), (a_c_rough, .inl (dA 0, 9, .inl b_c_rough)), (a_c_code, .inl (dA 0, 900, .inl b_c_code)), zo_X2 a_w a_c a_w_told a_w_facts a_w_stack f_w_wind, (a_w_told, .inl (dA 0, 315, .inl b_w_told)), (a_w_facts, .inl (dA 0, 6, .inl b_w_facts)), (a_w_stack, .inl (dA 0, 64, .inl b_w_stack)), zo_X3 a_o a_c a_w a_o_deeds a_o_ends f_o_found, zo_X0 a_c f_c_top f_c_things a_c_bars a_c_gives a_c_rough f_c_startRung f_c_startThings f_c_startStrength f_c_startWind f_c_slips f_c_lines a_c_code f_c_coded f_c_tiresFrom f_c_tiresTo f_c_mayFrom f_c_mayTo, (a_c_bars, .inl (dA 0, 9, .inl b_c_bars))] H := hP
        have hD : va_D A [(a_c_gives, .inl (dA 0, 9, .inl b_c_gives)), (a_c_rough, .inl (dA 0, 9, .inl b_c_rough)), (a_c_code, .inl (dA 0, 900, .inl b_c_code)), zo_X2 a_w a_c a_w_told a_w_facts a_w_stack f_w_wind, (a_w_told, .inl (dA 0, 315, .inl b_w_told)), (a_w_facts, .inl (dA 0, 6, .inl b_w_facts)), (a_w_stack, .inl (dA 0, 64, .inl b_w_stack)), zo_X3 a_o a_c a_w a_o_deeds a_o_ends f_o_found, zo_X0 a_c f_c_top f_c_things a_c_bars a_c_gives a_c_rough f_c_startRung f_c_startThings f_c_startStrength f_c_startWind f_c_slips f_c_lines a_c_code f_c_coded f_c_tiresFrom f_c_tiresTo f_c_mayFrom f_c_mayTo, (a_c_bars, .inl (dA 0, 9, .inl b_c_bars))] := hD
        obtain ⟨rfl, rfl, rfl, rfl⟩ := zi_4 hf
        exact W.iret (pc := 71) hx hb hr (fun t ht hW => ⟨⟨_, (), rfl, rfl, zz_Bi (by rw [ht]; exact hP.sub [7, 8, 9, 0, 1, 2, 3, 4, 5, 6] rfl) (va_K.moved hW.alike hK) (hD.sub [7, 8, 9, 0, 1, 2, 3, 4, 5, 6] (by decide) rfl)⟩, hS.F ht⟩) hS.2.2 dX3_refusal_71
    · have hf := za_t hf hc
      refine lv_aload_n (pc := 22) hx hb dX3_refusal_22 rfl (lv_at hl 2 rfl) ?_
      refine lv_iload_n (pc := 23) hx hb dX3_refusal_23 rfl (lv_at hl 1 rfl) ?_
      refine lv_iconst (v := (1 : Int32)) (pc := 24) hx hb dX3_refusal_24 (by decide) ?_
      refine lv_iadd (pc := 25) hx hb dX3_refusal_25 ?_
      refine lv_iload (pc := 26) hx hb dX3_refusal_26 (lv_at hl 0 rfl) ?_
      obtain ⟨v3, hv3, hf⟩ := zc_1 hf
      refine zx_Vi (pc := 28) (wc := [zo_X3 a_o a_c a_w a_o_deeds a_o_ends f_o_found, zo_X0 a_c f_c_top f_c_things a_c_bars a_c_gives a_c_rough f_c_startRung f_c_startThings f_c_startStrength f_c_startWind f_c_slips f_c_lines a_c_code f_c_coded f_c_tiresFrom f_c_tiresTo f_c_mayFrom f_c_mayTo, (a_c_bars, .inl (dA 0, 9, .inl b_c_bars))]) (wr := [(a_c_gives, .inl (dA 0, 9, .inl b_c_gives)), (a_c_rough, .inl (dA 0, 9, .inl b_c_rough)), (a_c_code, .inl (dA 0, 900, .inl b_c_code)), zo_X2 a_w a_c a_w_told a_w_facts a_w_stack f_w_wind, (a_w_told, .inl (dA 0, 315, .inl b_w_told)), (a_w_facts, .inl (dA 0, 6, .inl b_w_facts)), (a_w_stack, .inl (dA 0, 64, .inl b_w_stack))]) (w1 := [zo_X3 a_o a_c a_w a_o_deeds a_o_ends f_o_found, zo_X0 a_c f_c_top f_c_things a_c_bars a_c_gives a_c_rough f_c_startRung f_c_startThings f_c_startStrength f_c_startWind f_c_slips f_c_lines a_c_code f_c_coded f_c_tiresFrom f_c_tiresTo f_c_mayFrom f_c_mayTo, (a_c_bars, .inl (dA 0, 9, .inl b_c_bars))]) (As := [.int (v1 + (1 : Int32)), .int v2]) (rest := []) ⟨hx, hb, hml, hown, ht⟩ (zt_X3_entryRefusal l dC dI dA adK adV _ a_o a_c a_w a_o_deeds a_o_ends a_c_bars a_c_gives a_c_rough a_c_code f_o_found f_c_top f_c_things f_c_startRung f_c_startThings f_c_startStrength f_c_startWind f_c_slips f_c_lines f_c_coded f_c_tiresFrom f_c_tiresTo f_c_mayFrom f_c_mayTo b_c_bars (v1 + (1 : Int32)) v2 v3 hv3) (cwV 2 ht (zq_V zq_70 zq_71 zq_72 zq_50 zq_73) rfl rfl rfl zk_X3_entryRefusal ⟨Nat.le_of_ble_eq_true rfl, Nat.le_of_ble_eq_true rfl⟩) rfl rfl hZ hK hP hD hS hA [0, 1, 2] [3, 4, 5, 6, 7, 8, 9] (by decide) (by decide) (by decide) rfl rfl rfl hl.1 (Nat.le_of_ble_eq_true rfl) dX3_refusal_28 ⟨Nat.zero_le _, Nat.zero_le _⟩ rfl (fun H locs hP hD hS => ?_)
      have hP : va_P (dC, dI) zz_cls [(a_c_gives, .inl (dA 0, 9, .inl b_c_gives)), (a_c_rough, .inl (dA 0, 9, .inl b_c_rough)), (a_c_code, .inl (dA 0, 900, .inl b_c_code)), zo_X2 a_w a_c a_w_told a_w_facts a_w_stack f_w_wind, (a_w_told, .inl (dA 0, 315, .inl b_w_told)), (a_w_facts, .inl (dA 0, 6, .inl b_w_facts)), (a_w_stack, .inl (dA 0, 64, .inl b_w_stack)), zo_X3 a_o a_c a_w a_o_deeds a_o_ends f_o_found, zo_X0 a_c f_c_top f_c_things a_c_bars a_c_gives a_c_rough f_c_startRung f_c_startThings f_c_startStrength f_c_startWind f_c_slips f_c_lines a_c_code f_c_coded f_c_tiresFrom f_c_tiresTo f_c_mayFrom f_c_mayTo, (a_c_bars, .inl (dA 0, 9, .inl b_c_bars))] H := hP
      have hD : va_D A [(a_c_gives, .inl (dA 0, 9, .inl b_c_gives)), (a_c_rough, .inl (dA 0, 9, .inl b_c_rough)), (a_c_code, .inl (dA 0, 900, .inl b_c_code)), zo_X2 a_w a_c a_w_told a_w_facts a_w_stack f_w_wind, (a_w_told, .inl (dA 0, 315, .inl b_w_told)), (a_w_facts, .inl (dA 0, 6, .inl b_w_facts)), (a_w_stack, .inl (dA 0, 64, .inl b_w_stack)), zo_X3 a_o a_c a_w a_o_deeds a_o_ends f_o_found, zo_X0 a_c f_c_top f_c_things a_c_bars a_c_gives a_c_rough f_c_startRung f_c_startThings f_c_startStrength f_c_startWind f_c_slips f_c_lines a_c_code f_c_coded f_c_tiresFrom f_c_tiresTo f_c_mayFrom f_c_mayTo, (a_c_bars, .inl (dA 0, 9, .inl b_c_bars))] := hD
      refine lv_istore (lv' := [(5, .int v3), (4, .int v2), (3, .int v1), (0, .ref a_o), (1, .int p1), (2, .int p2)]) (pc := 31) hx hb dX3_refusal_31 hl (by decide) rfl (fun ls hl => ?_)
      refine lv_iload (pc := 33) hx hb dX3_refusal_33 (lv_at hl 0 rfl) ?_
      refine lv_if_ne (tgt := 54) (pc := 35) hx hb dX3_refusal_35 rfl (fun hc => ?_) (fun hc => ?_)
      · have hf := za_f hf hc
        refine lv_iload (pc := 54) hx hb dX3_refusal_54 (lv_at hl 0 rfl) ?_
        obtain ⟨rfl, rfl, rfl, rfl⟩ := zi_4 hf
        exact W.iret (pc := 56) hx hb hr (fun t ht hW => ⟨⟨_, (), rfl, rfl, zz_Bi (by rw [ht]; exact hP.sub [7, 8, 9, 0, 1, 2, 3, 4, 5, 6] rfl) (va_K.moved hW.alike hK) (hD.sub [7, 8, 9, 0, 1, 2, 3, 4, 5, 6] (by decide) rfl)⟩, hS.F ht⟩) hS.2.2 dX3_refusal_56
      · have hf := za_t hf hc
        refine lv_aload_n (pc := 38) hx hb dX3_refusal_38 rfl (lv_at hl 3 rfl) ?_
        refine va_get (pc := 39) (D := (dC, dI)) (ci := 4) (v := .ref a_w) (C := RX3) (T := TX3) (N := 5) hx hb ht zq_layX3 hown hK hP 7 rfl rfl 1 (by decide) (ht _ zq_53) (fun _ h9 => h9) rfl dX3_refusal_39 ?_
        refine lv_iload_n (pc := 42) hx hb dX3_refusal_42 rfl (lv_at hl 4 rfl) ?_
        obtain ⟨v4, a5, a6, a7, hv4, hf⟩ := zc_4 hf
        refine zx_Vi (pc := 43) (wc := [zo_X2 a_w a_c a_w_told a_w_facts a_w_stack f_w_wind, zo_X0 a_c f_c_top f_c_things a_c_bars a_c_gives a_c_rough f_c_startRung f_c_startThings f_c_startStrength f_c_startWind f_c_slips f_c_lines a_c_code f_c_coded f_c_tiresFrom f_c_tiresTo f_c_mayFrom f_c_mayTo, (a_c_bars, .inl (dA 0, 9, .inl b_c_bars)), (a_c_rough, .inl (dA 0, 9, .inl b_c_rough)), (a_c_code, .inl (dA 0, 900, .inl b_c_code)), (a_w_told, .inl (dA 0, 315, .inl b_w_told)), (a_w_facts, .inl (dA 0, 6, .inl b_w_facts)), (a_w_stack, .inl (dA 0, 64, .inl b_w_stack))]) (wr := [(a_c_gives, .inl (dA 0, 9, .inl b_c_gives)), zo_X3 a_o a_c a_w a_o_deeds a_o_ends f_o_found]) (w1 := [zo_X2 a_w a_c a_w_told a_w_facts a_w_stack f_w_wind, zo_X0 a_c f_c_top f_c_things a_c_bars a_c_gives a_c_rough f_c_startRung f_c_startThings f_c_startStrength f_c_startWind f_c_slips f_c_lines a_c_code f_c_coded f_c_tiresFrom f_c_tiresTo f_c_mayFrom f_c_mayTo, (a_c_bars, .inl (dA 0, 9, .inl b_c_bars)), (a_c_rough, .inl (dA 0, 9, .inl b_c_rough)), (a_c_code, .inl (dA 0, 900, .inl b_c_code)), (a_w_told, .inl (dA 0, 315, .inl a5)), (a_w_facts, .inl (dA 0, 6, .inl a6)), (a_w_stack, .inl (dA 0, 64, .inl a7))]) (As := [.int p1]) (rest := []) ⟨hx, hb, hml, hown, ht⟩ (zt_X2_strengthAbove l dC dI dA adK adV _ a_w a_c a_w_told a_w_facts a_w_stack a_c_bars a_c_gives a_c_rough a_c_code n f_w_wind f_c_top f_c_things f_c_startRung f_c_startThings f_c_startStrength f_c_startWind f_c_slips f_c_lines f_c_coded f_c_tiresFrom f_c_tiresTo f_c_mayFrom f_c_mayTo b_c_bars b_c_rough b_c_code b_w_told b_w_facts b_w_stack p1 v4 a5 a6 a7 hv4) (cwV 1 ht (zq_V zq_78 zq_79 zq_80 zq_81 zq_82) rfl rfl rfl zk_X2_strengthAbove ⟨Nat.le_of_ble_eq_true rfl, Nat.le_of_ble_eq_true rfl⟩) rfl rfl hZ hK hP hD hS hA [3, 8, 9, 1, 2, 4, 5, 6] [0, 7] (by decide) (by decide) (by decide) rfl rfl rfl hl.1 (Nat.le_of_ble_eq_true rfl) dX3_refusal_43 ⟨Nat.zero_le _, Nat.zero_le _⟩ rfl (fun H locs hP hD hS => ?_)
        have hP : va_P (dC, dI) zz_cls [(a_c_gives, .inl (dA 0, 9, .inl b_c_gives)), zo_X3 a_o a_c a_w a_o_deeds a_o_ends f_o_found, zo_X2 a_w a_c a_w_told a_w_facts a_w_stack f_w_wind, zo_X0 a_c f_c_top f_c_things a_c_bars a_c_gives a_c_rough f_c_startRung f_c_startThings f_c_startStrength f_c_startWind f_c_slips f_c_lines a_c_code f_c_coded f_c_tiresFrom f_c_tiresTo f_c_mayFrom f_c_mayTo, (a_c_bars, .inl (dA 0, 9, .inl b_c_bars)), (a_c_rough, .inl (dA 0, 9, .inl b_c_rough)), (a_c_code, .inl (dA 0, 900, .inl b_c_code)), (a_w_told, .inl (dA 0, 315, .inl a5)), (a_w_facts, .inl (dA 0, 6, .inl a6)), (a_w_stack, .inl (dA 0, 64, .inl a7))] H := hP
        have hD : va_D A [(a_c_gives, .inl (dA 0, 9, .inl b_c_gives)), zo_X3 a_o a_c a_w a_o_deeds a_o_ends f_o_found, zo_X2 a_w a_c a_w_told a_w_facts a_w_stack f_w_wind, zo_X0 a_c f_c_top f_c_things a_c_bars a_c_gives a_c_rough f_c_startRung f_c_startThings f_c_startStrength f_c_startWind f_c_slips f_c_lines a_c_code f_c_coded f_c_tiresFrom f_c_tiresTo f_c_mayFrom f_c_mayTo, (a_c_bars, .inl (dA 0, 9, .inl b_c_bars)), (a_c_rough, .inl (dA 0, 9, .inl b_c_rough)), (a_c_code, .inl (dA 0, 900, .inl b_c_code)), (a_w_told, .inl (dA 0, 315, .inl a5)), (a_w_facts, .inl (dA 0, 6, .inl a6)), (a_w_stack, .inl (dA 0, 64, .inl a7))] := hD
        refine lv_iconst (v := (-1 : Int32)) (pc := 46) hx hb dX3_refusal_46 (by decide) ?_
        refine lv_icmp_ne (tgt := 54) (pc := 47) hx hb dX3_refusal_47 rfl (fun hc => ?_) (fun hc => ?_)
        · have hf := za_f hf hc
          refine lv_iload (pc := 54) hx hb dX3_refusal_54 (lv_at hl 0 rfl) ?_
          obtain ⟨rfl, rfl, rfl, rfl⟩ := zi_4 hf
          exact W.iret (pc := 56) hx hb hr (fun t ht hW => ⟨⟨_, (), rfl, rfl, zz_Bi (by rw [ht]; exact hP.sub [1, 3, 4, 0, 5, 6, 2, 7, 8, 9] rfl) (va_K.moved hW.alike hK) (hD.sub [1, 3, 4, 0, 5, 6, 2, 7, 8, 9] (by decide) rfl)⟩, hS.F ht⟩) hS.2.2 dX3_refusal_56
        · have hf := za_t hf hc
          refine lv_iconst (v := (4 : Int32)) (pc := 50) hx hb dX3_refusal_50 (by decide) ?_
          refine lv_goto (tgt := 56) (pc := 51) hx hb dX3_refusal_51 rfl ?_
          obtain ⟨rfl, rfl, rfl, rfl⟩ := zi_4 hf
          exact W.iret (pc := 56) hx hb hr (fun t ht hW => ⟨⟨_, (), rfl, rfl, zz_Bi (by rw [ht]; exact hP.sub [1, 3, 4, 0, 5, 6, 2, 7, 8, 9] rfl) (va_K.moved hW.alike hK) (hD.sub [1, 3, 4, 0, 5, 6, 2, 7, 8, 9] (by decide) rfl)⟩, hS.F ht⟩) hS.2.2 dX3_refusal_56
  · have hf := za_t hf hc
    refine lv_iconst (v := (0 : Int32)) (pc := 15) hx hb dX3_refusal_15 (by decide) ?_
    obtain ⟨rfl, rfl, rfl, rfl⟩ := zi_4 hf
    exact W.iret (pc := 16) hx hb hr (fun t ht hW => ⟨⟨_, (), rfl, rfl, zz_Bi (by rw [ht]; exact hP) (va_K.moved hW.alike hK) (hD)⟩, hS.F ht⟩) hS.2.2 dX3_refusal_16

def zf_X3_behind (n : Nat) (f_c_top : Int32) (f_c_things : Int32) (f_c_tiresFrom : Int32) (f_c_tiresTo : Int32) (f_c_mayFrom : Int32) (f_c_mayTo : Int32) (b_c_bars : (Nat → Int32)) (b_c_rough : (Nat → Int32)) (b_c_code : (Nat → Int32)) (f_w_wind : Int32) (b_w_told : (Nat → Int32)) (b_w_facts : (Nat → Int32)) (b_w_stack : (Nat → Int32)) (p1 : Int32) (p2 : Int32) : Option (Int32 × (Nat → Int32) × (Nat → Int32) × (Nat → Int32)) :=
  zd_1 (zf_X10_rungOf p1) (fun v1 =>
  zd_1 (zf_X10_thingsOf p1) (fun v2 =>
  zd_1 (zf_X10_strengthOf p1) (fun v3 =>
  if p2 = 0 then
    zd_1 (some ((if (v3 + (1 : Int32)) < (4 : Int32) then (v3 + (1 : Int32)) else (4 : Int32)))) (fun v4 =>
    zd_1 (zf_X10_standOf v1 v2 v4) (fun v5 =>
    some (v5, b_w_told, b_w_facts, b_w_stack)))
  else
    if p2 = (1 : Int32) then
      zd_4 (zf_X2_strengthAbove n f_w_wind f_c_top f_c_things f_c_tiresFrom f_c_tiresTo f_c_mayFrom f_c_mayTo b_c_bars b_c_rough b_c_code b_w_told b_w_facts b_w_stack p1) (fun v6 a7 a8 a9 =>
      zd_1 (zf_X10_standOf (v1 + (1 : Int32)) v2 v6) (fun v10 =>
      some (v10, a7, a8, a9)))
    else
      if p2 = (2 : Int32) then
        zd_1 (zf_X10_standOf (v1 - (1 : Int32)) v2 v3) (fun v11 =>
        some (v11, b_w_told, b_w_facts, b_w_stack))
      else
        zd_1 (
          if (20 : Int32) ≤ p2 then
            some ((1 : Int32) <<< ((p2 - (20 : Int32)) &&& 31))
          else
            some ((1 : Int32) <<< ((p2 - (10 : Int32)) &&& 31))) (fun v12 =>
        zd_1 (zf_X10_standOf v1 (v2 ^^^ v12) v3) (fun v13 =>
        some (v13, b_w_told, b_w_facts, b_w_stack))))))
theorem zk_X3_behind : yX3_behind.cls = RX3 ∧ yX3_behind.cls ≠ "java/lang/invoke/MethodHandle" ∧ yX3_behind.cls ≠ "java/lang/invoke/VarHandle" ∧ (parseMethodDescriptor yX3_behind.desc).map (fun d => d.parameters.length) = some 2 := by decide +kernel
set_option maxHeartbeats 4000000 in
set_option maxRecDepth 100000 in
theorem zt_X3_behind (l : Launch) (dC : Nat → ClassId) (dI : Nat → Nat → Nat) (dA : Nat → ClassId) (adK adV : Nat → Nat) (sz : Nat) (a_o : Nat) (a_c : Nat) (a_w : Nat) (a_o_deeds : Nat) (a_o_ends : Nat) (a_c_bars : Nat) (a_c_gives : Nat) (a_c_rough : Nat) (a_c_code : Nat) (a_w_told : Nat) (a_w_facts : Nat) (a_w_stack : Nat) (n : Nat) (f_o_found : Int32) (f_c_top : Int32) (f_c_things : Int32) (f_c_startRung : Int32) (f_c_startThings : Int32) (f_c_startStrength : Int32) (f_c_startWind : Int32) (f_c_slips : Int32) (f_c_lines : Int32) (f_c_coded : Int32) (f_c_tiresFrom : Int32) (f_c_tiresTo : Int32) (f_c_mayFrom : Int32) (f_c_mayTo : Int32) (f_w_wind : Int32) (b_c_bars : (Nat → Int32)) (b_c_rough : (Nat → Int32)) (b_c_code : (Nat → Int32)) (b_w_told : (Nat → Int32)) (b_w_facts : (Nat → Int32)) (b_w_stack : (Nat → Int32)) (p1 : Int32) (p2 : Int32) (r0 : Int32) (o1 : (Nat → Int32)) (o2 : (Nat → Int32)) (o3 : (Nat → Int32)) (hf : zf_X3_behind n f_c_top f_c_things f_c_tiresFrom f_c_tiresTo f_c_mayFrom f_c_mayTo b_c_bars b_c_rough b_c_code f_w_wind b_w_told b_w_facts b_w_stack p1 p2 = some (r0, o1, o2, o3)) : Met l yX3_behind (.code yX3_behind cX3_behind 7 (some .int) :: zq_T) ({ frames := 4, cells := 0, slots := 0, locals := 128 }) (va_Pc [.ref a_o, .int p1, .int p2] (zx_M dC dI dA adK adV [zo_X3 a_o a_c a_w a_o_deeds a_o_ends f_o_found, zo_X0 a_c f_c_top f_c_things a_c_bars a_c_gives a_c_rough f_c_startRung f_c_startThings f_c_startStrength f_c_startWind f_c_slips f_c_lines a_c_code f_c_coded f_c_tiresFrom f_c_tiresTo f_c_mayFrom f_c_mayTo, (a_c_bars, .inl (dA 0, 9, .inl b_c_bars)), (a_c_rough, .inl (dA 0, 9, .inl b_c_rough)), (a_c_code, .inl (dA 0, 900, .inl b_c_code)), zo_X2 a_w a_c a_w_told a_w_facts a_w_stack f_w_wind, (a_w_told, .inl (dA 0, 315, .inl b_w_told)), (a_w_facts, .inl (dA 0, 6, .inl b_w_facts)), (a_w_stack, .inl (dA 0, 64, .inl b_w_stack))] sz)) (va_Qi (fun (r : Int32) (_ : Unit) => r = r0) (fun _ t => zz_B dC dI dA (va_A [zo_X3 a_o a_c a_w a_o_deeds a_o_ends f_o_found, zo_X0 a_c f_c_top f_c_things a_c_bars a_c_gives a_c_rough f_c_startRung f_c_startThings f_c_startStrength f_c_startWind f_c_slips f_c_lines a_c_code f_c_coded f_c_tiresFrom f_c_tiresTo f_c_mayFrom f_c_mayTo, (a_c_bars, .inl (dA 0, 9, .inl b_c_bars)), (a_c_rough, .inl (dA 0, 9, .inl b_c_rough)), (a_c_code, .inl (dA 0, 900, .inl b_c_code)), zo_X2 a_w a_c a_w_told a_w_facts a_w_stack f_w_wind, (a_w_told, .inl (dA 0, 315, .inl b_w_told)), (a_w_facts, .inl (dA 0, 6, .inl b_w_facts)), (a_w_stack, .inl (dA 0, 64, .inl b_w_stack))] sz) [zo_X3 a_o a_c a_w a_o_deeds a_o_ends f_o_found, zo_X0 a_c f_c_top f_c_things a_c_bars a_c_gives a_c_rough f_c_startRung f_c_startThings f_c_startStrength f_c_startWind f_c_slips f_c_lines a_c_code f_c_coded f_c_tiresFrom f_c_tiresTo f_c_mayFrom f_c_mayTo, (a_c_bars, .inl (dA 0, 9, .inl b_c_bars)), (a_c_rough, .inl (dA 0, 9, .inl b_c_rough)), (a_c_code, .inl (dA 0, 900, .inl b_c_code)), zo_X2 a_w a_c a_w_told a_w_facts a_w_stack f_w_wind, (a_w_told, .inl (dA 0, 315, .inl o1)), (a_w_facts, .inl (dA 0, 6, .inl o2)), (a_w_stack, .inl (dA 0, 64, .inl o3))] t) (va_A [zo_X3 a_o a_c a_w a_o_deeds a_o_ends f_o_found, zo_X0 a_c f_c_top f_c_things a_c_bars a_c_gives a_c_rough f_c_startRung f_c_startThings f_c_startStrength f_c_startWind f_c_slips f_c_lines a_c_code f_c_coded f_c_tiresFrom f_c_tiresTo f_c_mayFrom f_c_mayTo, (a_c_bars, .inl (dA 0, 9, .inl b_c_bars)), (a_c_rough, .inl (dA 0, 9, .inl b_c_rough)), (a_c_code, .inl (dA 0, 900, .inl b_c_code)), zo_X2 a_w a_c a_w_told a_w_facts a_w_stack f_w_wind, (a_w_told, .inl (dA 0, 315, .inl b_w_told)), (a_w_facts, .inl (dA 0, 6, .inl b_w_facts)), (a_w_stack, .inl (dA 0, 64, .inl b_w_stack))] sz)) 0 0 (va_A [zo_X3 a_o a_c a_w a_o_deeds a_o_ends f_o_found, zo_X0 a_c f_c_top f_c_things a_c_bars a_c_gives a_c_rough f_c_startRung f_c_startThings f_c_startStrength f_c_startWind f_c_slips f_c_lines a_c_code f_c_coded f_c_tiresFrom f_c_tiresTo f_c_mayFrom f_c_mayTo, (a_c_bars, .inl (dA 0, 9, .inl b_c_bars)), (a_c_rough, .inl (dA 0, 9, .inl b_c_rough)), (a_c_code, .inl (dA 0, 900, .inl b_c_code)), zo_X2 a_w a_c a_w_told a_w_facts a_w_stack f_w_wind, (a_w_told, .inl (dA 0, 315, .inl b_w_told)), (a_w_facts, .inl (dA 0, 6, .inl b_w_facts)), (a_w_stack, .inl (dA 0, 64, .inl b_w_stack))] sz) := by
  unfold zf_X3_behind at hf
  refine Met.ofW (cc := cX3_behind) (maxL := 7) (ret := (some .int)) (by decide) rfl ?_
  intro p e s m args below meth c s₁ B hml hv
  obtain ⟨rfl, ⟨hsz, hP, hK, hD0⟩, hZ⟩ := hv
  have hx := B.exec
  have hb := B.bytes
  have hr := B.returns
  have ht : ∀ w ∈ zq_T, w.before ([.ref a_o, .int p1, .int p2] : List Value).toArray s = true := fun w hw => atoms_spec (ws := .code yX3_behind cX3_behind 7 (some .int) :: zq_T) B.pre w (List.mem_cons_of_mem _ hw)
  have hown : s.vm.findClass RX3 = some m.cls := findClass_of_methodNamed B.named
  have hlocks := B.notSynchronized
  subst hsz
  have hD := hD0.self (sz := s.heap.size)
  generalize hAe : va_A [zo_X3 a_o a_c a_w a_o_deeds a_o_ends f_o_found, zo_X0 a_c f_c_top f_c_things a_c_bars a_c_gives a_c_rough f_c_startRung f_c_startThings f_c_startStrength f_c_startWind f_c_slips f_c_lines a_c_code f_c_coded f_c_tiresFrom f_c_tiresTo f_c_mayFrom f_c_mayTo, (a_c_bars, .inl (dA 0, 9, .inl b_c_bars)), (a_c_rough, .inl (dA 0, 9, .inl b_c_rough)), (a_c_code, .inl (dA 0, 900, .inl b_c_code)), zo_X2 a_w a_c a_w_told a_w_facts a_w_stack f_w_wind, (a_w_told, .inl (dA 0, 315, .inl b_w_told)), (a_w_facts, .inl (dA 0, 6, .inl b_w_facts)), (a_w_stack, .inl (dA 0, 64, .inl b_w_stack))] s.heap.size = A at hD hZ ⊢
  have hA : ∀ q : Nat, s.heap.size ≤ q → A q := fun q h => by rw [← hAe]; exact Or.inr h
  clear hAe hD0
  have hS : va_S A s.heap s.heap [] := va_S.rf
  have hl := lv_entry ([.ref a_o, .int p1, .int p2]) (n := 7) (Nat.le_of_ble_eq_true rfl)
  rw [lg_entry_eq]
  generalize (lg_sl ([.ref a_o, .int p1, .int p2]) ++ List.replicate (7 - (lg_sl ([.ref a_o, .int p1, .int p2])).length) Slot.unset).toArray = ls at hl ⊢
  have hl : lv_has ls 7 [(0, .ref a_o), (1, .int p1), (2, .int p2)] := hl
  refine lv_iload_n (pc := 0) hx hb dX3_behind_0 rfl (lv_at hl 1 rfl) ?_
  obtain ⟨v1, hv1, hf⟩ := zc_1 hf
  refine zx_Ni (pc := 1) (wc := []) (wr := [zo_X3 a_o a_c a_w a_o_deeds a_o_ends f_o_found, zo_X0 a_c f_c_top f_c_things a_c_bars a_c_gives a_c_rough f_c_startRung f_c_startThings f_c_startStrength f_c_startWind f_c_slips f_c_lines a_c_code f_c_coded f_c_tiresFrom f_c_tiresTo f_c_mayFrom f_c_mayTo, (a_c_bars, .inl (dA 0, 9, .inl b_c_bars)), (a_c_rough, .inl (dA 0, 9, .inl b_c_rough)), (a_c_code, .inl (dA 0, 900, .inl b_c_code)), zo_X2 a_w a_c a_w_told a_w_facts a_w_stack f_w_wind, (a_w_told, .inl (dA 0, 315, .inl b_w_told)), (a_w_facts, .inl (dA 0, 6, .inl b_w_facts)), (a_w_stack, .inl (dA 0, 64, .inl b_w_stack))]) (w1 := []) (As := [.int p1]) (rest := []) ⟨hx, hb, hml, hown, ht⟩ (zt_X10_rungOf l dC dI dA adK adV _ p1 v1 hv1) ⟨va_cnB 1 ht (zq_C zq_59) rfl rfl rfl (hZ.nest 3 rfl) (ht _ zq_58) zk_X10_rungOf.2 ⟨Nat.le_of_ble_eq_true rfl, Nat.le_of_ble_eq_true rfl⟩, ht _ zq_57, trivial⟩ hZ hK hP hD hS hA [] [0, 1, 2, 3, 4, 5, 6, 7, 8] (by decide) (by decide) (by decide) rfl rfl rfl hl.1 (Nat.le_of_ble_eq_true rfl) dX3_behind_1 ⟨Nat.zero_le _, Nat.zero_le _⟩ rfl (fun H locs hP hD hS => ?_)
  have hP : va_P (dC, dI) zz_cls [zo_X3 a_o a_c a_w a_o_deeds a_o_ends f_o_found, zo_X0 a_c f_c_top f_c_things a_c_bars a_c_gives a_c_rough f_c_startRung f_c_startThings f_c_startStrength f_c_startWind f_c_slips f_c_lines a_c_code f_c_coded f_c_tiresFrom f_c_tiresTo f_c_mayFrom f_c_mayTo, (a_c_bars, .inl (dA 0, 9, .inl b_c_bars)), (a_c_rough, .inl (dA 0, 9, .inl b_c_rough)), (a_c_code, .inl (dA 0, 900, .inl b_c_code)), zo_X2 a_w a_c a_w_told a_w_facts a_w_stack f_w_wind, (a_w_told, .inl (dA 0, 315, .inl b_w_told)), (a_w_facts, .inl (dA 0, 6, .inl b_w_facts)), (a_w_stack, .inl (dA 0, 64, .inl b_w_stack))] H := hP
  have hD : va_D A [zo_X3 a_o a_c a_w a_o_deeds a_o_ends f_o_found, zo_X0 a_c f_c_top f_c_things a_c_bars a_c_gives a_c_rough f_c_startRung f_c_startThings f_c_startStrength f_c_startWind f_c_slips f_c_lines a_c_code f_c_coded f_c_tiresFrom f_c_tiresTo f_c_mayFrom f_c_mayTo, (a_c_bars, .inl (dA 0, 9, .inl b_c_bars)), (a_c_rough, .inl (dA 0, 9, .inl b_c_rough)), (a_c_code, .inl (dA 0, 900, .inl b_c_code)), zo_X2 a_w a_c a_w_told a_w_facts a_w_stack f_w_wind, (a_w_told, .inl (dA 0, 315, .inl b_w_told)), (a_w_facts, .inl (dA 0, 6, .inl b_w_facts)), (a_w_stack, .inl (dA 0, 64, .inl b_w_stack))] := hD
  refine lv_istore_n (lv' := [(3, .int v1), (0, .ref a_o), (1, .int p1), (2, .int p2)]) (pc := 4) hx hb dX3_behind_4 rfl hl (by decide) rfl (fun ls hl => ?_)
  refine lv_iload_n (pc := 5) hx hb dX3_behind_5 rfl (lv_at hl 2 rfl) ?_
  obtain ⟨v2, hv2, hf⟩ := zc_1 hf
  refine zx_Ni (pc := 6) (wc := []) (wr := [zo_X3 a_o a_c a_w a_o_deeds a_o_ends f_o_found, zo_X0 a_c f_c_top f_c_things a_c_bars a_c_gives a_c_rough f_c_startRung f_c_startThings f_c_startStrength f_c_startWind f_c_slips f_c_lines a_c_code f_c_coded f_c_tiresFrom f_c_tiresTo f_c_mayFrom f_c_mayTo, (a_c_bars, .inl (dA 0, 9, .inl b_c_bars)), (a_c_rough, .inl (dA 0, 9, .inl b_c_rough)), (a_c_code, .inl (dA 0, 900, .inl b_c_code)), zo_X2 a_w a_c a_w_told a_w_facts a_w_stack f_w_wind, (a_w_told, .inl (dA 0, 315, .inl b_w_told)), (a_w_facts, .inl (dA 0, 6, .inl b_w_facts)), (a_w_stack, .inl (dA 0, 64, .inl b_w_stack))]) (w1 := []) (As := [.int p1]) (rest := []) ⟨hx, hb, hml, hown, ht⟩ (zt_X10_thingsOf l dC dI dA adK adV _ p1 v2 hv2) ⟨va_cnB 1 ht (zq_C zq_61) rfl rfl rfl (hZ.nest 4 rfl) (ht _ zq_58) zk_X10_thingsOf.2 ⟨Nat.le_of_ble_eq_true rfl, Nat.le_of_ble_eq_true rfl⟩, ht _ zq_60, trivial⟩ hZ hK hP hD hS hA [] [0, 1, 2, 3, 4, 5, 6, 7, 8] (by decide) (by decide) (by decide) rfl rfl rfl hl.1 (Nat.le_of_ble_eq_true rfl) dX3_behind_6 ⟨Nat.zero_le _, Nat.zero_le _⟩ rfl (fun H locs hP hD hS => ?_)
  have hP : va_P (dC, dI) zz_cls [zo_X3 a_o a_c a_w a_o_deeds a_o_ends f_o_found, zo_X0 a_c f_c_top f_c_things a_c_bars a_c_gives a_c_rough f_c_startRung f_c_startThings f_c_startStrength f_c_startWind f_c_slips f_c_lines a_c_code f_c_coded f_c_tiresFrom f_c_tiresTo f_c_mayFrom f_c_mayTo, (a_c_bars, .inl (dA 0, 9, .inl b_c_bars)), (a_c_rough, .inl (dA 0, 9, .inl b_c_rough)), (a_c_code, .inl (dA 0, 900, .inl b_c_code)), zo_X2 a_w a_c a_w_told a_w_facts a_w_stack f_w_wind, (a_w_told, .inl (dA 0, 315, .inl b_w_told)), (a_w_facts, .inl (dA 0, 6, .inl b_w_facts)), (a_w_stack, .inl (dA 0, 64, .inl b_w_stack))] H := hP
  have hD : va_D A [zo_X3 a_o a_c a_w a_o_deeds a_o_ends f_o_found, zo_X0 a_c f_c_top f_c_things a_c_bars a_c_gives a_c_rough f_c_startRung f_c_startThings f_c_startStrength f_c_startWind f_c_slips f_c_lines a_c_code f_c_coded f_c_tiresFrom f_c_tiresTo f_c_mayFrom f_c_mayTo, (a_c_bars, .inl (dA 0, 9, .inl b_c_bars)), (a_c_rough, .inl (dA 0, 9, .inl b_c_rough)), (a_c_code, .inl (dA 0, 900, .inl b_c_code)), zo_X2 a_w a_c a_w_told a_w_facts a_w_stack f_w_wind, (a_w_told, .inl (dA 0, 315, .inl b_w_told)), (a_w_facts, .inl (dA 0, 6, .inl b_w_facts)), (a_w_stack, .inl (dA 0, 64, .inl b_w_stack))] := hD
  refine lv_istore (lv' := [(4, .int v2), (3, .int v1), (0, .ref a_o), (1, .int p1), (2, .int p2)]) (pc := 9) hx hb dX3_behind_9 hl (by decide) rfl (fun ls hl => ?_)
  refine lv_iload_n (pc := 11) hx hb dX3_behind_11 rfl (lv_at hl 3 rfl) ?_
  obtain ⟨v3, hv3, hf⟩ := zc_1 hf
  refine zx_Ni (pc := 12) (wc := []) (wr := [zo_X3 a_o a_c a_w a_o_deeds a_o_ends f_o_found, zo_X0 a_c f_c_top f_c_things a_c_bars a_c_gives a_c_rough f_c_startRung f_c_startThings f_c_startStrength f_c_startWind f_c_slips f_c_lines a_c_code f_c_coded f_c_tiresFrom f_c_tiresTo f_c_mayFrom f_c_mayTo, (a_c_bars, .inl (dA 0, 9, .inl b_c_bars)), (a_c_rough, .inl (dA 0, 9, .inl b_c_rough)), (a_c_code, .inl (dA 0, 900, .inl b_c_code)), zo_X2 a_w a_c a_w_told a_w_facts a_w_stack f_w_wind, (a_w_told, .inl (dA 0, 315, .inl b_w_told)), (a_w_facts, .inl (dA 0, 6, .inl b_w_facts)), (a_w_stack, .inl (dA 0, 64, .inl b_w_stack))]) (w1 := []) (As := [.int p1]) (rest := []) ⟨hx, hb, hml, hown, ht⟩ (zt_X10_strengthOf l dC dI dA adK adV _ p1 v3 hv3) ⟨va_cnB 1 ht (zq_C zq_63) rfl rfl rfl (hZ.nest 8 rfl) (ht _ zq_58) zk_X10_strengthOf.2 ⟨Nat.le_of_ble_eq_true rfl, Nat.le_of_ble_eq_true rfl⟩, ht _ zq_62, trivial⟩ hZ hK hP hD hS hA [] [0, 1, 2, 3, 4, 5, 6, 7, 8] (by decide) (by decide) (by decide) rfl rfl rfl hl.1 (Nat.le_of_ble_eq_true rfl) dX3_behind_12 ⟨Nat.zero_le _, Nat.zero_le _⟩ rfl (fun H locs hP hD hS => ?_)
  have hP : va_P (dC, dI) zz_cls [zo_X3 a_o a_c a_w a_o_deeds a_o_ends f_o_found, zo_X0 a_c f_c_top f_c_things a_c_bars a_c_gives a_c_rough f_c_startRung f_c_startThings f_c_startStrength f_c_startWind f_c_slips f_c_lines a_c_code f_c_coded f_c_tiresFrom f_c_tiresTo f_c_mayFrom f_c_mayTo, (a_c_bars, .inl (dA 0, 9, .inl b_c_bars)), (a_c_rough, .inl (dA 0, 9, .inl b_c_rough)), (a_c_code, .inl (dA 0, 900, .inl b_c_code)), zo_X2 a_w a_c a_w_told a_w_facts a_w_stack f_w_wind, (a_w_told, .inl (dA 0, 315, .inl b_w_told)), (a_w_facts, .inl (dA 0, 6, .inl b_w_facts)), (a_w_stack, .inl (dA 0, 64, .inl b_w_stack))] H := hP
  have hD : va_D A [zo_X3 a_o a_c a_w a_o_deeds a_o_ends f_o_found, zo_X0 a_c f_c_top f_c_things a_c_bars a_c_gives a_c_rough f_c_startRung f_c_startThings f_c_startStrength f_c_startWind f_c_slips f_c_lines a_c_code f_c_coded f_c_tiresFrom f_c_tiresTo f_c_mayFrom f_c_mayTo, (a_c_bars, .inl (dA 0, 9, .inl b_c_bars)), (a_c_rough, .inl (dA 0, 9, .inl b_c_rough)), (a_c_code, .inl (dA 0, 900, .inl b_c_code)), zo_X2 a_w a_c a_w_told a_w_facts a_w_stack f_w_wind, (a_w_told, .inl (dA 0, 315, .inl b_w_told)), (a_w_facts, .inl (dA 0, 6, .inl b_w_facts)), (a_w_stack, .inl (dA 0, 64, .inl b_w_stack))] := hD
  refine lv_istore (lv' := [(5, .int v3), (4, .int v2), (3, .int v1), (0, .ref a_o), (1, .int p1), (2, .int p2)]) (pc := 15) hx hb dX3_behind_15 hl (by decide) rfl (fun ls hl => ?_)
  refine lv_iload_n (pc := 17) hx hb dX3_behind_17 rfl (lv_at hl 5 rfl) ?_
  refine lv_if_ne (tgt := 36) (pc := 18) hx hb dX3_behind_18 rfl (fun hc => ?_) (fun hc => ?_)
  · have hf := za_f hf hc
    refine lv_iload_n (pc := 36) hx hb dX3_behind_36 rfl (lv_at hl 5 rfl) ?_
    refine lv_iconst (v := (1 : Int32)) (pc := 37) hx hb dX3_behind_37 (by decide) ?_
    refine lv_icmp_ne (tgt := 58) (pc := 38) hx hb dX3_behind_38 rfl (fun hc => ?_) (fun hc => ?_)
    · have hf := za_f hf hc
      refine lv_iload_n (pc := 58) hx hb dX3_behind_58 rfl (lv_at hl 5 rfl) ?_
      refine lv_iconst (v := (2 : Int32)) (pc := 59) hx hb dX3_behind_59 (by decide) ?_
      refine lv_icmp_ne (tgt := 74) (pc := 60) hx hb dX3_behind_60 rfl (fun hc => ?_) (fun hc => ?_)
      · have hf := za_f hf hc
        refine lv_iload_n (pc := 74) hx hb dX3_behind_74 rfl (lv_at hl 5 rfl) ?_
        refine lv_bipush (v := (20 : Int32)) (pc := 75) hx hb dX3_behind_75 (by decide) ?_
        obtain ⟨v12, hj, hf⟩ := zc_1 hf
        refine zj_join (pcJ := 95) (stk := [.int v12]) (X := fun H locs ls => lv_has ls 7 [(3, .int v1), (4, .int v2), (5, .int v3)] ∧ va_P (dC, dI) zz_cls [zo_X3 a_o a_c a_w a_o_deeds a_o_ends f_o_found, zo_X0 a_c f_c_top f_c_things a_c_bars a_c_gives a_c_rough f_c_startRung f_c_startThings f_c_startStrength f_c_startWind f_c_slips f_c_lines a_c_code f_c_coded f_c_tiresFrom f_c_tiresTo f_c_mayFrom f_c_mayTo, (a_c_bars, .inl (dA 0, 9, .inl b_c_bars)), (a_c_rough, .inl (dA 0, 9, .inl b_c_rough)), (a_c_code, .inl (dA 0, 900, .inl b_c_code)), zo_X2 a_w a_c a_w_told a_w_facts a_w_stack f_w_wind, (a_w_told, .inl (dA 0, 315, .inl b_w_told)), (a_w_facts, .inl (dA 0, 6, .inl b_w_facts)), (a_w_stack, .inl (dA 0, 64, .inl b_w_stack))] H ∧ va_D A [zo_X3 a_o a_c a_w a_o_deeds a_o_ends f_o_found, zo_X0 a_c f_c_top f_c_things a_c_bars a_c_gives a_c_rough f_c_startRung f_c_startThings f_c_startStrength f_c_startWind f_c_slips f_c_lines a_c_code f_c_coded f_c_tiresFrom f_c_tiresTo f_c_mayFrom f_c_mayTo, (a_c_bars, .inl (dA 0, 9, .inl b_c_bars)), (a_c_rough, .inl (dA 0, 9, .inl b_c_rough)), (a_c_code, .inl (dA 0, 900, .inl b_c_code)), zo_X2 a_w a_c a_w_told a_w_facts a_w_stack f_w_wind, (a_w_told, .inl (dA 0, 315, .inl b_w_told)), (a_w_facts, .inl (dA 0, 6, .inl b_w_facts)), (a_w_stack, .inl (dA 0, 64, .inl b_w_stack))] ∧ va_S A s.heap H locs) (fun H locs ls hX => ?_) (fun J95 => ?_)
        · obtain ⟨hl, hP, hD, hS⟩ := hX
          clear hj
          refine lv_istore (lv' := [(6, .int v12), (3, .int v1), (4, .int v2), (5, .int v3)]) (pc := 95) hx hb dX3_behind_95 hl (by decide) rfl (fun ls hl => ?_)
          refine lv_iload_n (pc := 97) hx hb dX3_behind_97 rfl (lv_at hl 1 rfl) ?_
          refine lv_iload (pc := 98) hx hb dX3_behind_98 (lv_at hl 2 rfl) ?_
          refine lv_iload (pc := 100) hx hb dX3_behind_100 (lv_at hl 0 rfl) ?_
          refine lv_ixor (pc := 102) hx hb dX3_behind_102 ?_
          refine lv_iload (pc := 103) hx hb dX3_behind_103 (lv_at hl 3 rfl) ?_
          obtain ⟨v13, hv13, hf⟩ := zc_1 hf
          refine zx_Ni (pc := 105) (wc := []) (wr := [zo_X3 a_o a_c a_w a_o_deeds a_o_ends f_o_found, zo_X0 a_c f_c_top f_c_things a_c_bars a_c_gives a_c_rough f_c_startRung f_c_startThings f_c_startStrength f_c_startWind f_c_slips f_c_lines a_c_code f_c_coded f_c_tiresFrom f_c_tiresTo f_c_mayFrom f_c_mayTo, (a_c_bars, .inl (dA 0, 9, .inl b_c_bars)), (a_c_rough, .inl (dA 0, 9, .inl b_c_rough)), (a_c_code, .inl (dA 0, 900, .inl b_c_code)), zo_X2 a_w a_c a_w_told a_w_facts a_w_stack f_w_wind, (a_w_told, .inl (dA 0, 315, .inl b_w_told)), (a_w_facts, .inl (dA 0, 6, .inl b_w_facts)), (a_w_stack, .inl (dA 0, 64, .inl b_w_stack))]) (w1 := []) (As := [.int v1, .int (v2 ^^^ v12), .int v3]) (rest := []) ⟨hx, hb, hml, hown, ht⟩ (zt_X10_standOf l dC dI dA adK adV _ v1 (v2 ^^^ v12) v3 v13 hv13) ⟨va_cnB 3 ht (zq_C zq_132) rfl rfl rfl (hZ.nest 9 rfl) (ht _ zq_58) zk_X10_standOf.2 ⟨Nat.le_of_ble_eq_true rfl, Nat.le_of_ble_eq_true rfl⟩, ht _ zq_131, trivial⟩ hZ hK hP hD hS hA [] [0, 1, 2, 3, 4, 5, 6, 7, 8] (by decide) (by decide) (by decide) rfl rfl rfl hl.1 (Nat.le_of_ble_eq_true rfl) dX3_behind_105 ⟨Nat.zero_le _, Nat.zero_le _⟩ rfl (fun H locs hP hD hS => ?_)
          have hP : va_P (dC, dI) zz_cls [zo_X3 a_o a_c a_w a_o_deeds a_o_ends f_o_found, zo_X0 a_c f_c_top f_c_things a_c_bars a_c_gives a_c_rough f_c_startRung f_c_startThings f_c_startStrength f_c_startWind f_c_slips f_c_lines a_c_code f_c_coded f_c_tiresFrom f_c_tiresTo f_c_mayFrom f_c_mayTo, (a_c_bars, .inl (dA 0, 9, .inl b_c_bars)), (a_c_rough, .inl (dA 0, 9, .inl b_c_rough)), (a_c_code, .inl (dA 0, 900, .inl b_c_code)), zo_X2 a_w a_c a_w_told a_w_facts a_w_stack f_w_wind, (a_w_told, .inl (dA 0, 315, .inl b_w_told)), (a_w_facts, .inl (dA 0, 6, .inl b_w_facts)), (a_w_stack, .inl (dA 0, 64, .inl b_w_stack))] H := hP
          have hD : va_D A [zo_X3 a_o a_c a_w a_o_deeds a_o_ends f_o_found, zo_X0 a_c f_c_top f_c_things a_c_bars a_c_gives a_c_rough f_c_startRung f_c_startThings f_c_startStrength f_c_startWind f_c_slips f_c_lines a_c_code f_c_coded f_c_tiresFrom f_c_tiresTo f_c_mayFrom f_c_mayTo, (a_c_bars, .inl (dA 0, 9, .inl b_c_bars)), (a_c_rough, .inl (dA 0, 9, .inl b_c_rough)), (a_c_code, .inl (dA 0, 900, .inl b_c_code)), zo_X2 a_w a_c a_w_told a_w_facts a_w_stack f_w_wind, (a_w_told, .inl (dA 0, 315, .inl b_w_told)), (a_w_facts, .inl (dA 0, 6, .inl b_w_facts)), (a_w_stack, .inl (dA 0, 64, .inl b_w_stack))] := hD
          obtain ⟨rfl, rfl, rfl, rfl⟩ := zi_4 hf
          exact W.iret (pc := 108) hx hb hr (fun t ht hW => ⟨⟨_, (), rfl, rfl, zz_Bi (by rw [ht]; exact hP) (va_K.moved hW.alike hK) (hD)⟩, hS.F ht⟩) hS.2.2 dX3_behind_108
        · clear hf
          have hf := hj
          clear hj
          refine lv_icmp_ge (tgt := 89) (pc := 77) hx hb dX3_behind_77 rfl (fun hc => ?_) (fun hc => ?_)
          · have hf := za_t hf hc
            refine lv_iconst (v := (1 : Int32)) (pc := 89) hx hb dX3_behind_89 (by decide) ?_
            refine lv_iload_n (pc := 90) hx hb dX3_behind_90 rfl (lv_at hl 5 rfl) ?_
            refine lv_bipush (v := (20 : Int32)) (pc := 91) hx hb dX3_behind_91 (by decide) ?_
            refine lv_isub (pc := 93) hx hb dX3_behind_93 ?_
            refine lv_ishl (pc := 94) hx hb dX3_behind_94 ?_
            obtain rfl := Option.some.inj hf
            exact J95 _ _ _ ⟨lv_sub hl [2, 1, 0] rfl, hP, hD, hS⟩
          · have hf := za_f hf hc
            refine lv_iconst (v := (1 : Int32)) (pc := 80) hx hb dX3_behind_80 (by decide) ?_
            refine lv_iload_n (pc := 81) hx hb dX3_behind_81 rfl (lv_at hl 5 rfl) ?_
            refine lv_bipush (v := (10 : Int32)) (pc := 82) hx hb dX3_behind_82 (by decide) ?_
            refine lv_isub (pc := 84) hx hb dX3_behind_84 ?_
            refine lv_ishl (pc := 85) hx hb dX3_behind_85 ?_
            refine lv_goto (tgt := 95) (pc := 86) hx hb dX3_behind_86 rfl ?_
            obtain rfl := Option.some.inj hf
            exact J95 _ _ _ ⟨lv_sub hl [2, 1, 0] rfl, hP, hD, hS⟩
      · have hf := za_t hf hc
        refine lv_iload_n (pc := 63) hx hb dX3_behind_63 rfl (lv_at hl 2 rfl) ?_
        refine lv_iconst (v := (1 : Int32)) (pc := 64) hx hb dX3_behind_64 (by decide) ?_
        refine lv_isub (pc := 65) hx hb dX3_behind_65 ?_
        refine lv_iload (pc := 66) hx hb dX3_behind_66 (lv_at hl 1 rfl) ?_
        refine lv_iload (pc := 68) hx hb dX3_behind_68 (lv_at hl 0 rfl) ?_
        obtain ⟨v11, hv11, hf⟩ := zc_1 hf
        refine zx_Ni (pc := 70) (wc := []) (wr := [zo_X3 a_o a_c a_w a_o_deeds a_o_ends f_o_found, zo_X0 a_c f_c_top f_c_things a_c_bars a_c_gives a_c_rough f_c_startRung f_c_startThings f_c_startStrength f_c_startWind f_c_slips f_c_lines a_c_code f_c_coded f_c_tiresFrom f_c_tiresTo f_c_mayFrom f_c_mayTo, (a_c_bars, .inl (dA 0, 9, .inl b_c_bars)), (a_c_rough, .inl (dA 0, 9, .inl b_c_rough)), (a_c_code, .inl (dA 0, 900, .inl b_c_code)), zo_X2 a_w a_c a_w_told a_w_facts a_w_stack f_w_wind, (a_w_told, .inl (dA 0, 315, .inl b_w_told)), (a_w_facts, .inl (dA 0, 6, .inl b_w_facts)), (a_w_stack, .inl (dA 0, 64, .inl b_w_stack))]) (w1 := []) (As := [.int (v1 - (1 : Int32)), .int v2, .int v3]) (rest := []) ⟨hx, hb, hml, hown, ht⟩ (zt_X10_standOf l dC dI dA adK adV _ (v1 - (1 : Int32)) v2 v3 v11 hv11) ⟨va_cnB 3 ht (zq_C zq_132) rfl rfl rfl (hZ.nest 9 rfl) (ht _ zq_58) zk_X10_standOf.2 ⟨Nat.le_of_ble_eq_true rfl, Nat.le_of_ble_eq_true rfl⟩, ht _ zq_131, trivial⟩ hZ hK hP hD hS hA [] [0, 1, 2, 3, 4, 5, 6, 7, 8] (by decide) (by decide) (by decide) rfl rfl rfl hl.1 (Nat.le_of_ble_eq_true rfl) dX3_behind_70 ⟨Nat.zero_le _, Nat.zero_le _⟩ rfl (fun H locs hP hD hS => ?_)
        have hP : va_P (dC, dI) zz_cls [zo_X3 a_o a_c a_w a_o_deeds a_o_ends f_o_found, zo_X0 a_c f_c_top f_c_things a_c_bars a_c_gives a_c_rough f_c_startRung f_c_startThings f_c_startStrength f_c_startWind f_c_slips f_c_lines a_c_code f_c_coded f_c_tiresFrom f_c_tiresTo f_c_mayFrom f_c_mayTo, (a_c_bars, .inl (dA 0, 9, .inl b_c_bars)), (a_c_rough, .inl (dA 0, 9, .inl b_c_rough)), (a_c_code, .inl (dA 0, 900, .inl b_c_code)), zo_X2 a_w a_c a_w_told a_w_facts a_w_stack f_w_wind, (a_w_told, .inl (dA 0, 315, .inl b_w_told)), (a_w_facts, .inl (dA 0, 6, .inl b_w_facts)), (a_w_stack, .inl (dA 0, 64, .inl b_w_stack))] H := hP
        have hD : va_D A [zo_X3 a_o a_c a_w a_o_deeds a_o_ends f_o_found, zo_X0 a_c f_c_top f_c_things a_c_bars a_c_gives a_c_rough f_c_startRung f_c_startThings f_c_startStrength f_c_startWind f_c_slips f_c_lines a_c_code f_c_coded f_c_tiresFrom f_c_tiresTo f_c_mayFrom f_c_mayTo, (a_c_bars, .inl (dA 0, 9, .inl b_c_bars)), (a_c_rough, .inl (dA 0, 9, .inl b_c_rough)), (a_c_code, .inl (dA 0, 900, .inl b_c_code)), zo_X2 a_w a_c a_w_told a_w_facts a_w_stack f_w_wind, (a_w_told, .inl (dA 0, 315, .inl b_w_told)), (a_w_facts, .inl (dA 0, 6, .inl b_w_facts)), (a_w_stack, .inl (dA 0, 64, .inl b_w_stack))] := hD
        obtain ⟨rfl, rfl, rfl, rfl⟩ := zi_4 hf
        exact W.iret (pc := 73) hx hb hr (fun t ht hW => ⟨⟨_, (), rfl, rfl, zz_Bi (by rw [ht]; exact hP) (va_K.moved hW.alike hK) (hD)⟩, hS.F ht⟩) hS.2.2 dX3_behind_73
    · have hf := za_t hf hc
      refine lv_iload_n (pc := 41) hx hb dX3_behind_41 rfl (lv_at hl 2 rfl) ?_
      refine lv_iconst (v := (1 : Int32)) (pc := 42) hx hb dX3_behind_42 (by decide) ?_
      refine lv_iadd (pc := 43) hx hb dX3_behind_43 ?_
      refine lv_iload (pc := 44) hx hb dX3_behind_44 (lv_at hl 1 rfl) ?_
      refine lv_aload_n (pc := 46) hx hb dX3_behind_46 rfl (lv_at hl 3 rfl) ?_
      refine va_get (pc := 47) (D := (dC, dI)) (ci := 4) (v := .ref a_w) (C := RX3) (T := TX3) (N := 5) hx hb ht zq_layX3 hown hK hP 0 rfl rfl 1 (by decide) (ht _ zq_53) (fun _ h9 => h9) rfl dX3_behind_47 ?_
      refine lv_iload_n (pc := 50) hx hb dX3_behind_50 rfl (lv_at hl 4 rfl) ?_
      obtain ⟨v6, a7, a8, a9, hv6, hf⟩ := zc_4 hf
      refine zx_Vi (pc := 51) (wc := [zo_X2 a_w a_c a_w_told a_w_facts a_w_stack f_w_wind, zo_X0 a_c f_c_top f_c_things a_c_bars a_c_gives a_c_rough f_c_startRung f_c_startThings f_c_startStrength f_c_startWind f_c_slips f_c_lines a_c_code f_c_coded f_c_tiresFrom f_c_tiresTo f_c_mayFrom f_c_mayTo, (a_c_bars, .inl (dA 0, 9, .inl b_c_bars)), (a_c_rough, .inl (dA 0, 9, .inl b_c_rough)), (a_c_code, .inl (dA 0, 900, .inl b_c_code)), (a_w_told, .inl (dA 0, 315, .inl b_w_told)), (a_w_facts, .inl (dA 0, 6, .inl b_w_facts)), (a_w_stack, .inl (dA 0, 64, .inl b_w_stack))]) (wr := [zo_X3 a_o a_c a_w a_o_deeds a_o_ends f_o_found]) (w1 := [zo_X2 a_w a_c a_w_told a_w_facts a_w_stack f_w_wind, zo_X0 a_c f_c_top f_c_things a_c_bars a_c_gives a_c_rough f_c_startRung f_c_startThings f_c_startStrength f_c_startWind f_c_slips f_c_lines a_c_code f_c_coded f_c_tiresFrom f_c_tiresTo f_c_mayFrom f_c_mayTo, (a_c_bars, .inl (dA 0, 9, .inl b_c_bars)), (a_c_rough, .inl (dA 0, 9, .inl b_c_rough)), (a_c_code, .inl (dA 0, 900, .inl b_c_code)), (a_w_told, .inl (dA 0, 315, .inl a7)), (a_w_facts, .inl (dA 0, 6, .inl a8)), (a_w_stack, .inl (dA 0, 64, .inl a9))]) (As := [.int p1]) (rest := [.int v2, .int (v1 + (1 : Int32))]) ⟨hx, hb, hml, hown, ht⟩ (zt_X2_strengthAbove l dC dI dA adK adV _ a_w a_c a_w_told a_w_facts a_w_stack a_c_bars a_c_gives a_c_rough a_c_code n f_w_wind f_c_top f_c_things f_c_startRung f_c_startThings f_c_startStrength f_c_startWind f_c_slips f_c_lines f_c_coded f_c_tiresFrom f_c_tiresTo f_c_mayFrom f_c_mayTo b_c_bars b_c_rough b_c_code b_w_told b_w_facts b_w_stack p1 v6 a7 a8 a9 hv6) (cwV 1 ht (zq_V zq_78 zq_79 zq_80 zq_81 zq_82) rfl rfl rfl zk_X2_strengthAbove ⟨Nat.le_of_ble_eq_true rfl, Nat.le_of_ble_eq_true rfl⟩) rfl rfl hZ hK hP hD hS hA [5, 1, 2, 3, 4, 6, 7, 8] [0] (by decide) (by decide) (by decide) rfl rfl rfl hl.1 (Nat.le_of_ble_eq_true rfl) dX3_behind_51 ⟨Nat.zero_le _, Nat.zero_le _⟩ rfl (fun H locs hP hD hS => ?_)
      have hP : va_P (dC, dI) zz_cls [zo_X3 a_o a_c a_w a_o_deeds a_o_ends f_o_found, zo_X2 a_w a_c a_w_told a_w_facts a_w_stack f_w_wind, zo_X0 a_c f_c_top f_c_things a_c_bars a_c_gives a_c_rough f_c_startRung f_c_startThings f_c_startStrength f_c_startWind f_c_slips f_c_lines a_c_code f_c_coded f_c_tiresFrom f_c_tiresTo f_c_mayFrom f_c_mayTo, (a_c_bars, .inl (dA 0, 9, .inl b_c_bars)), (a_c_rough, .inl (dA 0, 9, .inl b_c_rough)), (a_c_code, .inl (dA 0, 900, .inl b_c_code)), (a_w_told, .inl (dA 0, 315, .inl a7)), (a_w_facts, .inl (dA 0, 6, .inl a8)), (a_w_stack, .inl (dA 0, 64, .inl a9))] H := hP
      have hD : va_D A [zo_X3 a_o a_c a_w a_o_deeds a_o_ends f_o_found, zo_X2 a_w a_c a_w_told a_w_facts a_w_stack f_w_wind, zo_X0 a_c f_c_top f_c_things a_c_bars a_c_gives a_c_rough f_c_startRung f_c_startThings f_c_startStrength f_c_startWind f_c_slips f_c_lines a_c_code f_c_coded f_c_tiresFrom f_c_tiresTo f_c_mayFrom f_c_mayTo, (a_c_bars, .inl (dA 0, 9, .inl b_c_bars)), (a_c_rough, .inl (dA 0, 9, .inl b_c_rough)), (a_c_code, .inl (dA 0, 900, .inl b_c_code)), (a_w_told, .inl (dA 0, 315, .inl a7)), (a_w_facts, .inl (dA 0, 6, .inl a8)), (a_w_stack, .inl (dA 0, 64, .inl a9))] := hD
      obtain ⟨v10, hv10, hf⟩ := zc_1 hf
      refine zx_Ni (pc := 54) (wc := []) (wr := [zo_X3 a_o a_c a_w a_o_deeds a_o_ends f_o_found, zo_X2 a_w a_c a_w_told a_w_facts a_w_stack f_w_wind, zo_X0 a_c f_c_top f_c_things a_c_bars a_c_gives a_c_rough f_c_startRung f_c_startThings f_c_startStrength f_c_startWind f_c_slips f_c_lines a_c_code f_c_coded f_c_tiresFrom f_c_tiresTo f_c_mayFrom f_c_mayTo, (a_c_bars, .inl (dA 0, 9, .inl b_c_bars)), (a_c_rough, .inl (dA 0, 9, .inl b_c_rough)), (a_c_code, .inl (dA 0, 900, .inl b_c_code)), (a_w_told, .inl (dA 0, 315, .inl a7)), (a_w_facts, .inl (dA 0, 6, .inl a8)), (a_w_stack, .inl (dA 0, 64, .inl a9))]) (w1 := []) (As := [.int (v1 + (1 : Int32)), .int v2, .int v6]) (rest := []) ⟨hx, hb, hml, hown, ht⟩ (zt_X10_standOf l dC dI dA adK adV _ (v1 + (1 : Int32)) v2 v6 v10 hv10) ⟨va_cnB 3 ht (zq_C zq_132) rfl rfl rfl (hZ.nest 9 rfl) (ht _ zq_58) zk_X10_standOf.2 ⟨Nat.le_of_ble_eq_true rfl, Nat.le_of_ble_eq_true rfl⟩, ht _ zq_131, trivial⟩ hZ hK hP hD hS hA [] [0, 1, 2, 3, 4, 5, 6, 7, 8] (by decide) (by decide) (by decide) rfl rfl rfl hl.1 (Nat.le_of_ble_eq_true rfl) dX3_behind_54 ⟨Nat.zero_le _, Nat.zero_le _⟩ rfl (fun H locs hP hD hS => ?_)
      have hP : va_P (dC, dI) zz_cls [zo_X3 a_o a_c a_w a_o_deeds a_o_ends f_o_found, zo_X2 a_w a_c a_w_told a_w_facts a_w_stack f_w_wind, zo_X0 a_c f_c_top f_c_things a_c_bars a_c_gives a_c_rough f_c_startRung f_c_startThings f_c_startStrength f_c_startWind f_c_slips f_c_lines a_c_code f_c_coded f_c_tiresFrom f_c_tiresTo f_c_mayFrom f_c_mayTo, (a_c_bars, .inl (dA 0, 9, .inl b_c_bars)), (a_c_rough, .inl (dA 0, 9, .inl b_c_rough)), (a_c_code, .inl (dA 0, 900, .inl b_c_code)), (a_w_told, .inl (dA 0, 315, .inl a7)), (a_w_facts, .inl (dA 0, 6, .inl a8)), (a_w_stack, .inl (dA 0, 64, .inl a9))] H := hP
      have hD : va_D A [zo_X3 a_o a_c a_w a_o_deeds a_o_ends f_o_found, zo_X2 a_w a_c a_w_told a_w_facts a_w_stack f_w_wind, zo_X0 a_c f_c_top f_c_things a_c_bars a_c_gives a_c_rough f_c_startRung f_c_startThings f_c_startStrength f_c_startWind f_c_slips f_c_lines a_c_code f_c_coded f_c_tiresFrom f_c_tiresTo f_c_mayFrom f_c_mayTo, (a_c_bars, .inl (dA 0, 9, .inl b_c_bars)), (a_c_rough, .inl (dA 0, 9, .inl b_c_rough)), (a_c_code, .inl (dA 0, 900, .inl b_c_code)), (a_w_told, .inl (dA 0, 315, .inl a7)), (a_w_facts, .inl (dA 0, 6, .inl a8)), (a_w_stack, .inl (dA 0, 64, .inl a9))] := hD
      obtain ⟨rfl, rfl, rfl, rfl⟩ := zi_4 hf
      exact W.iret (pc := 57) hx hb hr (fun t ht hW => ⟨⟨_, (), rfl, rfl, zz_Bi (by rw [ht]; exact hP.sub [0, 2, 3, 4, 5, 1, 6, 7, 8] rfl) (va_K.moved hW.alike hK) (hD.sub [0, 2, 3, 4, 5, 1, 6, 7, 8] (by decide) rfl)⟩, hS.F ht⟩) hS.2.2 dX3_behind_57
  · have hf := za_t hf hc
    refine lv_iload_n (pc := 21) hx hb dX3_behind_21 rfl (lv_at hl 2 rfl) ?_
    refine lv_iload (pc := 22) hx hb dX3_behind_22 (lv_at hl 1 rfl) ?_
    refine lv_iconst (v := (4 : Int32)) (pc := 24) hx hb dX3_behind_24 (by decide) ?_
    refine lv_iload (pc := 25) hx hb dX3_behind_25 (lv_at hl 0 rfl) ?_
    refine lv_iconst (v := (1 : Int32)) (pc := 27) hx hb dX3_behind_27 (by decide) ?_
    refine lv_iadd (pc := 28) hx hb dX3_behind_28 ?_
    refine va_mmin (pc := 29) hx hb (hml.trans hl.1.symm) hown (ht _ zq_178) (ht _ zq_91) (ht _ zq_92) (ht _ zq_93) (Nat.le_of_ble_eq_true rfl) (Nat.le_of_ble_eq_true rfl) (Nat.zero_le _) (Nat.zero_le _) dX3_behind_29 ?_
    obtain ⟨v4, hv4, hf⟩ := zc_1 hf
    refine zw_top (hv4) ?_
    obtain ⟨v5, hv5, hf⟩ := zc_1 hf
    refine zx_Ni (pc := 32) (wc := []) (wr := [zo_X3 a_o a_c a_w a_o_deeds a_o_ends f_o_found, zo_X0 a_c f_c_top f_c_things a_c_bars a_c_gives a_c_rough f_c_startRung f_c_startThings f_c_startStrength f_c_startWind f_c_slips f_c_lines a_c_code f_c_coded f_c_tiresFrom f_c_tiresTo f_c_mayFrom f_c_mayTo, (a_c_bars, .inl (dA 0, 9, .inl b_c_bars)), (a_c_rough, .inl (dA 0, 9, .inl b_c_rough)), (a_c_code, .inl (dA 0, 900, .inl b_c_code)), zo_X2 a_w a_c a_w_told a_w_facts a_w_stack f_w_wind, (a_w_told, .inl (dA 0, 315, .inl b_w_told)), (a_w_facts, .inl (dA 0, 6, .inl b_w_facts)), (a_w_stack, .inl (dA 0, 64, .inl b_w_stack))]) (w1 := []) (As := [.int v1, .int v2, .int v4]) (rest := []) ⟨hx, hb, hml, hown, ht⟩ (zt_X10_standOf l dC dI dA adK adV _ v1 v2 v4 v5 hv5) ⟨va_cnB 3 ht (zq_C zq_132) rfl rfl rfl (hZ.nest 9 rfl) (ht _ zq_58) zk_X10_standOf.2 ⟨Nat.le_of_ble_eq_true rfl, Nat.le_of_ble_eq_true rfl⟩, ht _ zq_131, trivial⟩ hZ hK hP hD hS hA [] [0, 1, 2, 3, 4, 5, 6, 7, 8] (by decide) (by decide) (by decide) rfl rfl rfl hl.1 (Nat.le_of_ble_eq_true rfl) dX3_behind_32 ⟨Nat.zero_le _, Nat.zero_le _⟩ rfl (fun H locs hP hD hS => ?_)
    have hP : va_P (dC, dI) zz_cls [zo_X3 a_o a_c a_w a_o_deeds a_o_ends f_o_found, zo_X0 a_c f_c_top f_c_things a_c_bars a_c_gives a_c_rough f_c_startRung f_c_startThings f_c_startStrength f_c_startWind f_c_slips f_c_lines a_c_code f_c_coded f_c_tiresFrom f_c_tiresTo f_c_mayFrom f_c_mayTo, (a_c_bars, .inl (dA 0, 9, .inl b_c_bars)), (a_c_rough, .inl (dA 0, 9, .inl b_c_rough)), (a_c_code, .inl (dA 0, 900, .inl b_c_code)), zo_X2 a_w a_c a_w_told a_w_facts a_w_stack f_w_wind, (a_w_told, .inl (dA 0, 315, .inl b_w_told)), (a_w_facts, .inl (dA 0, 6, .inl b_w_facts)), (a_w_stack, .inl (dA 0, 64, .inl b_w_stack))] H := hP
    have hD : va_D A [zo_X3 a_o a_c a_w a_o_deeds a_o_ends f_o_found, zo_X0 a_c f_c_top f_c_things a_c_bars a_c_gives a_c_rough f_c_startRung f_c_startThings f_c_startStrength f_c_startWind f_c_slips f_c_lines a_c_code f_c_coded f_c_tiresFrom f_c_tiresTo f_c_mayFrom f_c_mayTo, (a_c_bars, .inl (dA 0, 9, .inl b_c_bars)), (a_c_rough, .inl (dA 0, 9, .inl b_c_rough)), (a_c_code, .inl (dA 0, 900, .inl b_c_code)), zo_X2 a_w a_c a_w_told a_w_facts a_w_stack f_w_wind, (a_w_told, .inl (dA 0, 315, .inl b_w_told)), (a_w_facts, .inl (dA 0, 6, .inl b_w_facts)), (a_w_stack, .inl (dA 0, 64, .inl b_w_stack))] := hD
    obtain ⟨rfl, rfl, rfl, rfl⟩ := zi_4 hf
    exact W.iret (pc := 35) hx hb hr (fun t ht hW => ⟨⟨_, (), rfl, rfl, zz_Bi (by rw [ht]; exact hP) (va_K.moved hW.alike hK) (hD)⟩, hS.F ht⟩) hS.2.2 dX3_behind_35

def zf_X3_after (n : Nat) (f_c_top : Int32) (f_c_things : Int32) (f_c_tiresFrom : Int32) (f_c_tiresTo : Int32) (f_c_mayFrom : Int32) (f_c_mayTo : Int32) (b_c_bars : (Nat → Int32)) (b_c_gives : (Nat → Int32)) (b_c_rough : (Nat → Int32)) (b_c_code : (Nat → Int32)) (f_w_wind : Int32) (b_w_told : (Nat → Int32)) (b_w_facts : (Nat → Int32)) (b_w_stack : (Nat → Int32)) (p1 : Int32) (p2 : Int32) : Option (Int32 × (Nat → Int32) × (Nat → Int32) × (Nat → Int32)) :=
  zd_4 (zf_X3_refusal n f_c_top f_c_things f_c_tiresFrom f_c_tiresTo f_c_mayFrom f_c_mayTo b_c_bars b_c_gives b_c_rough b_c_code f_w_wind b_w_told b_w_facts b_w_stack p1 p2) (fun v1 a2 a3 a4 =>
  if v1 = 0 then
    zd_4 (zf_X3_behind n f_c_top f_c_things f_c_tiresFrom f_c_tiresTo f_c_mayFrom f_c_mayTo b_c_bars b_c_rough b_c_code f_w_wind a2 a3 a4 p1 p2) (fun v5 a6 a7 a8 =>
    some (v5, a6, a7, a8))
  else
    some ((-1 : Int32), a2, a3, a4))
theorem zk_X3_after : yX3_after.cls = RX3 ∧ yX3_after.cls ≠ "java/lang/invoke/MethodHandle" ∧ yX3_after.cls ≠ "java/lang/invoke/VarHandle" ∧ (parseMethodDescriptor yX3_after.desc).map (fun d => d.parameters.length) = some 2 := by decide +kernel
set_option maxHeartbeats 4000000 in
set_option maxRecDepth 100000 in
theorem zt_X3_after (l : Launch) (dC : Nat → ClassId) (dI : Nat → Nat → Nat) (dA : Nat → ClassId) (adK adV : Nat → Nat) (sz : Nat) (a_o : Nat) (a_c : Nat) (a_w : Nat) (a_o_deeds : Nat) (a_o_ends : Nat) (a_c_bars : Nat) (a_c_gives : Nat) (a_c_rough : Nat) (a_c_code : Nat) (a_w_told : Nat) (a_w_facts : Nat) (a_w_stack : Nat) (n : Nat) (f_o_found : Int32) (f_c_top : Int32) (f_c_things : Int32) (f_c_startRung : Int32) (f_c_startThings : Int32) (f_c_startStrength : Int32) (f_c_startWind : Int32) (f_c_slips : Int32) (f_c_lines : Int32) (f_c_coded : Int32) (f_c_tiresFrom : Int32) (f_c_tiresTo : Int32) (f_c_mayFrom : Int32) (f_c_mayTo : Int32) (f_w_wind : Int32) (b_c_bars : (Nat → Int32)) (b_c_gives : (Nat → Int32)) (b_c_rough : (Nat → Int32)) (b_c_code : (Nat → Int32)) (b_w_told : (Nat → Int32)) (b_w_facts : (Nat → Int32)) (b_w_stack : (Nat → Int32)) (p1 : Int32) (p2 : Int32) (r0 : Int32) (o1 : (Nat → Int32)) (o2 : (Nat → Int32)) (o3 : (Nat → Int32)) (hf : zf_X3_after n f_c_top f_c_things f_c_tiresFrom f_c_tiresTo f_c_mayFrom f_c_mayTo b_c_bars b_c_gives b_c_rough b_c_code f_w_wind b_w_told b_w_facts b_w_stack p1 p2 = some (r0, o1, o2, o3)) : Met l yX3_after (.code yX3_after cX3_after 3 (some .int) :: zq_T) ({ frames := 5, cells := 0, slots := 0, locals := 154 }) (va_Pc [.ref a_o, .int p1, .int p2] (zx_M dC dI dA adK adV [zo_X3 a_o a_c a_w a_o_deeds a_o_ends f_o_found, zo_X0 a_c f_c_top f_c_things a_c_bars a_c_gives a_c_rough f_c_startRung f_c_startThings f_c_startStrength f_c_startWind f_c_slips f_c_lines a_c_code f_c_coded f_c_tiresFrom f_c_tiresTo f_c_mayFrom f_c_mayTo, (a_c_bars, .inl (dA 0, 9, .inl b_c_bars)), (a_c_gives, .inl (dA 0, 9, .inl b_c_gives)), (a_c_rough, .inl (dA 0, 9, .inl b_c_rough)), (a_c_code, .inl (dA 0, 900, .inl b_c_code)), zo_X2 a_w a_c a_w_told a_w_facts a_w_stack f_w_wind, (a_w_told, .inl (dA 0, 315, .inl b_w_told)), (a_w_facts, .inl (dA 0, 6, .inl b_w_facts)), (a_w_stack, .inl (dA 0, 64, .inl b_w_stack))] sz)) (va_Qi (fun (r : Int32) (_ : Unit) => r = r0) (fun _ t => zz_B dC dI dA (va_A [zo_X3 a_o a_c a_w a_o_deeds a_o_ends f_o_found, zo_X0 a_c f_c_top f_c_things a_c_bars a_c_gives a_c_rough f_c_startRung f_c_startThings f_c_startStrength f_c_startWind f_c_slips f_c_lines a_c_code f_c_coded f_c_tiresFrom f_c_tiresTo f_c_mayFrom f_c_mayTo, (a_c_bars, .inl (dA 0, 9, .inl b_c_bars)), (a_c_gives, .inl (dA 0, 9, .inl b_c_gives)), (a_c_rough, .inl (dA 0, 9, .inl b_c_rough)), (a_c_code, .inl (dA 0, 900, .inl b_c_code)), zo_X2 a_w a_c a_w_told a_w_facts a_w_stack f_w_wind, (a_w_told, .inl (dA 0, 315, .inl b_w_told)), (a_w_facts, .inl (dA 0, 6, .inl b_w_facts)), (a_w_stack, .inl (dA 0, 64, .inl b_w_stack))] sz) [zo_X3 a_o a_c a_w a_o_deeds a_o_ends f_o_found, zo_X0 a_c f_c_top f_c_things a_c_bars a_c_gives a_c_rough f_c_startRung f_c_startThings f_c_startStrength f_c_startWind f_c_slips f_c_lines a_c_code f_c_coded f_c_tiresFrom f_c_tiresTo f_c_mayFrom f_c_mayTo, (a_c_bars, .inl (dA 0, 9, .inl b_c_bars)), (a_c_gives, .inl (dA 0, 9, .inl b_c_gives)), (a_c_rough, .inl (dA 0, 9, .inl b_c_rough)), (a_c_code, .inl (dA 0, 900, .inl b_c_code)), zo_X2 a_w a_c a_w_told a_w_facts a_w_stack f_w_wind, (a_w_told, .inl (dA 0, 315, .inl o1)), (a_w_facts, .inl (dA 0, 6, .inl o2)), (a_w_stack, .inl (dA 0, 64, .inl o3))] t) (va_A [zo_X3 a_o a_c a_w a_o_deeds a_o_ends f_o_found, zo_X0 a_c f_c_top f_c_things a_c_bars a_c_gives a_c_rough f_c_startRung f_c_startThings f_c_startStrength f_c_startWind f_c_slips f_c_lines a_c_code f_c_coded f_c_tiresFrom f_c_tiresTo f_c_mayFrom f_c_mayTo, (a_c_bars, .inl (dA 0, 9, .inl b_c_bars)), (a_c_gives, .inl (dA 0, 9, .inl b_c_gives)), (a_c_rough, .inl (dA 0, 9, .inl b_c_rough)), (a_c_code, .inl (dA 0, 900, .inl b_c_code)), zo_X2 a_w a_c a_w_told a_w_facts a_w_stack f_w_wind, (a_w_told, .inl (dA 0, 315, .inl b_w_told)), (a_w_facts, .inl (dA 0, 6, .inl b_w_facts)), (a_w_stack, .inl (dA 0, 64, .inl b_w_stack))] sz)) 0 0 (va_A [zo_X3 a_o a_c a_w a_o_deeds a_o_ends f_o_found, zo_X0 a_c f_c_top f_c_things a_c_bars a_c_gives a_c_rough f_c_startRung f_c_startThings f_c_startStrength f_c_startWind f_c_slips f_c_lines a_c_code f_c_coded f_c_tiresFrom f_c_tiresTo f_c_mayFrom f_c_mayTo, (a_c_bars, .inl (dA 0, 9, .inl b_c_bars)), (a_c_gives, .inl (dA 0, 9, .inl b_c_gives)), (a_c_rough, .inl (dA 0, 9, .inl b_c_rough)), (a_c_code, .inl (dA 0, 900, .inl b_c_code)), zo_X2 a_w a_c a_w_told a_w_facts a_w_stack f_w_wind, (a_w_told, .inl (dA 0, 315, .inl b_w_told)), (a_w_facts, .inl (dA 0, 6, .inl b_w_facts)), (a_w_stack, .inl (dA 0, 64, .inl b_w_stack))] sz) := by
  unfold zf_X3_after at hf
  refine Met.ofW (cc := cX3_after) (maxL := 3) (ret := (some .int)) (by decide) rfl ?_
  intro p e s m args below meth c s₁ B hml hv
  obtain ⟨rfl, ⟨hsz, hP, hK, hD0⟩, hZ⟩ := hv
  have hx := B.exec
  have hb := B.bytes
  have hr := B.returns
  have ht : ∀ w ∈ zq_T, w.before ([.ref a_o, .int p1, .int p2] : List Value).toArray s = true := fun w hw => atoms_spec (ws := .code yX3_after cX3_after 3 (some .int) :: zq_T) B.pre w (List.mem_cons_of_mem _ hw)
  have hown : s.vm.findClass RX3 = some m.cls := findClass_of_methodNamed B.named
  have hlocks := B.notSynchronized
  subst hsz
  have hD := hD0.self (sz := s.heap.size)
  generalize hAe : va_A [zo_X3 a_o a_c a_w a_o_deeds a_o_ends f_o_found, zo_X0 a_c f_c_top f_c_things a_c_bars a_c_gives a_c_rough f_c_startRung f_c_startThings f_c_startStrength f_c_startWind f_c_slips f_c_lines a_c_code f_c_coded f_c_tiresFrom f_c_tiresTo f_c_mayFrom f_c_mayTo, (a_c_bars, .inl (dA 0, 9, .inl b_c_bars)), (a_c_gives, .inl (dA 0, 9, .inl b_c_gives)), (a_c_rough, .inl (dA 0, 9, .inl b_c_rough)), (a_c_code, .inl (dA 0, 900, .inl b_c_code)), zo_X2 a_w a_c a_w_told a_w_facts a_w_stack f_w_wind, (a_w_told, .inl (dA 0, 315, .inl b_w_told)), (a_w_facts, .inl (dA 0, 6, .inl b_w_facts)), (a_w_stack, .inl (dA 0, 64, .inl b_w_stack))] s.heap.size = A at hD hZ ⊢
  have hA : ∀ q : Nat, s.heap.size ≤ q → A q := fun q h => by rw [← hAe]; exact Or.inr h
  clear hAe hD0
  have hS : va_S A s.heap s.heap [] := va_S.rf
  have hl := lv_entry ([.ref a_o, .int p1, .int p2]) (n := 3) (Nat.le_of_ble_eq_true rfl)
  rw [lg_entry_eq]
  generalize (lg_sl ([.ref a_o, .int p1, .int p2]) ++ List.replicate (3 - (lg_sl ([.ref a_o, .int p1, .int p2])).length) Slot.unset).toArray = ls at hl ⊢
  have hl : lv_has ls 3 [(0, .ref a_o), (1, .int p1), (2, .int p2)] := hl
  refine lv_aload_n (pc := 0) hx hb dX3_after_0 rfl (lv_at hl 0 rfl) ?_
  refine lv_iload_n (pc := 1) hx hb dX3_after_1 rfl (lv_at hl 1 rfl) ?_
  refine lv_iload_n (pc := 2) hx hb dX3_after_2 rfl (lv_at hl 2 rfl) ?_
  obtain ⟨v1, a2, a3, a4, hv1, hf⟩ := zc_4 hf
  refine zx_Vi (pc := 3) (wc := [zo_X3 a_o a_c a_w a_o_deeds a_o_ends f_o_found, zo_X0 a_c f_c_top f_c_things a_c_bars a_c_gives a_c_rough f_c_startRung f_c_startThings f_c_startStrength f_c_startWind f_c_slips f_c_lines a_c_code f_c_coded f_c_tiresFrom f_c_tiresTo f_c_mayFrom f_c_mayTo, (a_c_bars, .inl (dA 0, 9, .inl b_c_bars)), (a_c_gives, .inl (dA 0, 9, .inl b_c_gives)), (a_c_rough, .inl (dA 0, 9, .inl b_c_rough)), (a_c_code, .inl (dA 0, 900, .inl b_c_code)), zo_X2 a_w a_c a_w_told a_w_facts a_w_stack f_w_wind, (a_w_told, .inl (dA 0, 315, .inl b_w_told)), (a_w_facts, .inl (dA 0, 6, .inl b_w_facts)), (a_w_stack, .inl (dA 0, 64, .inl b_w_stack))]) (wr := []) (w1 := [zo_X3 a_o a_c a_w a_o_deeds a_o_ends f_o_found, zo_X0 a_c f_c_top f_c_things a_c_bars a_c_gives a_c_rough f_c_startRung f_c_startThings f_c_startStrength f_c_startWind f_c_slips f_c_lines a_c_code f_c_coded f_c_tiresFrom f_c_tiresTo f_c_mayFrom f_c_mayTo, (a_c_bars, .inl (dA 0, 9, .inl b_c_bars)), (a_c_gives, .inl (dA 0, 9, .inl b_c_gives)), (a_c_rough, .inl (dA 0, 9, .inl b_c_rough)), (a_c_code, .inl (dA 0, 900, .inl b_c_code)), zo_X2 a_w a_c a_w_told a_w_facts a_w_stack f_w_wind, (a_w_told, .inl (dA 0, 315, .inl a2)), (a_w_facts, .inl (dA 0, 6, .inl a3)), (a_w_stack, .inl (dA 0, 64, .inl a4))]) (As := [.int p1, .int p2]) (rest := []) ⟨hx, hb, hml, hown, ht⟩ (zt_X3_refusal l dC dI dA adK adV _ a_o a_c a_w a_o_deeds a_o_ends a_c_bars a_c_gives a_c_rough a_c_code a_w_told a_w_facts a_w_stack n f_o_found f_c_top f_c_things f_c_startRung f_c_startThings f_c_startStrength f_c_startWind f_c_slips f_c_lines f_c_coded f_c_tiresFrom f_c_tiresTo f_c_mayFrom f_c_mayTo f_w_wind b_c_bars b_c_gives b_c_rough b_c_code b_w_told b_w_facts b_w_stack p1 p2 v1 a2 a3 a4 hv1) (cwV 2 ht (zq_V zq_180 zq_181 zq_182 zq_50 zq_177) rfl rfl rfl zk_X3_refusal ⟨Nat.le_of_ble_eq_true rfl, Nat.le_of_ble_eq_true rfl⟩) rfl rfl hZ hK hP hD hS hA [0, 1, 2, 3, 4, 5, 6, 7, 8, 9] [] (by decide) (by decide) (by decide) rfl rfl rfl hl.1 (Nat.le_of_ble_eq_true rfl) dX3_after_3 ⟨Nat.zero_le _, Nat.zero_le _⟩ rfl (fun H locs hP hD hS => ?_)
  have hP : va_P (dC, dI) zz_cls [zo_X3 a_o a_c a_w a_o_deeds a_o_ends f_o_found, zo_X0 a_c f_c_top f_c_things a_c_bars a_c_gives a_c_rough f_c_startRung f_c_startThings f_c_startStrength f_c_startWind f_c_slips f_c_lines a_c_code f_c_coded f_c_tiresFrom f_c_tiresTo f_c_mayFrom f_c_mayTo, (a_c_bars, .inl (dA 0, 9, .inl b_c_bars)), (a_c_gives, .inl (dA 0, 9, .inl b_c_gives)), (a_c_rough, .inl (dA 0, 9, .inl b_c_rough)), (a_c_code, .inl (dA 0, 900, .inl b_c_code)), zo_X2 a_w a_c a_w_told a_w_facts a_w_stack f_w_wind, (a_w_told, .inl (dA 0, 315, .inl a2)), (a_w_facts, .inl (dA 0, 6, .inl a3)), (a_w_stack, .inl (dA 0, 64, .inl a4))] H := hP
  have hD : va_D A [zo_X3 a_o a_c a_w a_o_deeds a_o_ends f_o_found, zo_X0 a_c f_c_top f_c_things a_c_bars a_c_gives a_c_rough f_c_startRung f_c_startThings f_c_startStrength f_c_startWind f_c_slips f_c_lines a_c_code f_c_coded f_c_tiresFrom f_c_tiresTo f_c_mayFrom f_c_mayTo, (a_c_bars, .inl (dA 0, 9, .inl b_c_bars)), (a_c_gives, .inl (dA 0, 9, .inl b_c_gives)), (a_c_rough, .inl (dA 0, 9, .inl b_c_rough)), (a_c_code, .inl (dA 0, 900, .inl b_c_code)), zo_X2 a_w a_c a_w_told a_w_facts a_w_stack f_w_wind, (a_w_told, .inl (dA 0, 315, .inl a2)), (a_w_facts, .inl (dA 0, 6, .inl a3)), (a_w_stack, .inl (dA 0, 64, .inl a4))] := hD
  refine lv_if_ne (tgt := 18) (pc := 6) hx hb dX3_after_6 rfl (fun hc => ?_) (fun hc => ?_)
  · have hf := za_f hf hc
    refine lv_iconst (v := (-1 : Int32)) (pc := 18) hx hb dX3_after_18 (by decide) ?_
    obtain ⟨rfl, rfl, rfl, rfl⟩ := zi_4 hf
    exact W.iret (pc := 19) hx hb hr (fun t ht hW => ⟨⟨_, (), rfl, rfl, zz_Bi (by rw [ht]; exact hP) (va_K.moved hW.alike hK) (hD)⟩, hS.F ht⟩) hS.2.2 dX3_after_19
  · have hf := za_t hf hc
    refine lv_aload_n (pc := 9) hx hb dX3_after_9 rfl (lv_at hl 0 rfl) ?_
    refine lv_iload_n (pc := 10) hx hb dX3_after_10 rfl (lv_at hl 1 rfl) ?_
    refine lv_iload_n (pc := 11) hx hb dX3_after_11 rfl (lv_at hl 2 rfl) ?_
    obtain ⟨v5, a6, a7, a8, hv5, hf⟩ := zc_4 hf
    refine zx_Vi (pc := 12) (wc := [zo_X3 a_o a_c a_w a_o_deeds a_o_ends f_o_found, zo_X0 a_c f_c_top f_c_things a_c_bars a_c_gives a_c_rough f_c_startRung f_c_startThings f_c_startStrength f_c_startWind f_c_slips f_c_lines a_c_code f_c_coded f_c_tiresFrom f_c_tiresTo f_c_mayFrom f_c_mayTo, (a_c_bars, .inl (dA 0, 9, .inl b_c_bars)), (a_c_rough, .inl (dA 0, 9, .inl b_c_rough)), (a_c_code, .inl (dA 0, 900, .inl b_c_code)), zo_X2 a_w a_c a_w_told a_w_facts a_w_stack f_w_wind, (a_w_told, .inl (dA 0, 315, .inl a2)), (a_w_facts, .inl (dA 0, 6, .inl a3)), (a_w_stack, .inl (dA 0, 64, .inl a4))]) (wr := [(a_c_gives, .inl (dA 0, 9, .inl b_c_gives))]) (w1 := [zo_X3 a_o a_c a_w a_o_deeds a_o_ends f_o_found, zo_X0 a_c f_c_top f_c_things a_c_bars a_c_gives a_c_rough f_c_startRung f_c_startThings f_c_startStrength f_c_startWind f_c_slips f_c_lines a_c_code f_c_coded f_c_tiresFrom f_c_tiresTo f_c_mayFrom f_c_mayTo, (a_c_bars, .inl (dA 0, 9, .inl b_c_bars)), (a_c_rough, .inl (dA 0, 9, .inl b_c_rough)), (a_c_code, .inl (dA 0, 900, .inl b_c_code)), zo_X2 a_w a_c a_w_told a_w_facts a_w_stack f_w_wind, (a_w_told, .inl (dA 0, 315, .inl a6)), (a_w_facts, .inl (dA 0, 6, .inl a7)), (a_w_stack, .inl (dA 0, 64, .inl a8))]) (As := [.int p1, .int p2]) (rest := []) ⟨hx, hb, hml, hown, ht⟩ (zt_X3_behind l dC dI dA adK adV _ a_o a_c a_w a_o_deeds a_o_ends a_c_bars a_c_gives a_c_rough a_c_code a_w_told a_w_facts a_w_stack n f_o_found f_c_top f_c_things f_c_startRung f_c_startThings f_c_startStrength f_c_startWind f_c_slips f_c_lines f_c_coded f_c_tiresFrom f_c_tiresTo f_c_mayFrom f_c_mayTo f_w_wind b_c_bars b_c_rough b_c_code a2 a3 a4 p1 p2 v5 a6 a7 a8 hv5) (cwV 2 ht (zq_V zq_183 zq_184 zq_185 zq_50 zq_179) rfl rfl rfl zk_X3_behind ⟨Nat.le_of_ble_eq_true rfl, Nat.le_of_ble_eq_true rfl⟩) rfl rfl hZ hK hP hD hS hA [0, 1, 2, 4, 5, 6, 7, 8, 9] [3] (by decide) (by decide) (by decide) rfl rfl rfl hl.1 (Nat.le_of_ble_eq_true rfl) dX3_after_12 ⟨Nat.zero_le _, Nat.zero_le _⟩ rfl (fun H locs hP hD hS => ?_)
    have hP : va_P (dC, dI) zz_cls [(a_c_gives, .inl (dA 0, 9, .inl b_c_gives)), zo_X3 a_o a_c a_w a_o_deeds a_o_ends f_o_found, zo_X0 a_c f_c_top f_c_things a_c_bars a_c_gives a_c_rough f_c_startRung f_c_startThings f_c_startStrength f_c_startWind f_c_slips f_c_lines a_c_code f_c_coded f_c_tiresFrom f_c_tiresTo f_c_mayFrom f_c_mayTo, (a_c_bars, .inl (dA 0, 9, .inl b_c_bars)), (a_c_rough, .inl (dA 0, 9, .inl b_c_rough)), (a_c_code, .inl (dA 0, 900, .inl b_c_code)), zo_X2 a_w a_c a_w_told a_w_facts a_w_stack f_w_wind, (a_w_told, .inl (dA 0, 315, .inl a6)), (a_w_facts, .inl (dA 0, 6, .inl a7)), (a_w_stack, .inl (dA 0, 64, .inl a8))] H := hP
    have hD : va_D A [(a_c_gives, .inl (dA 0, 9, .inl b_c_gives)), zo_X3 a_o a_c a_w a_o_deeds a_o_ends f_o_found, zo_X0 a_c f_c_top f_c_things a_c_bars a_c_gives a_c_rough f_c_startRung f_c_startThings f_c_startStrength f_c_startWind f_c_slips f_c_lines a_c_code f_c_coded f_c_tiresFrom f_c_tiresTo f_c_mayFrom f_c_mayTo, (a_c_bars, .inl (dA 0, 9, .inl b_c_bars)), (a_c_rough, .inl (dA 0, 9, .inl b_c_rough)), (a_c_code, .inl (dA 0, 900, .inl b_c_code)), zo_X2 a_w a_c a_w_told a_w_facts a_w_stack f_w_wind, (a_w_told, .inl (dA 0, 315, .inl a6)), (a_w_facts, .inl (dA 0, 6, .inl a7)), (a_w_stack, .inl (dA 0, 64, .inl a8))] := hD
    refine lv_goto (tgt := 19) (pc := 15) hx hb dX3_after_15 rfl ?_
    obtain ⟨rfl, rfl, rfl, rfl⟩ := zi_4 hf
    exact W.iret (pc := 19) hx hb hr (fun t ht hW => ⟨⟨_, (), rfl, rfl, zz_Bi (by rw [ht]; exact hP.sub [1, 2, 3, 0, 4, 5, 6, 7, 8, 9] rfl) (va_K.moved hW.alike hK) (hD.sub [1, 2, 3, 0, 4, 5, 6, 7, 8, 9] (by decide) rfl)⟩, hS.F ht⟩) hS.2.2 dX3_after_19

def zb_X3_habitual_49 (v10 : Int32) (v11 : Int32) : Option (Nat × Int32) :=
  if (6 : Int32) ≤ v11 then
    some (2, v11)
  else
    if ((v10 >>> (v11 &&& 31)) &&& (1 : Int32)) = 0 then
      zd_1 (some (v11 + (1 : Int32))) (fun v12 =>
      some (0, v12))
    else
      some (1, v11)
def zf_X3_habitual (n : Nat) (f_c_top : Int32) (f_c_things : Int32) (f_c_tiresFrom : Int32) (f_c_tiresTo : Int32) (f_c_mayFrom : Int32) (f_c_mayTo : Int32) (b_c_bars : (Nat → Int32)) (b_c_gives : (Nat → Int32)) (b_c_rough : (Nat → Int32)) (b_c_code : (Nat → Int32)) (f_w_wind : Int32) (b_w_told : (Nat → Int32)) (b_w_facts : (Nat → Int32)) (b_w_stack : (Nat → Int32)) (p1 : Int32) : Option (Int32 × (Nat → Int32) × (Nat → Int32) × (Nat → Int32)) :=
  zd_4 (zf_X3_refusal n f_c_top f_c_things f_c_tiresFrom f_c_tiresTo f_c_mayFrom f_c_mayTo b_c_bars b_c_gives b_c_rough b_c_code f_w_wind b_w_told b_w_facts b_w_stack p1 (1 : Int32)) (fun v1 a2 a3 a4 =>
  if v1 = 0 then
    some ((1 : Int32), a2, a3, a4)
  else
    zd_1 (zf_X10_rungOf p1) (fun v5 =>
    zd_1 (some ((v5 + (1 : Int32)))) (fun v6 =>
    zd_1 (zf_X0_isRung f_c_top v6) (fun v7 =>
    if v7 = 0 then
      some ((0 : Int32), a2, a3, a4)
    else
      zd_1 (zf_X10_thingsOf p1) (fun v8 =>
      zd_1 (za_ld b_c_bars 9 v6) (fun v9 =>
      zd_1 (some ((v8 &&& v9))) (fun v10 =>
      zd_2 (za_it (fun v => zb_X3_habitual_49 v10 v) n (0 : Int32)) (fun g14 v13 =>
      if g14 = 1 then
        some (((10 : Int32) + v13), a2, a3, a4)
      else if g14 = 2 then
        some ((0 : Int32), a2, a3, a4)
      else none))))))))
theorem zk_X3_habitual : yX3_habitual.cls = RX3 ∧ yX3_habitual.cls ≠ "java/lang/invoke/MethodHandle" ∧ yX3_habitual.cls ≠ "java/lang/invoke/VarHandle" ∧ (parseMethodDescriptor yX3_habitual.desc).map (fun d => d.parameters.length) = some 1 := by decide +kernel
set_option maxHeartbeats 4000000 in
set_option maxRecDepth 100000 in
theorem zt_X3_habitual (l : Launch) (dC : Nat → ClassId) (dI : Nat → Nat → Nat) (dA : Nat → ClassId) (adK adV : Nat → Nat) (sz : Nat) (a_o : Nat) (a_c : Nat) (a_w : Nat) (a_o_deeds : Nat) (a_o_ends : Nat) (a_c_bars : Nat) (a_c_gives : Nat) (a_c_rough : Nat) (a_c_code : Nat) (a_w_told : Nat) (a_w_facts : Nat) (a_w_stack : Nat) (n : Nat) (f_o_found : Int32) (f_c_top : Int32) (f_c_things : Int32) (f_c_startRung : Int32) (f_c_startThings : Int32) (f_c_startStrength : Int32) (f_c_startWind : Int32) (f_c_slips : Int32) (f_c_lines : Int32) (f_c_coded : Int32) (f_c_tiresFrom : Int32) (f_c_tiresTo : Int32) (f_c_mayFrom : Int32) (f_c_mayTo : Int32) (f_w_wind : Int32) (b_c_bars : (Nat → Int32)) (b_c_gives : (Nat → Int32)) (b_c_rough : (Nat → Int32)) (b_c_code : (Nat → Int32)) (b_w_told : (Nat → Int32)) (b_w_facts : (Nat → Int32)) (b_w_stack : (Nat → Int32)) (p1 : Int32) (r0 : Int32) (o1 : (Nat → Int32)) (o2 : (Nat → Int32)) (o3 : (Nat → Int32)) (hf : zf_X3_habitual n f_c_top f_c_things f_c_tiresFrom f_c_tiresTo f_c_mayFrom f_c_mayTo b_c_bars b_c_gives b_c_rough b_c_code f_w_wind b_w_told b_w_facts b_w_stack p1 = some (r0, o1, o2, o3)) : Met l yX3_habitual (.code yX3_habitual cX3_habitual 5 (some .int) :: zq_T) ({ frames := 5, cells := 0, slots := 0, locals := 153 }) (va_Pc [.ref a_o, .int p1] (zx_M dC dI dA adK adV [zo_X3 a_o a_c a_w a_o_deeds a_o_ends f_o_found, zo_X0 a_c f_c_top f_c_things a_c_bars a_c_gives a_c_rough f_c_startRung f_c_startThings f_c_startStrength f_c_startWind f_c_slips f_c_lines a_c_code f_c_coded f_c_tiresFrom f_c_tiresTo f_c_mayFrom f_c_mayTo, (a_c_bars, .inl (dA 0, 9, .inl b_c_bars)), (a_c_gives, .inl (dA 0, 9, .inl b_c_gives)), (a_c_rough, .inl (dA 0, 9, .inl b_c_rough)), (a_c_code, .inl (dA 0, 900, .inl b_c_code)), zo_X2 a_w a_c a_w_told a_w_facts a_w_stack f_w_wind, (a_w_told, .inl (dA 0, 315, .inl b_w_told)), (a_w_facts, .inl (dA 0, 6, .inl b_w_facts)), (a_w_stack, .inl (dA 0, 64, .inl b_w_stack))] sz)) (va_Qi (fun (r : Int32) (_ : Unit) => r = r0) (fun _ t => zz_B dC dI dA (va_A [zo_X3 a_o a_c a_w a_o_deeds a_o_ends f_o_found, zo_X0 a_c f_c_top f_c_things a_c_bars a_c_gives a_c_rough f_c_startRung f_c_startThings f_c_startStrength f_c_startWind f_c_slips f_c_lines a_c_code f_c_coded f_c_tiresFrom f_c_tiresTo f_c_mayFrom f_c_mayTo, (a_c_bars, .inl (dA 0, 9, .inl b_c_bars)), (a_c_gives, .inl (dA 0, 9, .inl b_c_gives)), (a_c_rough, .inl (dA 0, 9, .inl b_c_rough)), (a_c_code, .inl (dA 0, 900, .inl b_c_code)), zo_X2 a_w a_c a_w_told a_w_facts a_w_stack f_w_wind, (a_w_told, .inl (dA 0, 315, .inl b_w_told)), (a_w_facts, .inl (dA 0, 6, .inl b_w_facts)), (a_w_stack, .inl (dA 0, 64, .inl b_w_stack))] sz) [zo_X3 a_o a_c a_w a_o_deeds a_o_ends f_o_found, zo_X0 a_c f_c_top f_c_things a_c_bars a_c_gives a_c_rough f_c_startRung f_c_startThings f_c_startStrength f_c_startWind f_c_slips f_c_lines a_c_code f_c_coded f_c_tiresFrom f_c_tiresTo f_c_mayFrom f_c_mayTo, (a_c_bars, .inl (dA 0, 9, .inl b_c_bars)), (a_c_gives, .inl (dA 0, 9, .inl b_c_gives)), (a_c_rough, .inl (dA 0, 9, .inl b_c_rough)), (a_c_code, .inl (dA 0, 900, .inl b_c_code)), zo_X2 a_w a_c a_w_told a_w_facts a_w_stack f_w_wind, (a_w_told, .inl (dA 0, 315, .inl o1)), (a_w_facts, .inl (dA 0, 6, .inl o2)), (a_w_stack, .inl (dA 0, 64, .inl o3))] t) (va_A [zo_X3 a_o a_c a_w a_o_deeds a_o_ends f_o_found, zo_X0 a_c f_c_top f_c_things a_c_bars a_c_gives a_c_rough f_c_startRung f_c_startThings f_c_startStrength f_c_startWind f_c_slips f_c_lines a_c_code f_c_coded f_c_tiresFrom f_c_tiresTo f_c_mayFrom f_c_mayTo, (a_c_bars, .inl (dA 0, 9, .inl b_c_bars)), (a_c_gives, .inl (dA 0, 9, .inl b_c_gives)), (a_c_rough, .inl (dA 0, 9, .inl b_c_rough)), (a_c_code, .inl (dA 0, 900, .inl b_c_code)), zo_X2 a_w a_c a_w_told a_w_facts a_w_stack f_w_wind, (a_w_told, .inl (dA 0, 315, .inl b_w_told)), (a_w_facts, .inl (dA 0, 6, .inl b_w_facts)), (a_w_stack, .inl (dA 0, 64, .inl b_w_stack))] sz)) 0 0 (va_A [zo_X3 a_o a_c a_w a_o_deeds a_o_ends f_o_found, zo_X0 a_c f_c_top f_c_things a_c_bars a_c_gives a_c_rough f_c_startRung f_c_startThings f_c_startStrength f_c_startWind f_c_slips f_c_lines a_c_code f_c_coded f_c_tiresFrom f_c_tiresTo f_c_mayFrom f_c_mayTo, (a_c_bars, .inl (dA 0, 9, .inl b_c_bars)), (a_c_gives, .inl (dA 0, 9, .inl b_c_gives)), (a_c_rough, .inl (dA 0, 9, .inl b_c_rough)), (a_c_code, .inl (dA 0, 900, .inl b_c_code)), zo_X2 a_w a_c a_w_told a_w_facts a_w_stack f_w_wind, (a_w_told, .inl (dA 0, 315, .inl b_w_told)), (a_w_facts, .inl (dA 0, 6, .inl b_w_facts)), (a_w_stack, .inl (dA 0, 64, .inl b_w_stack))] sz) := by
  unfold zf_X3_habitual at hf
  refine Met.ofW (cc := cX3_habitual) (maxL := 5) (ret := (some .int)) (by decide) rfl ?_
  intro p e s m args below meth c s₁ B hml hv
  obtain ⟨rfl, ⟨hsz, hP, hK, hD0⟩, hZ⟩ := hv
  have hx := B.exec
  have hb := B.bytes
  have hr := B.returns
  have ht : ∀ w ∈ zq_T, w.before ([.ref a_o, .int p1] : List Value).toArray s = true := fun w hw => atoms_spec (ws := .code yX3_habitual cX3_habitual 5 (some .int) :: zq_T) B.pre w (List.mem_cons_of_mem _ hw)
  have hown : s.vm.findClass RX3 = some m.cls := findClass_of_methodNamed B.named
  have hlocks := B.notSynchronized
  subst hsz
  have hD := hD0.self (sz := s.heap.size)
  generalize hAe : va_A [zo_X3 a_o a_c a_w a_o_deeds a_o_ends f_o_found, zo_X0 a_c f_c_top f_c_things a_c_bars a_c_gives a_c_rough f_c_startRung f_c_startThings f_c_startStrength f_c_startWind f_c_slips f_c_lines a_c_code f_c_coded f_c_tiresFrom f_c_tiresTo f_c_mayFrom f_c_mayTo, (a_c_bars, .inl (dA 0, 9, .inl b_c_bars)), (a_c_gives, .inl (dA 0, 9, .inl b_c_gives)), (a_c_rough, .inl (dA 0, 9, .inl b_c_rough)), (a_c_code, .inl (dA 0, 900, .inl b_c_code)), zo_X2 a_w a_c a_w_told a_w_facts a_w_stack f_w_wind, (a_w_told, .inl (dA 0, 315, .inl b_w_told)), (a_w_facts, .inl (dA 0, 6, .inl b_w_facts)), (a_w_stack, .inl (dA 0, 64, .inl b_w_stack))] s.heap.size = A at hD hZ ⊢
  have hA : ∀ q : Nat, s.heap.size ≤ q → A q := fun q h => by rw [← hAe]; exact Or.inr h
  clear hAe hD0
  have hS : va_S A s.heap s.heap [] := va_S.rf
  have hl := lv_entry ([.ref a_o, .int p1]) (n := 5) (Nat.le_of_ble_eq_true rfl)
  rw [lg_entry_eq]
  generalize (lg_sl ([.ref a_o, .int p1]) ++ List.replicate (5 - (lg_sl ([.ref a_o, .int p1])).length) Slot.unset).toArray = ls at hl ⊢
  have hl : lv_has ls 5 [(0, .ref a_o), (1, .int p1)] := hl
  refine lv_aload_n (pc := 0) hx hb dX3_habitual_0 rfl (lv_at hl 0 rfl) ?_
  refine lv_iload_n (pc := 1) hx hb dX3_habitual_1 rfl (lv_at hl 1 rfl) ?_
  refine lv_iconst (v := (1 : Int32)) (pc := 2) hx hb dX3_habitual_2 (by decide) ?_
  obtain ⟨v1, a2, a3, a4, hv1, hf⟩ := zc_4 hf
  refine zx_Vi (pc := 3) (wc := [zo_X3 a_o a_c a_w a_o_deeds a_o_ends f_o_found, zo_X0 a_c f_c_top f_c_things a_c_bars a_c_gives a_c_rough f_c_startRung f_c_startThings f_c_startStrength f_c_startWind f_c_slips f_c_lines a_c_code f_c_coded f_c_tiresFrom f_c_tiresTo f_c_mayFrom f_c_mayTo, (a_c_bars, .inl (dA 0, 9, .inl b_c_bars)), (a_c_gives, .inl (dA 0, 9, .inl b_c_gives)), (a_c_rough, .inl (dA 0, 9, .inl b_c_rough)), (a_c_code, .inl (dA 0, 900, .inl b_c_code)), zo_X2 a_w a_c a_w_told a_w_facts a_w_stack f_w_wind, (a_w_told, .inl (dA 0, 315, .inl b_w_told)), (a_w_facts, .inl (dA 0, 6, .inl b_w_facts)), (a_w_stack, .inl (dA 0, 64, .inl b_w_stack))]) (wr := []) (w1 := [zo_X3 a_o a_c a_w a_o_deeds a_o_ends f_o_found, zo_X0 a_c f_c_top f_c_things a_c_bars a_c_gives a_c_rough f_c_startRung f_c_startThings f_c_startStrength f_c_startWind f_c_slips f_c_lines a_c_code f_c_coded f_c_tiresFrom f_c_tiresTo f_c_mayFrom f_c_mayTo, (a_c_bars, .inl (dA 0, 9, .inl b_c_bars)), (a_c_gives, .inl (dA 0, 9, .inl b_c_gives)), (a_c_rough, .inl (dA 0, 9, .inl b_c_rough)), (a_c_code, .inl (dA 0, 900, .inl b_c_code)), zo_X2 a_w a_c a_w_told a_w_facts a_w_stack f_w_wind, (a_w_told, .inl (dA 0, 315, .inl a2)), (a_w_facts, .inl (dA 0, 6, .inl a3)), (a_w_stack, .inl (dA 0, 64, .inl a4))]) (As := [.int p1, .int (1 : Int32)]) (rest := []) ⟨hx, hb, hml, hown, ht⟩ (zt_X3_refusal l dC dI dA adK adV _ a_o a_c a_w a_o_deeds a_o_ends a_c_bars a_c_gives a_c_rough a_c_code a_w_told a_w_facts a_w_stack n f_o_found f_c_top f_c_things f_c_startRung f_c_startThings f_c_startStrength f_c_startWind f_c_slips f_c_lines f_c_coded f_c_tiresFrom f_c_tiresTo f_c_mayFrom f_c_mayTo f_w_wind b_c_bars b_c_gives b_c_rough b_c_code b_w_told b_w_facts b_w_stack p1 (1 : Int32) v1 a2 a3 a4 hv1) (cwV 2 ht (zq_V zq_180 zq_181 zq_182 zq_50 zq_177) rfl rfl rfl zk_X3_refusal ⟨Nat.le_of_ble_eq_true rfl, Nat.le_of_ble_eq_true rfl⟩) rfl rfl hZ hK hP hD hS hA [0, 1, 2, 3, 4, 5, 6, 7, 8, 9] [] (by decide) (by decide) (by decide) rfl rfl rfl hl.1 (Nat.le_of_ble_eq_true rfl) dX3_habitual_3 ⟨Nat.zero_le _, Nat.zero_le _⟩ rfl (fun H locs hP hD hS => ?_)
  have hP : va_P (dC, dI) zz_cls [zo_X3 a_o a_c a_w a_o_deeds a_o_ends f_o_found, zo_X0 a_c f_c_top f_c_things a_c_bars a_c_gives a_c_rough f_c_startRung f_c_startThings f_c_startStrength f_c_startWind f_c_slips f_c_lines a_c_code f_c_coded f_c_tiresFrom f_c_tiresTo f_c_mayFrom f_c_mayTo, (a_c_bars, .inl (dA 0, 9, .inl b_c_bars)), (a_c_gives, .inl (dA 0, 9, .inl b_c_gives)), (a_c_rough, .inl (dA 0, 9, .inl b_c_rough)), (a_c_code, .inl (dA 0, 900, .inl b_c_code)), zo_X2 a_w a_c a_w_told a_w_facts a_w_stack f_w_wind, (a_w_told, .inl (dA 0, 315, .inl a2)), (a_w_facts, .inl (dA 0, 6, .inl a3)), (a_w_stack, .inl (dA 0, 64, .inl a4))] H := hP
  have hD : va_D A [zo_X3 a_o a_c a_w a_o_deeds a_o_ends f_o_found, zo_X0 a_c f_c_top f_c_things a_c_bars a_c_gives a_c_rough f_c_startRung f_c_startThings f_c_startStrength f_c_startWind f_c_slips f_c_lines a_c_code f_c_coded f_c_tiresFrom f_c_tiresTo f_c_mayFrom f_c_mayTo, (a_c_bars, .inl (dA 0, 9, .inl b_c_bars)), (a_c_gives, .inl (dA 0, 9, .inl b_c_gives)), (a_c_rough, .inl (dA 0, 9, .inl b_c_rough)), (a_c_code, .inl (dA 0, 900, .inl b_c_code)), zo_X2 a_w a_c a_w_told a_w_facts a_w_stack f_w_wind, (a_w_told, .inl (dA 0, 315, .inl a2)), (a_w_facts, .inl (dA 0, 6, .inl a3)), (a_w_stack, .inl (dA 0, 64, .inl a4))] := hD
  refine lv_if_ne (tgt := 11) (pc := 6) hx hb dX3_habitual_6 rfl (fun hc => ?_) (fun hc => ?_)
  · have hf := za_f hf hc
    refine lv_iload_n (pc := 11) hx hb dX3_habitual_11 rfl (lv_at hl 1 rfl) ?_
    obtain ⟨v5, hv5, hf⟩ := zc_1 hf
    refine zx_Ni (pc := 12) (wc := []) (wr := [zo_X3 a_o a_c a_w a_o_deeds a_o_ends f_o_found, zo_X0 a_c f_c_top f_c_things a_c_bars a_c_gives a_c_rough f_c_startRung f_c_startThings f_c_startStrength f_c_startWind f_c_slips f_c_lines a_c_code f_c_coded f_c_tiresFrom f_c_tiresTo f_c_mayFrom f_c_mayTo, (a_c_bars, .inl (dA 0, 9, .inl b_c_bars)), (a_c_gives, .inl (dA 0, 9, .inl b_c_gives)), (a_c_rough, .inl (dA 0, 9, .inl b_c_rough)), (a_c_code, .inl (dA 0, 900, .inl b_c_code)), zo_X2 a_w a_c a_w_told a_w_facts a_w_stack f_w_wind, (a_w_told, .inl (dA 0, 315, .inl a2)), (a_w_facts, .inl (dA 0, 6, .inl a3)), (a_w_stack, .inl (dA 0, 64, .inl a4))]) (w1 := []) (As := [.int p1]) (rest := []) ⟨hx, hb, hml, hown, ht⟩ (zt_X10_rungOf l dC dI dA adK adV _ p1 v5 hv5) ⟨va_cnB 1 ht (zq_C zq_59) rfl rfl rfl (hZ.nest 3 rfl) (ht _ zq_58) zk_X10_rungOf.2 ⟨Nat.le_of_ble_eq_true rfl, Nat.le_of_ble_eq_true rfl⟩, ht _ zq_57, trivial⟩ hZ hK hP hD hS hA [] [0, 1, 2, 3, 4, 5, 6, 7, 8, 9] (by decide) (by decide) (by decide) rfl rfl rfl hl.1 (Nat.le_of_ble_eq_true rfl) dX3_habitual_12 ⟨Nat.zero_le _, Nat.zero_le _⟩ rfl (fun H locs hP hD hS => ?_)
    have hP : va_P (dC, dI) zz_cls [zo_X3 a_o a_c a_w a_o_deeds a_o_ends f_o_found, zo_X0 a_c f_c_top f_c_things a_c_bars a_c_gives a_c_rough f_c_startRung f_c_startThings f_c_startStrength f_c_startWind f_c_slips f_c_lines a_c_code f_c_coded f_c_tiresFrom f_c_tiresTo f_c_mayFrom f_c_mayTo, (a_c_bars, .inl (dA 0, 9, .inl b_c_bars)), (a_c_gives, .inl (dA 0, 9, .inl b_c_gives)), (a_c_rough, .inl (dA 0, 9, .inl b_c_rough)), (a_c_code, .inl (dA 0, 900, .inl b_c_code)), zo_X2 a_w a_c a_w_told a_w_facts a_w_stack f_w_wind, (a_w_told, .inl (dA 0, 315, .inl a2)), (a_w_facts, .inl (dA 0, 6, .inl a3)), (a_w_stack, .inl (dA 0, 64, .inl a4))] H := hP
    have hD : va_D A [zo_X3 a_o a_c a_w a_o_deeds a_o_ends f_o_found, zo_X0 a_c f_c_top f_c_things a_c_bars a_c_gives a_c_rough f_c_startRung f_c_startThings f_c_startStrength f_c_startWind f_c_slips f_c_lines a_c_code f_c_coded f_c_tiresFrom f_c_tiresTo f_c_mayFrom f_c_mayTo, (a_c_bars, .inl (dA 0, 9, .inl b_c_bars)), (a_c_gives, .inl (dA 0, 9, .inl b_c_gives)), (a_c_rough, .inl (dA 0, 9, .inl b_c_rough)), (a_c_code, .inl (dA 0, 900, .inl b_c_code)), zo_X2 a_w a_c a_w_told a_w_facts a_w_stack f_w_wind, (a_w_told, .inl (dA 0, 315, .inl a2)), (a_w_facts, .inl (dA 0, 6, .inl a3)), (a_w_stack, .inl (dA 0, 64, .inl a4))] := hD
    refine lv_iconst (v := (1 : Int32)) (pc := 15) hx hb dX3_habitual_15 (by decide) ?_
    refine lv_iadd (pc := 16) hx hb dX3_habitual_16 ?_
    obtain ⟨v6, hv6, hf⟩ := zc_1 hf
    refine zw_top (hv6) ?_
    refine lv_istore_n (lv' := [(2, .int v6), (0, .ref a_o), (1, .int p1)]) (pc := 17) hx hb dX3_habitual_17 rfl hl (by decide) rfl (fun ls hl => ?_)
    refine lv_aload_n (pc := 18) hx hb dX3_habitual_18 rfl (lv_at hl 1 rfl) ?_
    refine va_get (pc := 19) (D := (dC, dI)) (ci := 4) (v := .ref a_c) (C := RX3) (T := TX3) (N := 5) hx hb ht zq_layX3 hown hK hP 0 rfl rfl 0 (by decide) (ht _ zq_54) (fun _ h9 => h9) rfl dX3_habitual_19 ?_
    refine lv_iload_n (pc := 22) hx hb dX3_habitual_22 rfl (lv_at hl 0 rfl) ?_
    obtain ⟨v7, hv7, hf⟩ := zc_1 hf
    refine zx_Vi (pc := 23) (wc := [zo_X0 a_c f_c_top f_c_things a_c_bars a_c_gives a_c_rough f_c_startRung f_c_startThings f_c_startStrength f_c_startWind f_c_slips f_c_lines a_c_code f_c_coded f_c_tiresFrom f_c_tiresTo f_c_mayFrom f_c_mayTo]) (wr := [zo_X3 a_o a_c a_w a_o_deeds a_o_ends f_o_found, (a_c_bars, .inl (dA 0, 9, .inl b_c_bars)), (a_c_gives, .inl (dA 0, 9, .inl b_c_gives)), (a_c_rough, .inl (dA 0, 9, .inl b_c_rough)), (a_c_code, .inl (dA 0, 900, .inl b_c_code)), zo_X2 a_w a_c a_w_told a_w_facts a_w_stack f_w_wind, (a_w_told, .inl (dA 0, 315, .inl a2)), (a_w_facts, .inl (dA 0, 6, .inl a3)), (a_w_stack, .inl (dA 0, 64, .inl a4))]) (w1 := [zo_X0 a_c f_c_top f_c_things a_c_bars a_c_gives a_c_rough f_c_startRung f_c_startThings f_c_startStrength f_c_startWind f_c_slips f_c_lines a_c_code f_c_coded f_c_tiresFrom f_c_tiresTo f_c_mayFrom f_c_mayTo]) (As := [.int v6]) (rest := []) ⟨hx, hb, hml, hown, ht⟩ (zt_X0_isRung l dC dI dA adK adV _ a_c a_c_bars a_c_gives a_c_rough a_c_code f_c_top f_c_things f_c_startRung f_c_startThings f_c_startStrength f_c_startWind f_c_slips f_c_lines f_c_coded f_c_tiresFrom f_c_tiresTo f_c_mayFrom f_c_mayTo v6 v7 hv7) (cwV 1 ht (zq_V zq_74 zq_75 zq_76 zq_77 zq_32) rfl rfl rfl zk_X0_isRung ⟨Nat.le_of_ble_eq_true rfl, Nat.le_of_ble_eq_true rfl⟩) rfl rfl hZ hK hP hD hS hA [1] [0, 2, 3, 4, 5, 6, 7, 8, 9] (by decide) (by decide) (by decide) rfl rfl rfl hl.1 (Nat.le_of_ble_eq_true rfl) dX3_habitual_23 ⟨Nat.zero_le _, Nat.zero_le _⟩ rfl (fun H locs hP hD hS => ?_)
    have hP : va_P (dC, dI) zz_cls [zo_X3 a_o a_c a_w a_o_deeds a_o_ends f_o_found, (a_c_bars, .inl (dA 0, 9, .inl b_c_bars)), (a_c_gives, .inl (dA 0, 9, .inl b_c_gives)), (a_c_rough, .inl (dA 0, 9, .inl b_c_rough)), (a_c_code, .inl (dA 0, 900, .inl b_c_code)), zo_X2 a_w a_c a_w_told a_w_facts a_w_stack f_w_wind, (a_w_told, .inl (dA 0, 315, .inl a2)), (a_w_facts, .inl (dA 0, 6, .inl a3)), (a_w_stack, .inl (dA 0, 64, .inl a4)), zo_X0 a_c f_c_top f_c_things a_c_bars a_c_gives a_c_rough f_c_startRung f_c_startThings f_c_startStrength f_c_startWind f_c_slips f_c_lines a_c_code f_c_coded f_c_tiresFrom f_c_tiresTo f_c_mayFrom f_c_mayTo] H := hP
    have hD : va_D A [zo_X3 a_o a_c a_w a_o_deeds a_o_ends f_o_found, (a_c_bars, .inl (dA 0, 9, .inl b_c_bars)), (a_c_gives, .inl (dA 0, 9, .inl b_c_gives)), (a_c_rough, .inl (dA 0, 9, .inl b_c_rough)), (a_c_code, .inl (dA 0, 900, .inl b_c_code)), zo_X2 a_w a_c a_w_told a_w_facts a_w_stack f_w_wind, (a_w_told, .inl (dA 0, 315, .inl a2)), (a_w_facts, .inl (dA 0, 6, .inl a3)), (a_w_stack, .inl (dA 0, 64, .inl a4)), zo_X0 a_c f_c_top f_c_things a_c_bars a_c_gives a_c_rough f_c_startRung f_c_startThings f_c_startStrength f_c_startWind f_c_slips f_c_lines a_c_code f_c_coded f_c_tiresFrom f_c_tiresTo f_c_mayFrom f_c_mayTo] := hD
    refine lv_if_ne (tgt := 31) (pc := 26) hx hb dX3_habitual_26 rfl (fun hc => ?_) (fun hc => ?_)
    · have hf := za_f hf hc
      refine lv_iload_n (pc := 31) hx hb dX3_habitual_31 rfl (lv_at hl 2 rfl) ?_
      obtain ⟨v8, hv8, hf⟩ := zc_1 hf
      refine zx_Ni (pc := 32) (wc := []) (wr := [zo_X3 a_o a_c a_w a_o_deeds a_o_ends f_o_found, (a_c_bars, .inl (dA 0, 9, .inl b_c_bars)), (a_c_gives, .inl (dA 0, 9, .inl b_c_gives)), (a_c_rough, .inl (dA 0, 9, .inl b_c_rough)), (a_c_code, .inl (dA 0, 900, .inl b_c_code)), zo_X2 a_w a_c a_w_told a_w_facts a_w_stack f_w_wind, (a_w_told, .inl (dA 0, 315, .inl a2)), (a_w_facts, .inl (dA 0, 6, .inl a3)), (a_w_stack, .inl (dA 0, 64, .inl a4)), zo_X0 a_c f_c_top f_c_things a_c_bars a_c_gives a_c_rough f_c_startRung f_c_startThings f_c_startStrength f_c_startWind f_c_slips f_c_lines a_c_code f_c_coded f_c_tiresFrom f_c_tiresTo f_c_mayFrom f_c_mayTo]) (w1 := []) (As := [.int p1]) (rest := []) ⟨hx, hb, hml, hown, ht⟩ (zt_X10_thingsOf l dC dI dA adK adV _ p1 v8 hv8) ⟨va_cnB 1 ht (zq_C zq_61) rfl rfl rfl (hZ.nest 4 rfl) (ht _ zq_58) zk_X10_thingsOf.2 ⟨Nat.le_of_ble_eq_true rfl, Nat.le_of_ble_eq_true rfl⟩, ht _ zq_60, trivial⟩ hZ hK hP hD hS hA [] [0, 1, 2, 3, 4, 5, 6, 7, 8, 9] (by decide) (by decide) (by decide) rfl rfl rfl hl.1 (Nat.le_of_ble_eq_true rfl) dX3_habitual_32 ⟨Nat.zero_le _, Nat.zero_le _⟩ rfl (fun H locs hP hD hS => ?_)
      have hP : va_P (dC, dI) zz_cls [zo_X3 a_o a_c a_w a_o_deeds a_o_ends f_o_found, (a_c_bars, .inl (dA 0, 9, .inl b_c_bars)), (a_c_gives, .inl (dA 0, 9, .inl b_c_gives)), (a_c_rough, .inl (dA 0, 9, .inl b_c_rough)), (a_c_code, .inl (dA 0, 900, .inl b_c_code)), zo_X2 a_w a_c a_w_told a_w_facts a_w_stack f_w_wind, (a_w_told, .inl (dA 0, 315, .inl a2)), (a_w_facts, .inl (dA 0, 6, .inl a3)), (a_w_stack, .inl (dA 0, 64, .inl a4)), zo_X0 a_c f_c_top f_c_things a_c_bars a_c_gives a_c_rough f_c_startRung f_c_startThings f_c_startStrength f_c_startWind f_c_slips f_c_lines a_c_code f_c_coded f_c_tiresFrom f_c_tiresTo f_c_mayFrom f_c_mayTo] H := hP
      have hD : va_D A [zo_X3 a_o a_c a_w a_o_deeds a_o_ends f_o_found, (a_c_bars, .inl (dA 0, 9, .inl b_c_bars)), (a_c_gives, .inl (dA 0, 9, .inl b_c_gives)), (a_c_rough, .inl (dA 0, 9, .inl b_c_rough)), (a_c_code, .inl (dA 0, 900, .inl b_c_code)), zo_X2 a_w a_c a_w_told a_w_facts a_w_stack f_w_wind, (a_w_told, .inl (dA 0, 315, .inl a2)), (a_w_facts, .inl (dA 0, 6, .inl a3)), (a_w_stack, .inl (dA 0, 64, .inl a4)), zo_X0 a_c f_c_top f_c_things a_c_bars a_c_gives a_c_rough f_c_startRung f_c_startThings f_c_startStrength f_c_startWind f_c_slips f_c_lines a_c_code f_c_coded f_c_tiresFrom f_c_tiresTo f_c_mayFrom f_c_mayTo] := hD
      refine lv_aload_n (pc := 35) hx hb dX3_habitual_35 rfl (lv_at hl 1 rfl) ?_
      refine va_get (pc := 36) (D := (dC, dI)) (ci := 4) (v := .ref a_c) (C := RX3) (T := TX3) (N := 5) hx hb ht zq_layX3 hown hK hP 0 rfl rfl 0 (by decide) (ht _ zq_54) (fun _ h9 => h9) rfl dX3_habitual_36 ?_
      refine va_get (pc := 39) (D := (dC, dI)) (ci := 1) (v := .ref a_c_bars) (C := RX0) (T := TX0) (N := 17) hx hb ht zq_layX0 hown hK hP 9 rfl rfl 2 (by decide) (ht _ zq_56) (fun _ h9 => h9) rfl dX3_habitual_39 ?_
      refine lv_iload_n (pc := 42) hx hb dX3_habitual_42 rfl (lv_at hl 0 rfl) ?_
      obtain ⟨v9, hv9, hf⟩ := zc_1 hf
      refine zw_iald (pc := 43) hx hb hK hP 1 0 rfl rfl hv9 dX3_habitual_43 ?_
      refine lv_iand (pc := 44) hx hb dX3_habitual_44 ?_
      obtain ⟨v10, hv10, hf⟩ := zc_1 hf
      refine zw_top (hv10) ?_
      refine lv_istore_n (lv' := [(3, .int v10), (2, .int v6), (0, .ref a_o), (1, .int p1)]) (pc := 45) hx hb dX3_habitual_45 rfl hl (by decide) rfl (fun ls hl => ?_)
      refine lv_iconst (v := (0 : Int32)) (pc := 46) hx hb dX3_habitual_46 (by decide) ?_
      refine lv_istore (lv' := [(4, .int (0 : Int32)), (3, .int v10), (2, .int v6), (0, .ref a_o), (1, .int p1)]) (pc := 47) hx hb dX3_habitual_47 hl (by decide) rfl (fun ls hl => ?_)
      obtain ⟨g14, v13, hj, hf⟩ := zc_2 hf
      refine zj_join (pcJ := 65) (stk := []) (X := fun H locs ls => g14 = 1 ∧ lv_has ls 5 [(4, .int v13)] ∧ va_P (dC, dI) zz_cls [zo_X3 a_o a_c a_w a_o_deeds a_o_ends f_o_found, zo_X0 a_c f_c_top f_c_things a_c_bars a_c_gives a_c_rough f_c_startRung f_c_startThings f_c_startStrength f_c_startWind f_c_slips f_c_lines a_c_code f_c_coded f_c_tiresFrom f_c_tiresTo f_c_mayFrom f_c_mayTo, (a_c_bars, .inl (dA 0, 9, .inl b_c_bars)), (a_c_gives, .inl (dA 0, 9, .inl b_c_gives)), (a_c_rough, .inl (dA 0, 9, .inl b_c_rough)), (a_c_code, .inl (dA 0, 900, .inl b_c_code)), zo_X2 a_w a_c a_w_told a_w_facts a_w_stack f_w_wind, (a_w_told, .inl (dA 0, 315, .inl a2)), (a_w_facts, .inl (dA 0, 6, .inl a3)), (a_w_stack, .inl (dA 0, 64, .inl a4))] H ∧ va_D A [zo_X3 a_o a_c a_w a_o_deeds a_o_ends f_o_found, zo_X0 a_c f_c_top f_c_things a_c_bars a_c_gives a_c_rough f_c_startRung f_c_startThings f_c_startStrength f_c_startWind f_c_slips f_c_lines a_c_code f_c_coded f_c_tiresFrom f_c_tiresTo f_c_mayFrom f_c_mayTo, (a_c_bars, .inl (dA 0, 9, .inl b_c_bars)), (a_c_gives, .inl (dA 0, 9, .inl b_c_gives)), (a_c_rough, .inl (dA 0, 9, .inl b_c_rough)), (a_c_code, .inl (dA 0, 900, .inl b_c_code)), zo_X2 a_w a_c a_w_told a_w_facts a_w_stack f_w_wind, (a_w_told, .inl (dA 0, 315, .inl a2)), (a_w_facts, .inl (dA 0, 6, .inl a3)), (a_w_stack, .inl (dA 0, 64, .inl a4))] ∧ va_S A s.heap H locs) (fun H locs ls hX => ?_) (fun E65 => ?_)
      · obtain ⟨htg, hl, hP, hD, hS⟩ := hX
        clear hj
        have hf := za_t hf htg
        refine lv_bipush (v := (10 : Int32)) (pc := 65) hx hb dX3_habitual_65 (by decide) ?_
        refine lv_iload (pc := 67) hx hb dX3_habitual_67 (lv_at hl 0 rfl) ?_
        refine lv_iadd (pc := 69) hx hb dX3_habitual_69 ?_
        obtain ⟨rfl, rfl, rfl, rfl⟩ := zi_4 hf
        exact W.iret (pc := 70) hx hb hr (fun t ht hW => ⟨⟨_, (), rfl, rfl, zz_Bi (by rw [ht]; exact hP) (va_K.moved hW.alike hK) (hD)⟩, hS.F ht⟩) hS.2.2 dX3_habitual_70
      refine zj_join (pcJ := 77) (stk := []) (X := fun H locs ls => g14 = 2 ∧ lv_has ls 5 [] ∧ va_P (dC, dI) zz_cls [zo_X3 a_o a_c a_w a_o_deeds a_o_ends f_o_found, zo_X0 a_c f_c_top f_c_things a_c_bars a_c_gives a_c_rough f_c_startRung f_c_startThings f_c_startStrength f_c_startWind f_c_slips f_c_lines a_c_code f_c_coded f_c_tiresFrom f_c_tiresTo f_c_mayFrom f_c_mayTo, (a_c_bars, .inl (dA 0, 9, .inl b_c_bars)), (a_c_gives, .inl (dA 0, 9, .inl b_c_gives)), (a_c_rough, .inl (dA 0, 9, .inl b_c_rough)), (a_c_code, .inl (dA 0, 900, .inl b_c_code)), zo_X2 a_w a_c a_w_told a_w_facts a_w_stack f_w_wind, (a_w_told, .inl (dA 0, 315, .inl a2)), (a_w_facts, .inl (dA 0, 6, .inl a3)), (a_w_stack, .inl (dA 0, 64, .inl a4))] H ∧ va_D A [zo_X3 a_o a_c a_w a_o_deeds a_o_ends f_o_found, zo_X0 a_c f_c_top f_c_things a_c_bars a_c_gives a_c_rough f_c_startRung f_c_startThings f_c_startStrength f_c_startWind f_c_slips f_c_lines a_c_code f_c_coded f_c_tiresFrom f_c_tiresTo f_c_mayFrom f_c_mayTo, (a_c_bars, .inl (dA 0, 9, .inl b_c_bars)), (a_c_gives, .inl (dA 0, 9, .inl b_c_gives)), (a_c_rough, .inl (dA 0, 9, .inl b_c_rough)), (a_c_code, .inl (dA 0, 900, .inl b_c_code)), zo_X2 a_w a_c a_w_told a_w_facts a_w_stack f_w_wind, (a_w_told, .inl (dA 0, 315, .inl a2)), (a_w_facts, .inl (dA 0, 6, .inl a3)), (a_w_stack, .inl (dA 0, 64, .inl a4))] ∧ va_S A s.heap H locs) (fun H locs ls hX => ?_) (fun E77 => ?_)
      · obtain ⟨htg, hl, hP, hD, hS⟩ := hX
        clear hj
        have hf := za_f hf (by rw [htg]; decide)
        have hf := za_t hf htg
        refine lv_iconst (v := (0 : Int32)) (pc := 77) hx hb dX3_habitual_77 (by decide) ?_
        obtain ⟨rfl, rfl, rfl, rfl⟩ := zi_4 hf
        exact W.iret (pc := 78) hx hb hr (fun t ht hW => ⟨⟨_, (), rfl, rfl, zz_Bi (by rw [ht]; exact hP) (va_K.moved hW.alike hK) (hD)⟩, hS.F ht⟩) hS.2.2 dX3_habitual_78
      clear hf
      refine zw_loop (pcH := 49) (X := fun v H locs ls => lv_has ls 5 [(3, .int v10), (4, .int v)] ∧ va_P (dC, dI) zz_cls [zo_X3 a_o a_c a_w a_o_deeds a_o_ends f_o_found, zo_X0 a_c f_c_top f_c_things a_c_bars a_c_gives a_c_rough f_c_startRung f_c_startThings f_c_startStrength f_c_startWind f_c_slips f_c_lines a_c_code f_c_coded f_c_tiresFrom f_c_tiresTo f_c_mayFrom f_c_mayTo, (a_c_bars, .inl (dA 0, 9, .inl b_c_bars)), (a_c_gives, .inl (dA 0, 9, .inl b_c_gives)), (a_c_rough, .inl (dA 0, 9, .inl b_c_rough)), (a_c_code, .inl (dA 0, 900, .inl b_c_code)), zo_X2 a_w a_c a_w_told a_w_facts a_w_stack f_w_wind, (a_w_told, .inl (dA 0, 315, .inl a2)), (a_w_facts, .inl (dA 0, 6, .inl a3)), (a_w_stack, .inl (dA 0, 64, .inl a4))] H ∧ va_D A [zo_X3 a_o a_c a_w a_o_deeds a_o_ends f_o_found, zo_X0 a_c f_c_top f_c_things a_c_bars a_c_gives a_c_rough f_c_startRung f_c_startThings f_c_startStrength f_c_startWind f_c_slips f_c_lines a_c_code f_c_coded f_c_tiresFrom f_c_tiresTo f_c_mayFrom f_c_mayTo, (a_c_bars, .inl (dA 0, 9, .inl b_c_bars)), (a_c_gives, .inl (dA 0, 9, .inl b_c_gives)), (a_c_rough, .inl (dA 0, 9, .inl b_c_rough)), (a_c_code, .inl (dA 0, 900, .inl b_c_code)), zo_X2 a_w a_c a_w_told a_w_facts a_w_stack f_w_wind, (a_w_told, .inl (dA 0, 315, .inl a2)), (a_w_facts, .inl (dA 0, 6, .inl a3)), (a_w_stack, .inl (dA 0, 64, .inl a4))] ∧ va_S A s.heap H locs) hj (fun v w hf ih ex H locs ls hX => ?_) _ _ _ ⟨lv_sub hl [1, 0] rfl, hP.sub [0, 9, 1, 2, 3, 4, 5, 6, 7, 8] rfl, hD.sub [0, 9, 1, 2, 3, 4, 5, 6, 7, 8] (by decide) rfl, hS⟩
      clear hj
      generalize v = v11 at hf hX
      obtain ⟨hl, hP, hD, hS⟩ := hX
      have hl : lv_has ls 5 [(3, .int v10), (4, .int v11)] := hl
      have hP : va_P (dC, dI) zz_cls [zo_X3 a_o a_c a_w a_o_deeds a_o_ends f_o_found, zo_X0 a_c f_c_top f_c_things a_c_bars a_c_gives a_c_rough f_c_startRung f_c_startThings f_c_startStrength f_c_startWind f_c_slips f_c_lines a_c_code f_c_coded f_c_tiresFrom f_c_tiresTo f_c_mayFrom f_c_mayTo, (a_c_bars, .inl (dA 0, 9, .inl b_c_bars)), (a_c_gives, .inl (dA 0, 9, .inl b_c_gives)), (a_c_rough, .inl (dA 0, 9, .inl b_c_rough)), (a_c_code, .inl (dA 0, 900, .inl b_c_code)), zo_X2 a_w a_c a_w_told a_w_facts a_w_stack f_w_wind, (a_w_told, .inl (dA 0, 315, .inl a2)), (a_w_facts, .inl (dA 0, 6, .inl a3)), (a_w_stack, .inl (dA 0, 64, .inl a4))] H := hP
      have hD : va_D A [zo_X3 a_o a_c a_w a_o_deeds a_o_ends f_o_found, zo_X0 a_c f_c_top f_c_things a_c_bars a_c_gives a_c_rough f_c_startRung f_c_startThings f_c_startStrength f_c_startWind f_c_slips f_c_lines a_c_code f_c_coded f_c_tiresFrom f_c_tiresTo f_c_mayFrom f_c_mayTo, (a_c_bars, .inl (dA 0, 9, .inl b_c_bars)), (a_c_gives, .inl (dA 0, 9, .inl b_c_gives)), (a_c_rough, .inl (dA 0, 9, .inl b_c_rough)), (a_c_code, .inl (dA 0, 900, .inl b_c_code)), zo_X2 a_w a_c a_w_told a_w_facts a_w_stack f_w_wind, (a_w_told, .inl (dA 0, 315, .inl a2)), (a_w_facts, .inl (dA 0, 6, .inl a3)), (a_w_stack, .inl (dA 0, 64, .inl a4))] := hD
      replace hf : zb_X3_habitual_49 v10 v11 = some w := hf
      unfold zb_X3_habitual_49 at hf
      refine lv_iload (pc := 49) hx hb dX3_habitual_49 (lv_at hl 1 rfl) ?_
      refine lv_bipush (v := (6 : Int32)) (pc := 51) hx hb dX3_habitual_51 (by decide) ?_
      refine lv_icmp_ge (tgt := 77) (pc := 53) hx hb dX3_habitual_53 rfl (fun hc => ?_) (fun hc => ?_)
      · have hf := za_t hf hc
        obtain rfl := Option.some.inj hf
        obtain ⟨rfl, rfl⟩ := zp_2 (ex (show ¬ (2 : Nat) = 0 by decide))
        exact E77 _ _ _ ⟨rfl, lv_sub hl [] rfl, hP, hD, hS⟩
      · have hf := za_f hf hc
        refine lv_iload_n (pc := 56) hx hb dX3_habitual_56 rfl (lv_at hl 0 rfl) ?_
        refine lv_iload (pc := 57) hx hb dX3_habitual_57 (lv_at hl 1 rfl) ?_
        refine lv_ishr (pc := 59) hx hb dX3_habitual_59 ?_
        refine lv_iconst (v := (1 : Int32)) (pc := 60) hx hb dX3_habitual_60 (by decide) ?_
        refine lv_iand (pc := 61) hx hb dX3_habitual_61 ?_
        refine lv_if_eq (tgt := 71) (pc := 62) hx hb dX3_habitual_62 rfl (fun hc => ?_) (fun hc => ?_)
        · have hf := za_t hf hc
          obtain ⟨v12, hv12, hf⟩ := zc_1 hf
          refine lv_iinc (v := v12) (lv' := [(4, .int v12), (3, .int v10)]) (k := 1) (pc := 71) hx hb dX3_habitual_71 hl rfl (Option.some.inj hv12) (by decide) rfl (fun ls hl => ?_)
          refine lv_goto (tgt := 49) (pc := 74) hx hb dX3_habitual_74 rfl ?_
          obtain rfl := Option.some.inj hf
          exact ih rfl _ _ _ ⟨lv_sub hl [1, 0] rfl, hP, hD, hS⟩
        · have hf := za_f hf hc
          obtain rfl := Option.some.inj hf
          obtain ⟨rfl, rfl⟩ := zp_2 (ex (show ¬ (1 : Nat) = 0 by decide))
          exact E65 _ _ _ ⟨rfl, lv_sub hl [1] rfl, hP, hD, hS⟩
    · have hf := za_t hf hc
      refine lv_iconst (v := (0 : Int32)) (pc := 29) hx hb dX3_habitual_29 (by decide) ?_
      obtain ⟨rfl, rfl, rfl, rfl⟩ := zi_4 hf
      exact W.iret (pc := 30) hx hb hr (fun t ht hW => ⟨⟨_, (), rfl, rfl, zz_Bi (by rw [ht]; exact hP.sub [0, 9, 1, 2, 3, 4, 5, 6, 7, 8] rfl) (va_K.moved hW.alike hK) (hD.sub [0, 9, 1, 2, 3, 4, 5, 6, 7, 8] (by decide) rfl)⟩, hS.F ht⟩) hS.2.2 dX3_habitual_30
  · have hf := za_t hf hc
    refine lv_iconst (v := (1 : Int32)) (pc := 9) hx hb dX3_habitual_9 (by decide) ?_
    obtain ⟨rfl, rfl, rfl, rfl⟩ := zi_4 hf
    exact W.iret (pc := 10) hx hb hr (fun t ht hW => ⟨⟨_, (), rfl, rfl, zz_Bi (by rw [ht]; exact hP) (va_K.moved hW.alike hK) (hD)⟩, hS.F ht⟩) hS.2.2 dX3_habitual_10

def zf_X3_afterHabit (n : Nat) (f_c_top : Int32) (f_c_things : Int32) (f_c_tiresFrom : Int32) (f_c_tiresTo : Int32) (f_c_mayFrom : Int32) (f_c_mayTo : Int32) (b_c_bars : (Nat → Int32)) (b_c_gives : (Nat → Int32)) (b_c_rough : (Nat → Int32)) (b_c_code : (Nat → Int32)) (f_w_wind : Int32) (b_w_told : (Nat → Int32)) (b_w_facts : (Nat → Int32)) (b_w_stack : (Nat → Int32)) (p1 : Int32) : Option (Int32 × (Nat → Int32) × (Nat → Int32) × (Nat → Int32)) :=
  zd_4 (zf_X3_habitual n f_c_top f_c_things f_c_tiresFrom f_c_tiresTo f_c_mayFrom f_c_mayTo b_c_bars b_c_gives b_c_rough b_c_code f_w_wind b_w_told b_w_facts b_w_stack p1) (fun v1 a2 a3 a4 =>
  zd_4 (zf_X3_behind n f_c_top f_c_things f_c_tiresFrom f_c_tiresTo f_c_mayFrom f_c_mayTo b_c_bars b_c_rough b_c_code f_w_wind a2 a3 a4 p1 v1) (fun v5 a6 a7 a8 =>
  some (v5, a6, a7, a8)))
theorem zk_X3_afterHabit : yX3_afterHabit.cls = RX3 ∧ yX3_afterHabit.cls ≠ "java/lang/invoke/MethodHandle" ∧ yX3_afterHabit.cls ≠ "java/lang/invoke/VarHandle" ∧ (parseMethodDescriptor yX3_afterHabit.desc).map (fun d => d.parameters.length) = some 1 := by decide +kernel
set_option maxHeartbeats 4000000 in
set_option maxRecDepth 100000 in
theorem zt_X3_afterHabit (l : Launch) (dC : Nat → ClassId) (dI : Nat → Nat → Nat) (dA : Nat → ClassId) (adK adV : Nat → Nat) (sz : Nat) (a_o : Nat) (a_c : Nat) (a_w : Nat) (a_o_deeds : Nat) (a_o_ends : Nat) (a_c_bars : Nat) (a_c_gives : Nat) (a_c_rough : Nat) (a_c_code : Nat) (a_w_told : Nat) (a_w_facts : Nat) (a_w_stack : Nat) (n : Nat) (f_o_found : Int32) (f_c_top : Int32) (f_c_things : Int32) (f_c_startRung : Int32) (f_c_startThings : Int32) (f_c_startStrength : Int32) (f_c_startWind : Int32) (f_c_slips : Int32) (f_c_lines : Int32) (f_c_coded : Int32) (f_c_tiresFrom : Int32) (f_c_tiresTo : Int32) (f_c_mayFrom : Int32) (f_c_mayTo : Int32) (f_w_wind : Int32) (b_c_bars : (Nat → Int32)) (b_c_gives : (Nat → Int32)) (b_c_rough : (Nat → Int32)) (b_c_code : (Nat → Int32)) (b_w_told : (Nat → Int32)) (b_w_facts : (Nat → Int32)) (b_w_stack : (Nat → Int32)) (p1 : Int32) (r0 : Int32) (o1 : (Nat → Int32)) (o2 : (Nat → Int32)) (o3 : (Nat → Int32)) (hf : zf_X3_afterHabit n f_c_top f_c_things f_c_tiresFrom f_c_tiresTo f_c_mayFrom f_c_mayTo b_c_bars b_c_gives b_c_rough b_c_code f_w_wind b_w_told b_w_facts b_w_stack p1 = some (r0, o1, o2, o3)) : Met l yX3_afterHabit (.code yX3_afterHabit cX3_afterHabit 2 (some .int) :: zq_T) ({ frames := 6, cells := 0, slots := 0, locals := 177 }) (va_Pc [.ref a_o, .int p1] (zx_M dC dI dA adK adV [zo_X3 a_o a_c a_w a_o_deeds a_o_ends f_o_found, zo_X0 a_c f_c_top f_c_things a_c_bars a_c_gives a_c_rough f_c_startRung f_c_startThings f_c_startStrength f_c_startWind f_c_slips f_c_lines a_c_code f_c_coded f_c_tiresFrom f_c_tiresTo f_c_mayFrom f_c_mayTo, (a_c_bars, .inl (dA 0, 9, .inl b_c_bars)), (a_c_gives, .inl (dA 0, 9, .inl b_c_gives)), (a_c_rough, .inl (dA 0, 9, .inl b_c_rough)), (a_c_code, .inl (dA 0, 900, .inl b_c_code)), zo_X2 a_w a_c a_w_told a_w_facts a_w_stack f_w_wind, (a_w_told, .inl (dA 0, 315, .inl b_w_told)), (a_w_facts, .inl (dA 0, 6, .inl b_w_facts)), (a_w_stack, .inl (dA 0, 64, .inl b_w_stack))] sz)) (va_Qi (fun (r : Int32) (_ : Unit) => r = r0) (fun _ t => zz_B dC dI dA (va_A [zo_X3 a_o a_c a_w a_o_deeds a_o_ends f_o_found, zo_X0 a_c f_c_top f_c_things a_c_bars a_c_gives a_c_rough f_c_startRung f_c_startThings f_c_startStrength f_c_startWind f_c_slips f_c_lines a_c_code f_c_coded f_c_tiresFrom f_c_tiresTo f_c_mayFrom f_c_mayTo, (a_c_bars, .inl (dA 0, 9, .inl b_c_bars)), (a_c_gives, .inl (dA 0, 9, .inl b_c_gives)), (a_c_rough, .inl (dA 0, 9, .inl b_c_rough)), (a_c_code, .inl (dA 0, 900, .inl b_c_code)), zo_X2 a_w a_c a_w_told a_w_facts a_w_stack f_w_wind, (a_w_told, .inl (dA 0, 315, .inl b_w_told)), (a_w_facts, .inl (dA 0, 6, .inl b_w_facts)), (a_w_stack, .inl (dA 0, 64, .inl b_w_stack))] sz) [zo_X3 a_o a_c a_w a_o_deeds a_o_ends f_o_found, zo_X0 a_c f_c_top f_c_things a_c_bars a_c_gives a_c_rough f_c_startRung f_c_startThings f_c_startStrength f_c_startWind f_c_slips f_c_lines a_c_code f_c_coded f_c_tiresFrom f_c_tiresTo f_c_mayFrom f_c_mayTo, (a_c_bars, .inl (dA 0, 9, .inl b_c_bars)), (a_c_gives, .inl (dA 0, 9, .inl b_c_gives)), (a_c_rough, .inl (dA 0, 9, .inl b_c_rough)), (a_c_code, .inl (dA 0, 900, .inl b_c_code)), zo_X2 a_w a_c a_w_told a_w_facts a_w_stack f_w_wind, (a_w_told, .inl (dA 0, 315, .inl o1)), (a_w_facts, .inl (dA 0, 6, .inl o2)), (a_w_stack, .inl (dA 0, 64, .inl o3))] t) (va_A [zo_X3 a_o a_c a_w a_o_deeds a_o_ends f_o_found, zo_X0 a_c f_c_top f_c_things a_c_bars a_c_gives a_c_rough f_c_startRung f_c_startThings f_c_startStrength f_c_startWind f_c_slips f_c_lines a_c_code f_c_coded f_c_tiresFrom f_c_tiresTo f_c_mayFrom f_c_mayTo, (a_c_bars, .inl (dA 0, 9, .inl b_c_bars)), (a_c_gives, .inl (dA 0, 9, .inl b_c_gives)), (a_c_rough, .inl (dA 0, 9, .inl b_c_rough)), (a_c_code, .inl (dA 0, 900, .inl b_c_code)), zo_X2 a_w a_c a_w_told a_w_facts a_w_stack f_w_wind, (a_w_told, .inl (dA 0, 315, .inl b_w_told)), (a_w_facts, .inl (dA 0, 6, .inl b_w_facts)), (a_w_stack, .inl (dA 0, 64, .inl b_w_stack))] sz)) 0 0 (va_A [zo_X3 a_o a_c a_w a_o_deeds a_o_ends f_o_found, zo_X0 a_c f_c_top f_c_things a_c_bars a_c_gives a_c_rough f_c_startRung f_c_startThings f_c_startStrength f_c_startWind f_c_slips f_c_lines a_c_code f_c_coded f_c_tiresFrom f_c_tiresTo f_c_mayFrom f_c_mayTo, (a_c_bars, .inl (dA 0, 9, .inl b_c_bars)), (a_c_gives, .inl (dA 0, 9, .inl b_c_gives)), (a_c_rough, .inl (dA 0, 9, .inl b_c_rough)), (a_c_code, .inl (dA 0, 900, .inl b_c_code)), zo_X2 a_w a_c a_w_told a_w_facts a_w_stack f_w_wind, (a_w_told, .inl (dA 0, 315, .inl b_w_told)), (a_w_facts, .inl (dA 0, 6, .inl b_w_facts)), (a_w_stack, .inl (dA 0, 64, .inl b_w_stack))] sz) := by
  unfold zf_X3_afterHabit at hf
  refine Met.ofW (cc := cX3_afterHabit) (maxL := 2) (ret := (some .int)) (by decide) rfl ?_
  intro p e s m args below meth c s₁ B hml hv
  obtain ⟨rfl, ⟨hsz, hP, hK, hD0⟩, hZ⟩ := hv
  have hx := B.exec
  have hb := B.bytes
  have hr := B.returns
  have ht : ∀ w ∈ zq_T, w.before ([.ref a_o, .int p1] : List Value).toArray s = true := fun w hw => atoms_spec (ws := .code yX3_afterHabit cX3_afterHabit 2 (some .int) :: zq_T) B.pre w (List.mem_cons_of_mem _ hw)
  have hown : s.vm.findClass RX3 = some m.cls := findClass_of_methodNamed B.named
  have hlocks := B.notSynchronized
  subst hsz
  have hD := hD0.self (sz := s.heap.size)
  generalize hAe : va_A [zo_X3 a_o a_c a_w a_o_deeds a_o_ends f_o_found, zo_X0 a_c f_c_top f_c_things a_c_bars a_c_gives a_c_rough f_c_startRung f_c_startThings f_c_startStrength f_c_startWind f_c_slips f_c_lines a_c_code f_c_coded f_c_tiresFrom f_c_tiresTo f_c_mayFrom f_c_mayTo, (a_c_bars, .inl (dA 0, 9, .inl b_c_bars)), (a_c_gives, .inl (dA 0, 9, .inl b_c_gives)), (a_c_rough, .inl (dA 0, 9, .inl b_c_rough)), (a_c_code, .inl (dA 0, 900, .inl b_c_code)), zo_X2 a_w a_c a_w_told a_w_facts a_w_stack f_w_wind, (a_w_told, .inl (dA 0, 315, .inl b_w_told)), (a_w_facts, .inl (dA 0, 6, .inl b_w_facts)), (a_w_stack, .inl (dA 0, 64, .inl b_w_stack))] s.heap.size = A at hD hZ ⊢
  have hA : ∀ q : Nat, s.heap.size ≤ q → A q := fun q h => by rw [← hAe]; exact Or.inr h
  clear hAe hD0
  have hS : va_S A s.heap s.heap [] := va_S.rf
  have hl := lv_entry ([.ref a_o, .int p1]) (n := 2) (Nat.le_of_ble_eq_true rfl)
  rw [lg_entry_eq]
  generalize (lg_sl ([.ref a_o, .int p1]) ++ List.replicate (2 - (lg_sl ([.ref a_o, .int p1])).length) Slot.unset).toArray = ls at hl ⊢
  have hl : lv_has ls 2 [(0, .ref a_o), (1, .int p1)] := hl
  refine lv_aload_n (pc := 0) hx hb dX3_afterHabit_0 rfl (lv_at hl 0 rfl) ?_
  refine lv_iload_n (pc := 1) hx hb dX3_afterHabit_1 rfl (lv_at hl 1 rfl) ?_
  refine lv_aload_n (pc := 2) hx hb dX3_afterHabit_2 rfl (lv_at hl 0 rfl) ?_
  refine lv_iload_n (pc := 3) hx hb dX3_afterHabit_3 rfl (lv_at hl 1 rfl) ?_
  obtain ⟨v1, a2, a3, a4, hv1, hf⟩ := zc_4 hf
  refine zx_Vi (pc := 4) (wc := [zo_X3 a_o a_c a_w a_o_deeds a_o_ends f_o_found, zo_X0 a_c f_c_top f_c_things a_c_bars a_c_gives a_c_rough f_c_startRung f_c_startThings f_c_startStrength f_c_startWind f_c_slips f_c_lines a_c_code f_c_coded f_c_tiresFrom f_c_tiresTo f_c_mayFrom f_c_mayTo, (a_c_bars, .inl (dA 0, 9, .inl b_c_bars)), (a_c_gives, .inl (dA 0, 9, .inl b_c_gives)), (a_c_rough, .inl (dA 0, 9, .inl b_c_rough)), (a_c_code, .inl (dA 0, 900, .inl b_c_code)), zo_X2 a_w a_c a_w_told a_w_facts a_w_stack f_w_wind, (a_w_told, .inl (dA 0, 315, .inl b_w_told)), (a_w_facts, .inl (dA 0, 6, .inl b_w_facts)), (a_w_stack, .inl (dA 0, 64, .inl b_w_stack))]) (wr := []) (w1 := [zo_X3 a_o a_c a_w a_o_deeds a_o_ends f_o_found, zo_X0 a_c f_c_top f_c_things a_c_bars a_c_gives a_c_rough f_c_startRung f_c_startThings f_c_startStrength f_c_startWind f_c_slips f_c_lines a_c_code f_c_coded f_c_tiresFrom f_c_tiresTo f_c_mayFrom f_c_mayTo, (a_c_bars, .inl (dA 0, 9, .inl b_c_bars)), (a_c_gives, .inl (dA 0, 9, .inl b_c_gives)), (a_c_rough, .inl (dA 0, 9, .inl b_c_rough)), (a_c_code, .inl (dA 0, 900, .inl b_c_code)), zo_X2 a_w a_c a_w_told a_w_facts a_w_stack f_w_wind, (a_w_told, .inl (dA 0, 315, .inl a2)), (a_w_facts, .inl (dA 0, 6, .inl a3)), (a_w_stack, .inl (dA 0, 64, .inl a4))]) (As := [.int p1]) (rest := [.int p1, .ref a_o]) ⟨hx, hb, hml, hown, ht⟩ (zt_X3_habitual l dC dI dA adK adV _ a_o a_c a_w a_o_deeds a_o_ends a_c_bars a_c_gives a_c_rough a_c_code a_w_told a_w_facts a_w_stack n f_o_found f_c_top f_c_things f_c_startRung f_c_startThings f_c_startStrength f_c_startWind f_c_slips f_c_lines f_c_coded f_c_tiresFrom f_c_tiresTo f_c_mayFrom f_c_mayTo f_w_wind b_c_bars b_c_gives b_c_rough b_c_code b_w_told b_w_facts b_w_stack p1 v1 a2 a3 a4 hv1) (cwV 1 ht (zq_V zq_188 zq_189 zq_190 zq_50 zq_187) rfl rfl rfl zk_X3_habitual ⟨Nat.le_of_ble_eq_true rfl, Nat.le_of_ble_eq_true rfl⟩) rfl rfl hZ hK hP hD hS hA [0, 1, 2, 3, 4, 5, 6, 7, 8, 9] [] (by decide) (by decide) (by decide) rfl rfl rfl hl.1 (Nat.le_of_ble_eq_true rfl) dX3_afterHabit_4 ⟨Nat.zero_le _, Nat.zero_le _⟩ rfl (fun H locs hP hD hS => ?_)
  have hP : va_P (dC, dI) zz_cls [zo_X3 a_o a_c a_w a_o_deeds a_o_ends f_o_found, zo_X0 a_c f_c_top f_c_things a_c_bars a_c_gives a_c_rough f_c_startRung f_c_startThings f_c_startStrength f_c_startWind f_c_slips f_c_lines a_c_code f_c_coded f_c_tiresFrom f_c_tiresTo f_c_mayFrom f_c_mayTo, (a_c_bars, .inl (dA 0, 9, .inl b_c_bars)), (a_c_gives, .inl (dA 0, 9, .inl b_c_gives)), (a_c_rough, .inl (dA 0, 9, .inl b_c_rough)), (a_c_code, .inl (dA 0, 900, .inl b_c_code)), zo_X2 a_w a_c a_w_told a_w_facts a_w_stack f_w_wind, (a_w_told, .inl (dA 0, 315, .inl a2)), (a_w_facts, .inl (dA 0, 6, .inl a3)), (a_w_stack, .inl (dA 0, 64, .inl a4))] H := hP
  have hD : va_D A [zo_X3 a_o a_c a_w a_o_deeds a_o_ends f_o_found, zo_X0 a_c f_c_top f_c_things a_c_bars a_c_gives a_c_rough f_c_startRung f_c_startThings f_c_startStrength f_c_startWind f_c_slips f_c_lines a_c_code f_c_coded f_c_tiresFrom f_c_tiresTo f_c_mayFrom f_c_mayTo, (a_c_bars, .inl (dA 0, 9, .inl b_c_bars)), (a_c_gives, .inl (dA 0, 9, .inl b_c_gives)), (a_c_rough, .inl (dA 0, 9, .inl b_c_rough)), (a_c_code, .inl (dA 0, 900, .inl b_c_code)), zo_X2 a_w a_c a_w_told a_w_facts a_w_stack f_w_wind, (a_w_told, .inl (dA 0, 315, .inl a2)), (a_w_facts, .inl (dA 0, 6, .inl a3)), (a_w_stack, .inl (dA 0, 64, .inl a4))] := hD
  obtain ⟨v5, a6, a7, a8, hv5, hf⟩ := zc_4 hf
  refine zx_Vi (pc := 7) (wc := [zo_X3 a_o a_c a_w a_o_deeds a_o_ends f_o_found, zo_X0 a_c f_c_top f_c_things a_c_bars a_c_gives a_c_rough f_c_startRung f_c_startThings f_c_startStrength f_c_startWind f_c_slips f_c_lines a_c_code f_c_coded f_c_tiresFrom f_c_tiresTo f_c_mayFrom f_c_mayTo, (a_c_bars, .inl (dA 0, 9, .inl b_c_bars)), (a_c_rough, .inl (dA 0, 9, .inl b_c_rough)), (a_c_code, .inl (dA 0, 900, .inl b_c_code)), zo_X2 a_w a_c a_w_told a_w_facts a_w_stack f_w_wind, (a_w_told, .inl (dA 0, 315, .inl a2)), (a_w_facts, .inl (dA 0, 6, .inl a3)), (a_w_stack, .inl (dA 0, 64, .inl a4))]) (wr := [(a_c_gives, .inl (dA 0, 9, .inl b_c_gives))]) (w1 := [zo_X3 a_o a_c a_w a_o_deeds a_o_ends f_o_found, zo_X0 a_c f_c_top f_c_things a_c_bars a_c_gives a_c_rough f_c_startRung f_c_startThings f_c_startStrength f_c_startWind f_c_slips f_c_lines a_c_code f_c_coded f_c_tiresFrom f_c_tiresTo f_c_mayFrom f_c_mayTo, (a_c_bars, .inl (dA 0, 9, .inl b_c_bars)), (a_c_rough, .inl (dA 0, 9, .inl b_c_rough)), (a_c_code, .inl (dA 0, 900, .inl b_c_code)), zo_X2 a_w a_c a_w_told a_w_facts a_w_stack f_w_wind, (a_w_told, .inl (dA 0, 315, .inl a6)), (a_w_facts, .inl (dA 0, 6, .inl a7)), (a_w_stack, .inl (dA 0, 64, .inl a8))]) (As := [.int p1, .int v1]) (rest := []) ⟨hx, hb, hml, hown, ht⟩ (zt_X3_behind l dC dI dA adK adV _ a_o a_c a_w a_o_deeds a_o_ends a_c_bars a_c_gives a_c_rough a_c_code a_w_told a_w_facts a_w_stack n f_o_found f_c_top f_c_things f_c_startRung f_c_startThings f_c_startStrength f_c_startWind f_c_slips f_c_lines f_c_coded f_c_tiresFrom f_c_tiresTo f_c_mayFrom f_c_mayTo f_w_wind b_c_bars b_c_rough b_c_code a2 a3 a4 p1 v1 v5 a6 a7 a8 hv5) (cwV 2 ht (zq_V zq_183 zq_184 zq_185 zq_50 zq_179) rfl rfl rfl zk_X3_behind ⟨Nat.le_of_ble_eq_true rfl, Nat.le_of_ble_eq_true rfl⟩) rfl rfl hZ hK hP hD hS hA [0, 1, 2, 4, 5, 6, 7, 8, 9] [3] (by decide) (by decide) (by decide) rfl rfl rfl hl.1 (Nat.le_of_ble_eq_true rfl) dX3_afterHabit_7 ⟨Nat.zero_le _, Nat.zero_le _⟩ rfl (fun H locs hP hD hS => ?_)
  have hP : va_P (dC, dI) zz_cls [(a_c_gives, .inl (dA 0, 9, .inl b_c_gives)), zo_X3 a_o a_c a_w a_o_deeds a_o_ends f_o_found, zo_X0 a_c f_c_top f_c_things a_c_bars a_c_gives a_c_rough f_c_startRung f_c_startThings f_c_startStrength f_c_startWind f_c_slips f_c_lines a_c_code f_c_coded f_c_tiresFrom f_c_tiresTo f_c_mayFrom f_c_mayTo, (a_c_bars, .inl (dA 0, 9, .inl b_c_bars)), (a_c_rough, .inl (dA 0, 9, .inl b_c_rough)), (a_c_code, .inl (dA 0, 900, .inl b_c_code)), zo_X2 a_w a_c a_w_told a_w_facts a_w_stack f_w_wind, (a_w_told, .inl (dA 0, 315, .inl a6)), (a_w_facts, .inl (dA 0, 6, .inl a7)), (a_w_stack, .inl (dA 0, 64, .inl a8))] H := hP
  have hD : va_D A [(a_c_gives, .inl (dA 0, 9, .inl b_c_gives)), zo_X3 a_o a_c a_w a_o_deeds a_o_ends f_o_found, zo_X0 a_c f_c_top f_c_things a_c_bars a_c_gives a_c_rough f_c_startRung f_c_startThings f_c_startStrength f_c_startWind f_c_slips f_c_lines a_c_code f_c_coded f_c_tiresFrom f_c_tiresTo f_c_mayFrom f_c_mayTo, (a_c_bars, .inl (dA 0, 9, .inl b_c_bars)), (a_c_rough, .inl (dA 0, 9, .inl b_c_rough)), (a_c_code, .inl (dA 0, 900, .inl b_c_code)), zo_X2 a_w a_c a_w_told a_w_facts a_w_stack f_w_wind, (a_w_told, .inl (dA 0, 315, .inl a6)), (a_w_facts, .inl (dA 0, 6, .inl a7)), (a_w_stack, .inl (dA 0, 64, .inl a8))] := hD
  obtain ⟨rfl, rfl, rfl, rfl⟩ := zi_4 hf
  exact W.iret (pc := 10) hx hb hr (fun t ht hW => ⟨⟨_, (), rfl, rfl, zz_Bi (by rw [ht]; exact hP.sub [1, 2, 3, 0, 4, 5, 6, 7, 8, 9] rfl) (va_K.moved hW.alike hK) (hD.sub [1, 2, 3, 0, 4, 5, 6, 7, 8, 9] (by decide) rfl)⟩, hS.F ht⟩) hS.2.2 dX3_afterHabit_10

def zf_X4_begin (f_o_stand : Int32) (f_o_wind : Int32) (f_o_deeds : Int32) (f_q0_startRung : Int32) (f_q0_startThings : Int32) (f_q0_startStrength : Int32) (f_q0_startWind : Int32) : Option (Int32 × Int32 × Int32) :=
  zd_1 (zf_X10_standOf f_q0_startRung f_q0_startThings f_q0_startStrength) (fun v1 =>
  some (v1, f_q0_startWind, (0 : Int32)))
theorem zk_X4_begin : yX4_begin.cls = RX4 ∧ yX4_begin.cls ≠ "java/lang/invoke/MethodHandle" ∧ yX4_begin.cls ≠ "java/lang/invoke/VarHandle" ∧ (parseMethodDescriptor yX4_begin.desc).map (fun d => d.parameters.length) = some 1 := by decide +kernel
set_option maxHeartbeats 4000000 in
set_option maxRecDepth 100000 in
theorem zt_X4_begin (l : Launch) (dC : Nat → ClassId) (dI : Nat → Nat → Nat) (dA : Nat → ClassId) (adK adV : Nat → Nat) (sz : Nat) (a_o : Nat) (a_q0 : Nat) (a_q0_bars : Nat) (a_q0_gives : Nat) (a_q0_rough : Nat) (a_q0_code : Nat) (f_o_stand : Int32) (f_o_wind : Int32) (f_o_deeds : Int32) (f_q0_top : Int32) (f_q0_things : Int32) (f_q0_startRung : Int32) (f_q0_startThings : Int32) (f_q0_startStrength : Int32) (f_q0_startWind : Int32) (f_q0_slips : Int32) (f_q0_lines : Int32) (f_q0_coded : Int32) (f_q0_tiresFrom : Int32) (f_q0_tiresTo : Int32) (f_q0_mayFrom : Int32) (f_q0_mayTo : Int32) (o1 : Int32) (o2 : Int32) (o3 : Int32) (hf : zf_X4_begin f_o_stand f_o_wind f_o_deeds f_q0_startRung f_q0_startThings f_q0_startStrength f_q0_startWind = some (o1, o2, o3)) : Met l yX4_begin (.code yX4_begin cX4_begin 2 none :: zq_T) ({ frames := 1, cells := 0, slots := 0, locals := 22 }) (va_Pc [.ref a_o, .ref a_q0] (zx_M dC dI dA adK adV [zo_X4 a_o f_o_stand f_o_wind f_o_deeds, zo_X0 a_q0 f_q0_top f_q0_things a_q0_bars a_q0_gives a_q0_rough f_q0_startRung f_q0_startThings f_q0_startStrength f_q0_startWind f_q0_slips f_q0_lines a_q0_code f_q0_coded f_q0_tiresFrom f_q0_tiresTo f_q0_mayFrom f_q0_mayTo] sz)) (va_Qv (fun _ : Unit => True) (fun _ t => zz_B dC dI dA (va_A [zo_X4 a_o f_o_stand f_o_wind f_o_deeds, zo_X0 a_q0 f_q0_top f_q0_things a_q0_bars a_q0_gives a_q0_rough f_q0_startRung f_q0_startThings f_q0_startStrength f_q0_startWind f_q0_slips f_q0_lines a_q0_code f_q0_coded f_q0_tiresFrom f_q0_tiresTo f_q0_mayFrom f_q0_mayTo] sz) [zo_X4 a_o o1 o2 o3, zo_X0 a_q0 f_q0_top f_q0_things a_q0_bars a_q0_gives a_q0_rough f_q0_startRung f_q0_startThings f_q0_startStrength f_q0_startWind f_q0_slips f_q0_lines a_q0_code f_q0_coded f_q0_tiresFrom f_q0_tiresTo f_q0_mayFrom f_q0_mayTo] t) (va_A [zo_X4 a_o f_o_stand f_o_wind f_o_deeds, zo_X0 a_q0 f_q0_top f_q0_things a_q0_bars a_q0_gives a_q0_rough f_q0_startRung f_q0_startThings f_q0_startStrength f_q0_startWind f_q0_slips f_q0_lines a_q0_code f_q0_coded f_q0_tiresFrom f_q0_tiresTo f_q0_mayFrom f_q0_mayTo] sz)) 0 0 (va_A [zo_X4 a_o f_o_stand f_o_wind f_o_deeds, zo_X0 a_q0 f_q0_top f_q0_things a_q0_bars a_q0_gives a_q0_rough f_q0_startRung f_q0_startThings f_q0_startStrength f_q0_startWind f_q0_slips f_q0_lines a_q0_code f_q0_coded f_q0_tiresFrom f_q0_tiresTo f_q0_mayFrom f_q0_mayTo] sz) := by
  unfold zf_X4_begin at hf
  refine Met.ofW (cc := cX4_begin) (maxL := 2) (ret := none) (by decide) rfl ?_
  intro p e s m args below meth c s₁ B hml hv
  obtain ⟨rfl, ⟨hsz, hP, hK, hD0⟩, hZ⟩ := hv
  have hx := B.exec
  have hb := B.bytes
  have hr := B.returns
  have ht : ∀ w ∈ zq_T, w.before ([.ref a_o, .ref a_q0] : List Value).toArray s = true := fun w hw => atoms_spec (ws := .code yX4_begin cX4_begin 2 none :: zq_T) B.pre w (List.mem_cons_of_mem _ hw)
  have hown : s.vm.findClass RX4 = some m.cls := findClass_of_methodNamed B.named
  have hlocks := B.notSynchronized
  subst hsz
  have hD := hD0.self (sz := s.heap.size)
  generalize hAe : va_A [zo_X4 a_o f_o_stand f_o_wind f_o_deeds, zo_X0 a_q0 f_q0_top f_q0_things a_q0_bars a_q0_gives a_q0_rough f_q0_startRung f_q0_startThings f_q0_startStrength f_q0_startWind f_q0_slips f_q0_lines a_q0_code f_q0_coded f_q0_tiresFrom f_q0_tiresTo f_q0_mayFrom f_q0_mayTo] s.heap.size = A at hD hZ ⊢
  have hA : ∀ q : Nat, s.heap.size ≤ q → A q := fun q h => by rw [← hAe]; exact Or.inr h
  clear hAe hD0
  have hS : va_S A s.heap s.heap [] := va_S.rf
  have hl := lv_entry ([.ref a_o, .ref a_q0]) (n := 2) (Nat.le_of_ble_eq_true rfl)
  rw [lg_entry_eq]
  generalize (lg_sl ([.ref a_o, .ref a_q0]) ++ List.replicate (2 - (lg_sl ([.ref a_o, .ref a_q0])).length) Slot.unset).toArray = ls at hl ⊢
  have hl : lv_has ls 2 [(0, .ref a_o), (1, .ref a_q0)] := hl
  refine lv_aload_n (pc := 0) hx hb dX4_begin_0 rfl (lv_at hl 0 rfl) ?_
  refine lv_aload_n (pc := 1) hx hb dX4_begin_1 rfl (lv_at hl 1 rfl) ?_
  refine va_get (pc := 2) (D := (dC, dI)) (ci := 1) (v := .int f_q0_startRung) (C := RX0) (T := TX0) (N := 17) hx hb ht zq_layX0 hown hK hP 1 rfl rfl 5 (by decide) (ht _ zq_198) (fun _ h9 => h9) rfl dX4_begin_2 ?_
  refine lv_aload_n (pc := 5) hx hb dX4_begin_5 rfl (lv_at hl 1 rfl) ?_
  refine va_get (pc := 6) (D := (dC, dI)) (ci := 1) (v := .int f_q0_startThings) (C := RX0) (T := TX0) (N := 17) hx hb ht zq_layX0 hown hK hP 1 rfl rfl 6 (by decide) (ht _ zq_199) (fun _ h9 => h9) rfl dX4_begin_6 ?_
  refine lv_aload_n (pc := 9) hx hb dX4_begin_9 rfl (lv_at hl 1 rfl) ?_
  refine va_get (pc := 10) (D := (dC, dI)) (ci := 1) (v := .int f_q0_startStrength) (C := RX0) (T := TX0) (N := 17) hx hb ht zq_layX0 hown hK hP 1 rfl rfl 7 (by decide) (ht _ zq_200) (fun _ h9 => h9) rfl dX4_begin_10 ?_
  obtain ⟨v1, hv1, hf⟩ := zc_1 hf
  refine zx_Ni (pc := 13) (wc := []) (wr := [zo_X4 a_o f_o_stand f_o_wind f_o_deeds, zo_X0 a_q0 f_q0_top f_q0_things a_q0_bars a_q0_gives a_q0_rough f_q0_startRung f_q0_startThings f_q0_startStrength f_q0_startWind f_q0_slips f_q0_lines a_q0_code f_q0_coded f_q0_tiresFrom f_q0_tiresTo f_q0_mayFrom f_q0_mayTo]) (w1 := []) (As := [.int f_q0_startRung, .int f_q0_startThings, .int f_q0_startStrength]) (rest := [.ref a_o]) ⟨hx, hb, hml, hown, ht⟩ (zt_X10_standOf l dC dI dA adK adV _ f_q0_startRung f_q0_startThings f_q0_startStrength v1 hv1) ⟨va_cnB 3 ht (zq_C zq_132) rfl rfl rfl (hZ.nest 2 rfl) (ht _ zq_58) zk_X10_standOf.2 ⟨Nat.le_of_ble_eq_true rfl, Nat.le_of_ble_eq_true rfl⟩, ht _ zq_131, trivial⟩ hZ hK hP hD hS hA [] [0, 1] (by decide) (by decide) (by decide) rfl rfl rfl hl.1 (Nat.le_of_ble_eq_true rfl) dX4_begin_13 ⟨Nat.zero_le _, Nat.zero_le _⟩ rfl (fun H locs hP hD hS => ?_)
  have hP : va_P (dC, dI) zz_cls [zo_X4 a_o f_o_stand f_o_wind f_o_deeds, zo_X0 a_q0 f_q0_top f_q0_things a_q0_bars a_q0_gives a_q0_rough f_q0_startRung f_q0_startThings f_q0_startStrength f_q0_startWind f_q0_slips f_q0_lines a_q0_code f_q0_coded f_q0_tiresFrom f_q0_tiresTo f_q0_mayFrom f_q0_mayTo] H := hP
  have hD : va_D A [zo_X4 a_o f_o_stand f_o_wind f_o_deeds, zo_X0 a_q0 f_q0_top f_q0_things a_q0_bars a_q0_gives a_q0_rough f_q0_startRung f_q0_startThings f_q0_startStrength f_q0_startWind f_q0_slips f_q0_lines a_q0_code f_q0_coded f_q0_tiresFrom f_q0_tiresTo f_q0_mayFrom f_q0_mayTo] := hD
  refine va_put (pc := 16) (D := (dC, dI)) (ci := 5) (v := .int v1) (ty := .int) (C := RX4) (T := TX4) (N := 3) hx hb ht zq_layX4 tyX4 tyX4_ok nmX4 hown hK hP hD hS 0 rfl rfl 0 (by decide) (ht _ zq_194) (fun _ h9 => h9) rfl (by decide +kernel) rfl rfl (Nat.le_of_ble_eq_true rfl) dX4_begin_16 (fun H locs hP hD hS => ?_)
  have hP : va_P (dC, dI) zz_cls [zo_X4 a_o v1 f_o_wind f_o_deeds, zo_X0 a_q0 f_q0_top f_q0_things a_q0_bars a_q0_gives a_q0_rough f_q0_startRung f_q0_startThings f_q0_startStrength f_q0_startWind f_q0_slips f_q0_lines a_q0_code f_q0_coded f_q0_tiresFrom f_q0_tiresTo f_q0_mayFrom f_q0_mayTo] H := hP
  have hD : va_D A [zo_X4 a_o v1 f_o_wind f_o_deeds, zo_X0 a_q0 f_q0_top f_q0_things a_q0_bars a_q0_gives a_q0_rough f_q0_startRung f_q0_startThings f_q0_startStrength f_q0_startWind f_q0_slips f_q0_lines a_q0_code f_q0_coded f_q0_tiresFrom f_q0_tiresTo f_q0_mayFrom f_q0_mayTo] := hD
  refine lv_aload_n (pc := 19) hx hb dX4_begin_19 rfl (lv_at hl 0 rfl) ?_
  refine lv_aload_n (pc := 20) hx hb dX4_begin_20 rfl (lv_at hl 1 rfl) ?_
  refine va_get (pc := 21) (D := (dC, dI)) (ci := 1) (v := .int f_q0_startWind) (C := RX0) (T := TX0) (N := 17) hx hb ht zq_layX0 hown hK hP 1 rfl rfl 8 (by decide) (ht _ zq_201) (fun _ h9 => h9) rfl dX4_begin_21 ?_
  refine va_put (pc := 24) (D := (dC, dI)) (ci := 5) (v := .int f_q0_startWind) (ty := .int) (C := RX4) (T := TX4) (N := 3) hx hb ht zq_layX4 tyX4 tyX4_ok nmX4 hown hK hP hD hS 0 rfl rfl 1 (by decide) (ht _ zq_195) (fun _ h9 => h9) rfl (by decide +kernel) rfl rfl (Nat.le_of_ble_eq_true rfl) dX4_begin_24 (fun H locs hP hD hS => ?_)
  have hP : va_P (dC, dI) zz_cls [zo_X4 a_o v1 f_q0_startWind f_o_deeds, zo_X0 a_q0 f_q0_top f_q0_things a_q0_bars a_q0_gives a_q0_rough f_q0_startRung f_q0_startThings f_q0_startStrength f_q0_startWind f_q0_slips f_q0_lines a_q0_code f_q0_coded f_q0_tiresFrom f_q0_tiresTo f_q0_mayFrom f_q0_mayTo] H := hP
  have hD : va_D A [zo_X4 a_o v1 f_q0_startWind f_o_deeds, zo_X0 a_q0 f_q0_top f_q0_things a_q0_bars a_q0_gives a_q0_rough f_q0_startRung f_q0_startThings f_q0_startStrength f_q0_startWind f_q0_slips f_q0_lines a_q0_code f_q0_coded f_q0_tiresFrom f_q0_tiresTo f_q0_mayFrom f_q0_mayTo] := hD
  refine lv_aload_n (pc := 27) hx hb dX4_begin_27 rfl (lv_at hl 0 rfl) ?_
  refine lv_iconst (v := (0 : Int32)) (pc := 28) hx hb dX4_begin_28 (by decide) ?_
  refine va_put (pc := 29) (D := (dC, dI)) (ci := 5) (v := .int (0 : Int32)) (ty := .int) (C := RX4) (T := TX4) (N := 3) hx hb ht zq_layX4 tyX4 tyX4_ok nmX4 hown hK hP hD hS 0 rfl rfl 2 (by decide) (ht _ zq_196) (fun _ h9 => h9) rfl (by decide +kernel) rfl rfl (Nat.le_of_ble_eq_true rfl) dX4_begin_29 (fun H locs hP hD hS => ?_)
  have hP : va_P (dC, dI) zz_cls [zo_X4 a_o v1 f_q0_startWind (0 : Int32), zo_X0 a_q0 f_q0_top f_q0_things a_q0_bars a_q0_gives a_q0_rough f_q0_startRung f_q0_startThings f_q0_startStrength f_q0_startWind f_q0_slips f_q0_lines a_q0_code f_q0_coded f_q0_tiresFrom f_q0_tiresTo f_q0_mayFrom f_q0_mayTo] H := hP
  have hD : va_D A [zo_X4 a_o v1 f_q0_startWind (0 : Int32), zo_X0 a_q0 f_q0_top f_q0_things a_q0_bars a_q0_gives a_q0_rough f_q0_startRung f_q0_startThings f_q0_startStrength f_q0_startWind f_q0_slips f_q0_lines a_q0_code f_q0_coded f_q0_tiresFrom f_q0_tiresTo f_q0_mayFrom f_q0_mayTo] := hD
  obtain ⟨rfl, rfl, rfl⟩ := zi_3 hf
  exact W.vret (pc := 32) hx hb hr (fun t ht hW => ⟨⟨(), rfl, trivial, zz_Bi (by rw [ht]; exact hP) (va_K.moved hW.alike hK) (hD)⟩, hS.F ht⟩) hS.2.2 dX4_begin_32

def zf_X4_copyFrom (f_o_stand : Int32) (f_o_wind : Int32) (f_o_deeds : Int32) (f_q0_stand : Int32) (f_q0_wind : Int32) (f_q0_deeds : Int32) : Option (Int32 × Int32 × Int32) :=
  some (f_q0_stand, f_q0_wind, f_q0_deeds)
theorem zk_X4_copyFrom : yX4_copyFrom.cls = RX4 ∧ yX4_copyFrom.cls ≠ "java/lang/invoke/MethodHandle" ∧ yX4_copyFrom.cls ≠ "java/lang/invoke/VarHandle" ∧ (parseMethodDescriptor yX4_copyFrom.desc).map (fun d => d.parameters.length) = some 1 := by decide +kernel
set_option maxHeartbeats 4000000 in
set_option maxRecDepth 100000 in
theorem zt_X4_copyFrom (l : Launch) (dC : Nat → ClassId) (dI : Nat → Nat → Nat) (dA : Nat → ClassId) (adK adV : Nat → Nat) (sz : Nat) (a_o : Nat) (a_q0 : Nat) (f_o_stand : Int32) (f_o_wind : Int32) (f_o_deeds : Int32) (f_q0_stand : Int32) (f_q0_wind : Int32) (f_q0_deeds : Int32) (o1 : Int32) (o2 : Int32) (o3 : Int32) (hf : zf_X4_copyFrom f_o_stand f_o_wind f_o_deeds f_q0_stand f_q0_wind f_q0_deeds = some (o1, o2, o3)) : Met l yX4_copyFrom (.code yX4_copyFrom cX4_copyFrom 2 none :: zq_T) ({ frames := 0, cells := 0, slots := 0, locals := 0 }) (va_Pc [.ref a_o, .ref a_q0] (zx_M dC dI dA adK adV [zo_X4 a_o f_o_stand f_o_wind f_o_deeds, zo_X4 a_q0 f_q0_stand f_q0_wind f_q0_deeds] sz)) (va_Qv (fun _ : Unit => True) (fun _ t => zz_B dC dI dA (va_A [zo_X4 a_o f_o_stand f_o_wind f_o_deeds, zo_X4 a_q0 f_q0_stand f_q0_wind f_q0_deeds] sz) [zo_X4 a_o o1 o2 o3, zo_X4 a_q0 f_q0_stand f_q0_wind f_q0_deeds] t) (va_A [zo_X4 a_o f_o_stand f_o_wind f_o_deeds, zo_X4 a_q0 f_q0_stand f_q0_wind f_q0_deeds] sz)) 0 0 (va_A [zo_X4 a_o f_o_stand f_o_wind f_o_deeds, zo_X4 a_q0 f_q0_stand f_q0_wind f_q0_deeds] sz) := by
  unfold zf_X4_copyFrom at hf
  refine Met.ofW (cc := cX4_copyFrom) (maxL := 2) (ret := none) (by decide) rfl ?_
  intro p e s m args below meth c s₁ B hml hv
  obtain ⟨rfl, ⟨hsz, hP, hK, hD0⟩, hZ⟩ := hv
  have hx := B.exec
  have hb := B.bytes
  have hr := B.returns
  have ht : ∀ w ∈ zq_T, w.before ([.ref a_o, .ref a_q0] : List Value).toArray s = true := fun w hw => atoms_spec (ws := .code yX4_copyFrom cX4_copyFrom 2 none :: zq_T) B.pre w (List.mem_cons_of_mem _ hw)
  have hown : s.vm.findClass RX4 = some m.cls := findClass_of_methodNamed B.named
  have hlocks := B.notSynchronized
  subst hsz
  have hD := hD0.self (sz := s.heap.size)
  generalize hAe : va_A [zo_X4 a_o f_o_stand f_o_wind f_o_deeds, zo_X4 a_q0 f_q0_stand f_q0_wind f_q0_deeds] s.heap.size = A at hD hZ ⊢
  have hA : ∀ q : Nat, s.heap.size ≤ q → A q := fun q h => by rw [← hAe]; exact Or.inr h
  clear hAe hD0
  have hS : va_S A s.heap s.heap [] := va_S.rf
  have hl := lv_entry ([.ref a_o, .ref a_q0]) (n := 2) (Nat.le_of_ble_eq_true rfl)
  rw [lg_entry_eq]
  generalize (lg_sl ([.ref a_o, .ref a_q0]) ++ List.replicate (2 - (lg_sl ([.ref a_o, .ref a_q0])).length) Slot.unset).toArray = ls at hl ⊢
  have hl : lv_has ls 2 [(0, .ref a_o), (1, .ref a_q0)] := hl
  refine lv_aload_n (pc := 0) hx hb dX4_copyFrom_0 rfl (lv_at hl 0 rfl) ?_
  refine lv_aload_n (pc := 1) hx hb dX4_copyFrom_1 rfl (lv_at hl 1 rfl) ?_
  refine va_get (pc := 2) (D := (dC, dI)) (ci := 5) (v := .int f_q0_stand) (C := RX4) (T := TX4) (N := 3) hx hb ht zq_layX4 hown hK hP 1 rfl rfl 0 (by decide) (ht _ zq_194) (fun _ h9 => h9) rfl dX4_copyFrom_2 ?_
  refine va_put (pc := 5) (D := (dC, dI)) (ci := 5) (v := .int f_q0_stand) (ty := .int) (C := RX4) (T := TX4) (N := 3) hx hb ht zq_layX4 tyX4 tyX4_ok nmX4 hown hK hP hD hS 0 rfl rfl 0 (by decide) (ht _ zq_194) (fun _ h9 => h9) rfl (by decide +kernel) rfl rfl (Nat.le_of_ble_eq_true rfl) dX4_copyFrom_5 (fun H locs hP hD hS => ?_)
  have hP : va_P (dC, dI) zz_cls [zo_X4 a_o f_q0_stand f_o_wind f_o_deeds, zo_X4 a_q0 f_q0_stand f_q0_wind f_q0_deeds] H := hP
  have hD : va_D A [zo_X4 a_o f_q0_stand f_o_wind f_o_deeds, zo_X4 a_q0 f_q0_stand f_q0_wind f_q0_deeds] := hD
  refine lv_aload_n (pc := 8) hx hb dX4_copyFrom_8 rfl (lv_at hl 0 rfl) ?_
  refine lv_aload_n (pc := 9) hx hb dX4_copyFrom_9 rfl (lv_at hl 1 rfl) ?_
  refine va_get (pc := 10) (D := (dC, dI)) (ci := 5) (v := .int f_q0_wind) (C := RX4) (T := TX4) (N := 3) hx hb ht zq_layX4 hown hK hP 1 rfl rfl 1 (by decide) (ht _ zq_195) (fun _ h9 => h9) rfl dX4_copyFrom_10 ?_
  refine va_put (pc := 13) (D := (dC, dI)) (ci := 5) (v := .int f_q0_wind) (ty := .int) (C := RX4) (T := TX4) (N := 3) hx hb ht zq_layX4 tyX4 tyX4_ok nmX4 hown hK hP hD hS 0 rfl rfl 1 (by decide) (ht _ zq_195) (fun _ h9 => h9) rfl (by decide +kernel) rfl rfl (Nat.le_of_ble_eq_true rfl) dX4_copyFrom_13 (fun H locs hP hD hS => ?_)
  have hP : va_P (dC, dI) zz_cls [zo_X4 a_o f_q0_stand f_q0_wind f_o_deeds, zo_X4 a_q0 f_q0_stand f_q0_wind f_q0_deeds] H := hP
  have hD : va_D A [zo_X4 a_o f_q0_stand f_q0_wind f_o_deeds, zo_X4 a_q0 f_q0_stand f_q0_wind f_q0_deeds] := hD
  refine lv_aload_n (pc := 16) hx hb dX4_copyFrom_16 rfl (lv_at hl 0 rfl) ?_
  refine lv_aload_n (pc := 17) hx hb dX4_copyFrom_17 rfl (lv_at hl 1 rfl) ?_
  refine va_get (pc := 18) (D := (dC, dI)) (ci := 5) (v := .int f_q0_deeds) (C := RX4) (T := TX4) (N := 3) hx hb ht zq_layX4 hown hK hP 1 rfl rfl 2 (by decide) (ht _ zq_196) (fun _ h9 => h9) rfl dX4_copyFrom_18 ?_
  refine va_put (pc := 21) (D := (dC, dI)) (ci := 5) (v := .int f_q0_deeds) (ty := .int) (C := RX4) (T := TX4) (N := 3) hx hb ht zq_layX4 tyX4 tyX4_ok nmX4 hown hK hP hD hS 0 rfl rfl 2 (by decide) (ht _ zq_196) (fun _ h9 => h9) rfl (by decide +kernel) rfl rfl (Nat.le_of_ble_eq_true rfl) dX4_copyFrom_21 (fun H locs hP hD hS => ?_)
  have hP : va_P (dC, dI) zz_cls [zo_X4 a_o f_q0_stand f_q0_wind f_q0_deeds, zo_X4 a_q0 f_q0_stand f_q0_wind f_q0_deeds] H := hP
  have hD : va_D A [zo_X4 a_o f_q0_stand f_q0_wind f_q0_deeds, zo_X4 a_q0 f_q0_stand f_q0_wind f_q0_deeds] := hD
  obtain ⟨rfl, rfl, rfl⟩ := zi_3 hf
  exact W.vret (pc := 24) hx hb hr (fun t ht hW => ⟨⟨(), rfl, trivial, zz_Bi (by rw [ht]; exact hP) (va_K.moved hW.alike hK) (hD)⟩, hS.F ht⟩) hS.2.2 dX4_copyFrom_24

def zf_X5_isDigit (p0 : Int32) : Option (Int32) :=
  if p0 < (48 : Int32) then
    some (0 : Int32)
  else
    if (57 : Int32) < p0 then
      some (0 : Int32)
    else
      some (1 : Int32)
theorem zk_X5_isDigit : yX5_isDigit.cls = RX5 ∧ yX5_isDigit.cls ≠ "java/lang/invoke/MethodHandle" ∧ yX5_isDigit.cls ≠ "java/lang/invoke/VarHandle" ∧ (parseMethodDescriptor yX5_isDigit.desc).map (fun d => d.parameters.length) = some 1 := by decide +kernel
set_option maxHeartbeats 4000000 in
set_option maxRecDepth 100000 in
theorem zt_X5_isDigit (l : Launch) (dC : Nat → ClassId) (dI : Nat → Nat → Nat) (dA : Nat → ClassId) (adK adV : Nat → Nat) (sz : Nat) (p0 : Int32) (r0 : Int32) (hf : zf_X5_isDigit p0 = some r0) : Met l yX5_isDigit (.code yX5_isDigit cX5_isDigit 1 (some .boolean) :: zq_T) ({ frames := 0, cells := 0, slots := 0, locals := 0 }) (va_Pc [.int p0] (zx_M dC dI dA adK adV [] sz)) (va_Qi (fun (r : Int32) (_ : Unit) => r = r0) (fun _ t => zz_B dC dI dA (va_A [] sz) [] t) (va_A [] sz)) 0 0 (va_A [] sz) := by
  unfold zf_X5_isDigit at hf
  refine Met.ofW (cc := cX5_isDigit) (maxL := 1) (ret := (some .boolean)) (by decide) rfl ?_
  intro p e s m args below meth c s₁ B hml hv
  obtain ⟨rfl, ⟨hsz, hP, hK, hD0⟩, hZ⟩ := hv
  have hx := B.exec
  have hb := B.bytes
  have hr := B.returns
  have ht : ∀ w ∈ zq_T, w.before ([.int p0] : List Value).toArray s = true := fun w hw => atoms_spec (ws := .code yX5_isDigit cX5_isDigit 1 (some .boolean) :: zq_T) B.pre w (List.mem_cons_of_mem _ hw)
  have hown : s.vm.findClass RX5 = some m.cls := findClass_of_methodNamed B.named
  have hlocks := B.notSynchronized
  subst hsz
  have hD := hD0.self (sz := s.heap.size)
  generalize hAe : va_A [] s.heap.size = A at hD hZ ⊢
  have hA : ∀ q : Nat, s.heap.size ≤ q → A q := fun q h => by rw [← hAe]; exact Or.inr h
  clear hAe hD0
  have hS : va_S A s.heap s.heap [] := va_S.rf
  have hl := lv_entry ([.int p0]) (n := 1) (Nat.le_of_ble_eq_true rfl)
  rw [lg_entry_eq]
  generalize (lg_sl ([.int p0]) ++ List.replicate (1 - (lg_sl ([.int p0])).length) Slot.unset).toArray = ls at hl ⊢
  have hl : lv_has ls 1 [(0, .int p0)] := hl
  refine lv_iload_n (pc := 0) hx hb dX5_isDigit_0 rfl (lv_at hl 0 rfl) ?_
  refine lv_bipush (v := (48 : Int32)) (pc := 1) hx hb dX5_isDigit_1 (by decide) ?_
  refine lv_icmp_lt (tgt := 16) (pc := 3) hx hb dX5_isDigit_3 rfl (fun hc => ?_) (fun hc => ?_)
  · have hf := za_t hf hc
    refine lv_iconst (v := (0 : Int32)) (pc := 16) hx hb dX5_isDigit_16 (by decide) ?_
    obtain rfl := Option.some.inj hf
    exact W.zret (pc := 17) hx hb hr rfl (fun t ht hW => ⟨⟨_, (), rfl, rfl, zz_Bi (by rw [ht]; exact hP) (va_K.moved hW.alike hK) (hD)⟩, hS.F ht⟩) hS.2.2 dX5_isDigit_17
  · have hf := za_f hf hc
    refine lv_iload_n (pc := 6) hx hb dX5_isDigit_6 rfl (lv_at hl 0 rfl) ?_
    refine lv_bipush (v := (57 : Int32)) (pc := 7) hx hb dX5_isDigit_7 (by decide) ?_
    refine lv_icmp_gt (tgt := 16) (pc := 9) hx hb dX5_isDigit_9 rfl (fun hc => ?_) (fun hc => ?_)
    · have hf := za_t hf hc
      refine lv_iconst (v := (0 : Int32)) (pc := 16) hx hb dX5_isDigit_16 (by decide) ?_
      obtain rfl := Option.some.inj hf
      exact W.zret (pc := 17) hx hb hr rfl (fun t ht hW => ⟨⟨_, (), rfl, rfl, zz_Bi (by rw [ht]; exact hP) (va_K.moved hW.alike hK) (hD)⟩, hS.F ht⟩) hS.2.2 dX5_isDigit_17
    · have hf := za_f hf hc
      refine lv_iconst (v := (1 : Int32)) (pc := 12) hx hb dX5_isDigit_12 (by decide) ?_
      refine lv_goto (tgt := 17) (pc := 13) hx hb dX5_isDigit_13 rfl ?_
      obtain rfl := Option.some.inj hf
      exact W.zret (pc := 17) hx hb hr rfl (fun t ht hW => ⟨⟨_, (), rfl, rfl, zz_Bi (by rw [ht]; exact hP) (va_K.moved hW.alike hK) (hD)⟩, hS.F ht⟩) hS.2.2 dX5_isDigit_17

def zf_X5_isLetter (p0 : Int32) : Option (Int32) :=
  if p0 < (97 : Int32) then
    some (0 : Int32)
  else
    if (122 : Int32) < p0 then
      some (0 : Int32)
    else
      some (1 : Int32)
theorem zk_X5_isLetter : yX5_isLetter.cls = RX5 ∧ yX5_isLetter.cls ≠ "java/lang/invoke/MethodHandle" ∧ yX5_isLetter.cls ≠ "java/lang/invoke/VarHandle" ∧ (parseMethodDescriptor yX5_isLetter.desc).map (fun d => d.parameters.length) = some 1 := by decide +kernel
set_option maxHeartbeats 4000000 in
set_option maxRecDepth 100000 in
theorem zt_X5_isLetter (l : Launch) (dC : Nat → ClassId) (dI : Nat → Nat → Nat) (dA : Nat → ClassId) (adK adV : Nat → Nat) (sz : Nat) (p0 : Int32) (r0 : Int32) (hf : zf_X5_isLetter p0 = some r0) : Met l yX5_isLetter (.code yX5_isLetter cX5_isLetter 1 (some .boolean) :: zq_T) ({ frames := 0, cells := 0, slots := 0, locals := 0 }) (va_Pc [.int p0] (zx_M dC dI dA adK adV [] sz)) (va_Qi (fun (r : Int32) (_ : Unit) => r = r0) (fun _ t => zz_B dC dI dA (va_A [] sz) [] t) (va_A [] sz)) 0 0 (va_A [] sz) := by
  unfold zf_X5_isLetter at hf
  refine Met.ofW (cc := cX5_isLetter) (maxL := 1) (ret := (some .boolean)) (by decide) rfl ?_
  intro p e s m args below meth c s₁ B hml hv
  obtain ⟨rfl, ⟨hsz, hP, hK, hD0⟩, hZ⟩ := hv
  have hx := B.exec
  have hb := B.bytes
  have hr := B.returns
  have ht : ∀ w ∈ zq_T, w.before ([.int p0] : List Value).toArray s = true := fun w hw => atoms_spec (ws := .code yX5_isLetter cX5_isLetter 1 (some .boolean) :: zq_T) B.pre w (List.mem_cons_of_mem _ hw)
  have hown : s.vm.findClass RX5 = some m.cls := findClass_of_methodNamed B.named
  have hlocks := B.notSynchronized
  subst hsz
  have hD := hD0.self (sz := s.heap.size)
  generalize hAe : va_A [] s.heap.size = A at hD hZ ⊢
  have hA : ∀ q : Nat, s.heap.size ≤ q → A q := fun q h => by rw [← hAe]; exact Or.inr h
  clear hAe hD0
  have hS : va_S A s.heap s.heap [] := va_S.rf
  have hl := lv_entry ([.int p0]) (n := 1) (Nat.le_of_ble_eq_true rfl)
  rw [lg_entry_eq]
  generalize (lg_sl ([.int p0]) ++ List.replicate (1 - (lg_sl ([.int p0])).length) Slot.unset).toArray = ls at hl ⊢
  have hl : lv_has ls 1 [(0, .int p0)] := hl
  refine lv_iload_n (pc := 0) hx hb dX5_isLetter_0 rfl (lv_at hl 0 rfl) ?_
  refine lv_bipush (v := (97 : Int32)) (pc := 1) hx hb dX5_isLetter_1 (by decide) ?_
  refine lv_icmp_lt (tgt := 16) (pc := 3) hx hb dX5_isLetter_3 rfl (fun hc => ?_) (fun hc => ?_)
  · have hf := za_t hf hc
    refine lv_iconst (v := (0 : Int32)) (pc := 16) hx hb dX5_isLetter_16 (by decide) ?_
    obtain rfl := Option.some.inj hf
    exact W.zret (pc := 17) hx hb hr rfl (fun t ht hW => ⟨⟨_, (), rfl, rfl, zz_Bi (by rw [ht]; exact hP) (va_K.moved hW.alike hK) (hD)⟩, hS.F ht⟩) hS.2.2 dX5_isLetter_17
  · have hf := za_f hf hc
    refine lv_iload_n (pc := 6) hx hb dX5_isLetter_6 rfl (lv_at hl 0 rfl) ?_
    refine lv_bipush (v := (122 : Int32)) (pc := 7) hx hb dX5_isLetter_7 (by decide) ?_
    refine lv_icmp_gt (tgt := 16) (pc := 9) hx hb dX5_isLetter_9 rfl (fun hc => ?_) (fun hc => ?_)
    · have hf := za_t hf hc
      refine lv_iconst (v := (0 : Int32)) (pc := 16) hx hb dX5_isLetter_16 (by decide) ?_
      obtain rfl := Option.some.inj hf
      exact W.zret (pc := 17) hx hb hr rfl (fun t ht hW => ⟨⟨_, (), rfl, rfl, zz_Bi (by rw [ht]; exact hP) (va_K.moved hW.alike hK) (hD)⟩, hS.F ht⟩) hS.2.2 dX5_isLetter_17
    · have hf := za_f hf hc
      refine lv_iconst (v := (1 : Int32)) (pc := 12) hx hb dX5_isLetter_12 (by decide) ?_
      refine lv_goto (tgt := 17) (pc := 13) hx hb dX5_isLetter_13 rfl ?_
      obtain rfl := Option.some.inj hf
      exact W.zret (pc := 17) hx hb hr rfl (fun t ht hW => ⟨⟨_, (), rfl, rfl, zz_Bi (by rw [ht]; exact hP) (va_K.moved hW.alike hK) (hD)⟩, hS.F ht⟩) hS.2.2 dX5_isLetter_17

def zf_X5_findFault (f_o_start : Int32) (f_o_fault : Int32) (f_o_place : Int32) (p1 : Int32) : Option (Int32 × Int32 × Int32) :=
  some ((0 : Int32), p1, f_o_start)
theorem zk_X5_findFault : yX5_findFault.cls = RX5 ∧ yX5_findFault.cls ≠ "java/lang/invoke/MethodHandle" ∧ yX5_findFault.cls ≠ "java/lang/invoke/VarHandle" ∧ (parseMethodDescriptor yX5_findFault.desc).map (fun d => d.parameters.length) = some 1 := by decide +kernel
set_option maxHeartbeats 4000000 in
set_option maxRecDepth 100000 in
theorem zt_X5_findFault (l : Launch) (dC : Nat → ClassId) (dI : Nat → Nat → Nat) (dA : Nat → ClassId) (adK adV : Nat → Nat) (sz : Nat) (a_o : Nat) (a_tape : Nat) (a_c : Nat) (f_o_length : Int32) (f_o_start : Int32) (f_o_end : Int32) (f_o_kind : Int32) (f_o_value : Int32) (f_o_inMay : Int32) (f_o_fault : Int32) (f_o_place : Int32) (p1 : Int32) (r0 : Int32) (o1 : Int32) (o2 : Int32) (hf : zf_X5_findFault f_o_start f_o_fault f_o_place p1 = some (r0, o1, o2)) : Met l yX5_findFault (.code yX5_findFault cX5_findFault 2 (some .boolean) :: zq_T) ({ frames := 0, cells := 0, slots := 0, locals := 0 }) (va_Pc [.ref a_o, .int p1] (zx_M dC dI dA adK adV [zo_X5 a_o a_tape f_o_length f_o_start f_o_end f_o_kind f_o_value (.ref a_c) f_o_inMay f_o_fault f_o_place] sz)) (va_Qi (fun (r : Int32) (_ : Unit) => r = r0) (fun _ t => zz_B dC dI dA (va_A [zo_X5 a_o a_tape f_o_length f_o_start f_o_end f_o_kind f_o_value (.ref a_c) f_o_inMay f_o_fault f_o_place] sz) [zo_X5 a_o a_tape f_o_length f_o_start f_o_end f_o_kind f_o_value (.ref a_c) f_o_inMay o1 o2] t) (va_A [zo_X5 a_o a_tape f_o_length f_o_start f_o_end f_o_kind f_o_value (.ref a_c) f_o_inMay f_o_fault f_o_place] sz)) 0 0 (va_A [zo_X5 a_o a_tape f_o_length f_o_start f_o_end f_o_kind f_o_value (.ref a_c) f_o_inMay f_o_fault f_o_place] sz) := by
  unfold zf_X5_findFault at hf
  refine Met.ofW (cc := cX5_findFault) (maxL := 2) (ret := (some .boolean)) (by decide) rfl ?_
  intro p e s m args below meth c s₁ B hml hv
  obtain ⟨rfl, ⟨hsz, hP, hK, hD0⟩, hZ⟩ := hv
  have hx := B.exec
  have hb := B.bytes
  have hr := B.returns
  have ht : ∀ w ∈ zq_T, w.before ([.ref a_o, .int p1] : List Value).toArray s = true := fun w hw => atoms_spec (ws := .code yX5_findFault cX5_findFault 2 (some .boolean) :: zq_T) B.pre w (List.mem_cons_of_mem _ hw)
  have hown : s.vm.findClass RX5 = some m.cls := findClass_of_methodNamed B.named
  have hlocks := B.notSynchronized
  subst hsz
  have hD := hD0.self (sz := s.heap.size)
  generalize hAe : va_A [zo_X5 a_o a_tape f_o_length f_o_start f_o_end f_o_kind f_o_value (.ref a_c) f_o_inMay f_o_fault f_o_place] s.heap.size = A at hD hZ ⊢
  have hA : ∀ q : Nat, s.heap.size ≤ q → A q := fun q h => by rw [← hAe]; exact Or.inr h
  clear hAe hD0
  have hS : va_S A s.heap s.heap [] := va_S.rf
  have hl := lv_entry ([.ref a_o, .int p1]) (n := 2) (Nat.le_of_ble_eq_true rfl)
  rw [lg_entry_eq]
  generalize (lg_sl ([.ref a_o, .int p1]) ++ List.replicate (2 - (lg_sl ([.ref a_o, .int p1])).length) Slot.unset).toArray = ls at hl ⊢
  have hl : lv_has ls 2 [(0, .ref a_o), (1, .int p1)] := hl
  refine lv_aload_n (pc := 0) hx hb dX5_findFault_0 rfl (lv_at hl 0 rfl) ?_
  refine lv_iload_n (pc := 1) hx hb dX5_findFault_1 rfl (lv_at hl 1 rfl) ?_
  refine va_put (pc := 2) (D := (dC, dI)) (ci := 6) (v := .int p1) (ty := .int) (C := RX5) (T := TX5) (N := 10) hx hb ht zq_layX5 tyX5 tyX5_ok nmX5 hown hK hP hD hS 0 rfl rfl 8 (by decide) (ht _ zq_205) (fun _ h9 => h9) rfl (by decide +kernel) rfl rfl (Nat.le_of_ble_eq_true rfl) dX5_findFault_2 (fun H locs hP hD hS => ?_)
  have hP : va_P (dC, dI) zz_cls [zo_X5 a_o a_tape f_o_length f_o_start f_o_end f_o_kind f_o_value (.ref a_c) f_o_inMay p1 f_o_place] H := hP
  have hD : va_D A [zo_X5 a_o a_tape f_o_length f_o_start f_o_end f_o_kind f_o_value (.ref a_c) f_o_inMay p1 f_o_place] := hD
  refine lv_aload_n (pc := 5) hx hb dX5_findFault_5 rfl (lv_at hl 0 rfl) ?_
  refine lv_aload_n (pc := 6) hx hb dX5_findFault_6 rfl (lv_at hl 0 rfl) ?_
  refine va_get (pc := 7) (D := (dC, dI)) (ci := 6) (v := .int f_o_start) (C := RX5) (T := TX5) (N := 10) hx hb ht zq_layX5 hown hK hP 0 rfl rfl 2 (by decide) (ht _ zq_296) (fun _ h9 => h9) rfl dX5_findFault_7 ?_
  refine va_put (pc := 10) (D := (dC, dI)) (ci := 6) (v := .int f_o_start) (ty := .int) (C := RX5) (T := TX5) (N := 10) hx hb ht zq_layX5 tyX5 tyX5_ok nmX5 hown hK hP hD hS 0 rfl rfl 9 (by decide) (ht _ zq_206) (fun _ h9 => h9) rfl (by decide +kernel) rfl rfl (Nat.le_of_ble_eq_true rfl) dX5_findFault_10 (fun H locs hP hD hS => ?_)
  have hP : va_P (dC, dI) zz_cls [zo_X5 a_o a_tape f_o_length f_o_start f_o_end f_o_kind f_o_value (.ref a_c) f_o_inMay p1 f_o_start] H := hP
  have hD : va_D A [zo_X5 a_o a_tape f_o_length f_o_start f_o_end f_o_kind f_o_value (.ref a_c) f_o_inMay p1 f_o_start] := hD
  refine lv_iconst (v := (0 : Int32)) (pc := 13) hx hb dX5_findFault_13 (by decide) ?_
  obtain ⟨rfl, rfl, rfl⟩ := zi_3 hf
  exact W.zret (pc := 14) hx hb hr rfl (fun t ht hW => ⟨⟨_, (), rfl, rfl, zz_Bi (by rw [ht]; exact hP) (va_K.moved hW.alike hK) (hD)⟩, hS.F ht⟩) hS.2.2 dX5_findFault_14

def zf_X5_refuse (f_o_start : Int32) (f_o_kind : Int32) (f_o_fault : Int32) (f_o_place : Int32) : Option (Int32 × Int32 × Int32) :=
  zd_1 (
    if f_o_kind = (1 : Int32) then
      some (1 : Int32)
    else
      some (2 : Int32)) (fun v1 =>
  zd_3 (zf_X5_findFault f_o_start f_o_fault f_o_place v1) (fun v2 v3 v4 =>
  zd_1 (za_zb v2) (fun v5 =>
  some (v5, v3, v4))))
theorem zk_X5_refuse : yX5_refuse.cls = RX5 ∧ yX5_refuse.cls ≠ "java/lang/invoke/MethodHandle" ∧ yX5_refuse.cls ≠ "java/lang/invoke/VarHandle" ∧ (parseMethodDescriptor yX5_refuse.desc).map (fun d => d.parameters.length) = some 0 := by decide +kernel
set_option maxHeartbeats 4000000 in
set_option maxRecDepth 100000 in
theorem zt_X5_refuse (l : Launch) (dC : Nat → ClassId) (dI : Nat → Nat → Nat) (dA : Nat → ClassId) (adK adV : Nat → Nat) (sz : Nat) (a_o : Nat) (a_tape : Nat) (a_c : Nat) (f_o_length : Int32) (f_o_start : Int32) (f_o_end : Int32) (f_o_kind : Int32) (f_o_value : Int32) (f_o_inMay : Int32) (f_o_fault : Int32) (f_o_place : Int32) (r0 : Int32) (o1 : Int32) (o2 : Int32) (hf : zf_X5_refuse f_o_start f_o_kind f_o_fault f_o_place = some (r0, o1, o2)) : Met l yX5_refuse (.code yX5_refuse cX5_refuse 1 (some .boolean) :: zq_T) ({ frames := 1, cells := 0, slots := 0, locals := 21 }) (va_Pc [.ref a_o] (zx_M dC dI dA adK adV [zo_X5 a_o a_tape f_o_length f_o_start f_o_end f_o_kind f_o_value (.ref a_c) f_o_inMay f_o_fault f_o_place] sz)) (va_Qi (fun (r : Int32) (_ : Unit) => r = r0) (fun _ t => zz_B dC dI dA (va_A [zo_X5 a_o a_tape f_o_length f_o_start f_o_end f_o_kind f_o_value (.ref a_c) f_o_inMay f_o_fault f_o_place] sz) [zo_X5 a_o a_tape f_o_length f_o_start f_o_end f_o_kind f_o_value (.ref a_c) f_o_inMay o1 o2] t) (va_A [zo_X5 a_o a_tape f_o_length f_o_start f_o_end f_o_kind f_o_value (.ref a_c) f_o_inMay f_o_fault f_o_place] sz)) 0 0 (va_A [zo_X5 a_o a_tape f_o_length f_o_start f_o_end f_o_kind f_o_value (.ref a_c) f_o_inMay f_o_fault f_o_place] sz) := by
  unfold zf_X5_refuse at hf
  refine Met.ofW (cc := cX5_refuse) (maxL := 1) (ret := (some .boolean)) (by decide) rfl ?_
  intro p e s m args below meth c s₁ B hml hv
  obtain ⟨rfl, ⟨hsz, hP, hK, hD0⟩, hZ⟩ := hv
  have hx := B.exec
  have hb := B.bytes
  have hr := B.returns
  have ht : ∀ w ∈ zq_T, w.before ([.ref a_o] : List Value).toArray s = true := fun w hw => atoms_spec (ws := .code yX5_refuse cX5_refuse 1 (some .boolean) :: zq_T) B.pre w (List.mem_cons_of_mem _ hw)
  have hown : s.vm.findClass RX5 = some m.cls := findClass_of_methodNamed B.named
  have hlocks := B.notSynchronized
  subst hsz
  have hD := hD0.self (sz := s.heap.size)
  generalize hAe : va_A [zo_X5 a_o a_tape f_o_length f_o_start f_o_end f_o_kind f_o_value (.ref a_c) f_o_inMay f_o_fault f_o_place] s.heap.size = A at hD hZ ⊢
  have hA : ∀ q : Nat, s.heap.size ≤ q → A q := fun q h => by rw [← hAe]; exact Or.inr h
  clear hAe hD0
  have hS : va_S A s.heap s.heap [] := va_S.rf
  have hl := lv_entry ([.ref a_o]) (n := 1) (Nat.le_of_ble_eq_true rfl)
  rw [lg_entry_eq]
  generalize (lg_sl ([.ref a_o]) ++ List.replicate (1 - (lg_sl ([.ref a_o])).length) Slot.unset).toArray = ls at hl ⊢
  have hl : lv_has ls 1 [(0, .ref a_o)] := hl
  refine lv_aload_n (pc := 0) hx hb dX5_refuse_0 rfl (lv_at hl 0 rfl) ?_
  refine lv_aload_n (pc := 1) hx hb dX5_refuse_1 rfl (lv_at hl 0 rfl) ?_
  refine va_get (pc := 2) (D := (dC, dI)) (ci := 6) (v := .int f_o_kind) (C := RX5) (T := TX5) (N := 10) hx hb ht zq_layX5 hown hK hP 0 rfl rfl 4 (by decide) (ht _ zq_299) (fun _ h9 => h9) rfl dX5_refuse_2 ?_
  refine lv_iconst (v := (1 : Int32)) (pc := 5) hx hb dX5_refuse_5 (by decide) ?_
  obtain ⟨v1, hj, hf⟩ := zc_1 hf
  refine zj_join (pcJ := 14) (stk := [.int v1, .ref a_o]) (X := fun H locs ls => lv_has ls 1 [] ∧ va_P (dC, dI) zz_cls [zo_X5 a_o a_tape f_o_length f_o_start f_o_end f_o_kind f_o_value (.ref a_c) f_o_inMay f_o_fault f_o_place] H ∧ va_D A [zo_X5 a_o a_tape f_o_length f_o_start f_o_end f_o_kind f_o_value (.ref a_c) f_o_inMay f_o_fault f_o_place] ∧ va_S A s.heap H locs) (fun H locs ls hX => ?_) (fun J14 => ?_)
  · obtain ⟨hl, hP, hD, hS⟩ := hX
    clear hj
    obtain ⟨v2, v3, v4, hv2, hf⟩ := zc_3 hf
    refine zx_Vi (pc := 14) (wc := [zo_X5 a_o a_tape f_o_length f_o_start f_o_end f_o_kind f_o_value (.ref a_c) f_o_inMay f_o_fault f_o_place]) (wr := []) (w1 := [zo_X5 a_o a_tape f_o_length f_o_start f_o_end f_o_kind f_o_value (.ref a_c) f_o_inMay v3 v4]) (As := [.int v1]) (rest := []) ⟨hx, hb, hml, hown, ht⟩ (zt_X5_findFault l dC dI dA adK adV _ a_o a_tape a_c f_o_length f_o_start f_o_end f_o_kind f_o_value f_o_inMay f_o_fault f_o_place v1 v2 v3 v4 hv2) (cwV 1 ht (zq_V zq_333 zq_334 zq_335 zq_303 zq_331) rfl rfl rfl zk_X5_findFault ⟨Nat.le_of_ble_eq_true rfl, Nat.le_of_ble_eq_true rfl⟩) rfl rfl hZ hK hP hD hS hA [0] [] (by decide) (by decide) (by decide) rfl rfl rfl hl.1 (Nat.le_of_ble_eq_true rfl) dX5_refuse_14 ⟨Nat.zero_le _, Nat.zero_le _⟩ rfl (fun H locs hP hD hS => ?_)
    have hP : va_P (dC, dI) zz_cls [zo_X5 a_o a_tape f_o_length f_o_start f_o_end f_o_kind f_o_value (.ref a_c) f_o_inMay v3 v4] H := hP
    have hD : va_D A [zo_X5 a_o a_tape f_o_length f_o_start f_o_end f_o_kind f_o_value (.ref a_c) f_o_inMay v3 v4] := hD
    obtain ⟨v5, hv5, hf⟩ := zc_1 hf
    obtain ⟨ev5, nv5⟩ := za_zbs hv5
    refine zw_top (congrArg some ev5) ?_
    obtain ⟨rfl, rfl, rfl⟩ := zi_3 hf
    exact W.zret (pc := 17) hx hb hr nv5 (fun t ht hW => ⟨⟨_, (), rfl, rfl, zz_Bi (by rw [ht]; exact hP) (va_K.moved hW.alike hK) (hD)⟩, hS.F ht⟩) hS.2.2 dX5_refuse_17
  · clear hf
    have hf := hj
    clear hj
    refine lv_icmp_ne (tgt := 13) (pc := 6) hx hb dX5_refuse_6 rfl (fun hc => ?_) (fun hc => ?_)
    · have hf := za_f hf hc
      refine lv_iconst (v := (2 : Int32)) (pc := 13) hx hb dX5_refuse_13 (by decide) ?_
      obtain rfl := Option.some.inj hf
      exact J14 _ _ _ ⟨lv_sub hl [] rfl, hP, hD, hS⟩
    · have hf := za_t hf hc
      refine lv_iconst (v := (1 : Int32)) (pc := 9) hx hb dX5_refuse_9 (by decide) ?_
      refine lv_goto (tgt := 14) (pc := 10) hx hb dX5_refuse_10 rfl ?_
      obtain rfl := Option.some.inj hf
      exact J14 _ _ _ ⟨lv_sub hl [] rfl, hP, hD, hS⟩

def zf_X6_wantNothing (n : Nat) (f_o_length : Int32) (b_o_wanted : (Nat → Int32)) (p1 : Int32) : Option (Int32 × (Nat → Int32)) :=
  zd_1 (some ((if (10 : Int32) < p1 then (10 : Int32) else p1))) (fun v1 =>
  zd_1 (zf_J7_fill_53178 n 10 b_o_wanted (-1 : Int32)) (fun a2 =>
  some (v1, a2)))
theorem zk_X6_wantNothing : yX6_wantNothing.cls = RX6 ∧ yX6_wantNothing.cls ≠ "java/lang/invoke/MethodHandle" ∧ yX6_wantNothing.cls ≠ "java/lang/invoke/VarHandle" ∧ (parseMethodDescriptor yX6_wantNothing.desc).map (fun d => d.parameters.length) = some 1 := by decide +kernel
set_option maxHeartbeats 4000000 in
set_option maxRecDepth 100000 in
theorem zt_X6_wantNothing (l : Launch) (dC : Nat → ClassId) (dI : Nat → Nat → Nat) (dA : Nat → ClassId) (adK adV : Nat → Nat) (sz : Nat) (a_o : Nat) (a_m : Nat) (a_g : Nat) (a_o_wanted : Nat) (a_k1 : Nat) (a_k2 : Nat) (a_lv : Nat) (n : Nat) (f_o_length : Int32) (b_o_wanted : (Nat → Int32)) (p1 : Int32) (o1 : Int32) (o2 : (Nat → Int32)) (hf : zf_X6_wantNothing n f_o_length b_o_wanted p1 = some (o1, o2)) : Met l yX6_wantNothing (.code yX6_wantNothing cX6_wantNothing 2 none :: zq_T) ({ frames := 1, cells := 0, slots := 0, locals := 48 }) (va_Pc [.ref a_o, .int p1] (zx_M dC dI dA adK adV [zo_X6 a_o a_m a_g a_o_wanted a_k1 a_k2 a_lv f_o_length, (a_o_wanted, .inl (dA 0, 10, .inl b_o_wanted))] sz)) (va_Qv (fun _ : Unit => True) (fun _ t => zz_B dC dI dA (va_A [zo_X6 a_o a_m a_g a_o_wanted a_k1 a_k2 a_lv f_o_length, (a_o_wanted, .inl (dA 0, 10, .inl b_o_wanted))] sz) [zo_X6 a_o a_m a_g a_o_wanted a_k1 a_k2 a_lv o1, (a_o_wanted, .inl (dA 0, 10, .inl o2))] t) (va_A [zo_X6 a_o a_m a_g a_o_wanted a_k1 a_k2 a_lv f_o_length, (a_o_wanted, .inl (dA 0, 10, .inl b_o_wanted))] sz)) 0 0 (va_A [zo_X6 a_o a_m a_g a_o_wanted a_k1 a_k2 a_lv f_o_length, (a_o_wanted, .inl (dA 0, 10, .inl b_o_wanted))] sz) := by
  unfold zf_X6_wantNothing at hf
  refine Met.ofW (cc := cX6_wantNothing) (maxL := 2) (ret := none) (by decide) rfl ?_
  intro p e s m args below meth c s₁ B hml hv
  obtain ⟨rfl, ⟨hsz, hP, hK, hD0⟩, hZ⟩ := hv
  have hx := B.exec
  have hb := B.bytes
  have hr := B.returns
  have ht : ∀ w ∈ zq_T, w.before ([.ref a_o, .int p1] : List Value).toArray s = true := fun w hw => atoms_spec (ws := .code yX6_wantNothing cX6_wantNothing 2 none :: zq_T) B.pre w (List.mem_cons_of_mem _ hw)
  have hown : s.vm.findClass RX6 = some m.cls := findClass_of_methodNamed B.named
  have hlocks := B.notSynchronized
  subst hsz
  have hD := hD0.self (sz := s.heap.size)
  generalize hAe : va_A [zo_X6 a_o a_m a_g a_o_wanted a_k1 a_k2 a_lv f_o_length, (a_o_wanted, .inl (dA 0, 10, .inl b_o_wanted))] s.heap.size = A at hD hZ ⊢
  have hA : ∀ q : Nat, s.heap.size ≤ q → A q := fun q h => by rw [← hAe]; exact Or.inr h
  clear hAe hD0
  have hS : va_S A s.heap s.heap [] := va_S.rf
  have hl := lv_entry ([.ref a_o, .int p1]) (n := 2) (Nat.le_of_ble_eq_true rfl)
  rw [lg_entry_eq]
  generalize (lg_sl ([.ref a_o, .int p1]) ++ List.replicate (2 - (lg_sl ([.ref a_o, .int p1])).length) Slot.unset).toArray = ls at hl ⊢
  have hl : lv_has ls 2 [(0, .ref a_o), (1, .int p1)] := hl
  refine lv_aload_n (pc := 0) hx hb dX6_wantNothing_0 rfl (lv_at hl 0 rfl) ?_
  refine lv_iload_n (pc := 1) hx hb dX6_wantNothing_1 rfl (lv_at hl 1 rfl) ?_
  refine lv_bipush (v := (10 : Int32)) (pc := 2) hx hb dX6_wantNothing_2 (by decide) ?_
  refine va_mmin (pc := 4) hx hb (hml.trans hl.1.symm) hown (ht _ zq_461) (ht _ zq_91) (ht _ zq_92) (ht _ zq_93) (Nat.le_of_ble_eq_true rfl) (Nat.le_of_ble_eq_true rfl) (Nat.zero_le _) (Nat.zero_le _) dX6_wantNothing_4 ?_
  obtain ⟨v1, hv1, hf⟩ := zc_1 hf
  refine zw_top (hv1) ?_
  refine va_put (pc := 7) (D := (dC, dI)) (ci := 7) (v := .int v1) (ty := .int) (C := RX6) (T := TX6) (N := 7) hx hb ht zq_layX6 tyX6 tyX6_ok nmX6 hown hK hP hD hS 0 rfl rfl 6 (by decide) (ht _ zq_454) (fun _ h9 => h9) rfl (by decide +kernel) rfl rfl (Nat.le_of_ble_eq_true rfl) dX6_wantNothing_7 (fun H locs hP hD hS => ?_)
  have hP : va_P (dC, dI) zz_cls [zo_X6 a_o a_m a_g a_o_wanted a_k1 a_k2 a_lv v1, (a_o_wanted, .inl (dA 0, 10, .inl b_o_wanted))] H := hP
  have hD : va_D A [zo_X6 a_o a_m a_g a_o_wanted a_k1 a_k2 a_lv v1, (a_o_wanted, .inl (dA 0, 10, .inl b_o_wanted))] := hD
  refine lv_aload_n (pc := 10) hx hb dX6_wantNothing_10 rfl (lv_at hl 0 rfl) ?_
  refine va_get (pc := 11) (D := (dC, dI)) (ci := 7) (v := .ref a_o_wanted) (C := RX6) (T := TX6) (N := 7) hx hb ht zq_layX6 hown hK hP 0 rfl rfl 2 (by decide) (ht _ zq_453) (fun _ h9 => h9) rfl dX6_wantNothing_11 ?_
  refine lv_iconst (v := (-1 : Int32)) (pc := 14) hx hb dX6_wantNothing_14 (by decide) ?_
  obtain ⟨a2, ha2, hf⟩ := zc_1 hf
  refine zy_Tv (pc := 15) (wc := [(a_o_wanted, .inl (dA 0, 10, .inl b_o_wanted))]) (wr := [zo_X6 a_o a_m a_g a_o_wanted a_k1 a_k2 a_lv v1]) (w1 := [(a_o_wanted, .inl (dA 0, 10, .inl a2))]) (As := [.ref a_o_wanted, .int (-1 : Int32)]) (rest := []) ⟨hx, hb, hml, hown, ht⟩ (zt_J7_fill_53178 l dC dI dA adK adV _ a_o_wanted 10 n b_o_wanted (-1 : Int32) a2 ha2) (va_cwS 2 ht (zq_X zq_462 zq_24 zq_25 zq_26) rfl rfl rfl zk_J7_fill_53178.2 ⟨Nat.le_of_ble_eq_true rfl, Nat.le_of_ble_eq_true rfl⟩) hK hP hD hS hA [1] [0] (by decide) (by decide) (by decide) rfl rfl rfl hl.1 (Nat.le_of_ble_eq_true rfl) dX6_wantNothing_15 ⟨Nat.zero_le _, Nat.zero_le _⟩ rfl (fun H locs hP hD hS => ?_)
  have hP : va_P (dC, dI) zz_cls [zo_X6 a_o a_m a_g a_o_wanted a_k1 a_k2 a_lv v1, (a_o_wanted, .inl (dA 0, 10, .inl a2))] H := hP
  have hD : va_D A [zo_X6 a_o a_m a_g a_o_wanted a_k1 a_k2 a_lv v1, (a_o_wanted, .inl (dA 0, 10, .inl a2))] := hD
  obtain ⟨rfl, rfl⟩ := zi_2 hf
  exact W.vret (pc := 18) hx hb hr (fun t ht hW => ⟨⟨(), rfl, trivial, zz_Bi (by rw [ht]; exact hP) (va_K.moved hW.alike hK) (hD)⟩, hS.F ht⟩) hS.2.2 dX6_wantNothing_18

def zb_X6_want_15 (v1 : Int32) (b_q0_numbers : (Nat → Int64)) (v2 : Int32) (a3 : (Nat → Int32)) : Option (Nat × Int32 × (Nat → Int32)) :=
  if v1 ≤ v2 then
    some (1, v2, a3)
  else
    zd_1 (za_ld b_q0_numbers 40 v2) (fun v4 =>
    zd_1 (za_st a3 10 v2 (Int64.toInt32 v4)) (fun a5 =>
    zd_1 (some (v2 + (1 : Int32))) (fun v6 =>
    some (0, v6, a5))))
def zf_X6_want (n : Nat) (f_o_length : Int32) (b_o_wanted : (Nat → Int32)) (f_q0_size : Int32) (b_q0_numbers : (Nat → Int64)) : Option (Int32 × (Nat → Int32)) :=
  zd_1 (some ((if (10 : Int32) < f_q0_size then (10 : Int32) else f_q0_size))) (fun v1 =>
  zd_3 (za_it (fun v => zb_X6_want_15 v1 b_q0_numbers v.1 v.2) n ((0 : Int32), b_o_wanted)) (fun g9 v7 a8 =>
  some (v1, a8)))
theorem zk_X6_want : yX6_want.cls = RX6 ∧ yX6_want.cls ≠ "java/lang/invoke/MethodHandle" ∧ yX6_want.cls ≠ "java/lang/invoke/VarHandle" ∧ (parseMethodDescriptor yX6_want.desc).map (fun d => d.parameters.length) = some 1 := by decide +kernel
set_option maxHeartbeats 4000000 in
set_option maxRecDepth 100000 in
theorem zt_X6_want (l : Launch) (dC : Nat → ClassId) (dI : Nat → Nat → Nat) (dA : Nat → ClassId) (adK adV : Nat → Nat) (sz : Nat) (a_o : Nat) (a_m : Nat) (a_g : Nat) (a_o_wanted : Nat) (a_k1 : Nat) (a_k2 : Nat) (a_lv : Nat) (a_q0 : Nat) (a_q0_numbers : Nat) (n : Nat) (f_o_length : Int32) (f_q0_missing : Int32) (f_q0_size : Int32) (f_q0_sort : Int32) (b_o_wanted : (Nat → Int32)) (b_q0_numbers : (Nat → Int64)) (o1 : Int32) (o2 : (Nat → Int32)) (hf : zf_X6_want n f_o_length b_o_wanted f_q0_size b_q0_numbers = some (o1, o2)) : Met l yX6_want (.code yX6_want cX6_want 3 none :: zq_T) ({ frames := 1, cells := 0, slots := 0, locals := 48 }) (va_Pc [.ref a_o, .ref a_q0] (zx_M dC dI dA adK adV [zo_X6 a_o a_m a_g a_o_wanted a_k1 a_k2 a_lv f_o_length, (a_o_wanted, .inl (dA 0, 10, .inl b_o_wanted)), zo_X9 a_q0 f_q0_missing a_q0_numbers f_q0_size f_q0_sort, (a_q0_numbers, .inl (dA 1, 40, .inr (.inl b_q0_numbers)))] sz)) (va_Qv (fun _ : Unit => True) (fun _ t => zz_B dC dI dA (va_A [zo_X6 a_o a_m a_g a_o_wanted a_k1 a_k2 a_lv f_o_length, (a_o_wanted, .inl (dA 0, 10, .inl b_o_wanted)), zo_X9 a_q0 f_q0_missing a_q0_numbers f_q0_size f_q0_sort, (a_q0_numbers, .inl (dA 1, 40, .inr (.inl b_q0_numbers)))] sz) [zo_X6 a_o a_m a_g a_o_wanted a_k1 a_k2 a_lv o1, (a_o_wanted, .inl (dA 0, 10, .inl o2)), zo_X9 a_q0 f_q0_missing a_q0_numbers f_q0_size f_q0_sort, (a_q0_numbers, .inl (dA 1, 40, .inr (.inl b_q0_numbers)))] t) (va_A [zo_X6 a_o a_m a_g a_o_wanted a_k1 a_k2 a_lv f_o_length, (a_o_wanted, .inl (dA 0, 10, .inl b_o_wanted)), zo_X9 a_q0 f_q0_missing a_q0_numbers f_q0_size f_q0_sort, (a_q0_numbers, .inl (dA 1, 40, .inr (.inl b_q0_numbers)))] sz)) 0 0 (va_A [zo_X6 a_o a_m a_g a_o_wanted a_k1 a_k2 a_lv f_o_length, (a_o_wanted, .inl (dA 0, 10, .inl b_o_wanted)), zo_X9 a_q0 f_q0_missing a_q0_numbers f_q0_size f_q0_sort, (a_q0_numbers, .inl (dA 1, 40, .inr (.inl b_q0_numbers)))] sz) := by
  unfold zf_X6_want at hf
  refine Met.ofW (cc := cX6_want) (maxL := 3) (ret := none) (by decide) rfl ?_
  intro p e s m args below meth c s₁ B hml hv
  obtain ⟨rfl, ⟨hsz, hP, hK, hD0⟩, hZ⟩ := hv
  have hx := B.exec
  have hb := B.bytes
  have hr := B.returns
  have ht : ∀ w ∈ zq_T, w.before ([.ref a_o, .ref a_q0] : List Value).toArray s = true := fun w hw => atoms_spec (ws := .code yX6_want cX6_want 3 none :: zq_T) B.pre w (List.mem_cons_of_mem _ hw)
  have hown : s.vm.findClass RX6 = some m.cls := findClass_of_methodNamed B.named
  have hlocks := B.notSynchronized
  subst hsz
  have hD := hD0.self (sz := s.heap.size)
  generalize hAe : va_A [zo_X6 a_o a_m a_g a_o_wanted a_k1 a_k2 a_lv f_o_length, (a_o_wanted, .inl (dA 0, 10, .inl b_o_wanted)), zo_X9 a_q0 f_q0_missing a_q0_numbers f_q0_size f_q0_sort, (a_q0_numbers, .inl (dA 1, 40, .inr (.inl b_q0_numbers)))] s.heap.size = A at hD hZ ⊢
  have hA : ∀ q : Nat, s.heap.size ≤ q → A q := fun q h => by rw [← hAe]; exact Or.inr h
  clear hAe hD0
  have hS : va_S A s.heap s.heap [] := va_S.rf
  have hl := lv_entry ([.ref a_o, .ref a_q0]) (n := 3) (Nat.le_of_ble_eq_true rfl)
  rw [lg_entry_eq]
  generalize (lg_sl ([.ref a_o, .ref a_q0]) ++ List.replicate (3 - (lg_sl ([.ref a_o, .ref a_q0])).length) Slot.unset).toArray = ls at hl ⊢
  have hl : lv_has ls 3 [(0, .ref a_o), (1, .ref a_q0)] := hl
  refine lv_aload_n (pc := 0) hx hb dX6_want_0 rfl (lv_at hl 0 rfl) ?_
  refine lv_aload_n (pc := 1) hx hb dX6_want_1 rfl (lv_at hl 1 rfl) ?_
  refine va_get (pc := 2) (D := (dC, dI)) (ci := 10) (v := .int f_q0_size) (C := RX9) (T := TX9) (N := 4) hx hb ht zq_layX9 hown hK hP 2 rfl rfl 2 (by decide) (ht _ zq_464) (fun _ h9 => h9) rfl dX6_want_2 ?_
  refine lv_bipush (v := (10 : Int32)) (pc := 5) hx hb dX6_want_5 (by decide) ?_
  refine va_mmin (pc := 7) hx hb (hml.trans hl.1.symm) hown (ht _ zq_461) (ht _ zq_91) (ht _ zq_92) (ht _ zq_93) (Nat.le_of_ble_eq_true rfl) (Nat.le_of_ble_eq_true rfl) (Nat.zero_le _) (Nat.zero_le _) dX6_want_7 ?_
  obtain ⟨v1, hv1, hf⟩ := zc_1 hf
  refine zw_top (hv1) ?_
  refine va_put (pc := 10) (D := (dC, dI)) (ci := 7) (v := .int v1) (ty := .int) (C := RX6) (T := TX6) (N := 7) hx hb ht zq_layX6 tyX6 tyX6_ok nmX6 hown hK hP hD hS 0 rfl rfl 6 (by decide) (ht _ zq_454) (fun _ h9 => h9) rfl (by decide +kernel) rfl rfl (Nat.le_of_ble_eq_true rfl) dX6_want_10 (fun H locs hP hD hS => ?_)
  have hP : va_P (dC, dI) zz_cls [zo_X6 a_o a_m a_g a_o_wanted a_k1 a_k2 a_lv v1, (a_o_wanted, .inl (dA 0, 10, .inl b_o_wanted)), zo_X9 a_q0 f_q0_missing a_q0_numbers f_q0_size f_q0_sort, (a_q0_numbers, .inl (dA 1, 40, .inr (.inl b_q0_numbers)))] H := hP
  have hD : va_D A [zo_X6 a_o a_m a_g a_o_wanted a_k1 a_k2 a_lv v1, (a_o_wanted, .inl (dA 0, 10, .inl b_o_wanted)), zo_X9 a_q0 f_q0_missing a_q0_numbers f_q0_size f_q0_sort, (a_q0_numbers, .inl (dA 1, 40, .inr (.inl b_q0_numbers)))] := hD
  refine lv_iconst (v := (0 : Int32)) (pc := 13) hx hb dX6_want_13 (by decide) ?_
  refine lv_istore_n (lv' := [(2, .int (0 : Int32)), (0, .ref a_o), (1, .ref a_q0)]) (pc := 14) hx hb dX6_want_14 rfl hl (by decide) rfl (fun ls hl => ?_)
  obtain ⟨g9, v7, a8, hj, hf⟩ := zc_3 hf
  refine zj_join (pcJ := 42) (stk := []) (X := fun H locs ls => lv_has ls 3 [] ∧ va_P (dC, dI) zz_cls [zo_X6 a_o a_m a_g a_o_wanted a_k1 a_k2 a_lv v1, (a_o_wanted, .inl (dA 0, 10, .inl a8)), zo_X9 a_q0 f_q0_missing a_q0_numbers f_q0_size f_q0_sort, (a_q0_numbers, .inl (dA 1, 40, .inr (.inl b_q0_numbers)))] H ∧ va_D A [zo_X6 a_o a_m a_g a_o_wanted a_k1 a_k2 a_lv v1, (a_o_wanted, .inl (dA 0, 10, .inl a8)), zo_X9 a_q0 f_q0_missing a_q0_numbers f_q0_size f_q0_sort, (a_q0_numbers, .inl (dA 1, 40, .inr (.inl b_q0_numbers)))] ∧ va_S A s.heap H locs) (fun H locs ls hX => ?_) (fun E42 => ?_)
  · obtain ⟨hl, hP, hD, hS⟩ := hX
    clear hj
    obtain ⟨rfl, rfl⟩ := zi_2 hf
    exact W.vret (pc := 42) hx hb hr (fun t ht hW => ⟨⟨(), rfl, trivial, zz_Bi (by rw [ht]; exact hP) (va_K.moved hW.alike hK) (hD)⟩, hS.F ht⟩) hS.2.2 dX6_want_42
  clear hf
  refine zw_loop (pcH := 15) (X := fun v H locs ls => lv_has ls 3 [(0, .ref a_o), (1, .ref a_q0), (2, .int v.1)] ∧ va_P (dC, dI) zz_cls [zo_X6 a_o a_m a_g a_o_wanted a_k1 a_k2 a_lv v1, (a_o_wanted, .inl (dA 0, 10, .inl v.2)), zo_X9 a_q0 f_q0_missing a_q0_numbers f_q0_size f_q0_sort, (a_q0_numbers, .inl (dA 1, 40, .inr (.inl b_q0_numbers)))] H ∧ va_D A [zo_X6 a_o a_m a_g a_o_wanted a_k1 a_k2 a_lv v1, (a_o_wanted, .inl (dA 0, 10, .inl v.2)), zo_X9 a_q0 f_q0_missing a_q0_numbers f_q0_size f_q0_sort, (a_q0_numbers, .inl (dA 1, 40, .inr (.inl b_q0_numbers)))] ∧ va_S A s.heap H locs) hj (fun v w hf ih ex H locs ls hX => ?_) _ _ _ ⟨lv_sub hl [1, 2, 0] rfl, hP, hD, hS⟩
  clear hj
  obtain ⟨v2, a3⟩ := v
  obtain ⟨hl, hP, hD, hS⟩ := hX
  have hl : lv_has ls 3 [(0, .ref a_o), (1, .ref a_q0), (2, .int v2)] := hl
  have hP : va_P (dC, dI) zz_cls [zo_X6 a_o a_m a_g a_o_wanted a_k1 a_k2 a_lv v1, (a_o_wanted, .inl (dA 0, 10, .inl a3)), zo_X9 a_q0 f_q0_missing a_q0_numbers f_q0_size f_q0_sort, (a_q0_numbers, .inl (dA 1, 40, .inr (.inl b_q0_numbers)))] H := hP
  have hD : va_D A [zo_X6 a_o a_m a_g a_o_wanted a_k1 a_k2 a_lv v1, (a_o_wanted, .inl (dA 0, 10, .inl a3)), zo_X9 a_q0 f_q0_missing a_q0_numbers f_q0_size f_q0_sort, (a_q0_numbers, .inl (dA 1, 40, .inr (.inl b_q0_numbers)))] := hD
  replace hf : zb_X6_want_15 v1 b_q0_numbers v2 a3 = some w := hf
  unfold zb_X6_want_15 at hf
  refine lv_iload_n (pc := 15) hx hb dX6_want_15 rfl (lv_at hl 2 rfl) ?_
  refine lv_aload_n (pc := 16) hx hb dX6_want_16 rfl (lv_at hl 0 rfl) ?_
  refine va_get (pc := 17) (D := (dC, dI)) (ci := 7) (v := .int v1) (C := RX6) (T := TX6) (N := 7) hx hb ht zq_layX6 hown hK hP 0 rfl rfl 6 (by decide) (ht _ zq_454) (fun _ h9 => h9) rfl dX6_want_17 ?_
  refine lv_icmp_ge (tgt := 42) (pc := 20) hx hb dX6_want_20 rfl (fun hc => ?_) (fun hc => ?_)
  · have hf := za_t hf hc
    obtain rfl := Option.some.inj hf
    obtain ⟨rfl, rfl, rfl⟩ := zp_3 (ex (show ¬ (1 : Nat) = 0 by decide))
    exact E42 _ _ _ ⟨lv_sub hl [] rfl, hP, hD, hS⟩
  · have hf := za_f hf hc
    refine lv_aload_n (pc := 23) hx hb dX6_want_23 rfl (lv_at hl 0 rfl) ?_
    refine va_get (pc := 24) (D := (dC, dI)) (ci := 7) (v := .ref a_o_wanted) (C := RX6) (T := TX6) (N := 7) hx hb ht zq_layX6 hown hK hP 0 rfl rfl 2 (by decide) (ht _ zq_453) (fun _ h9 => h9) rfl dX6_want_24 ?_
    refine lv_iload_n (pc := 27) hx hb dX6_want_27 rfl (lv_at hl 2 rfl) ?_
    refine lv_aload_n (pc := 28) hx hb dX6_want_28 rfl (lv_at hl 1 rfl) ?_
    refine va_get (pc := 29) (D := (dC, dI)) (ci := 10) (v := .ref a_q0_numbers) (C := RX9) (T := TX9) (N := 4) hx hb ht zq_layX9 hown hK hP 2 rfl rfl 1 (by decide) (ht _ zq_465) (fun _ h9 => h9) rfl dX6_want_29 ?_
    refine lv_iload_n (pc := 32) hx hb dX6_want_32 rfl (lv_at hl 2 rfl) ?_
    obtain ⟨v4, hv4, hf⟩ := zc_1 hf
    refine zw_lald (pc := 33) hx hb hK hP 3 1 rfl rfl hv4 dX6_want_33 ?_
    refine lv_l2i (pc := 34) hx hb dX6_want_34 rfl ?_
    obtain ⟨a5, ha5, hf⟩ := zc_1 hf
    refine zw_iast (pc := 35) hx hb hK hP hD hS 1 0 rfl rfl ha5 dX6_want_35 (fun H locs hP hD hS => ?_)
    have hP : va_P (dC, dI) zz_cls [zo_X6 a_o a_m a_g a_o_wanted a_k1 a_k2 a_lv v1, (a_o_wanted, .inl (dA 0, 10, .inl a5)), zo_X9 a_q0 f_q0_missing a_q0_numbers f_q0_size f_q0_sort, (a_q0_numbers, .inl (dA 1, 40, .inr (.inl b_q0_numbers)))] H := hP
    have hD : va_D A [zo_X6 a_o a_m a_g a_o_wanted a_k1 a_k2 a_lv v1, (a_o_wanted, .inl (dA 0, 10, .inl a5)), zo_X9 a_q0 f_q0_missing a_q0_numbers f_q0_size f_q0_sort, (a_q0_numbers, .inl (dA 1, 40, .inr (.inl b_q0_numbers)))] := hD
    obtain ⟨v6, hv6, hf⟩ := zc_1 hf
    refine lv_iinc (v := v6) (lv' := [(2, .int v6), (0, .ref a_o), (1, .ref a_q0)]) (k := 2) (pc := 36) hx hb dX6_want_36 hl rfl (Option.some.inj hv6) (by decide) rfl (fun ls hl => ?_)
    refine lv_goto (tgt := 15) (pc := 39) hx hb dX6_want_39 rfl ?_
    obtain rfl := Option.some.inj hf
    exact ih rfl _ _ _ ⟨lv_sub hl [1, 2, 0] rfl, hP, hD, hS⟩

def zf_X6_isWanted (b_o_wanted : (Nat → Int32)) (p1 : Int32) (p2 : Int32) : Option (Int32) :=
  zd_1 (za_ld b_o_wanted 10 (p2 - (1 : Int32))) (fun v1 =>
  if v1 = (-1 : Int32) then
    some (1 : Int32)
  else
    zd_1 (za_ld b_o_wanted 10 (p2 - (1 : Int32))) (fun v2 =>
    if v2 = p1 then
      some (1 : Int32)
    else
      some (0 : Int32)))
theorem zk_X6_isWanted : yX6_isWanted.cls = RX6 ∧ yX6_isWanted.cls ≠ "java/lang/invoke/MethodHandle" ∧ yX6_isWanted.cls ≠ "java/lang/invoke/VarHandle" ∧ (parseMethodDescriptor yX6_isWanted.desc).map (fun d => d.parameters.length) = some 2 := by decide +kernel
set_option maxHeartbeats 4000000 in
set_option maxRecDepth 100000 in
theorem zt_X6_isWanted (l : Launch) (dC : Nat → ClassId) (dI : Nat → Nat → Nat) (dA : Nat → ClassId) (adK adV : Nat → Nat) (sz : Nat) (a_o : Nat) (a_m : Nat) (a_g : Nat) (a_o_wanted : Nat) (a_k1 : Nat) (a_k2 : Nat) (a_lv : Nat) (f_o_length : Int32) (b_o_wanted : (Nat → Int32)) (p1 : Int32) (p2 : Int32) (r0 : Int32) (hf : zf_X6_isWanted b_o_wanted p1 p2 = some r0) : Met l yX6_isWanted (.code yX6_isWanted cX6_isWanted 3 (some .boolean) :: zq_T) ({ frames := 0, cells := 0, slots := 0, locals := 0 }) (va_Pc [.ref a_o, .int p1, .int p2] (zx_M dC dI dA adK adV [zo_X6 a_o a_m a_g a_o_wanted a_k1 a_k2 a_lv f_o_length, (a_o_wanted, .inl (dA 0, 10, .inl b_o_wanted))] sz)) (va_Qi (fun (r : Int32) (_ : Unit) => r = r0) (fun _ t => zz_B dC dI dA (va_A [zo_X6 a_o a_m a_g a_o_wanted a_k1 a_k2 a_lv f_o_length, (a_o_wanted, .inl (dA 0, 10, .inl b_o_wanted))] sz) [zo_X6 a_o a_m a_g a_o_wanted a_k1 a_k2 a_lv f_o_length, (a_o_wanted, .inl (dA 0, 10, .inl b_o_wanted))] t) (va_A [zo_X6 a_o a_m a_g a_o_wanted a_k1 a_k2 a_lv f_o_length, (a_o_wanted, .inl (dA 0, 10, .inl b_o_wanted))] sz)) 0 0 (va_A [zo_X6 a_o a_m a_g a_o_wanted a_k1 a_k2 a_lv f_o_length, (a_o_wanted, .inl (dA 0, 10, .inl b_o_wanted))] sz) := by
  unfold zf_X6_isWanted at hf
  refine Met.ofW (cc := cX6_isWanted) (maxL := 3) (ret := (some .boolean)) (by decide) rfl ?_
  intro p e s m args below meth c s₁ B hml hv
  obtain ⟨rfl, ⟨hsz, hP, hK, hD0⟩, hZ⟩ := hv
  have hx := B.exec
  have hb := B.bytes
  have hr := B.returns
  have ht : ∀ w ∈ zq_T, w.before ([.ref a_o, .int p1, .int p2] : List Value).toArray s = true := fun w hw => atoms_spec (ws := .code yX6_isWanted cX6_isWanted 3 (some .boolean) :: zq_T) B.pre w (List.mem_cons_of_mem _ hw)
  have hown : s.vm.findClass RX6 = some m.cls := findClass_of_methodNamed B.named
  have hlocks := B.notSynchronized
  subst hsz
  have hD := hD0.self (sz := s.heap.size)
  generalize hAe : va_A [zo_X6 a_o a_m a_g a_o_wanted a_k1 a_k2 a_lv f_o_length, (a_o_wanted, .inl (dA 0, 10, .inl b_o_wanted))] s.heap.size = A at hD hZ ⊢
  have hA : ∀ q : Nat, s.heap.size ≤ q → A q := fun q h => by rw [← hAe]; exact Or.inr h
  clear hAe hD0
  have hS : va_S A s.heap s.heap [] := va_S.rf
  have hl := lv_entry ([.ref a_o, .int p1, .int p2]) (n := 3) (Nat.le_of_ble_eq_true rfl)
  rw [lg_entry_eq]
  generalize (lg_sl ([.ref a_o, .int p1, .int p2]) ++ List.replicate (3 - (lg_sl ([.ref a_o, .int p1, .int p2])).length) Slot.unset).toArray = ls at hl ⊢
  have hl : lv_has ls 3 [(0, .ref a_o), (1, .int p1), (2, .int p2)] := hl
  refine lv_aload_n (pc := 0) hx hb dX6_isWanted_0 rfl (lv_at hl 0 rfl) ?_
  refine va_get (pc := 1) (D := (dC, dI)) (ci := 7) (v := .ref a_o_wanted) (C := RX6) (T := TX6) (N := 7) hx hb ht zq_layX6 hown hK hP 0 rfl rfl 2 (by decide) (ht _ zq_453) (fun _ h9 => h9) rfl dX6_isWanted_1 ?_
  refine lv_iload_n (pc := 4) hx hb dX6_isWanted_4 rfl (lv_at hl 2 rfl) ?_
  refine lv_iconst (v := (1 : Int32)) (pc := 5) hx hb dX6_isWanted_5 (by decide) ?_
  refine lv_isub (pc := 6) hx hb dX6_isWanted_6 ?_
  obtain ⟨v1, hv1, hf⟩ := zc_1 hf
  refine zw_iald (pc := 7) hx hb hK hP 1 0 rfl rfl hv1 dX6_isWanted_7 ?_
  refine lv_iconst (v := (-1 : Int32)) (pc := 8) hx hb dX6_isWanted_8 (by decide) ?_
  refine lv_icmp_eq (tgt := 24) (pc := 9) hx hb dX6_isWanted_9 rfl (fun hc => ?_) (fun hc => ?_)
  · have hf := za_t hf hc
    refine lv_iconst (v := (1 : Int32)) (pc := 24) hx hb dX6_isWanted_24 (by decide) ?_
    refine lv_goto (tgt := 29) (pc := 25) hx hb dX6_isWanted_25 rfl ?_
    obtain rfl := Option.some.inj hf
    exact W.zret (pc := 29) hx hb hr rfl (fun t ht hW => ⟨⟨_, (), rfl, rfl, zz_Bi (by rw [ht]; exact hP) (va_K.moved hW.alike hK) (hD)⟩, hS.F ht⟩) hS.2.2 dX6_isWanted_29
  · have hf := za_f hf hc
    refine lv_aload_n (pc := 12) hx hb dX6_isWanted_12 rfl (lv_at hl 0 rfl) ?_
    refine va_get (pc := 13) (D := (dC, dI)) (ci := 7) (v := .ref a_o_wanted) (C := RX6) (T := TX6) (N := 7) hx hb ht zq_layX6 hown hK hP 0 rfl rfl 2 (by decide) (ht _ zq_453) (fun _ h9 => h9) rfl dX6_isWanted_13 ?_
    refine lv_iload_n (pc := 16) hx hb dX6_isWanted_16 rfl (lv_at hl 2 rfl) ?_
    refine lv_iconst (v := (1 : Int32)) (pc := 17) hx hb dX6_isWanted_17 (by decide) ?_
    refine lv_isub (pc := 18) hx hb dX6_isWanted_18 ?_
    obtain ⟨v2, hv2, hf⟩ := zc_1 hf
    refine zw_iald (pc := 19) hx hb hK hP 1 0 rfl rfl hv2 dX6_isWanted_19 ?_
    refine lv_iload_n (pc := 20) hx hb dX6_isWanted_20 rfl (lv_at hl 1 rfl) ?_
    refine lv_icmp_ne (tgt := 28) (pc := 21) hx hb dX6_isWanted_21 rfl (fun hc => ?_) (fun hc => ?_)
    · have hf := za_f hf hc
      refine lv_iconst (v := (0 : Int32)) (pc := 28) hx hb dX6_isWanted_28 (by decide) ?_
      obtain rfl := Option.some.inj hf
      exact W.zret (pc := 29) hx hb hr rfl (fun t ht hW => ⟨⟨_, (), rfl, rfl, zz_Bi (by rw [ht]; exact hP) (va_K.moved hW.alike hK) (hD)⟩, hS.F ht⟩) hS.2.2 dX6_isWanted_29
    · have hf := za_t hf hc
      refine lv_iconst (v := (1 : Int32)) (pc := 24) hx hb dX6_isWanted_24 (by decide) ?_
      refine lv_goto (tgt := 29) (pc := 25) hx hb dX6_isWanted_25 rfl ?_
      obtain rfl := Option.some.inj hf
      exact W.zret (pc := 29) hx hb hr rfl (fun t ht hW => ⟨⟨_, (), rfl, rfl, zz_Bi (by rw [ht]; exact hP) (va_K.moved hW.alike hK) (hD)⟩, hS.F ht⟩) hS.2.2 dX6_isWanted_29

def zb_X6_within_2 (f_g_size : Int32) (b_g_order : (Nat → Int32)) (b_g_depth : (Nat → Int32)) (p1 : Int32) (v1 : Int32) : Option (Nat × Int32) :=
  if f_g_size ≤ v1 then
    some (1, v1)
  else
    zd_1 (za_ld b_g_order 2880 v1) (fun v2 =>
    zd_1 (za_ld b_g_depth 2880 v2) (fun v3 =>
    if p1 < v3 then
      some (1, v1)
    else
      zd_1 (some (v1 + (1 : Int32))) (fun v4 =>
      some (0, v4))))
def zf_X6_within (n : Nat) (f_g_size : Int32) (b_g_order : (Nat → Int32)) (b_g_depth : (Nat → Int32)) (p1 : Int32) : Option (Int32) :=
  zd_2 (za_it (fun v => zb_X6_within_2 f_g_size b_g_order b_g_depth p1 v) n (0 : Int32)) (fun g6 v5 =>
  some v5)
theorem zk_X6_within : yX6_within.cls = RX6 ∧ yX6_within.cls ≠ "java/lang/invoke/MethodHandle" ∧ yX6_within.cls ≠ "java/lang/invoke/VarHandle" ∧ (parseMethodDescriptor yX6_within.desc).map (fun d => d.parameters.length) = some 1 := by decide +kernel
set_option maxHeartbeats 4000000 in
set_option maxRecDepth 100000 in
theorem zt_X6_within (l : Launch) (dC : Nat → ClassId) (dI : Nat → Nat → Nat) (dA : Nat → ClassId) (adK adV : Nat → Nat) (sz : Nat) (a_o : Nat) (a_m : Nat) (a_g : Nat) (a_o_wanted : Nat) (a_k1 : Nat) (a_k2 : Nat) (a_lv : Nat) (a_g_order : Nat) (a_g_depth : Nat) (a_g_from : Nat) (n : Nat) (f_o_length : Int32) (f_g_size : Int32) (f_g_known : Int32) (b_g_order : (Nat → Int32)) (b_g_depth : (Nat → Int32)) (p1 : Int32) (r0 : Int32) (hf : zf_X6_within n f_g_size b_g_order b_g_depth p1 = some r0) : Met l yX6_within (.code yX6_within cX6_within 3 (some .int) :: zq_T) ({ frames := 0, cells := 0, slots := 0, locals := 0 }) (va_Pc [.ref a_o, .int p1] (zx_M dC dI dA adK adV [zo_X6 a_o a_m a_g a_o_wanted a_k1 a_k2 a_lv f_o_length, zo_X1 a_g a_m a_g_order a_g_depth a_g_from f_g_size f_g_known, (a_g_order, .inl (dA 0, 2880, .inl b_g_order)), (a_g_depth, .inl (dA 0, 2880, .inl b_g_depth))] sz)) (va_Qi (fun (r : Int32) (_ : Unit) => r = r0) (fun _ t => zz_B dC dI dA (va_A [zo_X6 a_o a_m a_g a_o_wanted a_k1 a_k2 a_lv f_o_length, zo_X1 a_g a_m a_g_order a_g_depth a_g_from f_g_size f_g_known, (a_g_order, .inl (dA 0, 2880, .inl b_g_order)), (a_g_depth, .inl (dA 0, 2880, .inl b_g_depth))] sz) [zo_X6 a_o a_m a_g a_o_wanted a_k1 a_k2 a_lv f_o_length, zo_X1 a_g a_m a_g_order a_g_depth a_g_from f_g_size f_g_known, (a_g_order, .inl (dA 0, 2880, .inl b_g_order)), (a_g_depth, .inl (dA 0, 2880, .inl b_g_depth))] t) (va_A [zo_X6 a_o a_m a_g a_o_wanted a_k1 a_k2 a_lv f_o_length, zo_X1 a_g a_m a_g_order a_g_depth a_g_from f_g_size f_g_known, (a_g_order, .inl (dA 0, 2880, .inl b_g_order)), (a_g_depth, .inl (dA 0, 2880, .inl b_g_depth))] sz)) 0 0 (va_A [zo_X6 a_o a_m a_g a_o_wanted a_k1 a_k2 a_lv f_o_length, zo_X1 a_g a_m a_g_order a_g_depth a_g_from f_g_size f_g_known, (a_g_order, .inl (dA 0, 2880, .inl b_g_order)), (a_g_depth, .inl (dA 0, 2880, .inl b_g_depth))] sz) := by
  unfold zf_X6_within at hf
  refine Met.ofW (cc := cX6_within) (maxL := 3) (ret := (some .int)) (by decide) rfl ?_
  intro p e s m args below meth c s₁ B hml hv
  obtain ⟨rfl, ⟨hsz, hP, hK, hD0⟩, hZ⟩ := hv
  have hx := B.exec
  have hb := B.bytes
  have hr := B.returns
  have ht : ∀ w ∈ zq_T, w.before ([.ref a_o, .int p1] : List Value).toArray s = true := fun w hw => atoms_spec (ws := .code yX6_within cX6_within 3 (some .int) :: zq_T) B.pre w (List.mem_cons_of_mem _ hw)
  have hown : s.vm.findClass RX6 = some m.cls := findClass_of_methodNamed B.named
  have hlocks := B.notSynchronized
  subst hsz
  have hD := hD0.self (sz := s.heap.size)
  generalize hAe : va_A [zo_X6 a_o a_m a_g a_o_wanted a_k1 a_k2 a_lv f_o_length, zo_X1 a_g a_m a_g_order a_g_depth a_g_from f_g_size f_g_known, (a_g_order, .inl (dA 0, 2880, .inl b_g_order)), (a_g_depth, .inl (dA 0, 2880, .inl b_g_depth))] s.heap.size = A at hD hZ ⊢
  have hA : ∀ q : Nat, s.heap.size ≤ q → A q := fun q h => by rw [← hAe]; exact Or.inr h
  clear hAe hD0
  have hS : va_S A s.heap s.heap [] := va_S.rf
  have hl := lv_entry ([.ref a_o, .int p1]) (n := 3) (Nat.le_of_ble_eq_true rfl)
  rw [lg_entry_eq]
  generalize (lg_sl ([.ref a_o, .int p1]) ++ List.replicate (3 - (lg_sl ([.ref a_o, .int p1])).length) Slot.unset).toArray = ls at hl ⊢
  have hl : lv_has ls 3 [(0, .ref a_o), (1, .int p1)] := hl
  refine lv_iconst (v := (0 : Int32)) (pc := 0) hx hb dX6_within_0 (by decide) ?_
  refine lv_istore_n (lv' := [(2, .int (0 : Int32)), (0, .ref a_o), (1, .int p1)]) (pc := 1) hx hb dX6_within_1 rfl hl (by decide) rfl (fun ls hl => ?_)
  obtain ⟨g6, v5, hj, hf⟩ := zc_2 hf
  refine zj_join (pcJ := 40) (stk := []) (X := fun H locs ls => lv_has ls 3 [(2, .int v5)] ∧ va_P (dC, dI) zz_cls [zo_X6 a_o a_m a_g a_o_wanted a_k1 a_k2 a_lv f_o_length, zo_X1 a_g a_m a_g_order a_g_depth a_g_from f_g_size f_g_known, (a_g_order, .inl (dA 0, 2880, .inl b_g_order)), (a_g_depth, .inl (dA 0, 2880, .inl b_g_depth))] H ∧ va_D A [zo_X6 a_o a_m a_g a_o_wanted a_k1 a_k2 a_lv f_o_length, zo_X1 a_g a_m a_g_order a_g_depth a_g_from f_g_size f_g_known, (a_g_order, .inl (dA 0, 2880, .inl b_g_order)), (a_g_depth, .inl (dA 0, 2880, .inl b_g_depth))] ∧ va_S A s.heap H locs) (fun H locs ls hX => ?_) (fun E40 => ?_)
  · obtain ⟨hl, hP, hD, hS⟩ := hX
    clear hj
    refine lv_iload_n (pc := 40) hx hb dX6_within_40 rfl (lv_at hl 0 rfl) ?_
    obtain rfl := Option.some.inj hf
    exact W.iret (pc := 41) hx hb hr (fun t ht hW => ⟨⟨_, (), rfl, rfl, zz_Bi (by rw [ht]; exact hP) (va_K.moved hW.alike hK) (hD)⟩, hS.F ht⟩) hS.2.2 dX6_within_41
  clear hf
  refine zw_loop (pcH := 2) (X := fun v H locs ls => lv_has ls 3 [(0, .ref a_o), (1, .int p1), (2, .int v)] ∧ va_P (dC, dI) zz_cls [zo_X6 a_o a_m a_g a_o_wanted a_k1 a_k2 a_lv f_o_length, zo_X1 a_g a_m a_g_order a_g_depth a_g_from f_g_size f_g_known, (a_g_order, .inl (dA 0, 2880, .inl b_g_order)), (a_g_depth, .inl (dA 0, 2880, .inl b_g_depth))] H ∧ va_D A [zo_X6 a_o a_m a_g a_o_wanted a_k1 a_k2 a_lv f_o_length, zo_X1 a_g a_m a_g_order a_g_depth a_g_from f_g_size f_g_known, (a_g_order, .inl (dA 0, 2880, .inl b_g_order)), (a_g_depth, .inl (dA 0, 2880, .inl b_g_depth))] ∧ va_S A s.heap H locs) hj (fun v w hf ih ex H locs ls hX => ?_) _ _ _ ⟨lv_sub hl [1, 2, 0] rfl, hP, hD, hS⟩
  clear hj
  generalize v = v1 at hf hX
  obtain ⟨hl, hP, hD, hS⟩ := hX
  have hl : lv_has ls 3 [(0, .ref a_o), (1, .int p1), (2, .int v1)] := hl
  have hP : va_P (dC, dI) zz_cls [zo_X6 a_o a_m a_g a_o_wanted a_k1 a_k2 a_lv f_o_length, zo_X1 a_g a_m a_g_order a_g_depth a_g_from f_g_size f_g_known, (a_g_order, .inl (dA 0, 2880, .inl b_g_order)), (a_g_depth, .inl (dA 0, 2880, .inl b_g_depth))] H := hP
  have hD : va_D A [zo_X6 a_o a_m a_g a_o_wanted a_k1 a_k2 a_lv f_o_length, zo_X1 a_g a_m a_g_order a_g_depth a_g_from f_g_size f_g_known, (a_g_order, .inl (dA 0, 2880, .inl b_g_order)), (a_g_depth, .inl (dA 0, 2880, .inl b_g_depth))] := hD
  replace hf : zb_X6_within_2 f_g_size b_g_order b_g_depth p1 v1 = some w := hf
  unfold zb_X6_within_2 at hf
  refine lv_iload_n (pc := 2) hx hb dX6_within_2 rfl (lv_at hl 2 rfl) ?_
  refine lv_aload_n (pc := 3) hx hb dX6_within_3 rfl (lv_at hl 0 rfl) ?_
  refine va_get (pc := 4) (D := (dC, dI)) (ci := 7) (v := .ref a_g) (C := RX6) (T := TX6) (N := 7) hx hb ht zq_layX6 hown hK hP 0 rfl rfl 1 (by decide) (ht _ zq_456) (fun _ h9 => h9) rfl dX6_within_4 ?_
  refine va_get (pc := 7) (D := (dC, dI)) (ci := 2) (v := .int f_g_size) (C := RX1) (T := TX1) (N := 6) hx hb ht zq_layX1 hown hK hP 1 rfl rfl 4 (by decide) (ht _ zq_467) (fun _ h9 => h9) rfl dX6_within_7 ?_
  refine lv_icmp_ge (tgt := 40) (pc := 10) hx hb dX6_within_10 rfl (fun hc => ?_) (fun hc => ?_)
  · have hf := za_t hf hc
    obtain rfl := Option.some.inj hf
    obtain ⟨rfl, rfl⟩ := zp_2 (ex (show ¬ (1 : Nat) = 0 by decide))
    exact E40 _ _ _ ⟨lv_sub hl [2] rfl, hP, hD, hS⟩
  · have hf := za_f hf hc
    refine lv_aload_n (pc := 13) hx hb dX6_within_13 rfl (lv_at hl 0 rfl) ?_
    refine va_get (pc := 14) (D := (dC, dI)) (ci := 7) (v := .ref a_g) (C := RX6) (T := TX6) (N := 7) hx hb ht zq_layX6 hown hK hP 0 rfl rfl 1 (by decide) (ht _ zq_456) (fun _ h9 => h9) rfl dX6_within_14 ?_
    refine va_get (pc := 17) (D := (dC, dI)) (ci := 2) (v := .ref a_g_depth) (C := RX1) (T := TX1) (N := 6) hx hb ht zq_layX1 hown hK hP 1 rfl rfl 2 (by decide) (ht _ zq_468) (fun _ h9 => h9) rfl dX6_within_17 ?_
    refine lv_aload_n (pc := 20) hx hb dX6_within_20 rfl (lv_at hl 0 rfl) ?_
    refine va_get (pc := 21) (D := (dC, dI)) (ci := 7) (v := .ref a_g) (C := RX6) (T := TX6) (N := 7) hx hb ht zq_layX6 hown hK hP 0 rfl rfl 1 (by decide) (ht _ zq_456) (fun _ h9 => h9) rfl dX6_within_21 ?_
    refine va_get (pc := 24) (D := (dC, dI)) (ci := 2) (v := .ref a_g_order) (C := RX1) (T := TX1) (N := 6) hx hb ht zq_layX1 hown hK hP 1 rfl rfl 1 (by decide) (ht _ zq_469) (fun _ h9 => h9) rfl dX6_within_24 ?_
    refine lv_iload_n (pc := 27) hx hb dX6_within_27 rfl (lv_at hl 2 rfl) ?_
    obtain ⟨v2, hv2, hf⟩ := zc_1 hf
    refine zw_iald (pc := 28) hx hb hK hP 2 0 rfl rfl hv2 dX6_within_28 ?_
    obtain ⟨v3, hv3, hf⟩ := zc_1 hf
    refine zw_iald (pc := 29) hx hb hK hP 3 0 rfl rfl hv3 dX6_within_29 ?_
    refine lv_iload_n (pc := 30) hx hb dX6_within_30 rfl (lv_at hl 1 rfl) ?_
    refine lv_icmp_gt (tgt := 40) (pc := 31) hx hb dX6_within_31 rfl (fun hc => ?_) (fun hc => ?_)
    · have hf := za_t hf hc
      obtain rfl := Option.some.inj hf
      obtain ⟨rfl, rfl⟩ := zp_2 (ex (show ¬ (1 : Nat) = 0 by decide))
      exact E40 _ _ _ ⟨lv_sub hl [2] rfl, hP, hD, hS⟩
    · have hf := za_f hf hc
      obtain ⟨v4, hv4, hf⟩ := zc_1 hf
      refine lv_iinc (v := v4) (lv' := [(2, .int v4), (0, .ref a_o), (1, .int p1)]) (k := 2) (pc := 34) hx hb dX6_within_34 hl rfl (Option.some.inj hv4) (by decide) rfl (fun ls hl => ?_)
      refine lv_goto (tgt := 2) (pc := 37) hx hb dX6_within_37 rfl ?_
      obtain rfl := Option.some.inj hf
      exact ih rfl _ _ _ ⟨lv_sub hl [1, 2, 0] rfl, hP, hD, hS⟩

def zb_X6_endingOn_15 (v1 : Int32) (b_g_order : (Nat → Int32)) (p1 : Int32) (p2 : Int32) (b_k1 : (Nat → Int64)) (v2 : Int64) (v3 : Int32) : Option (Nat × Int64 × Int32) :=
  if v1 ≤ v3 then
    some (1, v2, v3)
  else
    zd_1 (za_ld b_g_order 2880 v3) (fun v4 =>
    zd_1 (
      if p1 = (-1 : Int32) then
        zd_1 (zf_X10_thingsOf v4) (fun v5 =>
        if (p2 &&& (v5 ^^^ (-1 : Int32))) = 0 then
          zd_1 (za_ld b_k1 2880 v4) (fun v6 =>
          zd_1 (some ((v2 + v6))) (fun v7 =>
          some v7))
        else
          some v2)
      else
        zd_1 (zf_X10_rungOf v4) (fun v8 =>
        if v8 = p1 then
          zd_1 (zf_X10_thingsOf v4) (fun v9 =>
          if (p2 &&& (v9 ^^^ (-1 : Int32))) = 0 then
            zd_1 (za_ld b_k1 2880 v4) (fun v10 =>
            zd_1 (some ((v2 + v10))) (fun v11 =>
            some v11))
          else
            some v2)
        else
          some v2)) (fun v12 =>
    zd_1 (some (v3 + (1 : Int32))) (fun v13 =>
    some (0, v12, v13))))
def zf_X6_endingOn (n : Nat) (f_o_length : Int32) (f_g_size : Int32) (b_g_order : (Nat → Int32)) (b_g_depth : (Nat → Int32)) (b_k1 : (Nat → Int64)) (p1 : Int32) (p2 : Int32) : Option (Int64) :=
  zd_1 (zf_X6_within n f_g_size b_g_order b_g_depth f_o_length) (fun v1 =>
  zd_3 (za_it (fun v => zb_X6_endingOn_15 v1 b_g_order p1 p2 b_k1 v.1 v.2) n ((0 : Int64), (0 : Int32))) (fun g16 v14 v15 =>
  some v14))
theorem zk_X6_endingOn : yX6_endingOn.cls = RX6 ∧ yX6_endingOn.cls ≠ "java/lang/invoke/MethodHandle" ∧ yX6_endingOn.cls ≠ "java/lang/invoke/VarHandle" ∧ (parseMethodDescriptor yX6_endingOn.desc).map (fun d => d.parameters.length) = some 2 := by decide +kernel
set_option maxHeartbeats 4000000 in
set_option maxRecDepth 100000 in
theorem zt_X6_endingOn (l : Launch) (dC : Nat → ClassId) (dI : Nat → Nat → Nat) (dA : Nat → ClassId) (adK adV : Nat → Nat) (sz : Nat) (a_o : Nat) (a_m : Nat) (a_g : Nat) (a_o_wanted : Nat) (a_k1 : Nat) (a_k2 : Nat) (a_lv : Nat) (a_g_order : Nat) (a_g_depth : Nat) (a_g_from : Nat) (n : Nat) (f_o_length : Int32) (f_g_size : Int32) (f_g_known : Int32) (b_g_order : (Nat → Int32)) (b_g_depth : (Nat → Int32)) (b_k1 : (Nat → Int64)) (p1 : Int32) (p2 : Int32) (r0 : Int64) (hf : zf_X6_endingOn n f_o_length f_g_size b_g_order b_g_depth b_k1 p1 p2 = some r0) : Met l yX6_endingOn (.code yX6_endingOn cX6_endingOn 8 (some .long) :: zq_T) ({ frames := 1, cells := 0, slots := 0, locals := 22 }) (va_Pc [.ref a_o, .int p1, .int p2] (zx_M dC dI dA adK adV [zo_X6 a_o a_m a_g a_o_wanted a_k1 a_k2 a_lv f_o_length, zo_X1 a_g a_m a_g_order a_g_depth a_g_from f_g_size f_g_known, (a_g_order, .inl (dA 0, 2880, .inl b_g_order)), (a_g_depth, .inl (dA 0, 2880, .inl b_g_depth)), (a_k1, .inl (dA 1, 2880, .inr (.inl b_k1)))] sz)) (va_Ql (fun (r : Int64) (_ : Unit) => r = r0) (fun _ t => zz_B dC dI dA (va_A [zo_X6 a_o a_m a_g a_o_wanted a_k1 a_k2 a_lv f_o_length, zo_X1 a_g a_m a_g_order a_g_depth a_g_from f_g_size f_g_known, (a_g_order, .inl (dA 0, 2880, .inl b_g_order)), (a_g_depth, .inl (dA 0, 2880, .inl b_g_depth)), (a_k1, .inl (dA 1, 2880, .inr (.inl b_k1)))] sz) [zo_X6 a_o a_m a_g a_o_wanted a_k1 a_k2 a_lv f_o_length, zo_X1 a_g a_m a_g_order a_g_depth a_g_from f_g_size f_g_known, (a_g_order, .inl (dA 0, 2880, .inl b_g_order)), (a_g_depth, .inl (dA 0, 2880, .inl b_g_depth)), (a_k1, .inl (dA 1, 2880, .inr (.inl b_k1)))] t) (va_A [zo_X6 a_o a_m a_g a_o_wanted a_k1 a_k2 a_lv f_o_length, zo_X1 a_g a_m a_g_order a_g_depth a_g_from f_g_size f_g_known, (a_g_order, .inl (dA 0, 2880, .inl b_g_order)), (a_g_depth, .inl (dA 0, 2880, .inl b_g_depth)), (a_k1, .inl (dA 1, 2880, .inr (.inl b_k1)))] sz)) 0 0 (va_A [zo_X6 a_o a_m a_g a_o_wanted a_k1 a_k2 a_lv f_o_length, zo_X1 a_g a_m a_g_order a_g_depth a_g_from f_g_size f_g_known, (a_g_order, .inl (dA 0, 2880, .inl b_g_order)), (a_g_depth, .inl (dA 0, 2880, .inl b_g_depth)), (a_k1, .inl (dA 1, 2880, .inr (.inl b_k1)))] sz) := by
  unfold zf_X6_endingOn at hf
  refine Met.ofW (cc := cX6_endingOn) (maxL := 8) (ret := (some .long)) (by decide) rfl ?_
  intro p e s m args below meth c s₁ B hml hv
  obtain ⟨rfl, ⟨hsz, hP, hK, hD0⟩, hZ⟩ := hv
  have hx := B.exec
  have hb := B.bytes
  have hr := B.returns
  have ht : ∀ w ∈ zq_T, w.before ([.ref a_o, .int p1, .int p2] : List Value).toArray s = true := fun w hw => atoms_spec (ws := .code yX6_endingOn cX6_endingOn 8 (some .long) :: zq_T) B.pre w (List.mem_cons_of_mem _ hw)
  have hown : s.vm.findClass RX6 = some m.cls := findClass_of_methodNamed B.named
  have hlocks := B.notSynchronized
  subst hsz
  have hD := hD0.self (sz := s.heap.size)
  generalize hAe : va_A [zo_X6 a_o a_m a_g a_o_wanted a_k1 a_k2 a_lv f_o_length, zo_X1 a_g a_m a_g_order a_g_depth a_g_from f_g_size f_g_known, (a_g_order, .inl (dA 0, 2880, .inl b_g_order)), (a_g_depth, .inl (dA 0, 2880, .inl b_g_depth)), (a_k1, .inl (dA 1, 2880, .inr (.inl b_k1)))] s.heap.size = A at hD hZ ⊢
  have hA : ∀ q : Nat, s.heap.size ≤ q → A q := fun q h => by rw [← hAe]; exact Or.inr h
  clear hAe hD0
  have hS : va_S A s.heap s.heap [] := va_S.rf
  have hl := lv_entry ([.ref a_o, .int p1, .int p2]) (n := 8) (Nat.le_of_ble_eq_true rfl)
  rw [lg_entry_eq]
  generalize (lg_sl ([.ref a_o, .int p1, .int p2]) ++ List.replicate (8 - (lg_sl ([.ref a_o, .int p1, .int p2])).length) Slot.unset).toArray = ls at hl ⊢
  have hl : lv_has ls 8 [(0, .ref a_o), (1, .int p1), (2, .int p2)] := hl
  refine lv_lconst (v := (0 : Int64)) (pc := 0) hx hb dX6_endingOn_0 (by decide) ?_
  refine lv_lstore_n (lv' := [(3, .long (0 : Int64)), (0, .ref a_o), (1, .int p1), (2, .int p2)]) (pc := 1) hx hb dX6_endingOn_1 rfl hl (by decide) rfl (fun ls hl => ?_)
  refine lv_aload_n (pc := 2) hx hb dX6_endingOn_2 rfl (lv_at hl 1 rfl) ?_
  refine lv_aload_n (pc := 3) hx hb dX6_endingOn_3 rfl (lv_at hl 1 rfl) ?_
  refine va_get (pc := 4) (D := (dC, dI)) (ci := 7) (v := .int f_o_length) (C := RX6) (T := TX6) (N := 7) hx hb ht zq_layX6 hown hK hP 0 rfl rfl 6 (by decide) (ht _ zq_454) (fun _ h9 => h9) rfl dX6_endingOn_4 ?_
  obtain ⟨v1, hv1, hf⟩ := zc_1 hf
  refine zx_Vi (pc := 7) (wc := [zo_X6 a_o a_m a_g a_o_wanted a_k1 a_k2 a_lv f_o_length, zo_X1 a_g a_m a_g_order a_g_depth a_g_from f_g_size f_g_known, (a_g_order, .inl (dA 0, 2880, .inl b_g_order)), (a_g_depth, .inl (dA 0, 2880, .inl b_g_depth))]) (wr := [(a_k1, .inl (dA 1, 2880, .inr (.inl b_k1)))]) (w1 := [zo_X6 a_o a_m a_g a_o_wanted a_k1 a_k2 a_lv f_o_length, zo_X1 a_g a_m a_g_order a_g_depth a_g_from f_g_size f_g_known, (a_g_order, .inl (dA 0, 2880, .inl b_g_order)), (a_g_depth, .inl (dA 0, 2880, .inl b_g_depth))]) (As := [.int f_o_length]) (rest := []) ⟨hx, hb, hml, hown, ht⟩ (zt_X6_within l dC dI dA adK adV _ a_o a_m a_g a_o_wanted a_k1 a_k2 a_lv a_g_order a_g_depth a_g_from n f_o_length f_g_size f_g_known b_g_order b_g_depth f_o_length v1 hv1) (cwV 1 ht (zq_V zq_472 zq_473 zq_474 zq_475 zq_466) rfl rfl rfl zk_X6_within ⟨Nat.le_of_ble_eq_true rfl, Nat.le_of_ble_eq_true rfl⟩) rfl rfl hZ hK hP hD hS hA [0, 1, 2, 3] [4] (by decide) (by decide) (by decide) rfl rfl rfl hl.1 (Nat.le_of_ble_eq_true rfl) dX6_endingOn_7 ⟨Nat.zero_le _, Nat.zero_le _⟩ rfl (fun H locs hP hD hS => ?_)
  have hP : va_P (dC, dI) zz_cls [(a_k1, .inl (dA 1, 2880, .inr (.inl b_k1))), zo_X6 a_o a_m a_g a_o_wanted a_k1 a_k2 a_lv f_o_length, zo_X1 a_g a_m a_g_order a_g_depth a_g_from f_g_size f_g_known, (a_g_order, .inl (dA 0, 2880, .inl b_g_order)), (a_g_depth, .inl (dA 0, 2880, .inl b_g_depth))] H := hP
  have hD : va_D A [(a_k1, .inl (dA 1, 2880, .inr (.inl b_k1))), zo_X6 a_o a_m a_g a_o_wanted a_k1 a_k2 a_lv f_o_length, zo_X1 a_g a_m a_g_order a_g_depth a_g_from f_g_size f_g_known, (a_g_order, .inl (dA 0, 2880, .inl b_g_order)), (a_g_depth, .inl (dA 0, 2880, .inl b_g_depth))] := hD
  refine lv_istore (lv' := [(5, .int v1), (3, .long (0 : Int64)), (0, .ref a_o), (1, .int p1), (2, .int p2)]) (pc := 10) hx hb dX6_endingOn_10 hl (by decide) rfl (fun ls hl => ?_)
  refine lv_iconst (v := (0 : Int32)) (pc := 12) hx hb dX6_endingOn_12 (by decide) ?_
  refine lv_istore (lv' := [(6, .int (0 : Int32)), (5, .int v1), (3, .long (0 : Int64)), (0, .ref a_o), (1, .int p1), (2, .int p2)]) (pc := 13) hx hb dX6_endingOn_13 hl (by decide) rfl (fun ls hl => ?_)
  obtain ⟨g16, v14, v15, hj, hf⟩ := zc_3 hf
  refine zj_join (pcJ := 76) (stk := []) (X := fun H locs ls => lv_has ls 8 [(3, .long v14)] ∧ va_P (dC, dI) zz_cls [zo_X6 a_o a_m a_g a_o_wanted a_k1 a_k2 a_lv f_o_length, zo_X1 a_g a_m a_g_order a_g_depth a_g_from f_g_size f_g_known, (a_g_order, .inl (dA 0, 2880, .inl b_g_order)), (a_g_depth, .inl (dA 0, 2880, .inl b_g_depth)), (a_k1, .inl (dA 1, 2880, .inr (.inl b_k1)))] H ∧ va_D A [zo_X6 a_o a_m a_g a_o_wanted a_k1 a_k2 a_lv f_o_length, zo_X1 a_g a_m a_g_order a_g_depth a_g_from f_g_size f_g_known, (a_g_order, .inl (dA 0, 2880, .inl b_g_order)), (a_g_depth, .inl (dA 0, 2880, .inl b_g_depth)), (a_k1, .inl (dA 1, 2880, .inr (.inl b_k1)))] ∧ va_S A s.heap H locs) (fun H locs ls hX => ?_) (fun E76 => ?_)
  · obtain ⟨hl, hP, hD, hS⟩ := hX
    clear hj
    refine lv_lload_n (pc := 76) hx hb dX6_endingOn_76 rfl (lv_at hl 0 rfl) ?_
    obtain rfl := Option.some.inj hf
    exact W.lret (pc := 77) hx hb hr (fun t ht hW => ⟨⟨_, (), rfl, rfl, zz_Bi (by rw [ht]; exact hP) (va_K.moved hW.alike hK) (hD)⟩, hS.F ht⟩) hS.2.2 dX6_endingOn_77
  clear hf
  refine zw_loop (pcH := 15) (X := fun v H locs ls => lv_has ls 8 [(0, .ref a_o), (1, .int p1), (2, .int p2), (3, .long v.1), (5, .int v1), (6, .int v.2)] ∧ va_P (dC, dI) zz_cls [zo_X6 a_o a_m a_g a_o_wanted a_k1 a_k2 a_lv f_o_length, zo_X1 a_g a_m a_g_order a_g_depth a_g_from f_g_size f_g_known, (a_g_order, .inl (dA 0, 2880, .inl b_g_order)), (a_g_depth, .inl (dA 0, 2880, .inl b_g_depth)), (a_k1, .inl (dA 1, 2880, .inr (.inl b_k1)))] H ∧ va_D A [zo_X6 a_o a_m a_g a_o_wanted a_k1 a_k2 a_lv f_o_length, zo_X1 a_g a_m a_g_order a_g_depth a_g_from f_g_size f_g_known, (a_g_order, .inl (dA 0, 2880, .inl b_g_order)), (a_g_depth, .inl (dA 0, 2880, .inl b_g_depth)), (a_k1, .inl (dA 1, 2880, .inr (.inl b_k1)))] ∧ va_S A s.heap H locs) hj (fun v w hf ih ex H locs ls hX => ?_) _ _ _ ⟨lv_sub hl [3, 4, 5, 2, 1, 0] rfl, hP.sub [1, 2, 3, 4, 0] rfl, hD.sub [1, 2, 3, 4, 0] (by decide) rfl, hS⟩
  clear hj
  obtain ⟨v2, v3⟩ := v
  obtain ⟨hl, hP, hD, hS⟩ := hX
  have hl : lv_has ls 8 [(0, .ref a_o), (1, .int p1), (2, .int p2), (3, .long v2), (5, .int v1), (6, .int v3)] := hl
  have hP : va_P (dC, dI) zz_cls [zo_X6 a_o a_m a_g a_o_wanted a_k1 a_k2 a_lv f_o_length, zo_X1 a_g a_m a_g_order a_g_depth a_g_from f_g_size f_g_known, (a_g_order, .inl (dA 0, 2880, .inl b_g_order)), (a_g_depth, .inl (dA 0, 2880, .inl b_g_depth)), (a_k1, .inl (dA 1, 2880, .inr (.inl b_k1)))] H := hP
  have hD : va_D A [zo_X6 a_o a_m a_g a_o_wanted a_k1 a_k2 a_lv f_o_length, zo_X1 a_g a_m a_g_order a_g_depth a_g_from f_g_size f_g_known, (a_g_order, .inl (dA 0, 2880, .inl b_g_order)), (a_g_depth, .inl (dA 0, 2880, .inl b_g_depth)), (a_k1, .inl (dA 1, 2880, .inr (.inl b_k1)))] := hD
  replace hf : zb_X6_endingOn_15 v1 b_g_order p1 p2 b_k1 v2 v3 = some w := hf
  unfold zb_X6_endingOn_15 at hf
  refine lv_iload (pc := 15) hx hb dX6_endingOn_15 (lv_at hl 5 rfl) ?_
  refine lv_iload (pc := 17) hx hb dX6_endingOn_17 (lv_at hl 4 rfl) ?_
  refine lv_icmp_ge (tgt := 76) (pc := 19) hx hb dX6_endingOn_19 rfl (fun hc => ?_) (fun hc => ?_)
  · have hf := za_t hf hc
    obtain rfl := Option.some.inj hf
    obtain ⟨rfl, rfl, rfl⟩ := zp_3 (ex (show ¬ (1 : Nat) = 0 by decide))
    exact E76 _ _ _ ⟨lv_sub hl [3] rfl, hP, hD, hS⟩
  · have hf := za_f hf hc
    refine lv_aload_n (pc := 22) hx hb dX6_endingOn_22 rfl (lv_at hl 0 rfl) ?_
    refine va_get (pc := 23) (D := (dC, dI)) (ci := 7) (v := .ref a_g) (C := RX6) (T := TX6) (N := 7) hx hb ht zq_layX6 hown hK hP 0 rfl rfl 1 (by decide) (ht _ zq_456) (fun _ h9 => h9) rfl dX6_endingOn_23 ?_
    refine va_get (pc := 26) (D := (dC, dI)) (ci := 2) (v := .ref a_g_order) (C := RX1) (T := TX1) (N := 6) hx hb ht zq_layX1 hown hK hP 1 rfl rfl 1 (by decide) (ht _ zq_469) (fun _ h9 => h9) rfl dX6_endingOn_26 ?_
    refine lv_iload (pc := 29) hx hb dX6_endingOn_29 (lv_at hl 5 rfl) ?_
    obtain ⟨v4, hv4, hf⟩ := zc_1 hf
    refine zw_iald (pc := 31) hx hb hK hP 2 0 rfl rfl hv4 dX6_endingOn_31 ?_
    refine lv_istore (lv' := [(7, .int v4), (0, .ref a_o), (1, .int p1), (2, .int p2), (3, .long v2), (5, .int v1), (6, .int v3)]) (pc := 32) hx hb dX6_endingOn_32 hl (by decide) rfl (fun ls hl => ?_)
    refine lv_iload_n (pc := 34) hx hb dX6_endingOn_34 rfl (lv_at hl 2 rfl) ?_
    refine lv_iconst (v := (-1 : Int32)) (pc := 35) hx hb dX6_endingOn_35 (by decide) ?_
    obtain ⟨v12, hj, hf⟩ := zc_1 hf
    refine zj_join (pcJ := 70) (stk := []) (X := fun H locs ls => lv_has ls 8 [(0, .ref a_o), (1, .int p1), (2, .int p2), (3, .long v12), (5, .int v1), (6, .int v3)] ∧ va_P (dC, dI) zz_cls [zo_X6 a_o a_m a_g a_o_wanted a_k1 a_k2 a_lv f_o_length, zo_X1 a_g a_m a_g_order a_g_depth a_g_from f_g_size f_g_known, (a_g_order, .inl (dA 0, 2880, .inl b_g_order)), (a_g_depth, .inl (dA 0, 2880, .inl b_g_depth)), (a_k1, .inl (dA 1, 2880, .inr (.inl b_k1)))] H ∧ va_D A [zo_X6 a_o a_m a_g a_o_wanted a_k1 a_k2 a_lv f_o_length, zo_X1 a_g a_m a_g_order a_g_depth a_g_from f_g_size f_g_known, (a_g_order, .inl (dA 0, 2880, .inl b_g_order)), (a_g_depth, .inl (dA 0, 2880, .inl b_g_depth)), (a_k1, .inl (dA 1, 2880, .inr (.inl b_k1)))] ∧ va_S A s.heap H locs) (fun H locs ls hX => ?_) (fun J70 => ?_)
    · obtain ⟨hl, hP, hD, hS⟩ := hX
      clear hj
      obtain ⟨v13, hv13, hf⟩ := zc_1 hf
      refine lv_iinc (v := v13) (lv' := [(6, .int v13), (0, .ref a_o), (1, .int p1), (2, .int p2), (3, .long v12), (5, .int v1)]) (k := 5) (pc := 70) hx hb dX6_endingOn_70 hl rfl (Option.some.inj hv13) (by decide) rfl (fun ls hl => ?_)
      refine lv_goto (tgt := 15) (pc := 73) hx hb dX6_endingOn_73 rfl ?_
      obtain rfl := Option.some.inj hf
      exact ih rfl _ _ _ ⟨lv_sub hl [1, 2, 3, 4, 5, 0] rfl, hP, hD, hS⟩
    · clear hf
      have hf := hj
      clear hj
      refine lv_icmp_eq (tgt := 48) (pc := 36) hx hb dX6_endingOn_36 rfl (fun hc => ?_) (fun hc => ?_)
      · have hf := za_t hf hc
        refine lv_iload_n (pc := 48) hx hb dX6_endingOn_48 rfl (lv_at hl 3 rfl) ?_
        refine lv_iload (pc := 49) hx hb dX6_endingOn_49 (lv_at hl 0 rfl) ?_
        obtain ⟨v5, hv5, hf⟩ := zc_1 hf
        refine zx_Ni (pc := 51) (wc := []) (wr := [zo_X6 a_o a_m a_g a_o_wanted a_k1 a_k2 a_lv f_o_length, zo_X1 a_g a_m a_g_order a_g_depth a_g_from f_g_size f_g_known, (a_g_order, .inl (dA 0, 2880, .inl b_g_order)), (a_g_depth, .inl (dA 0, 2880, .inl b_g_depth)), (a_k1, .inl (dA 1, 2880, .inr (.inl b_k1)))]) (w1 := []) (As := [.int v4]) (rest := [.int p2]) ⟨hx, hb, hml, hown, ht⟩ (zt_X10_thingsOf l dC dI dA adK adV _ v4 v5 hv5) ⟨va_cnB 1 ht (zq_C zq_61) rfl rfl rfl (hZ.nest 12 rfl) (ht _ zq_58) zk_X10_thingsOf.2 ⟨Nat.le_of_ble_eq_true rfl, Nat.le_of_ble_eq_true rfl⟩, ht _ zq_60, trivial⟩ hZ hK hP hD hS hA [] [0, 1, 2, 3, 4] (by decide) (by decide) (by decide) rfl rfl rfl hl.1 (Nat.le_of_ble_eq_true rfl) dX6_endingOn_51 ⟨Nat.zero_le _, Nat.zero_le _⟩ rfl (fun H locs hP hD hS => ?_)
        have hP : va_P (dC, dI) zz_cls [zo_X6 a_o a_m a_g a_o_wanted a_k1 a_k2 a_lv f_o_length, zo_X1 a_g a_m a_g_order a_g_depth a_g_from f_g_size f_g_known, (a_g_order, .inl (dA 0, 2880, .inl b_g_order)), (a_g_depth, .inl (dA 0, 2880, .inl b_g_depth)), (a_k1, .inl (dA 1, 2880, .inr (.inl b_k1)))] H := hP
        have hD : va_D A [zo_X6 a_o a_m a_g a_o_wanted a_k1 a_k2 a_lv f_o_length, zo_X1 a_g a_m a_g_order a_g_depth a_g_from f_g_size f_g_known, (a_g_order, .inl (dA 0, 2880, .inl b_g_order)), (a_g_depth, .inl (dA 0, 2880, .inl b_g_depth)), (a_k1, .inl (dA 1, 2880, .inr (.inl b_k1)))] := hD
        refine lv_iconst (v := (-1 : Int32)) (pc := 54) hx hb dX6_endingOn_54 (by decide) ?_
        refine lv_ixor (pc := 55) hx hb dX6_endingOn_55 ?_
        refine lv_iand (pc := 56) hx hb dX6_endingOn_56 ?_
        refine lv_if_ne (tgt := 70) (pc := 57) hx hb dX6_endingOn_57 rfl (fun hc => ?_) (fun hc => ?_)
        · have hf := za_f hf hc
          obtain rfl := Option.some.inj hf
          exact J70 _ _ _ ⟨lv_sub hl [1, 2, 3, 4, 5, 6] rfl, hP, hD, hS⟩
        · have hf := za_t hf hc
          refine lv_lload_n (pc := 60) hx hb dX6_endingOn_60 rfl (lv_at hl 4 rfl) ?_
          refine lv_aload_n (pc := 61) hx hb dX6_endingOn_61 rfl (lv_at hl 1 rfl) ?_
          refine va_get (pc := 62) (D := (dC, dI)) (ci := 7) (v := .ref a_k1) (C := RX6) (T := TX6) (N := 7) hx hb ht zq_layX6 hown hK hP 0 rfl rfl 3 (by decide) (ht _ zq_458) (fun _ h9 => h9) rfl dX6_endingOn_62 ?_
          refine lv_iload (pc := 65) hx hb dX6_endingOn_65 (lv_at hl 0 rfl) ?_
          obtain ⟨v6, hv6, hf⟩ := zc_1 hf
          refine zw_lald (pc := 67) hx hb hK hP 4 1 rfl rfl hv6 dX6_endingOn_67 ?_
          refine lv_ladd (pc := 68) hx hb dX6_endingOn_68 ?_
          obtain ⟨v7, hv7, hf⟩ := zc_1 hf
          refine zw_topl (hv7) ?_
          refine lv_lstore_n (lv' := [(3, .long v7), (7, .int v4), (0, .ref a_o), (1, .int p1), (2, .int p2), (5, .int v1), (6, .int v3)]) (pc := 69) hx hb dX6_endingOn_69 rfl hl (by decide) rfl (fun ls hl => ?_)
          obtain rfl := Option.some.inj hf
          exact J70 _ _ _ ⟨lv_sub hl [2, 3, 4, 0, 5, 6] rfl, hP, hD, hS⟩
      · have hf := za_f hf hc
        refine lv_iload (pc := 39) hx hb dX6_endingOn_39 (lv_at hl 0 rfl) ?_
        obtain ⟨v8, hv8, hf⟩ := zc_1 hf
        refine zx_Ni (pc := 41) (wc := []) (wr := [zo_X6 a_o a_m a_g a_o_wanted a_k1 a_k2 a_lv f_o_length, zo_X1 a_g a_m a_g_order a_g_depth a_g_from f_g_size f_g_known, (a_g_order, .inl (dA 0, 2880, .inl b_g_order)), (a_g_depth, .inl (dA 0, 2880, .inl b_g_depth)), (a_k1, .inl (dA 1, 2880, .inr (.inl b_k1)))]) (w1 := []) (As := [.int v4]) (rest := []) ⟨hx, hb, hml, hown, ht⟩ (zt_X10_rungOf l dC dI dA adK adV _ v4 v8 hv8) ⟨va_cnB 1 ht (zq_C zq_59) rfl rfl rfl (hZ.nest 13 rfl) (ht _ zq_58) zk_X10_rungOf.2 ⟨Nat.le_of_ble_eq_true rfl, Nat.le_of_ble_eq_true rfl⟩, ht _ zq_57, trivial⟩ hZ hK hP hD hS hA [] [0, 1, 2, 3, 4] (by decide) (by decide) (by decide) rfl rfl rfl hl.1 (Nat.le_of_ble_eq_true rfl) dX6_endingOn_41 ⟨Nat.zero_le _, Nat.zero_le _⟩ rfl (fun H locs hP hD hS => ?_)
        have hP : va_P (dC, dI) zz_cls [zo_X6 a_o a_m a_g a_o_wanted a_k1 a_k2 a_lv f_o_length, zo_X1 a_g a_m a_g_order a_g_depth a_g_from f_g_size f_g_known, (a_g_order, .inl (dA 0, 2880, .inl b_g_order)), (a_g_depth, .inl (dA 0, 2880, .inl b_g_depth)), (a_k1, .inl (dA 1, 2880, .inr (.inl b_k1)))] H := hP
        have hD : va_D A [zo_X6 a_o a_m a_g a_o_wanted a_k1 a_k2 a_lv f_o_length, zo_X1 a_g a_m a_g_order a_g_depth a_g_from f_g_size f_g_known, (a_g_order, .inl (dA 0, 2880, .inl b_g_order)), (a_g_depth, .inl (dA 0, 2880, .inl b_g_depth)), (a_k1, .inl (dA 1, 2880, .inr (.inl b_k1)))] := hD
        refine lv_iload_n (pc := 44) hx hb dX6_endingOn_44 rfl (lv_at hl 2 rfl) ?_
        refine lv_icmp_ne (tgt := 70) (pc := 45) hx hb dX6_endingOn_45 rfl (fun hc => ?_) (fun hc => ?_)
        · have hf := za_f hf hc
          obtain rfl := Option.some.inj hf
          exact J70 _ _ _ ⟨lv_sub hl [1, 2, 3, 4, 5, 6] rfl, hP, hD, hS⟩
        · have hf := za_t hf hc
          refine lv_iload_n (pc := 48) hx hb dX6_endingOn_48 rfl (lv_at hl 3 rfl) ?_
          refine lv_iload (pc := 49) hx hb dX6_endingOn_49 (lv_at hl 0 rfl) ?_
          obtain ⟨v9, hv9, hf⟩ := zc_1 hf
          refine zx_Ni (pc := 51) (wc := []) (wr := [zo_X6 a_o a_m a_g a_o_wanted a_k1 a_k2 a_lv f_o_length, zo_X1 a_g a_m a_g_order a_g_depth a_g_from f_g_size f_g_known, (a_g_order, .inl (dA 0, 2880, .inl b_g_order)), (a_g_depth, .inl (dA 0, 2880, .inl b_g_depth)), (a_k1, .inl (dA 1, 2880, .inr (.inl b_k1)))]) (w1 := []) (As := [.int v4]) (rest := [.int p2]) ⟨hx, hb, hml, hown, ht⟩ (zt_X10_thingsOf l dC dI dA adK adV _ v4 v9 hv9) ⟨va_cnB 1 ht (zq_C zq_61) rfl rfl rfl (hZ.nest 12 rfl) (ht _ zq_58) zk_X10_thingsOf.2 ⟨Nat.le_of_ble_eq_true rfl, Nat.le_of_ble_eq_true rfl⟩, ht _ zq_60, trivial⟩ hZ hK hP hD hS hA [] [0, 1, 2, 3, 4] (by decide) (by decide) (by decide) rfl rfl rfl hl.1 (Nat.le_of_ble_eq_true rfl) dX6_endingOn_51 ⟨Nat.zero_le _, Nat.zero_le _⟩ rfl (fun H locs hP hD hS => ?_)
          have hP : va_P (dC, dI) zz_cls [zo_X6 a_o a_m a_g a_o_wanted a_k1 a_k2 a_lv f_o_length, zo_X1 a_g a_m a_g_order a_g_depth a_g_from f_g_size f_g_known, (a_g_order, .inl (dA 0, 2880, .inl b_g_order)), (a_g_depth, .inl (dA 0, 2880, .inl b_g_depth)), (a_k1, .inl (dA 1, 2880, .inr (.inl b_k1)))] H := hP
          have hD : va_D A [zo_X6 a_o a_m a_g a_o_wanted a_k1 a_k2 a_lv f_o_length, zo_X1 a_g a_m a_g_order a_g_depth a_g_from f_g_size f_g_known, (a_g_order, .inl (dA 0, 2880, .inl b_g_order)), (a_g_depth, .inl (dA 0, 2880, .inl b_g_depth)), (a_k1, .inl (dA 1, 2880, .inr (.inl b_k1)))] := hD
          refine lv_iconst (v := (-1 : Int32)) (pc := 54) hx hb dX6_endingOn_54 (by decide) ?_
          refine lv_ixor (pc := 55) hx hb dX6_endingOn_55 ?_
          refine lv_iand (pc := 56) hx hb dX6_endingOn_56 ?_
          refine lv_if_ne (tgt := 70) (pc := 57) hx hb dX6_endingOn_57 rfl (fun hc => ?_) (fun hc => ?_)
          · have hf := za_f hf hc
            obtain rfl := Option.some.inj hf
            exact J70 _ _ _ ⟨lv_sub hl [1, 2, 3, 4, 5, 6] rfl, hP, hD, hS⟩
          · have hf := za_t hf hc
            refine lv_lload_n (pc := 60) hx hb dX6_endingOn_60 rfl (lv_at hl 4 rfl) ?_
            refine lv_aload_n (pc := 61) hx hb dX6_endingOn_61 rfl (lv_at hl 1 rfl) ?_
            refine va_get (pc := 62) (D := (dC, dI)) (ci := 7) (v := .ref a_k1) (C := RX6) (T := TX6) (N := 7) hx hb ht zq_layX6 hown hK hP 0 rfl rfl 3 (by decide) (ht _ zq_458) (fun _ h9 => h9) rfl dX6_endingOn_62 ?_
            refine lv_iload (pc := 65) hx hb dX6_endingOn_65 (lv_at hl 0 rfl) ?_
            obtain ⟨v10, hv10, hf⟩ := zc_1 hf
            refine zw_lald (pc := 67) hx hb hK hP 4 1 rfl rfl hv10 dX6_endingOn_67 ?_
            refine lv_ladd (pc := 68) hx hb dX6_endingOn_68 ?_
            obtain ⟨v11, hv11, hf⟩ := zc_1 hf
            refine zw_topl (hv11) ?_
            refine lv_lstore_n (lv' := [(3, .long v11), (7, .int v4), (0, .ref a_o), (1, .int p1), (2, .int p2), (5, .int v1), (6, .int v3)]) (pc := 69) hx hb dX6_endingOn_69 rfl hl (by decide) rfl (fun ls hl => ?_)
            obtain rfl := Option.some.inj hf
            exact J70 _ _ _ ⟨lv_sub hl [2, 3, 4, 0, 5, 6] rfl, hP, hD, hS⟩
