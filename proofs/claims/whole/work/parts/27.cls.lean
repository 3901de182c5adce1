def zb_X6_endingOn_15 (v1 : Int32) (b_g_order : (Nat → Int32)) (p1 : Int32) (p2 : Int32) (b_k1 : (Nat → Int64)) (v2 : Int64) (v3 : Int32) : Option (Nat × Int64 × Int32) :=
  if v1 ≤ v3 then
    some (1, v2, v3)
  else
    zd_1 (za_ld b_g_order 2880 v3) (fun v4 =>
    zd_1 (
      if p1 = (-1 : Int32) then
        zd_1 (zf_X10_thingsOf v4) (fun v5 =>
        if (p2 &&& (v5 ^^^ (-1 : Int32))) = 0 then
          zd_1 (za_ld b_k1 2880 v4) (fun v6 =>
          zd_1 (some ((v2 + v6))) (fun v7 =>
          some v7))
        else
          some v2)
      else
        zd_1 (zf_X10_rungOf v4) (fun v8 =>
        if v8 = p1 then
          zd_1 (zf_X10_thingsOf v4) (fun v9 =>
          if (p2 &&& (v9 ^^^ (-1 : Int32))) = 0 then
            zd_1 (za_ld b_k1 2880 v4) (fun v10 =>
            zd_1 (some ((v2 + v10))) (fun v11 =>
            some v11))
          else
            some v2)
        else
          some v2)) (fun v12 =>
    zd_1 (some (v3 + (1 : Int32))) (fun v13 =>
    some (0, v12, v13))))
def zf_X6_endingOn (n : Nat) (f_o_length : Int32) (f_g_size : Int32) (b_g_order : (Nat → Int32)) (b_g_depth : (Nat → Int32)) (b_k1 : (Nat → Int64)) (p1 : Int32) (p2 : Int32) : Option (Int64) :=
  zd_1 (zf_X6_within n f_g_size b_g_order b_g_depth f_o_length) (fun v1 =>
  zd_3 (za_it (fun v => zb_X6_endingOn_15 v1 b_g_order p1 p2 b_k1 v.1 v.2) n ((0 : Int64), (0 : Int32))) (fun g16 v14 v15 =>
  some v14))
theorem zk_X6_endingOn : yX6_endingOn.cls = RX6 ∧ yX6_endingOn.cls ≠ "java/lang/invoke/MethodHandle" ∧ yX6_endingOn.cls ≠ "java/lang/invoke/VarHandle" ∧ (parseMethodDescriptor yX6_endingOn.desc).map (fun d => d.parameters.length) = some 2 := by decide +kernel
set_option maxHeartbeats 4000000 in
set_option maxRecDepth 100000 in
theorem zt_X6_endingOn (l : Launch) (dC : Nat → ClassId) (dI : Nat → Nat → Nat) (dA : Nat → ClassId) (adK adV : Nat → Nat) (sz : Nat) (a_o : Nat) (a_m : Nat) (a_g : Nat) (a_o_wanted : Nat) (a_k1 : Nat) (a_k2 : Nat) (a_lv : Nat) (a_g_order : Nat) (a_g_depth : Nat) (a_g_from : Nat) (n : Nat) (f_o_length : Int32) (f_g_size : Int32) (f_g_known : Int32) (b_g_order : (Nat → Int32)) (b_g_depth : (Nat → Int32)) (b_k1 : (Nat → Int64)) (p1 : Int32) (p2 : Int32) (r0 : Int64) (hf : zf_X6_endingOn n f_o_length f_g_size b_g_order b_g_depth b_k1 p1 p2 = some r0) : Met l yX6_endingOn (.code yX6_endingOn cX6_endingOn 8 (some .long) :: zq_T) ({ frames := 1, cells := 0, slots := 0, locals := 22 }) (va_Pc [.ref a_o, .int p1, .int p2] (zx_M dC dI dA adK adV [zo_X6 a_o a_m a_g a_o_wanted a_k1 a_k2 a_lv f_o_length, zo_X1 a_g a_m a_g_order a_g_depth a_g_from f_g_size f_g_known, (a_g_order, .inl (dA 0, 2880, .inl b_g_order)), (a_g_depth, .inl (dA 0, 2880, .inl b_g_depth)), (a_k1, .inl (dA 1, 2880, .inr (.inl b_k1)))] sz)) (va_Ql (fun (r : Int64) (_ : Unit) => r = r0) (fun _ t => zz_B dC dI dA (va_A [zo_X6 a_o a_m a_g a_o_wanted a_k1 a_k2 a_lv f_o_length, zo_X1 a_g a_m a_g_order a_g_depth a_g_from f_g_size f_g_known, (a_g_order, .inl (dA 0, 2880, .inl b_g_order)), (a_g_depth, .inl (dA 0, 2880, .inl b_g_depth)), (a_k1, .inl (dA 1, 2880, .inr (.inl b_k1)))] sz) [zo_X6 a_o a_m a_g a_o_wanted a_k1 a_k2 a_lv f_o_length, zo_X1 a_g a_m a_g_order a_g_depth a_g_from f_g_size f_g_known, (a_g_order, .inl (dA 0, 2880, .inl b_g_order)), (a_g_depth, .inl (dA 0, 2880, .inl b_g_depth)), (a_k1, .inl (dA 1, 2880, .inr (.inl b_k1)))] t) (va_A [zo_X6 a_o a_m a_g a_o_wanted a_k1 a_k2 a_lv f_o_length, zo_X1 a_g a_m a_g_order a_g_depth a_g_from f_g_size f_g_known, (a_g_order, .inl (dA 0, 2880, .inl b_g_order)), (a_g_depth, .inl (dA 0, 2880, .inl b_g_depth)), (a_k1, .inl (dA 1, 2880, .inr (.inl b_k1)))] sz)) 0 0 (va_A [zo_X6 a_o a_m a_g a_o_wanted a_k1 a_k2 a_lv f_o_length, zo_X1 a_g a_m a_g_order a_g_depth a_g_from f_g_size f_g_known, (a_g_order, .inl (dA 0, 2880, .inl b_g_order)), (a_g_depth, .inl (dA 0, 2880, .inl b_g_depth)), (a_k1, .inl (dA 1, 2880, .inr (.inl b_k1)))] sz) := by
  unfold zf_X6_endingOn at hf
  refine Met.ofW (cc := cX6_endingOn) (maxL := 8) (ret := (some .long)) (by decide) rfl ?_
  intro p e s m args below meth c s₁ B hml hv
  obtain ⟨rfl, ⟨hsz, hP, hK, hD0⟩, hZ⟩ := hv
  have hx := B.exec
  have hb := B.bytes
  have hr := B.returns
  have ht : ∀ w ∈ zq_T, w.before ([.ref a_o, .int p1, .int p2] : List Value).toArray s = true := fun w hw => atoms_spec (ws := .code yX6_endingOn cX6_endingOn 8 (some .long) :: zq_T) B.pre w (List.mem_cons_of_mem _ hw)
  have hown : s.vm.findClass RX6 = some m.cls := findClass_of_methodNamed B.named
  have hlocks := B.notSynchronized
  subst hsz
  have hD := hD0.self (sz := s.heap.size)
  generalize hAe : va_A [zo_X6 a_o a_m a_g a_o_wanted a_k1 a_k2 a_lv f_o_length, zo_X1 a_g a_m a_g_order a_g_depth a_g_from f_g_size f_g_known, (a_g_order, .inl (dA 0, 2880, .inl b_g_order)), (a_g_depth, .inl (dA 0, 2880, .inl b_g_depth)), (a_k1, .inl (dA 1, 2880, .inr (.inl b_k1)))] s.heap.size = A at hD hZ ⊢
  have hA : ∀ q : Nat, s.heap.size ≤ q → A q := fun q h => by rw [← hAe]; exact Or.inr h
  clear hAe hD0
  have hS : va_S A s.heap s.heap [] := va_S.rf
  have hl := lv_entry ([.ref a_o, .int p1, .int p2]) (n := 8) (Nat.le_of_ble_eq_true rfl)
  rw [lg_entry_eq]
  generalize (lg_sl ([.ref a_o, .int p1, .int p2]) ++ List.replicate (8 - (lg_sl ([.ref a_o, .int p1, .int p2])).length) Slot.unset).toArray = ls at hl ⊢
  have hl : lv_has ls 8 [(0, .ref a_o), (1, .int p1), (2, .int p2)] := hl
  refine lv_lconst (v := (0 : Int64)) (pc := 0) hx hb dX6_endingOn_0 (by decide) ?_
  refine lv_lstore_n (lv' := [(3, .long (0 : Int64)), (0, .ref a_o), (1, .int p1), (2, .int p2)]) (pc := 1) hx hb dX6_endingOn_1 rfl hl (by decide) rfl (fun ls hl => ?_)
  refine lv_aload_n (pc := 2) hx hb dX6_endingOn_2 rfl (lv_at hl 1 rfl) ?_
  refine lv_aload_n (pc := 3) hx hb dX6_endingOn_3 rfl (lv_at hl 1 rfl) ?_
  refine va_get (pc := 4) (D := (dC, dI)) (ci := 7) (v := .int f_o_length) (C := RX6) (T := TX6) (N := 7) hx hb ht zq_layX6 hown hK hP 0 rfl rfl 6 (by decide) (ht _ zq_454) (fun _ h9 => h9) rfl dX6_endingOn_4 ?_
  obtain ⟨v1, hv1, hf⟩ := zc_1 hf
  refine zx_Vi (pc := 7) (wc := [zo_X6 a_o a_m a_g a_o_wanted a_k1 a_k2 a_lv f_o_length, zo_X1 a_g a_m a_g_order a_g_depth a_g_from f_g_size f_g_known, (a_g_order, .inl (dA 0, 2880, .inl b_g_order)), (a_g_depth, .inl (dA 0, 2880, .inl b_g_depth))]) (wr := [(a_k1, .inl (dA 1, 2880, .inr (.inl b_k1)))]) (w1 := [zo_X6 a_o a_m a_g a_o_wanted a_k1 a_k2 a_lv f_o_length, zo_X1 a_g a_m a_g_order a_g_depth a_g_from f_g_size f_g_known, (a_g_order, .inl (dA 0, 2880, .inl b_g_order)), (a_g_depth, .inl (dA 0, 2880, .inl b_g_depth))]) (As := [.int f_o_length]) (rest := []) ⟨hx, hb, hml, hown, ht⟩ (zt_X6_within l dC dI dA adK adV _ a_o a_m a_g a_o_wanted a_k1 a_k2 a_lv a_g_order a_g_depth a_g_from n f_o_length f_g_size f_g_known b_g_order b_g_depth f_o_length v1 hv1) (cwV 1 ht (zq_V zq_472 zq_473 zq_474 zq_475 zq_466) rfl rfl rfl zk_X6_within ⟨Nat.le_of_ble_eq_true rfl, Nat.le_of_ble_eq_true rfl⟩) rfl rfl hZ hK hP hD hS hA [0, 1, 2, 3] [4] (by decide) (by decide) (by decide) rfl rfl rfl hl.1 (Nat.le_of_ble_eq_true rfl) dX6_endingOn_7 ⟨Nat.zero_le _, Nat.zero_le _⟩ rfl (fun H locs hP hD hS => ?_)
  have hP : va_P (dC, dI) zz_cls [(a_k1, .inl (dA 1, 2880, .inr (.inl b_k1))), zo_X6 a_o a_m a_g a_o_wanted a_k1 a_k2 a_lv f_o_length, zo_X1 a_g a_m a_g_order a_g_depth a_g_from f_g_size f_g_known, (a_g_order, .inl (dA 0, 2880, .inl b_g_order)), (a_g_depth, .inl (dA 0, 2880, .inl b_g_depth))] H := hP
  have hD : va_D A [(a_k1, .inl (dA 1, 2880, .inr (.inl b_k1))), zo_X6 a_o a_m a_g a_o_wanted a_k1 a_k2 a_lv f_o_length, zo_X1 a_g a_m a_g_order a_g_depth a_g_from f_g_size f_g_known, (a_g_order, .inl (dA 0, 2880, .inl b_g_order)), (a_g_depth, .inl (dA 0, 2880, .inl b_g_depth))] := hD
  refine lv_istore (lv' := [(5, .int v1), (3, .long (0 : Int64)), (0, .ref a_o), (1, .int p1), (2, .int p2)]) (pc := 10) hx hb dX6_endingOn_10 hl (by decide) rfl (fun ls hl => ?_)
  refine lv_iconst (v := (0 : Int32)) (pc := 12) hx hb dX6_endingOn_12 (by decide) ?_
  refine lv_istore (lv' := [(6, .int (0 : Int32)), (5, .int v1), (3, .long (0 : Int64)), (0, .ref a_o), (1, .int p1), (2, .int p2)]) (pc := 13) hx hb dX6_endingOn_13 hl (by decide) rfl (fun ls hl => ?_)
  obtain ⟨g16, v14, v15, hj, hf⟩ := zc_3 hf
  refine zj_join (pcJ := 76) (stk := []) (X := fun H locs ls => lv_has ls 8 [(3, .long v14)] ∧ va_P (dC, dI) zz_cls [zo_X6 a_o a_m a_g a_o_wanted a_k1 a_k2 a_lv f_o_length, zo_X1 a_g a_m a_g_order a_g_depth a_g_from f_g_size f_g_known, (a_g_order, .inl (dA 0, 2880, .inl b_g_order)), (a_g_depth, .inl (dA 0, 2880, .inl b_g_depth)), (a_k1, .inl (dA 1, 2880, .inr (.inl b_k1)))] H ∧ va_D A [zo_X6 a_o a_m a_g a_o_wanted a_k1 a_k2 a_lv f_o_length, zo_X1 a_g a_m a_g_order a_g_depth a_g_from f_g_size f_g_known, (a_g_order, .inl (dA 0, 2880, .inl b_g_order)), (a_g_depth, .inl (dA 0, 2880, .inl b_g_depth)), (a_k1, .inl (dA 1, 2880, .inr (.inl b_k1)))] ∧ va_S A s.heap H locs) (fun H locs ls hX => ?_) (fun E76 => ?_)
  · obtain ⟨hl, hP, hD, hS⟩ := hX
    clear hj
    refine lv_lload_n (pc := 76) hx hb dX6_endingOn_76 rfl (lv_at hl 0 rfl) ?_
    obtain rfl := Option.some.inj hf
    exact W.lret (pc := 77) hx hb hr (fun t ht hW => ⟨⟨_, (), rfl, rfl, zz_Bi (by rw [ht]; exact hP) (va_K.moved hW.alike hK) (hD)⟩, hS.F ht⟩) hS.2.2 dX6_endingOn_77
  clear hf
  refine zw_loop (pcH := 15) (X := fun v H locs ls => lv_has ls 8 [(0, .ref a_o), (1, .int p1), (2, .int p2), (3, .long v.1), (5, .int v1), (6, .int v.2)] ∧ va_P (dC, dI) zz_cls [zo_X6 a_o a_m a_g a_o_wanted a_k1 a_k2 a_lv f_o_length, zo_X1 a_g a_m a_g_order a_g_depth a_g_from f_g_size f_g_known, (a_g_order, .inl (dA 0, 2880, .inl b_g_order)), (a_g_depth, .inl (dA 0, 2880, .inl b_g_depth)), (a_k1, .inl (dA 1, 2880, .inr (.inl b_k1)))] H ∧ va_D A [zo_X6 a_o a_m a_g a_o_wanted a_k1 a_k2 a_lv f_o_length, zo_X1 a_g a_m a_g_order a_g_depth a_g_from f_g_size f_g_known, (a_g_order, .inl (dA 0, 2880, .inl b_g_order)), (a_g_depth, .inl (dA 0, 2880, .inl b_g_depth)), (a_k1, .inl (dA 1, 2880, .inr (.inl b_k1)))] ∧ va_S A s.heap H locs) hj (fun v w hf ih ex H locs ls hX => ?_) _ _ _ ⟨lv_sub hl [3, 4, 5, 2, 1, 0] rfl, hP.sub [1, 2, 3, 4, 0] rfl, hD.sub [1, 2, 3, 4, 0] (by decide) rfl, hS⟩
  clear hj
  obtain ⟨v2, v3⟩ := v
  obtain ⟨hl, hP, hD, hS⟩ := hX
  have hl : lv_has ls 8 [(0, .ref a_o), (1, .int p1), (2, .int p2), (3, .long v2), (5, .int v1), (6, .int v3)] := hl
  have hP : va_P (dC, dI) zz_cls [zo_X6 a_o a_m a_g a_o_wanted a_k1 a_k2 a_lv f_o_length, zo_X1 a_g a_m a_g_order a_g_depth a_g_from f_g_size f_g_known, (a_g_order, .inl (dA 0, 2880, .inl b_g_order)), (a_g_depth, .inl (dA 0, 2880, .inl b_g_depth)), (a_k1, .inl (dA 1, 2880, .inr (.inl b_k1)))] H := hP
  have hD : va_D A [zo_X6 a_o a_m a_g a_o_wanted a_k1 a_k2 a_lv f_o_length, zo_X1 a_g a_m a_g_order a_g_depth a_g_from f_g_size f_g_known, (a_g_order, .inl (dA 0, 2880, .inl b_g_order)), (a_g_depth, .inl (dA 0, 2880, .inl b_g_depth)), (a_k1, .inl (dA 1, 2880, .inr (.inl b_k1)))] := hD
  replace hf : zb_X6_endingOn_15 v1 b_g_order p1 p2 b_k1 v2 v3 = some w := hf
  unfold zb_X6_endingOn_15 at hf
  refine lv_iload (pc := 15) hx hb dX6_endingOn_15 (lv_at hl 5 rfl) ?_
  refine lv_iload (pc := 17) hx hb dX6_endingOn_17 (lv_at hl 4 rfl) ?_
  refine lv_icmp_ge (tgt := 76) (pc := 19) hx hb dX6_endingOn_19 rfl (fun hc => ?_) (fun hc => ?_)
  · have hf := za_t hf hc
    obtain rfl := Option.some.inj hf
    obtain ⟨rfl, rfl, rfl⟩ := zp_3 (ex (show ¬ (1 : Nat) = 0 by decide))
    exact E76 _ _ _ ⟨lv_sub hl [3] rfl, hP, hD, hS⟩
  · have hf := za_f hf hc
    refine lv_aload_n (pc := 22) hx hb dX6_endingOn_22 rfl (lv_at hl 0 rfl) ?_
    refine va_get (pc := 23) (D := (dC, dI)) (ci := 7) (v := .ref a_g) (C := RX6) (T := TX6) (N := 7) hx hb ht zq_layX6 hown hK hP 0 rfl rfl 1 (by decide) (ht _ zq_456) (fun _ h9 => h9) rfl dX6_endingOn_23 ?_
    refine va_get (pc := 26) (D := (dC, dI)) (ci := 2) (v := .ref a_g_order) (C := RX1) (T := TX1) (N := 6) hx hb ht zq_layX1 hown hK hP 1 rfl rfl 1 (by decide) (ht _ zq_469) (fun _ h9 => h9) rfl dX6_endingOn_26 ?_
    refine lv_iload (pc := 29) hx hb dX6_endingOn_29 (lv_at hl 5 rfl) ?_
    obtain ⟨v4, hv4, hf⟩ := zc_1 hf
    refine zw_iald (pc := 31) hx hb hK hP 2 0 rfl rfl hv4 dX6_endingOn_31 ?_
    refine lv_istore (lv' := [(7, .int v4), (0, .ref a_o), (1, .int p1), (2, .int p2), (3, .long v2), (5, .int v1), (6, .int v3)]) (pc := 32) hx hb dX6_endingOn_32 hl (by decide) rfl (fun ls hl => ?_)
    refine lv_iload_n (pc := 34) hx hb dX6_endingOn_34 rfl (lv_at hl 2 rfl) ?_
    refine lv_iconst (v := (-1 : Int32)) (pc := 35) hx hb dX6_endingOn_35 (by decide) ?_
    obtain ⟨v12, hj, hf⟩ := zc_1 hf
    refine zj_join (pcJ := 70) (stk := []) (X := fun H locs ls => lv_has ls 8 [(0, .ref a_o), (1, .int p1), (2, .int p2), (3, .long v12), (5, .int v1), (6, .int v3)] ∧ va_P (dC, dI) zz_cls [zo_X6 a_o a_m a_g a_o_wanted a_k1 a_k2 a_lv f_o_length, zo_X1 a_g a_m a_g_order a_g_depth a_g_from f_g_size f_g_known, (a_g_order, .inl (dA 0, 2880, .inl b_g_order)), (a_g_depth, .inl (dA 0, 2880, .inl b_g_depth)), (a_k1, .inl (dA 1, 2880, .inr (.inl b_k1)))] H ∧ va_D A [zo_X6 a_o a_m a_g a_o_wanted a_k1 a_k2 a_lv f_o_length, zo_X1 a_g a_m a_g_order a_g_depth a_g_from f_g_size f_g_known, (a_g_order, .inl (dA 0, 2880, .inl b_g_order)), (a_g_depth, .inl (dA 0, 2880, .inl b_g_depth)), (a_k1, .inl (dA 1, 2880, .inr (.inl b_k1)))] ∧ va_S A s.heap H locs) (fun H locs ls hX => ?_) (fun J70 => ?_)
    · obtain ⟨hl, hP, hD, hS⟩ := hX
      clear hj
      obtain ⟨v13, hv13, hf⟩ := zc_1 hf
      refine lv_iinc (v := v13) (lv' := [(6, .int v13), (0, .ref a_o), (1, .int p1), (2, .int p2), (3, .long v12), (5, .int v1)]) (k := 5) (pc := 70) hx hb dX6_endingOn_70 hl rfl (Option.some.inj hv13) (by decide) rfl (fun ls hl => ?_)
      refine lv_goto (tgt := 15) (pc := 73) hx hb dX6_endingOn_73 rfl ?_
      obtain rfl := Option.some.inj hf
      exact ih rfl _ _ _ ⟨lv_sub hl [1, 2, 3, 4, 5, 0] rfl, hP, hD, hS⟩
    · clear hf
      have hf := hj
      clear hj
      refine lv_icmp_eq (tgt := 48) (pc := 36) hx hb dX6_endingOn_36 rfl (fun hc => ?_) (fun hc => ?_)
      · have hf := za_t hf hc
        refine lv_iload_n (pc := 48) hx hb dX6_endingOn_48 rfl (lv_at hl 3 rfl) ?_
        refine lv_iload (pc := 49) hx hb dX6_endingOn_49 (lv_at hl 0 rfl) ?_
        obtain ⟨v5, hv5, hf⟩ := zc_1 hf
        refine zx_Ni (pc := 51) (wc := []) (wr := [zo_X6 a_o a_m a_g a_o_wanted a_k1 a_k2 a_lv f_o_length, zo_X1 a_g a_m a_g_order a_g_depth a_g_from f_g_size f_g_known, (a_g_order, .inl (dA 0, 2880, .inl b_g_order)), (a_g_depth, .inl (dA 0, 2880, .inl b_g_depth)), (a_k1, .inl (dA 1, 2880, .inr (.inl b_k1)))]) (w1 := []) (As := [.int v4]) (rest := [.int p2]) ⟨hx, hb, hml, hown, ht⟩ (zt_X10_thingsOf l dC dI dA adK adV _ v4 v5 hv5) ⟨va_cnB 1 ht (zq_C zq_61) rfl rfl rfl (zx_n12 hZ) (ht _ zq_58) zk_X10_thingsOf.2 ⟨Nat.le_of_ble_eq_true rfl, Nat.le_of_ble_eq_true rfl⟩, ht _ zq_60, trivial⟩ hZ hK hP hD hS hA [] [0, 1, 2, 3, 4] (by decide) (by decide) (by decide) rfl rfl rfl hl.1 (Nat.le_of_ble_eq_true rfl) dX6_endingOn_51 ⟨Nat.zero_le _, Nat.zero_le _⟩ rfl (fun H locs hP hD hS => ?_)
        have hP : va_P (dC, dI) zz_cls [zo_X6 a_o a_m a_g a_o_wanted a_k1 a_k2 a_lv f_o_length, zo_X1 a_g a_m a_g_order a_g_depth a_g_from f_g_size f_g_known, (a_g_order, .inl (dA 0, 2880, .inl b_g_order)), (a_g_depth, .inl (dA 0, 2880, .inl b_g_depth)), (a_k1, .inl (dA 1, 2880, .inr (.inl b_k1)))] H := hP
        have hD : va_D A [zo_X6 a_o a_m a_g a_o_wanted a_k1 a_k2 a_lv f_o_length, zo_X1 a_g a_m a_g_order a_g_depth a_g_from f_g_size f_g_known, (a_g_order, .inl (dA 0, 2880, .inl b_g_order)), (a_g_depth, .inl (dA 0, 2880, .inl b_g_depth)), (a_k1, .inl (dA 1, 2880, .inr (.inl b_k1)))] := hD
        refine lv_iconst (v := (-1 : Int32)) (pc := 54) hx hb dX6_endingOn_54 (by decide) ?_
        refine lv_ixor (pc := 55) hx hb dX6_endingOn_55 ?_
        refine lv_iand (pc := 56) hx hb dX6_endingOn_56 ?_
        refine lv_if_ne (tgt := 70) (pc := 57) hx hb dX6_endingOn_57 rfl (fun hc => ?_) (fun hc => ?_)
        · have hf := za_f hf hc
          obtain rfl := Option.some.inj hf
          exact J70 _ _ _ ⟨lv_sub hl [1, 2, 3, 4, 5, 6] rfl, hP, hD, hS⟩
        · have hf := za_t hf hc
          refine lv_lload_n (pc := 60) hx hb dX6_endingOn_60 rfl (lv_at hl 4 rfl) ?_
          refine lv_aload_n (pc := 61) hx hb dX6_endingOn_61 rfl (lv_at hl 1 rfl) ?_
          refine va_get (pc := 62) (D := (dC, dI)) (ci := 7) (v := .ref a_k1) (C := RX6) (T := TX6) (N := 7) hx hb ht zq_layX6 hown hK hP 0 rfl rfl 3 (by decide) (ht _ zq_458) (fun _ h9 => h9) rfl dX6_endingOn_62 ?_
          refine lv_iload (pc := 65) hx hb dX6_endingOn_65 (lv_at hl 0 rfl) ?_
          obtain ⟨v6, hv6, hf⟩ := zc_1 hf
          refine zw_lald (pc := 67) hx hb hK hP 4 1 rfl rfl hv6 dX6_endingOn_67 ?_
          refine lv_ladd (pc := 68) hx hb dX6_endingOn_68 ?_
          obtain ⟨v7, hv7, hf⟩ := zc_1 hf
          refine zw_topl (hv7) ?_
          refine lv_lstore_n (lv' := [(3, .long v7), (7, .int v4), (0, .ref a_o), (1, .int p1), (2, .int p2), (5, .int v1), (6, .int v3)]) (pc := 69) hx hb dX6_endingOn_69 rfl hl (by decide) rfl (fun ls hl => ?_)
          obtain rfl := Option.some.inj hf
          exact J70 _ _ _ ⟨lv_sub hl [2, 3, 4, 0, 5, 6] rfl, hP, hD, hS⟩
      · have hf := za_f hf hc
        refine lv_iload (pc := 39) hx hb dX6_endingOn_39 (lv_at hl 0 rfl) ?_
        obtain ⟨v8, hv8, hf⟩ := zc_1 hf
        refine zx_Ni (pc := 41) (wc := []) (wr := [zo_X6 a_o a_m a_g a_o_wanted a_k1 a_k2 a_lv f_o_length, zo_X1 a_g a_m a_g_order a_g_depth a_g_from f_g_size f_g_known, (a_g_order, .inl (dA 0, 2880, .inl b_g_order)), (a_g_depth, .inl (dA 0, 2880, .inl b_g_depth)), (a_k1, .inl (dA 1, 2880, .inr (.inl b_k1)))]) (w1 := []) (As := [.int v4]) (rest := []) ⟨hx, hb, hml, hown, ht⟩ (zt_X10_rungOf l dC dI dA adK adV _ v4 v8 hv8) ⟨va_cnB 1 ht (zq_C zq_59) rfl rfl rfl (zx_n13 hZ) (ht _ zq_58) zk_X10_rungOf.2 ⟨Nat.le_of_ble_eq_true rfl, Nat.le_of_ble_eq_true rfl⟩, ht _ zq_57, trivial⟩ hZ hK hP hD hS hA [] [0, 1, 2, 3, 4] (by decide) (by decide) (by decide) rfl rfl rfl hl.1 (Nat.le_of_ble_eq_true rfl) dX6_endingOn_41 ⟨Nat.zero_le _, Nat.zero_le _⟩ rfl (fun H locs hP hD hS => ?_)
        have hP : va_P (dC, dI) zz_cls [zo_X6 a_o a_m a_g a_o_wanted a_k1 a_k2 a_lv f_o_length, zo_X1 a_g a_m a_g_order a_g_depth a_g_from f_g_size f_g_known, (a_g_order, .inl (dA 0, 2880, .inl b_g_order)), (a_g_depth, .inl (dA 0, 2880, .inl b_g_depth)), (a_k1, .inl (dA 1, 2880, .inr (.inl b_k1)))] H := hP
        have hD : va_D A [zo_X6 a_o a_m a_g a_o_wanted a_k1 a_k2 a_lv f_o_length, zo_X1 a_g a_m a_g_order a_g_depth a_g_from f_g_size f_g_known, (a_g_order, .inl (dA 0, 2880, .inl b_g_order)), (a_g_depth, .inl (dA 0, 2880, .inl b_g_depth)), (a_k1, .inl (dA 1, 2880, .inr (.inl b_k1)))] := hD
        refine lv_iload_n (pc := 44) hx hb dX6_endingOn_44 rfl (lv_at hl 2 rfl) ?_
        refine lv_icmp_ne (tgt := 70) (pc := 45) hx hb dX6_endingOn_45 rfl (fun hc => ?_) (fun hc => ?_)
        · have hf := za_f hf hc
          obtain rfl := Option.some.inj hf
          exact J70 _ _ _ ⟨lv_sub hl [1, 2, 3, 4, 5, 6] rfl, hP, hD, hS⟩
        · have hf := za_t hf hc
          refine lv_iload_n (pc := 48) hx hb dX6_endingOn_48 rfl (lv_at hl 3 rfl) ?_
          refine lv_iload (pc := 49) hx hb dX6_endingOn_49 (lv_at hl 0 rfl) ?_
          obtain ⟨v9, hv9, hf⟩ := zc_1 hf
          refine zx_Ni (pc := 51) (wc := []) (wr := [zo_X6 a_o a_m a_g a_o_wanted a_k1 a_k2 a_lv f_o_length, zo_X1 a_g a_m a_g_order a_g_depth a_g_from f_g_size f_g_known, (a_g_order, .inl (dA 0, 2880, .inl b_g_order)), (a_g_depth, .inl (dA 0, 2880, .inl b_g_depth)), (a_k1, .inl (dA 1, 2880, .inr (.inl b_k1)))]) (w1 := []) (As := [.int v4]) (rest := [.int p2]) ⟨hx, hb, hml, hown, ht⟩ (zt_X10_thingsOf l dC dI dA adK adV _ v4 v9 hv9) ⟨va_cnB 1 ht (zq_C zq_61) rfl rfl rfl (zx_n12 hZ) (ht _ zq_58) zk_X10_thingsOf.2 ⟨Nat.le_of_ble_eq_true rfl, Nat.le_of_ble_eq_true rfl⟩, ht _ zq_60, trivial⟩ hZ hK hP hD hS hA [] [0, 1, 2, 3, 4] (by decide) (by decide) (by decide) rfl rfl rfl hl.1 (Nat.le_of_ble_eq_true rfl) dX6_endingOn_51 ⟨Nat.zero_le _, Nat.zero_le _⟩ rfl (fun H locs hP hD hS => ?_)
          have hP : va_P (dC, dI) zz_cls [zo_X6 a_o a_m a_g a_o_wanted a_k1 a_k2 a_lv f_o_length, zo_X1 a_g a_m a_g_order a_g_depth a_g_from f_g_size f_g_known, (a_g_order, .inl (dA 0, 2880, .inl b_g_order)), (a_g_depth, .inl (dA 0, 2880, .inl b_g_depth)), (a_k1, .inl (dA 1, 2880, .inr (.inl b_k1)))] H := hP
          have hD : va_D A [zo_X6 a_o a_m a_g a_o_wanted a_k1 a_k2 a_lv f_o_length, zo_X1 a_g a_m a_g_order a_g_depth a_g_from f_g_size f_g_known, (a_g_order, .inl (dA 0, 2880, .inl b_g_order)), (a_g_depth, .inl (dA 0, 2880, .inl b_g_depth)), (a_k1, .inl (dA 1, 2880, .inr (.inl b_k1)))] := hD
          refine lv_iconst (v := (-1 : Int32)) (pc := 54) hx hb dX6_endingOn_54 (by decide) ?_
          refine lv_ixor (pc := 55) hx hb dX6_endingOn_55 ?_
          refine lv_iand (pc := 56) hx hb dX6_endingOn_56 ?_
          refine lv_if_ne (tgt := 70) (pc := 57) hx hb dX6_endingOn_57 rfl (fun hc => ?_) (fun hc => ?_)
          · have hf := za_f hf hc
            obtain rfl := Option.some.inj hf
            exact J70 _ _ _ ⟨lv_sub hl [1, 2, 3, 4, 5, 6] rfl, hP, hD, hS⟩
          · have hf := za_t hf hc
            refine lv_lload_n (pc := 60) hx hb dX6_endingOn_60 rfl (lv_at hl 4 rfl) ?_
            refine lv_aload_n (pc := 61) hx hb dX6_endingOn_61 rfl (lv_at hl 1 rfl) ?_
            refine va_get (pc := 62) (D := (dC, dI)) (ci := 7) (v := .ref a_k1) (C := RX6) (T := TX6) (N := 7) hx hb ht zq_layX6 hown hK hP 0 rfl rfl 3 (by decide) (ht _ zq_458) (fun _ h9 => h9) rfl dX6_endingOn_62 ?_
            refine lv_iload (pc := 65) hx hb dX6_endingOn_65 (lv_at hl 0 rfl) ?_
            obtain ⟨v10, hv10, hf⟩ := zc_1 hf
            refine zw_lald (pc := 67) hx hb hK hP 4 1 rfl rfl hv10 dX6_endingOn_67 ?_
            refine lv_ladd (pc := 68) hx hb dX6_endingOn_68 ?_
            obtain ⟨v11, hv11, hf⟩ := zc_1 hf
            refine zw_topl (hv11) ?_
            refine lv_lstore_n (lv' := [(3, .long v11), (7, .int v4), (0, .ref a_o), (1, .int p1), (2, .int p2), (5, .int v1), (6, .int v3)]) (pc := 69) hx hb dX6_endingOn_69 rfl hl (by decide) rfl (fun ls hl => ?_)
            obtain rfl := Option.some.inj hf
            exact J70 _ _ _ ⟨lv_sub hl [2, 3, 4, 0, 5, 6] rfl, hP, hD, hS⟩

def zb_X6_commonThings_13 (v1 : Int32) (b_g_order : (Nat → Int32)) (b_k1 : (Nat → Int64)) (v2 : Int32) (v3 : Int32) : Option (Nat × Int32 × Int32) :=
  if v1 ≤ v3 then
    some (1, v2, v3)
  else
    zd_1 (za_ld b_g_order 2880 v3) (fun v4 =>
    zd_1 (za_ld b_k1 2880 v4) (fun v5 =>
    zd_1 (
      if (lg_cmp v5 (0 : Int64)) = 0 then
        some v2
      else
        zd_1 (za_ld b_g_order 2880 v3) (fun v6 =>
        zd_1 (zf_X10_thingsOf v6) (fun v7 =>
        zd_1 (some ((v2 &&& v7))) (fun v8 =>
        some v8)))) (fun v9 =>
    zd_1 (some (v3 + (1 : Int32))) (fun v10 =>
    some (0, v9, v10)))))
def zf_X6_commonThings (n : Nat) (f_o_length : Int32) (f_g_size : Int32) (b_g_order : (Nat → Int32)) (b_g_depth : (Nat → Int32)) (b_k1 : (Nat → Int64)) : Option (Int32) :=
  zd_1 (zf_X6_within n f_g_size b_g_order b_g_depth f_o_length) (fun v1 =>
  zd_3 (za_it (fun v => zb_X6_commonThings_13 v1 b_g_order b_k1 v.1 v.2) n ((-1 : Int32), (0 : Int32))) (fun g13 v11 v12 =>
  if v11 = (-1 : Int32) then
    some (0 : Int32)
  else
    some v11))
theorem zk_X6_commonThings : yX6_commonThings.cls = RX6 ∧ yX6_commonThings.cls ≠ "java/lang/invoke/MethodHandle" ∧ yX6_commonThings.cls ≠ "java/lang/invoke/VarHandle" ∧ (parseMethodDescriptor yX6_commonThings.desc).map (fun d => d.parameters.length) = some 0 := by decide +kernel
set_option maxHeartbeats 4000000 in
set_option maxRecDepth 100000 in
theorem zt_X6_commonThings (l : Launch) (dC : Nat → ClassId) (dI : Nat → Nat → Nat) (dA : Nat → ClassId) (adK adV : Nat → Nat) (sz : Nat) (a_o : Nat) (a_m : Nat) (a_g : Nat) (a_o_wanted : Nat) (a_k1 : Nat) (a_k2 : Nat) (a_lv : Nat) (a_g_order : Nat) (a_g_depth : Nat) (a_g_from : Nat) (n : Nat) (f_o_length : Int32) (f_g_size : Int32) (f_g_known : Int32) (b_g_order : (Nat → Int32)) (b_g_depth : (Nat → Int32)) (b_k1 : (Nat → Int64)) (r0 : Int32) (hf : zf_X6_commonThings n f_o_length f_g_size b_g_order b_g_depth b_k1 = some r0) : Met l yX6_commonThings (.code yX6_commonThings cX6_commonThings 4 (some .int) :: zq_T) ({ frames := 1, cells := 0, slots := 0, locals := 22 }) (va_Pc [.ref a_o] (zx_M dC dI dA adK adV [zo_X6 a_o a_m a_g a_o_wanted a_k1 a_k2 a_lv f_o_length, zo_X1 a_g a_m a_g_order a_g_depth a_g_from f_g_size f_g_known, (a_g_order, .inl (dA 0, 2880, .inl b_g_order)), (a_g_depth, .inl (dA 0, 2880, .inl b_g_depth)), (a_k1, .inl (dA 1, 2880, .inr (.inl b_k1)))] sz)) (va_Qi (fun (r : Int32) (_ : Unit) => r = r0) (fun _ t => zz_B dC dI dA (va_A [zo_X6 a_o a_m a_g a_o_wanted a_k1 a_k2 a_lv f_o_length, zo_X1 a_g a_m a_g_order a_g_depth a_g_from f_g_size f_g_known, (a_g_order, .inl (dA 0, 2880, .inl b_g_order)), (a_g_depth, .inl (dA 0, 2880, .inl b_g_depth)), (a_k1, .inl (dA 1, 2880, .inr (.inl b_k1)))] sz) [zo_X6 a_o a_m a_g a_o_wanted a_k1 a_k2 a_lv f_o_length, zo_X1 a_g a_m a_g_order a_g_depth a_g_from f_g_size f_g_known, (a_g_order, .inl (dA 0, 2880, .inl b_g_order)), (a_g_depth, .inl (dA 0, 2880, .inl b_g_depth)), (a_k1, .inl (dA 1, 2880, .inr (.inl b_k1)))] t) (va_A [zo_X6 a_o a_m a_g a_o_wanted a_k1 a_k2 a_lv f_o_length, zo_X1 a_g a_m a_g_order a_g_depth a_g_from f_g_size f_g_known, (a_g_order, .inl (dA 0, 2880, .inl b_g_order)), (a_g_depth, .inl (dA 0, 2880, .inl b_g_depth)), (a_k1, .inl (dA 1, 2880, .inr (.inl b_k1)))] sz)) 0 0 (va_A [zo_X6 a_o a_m a_g a_o_wanted a_k1 a_k2 a_lv f_o_length, zo_X1 a_g a_m a_g_order a_g_depth a_g_from f_g_size f_g_known, (a_g_order, .inl (dA 0, 2880, .inl b_g_order)), (a_g_depth, .inl (dA 0, 2880, .inl b_g_depth)), (a_k1, .inl (dA 1, 2880, .inr (.inl b_k1)))] sz) := by
  unfold zf_X6_commonThings at hf
  refine Met.ofW (cc := cX6_commonThings) (maxL := 4) (ret := (some .int)) (by decide) rfl ?_
  intro p e s m args below meth c s₁ B hml hv
  obtain ⟨rfl, ⟨hsz, hP, hK, hD0⟩, hZ⟩ := hv
  have hx := B.exec
  have hb := B.bytes
  have hr := B.returns
  have ht : ∀ w ∈ zq_T, w.before ([.ref a_o] : List Value).toArray s = true := fun w hw => atoms_spec (ws := .code yX6_commonThings cX6_commonThings 4 (some .int) :: zq_T) B.pre w (List.mem_cons_of_mem _ hw)
  have hown : s.vm.findClass RX6 = some m.cls := findClass_of_methodNamed B.named
  have hlocks := B.notSynchronized
  subst hsz
  have hD := hD0.self (sz := s.heap.size)
  generalize hAe : va_A [zo_X6 a_o a_m a_g a_o_wanted a_k1 a_k2 a_lv f_o_length, zo_X1 a_g a_m a_g_order a_g_depth a_g_from f_g_size f_g_known, (a_g_order, .inl (dA 0, 2880, .inl b_g_order)), (a_g_depth, .inl (dA 0, 2880, .inl b_g_depth)), (a_k1, .inl (dA 1, 2880, .inr (.inl b_k1)))] s.heap.size = A at hD hZ ⊢
  have hA : ∀ q : Nat, s.heap.size ≤ q → A q := fun q h => by rw [← hAe]; exact Or.inr h
  clear hAe hD0
  have hS : va_S A s.heap s.heap [] := va_S.rf
  have hl := lv_entry ([.ref a_o]) (n := 4) (Nat.le_of_ble_eq_true rfl)
  rw [lg_entry_eq]
  generalize (lg_sl ([.ref a_o]) ++ List.replicate (4 - (lg_sl ([.ref a_o])).length) Slot.unset).toArray = ls at hl ⊢
  have hl : lv_has ls 4 [(0, .ref a_o)] := hl
  refine lv_iconst (v := (-1 : Int32)) (pc := 0) hx hb dX6_commonThings_0 (by decide) ?_
  refine lv_istore_n (lv' := [(1, .int (-1 : Int32)), (0, .ref a_o)]) (pc := 1) hx hb dX6_commonThings_1 rfl hl (by decide) rfl (fun ls hl => ?_)
  refine lv_aload_n (pc := 2) hx hb dX6_commonThings_2 rfl (lv_at hl 1 rfl) ?_
  refine lv_aload_n (pc := 3) hx hb dX6_commonThings_3 rfl (lv_at hl 1 rfl) ?_
  refine va_get (pc := 4) (D := (dC, dI)) (ci := 7) (v := .int f_o_length) (C := RX6) (T := TX6) (N := 7) hx hb ht zq_layX6 hown hK hP 0 rfl rfl 6 (by decide) (ht _ zq_454) (fun _ h9 => h9) rfl dX6_commonThings_4 ?_
  obtain ⟨v1, hv1, hf⟩ := zc_1 hf
  refine zx_Vi (pc := 7) (wc := [zo_X6 a_o a_m a_g a_o_wanted a_k1 a_k2 a_lv f_o_length, zo_X1 a_g a_m a_g_order a_g_depth a_g_from f_g_size f_g_known, (a_g_order, .inl (dA 0, 2880, .inl b_g_order)), (a_g_depth, .inl (dA 0, 2880, .inl b_g_depth))]) (wr := [(a_k1, .inl (dA 1, 2880, .inr (.inl b_k1)))]) (w1 := [zo_X6 a_o a_m a_g a_o_wanted a_k1 a_k2 a_lv f_o_length, zo_X1 a_g a_m a_g_order a_g_depth a_g_from f_g_size f_g_known, (a_g_order, .inl (dA 0, 2880, .inl b_g_order)), (a_g_depth, .inl (dA 0, 2880, .inl b_g_depth))]) (As := [.int f_o_length]) (rest := []) ⟨hx, hb, hml, hown, ht⟩ (zt_X6_within l dC dI dA adK adV _ a_o a_m a_g a_o_wanted a_k1 a_k2 a_lv a_g_order a_g_depth a_g_from n f_o_length f_g_size f_g_known b_g_order b_g_depth f_o_length v1 hv1) (cwV 1 ht (zq_V zq_472 zq_473 zq_474 zq_475 zq_466) rfl rfl rfl zk_X6_within ⟨Nat.le_of_ble_eq_true rfl, Nat.le_of_ble_eq_true rfl⟩) rfl rfl hZ hK hP hD hS hA [0, 1, 2, 3] [4] (by decide) (by decide) (by decide) rfl rfl rfl hl.1 (Nat.le_of_ble_eq_true rfl) dX6_commonThings_7 ⟨Nat.zero_le _, Nat.zero_le _⟩ rfl (fun H locs hP hD hS => ?_)
  have hP : va_P (dC, dI) zz_cls [(a_k1, .inl (dA 1, 2880, .inr (.inl b_k1))), zo_X6 a_o a_m a_g a_o_wanted a_k1 a_k2 a_lv f_o_length, zo_X1 a_g a_m a_g_order a_g_depth a_g_from f_g_size f_g_known, (a_g_order, .inl (dA 0, 2880, .inl b_g_order)), (a_g_depth, .inl (dA 0, 2880, .inl b_g_depth))] H := hP
  have hD : va_D A [(a_k1, .inl (dA 1, 2880, .inr (.inl b_k1))), zo_X6 a_o a_m a_g a_o_wanted a_k1 a_k2 a_lv f_o_length, zo_X1 a_g a_m a_g_order a_g_depth a_g_from f_g_size f_g_known, (a_g_order, .inl (dA 0, 2880, .inl b_g_order)), (a_g_depth, .inl (dA 0, 2880, .inl b_g_depth))] := hD
  refine lv_istore_n (lv' := [(2, .int v1), (1, .int (-1 : Int32)), (0, .ref a_o)]) (pc := 10) hx hb dX6_commonThings_10 rfl hl (by decide) rfl (fun ls hl => ?_)
  refine lv_iconst (v := (0 : Int32)) (pc := 11) hx hb dX6_commonThings_11 (by decide) ?_
  refine lv_istore_n (lv' := [(3, .int (0 : Int32)), (2, .int v1), (1, .int (-1 : Int32)), (0, .ref a_o)]) (pc := 12) hx hb dX6_commonThings_12 rfl hl (by decide) rfl (fun ls hl => ?_)
  obtain ⟨g13, v11, v12, hj, hf⟩ := zc_3 hf
  refine zj_join (pcJ := 58) (stk := []) (X := fun H locs ls => lv_has ls 4 [(1, .int v11)] ∧ va_P (dC, dI) zz_cls [zo_X6 a_o a_m a_g a_o_wanted a_k1 a_k2 a_lv f_o_length, zo_X1 a_g a_m a_g_order a_g_depth a_g_from f_g_size f_g_known, (a_g_order, .inl (dA 0, 2880, .inl b_g_order)), (a_g_depth, .inl (dA 0, 2880, .inl b_g_depth)), (a_k1, .inl (dA 1, 2880, .inr (.inl b_k1)))] H ∧ va_D A [zo_X6 a_o a_m a_g a_o_wanted a_k1 a_k2 a_lv f_o_length, zo_X1 a_g a_m a_g_order a_g_depth a_g_from f_g_size f_g_known, (a_g_order, .inl (dA 0, 2880, .inl b_g_order)), (a_g_depth, .inl (dA 0, 2880, .inl b_g_depth)), (a_k1, .inl (dA 1, 2880, .inr (.inl b_k1)))] ∧ va_S A s.heap H locs) (fun H locs ls hX => ?_) (fun E58 => ?_)
  · obtain ⟨hl, hP, hD, hS⟩ := hX
    clear hj
    refine lv_iload_n (pc := 58) hx hb dX6_commonThings_58 rfl (lv_at hl 0 rfl) ?_
    refine lv_iconst (v := (-1 : Int32)) (pc := 59) hx hb dX6_commonThings_59 (by decide) ?_
    refine lv_icmp_ne (tgt := 67) (pc := 60) hx hb dX6_commonThings_60 rfl (fun hc => ?_) (fun hc => ?_)
    · have hf := za_f hf hc
      refine lv_iload_n (pc := 67) hx hb dX6_commonThings_67 rfl (lv_at hl 0 rfl) ?_
      obtain rfl := Option.some.inj hf
      exact W.iret (pc := 68) hx hb hr (fun t ht hW => ⟨⟨_, (), rfl, rfl, zz_Bi (by rw [ht]; exact hP) (va_K.moved hW.alike hK) (hD)⟩, hS.F ht⟩) hS.2.2 dX6_commonThings_68
    · have hf := za_t hf hc
      refine lv_iconst (v := (0 : Int32)) (pc := 63) hx hb dX6_commonThings_63 (by decide) ?_
      refine lv_goto (tgt := 68) (pc := 64) hx hb dX6_commonThings_64 rfl ?_
      obtain rfl := Option.some.inj hf
      exact W.iret (pc := 68) hx hb hr (fun t ht hW => ⟨⟨_, (), rfl, rfl, zz_Bi (by rw [ht]; exact hP) (va_K.moved hW.alike hK) (hD)⟩, hS.F ht⟩) hS.2.2 dX6_commonThings_68
  clear hf
  refine zw_loop (pcH := 13) (X := fun v H locs ls => lv_has ls 4 [(0, .ref a_o), (1, .int v.1), (2, .int v1), (3, .int v.2)] ∧ va_P (dC, dI) zz_cls [zo_X6 a_o a_m a_g a_o_wanted a_k1 a_k2 a_lv f_o_length, zo_X1 a_g a_m a_g_order a_g_depth a_g_from f_g_size f_g_known, (a_g_order, .inl (dA 0, 2880, .inl b_g_order)), (a_g_depth, .inl (dA 0, 2880, .inl b_g_depth)), (a_k1, .inl (dA 1, 2880, .inr (.inl b_k1)))] H ∧ va_D A [zo_X6 a_o a_m a_g a_o_wanted a_k1 a_k2 a_lv f_o_length, zo_X1 a_g a_m a_g_order a_g_depth a_g_from f_g_size f_g_known, (a_g_order, .inl (dA 0, 2880, .inl b_g_order)), (a_g_depth, .inl (dA 0, 2880, .inl b_g_depth)), (a_k1, .inl (dA 1, 2880, .inr (.inl b_k1)))] ∧ va_S A s.heap H locs) hj (fun v w hf ih ex H locs ls hX => ?_) _ _ _ ⟨lv_sub hl [3, 2, 1, 0] rfl, hP.sub [1, 2, 3, 4, 0] rfl, hD.sub [1, 2, 3, 4, 0] (by decide) rfl, hS⟩
  clear hj
  obtain ⟨v2, v3⟩ := v
  obtain ⟨hl, hP, hD, hS⟩ := hX
  have hl : lv_has ls 4 [(0, .ref a_o), (1, .int v2), (2, .int v1), (3, .int v3)] := hl
  have hP : va_P (dC, dI) zz_cls [zo_X6 a_o a_m a_g a_o_wanted a_k1 a_k2 a_lv f_o_length, zo_X1 a_g a_m a_g_order a_g_depth a_g_from f_g_size f_g_known, (a_g_order, .inl (dA 0, 2880, .inl b_g_order)), (a_g_depth, .inl (dA 0, 2880, .inl b_g_depth)), (a_k1, .inl (dA 1, 2880, .inr (.inl b_k1)))] H := hP
  have hD : va_D A [zo_X6 a_o a_m a_g a_o_wanted a_k1 a_k2 a_lv f_o_length, zo_X1 a_g a_m a_g_order a_g_depth a_g_from f_g_size f_g_known, (a_g_order, .inl (dA 0, 2880, .inl b_g_order)), (a_g_depth, .inl (dA 0, 2880, .inl b_g_depth)), (a_k1, .inl (dA 1, 2880, .inr (.inl b_k1)))] := hD
  replace hf : zb_X6_commonThings_13 v1 b_g_order b_k1 v2 v3 = some w := hf
  unfold zb_X6_commonThings_13 at hf
  refine lv_iload_n (pc := 13) hx hb dX6_commonThings_13 rfl (lv_at hl 3 rfl) ?_
  refine lv_iload_n (pc := 14) hx hb dX6_commonThings_14 rfl (lv_at hl 2 rfl) ?_
  refine lv_icmp_ge (tgt := 58) (pc := 15) hx hb dX6_commonThings_15 rfl (fun hc => ?_) (fun hc => ?_)
  · have hf := za_t hf hc
    obtain rfl := Option.some.inj hf
    obtain ⟨rfl, rfl, rfl⟩ := zp_3 (ex (show ¬ (1 : Nat) = 0 by decide))
    exact E58 _ _ _ ⟨lv_sub hl [1] rfl, hP, hD, hS⟩
  · have hf := za_f hf hc
    refine lv_aload_n (pc := 18) hx hb dX6_commonThings_18 rfl (lv_at hl 0 rfl) ?_
    refine va_get (pc := 19) (D := (dC, dI)) (ci := 7) (v := .ref a_k1) (C := RX6) (T := TX6) (N := 7) hx hb ht zq_layX6 hown hK hP 0 rfl rfl 3 (by decide) (ht _ zq_458) (fun _ h9 => h9) rfl dX6_commonThings_19 ?_
    refine lv_aload_n (pc := 22) hx hb dX6_commonThings_22 rfl (lv_at hl 0 rfl) ?_
    refine va_get (pc := 23) (D := (dC, dI)) (ci := 7) (v := .ref a_g) (C := RX6) (T := TX6) (N := 7) hx hb ht zq_layX6 hown hK hP 0 rfl rfl 1 (by decide) (ht _ zq_456) (fun _ h9 => h9) rfl dX6_commonThings_23 ?_
    refine va_get (pc := 26) (D := (dC, dI)) (ci := 2) (v := .ref a_g_order) (C := RX1) (T := TX1) (N := 6) hx hb ht zq_layX1 hown hK hP 1 rfl rfl 1 (by decide) (ht _ zq_469) (fun _ h9 => h9) rfl dX6_commonThings_26 ?_
    refine lv_iload_n (pc := 29) hx hb dX6_commonThings_29 rfl (lv_at hl 3 rfl) ?_
    obtain ⟨v4, hv4, hf⟩ := zc_1 hf
    refine zw_iald (pc := 30) hx hb hK hP 2 0 rfl rfl hv4 dX6_commonThings_30 ?_
    obtain ⟨v5, hv5, hf⟩ := zc_1 hf
    refine zw_lald (pc := 31) hx hb hK hP 4 1 rfl rfl hv5 dX6_commonThings_31 ?_
    refine lv_lconst (v := (0 : Int64)) (pc := 32) hx hb dX6_commonThings_32 (by decide) ?_
    refine W.lcmp (pc := 33) hx hb dX6_commonThings_33 ?_
    obtain ⟨v9, hj, hf⟩ := zc_1 hf
    refine zj_join (pcJ := 52) (stk := []) (X := fun H locs ls => lv_has ls 4 [(0, .ref a_o), (1, .int v9), (2, .int v1), (3, .int v3)] ∧ va_P (dC, dI) zz_cls [zo_X6 a_o a_m a_g a_o_wanted a_k1 a_k2 a_lv f_o_length, zo_X1 a_g a_m a_g_order a_g_depth a_g_from f_g_size f_g_known, (a_g_order, .inl (dA 0, 2880, .inl b_g_order)), (a_g_depth, .inl (dA 0, 2880, .inl b_g_depth)), (a_k1, .inl (dA 1, 2880, .inr (.inl b_k1)))] H ∧ va_D A [zo_X6 a_o a_m a_g a_o_wanted a_k1 a_k2 a_lv f_o_length, zo_X1 a_g a_m a_g_order a_g_depth a_g_from f_g_size f_g_known, (a_g_order, .inl (dA 0, 2880, .inl b_g_order)), (a_g_depth, .inl (dA 0, 2880, .inl b_g_depth)), (a_k1, .inl (dA 1, 2880, .inr (.inl b_k1)))] ∧ va_S A s.heap H locs) (fun H locs ls hX => ?_) (fun J52 => ?_)
    · obtain ⟨hl, hP, hD, hS⟩ := hX
      clear hj
      obtain ⟨v10, hv10, hf⟩ := zc_1 hf
      refine lv_iinc (v := v10) (lv' := [(3, .int v10), (0, .ref a_o), (1, .int v9), (2, .int v1)]) (k := 3) (pc := 52) hx hb dX6_commonThings_52 hl rfl (Option.some.inj hv10) (by decide) rfl (fun ls hl => ?_)
      refine lv_goto (tgt := 13) (pc := 55) hx hb dX6_commonThings_55 rfl ?_
      obtain rfl := Option.some.inj hf
      exact ih rfl _ _ _ ⟨lv_sub hl [1, 2, 3, 0] rfl, hP, hD, hS⟩
    · clear hf
      have hf := hj
      clear hj
      refine lv_if_eq (tgt := 52) (pc := 34) hx hb dX6_commonThings_34 rfl (fun hc => ?_) (fun hc => ?_)
      · have hf := za_t hf hc
        obtain rfl := Option.some.inj hf
        exact J52 _ _ _ ⟨lv_sub hl [0, 1, 2, 3] rfl, hP, hD, hS⟩
      · have hf := za_f hf hc
        refine lv_iload_n (pc := 37) hx hb dX6_commonThings_37 rfl (lv_at hl 1 rfl) ?_
        refine lv_aload_n (pc := 38) hx hb dX6_commonThings_38 rfl (lv_at hl 0 rfl) ?_
        refine va_get (pc := 39) (D := (dC, dI)) (ci := 7) (v := .ref a_g) (C := RX6) (T := TX6) (N := 7) hx hb ht zq_layX6 hown hK hP 0 rfl rfl 1 (by decide) (ht _ zq_456) (fun _ h9 => h9) rfl dX6_commonThings_39 ?_
        refine va_get (pc := 42) (D := (dC, dI)) (ci := 2) (v := .ref a_g_order) (C := RX1) (T := TX1) (N := 6) hx hb ht zq_layX1 hown hK hP 1 rfl rfl 1 (by decide) (ht _ zq_469) (fun _ h9 => h9) rfl dX6_commonThings_42 ?_
        refine lv_iload_n (pc := 45) hx hb dX6_commonThings_45 rfl (lv_at hl 3 rfl) ?_
        obtain ⟨v6, hv6, hf⟩ := zc_1 hf
        refine zw_iald (pc := 46) hx hb hK hP 2 0 rfl rfl hv6 dX6_commonThings_46 ?_
        obtain ⟨v7, hv7, hf⟩ := zc_1 hf
        refine zx_Ni (pc := 47) (wc := []) (wr := [zo_X6 a_o a_m a_g a_o_wanted a_k1 a_k2 a_lv f_o_length, zo_X1 a_g a_m a_g_order a_g_depth a_g_from f_g_size f_g_known, (a_g_order, .inl (dA 0, 2880, .inl b_g_order)), (a_g_depth, .inl (dA 0, 2880, .inl b_g_depth)), (a_k1, .inl (dA 1, 2880, .inr (.inl b_k1)))]) (w1 := []) (As := [.int v6]) (rest := [.int v2]) ⟨hx, hb, hml, hown, ht⟩ (zt_X10_thingsOf l dC dI dA adK adV _ v6 v7 hv7) ⟨va_cnB 1 ht (zq_C zq_61) rfl rfl rfl (zx_n12 hZ) (ht _ zq_58) zk_X10_thingsOf.2 ⟨Nat.le_of_ble_eq_true rfl, Nat.le_of_ble_eq_true rfl⟩, ht _ zq_60, trivial⟩ hZ hK hP hD hS hA [] [0, 1, 2, 3, 4] (by decide) (by decide) (by decide) rfl rfl rfl hl.1 (Nat.le_of_ble_eq_true rfl) dX6_commonThings_47 ⟨Nat.zero_le _, Nat.zero_le _⟩ rfl (fun H locs hP hD hS => ?_)
        have hP : va_P (dC, dI) zz_cls [zo_X6 a_o a_m a_g a_o_wanted a_k1 a_k2 a_lv f_o_length, zo_X1 a_g a_m a_g_order a_g_depth a_g_from f_g_size f_g_known, (a_g_order, .inl (dA 0, 2880, .inl b_g_order)), (a_g_depth, .inl (dA 0, 2880, .inl b_g_depth)), (a_k1, .inl (dA 1, 2880, .inr (.inl b_k1)))] H := hP
        have hD : va_D A [zo_X6 a_o a_m a_g a_o_wanted a_k1 a_k2 a_lv f_o_length, zo_X1 a_g a_m a_g_order a_g_depth a_g_from f_g_size f_g_known, (a_g_order, .inl (dA 0, 2880, .inl b_g_order)), (a_g_depth, .inl (dA 0, 2880, .inl b_g_depth)), (a_k1, .inl (dA 1, 2880, .inr (.inl b_k1)))] := hD
        refine lv_iand (pc := 50) hx hb dX6_commonThings_50 ?_
        obtain ⟨v8, hv8, hf⟩ := zc_1 hf
        refine zw_top (hv8) ?_
        refine lv_istore_n (lv' := [(1, .int v8), (0, .ref a_o), (2, .int v1), (3, .int v3)]) (pc := 51) hx hb dX6_commonThings_51 rfl hl (by decide) rfl (fun ls hl => ?_)
        obtain rfl := Option.some.inj hf
        exact J52 _ _ _ ⟨lv_sub hl [1, 0, 2, 3] rfl, hP, hD, hS⟩

def zb_X6_firstOnward_12 (v1 : Int32) (a7 : (Nat → Int32)) (b_lv : (Nat → Int32)) (p2 : Int32) (v8 : Int32) : Option (Nat × Int32) :=
  if v1 ≤ v8 then
    some (2, v8)
  else
    zd_1 (za_ld a7 9 v8) (fun v9 =>
    zd_1 (za_ld b_lv 2880 v9) (fun v10 =>
    if ((v10 >>> (p2 &&& 31)) &&& (1 : Int32)) = 0 then
      zd_1 (some (v8 + (1 : Int32))) (fun v11 =>
      some (0, v11))
    else
      some (1, v8)))
def zf_X6_firstOnward (n : Nat) (f_m_found : Int32) (f_c_top : Int32) (f_c_things : Int32) (f_c_tiresFrom : Int32) (f_c_tiresTo : Int32) (f_c_mayFrom : Int32) (f_c_mayTo : Int32) (b_c_bars : (Nat → Int32)) (b_c_gives : (Nat → Int32)) (b_c_rough : (Nat → Int32)) (b_c_code : (Nat → Int32)) (f_w_wind : Int32) (b_w_told : (Nat → Int32)) (b_w_facts : (Nat → Int32)) (b_w_stack : (Nat → Int32)) (b_m_deeds : (Nat → Int32)) (b_m_ends : (Nat → Int32)) (b_lv : (Nat → Int32)) (p1 : Int32) (p2 : Int32) : Option (Int32 × Int32 × (Nat → Int32) × (Nat → Int32) × (Nat → Int32) × (Nat → Int32) × (Nat → Int32)) :=
  zd_7 (zf_X3_gather n f_m_found f_c_top f_c_things f_c_tiresFrom f_c_tiresTo f_c_mayFrom f_c_mayTo b_c_bars b_c_gives b_c_rough b_c_code f_w_wind b_w_told b_w_facts b_w_stack b_m_deeds b_m_ends p1) (fun v1 v2 a3 a4 a5 a6 a7 =>
  zd_2 (za_it (fun v => zb_X6_firstOnward_12 v1 a7 b_lv p2 v) n (0 : Int32)) (fun g13 v12 =>
  if g13 = 1 then
    some (v12, v2, a3, a4, a5, a6, a7)
  else if g13 = 2 then
    some ((-1 : Int32), v2, a3, a4, a5, a6, a7)
  else none))
theorem zk_X6_firstOnward : yX6_firstOnward.cls = RX6 ∧ yX6_firstOnward.cls ≠ "java/lang/invoke/MethodHandle" ∧ yX6_firstOnward.cls ≠ "java/lang/invoke/VarHandle" ∧ (parseMethodDescriptor yX6_firstOnward.desc).map (fun d => d.parameters.length) = some 2 := by decide +kernel
set_option maxHeartbeats 4000000 in
set_option maxRecDepth 100000 in
theorem zt_X6_firstOnward (l : Launch) (dC : Nat → ClassId) (dI : Nat → Nat → Nat) (dA : Nat → ClassId) (adK adV : Nat → Nat) (sz : Nat) (a_o : Nat) (a_m : Nat) (a_g : Nat) (a_o_wanted : Nat) (a_k1 : Nat) (a_k2 : Nat) (a_lv : Nat) (a_c : Nat) (a_w : Nat) (a_m_deeds : Nat) (a_m_ends : Nat) (a_c_bars : Nat) (a_c_gives : Nat) (a_c_rough : Nat) (a_c_code : Nat) (a_w_told : Nat) (a_w_facts : Nat) (a_w_stack : Nat) (n : Nat) (f_o_length : Int32) (f_m_found : Int32) (f_c_top : Int32) (f_c_things : Int32) (f_c_startRung : Int32) (f_c_startThings : Int32) (f_c_startStrength : Int32) (f_c_startWind : Int32) (f_c_slips : Int32) (f_c_lines : Int32) (f_c_coded : Int32) (f_c_tiresFrom : Int32) (f_c_tiresTo : Int32) (f_c_mayFrom : Int32) (f_c_mayTo : Int32) (f_w_wind : Int32) (b_c_bars : (Nat → Int32)) (b_c_gives : (Nat → Int32)) (b_c_rough : (Nat → Int32)) (b_c_code : (Nat → Int32)) (b_w_told : (Nat → Int32)) (b_w_facts : (Nat → Int32)) (b_w_stack : (Nat → Int32)) (b_m_deeds : (Nat → Int32)) (b_m_ends : (Nat → Int32)) (b_lv : (Nat → Int32)) (p1 : Int32) (p2 : Int32) (r0 : Int32) (o1 : Int32) (o2 : (Nat → Int32)) (o3 : (Nat → Int32)) (o4 : (Nat → Int32)) (o5 : (Nat → Int32)) (o6 : (Nat → Int32)) (hf : zf_X6_firstOnward n f_m_found f_c_top f_c_things f_c_tiresFrom f_c_tiresTo f_c_mayFrom f_c_mayTo b_c_bars b_c_gives b_c_rough b_c_code f_w_wind b_w_told b_w_facts b_w_stack b_m_deeds b_m_ends b_lv p1 p2 = some (r0, o1, o2, o3, o4, o5, o6)) : Met l yX6_firstOnward (.code yX6_firstOnward cX6_firstOnward 5 (some .int) :: zq_T) ({ frames := 5, cells := 0, slots := 0, locals := 152 }) (va_Pc [.ref a_o, .int p1, .int p2] (zx_M dC dI dA adK adV [zo_X6 a_o a_m a_g a_o_wanted a_k1 a_k2 a_lv f_o_length, zo_X3 a_m a_c a_w a_m_deeds a_m_ends f_m_found, zo_X0 a_c f_c_top f_c_things a_c_bars a_c_gives a_c_rough f_c_startRung f_c_startThings f_c_startStrength f_c_startWind f_c_slips f_c_lines a_c_code f_c_coded f_c_tiresFrom f_c_tiresTo f_c_mayFrom f_c_mayTo, (a_c_bars, .inl (dA 0, 9, .inl b_c_bars)), (a_c_gives, .inl (dA 0, 9, .inl b_c_gives)), (a_c_rough, .inl (dA 0, 9, .inl b_c_rough)), (a_c_code, .inl (dA 0, 900, .inl b_c_code)), zo_X2 a_w a_c a_w_told a_w_facts a_w_stack f_w_wind, (a_w_told, .inl (dA 0, 315, .inl b_w_told)), (a_w_facts, .inl (dA 0, 6, .inl b_w_facts)), (a_w_stack, .inl (dA 0, 64, .inl b_w_stack)), (a_m_deeds, .inl (dA 0, 9, .inl b_m_deeds)), (a_m_ends, .inl (dA 0, 9, .inl b_m_ends)), (a_lv, .inl (dA 0, 2880, .inl b_lv))] sz)) (va_Qi (fun (r : Int32) (_ : Unit) => r = r0) (fun _ t => zz_B dC dI dA (va_A [zo_X6 a_o a_m a_g a_o_wanted a_k1 a_k2 a_lv f_o_length, zo_X3 a_m a_c a_w a_m_deeds a_m_ends f_m_found, zo_X0 a_c f_c_top f_c_things a_c_bars a_c_gives a_c_rough f_c_startRung f_c_startThings f_c_startStrength f_c_startWind f_c_slips f_c_lines a_c_code f_c_coded f_c_tiresFrom f_c_tiresTo f_c_mayFrom f_c_mayTo, (a_c_bars, .inl (dA 0, 9, .inl b_c_bars)), (a_c_gives, .inl (dA 0, 9, .inl b_c_gives)), (a_c_rough, .inl (dA 0, 9, .inl b_c_rough)), (a_c_code, .inl (dA 0, 900, .inl b_c_code)), zo_X2 a_w a_c a_w_told a_w_facts a_w_stack f_w_wind, (a_w_told, .inl (dA 0, 315, .inl b_w_told)), (a_w_facts, .inl (dA 0, 6, .inl b_w_facts)), (a_w_stack, .inl (dA 0, 64, .inl b_w_stack)), (a_m_deeds, .inl (dA 0, 9, .inl b_m_deeds)), (a_m_ends, .inl (dA 0, 9, .inl b_m_ends)), (a_lv, .inl (dA 0, 2880, .inl b_lv))] sz) [zo_X6 a_o a_m a_g a_o_wanted a_k1 a_k2 a_lv f_o_length, zo_X3 a_m a_c a_w a_m_deeds a_m_ends o1, zo_X0 a_c f_c_top f_c_things a_c_bars a_c_gives a_c_rough f_c_startRung f_c_startThings f_c_startStrength f_c_startWind f_c_slips f_c_lines a_c_code f_c_coded f_c_tiresFrom f_c_tiresTo f_c_mayFrom f_c_mayTo, (a_c_bars, .inl (dA 0, 9, .inl b_c_bars)), (a_c_gives, .inl (dA 0, 9, .inl b_c_gives)), (a_c_rough, .inl (dA 0, 9, .inl b_c_rough)), (a_c_code, .inl (dA 0, 900, .inl b_c_code)), zo_X2 a_w a_c a_w_told a_w_facts a_w_stack f_w_wind, (a_w_told, .inl (dA 0, 315, .inl o2)), (a_w_facts, .inl (dA 0, 6, .inl o3)), (a_w_stack, .inl (dA 0, 64, .inl o4)), (a_m_deeds, .inl (dA 0, 9, .inl o5)), (a_m_ends, .inl (dA 0, 9, .inl o6)), (a_lv, .inl (dA 0, 2880, .inl b_lv))] t) (va_A [zo_X6 a_o a_m a_g a_o_wanted a_k1 a_k2 a_lv f_o_length, zo_X3 a_m a_c a_w a_m_deeds a_m_ends f_m_found, zo_X0 a_c f_c_top f_c_things a_c_bars a_c_gives a_c_rough f_c_startRung f_c_startThings f_c_startStrength f_c_startWind f_c_slips f_c_lines a_c_code f_c_coded f_c_tiresFrom f_c_tiresTo f_c_mayFrom f_c_mayTo, (a_c_bars, .inl (dA 0, 9, .inl b_c_bars)), (a_c_gives, .inl (dA 0, 9, .inl b_c_gives)), (a_c_rough, .inl (dA 0, 9, .inl b_c_rough)), (a_c_code, .inl (dA 0, 900, .inl b_c_code)), zo_X2 a_w a_c a_w_told a_w_facts a_w_stack f_w_wind, (a_w_told, .inl (dA 0, 315, .inl b_w_told)), (a_w_facts, .inl (dA 0, 6, .inl b_w_facts)), (a_w_stack, .inl (dA 0, 64, .inl b_w_stack)), (a_m_deeds, .inl (dA 0, 9, .inl b_m_deeds)), (a_m_ends, .inl (dA 0, 9, .inl b_m_ends)), (a_lv, .inl (dA 0, 2880, .inl b_lv))] sz)) 0 0 (va_A [zo_X6 a_o a_m a_g a_o_wanted a_k1 a_k2 a_lv f_o_length, zo_X3 a_m a_c a_w a_m_deeds a_m_ends f_m_found, zo_X0 a_c f_c_top f_c_things a_c_bars a_c_gives a_c_rough f_c_startRung f_c_startThings f_c_startStrength f_c_startWind f_c_slips f_c_lines a_c_code f_c_coded f_c_tiresFrom f_c_tiresTo f_c_mayFrom f_c_mayTo, (a_c_bars, .inl (dA 0, 9, .inl b_c_bars)), (a_c_gives, .inl (dA 0, 9, .inl b_c_gives)), (a_c_rough, .inl (dA 0, 9, .inl b_c_rough)), (a_c_code, .inl (dA 0, 900, .inl b_c_code)), zo_X2 a_w a_c a_w_told a_w_facts a_w_stack f_w_wind, (a_w_told, .inl (dA 0, 315, .inl b_w_told)), (a_w_facts, .inl (dA 0, 6, .inl b_w_facts)), (a_w_stack, .inl (dA 0, 64, .inl b_w_stack)), (a_m_deeds, .inl (dA 0, 9, .inl b_m_deeds)), (a_m_ends, .inl (dA 0, 9, .inl b_m_ends)), (a_lv, .inl (dA 0, 2880, .inl b_lv))] sz) := by
  unfold zf_X6_firstOnward at hf
  refine Met.ofW (cc := cX6_firstOnward) (maxL := 5) (ret := (some .int)) (by decide) rfl ?_
  intro p e s m args below meth c s₁ B hml hv
  obtain ⟨rfl, ⟨hsz, hP, hK, hD0⟩, hZ⟩ := hv
  have hx := B.exec
  have hb := B.bytes
  have hr := B.returns
  have ht : ∀ w ∈ zq_T, w.before ([.ref a_o, .int p1, .int p2] : List Value).toArray s = true := fun w hw => atoms_spec (ws := .code yX6_firstOnward cX6_firstOnward 5 (some .int) :: zq_T) B.pre w (List.mem_cons_of_mem _ hw)
  have hown : s.vm.findClass RX6 = some m.cls := findClass_of_methodNamed B.named
  have hlocks := B.notSynchronized
  subst hsz
  have hD := hD0.self (sz := s.heap.size)
  generalize hAe : va_A [zo_X6 a_o a_m a_g a_o_wanted a_k1 a_k2 a_lv f_o_length, zo_X3 a_m a_c a_w a_m_deeds a_m_ends f_m_found, zo_X0 a_c f_c_top f_c_things a_c_bars a_c_gives a_c_rough f_c_startRung f_c_startThings f_c_startStrength f_c_startWind f_c_slips f_c_lines a_c_code f_c_coded f_c_tiresFrom f_c_tiresTo f_c_mayFrom f_c_mayTo, (a_c_bars, .inl (dA 0, 9, .inl b_c_bars)), (a_c_gives, .inl (dA 0, 9, .inl b_c_gives)), (a_c_rough, .inl (dA 0, 9, .inl b_c_rough)), (a_c_code, .inl (dA 0, 900, .inl b_c_code)), zo_X2 a_w a_c a_w_told a_w_facts a_w_stack f_w_wind, (a_w_told, .inl (dA 0, 315, .inl b_w_told)), (a_w_facts, .inl (dA 0, 6, .inl b_w_facts)), (a_w_stack, .inl (dA 0, 64, .inl b_w_stack)), (a_m_deeds, .inl (dA 0, 9, .inl b_m_deeds)), (a_m_ends, .inl (dA 0, 9, .inl b_m_ends)), (a_lv, .inl (dA 0, 2880, .inl b_lv))] s.heap.size = A at hD hZ ⊢
  have hA : ∀ q : Nat, s.heap.size ≤ q → A q := fun q h => by rw [← hAe]; exact Or.inr h
  clear hAe hD0
  have hS : va_S A s.heap s.heap [] := va_S.rf
  have hl := lv_entry ([.ref a_o, .int p1, .int p2]) (n := 5) (Nat.le_of_ble_eq_true rfl)
  rw [lg_entry_eq]
  generalize (lg_sl ([.ref a_o, .int p1, .int p2]) ++ List.replicate (5 - (lg_sl ([.ref a_o, .int p1, .int p2])).length) Slot.unset).toArray = ls at hl ⊢
  have hl : lv_has ls 5 [(0, .ref a_o), (1, .int p1), (2, .int p2)] := hl
  refine lv_aload_n (pc := 0) hx hb dX6_firstOnward_0 rfl (lv_at hl 0 rfl) ?_
  refine va_get (pc := 1) (D := (dC, dI)) (ci := 7) (v := .ref a_m) (C := RX6) (T := TX6) (N := 7) hx hb ht zq_layX6 hown hK hP 0 rfl rfl 0 (by decide) (ht _ zq_455) (fun _ h9 => h9) rfl dX6_firstOnward_1 ?_
  refine lv_iload_n (pc := 4) hx hb dX6_firstOnward_4 rfl (lv_at hl 1 rfl) ?_
  obtain ⟨v1, v2, a3, a4, a5, a6, a7, hv1, hf⟩ := zc_7 hf
  refine zx_Vi (pc := 5) (wc := [zo_X3 a_m a_c a_w a_m_deeds a_m_ends f_m_found, zo_X0 a_c f_c_top f_c_things a_c_bars a_c_gives a_c_rough f_c_startRung f_c_startThings f_c_startStrength f_c_startWind f_c_slips f_c_lines a_c_code f_c_coded f_c_tiresFrom f_c_tiresTo f_c_mayFrom f_c_mayTo, (a_c_bars, .inl (dA 0, 9, .inl b_c_bars)), (a_c_gives, .inl (dA 0, 9, .inl b_c_gives)), (a_c_rough, .inl (dA 0, 9, .inl b_c_rough)), (a_c_code, .inl (dA 0, 900, .inl b_c_code)), zo_X2 a_w a_c a_w_told a_w_facts a_w_stack f_w_wind, (a_w_told, .inl (dA 0, 315, .inl b_w_told)), (a_w_facts, .inl (dA 0, 6, .inl b_w_facts)), (a_w_stack, .inl (dA 0, 64, .inl b_w_stack)), (a_m_deeds, .inl (dA 0, 9, .inl b_m_deeds)), (a_m_ends, .inl (dA 0, 9, .inl b_m_ends))]) (wr := [zo_X6 a_o a_m a_g a_o_wanted a_k1 a_k2 a_lv f_o_length, (a_lv, .inl (dA 0, 2880, .inl b_lv))]) (w1 := [zo_X3 a_m a_c a_w a_m_deeds a_m_ends v2, zo_X0 a_c f_c_top f_c_things a_c_bars a_c_gives a_c_rough f_c_startRung f_c_startThings f_c_startStrength f_c_startWind f_c_slips f_c_lines a_c_code f_c_coded f_c_tiresFrom f_c_tiresTo f_c_mayFrom f_c_mayTo, (a_c_bars, .inl (dA 0, 9, .inl b_c_bars)), (a_c_gives, .inl (dA 0, 9, .inl b_c_gives)), (a_c_rough, .inl (dA 0, 9, .inl b_c_rough)), (a_c_code, .inl (dA 0, 900, .inl b_c_code)), zo_X2 a_w a_c a_w_told a_w_facts a_w_stack f_w_wind, (a_w_told, .inl (dA 0, 315, .inl a3)), (a_w_facts, .inl (dA 0, 6, .inl a4)), (a_w_stack, .inl (dA 0, 64, .inl a5)), (a_m_deeds, .inl (dA 0, 9, .inl a6)), (a_m_ends, .inl (dA 0, 9, .inl a7))]) (As := [.int p1]) (rest := []) ⟨hx, hb, hml, hown, ht⟩ (zt_X3_gather l dC dI dA adK adV _ a_m a_c a_w a_m_deeds a_m_ends a_c_bars a_c_gives a_c_rough a_c_code a_w_told a_w_facts a_w_stack n f_m_found f_c_top f_c_things f_c_startRung f_c_startThings f_c_startStrength f_c_startWind f_c_slips f_c_lines f_c_coded f_c_tiresFrom f_c_tiresTo f_c_mayFrom f_c_mayTo f_w_wind b_c_bars b_c_gives b_c_rough b_c_code b_w_told b_w_facts b_w_stack b_m_deeds b_m_ends p1 v1 v2 a3 a4 a5 a6 a7 hv1) (cwV 1 ht (zq_V zq_476 zq_48 zq_49 zq_50 zq_51) rfl rfl rfl zk_X3_gather ⟨Nat.le_of_ble_eq_true rfl, Nat.le_of_ble_eq_true rfl⟩) rfl rfl hZ hK hP hD hS hA [1, 2, 3, 4, 5, 6, 7, 8, 9, 10, 11, 12] [0, 13] (by decide) (by decide) (by decide) rfl rfl rfl hl.1 (Nat.le_of_ble_eq_true rfl) dX6_firstOnward_5 ⟨Nat.zero_le _, Nat.zero_le _⟩ rfl (fun H locs hP hD hS => ?_)
  have hP : va_P (dC, dI) zz_cls [zo_X6 a_o a_m a_g a_o_wanted a_k1 a_k2 a_lv f_o_length, (a_lv, .inl (dA 0, 2880, .inl b_lv)), zo_X3 a_m a_c a_w a_m_deeds a_m_ends v2, zo_X0 a_c f_c_top f_c_things a_c_bars a_c_gives a_c_rough f_c_startRung f_c_startThings f_c_startStrength f_c_startWind f_c_slips f_c_lines a_c_code f_c_coded f_c_tiresFrom f_c_tiresTo f_c_mayFrom f_c_mayTo, (a_c_bars, .inl (dA 0, 9, .inl b_c_bars)), (a_c_gives, .inl (dA 0, 9, .inl b_c_gives)), (a_c_rough, .inl (dA 0, 9, .inl b_c_rough)), (a_c_code, .inl (dA 0, 900, .inl b_c_code)), zo_X2 a_w a_c a_w_told a_w_facts a_w_stack f_w_wind, (a_w_told, .inl (dA 0, 315, .inl a3)), (a_w_facts, .inl (dA 0, 6, .inl a4)), (a_w_stack, .inl (dA 0, 64, .inl a5)), (a_m_deeds, .inl (dA 0, 9, .inl a6)), (a_m_ends, .inl (dA 0, 9, .inl a7))] H := hP
  have hD : va_D A [zo_X6 a_o a_m a_g a_o_wanted a_k1 a_k2 a_lv f_o_length, (a_lv, .inl (dA 0, 2880, .inl b_lv)), zo_X3 a_m a_c a_w a_m_deeds a_m_ends v2, zo_X0 a_c f_c_top f_c_things a_c_bars a_c_gives a_c_rough f_c_startRung f_c_startThings f_c_startStrength f_c_startWind f_c_slips f_c_lines a_c_code f_c_coded f_c_tiresFrom f_c_tiresTo f_c_mayFrom f_c_mayTo, (a_c_bars, .inl (dA 0, 9, .inl b_c_bars)), (a_c_gives, .inl (dA 0, 9, .inl b_c_gives)), (a_c_rough, .inl (dA 0, 9, .inl b_c_rough)), (a_c_code, .inl (dA 0, 900, .inl b_c_code)), zo_X2 a_w a_c a_w_told a_w_facts a_w_stack f_w_wind, (a_w_told, .inl (dA 0, 315, .inl a3)), (a_w_facts, .inl (dA 0, 6, .inl a4)), (a_w_stack, .inl (dA 0, 64, .inl a5)), (a_m_deeds, .inl (dA 0, 9, .inl a6)), (a_m_ends, .inl (dA 0, 9, .inl a7))] := hD
  refine lv_istore_n (lv' := [(3, .int v1), (0, .ref a_o), (1, .int p1), (2, .int p2)]) (pc := 8) hx hb dX6_firstOnward_8 rfl hl (by decide) rfl (fun ls hl => ?_)
  refine lv_iconst (v := (0 : Int32)) (pc := 9) hx hb dX6_firstOnward_9 (by decide) ?_
  refine lv_istore (lv' := [(4, .int (0 : Int32)), (3, .int v1), (0, .ref a_o), (1, .int p1), (2, .int p2)]) (pc := 10) hx hb dX6_firstOnward_10 hl (by decide) rfl (fun ls hl => ?_)
  obtain ⟨g13, v12, hj, hf⟩ := zc_2 hf
  refine zj_join (pcJ := 40) (stk := []) (X := fun H locs ls => g13 = 1 ∧ lv_has ls 5 [(4, .int v12)] ∧ va_P (dC, dI) zz_cls [zo_X6 a_o a_m a_g a_o_wanted a_k1 a_k2 a_lv f_o_length, zo_X3 a_m a_c a_w a_m_deeds a_m_ends v2, zo_X0 a_c f_c_top f_c_things a_c_bars a_c_gives a_c_rough f_c_startRung f_c_startThings f_c_startStrength f_c_startWind f_c_slips f_c_lines a_c_code f_c_coded f_c_tiresFrom f_c_tiresTo f_c_mayFrom f_c_mayTo, (a_c_bars, .inl (dA 0, 9, .inl b_c_bars)), (a_c_gives, .inl (dA 0, 9, .inl b_c_gives)), (a_c_rough, .inl (dA 0, 9, .inl b_c_rough)), (a_c_code, .inl (dA 0, 900, .inl b_c_code)), zo_X2 a_w a_c a_w_told a_w_facts a_w_stack f_w_wind, (a_w_told, .inl (dA 0, 315, .inl a3)), (a_w_facts, .inl (dA 0, 6, .inl a4)), (a_w_stack, .inl (dA 0, 64, .inl a5)), (a_m_deeds, .inl (dA 0, 9, .inl a6)), (a_m_ends, .inl (dA 0, 9, .inl a7)), (a_lv, .inl (dA 0, 2880, .inl b_lv))] H ∧ va_D A [zo_X6 a_o a_m a_g a_o_wanted a_k1 a_k2 a_lv f_o_length, zo_X3 a_m a_c a_w a_m_deeds a_m_ends v2, zo_X0 a_c f_c_top f_c_things a_c_bars a_c_gives a_c_rough f_c_startRung f_c_startThings f_c_startStrength f_c_startWind f_c_slips f_c_lines a_c_code f_c_coded f_c_tiresFrom f_c_tiresTo f_c_mayFrom f_c_mayTo, (a_c_bars, .inl (dA 0, 9, .inl b_c_bars)), (a_c_gives, .inl (dA 0, 9, .inl b_c_gives)), (a_c_rough, .inl (dA 0, 9, .inl b_c_rough)), (a_c_code, .inl (dA 0, 900, .inl b_c_code)), zo_X2 a_w a_c a_w_told a_w_facts a_w_stack f_w_wind, (a_w_told, .inl (dA 0, 315, .inl a3)), (a_w_facts, .inl (dA 0, 6, .inl a4)), (a_w_stack, .inl (dA 0, 64, .inl a5)), (a_m_deeds, .inl (dA 0, 9, .inl a6)), (a_m_ends, .inl (dA 0, 9, .inl a7)), (a_lv, .inl (dA 0, 2880, .inl b_lv))] ∧ va_S A s.heap H locs) (fun H locs ls hX => ?_) (fun E40 => ?_)
  · obtain ⟨htg, hl, hP, hD, hS⟩ := hX
    clear hj
    have hf := za_t hf htg
    refine lv_iload (pc := 40) hx hb dX6_firstOnward_40 (lv_at hl 0 rfl) ?_
    obtain ⟨rfl, rfl, rfl, rfl, rfl, rfl, rfl⟩ := zi_7 hf
    exact W.iret (pc := 42) hx hb hr (fun t ht hW => ⟨⟨_, (), rfl, rfl, zz_Bi (by rw [ht]; exact hP) (va_K.moved hW.alike hK) (hD)⟩, hS.F ht⟩) hS.2.2 dX6_firstOnward_42
  refine zj_join (pcJ := 49) (stk := []) (X := fun H locs ls => g13 = 2 ∧ lv_has ls 5 [] ∧ va_P (dC, dI) zz_cls [zo_X6 a_o a_m a_g a_o_wanted a_k1 a_k2 a_lv f_o_length, zo_X3 a_m a_c a_w a_m_deeds a_m_ends v2, zo_X0 a_c f_c_top f_c_things a_c_bars a_c_gives a_c_rough f_c_startRung f_c_startThings f_c_startStrength f_c_startWind f_c_slips f_c_lines a_c_code f_c_coded f_c_tiresFrom f_c_tiresTo f_c_mayFrom f_c_mayTo, (a_c_bars, .inl (dA 0, 9, .inl b_c_bars)), (a_c_gives, .inl (dA 0, 9, .inl b_c_gives)), (a_c_rough, .inl (dA 0, 9, .inl b_c_rough)), (a_c_code, .inl (dA 0, 900, .inl b_c_code)), zo_X2 a_w a_c a_w_told a_w_facts a_w_stack f_w_wind, (a_w_told, .inl (dA 0, 315, .inl a3)), (a_w_facts, .inl (dA 0, 6, .inl a4)), (a_w_stack, .inl (dA 0, 64, .inl a5)), (a_m_deeds, .inl (dA 0, 9, .inl a6)), (a_m_ends, .inl (dA 0, 9, .inl a7)), (a_lv, .inl (dA 0, 2880, .inl b_lv))] H ∧ va_D A [zo_X6 a_o a_m a_g a_o_wanted a_k1 a_k2 a_lv f_o_length, zo_X3 a_m a_c a_w a_m_deeds a_m_ends v2, zo_X0 a_c f_c_top f_c_things a_c_bars a_c_gives a_c_rough f_c_startRung f_c_startThings f_c_startStrength f_c_startWind f_c_slips f_c_lines a_c_code f_c_coded f_c_tiresFrom f_c_tiresTo f_c_mayFrom f_c_mayTo, (a_c_bars, .inl (dA 0, 9, .inl b_c_bars)), (a_c_gives, .inl (dA 0, 9, .inl b_c_gives)), (a_c_rough, .inl (dA 0, 9, .inl b_c_rough)), (a_c_code, .inl (dA 0, 900, .inl b_c_code)), zo_X2 a_w a_c a_w_told a_w_facts a_w_stack f_w_wind, (a_w_told, .inl (dA 0, 315, .inl a3)), (a_w_facts, .inl (dA 0, 6, .inl a4)), (a_w_stack, .inl (dA 0, 64, .inl a5)), (a_m_deeds, .inl (dA 0, 9, .inl a6)), (a_m_ends, .inl (dA 0, 9, .inl a7)), (a_lv, .inl (dA 0, 2880, .inl b_lv))] ∧ va_S A s.heap H locs) (fun H locs ls hX => ?_) (fun E49 => ?_)
  · obtain ⟨htg, hl, hP, hD, hS⟩ := hX
    clear hj
    have hf := za_f hf (by rw [htg]; decide)
    have hf := za_t hf htg
    refine lv_iconst (v := (-1 : Int32)) (pc := 49) hx hb dX6_firstOnward_49 (by decide) ?_
    obtain ⟨rfl, rfl, rfl, rfl, rfl, rfl, rfl⟩ := zi_7 hf
    exact W.iret (pc := 50) hx hb hr (fun t ht hW => ⟨⟨_, (), rfl, rfl, zz_Bi (by rw [ht]; exact hP) (va_K.moved hW.alike hK) (hD)⟩, hS.F ht⟩) hS.2.2 dX6_firstOnward_50
  clear hf
  refine zw_loop (pcH := 12) (X := fun v H locs ls => lv_has ls 5 [(0, .ref a_o), (2, .int p2), (3, .int v1), (4, .int v)] ∧ va_P (dC, dI) zz_cls [zo_X6 a_o a_m a_g a_o_wanted a_k1 a_k2 a_lv f_o_length, zo_X3 a_m a_c a_w a_m_deeds a_m_ends v2, zo_X0 a_c f_c_top f_c_things a_c_bars a_c_gives a_c_rough f_c_startRung f_c_startThings f_c_startStrength f_c_startWind f_c_slips f_c_lines a_c_code f_c_coded f_c_tiresFrom f_c_tiresTo f_c_mayFrom f_c_mayTo, (a_c_bars, .inl (dA 0, 9, .inl b_c_bars)), (a_c_gives, .inl (dA 0, 9, .inl b_c_gives)), (a_c_rough, .inl (dA 0, 9, .inl b_c_rough)), (a_c_code, .inl (dA 0, 900, .inl b_c_code)), zo_X2 a_w a_c a_w_told a_w_facts a_w_stack f_w_wind, (a_w_told, .inl (dA 0, 315, .inl a3)), (a_w_facts, .inl (dA 0, 6, .inl a4)), (a_w_stack, .inl (dA 0, 64, .inl a5)), (a_m_deeds, .inl (dA 0, 9, .inl a6)), (a_m_ends, .inl (dA 0, 9, .inl a7)), (a_lv, .inl (dA 0, 2880, .inl b_lv))] H ∧ va_D A [zo_X6 a_o a_m a_g a_o_wanted a_k1 a_k2 a_lv f_o_length, zo_X3 a_m a_c a_w a_m_deeds a_m_ends v2, zo_X0 a_c f_c_top f_c_things a_c_bars a_c_gives a_c_rough f_c_startRung f_c_startThings f_c_startStrength f_c_startWind f_c_slips f_c_lines a_c_code f_c_coded f_c_tiresFrom f_c_tiresTo f_c_mayFrom f_c_mayTo, (a_c_bars, .inl (dA 0, 9, .inl b_c_bars)), (a_c_gives, .inl (dA 0, 9, .inl b_c_gives)), (a_c_rough, .inl (dA 0, 9, .inl b_c_rough)), (a_c_code, .inl (dA 0, 900, .inl b_c_code)), zo_X2 a_w a_c a_w_told a_w_facts a_w_stack f_w_wind, (a_w_told, .inl (dA 0, 315, .inl a3)), (a_w_facts, .inl (dA 0, 6, .inl a4)), (a_w_stack, .inl (dA 0, 64, .inl a5)), (a_m_deeds, .inl (dA 0, 9, .inl a6)), (a_m_ends, .inl (dA 0, 9, .inl a7)), (a_lv, .inl (dA 0, 2880, .inl b_lv))] ∧ va_S A s.heap H locs) hj (fun v w hf ih ex H locs ls hX => ?_) _ _ _ ⟨lv_sub hl [2, 4, 1, 0] rfl, hP.sub [0, 2, 3, 4, 5, 6, 7, 8, 9, 10, 11, 12, 13, 1] rfl, hD.sub [0, 2, 3, 4, 5, 6, 7, 8, 9, 10, 11, 12, 13, 1] (by decide) rfl, hS⟩
  clear hj
  generalize v = v8 at hf hX
  obtain ⟨hl, hP, hD, hS⟩ := hX
  have hl : lv_has ls 5 [(0, .ref a_o), (2, .int p2), (3, .int v1), (4, .int v8)] := hl
  have hP : va_P (dC, dI) zz_cls [zo_X6 a_o a_m a_g a_o_wanted a_k1 a_k2 a_lv f_o_length, zo_X3 a_m a_c a_w a_m_deeds a_m_ends v2, zo_X0 a_c f_c_top f_c_things a_c_bars a_c_gives a_c_rough f_c_startRung f_c_startThings f_c_startStrength f_c_startWind f_c_slips f_c_lines a_c_code f_c_coded f_c_tiresFrom f_c_tiresTo f_c_mayFrom f_c_mayTo, (a_c_bars, .inl (dA 0, 9, .inl b_c_bars)), (a_c_gives, .inl (dA 0, 9, .inl b_c_gives)), (a_c_rough, .inl (dA 0, 9, .inl b_c_rough)), (a_c_code, .inl (dA 0, 900, .inl b_c_code)), zo_X2 a_w a_c a_w_told a_w_facts a_w_stack f_w_wind, (a_w_told, .inl (dA 0, 315, .inl a3)), (a_w_facts, .inl (dA 0, 6, .inl a4)), (a_w_stack, .inl (dA 0, 64, .inl a5)), (a_m_deeds, .inl (dA 0, 9, .inl a6)), (a_m_ends, .inl (dA 0, 9, .inl a7)), (a_lv, .inl (dA 0, 2880, .inl b_lv))] H := hP
  have hD : va_D A [zo_X6 a_o a_m a_g a_o_wanted a_k1 a_k2 a_lv f_o_length, zo_X3 a_m a_c a_w a_m_deeds a_m_ends v2, zo_X0 a_c f_c_top f_c_things a_c_bars a_c_gives a_c_rough f_c_startRung f_c_startThings f_c_startStrength f_c_startWind f_c_slips f_c_lines a_c_code f_c_coded f_c_tiresFrom f_c_tiresTo f_c_mayFrom f_c_mayTo, (a_c_bars, .inl (dA 0, 9, .inl b_c_bars)), (a_c_gives, .inl (dA 0, 9, .inl b_c_gives)), (a_c_rough, .inl (dA 0, 9, .inl b_c_rough)), (a_c_code, .inl (dA 0, 900, .inl b_c_code)), zo_X2 a_w a_c a_w_told a_w_facts a_w_stack f_w_wind, (a_w_told, .inl (dA 0, 315, .inl a3)), (a_w_facts, .inl (dA 0, 6, .inl a4)), (a_w_stack, .inl (dA 0, 64, .inl a5)), (a_m_deeds, .inl (dA 0, 9, .inl a6)), (a_m_ends, .inl (dA 0, 9, .inl a7)), (a_lv, .inl (dA 0, 2880, .inl b_lv))] := hD
  replace hf : zb_X6_firstOnward_12 v1 a7 b_lv p2 v8 = some w := hf
  unfold zb_X6_firstOnward_12 at hf
  refine lv_iload (pc := 12) hx hb dX6_firstOnward_12 (lv_at hl 3 rfl) ?_
  refine lv_iload_n (pc := 14) hx hb dX6_firstOnward_14 rfl (lv_at hl 2 rfl) ?_
  refine lv_icmp_ge (tgt := 49) (pc := 15) hx hb dX6_firstOnward_15 rfl (fun hc => ?_) (fun hc => ?_)
  · have hf := za_t hf hc
    obtain rfl := Option.some.inj hf
    obtain ⟨rfl, rfl⟩ := zp_2 (ex (show ¬ (2 : Nat) = 0 by decide))
    exact E49 _ _ _ ⟨rfl, lv_sub hl [] rfl, hP, hD, hS⟩
  · have hf := za_f hf hc
    refine lv_aload_n (pc := 18) hx hb dX6_firstOnward_18 rfl (lv_at hl 0 rfl) ?_
    refine va_get (pc := 19) (D := (dC, dI)) (ci := 7) (v := .ref a_lv) (C := RX6) (T := TX6) (N := 7) hx hb ht zq_layX6 hown hK hP 0 rfl rfl 5 (by decide) (ht _ zq_457) (fun _ h9 => h9) rfl dX6_firstOnward_19 ?_
    refine lv_aload_n (pc := 22) hx hb dX6_firstOnward_22 rfl (lv_at hl 0 rfl) ?_
    refine va_get (pc := 23) (D := (dC, dI)) (ci := 7) (v := .ref a_m) (C := RX6) (T := TX6) (N := 7) hx hb ht zq_layX6 hown hK hP 0 rfl rfl 0 (by decide) (ht _ zq_455) (fun _ h9 => h9) rfl dX6_firstOnward_23 ?_
    refine va_get (pc := 26) (D := (dC, dI)) (ci := 4) (v := .ref a_m_ends) (C := RX3) (T := TX3) (N := 5) hx hb ht zq_layX3 hown hK hP 1 rfl rfl 3 (by decide) (ht _ zq_471) (fun _ h9 => h9) rfl dX6_firstOnward_26 ?_
    refine lv_iload (pc := 29) hx hb dX6_firstOnward_29 (lv_at hl 3 rfl) ?_
    obtain ⟨v9, hv9, hf⟩ := zc_1 hf
    refine zw_iald (pc := 31) hx hb hK hP 12 0 rfl rfl hv9 dX6_firstOnward_31 ?_
    obtain ⟨v10, hv10, hf⟩ := zc_1 hf
    refine zw_iald (pc := 32) hx hb hK hP 13 0 rfl rfl hv10 dX6_firstOnward_32 ?_
    refine lv_iload_n (pc := 33) hx hb dX6_firstOnward_33 rfl (lv_at hl 1 rfl) ?_
    refine lv_ishr (pc := 34) hx hb dX6_firstOnward_34 ?_
    refine lv_iconst (v := (1 : Int32)) (pc := 35) hx hb dX6_firstOnward_35 (by decide) ?_
    refine lv_iand (pc := 36) hx hb dX6_firstOnward_36 ?_
    refine lv_if_eq (tgt := 43) (pc := 37) hx hb dX6_firstOnward_37 rfl (fun hc => ?_) (fun hc => ?_)
    · have hf := za_t hf hc
      obtain ⟨v11, hv11, hf⟩ := zc_1 hf
      refine lv_iinc (v := v11) (lv' := [(4, .int v11), (0, .ref a_o), (2, .int p2), (3, .int v1)]) (k := 3) (pc := 43) hx hb dX6_firstOnward_43 hl rfl (Option.some.inj hv11) (by decide) rfl (fun ls hl => ?_)
      refine lv_goto (tgt := 12) (pc := 46) hx hb dX6_firstOnward_46 rfl ?_
      obtain rfl := Option.some.inj hf
      exact ih rfl _ _ _ ⟨lv_sub hl [1, 2, 3, 0] rfl, hP, hD, hS⟩
    · have hf := za_f hf hc
      obtain rfl := Option.some.inj hf
      obtain ⟨rfl, rfl⟩ := zp_2 (ex (show ¬ (1 : Nat) = 0 by decide))
      exact E40 _ _ _ ⟨rfl, lv_sub hl [3] rfl, hP, hD, hS⟩

def zb_X6_dropDeadEnds_19 (v10 : Int32) (b_g_order : (Nat → Int32)) (v2 : Int32) (n : Nat) (f_c_top : Int32) (f_c_things : Int32) (f_c_tiresFrom : Int32) (f_c_tiresTo : Int32) (f_c_mayFrom : Int32) (f_c_mayTo : Int32) (b_c_bars : (Nat → Int32)) (b_c_gives : (Nat → Int32)) (b_c_rough : (Nat → Int32)) (b_c_code : (Nat → Int32)) (f_w_wind : Int32) (v11 : Int32) (v12 : Int32) (a13 : (Nat → Int32)) (a14 : (Nat → Int32)) (a15 : (Nat → Int32)) (a16 : (Nat → Int32)) (a17 : (Nat → Int32)) (a18 : (Nat → Int32)) : Option (Nat × Int32 × Int32 × (Nat → Int32) × (Nat → Int32) × (Nat → Int32) × (Nat → Int32) × (Nat → Int32) × (Nat → Int32)) :=
  if v10 ≤ v11 then
    some (1, v11, v12, a13, a14, a15, a16, a17, a18)
  else
    zd_1 (za_ld b_g_order 2880 v11) (fun v19 =>
    zd_1 (za_ld a18 2880 v19) (fun v20 =>
    zd_7 (
      if ((v20 >>> (v2 &&& 31)) &&& (1 : Int32)) = 0 then
        some (v12, a13, a14, a15, a16, a17, a18)
      else
        zd_7 (zf_X6_firstOnward n v12 f_c_top f_c_things f_c_tiresFrom f_c_tiresTo f_c_mayFrom f_c_mayTo b_c_bars b_c_gives b_c_rough b_c_code f_w_wind a13 a14 a15 a16 a17 a18 v19 (v2 + (1 : Int32))) (fun v21 v22 a23 a24 a25 a26 a27 =>
        if v21 = (-1 : Int32) then
          zd_1 (za_ld a18 2880 v19) (fun v28 =>
          zd_1 (za_st a18 2880 v19 (v28 &&& (((1 : Int32) <<< (v2 &&& 31)) ^^^ (-1 : Int32)))) (fun a29 =>
          some (v22, a23, a24, a25, a26, a27, a29)))
        else
          some (v22, a23, a24, a25, a26, a27, a18))) (fun v30 a31 a32 a33 a34 a35 a36 =>
    zd_1 (some (v11 + (1 : Int32))) (fun v37 =>
    some (0, v37, v30, a31, a32, a33, a34, a35, a36)))))
def zb_X6_dropDeadEnds_7 (n : Nat) (f_g_size : Int32) (b_g_order : (Nat → Int32)) (b_g_depth : (Nat → Int32)) (f_c_top : Int32) (f_c_things : Int32) (f_c_tiresFrom : Int32) (f_c_tiresTo : Int32) (f_c_mayFrom : Int32) (f_c_mayTo : Int32) (b_c_bars : (Nat → Int32)) (b_c_gives : (Nat → Int32)) (b_c_rough : (Nat → Int32)) (b_c_code : (Nat → Int32)) (f_w_wind : Int32) (v2 : Int32) (v3 : Int32) (a4 : (Nat → Int32)) (a5 : (Nat → Int32)) (a6 : (Nat → Int32)) (a7 : (Nat → Int32)) (a8 : (Nat → Int32)) (a9 : (Nat → Int32)) : Option (Nat × Int32 × Int32 × (Nat → Int32) × (Nat → Int32) × (Nat → Int32) × (Nat → Int32) × (Nat → Int32) × (Nat → Int32)) :=
  if v2 < 0 then
    some (1, v2, v3, a4, a5, a6, a7, a8, a9)
  else
    zd_1 (zf_X6_within n f_g_size b_g_order b_g_depth v2) (fun v10 =>
    zd_9 (za_it (fun v => zb_X6_dropDeadEnds_19 v10 b_g_order v2 n f_c_top f_c_things f_c_tiresFrom f_c_tiresTo f_c_mayFrom f_c_mayTo b_c_bars b_c_gives b_c_rough b_c_code f_w_wind v.1 v.2.1 v.2.2.1 v.2.2.2.1 v.2.2.2.2.1 v.2.2.2.2.2.1 v.2.2.2.2.2.2.1 v.2.2.2.2.2.2.2) n ((0 : Int32), v3, a4, a5, a6, a7, a8, a9)) (fun g46 v38 v39 a40 a41 a42 a43 a44 a45 =>
    zd_1 (some (v2 + (-1 : Int32))) (fun v47 =>
    some (0, v47, v39, a40, a41, a42, a43, a44, a45))))
def zf_X6_dropDeadEnds (n : Nat) (f_o_length : Int32) (f_m_found : Int32) (f_c_top : Int32) (f_c_things : Int32) (f_c_tiresFrom : Int32) (f_c_tiresTo : Int32) (f_c_mayFrom : Int32) (f_c_mayTo : Int32) (b_c_bars : (Nat → Int32)) (b_c_gives : (Nat → Int32)) (b_c_rough : (Nat → Int32)) (b_c_code : (Nat → Int32)) (f_w_wind : Int32) (b_w_told : (Nat → Int32)) (b_w_facts : (Nat → Int32)) (b_w_stack : (Nat → Int32)) (b_m_deeds : (Nat → Int32)) (b_m_ends : (Nat → Int32)) (f_g_size : Int32) (b_g_order : (Nat → Int32)) (b_g_depth : (Nat → Int32)) (b_lv : (Nat → Int32)) : Option (Int32 × (Nat → Int32) × (Nat → Int32) × (Nat → Int32) × (Nat → Int32) × (Nat → Int32) × (Nat → Int32)) :=
  zd_1 (some ((f_o_length - (1 : Int32)))) (fun v1 =>
  zd_9 (za_it (fun v => zb_X6_dropDeadEnds_7 n f_g_size b_g_order b_g_depth f_c_top f_c_things f_c_tiresFrom f_c_tiresTo f_c_mayFrom f_c_mayTo b_c_bars b_c_gives b_c_rough b_c_code f_w_wind v.1 v.2.1 v.2.2.1 v.2.2.2.1 v.2.2.2.2.1 v.2.2.2.2.2.1 v.2.2.2.2.2.2.1 v.2.2.2.2.2.2.2) n (v1, f_m_found, b_w_told, b_w_facts, b_w_stack, b_m_deeds, b_m_ends, b_lv)) (fun g56 v48 v49 a50 a51 a52 a53 a54 a55 =>
  some (v49, a50, a51, a52, a53, a54, a55)))
theorem zk_X6_dropDeadEnds : yX6_dropDeadEnds.cls = RX6 ∧ yX6_dropDeadEnds.cls ≠ "java/lang/invoke/MethodHandle" ∧ yX6_dropDeadEnds.cls ≠ "java/lang/invoke/VarHandle" ∧ (parseMethodDescriptor yX6_dropDeadEnds.desc).map (fun d => d.parameters.length) = some 0 := by decide +kernel
set_option maxHeartbeats 4000000 in
set_option maxRecDepth 100000 in
theorem zt_X6_dropDeadEnds (l : Launch) (dC : Nat → ClassId) (dI : Nat → Nat → Nat) (dA : Nat → ClassId) (adK adV : Nat → Nat) (sz : Nat) (a_o : Nat) (a_m : Nat) (a_g : Nat) (a_o_wanted : Nat) (a_k1 : Nat) (a_k2 : Nat) (a_lv : Nat) (a_c : Nat) (a_w : Nat) (a_m_deeds : Nat) (a_m_ends : Nat) (a_c_bars : Nat) (a_c_gives : Nat) (a_c_rough : Nat) (a_c_code : Nat) (a_w_told : Nat) (a_w_facts : Nat) (a_w_stack : Nat) (a_g_order : Nat) (a_g_depth : Nat) (a_g_from : Nat) (n : Nat) (f_o_length : Int32) (f_m_found : Int32) (f_c_top : Int32) (f_c_things : Int32) (f_c_startRung : Int32) (f_c_startThings : Int32) (f_c_startStrength : Int32) (f_c_startWind : Int32) (f_c_slips : Int32) (f_c_lines : Int32) (f_c_coded : Int32) (f_c_tiresFrom : Int32) (f_c_tiresTo : Int32) (f_c_mayFrom : Int32) (f_c_mayTo : Int32) (f_w_wind : Int32) (f_g_size : Int32) (f_g_known : Int32) (b_c_bars : (Nat → Int32)) (b_c_gives : (Nat → Int32)) (b_c_rough : (Nat → Int32)) (b_c_code : (Nat → Int32)) (b_w_told : (Nat → Int32)) (b_w_facts : (Nat → Int32)) (b_w_stack : (Nat → Int32)) (b_m_deeds : (Nat → Int32)) (b_m_ends : (Nat → Int32)) (b_g_order : (Nat → Int32)) (b_g_depth : (Nat → Int32)) (b_lv : (Nat → Int32)) (o1 : Int32) (o2 : (Nat → Int32)) (o3 : (Nat → Int32)) (o4 : (Nat → Int32)) (o5 : (Nat → Int32)) (o6 : (Nat → Int32)) (o7 : (Nat → Int32)) (hf : zf_X6_dropDeadEnds n f_o_length f_m_found f_c_top f_c_things f_c_tiresFrom f_c_tiresTo f_c_mayFrom f_c_mayTo b_c_bars b_c_gives b_c_rough b_c_code f_w_wind b_w_told b_w_facts b_w_stack b_m_deeds b_m_ends f_g_size b_g_order b_g_depth b_lv = some (o1, o2, o3, o4, o5, o6, o7)) : Met l yX6_dropDeadEnds (.code yX6_dropDeadEnds cX6_dropDeadEnds 5 none :: zq_T) ({ frames := 6, cells := 0, slots := 0, locals := 176 }) (va_Pc [.ref a_o] (zx_M dC dI dA adK adV [zo_X6 a_o a_m a_g a_o_wanted a_k1 a_k2 a_lv f_o_length, zo_X3 a_m a_c a_w a_m_deeds a_m_ends f_m_found, zo_X0 a_c f_c_top f_c_things a_c_bars a_c_gives a_c_rough f_c_startRung f_c_startThings f_c_startStrength f_c_startWind f_c_slips f_c_lines a_c_code f_c_coded f_c_tiresFrom f_c_tiresTo f_c_mayFrom f_c_mayTo, (a_c_bars, .inl (dA 0, 9, .inl b_c_bars)), (a_c_gives, .inl (dA 0, 9, .inl b_c_gives)), (a_c_rough, .inl (dA 0, 9, .inl b_c_rough)), (a_c_code, .inl (dA 0, 900, .inl b_c_code)), zo_X2 a_w a_c a_w_told a_w_facts a_w_stack f_w_wind, (a_w_told, .inl (dA 0, 315, .inl b_w_told)), (a_w_facts, .inl (dA 0, 6, .inl b_w_facts)), (a_w_stack, .inl (dA 0, 64, .inl b_w_stack)), (a_m_deeds, .inl (dA 0, 9, .inl b_m_deeds)), (a_m_ends, .inl (dA 0, 9, .inl b_m_ends)), zo_X1 a_g a_m a_g_order a_g_depth a_g_from f_g_size f_g_known, (a_g_order, .inl (dA 0, 2880, .inl b_g_order)), (a_g_depth, .inl (dA 0, 2880, .inl b_g_depth)), (a_lv, .inl (dA 0, 2880, .inl b_lv))] sz)) (va_Qv (fun _ : Unit => True) (fun _ t => zz_B dC dI dA (va_A [zo_X6 a_o a_m a_g a_o_wanted a_k1 a_k2 a_lv f_o_length, zo_X3 a_m a_c a_w a_m_deeds a_m_ends f_m_found, zo_X0 a_c f_c_top f_c_things a_c_bars a_c_gives a_c_rough f_c_startRung f_c_startThings f_c_startStrength f_c_startWind f_c_slips f_c_lines a_c_code f_c_coded f_c_tiresFrom f_c_tiresTo f_c_mayFrom f_c_mayTo, (a_c_bars, .inl (dA 0, 9, .inl b_c_bars)), (a_c_gives, .inl (dA 0, 9, .inl b_c_gives)), (a_c_rough, .inl (dA 0, 9, .inl b_c_rough)), (a_c_code, .inl (dA 0, 900, .inl b_c_code)), zo_X2 a_w a_c a_w_told a_w_facts a_w_stack f_w_wind, (a_w_told, .inl (dA 0, 315, .inl b_w_told)), (a_w_facts, .inl (dA 0, 6, .inl b_w_facts)), (a_w_stack, .inl (dA 0, 64, .inl b_w_stack)), (a_m_deeds, .inl (dA 0, 9, .inl b_m_deeds)), (a_m_ends, .inl (dA 0, 9, .inl b_m_ends)), zo_X1 a_g a_m a_g_order a_g_depth a_g_from f_g_size f_g_known, (a_g_order, .inl (dA 0, 2880, .inl b_g_order)), (a_g_depth, .inl (dA 0, 2880, .inl b_g_depth)), (a_lv, .inl (dA 0, 2880, .inl b_lv))] sz) [zo_X6 a_o a_m a_g a_o_wanted a_k1 a_k2 a_lv f_o_length, zo_X3 a_m a_c a_w a_m_deeds a_m_ends o1, zo_X0 a_c f_c_top f_c_things a_c_bars a_c_gives a_c_rough f_c_startRung f_c_startThings f_c_startStrength f_c_startWind f_c_slips f_c_lines a_c_code f_c_coded f_c_tiresFrom f_c_tiresTo f_c_mayFrom f_c_mayTo, (a_c_bars, .inl (dA 0, 9, .inl b_c_bars)), (a_c_gives, .inl (dA 0, 9, .inl b_c_gives)), (a_c_rough, .inl (dA 0, 9, .inl b_c_rough)), (a_c_code, .inl (dA 0, 900, .inl b_c_code)), zo_X2 a_w a_c a_w_told a_w_facts a_w_stack f_w_wind, (a_w_told, .inl (dA 0, 315, .inl o2)), (a_w_facts, .inl (dA 0, 6, .inl o3)), (a_w_stack, .inl (dA 0, 64, .inl o4)), (a_m_deeds, .inl (dA 0, 9, .inl o5)), (a_m_ends, .inl (dA 0, 9, .inl o6)), zo_X1 a_g a_m a_g_order a_g_depth a_g_from f_g_size f_g_known, (a_g_order, .inl (dA 0, 2880, .inl b_g_order)), (a_g_depth, .inl (dA 0, 2880, .inl b_g_depth)), (a_lv, .inl (dA 0, 2880, .inl o7))] t) (va_A [zo_X6 a_o a_m a_g a_o_wanted a_k1 a_k2 a_lv f_o_length, zo_X3 a_m a_c a_w a_m_deeds a_m_ends f_m_found, zo_X0 a_c f_c_top f_c_things a_c_bars a_c_gives a_c_rough f_c_startRung f_c_startThings f_c_startStrength f_c_startWind f_c_slips f_c_lines a_c_code f_c_coded f_c_tiresFrom f_c_tiresTo f_c_mayFrom f_c_mayTo, (a_c_bars, .inl (dA 0, 9, .inl b_c_bars)), (a_c_gives, .inl (dA 0, 9, .inl b_c_gives)), (a_c_rough, .inl (dA 0, 9, .inl b_c_rough)), (a_c_code, .inl (dA 0, 900, .inl b_c_code)), zo_X2 a_w a_c a_w_told a_w_facts a_w_stack f_w_wind, (a_w_told, .inl (dA 0, 315, .inl b_w_told)), (a_w_facts, .inl (dA 0, 6, .inl b_w_facts)), (a_w_stack, .inl (dA 0, 64, .inl b_w_stack)), (a_m_deeds, .inl (dA 0, 9, .inl b_m_deeds)), (a_m_ends, .inl (dA 0, 9, .inl b_m_ends)), zo_X1 a_g a_m a_g_order a_g_depth a_g_from f_g_size f_g_known, (a_g_order, .inl (dA 0, 2880, .inl b_g_order)), (a_g_depth, .inl (dA 0, 2880, .inl b_g_depth)), (a_lv, .inl (dA 0, 2880, .inl b_lv))] sz)) 0 0 (va_A [zo_X6 a_o a_m a_g a_o_wanted a_k1 a_k2 a_lv f_o_length, zo_X3 a_m a_c a_w a_m_deeds a_m_ends f_m_found, zo_X0 a_c f_c_top f_c_things a_c_bars a_c_gives a_c_rough f_c_startRung f_c_startThings f_c_startStrength f_c_startWind f_c_slips f_c_lines a_c_code f_c_coded f_c_tiresFrom f_c_tiresTo f_c_mayFrom f_c_mayTo, (a_c_bars, .inl (dA 0, 9, .inl b_c_bars)), (a_c_gives, .inl (dA 0, 9, .inl b_c_gives)), (a_c_rough, .inl (dA 0, 9, .inl b_c_rough)), (a_c_code, .inl (dA 0, 900, .inl b_c_code)), zo_X2 a_w a_c a_w_told a_w_facts a_w_stack f_w_wind, (a_w_told, .inl (dA 0, 315, .inl b_w_told)), (a_w_facts, .inl (dA 0, 6, .inl b_w_facts)), (a_w_stack, .inl (dA 0, 64, .inl b_w_stack)), (a_m_deeds, .inl (dA 0, 9, .inl b_m_deeds)), (a_m_ends, .inl (dA 0, 9, .inl b_m_ends)), zo_X1 a_g a_m a_g_order a_g_depth a_g_from f_g_size f_g_known, (a_g_order, .inl (dA 0, 2880, .inl b_g_order)), (a_g_depth, .inl (dA 0, 2880, .inl b_g_depth)), (a_lv, .inl (dA 0, 2880, .inl b_lv))] sz) := by
  unfold zf_X6_dropDeadEnds at hf
  refine Met.ofW (cc := cX6_dropDeadEnds) (maxL := 5) (ret := none) (by decide) rfl ?_
  intro p e s m args below meth c s₁ B hml hv
  obtain ⟨rfl, ⟨hsz, hP, hK, hD0⟩, hZ⟩ := hv
  have hx := B.exec
  have hb := B.bytes
  have hr := B.returns
  have ht : ∀ w ∈ zq_T, w.before ([.ref a_o] : List Value).toArray s = true := fun w hw => atoms_spec (ws := .code yX6_dropDeadEnds cX6_dropDeadEnds 5 none :: zq_T) B.pre w (List.mem_cons_of_mem _ hw)
  have hown : s.vm.findClass RX6 = some m.cls := findClass_of_methodNamed B.named
  have hlocks := B.notSynchronized
  subst hsz
  have hD := hD0.self (sz := s.heap.size)
  generalize hAe : va_A [zo_X6 a_o a_m a_g a_o_wanted a_k1 a_k2 a_lv f_o_length, zo_X3 a_m a_c a_w a_m_deeds a_m_ends f_m_found, zo_X0 a_c f_c_top f_c_things a_c_bars a_c_gives a_c_rough f_c_startRung f_c_startThings f_c_startStrength f_c_startWind f_c_slips f_c_lines a_c_code f_c_coded f_c_tiresFrom f_c_tiresTo f_c_mayFrom f_c_mayTo, (a_c_bars, .inl (dA 0, 9, .inl b_c_bars)), (a_c_gives, .inl (dA 0, 9, .inl b_c_gives)), (a_c_rough, .inl (dA 0, 9, .inl b_c_rough)), (a_c_code, .inl (dA 0, 900, .inl b_c_code)), zo_X2 a_w a_c a_w_told a_w_facts a_w_stack f_w_wind, (a_w_told, .inl (dA 0, 315, .inl b_w_told)), (a_w_facts, .inl (dA 0, 6, .inl b_w_facts)), (a_w_stack, .inl (dA 0, 64, .inl b_w_stack)), (a_m_deeds, .inl (dA 0, 9, .inl b_m_deeds)), (a_m_ends, .inl (dA 0, 9, .inl b_m_ends)), zo_X1 a_g a_m a_g_order a_g_depth a_g_from f_g_size f_g_known, (a_g_order, .inl (dA 0, 2880, .inl b_g_order)), (a_g_depth, .inl (dA 0, 2880, .inl b_g_depth)), (a_lv, .inl (dA 0, 2880, .inl b_lv))] s.heap.size = A at hD hZ ⊢
  have hA : ∀ q : Nat, s.heap.size ≤ q → A q := fun q h => by rw [← hAe]; exact Or.inr h
  clear hAe hD0
  have hS : va_S A s.heap s.heap [] := va_S.rf
  have hl := lv_entry ([.ref a_o]) (n := 5) (Nat.le_of_ble_eq_true rfl)
  rw [lg_entry_eq]
  generalize (lg_sl ([.ref a_o]) ++ List.replicate (5 - (lg_sl ([.ref a_o])).length) Slot.unset).toArray = ls at hl ⊢
  have hl : lv_has ls 5 [(0, .ref a_o)] := hl
  refine lv_aload_n (pc := 0) hx hb dX6_dropDeadEnds_0 rfl (lv_at hl 0 rfl) ?_
  refine va_get (pc := 1) (D := (dC, dI)) (ci := 7) (v := .int f_o_length) (C := RX6) (T := TX6) (N := 7) hx hb ht zq_layX6 hown hK hP 0 rfl rfl 6 (by decide) (ht _ zq_454) (fun _ h9 => h9) rfl dX6_dropDeadEnds_1 ?_
  refine lv_iconst (v := (1 : Int32)) (pc := 4) hx hb dX6_dropDeadEnds_4 (by decide) ?_
  refine lv_isub (pc := 5) hx hb dX6_dropDeadEnds_5 ?_
  obtain ⟨v1, hv1, hf⟩ := zc_1 hf
  refine zw_top (hv1) ?_
  refine lv_istore_n (lv' := [(1, .int v1), (0, .ref a_o)]) (pc := 6) hx hb dX6_dropDeadEnds_6 rfl hl (by decide) rfl (fun ls hl => ?_)
  obtain ⟨g56, v48, v49, a50, a51, a52, a53, a54, a55, hj, hf⟩ := zc_9 hf
  refine zj_join (pcJ := 89) (stk := []) (X := fun H locs ls => lv_has ls 5 [] ∧ va_P (dC, dI) zz_cls [zo_X6 a_o a_m a_g a_o_wanted a_k1 a_k2 a_lv f_o_length, zo_X3 a_m a_c a_w a_m_deeds a_m_ends v49, zo_X0 a_c f_c_top f_c_things a_c_bars a_c_gives a_c_rough f_c_startRung f_c_startThings f_c_startStrength f_c_startWind f_c_slips f_c_lines a_c_code f_c_coded f_c_tiresFrom f_c_tiresTo f_c_mayFrom f_c_mayTo, (a_c_bars, .inl (dA 0, 9, .inl b_c_bars)), (a_c_gives, .inl (dA 0, 9, .inl b_c_gives)), (a_c_rough, .inl (dA 0, 9, .inl b_c_rough)), (a_c_code, .inl (dA 0, 900, .inl b_c_code)), zo_X2 a_w a_c a_w_told a_w_facts a_w_stack f_w_wind, (a_w_told, .inl (dA 0, 315, .inl a50)), (a_w_facts, .inl (dA 0, 6, .inl a51)), (a_w_stack, .inl (dA 0, 64, .inl a52)), (a_m_deeds, .inl (dA 0, 9, .inl a53)), (a_m_ends, .inl (dA 0, 9, .inl a54)), zo_X1 a_g a_m a_g_order a_g_depth a_g_from f_g_size f_g_known, (a_g_order, .inl (dA 0, 2880, .inl b_g_order)), (a_g_depth, .inl (dA 0, 2880, .inl b_g_depth)), (a_lv, .inl (dA 0, 2880, .inl a55))] H ∧ va_D A [zo_X6 a_o a_m a_g a_o_wanted a_k1 a_k2 a_lv f_o_length, zo_X3 a_m a_c a_w a_m_deeds a_m_ends v49, zo_X0 a_c f_c_top f_c_things a_c_bars a_c_gives a_c_rough f_c_startRung f_c_startThings f_c_startStrength f_c_startWind f_c_slips f_c_lines a_c_code f_c_coded f_c_tiresFrom f_c_tiresTo f_c_mayFrom f_c_mayTo, (a_c_bars, .inl (dA 0, 9, .inl b_c_bars)), (a_c_gives, .inl (dA 0, 9, .inl b_c_gives)), (a_c_rough, .inl (dA 0, 9, .inl b_c_rough)), (a_c_code, .inl (dA 0, 900, .inl b_c_code)), zo_X2 a_w a_c a_w_told a_w_facts a_w_stack f_w_wind, (a_w_told, .inl (dA 0, 315, .inl a50)), (a_w_facts, .inl (dA 0, 6, .inl a51)), (a_w_stack, .inl (dA 0, 64, .inl a52)), (a_m_deeds, .inl (dA 0, 9, .inl a53)), (a_m_ends, .inl (dA 0, 9, .inl a54)), zo_X1 a_g a_m a_g_order a_g_depth a_g_from f_g_size f_g_known, (a_g_order, .inl (dA 0, 2880, .inl b_g_order)), (a_g_depth, .inl (dA 0, 2880, .inl b_g_depth)), (a_lv, .inl (dA 0, 2880, .inl a55))] ∧ va_S A s.heap H locs) (fun H locs ls hX => ?_) (fun E89 => ?_)
  · obtain ⟨hl, hP, hD, hS⟩ := hX
    clear hj
    obtain ⟨rfl, rfl, rfl, rfl, rfl, rfl, rfl⟩ := zi_7 hf
    exact W.vret (pc := 89) hx hb hr (fun t ht hW => ⟨⟨(), rfl, trivial, zz_Bi (by rw [ht]; exact hP) (va_K.moved hW.alike hK) (hD)⟩, hS.F ht⟩) hS.2.2 dX6_dropDeadEnds_89
  clear hf
  refine zw_loop (pcH := 7) (X := fun v H locs ls => lv_has ls 5 [(0, .ref a_o), (1, .int v.1)] ∧ va_P (dC, dI) zz_cls [zo_X6 a_o a_m a_g a_o_wanted a_k1 a_k2 a_lv f_o_length, zo_X3 a_m a_c a_w a_m_deeds a_m_ends v.2.1, zo_X0 a_c f_c_top f_c_things a_c_bars a_c_gives a_c_rough f_c_startRung f_c_startThings f_c_startStrength f_c_startWind f_c_slips f_c_lines a_c_code f_c_coded f_c_tiresFrom f_c_tiresTo f_c_mayFrom f_c_mayTo, (a_c_bars, .inl (dA 0, 9, .inl b_c_bars)), (a_c_gives, .inl (dA 0, 9, .inl b_c_gives)), (a_c_rough, .inl (dA 0, 9, .inl b_c_rough)), (a_c_code, .inl (dA 0, 900, .inl b_c_code)), zo_X2 a_w a_c a_w_told a_w_facts a_w_stack f_w_wind, (a_w_told, .inl (dA 0, 315, .inl v.2.2.1)), (a_w_facts, .inl (dA 0, 6, .inl v.2.2.2.1)), (a_w_stack, .inl (dA 0, 64, .inl v.2.2.2.2.1)), (a_m_deeds, .inl (dA 0, 9, .inl v.2.2.2.2.2.1)), (a_m_ends, .inl (dA 0, 9, .inl v.2.2.2.2.2.2.1)), zo_X1 a_g a_m a_g_order a_g_depth a_g_from f_g_size f_g_known, (a_g_order, .inl (dA 0, 2880, .inl b_g_order)), (a_g_depth, .inl (dA 0, 2880, .inl b_g_depth)), (a_lv, .inl (dA 0, 2880, .inl v.2.2.2.2.2.2.2))] H ∧ va_D A [zo_X6 a_o a_m a_g a_o_wanted a_k1 a_k2 a_lv f_o_length, zo_X3 a_m a_c a_w a_m_deeds a_m_ends v.2.1, zo_X0 a_c f_c_top f_c_things a_c_bars a_c_gives a_c_rough f_c_startRung f_c_startThings f_c_startStrength f_c_startWind f_c_slips f_c_lines a_c_code f_c_coded f_c_tiresFrom f_c_tiresTo f_c_mayFrom f_c_mayTo, (a_c_bars, .inl (dA 0, 9, .inl b_c_bars)), (a_c_gives, .inl (dA 0, 9, .inl b_c_gives)), (a_c_rough, .inl (dA 0, 9, .inl b_c_rough)), (a_c_code, .inl (dA 0, 900, .inl b_c_code)), zo_X2 a_w a_c a_w_told a_w_facts a_w_stack f_w_wind, (a_w_told, .inl (dA 0, 315, .inl v.2.2.1)), (a_w_facts, .inl (dA 0, 6, .inl v.2.2.2.1)), (a_w_stack, .inl (dA 0, 64, .inl v.2.2.2.2.1)), (a_m_deeds, .inl (dA 0, 9, .inl v.2.2.2.2.2.1)), (a_m_ends, .inl (dA 0, 9, .inl v.2.2.2.2.2.2.1)), zo_X1 a_g a_m a_g_order a_g_depth a_g_from f_g_size f_g_known, (a_g_order, .inl (dA 0, 2880, .inl b_g_order)), (a_g_depth, .inl (dA 0, 2880, .inl b_g_depth)), (a_lv, .inl (dA 0, 2880, .inl v.2.2.2.2.2.2.2))] ∧ va_S A s.heap H locs) hj (fun v w hf ih ex H locs ls hX => ?_) _ _ _ ⟨lv_sub hl [1, 0] rfl, hP, hD, hS⟩
  clear hj
  obtain ⟨v2, v3, a4, a5, a6, a7, a8, a9⟩ := v
  obtain ⟨hl, hP, hD, hS⟩ := hX
  have hl : lv_has ls 5 [(0, .ref a_o), (1, .int v2)] := hl
  have hP : va_P (dC, dI) zz_cls [zo_X6 a_o a_m a_g a_o_wanted a_k1 a_k2 a_lv f_o_length, zo_X3 a_m a_c a_w a_m_deeds a_m_ends v3, zo_X0 a_c f_c_top f_c_things a_c_bars a_c_gives a_c_rough f_c_startRung f_c_startThings f_c_startStrength f_c_startWind f_c_slips f_c_lines a_c_code f_c_coded f_c_tiresFrom f_c_tiresTo f_c_mayFrom f_c_mayTo, (a_c_bars, .inl (dA 0, 9, .inl b_c_bars)), (a_c_gives, .inl (dA 0, 9, .inl b_c_gives)), (a_c_rough, .inl (dA 0, 9, .inl b_c_rough)), (a_c_code, .inl (dA 0, 900, .inl b_c_code)), zo_X2 a_w a_c a_w_told a_w_facts a_w_stack f_w_wind, (a_w_told, .inl (dA 0, 315, .inl a4)), (a_w_facts, .inl (dA 0, 6, .inl a5)), (a_w_stack, .inl (dA 0, 64, .inl a6)), (a_m_deeds, .inl (dA 0, 9, .inl a7)), (a_m_ends, .inl (dA 0, 9, .inl a8)), zo_X1 a_g a_m a_g_order a_g_depth a_g_from f_g_size f_g_known, (a_g_order, .inl (dA 0, 2880, .inl b_g_order)), (a_g_depth, .inl (dA 0, 2880, .inl b_g_depth)), (a_lv, .inl (dA 0, 2880, .inl a9))] H := hP
  have hD : va_D A [zo_X6 a_o a_m a_g a_o_wanted a_k1 a_k2 a_lv f_o_length, zo_X3 a_m a_c a_w a_m_deeds a_m_ends v3, zo_X0 a_c f_c_top f_c_things a_c_bars a_c_gives a_c_rough f_c_startRung f_c_startThings f_c_startStrength f_c_startWind f_c_slips f_c_lines a_c_code f_c_coded f_c_tiresFrom f_c_tiresTo f_c_mayFrom f_c_mayTo, (a_c_bars, .inl (dA 0, 9, .inl b_c_bars)), (a_c_gives, .inl (dA 0, 9, .inl b_c_gives)), (a_c_rough, .inl (dA 0, 9, .inl b_c_rough)), (a_c_code, .inl (dA 0, 900, .inl b_c_code)), zo_X2 a_w a_c a_w_told a_w_facts a_w_stack f_w_wind, (a_w_told, .inl (dA 0, 315, .inl a4)), (a_w_facts, .inl (dA 0, 6, .inl a5)), (a_w_stack, .inl (dA 0, 64, .inl a6)), (a_m_deeds, .inl (dA 0, 9, .inl a7)), (a_m_ends, .inl (dA 0, 9, .inl a8)), zo_X1 a_g a_m a_g_order a_g_depth a_g_from f_g_size f_g_known, (a_g_order, .inl (dA 0, 2880, .inl b_g_order)), (a_g_depth, .inl (dA 0, 2880, .inl b_g_depth)), (a_lv, .inl (dA 0, 2880, .inl a9))] := hD
  replace hf : zb_X6_dropDeadEnds_7 n f_g_size b_g_order b_g_depth f_c_top f_c_things f_c_tiresFrom f_c_tiresTo f_c_mayFrom f_c_mayTo b_c_bars b_c_gives b_c_rough b_c_code f_w_wind v2 v3 a4 a5 a6 a7 a8 a9 = some w := hf
  unfold zb_X6_dropDeadEnds_7 at hf
  refine lv_iload_n (pc := 7) hx hb dX6_dropDeadEnds_7 rfl (lv_at hl 1 rfl) ?_
  refine lv_if_lt (tgt := 89) (pc := 8) hx hb dX6_dropDeadEnds_8 rfl (fun hc => ?_) (fun hc => ?_)
  · have hf := za_t hf hc
    obtain rfl := Option.some.inj hf
    obtain ⟨rfl, rfl, rfl, rfl, rfl, rfl, rfl, rfl, rfl⟩ := zp_9 (ex (show ¬ (1 : Nat) = 0 by decide))
    exact E89 _ _ _ ⟨lv_sub hl [] rfl, hP, hD, hS⟩
  · have hf := za_f hf hc
    refine lv_aload_n (pc := 11) hx hb dX6_dropDeadEnds_11 rfl (lv_at hl 0 rfl) ?_
    refine lv_iload_n (pc := 12) hx hb dX6_dropDeadEnds_12 rfl (lv_at hl 1 rfl) ?_
    obtain ⟨v10, hv10, hf⟩ := zc_1 hf
    refine zx_Vi (pc := 13) (wc := [zo_X6 a_o a_m a_g a_o_wanted a_k1 a_k2 a_lv f_o_length, zo_X1 a_g a_m a_g_order a_g_depth a_g_from f_g_size f_g_known, (a_g_order, .inl (dA 0, 2880, .inl b_g_order)), (a_g_depth, .inl (dA 0, 2880, .inl b_g_depth))]) (wr := [zo_X3 a_m a_c a_w a_m_deeds a_m_ends v3, zo_X0 a_c f_c_top f_c_things a_c_bars a_c_gives a_c_rough f_c_startRung f_c_startThings f_c_startStrength f_c_startWind f_c_slips f_c_lines a_c_code f_c_coded f_c_tiresFrom f_c_tiresTo f_c_mayFrom f_c_mayTo, (a_c_bars, .inl (dA 0, 9, .inl b_c_bars)), (a_c_gives, .inl (dA 0, 9, .inl b_c_gives)), (a_c_rough, .inl (dA 0, 9, .inl b_c_rough)), (a_c_code, .inl (dA 0, 900, .inl b_c_code)), zo_X2 a_w a_c a_w_told a_w_facts a_w_stack f_w_wind, (a_w_told, .inl (dA 0, 315, .inl a4)), (a_w_facts, .inl (dA 0, 6, .inl a5)), (a_w_stack, .inl (dA 0, 64, .inl a6)), (a_m_deeds, .inl (dA 0, 9, .inl a7)), (a_m_ends, .inl (dA 0, 9, .inl a8)), (a_lv, .inl (dA 0, 2880, .inl a9))]) (w1 := [zo_X6 a_o a_m a_g a_o_wanted a_k1 a_k2 a_lv f_o_length, zo_X1 a_g a_m a_g_order a_g_depth a_g_from f_g_size f_g_known, (a_g_order, .inl (dA 0, 2880, .inl b_g_order)), (a_g_depth, .inl (dA 0, 2880, .inl b_g_depth))]) (As := [.int v2]) (rest := []) ⟨hx, hb, hml, hown, ht⟩ (zt_X6_within l dC dI dA adK adV _ a_o a_m a_g a_o_wanted a_k1 a_k2 a_lv a_g_order a_g_depth a_g_from n f_o_length f_g_size f_g_known b_g_order b_g_depth v2 v10 hv10) (cwV 1 ht (zq_V zq_472 zq_473 zq_474 zq_475 zq_466) rfl rfl rfl zk_X6_within ⟨Nat.le_of_ble_eq_true rfl, Nat.le_of_ble_eq_true rfl⟩) rfl rfl hZ hK hP hD hS hA [0, 13, 14, 15] [1, 2, 3, 4, 5, 6, 7, 8, 9, 10, 11, 12, 16] (by decide) (by decide) (by decide) rfl rfl rfl hl.1 (Nat.le_of_ble_eq_true rfl) dX6_dropDeadEnds_13 ⟨Nat.zero_le _, Nat.zero_le _⟩ rfl (fun H locs hP hD hS => ?_)
    have hP : va_P (dC, dI) zz_cls [zo_X3 a_m a_c a_w a_m_deeds a_m_ends v3, zo_X0 a_c f_c_top f_c_things a_c_bars a_c_gives a_c_rough f_c_startRung f_c_startThings f_c_startStrength f_c_startWind f_c_slips f_c_lines a_c_code f_c_coded f_c_tiresFrom f_c_tiresTo f_c_mayFrom f_c_mayTo, (a_c_bars, .inl (dA 0, 9, .inl b_c_bars)), (a_c_gives, .inl (dA 0, 9, .inl b_c_gives)), (a_c_rough, .inl (dA 0, 9, .inl b_c_rough)), (a_c_code, .inl (dA 0, 900, .inl b_c_code)), zo_X2 a_w a_c a_w_told a_w_facts a_w_stack f_w_wind, (a_w_told, .inl (dA 0, 315, .inl a4)), (a_w_facts, .inl (dA 0, 6, .inl a5)), (a_w_stack, .inl (dA 0, 64, .inl a6)), (a_m_deeds, .inl (dA 0, 9, .inl a7)), (a_m_ends, .inl (dA 0, 9, .inl a8)), (a_lv, .inl (dA 0, 2880, .inl a9)), zo_X6 a_o a_m a_g a_o_wanted a_k1 a_k2 a_lv f_o_length, zo_X1 a_g a_m a_g_order a_g_depth a_g_from f_g_size f_g_known, (a_g_order, .inl (dA 0, 2880, .inl b_g_order)), (a_g_depth, .inl (dA 0, 2880, .inl b_g_depth))] H := hP
    have hD : va_D A [zo_X3 a_m a_c a_w a_m_deeds a_m_ends v3, zo_X0 a_c f_c_top f_c_things a_c_bars a_c_gives a_c_rough f_c_startRung f_c_startThings f_c_startStrength f_c_startWind f_c_slips f_c_lines a_c_code f_c_coded f_c_tiresFrom f_c_tiresTo f_c_mayFrom f_c_mayTo, (a_c_bars, .inl (dA 0, 9, .inl b_c_bars)), (a_c_gives, .inl (dA 0, 9, .inl b_c_gives)), (a_c_rough, .inl (dA 0, 9, .inl b_c_rough)), (a_c_code, .inl (dA 0, 900, .inl b_c_code)), zo_X2 a_w a_c a_w_told a_w_facts a_w_stack f_w_wind, (a_w_told, .inl (dA 0, 315, .inl a4)), (a_w_facts, .inl (dA 0, 6, .inl a5)), (a_w_stack, .inl (dA 0, 64, .inl a6)), (a_m_deeds, .inl (dA 0, 9, .inl a7)), (a_m_ends, .inl (dA 0, 9, .inl a8)), (a_lv, .inl (dA 0, 2880, .inl a9)), zo_X6 a_o a_m a_g a_o_wanted a_k1 a_k2 a_lv f_o_length, zo_X1 a_g a_m a_g_order a_g_depth a_g_from f_g_size f_g_known, (a_g_order, .inl (dA 0, 2880, .inl b_g_order)), (a_g_depth, .inl (dA 0, 2880, .inl b_g_depth))] := hD
    refine lv_istore_n (lv' := [(2, .int v10), (0, .ref a_o), (1, .int v2)]) (pc := 16) hx hb dX6_dropDeadEnds_16 rfl hl (by decide) rfl (fun ls hl => ?_)
    refine lv_iconst (v := (0 : Int32)) (pc := 17) hx hb dX6_dropDeadEnds_17 (by decide) ?_
    refine lv_istore_n (lv' := [(3, .int (0 : Int32)), (2, .int v10), (0, .ref a_o), (1, .int v2)]) (pc := 18) hx hb dX6_dropDeadEnds_18 rfl hl (by decide) rfl (fun ls hl => ?_)
    obtain ⟨g46, v38, v39, a40, a41, a42, a43, a44, a45, hj, hf⟩ := zc_9 hf
    refine zj_join (pcJ := 83) (stk := []) (X := fun H locs ls => lv_has ls 5 [(0, .ref a_o), (1, .int v2)] ∧ va_P (dC, dI) zz_cls [zo_X6 a_o a_m a_g a_o_wanted a_k1 a_k2 a_lv f_o_length, zo_X3 a_m a_c a_w a_m_deeds a_m_ends v39, zo_X0 a_c f_c_top f_c_things a_c_bars a_c_gives a_c_rough f_c_startRung f_c_startThings f_c_startStrength f_c_startWind f_c_slips f_c_lines a_c_code f_c_coded f_c_tiresFrom f_c_tiresTo f_c_mayFrom f_c_mayTo, (a_c_bars, .inl (dA 0, 9, .inl b_c_bars)), (a_c_gives, .inl (dA 0, 9, .inl b_c_gives)), (a_c_rough, .inl (dA 0, 9, .inl b_c_rough)), (a_c_code, .inl (dA 0, 900, .inl b_c_code)), zo_X2 a_w a_c a_w_told a_w_facts a_w_stack f_w_wind, (a_w_told, .inl (dA 0, 315, .inl a40)), (a_w_facts, .inl (dA 0, 6, .inl a41)), (a_w_stack, .inl (dA 0, 64, .inl a42)), (a_m_deeds, .inl (dA 0, 9, .inl a43)), (a_m_ends, .inl (dA 0, 9, .inl a44)), zo_X1 a_g a_m a_g_order a_g_depth a_g_from f_g_size f_g_known, (a_g_order, .inl (dA 0, 2880, .inl b_g_order)), (a_g_depth, .inl (dA 0, 2880, .inl b_g_depth)), (a_lv, .inl (dA 0, 2880, .inl a45))] H ∧ va_D A [zo_X6 a_o a_m a_g a_o_wanted a_k1 a_k2 a_lv f_o_length, zo_X3 a_m a_c a_w a_m_deeds a_m_ends v39, zo_X0 a_c f_c_top f_c_things a_c_bars a_c_gives a_c_rough f_c_startRung f_c_startThings f_c_startStrength f_c_startWind f_c_slips f_c_lines a_c_code f_c_coded f_c_tiresFrom f_c_tiresTo f_c_mayFrom f_c_mayTo, (a_c_bars, .inl (dA 0, 9, .inl b_c_bars)), (a_c_gives, .inl (dA 0, 9, .inl b_c_gives)), (a_c_rough, .inl (dA 0, 9, .inl b_c_rough)), (a_c_code, .inl (dA 0, 900, .inl b_c_code)), zo_X2 a_w a_c a_w_told a_w_facts a_w_stack f_w_wind, (a_w_told, .inl (dA 0, 315, .inl a40)), (a_w_facts, .inl (dA 0, 6, .inl a41)), (a_w_stack, .inl (dA 0, 64, .inl a42)), (a_m_deeds, .inl (dA 0, 9, .inl a43)), (a_m_ends, .inl (dA 0, 9, .inl a44)), zo_X1 a_g a_m a_g_order a_g_depth a_g_from f_g_size f_g_known, (a_g_order, .inl (dA 0, 2880, .inl b_g_order)), (a_g_depth, .inl (dA 0, 2880, .inl b_g_depth)), (a_lv, .inl (dA 0, 2880, .inl a45))] ∧ va_S A s.heap H locs) (fun H locs ls hX => ?_) (fun E83 => ?_)
    · obtain ⟨hl, hP, hD, hS⟩ := hX
      clear hj
      obtain ⟨v47, hv47, hf⟩ := zc_1 hf
      refine lv_iinc (v := v47) (lv' := [(1, .int v47), (0, .ref a_o)]) (k := 1) (pc := 83) hx hb dX6_dropDeadEnds_83 hl rfl (Option.some.inj hv47) (by decide) rfl (fun ls hl => ?_)
      refine lv_goto (tgt := 7) (pc := 86) hx hb dX6_dropDeadEnds_86 rfl ?_
      obtain rfl := Option.some.inj hf
      exact ih rfl _ _ _ ⟨lv_sub hl [1, 0] rfl, hP, hD, hS⟩
    clear hf
    refine zw_loop (pcH := 19) (X := fun v H locs ls => lv_has ls 5 [(0, .ref a_o), (1, .int v2), (2, .int v10), (3, .int v.1)] ∧ va_P (dC, dI) zz_cls [zo_X6 a_o a_m a_g a_o_wanted a_k1 a_k2 a_lv f_o_length, zo_X3 a_m a_c a_w a_m_deeds a_m_ends v.2.1, zo_X0 a_c f_c_top f_c_things a_c_bars a_c_gives a_c_rough f_c_startRung f_c_startThings f_c_startStrength f_c_startWind f_c_slips f_c_lines a_c_code f_c_coded f_c_tiresFrom f_c_tiresTo f_c_mayFrom f_c_mayTo, (a_c_bars, .inl (dA 0, 9, .inl b_c_bars)), (a_c_gives, .inl (dA 0, 9, .inl b_c_gives)), (a_c_rough, .inl (dA 0, 9, .inl b_c_rough)), (a_c_code, .inl (dA 0, 900, .inl b_c_code)), zo_X2 a_w a_c a_w_told a_w_facts a_w_stack f_w_wind, (a_w_told, .inl (dA 0, 315, .inl v.2.2.1)), (a_w_facts, .inl (dA 0, 6, .inl v.2.2.2.1)), (a_w_stack, .inl (dA 0, 64, .inl v.2.2.2.2.1)), (a_m_deeds, .inl (dA 0, 9, .inl v.2.2.2.2.2.1)), (a_m_ends, .inl (dA 0, 9, .inl v.2.2.2.2.2.2.1)), zo_X1 a_g a_m a_g_order a_g_depth a_g_from f_g_size f_g_known, (a_g_order, .inl (dA 0, 2880, .inl b_g_order)), (a_g_depth, .inl (dA 0, 2880, .inl b_g_depth)), (a_lv, .inl (dA 0, 2880, .inl v.2.2.2.2.2.2.2))] H ∧ va_D A [zo_X6 a_o a_m a_g a_o_wanted a_k1 a_k2 a_lv f_o_length, zo_X3 a_m a_c a_w a_m_deeds a_m_ends v.2.1, zo_X0 a_c f_c_top f_c_things a_c_bars a_c_gives a_c_rough f_c_startRung f_c_startThings f_c_startStrength f_c_startWind f_c_slips f_c_lines a_c_code f_c_coded f_c_tiresFrom f_c_tiresTo f_c_mayFrom f_c_mayTo, (a_c_bars, .inl (dA 0, 9, .inl b_c_bars)), (a_c_gives, .inl (dA 0, 9, .inl b_c_gives)), (a_c_rough, .inl (dA 0, 9, .inl b_c_rough)), (a_c_code, .inl (dA 0, 900, .inl b_c_code)), zo_X2 a_w a_c a_w_told a_w_facts a_w_stack f_w_wind, (a_w_told, .inl (dA 0, 315, .inl v.2.2.1)), (a_w_facts, .inl (dA 0, 6, .inl v.2.2.2.1)), (a_w_stack, .inl (dA 0, 64, .inl v.2.2.2.2.1)), (a_m_deeds, .inl (dA 0, 9, .inl v.2.2.2.2.2.1)), (a_m_ends, .inl (dA 0, 9, .inl v.2.2.2.2.2.2.1)), zo_X1 a_g a_m a_g_order a_g_depth a_g_from f_g_size f_g_known, (a_g_order, .inl (dA 0, 2880, .inl b_g_order)), (a_g_depth, .inl (dA 0, 2880, .inl b_g_depth)), (a_lv, .inl (dA 0, 2880, .inl v.2.2.2.2.2.2.2))] ∧ va_S A s.heap H locs) hj (fun v w hf ih ex H locs ls hX => ?_) _ _ _ ⟨lv_sub hl [2, 3, 1, 0] rfl, hP.sub [13, 0, 1, 2, 3, 4, 5, 6, 7, 8, 9, 10, 11, 14, 15, 16, 12] rfl, hD.sub [13, 0, 1, 2, 3, 4, 5, 6, 7, 8, 9, 10, 11, 14, 15, 16, 12] (by decide) rfl, hS⟩
    clear hj
    obtain ⟨v11, v12, a13, a14, a15, a16, a17, a18⟩ := v
    obtain ⟨hl, hP, hD, hS⟩ := hX
    have hl : lv_has ls 5 [(0, .ref a_o), (1, .int v2), (2, .int v10), (3, .int v11)] := hl
    have hP : va_P (dC, dI) zz_cls [zo_X6 a_o a_m a_g a_o_wanted a_k1 a_k2 a_lv f_o_length, zo_X3 a_m a_c a_w a_m_deeds a_m_ends v12, zo_X0 a_c f_c_top f_c_things a_c_bars a_c_gives a_c_rough f_c_startRung f_c_startThings f_c_startStrength f_c_startWind f_c_slips f_c_lines a_c_code f_c_coded f_c_tiresFrom f_c_tiresTo f_c_mayFrom f_c_mayTo, (a_c_bars, .inl (dA 0, 9, .inl b_c_bars)), (a_c_gives, .inl (dA 0, 9, .inl b_c_gives)), (a_c_rough, .inl (dA 0, 9, .inl b_c_rough)), (a_c_code, .inl (dA 0, 900, .inl b_c_code)), zo_X2 a_w a_c a_w_told a_w_facts a_w_stack f_w_wind, (a_w_told, .inl (dA 0, 315, .inl a13)), (a_w_facts, .inl (dA 0, 6, .inl a14)), (a_w_stack, .inl (dA 0, 64, .inl a15)), (a_m_deeds, .inl (dA 0, 9, .inl a16)), (a_m_ends, .inl (dA 0, 9, .inl a17)), zo_X1 a_g a_m a_g_order a_g_depth a_g_from f_g_size f_g_known, (a_g_order, .inl (dA 0, 2880, .inl b_g_order)), (a_g_depth, .inl (dA 0, 2880, .inl b_g_depth)), (a_lv, .inl (dA 0, 2880, .inl a18))] H := hP
    have hD : va_D A [zo_X6 a_o a_m a_g a_o_wanted a_k1 a_k2 a_lv f_o_length, zo_X3 a_m a_c a_w a_m_deeds a_m_ends v12, zo_X0 a_c f_c_top f_c_things a_c_bars a_c_gives a_c_rough f_c_startRung f_c_startThings f_c_startStrength f_c_startWind f_c_slips f_c_lines a_c_code f_c_coded f_c_tiresFrom f_c_tiresTo f_c_mayFrom f_c_mayTo, (a_c_bars, .inl (dA 0, 9, .inl b_c_bars)), (a_c_gives, .inl (dA 0, 9, .inl b_c_gives)), (a_c_rough, .inl (dA 0, 9, .inl b_c_rough)), (a_c_code, .inl (dA 0, 900, .inl b_c_code)), zo_X2 a_w a_c a_w_told a_w_facts a_w_stack f_w_wind, (a_w_told, .inl (dA 0, 315, .inl a13)), (a_w_facts, .inl (dA 0, 6, .inl a14)), (a_w_stack, .inl (dA 0, 64, .inl a15)), (a_m_deeds, .inl (dA 0, 9, .inl a16)), (a_m_ends, .inl (dA 0, 9, .inl a17)), zo_X1 a_g a_m a_g_order a_g_depth a_g_from f_g_size f_g_known, (a_g_order, .inl (dA 0, 2880, .inl b_g_order)), (a_g_depth, .inl (dA 0, 2880, .inl b_g_depth)), (a_lv, .inl (dA 0, 2880, .inl a18))] := hD
    replace hf : zb_X6_dropDeadEnds_19 v10 b_g_order v2 n f_c_top f_c_things f_c_tiresFrom f_c_tiresTo f_c_mayFrom f_c_mayTo b_c_bars b_c_gives b_c_rough b_c_code f_w_wind v11 v12 a13 a14 a15 a16 a17 a18 = some w := hf
    unfold zb_X6_dropDeadEnds_19 at hf
    refine lv_iload_n (pc := 19) hx hb dX6_dropDeadEnds_19 rfl (lv_at hl 3 rfl) ?_
    refine lv_iload_n (pc := 20) hx hb dX6_dropDeadEnds_20 rfl (lv_at hl 2 rfl) ?_
    refine lv_icmp_ge (tgt := 83) (pc := 21) hx hb dX6_dropDeadEnds_21 rfl (fun hc => ?_) (fun hc => ?_)
    · have hf := za_t hf hc
      obtain rfl := Option.some.inj hf
      obtain ⟨rfl, rfl, rfl, rfl, rfl, rfl, rfl, rfl, rfl⟩ := zp_9 (ex (show ¬ (1 : Nat) = 0 by decide))
      exact E83 _ _ _ ⟨lv_sub hl [0, 1] rfl, hP, hD, hS⟩
    · have hf := za_f hf hc
      refine lv_aload_n (pc := 24) hx hb dX6_dropDeadEnds_24 rfl (lv_at hl 0 rfl) ?_
      refine va_get (pc := 25) (D := (dC, dI)) (ci := 7) (v := .ref a_g) (C := RX6) (T := TX6) (N := 7) hx hb ht zq_layX6 hown hK hP 0 rfl rfl 1 (by decide) (ht _ zq_456) (fun _ h9 => h9) rfl dX6_dropDeadEnds_25 ?_
      refine va_get (pc := 28) (D := (dC, dI)) (ci := 2) (v := .ref a_g_order) (C := RX1) (T := TX1) (N := 6) hx hb ht zq_layX1 hown hK hP 13 rfl rfl 1 (by decide) (ht _ zq_469) (fun _ h9 => h9) rfl dX6_dropDeadEnds_28 ?_
      refine lv_iload_n (pc := 31) hx hb dX6_dropDeadEnds_31 rfl (lv_at hl 3 rfl) ?_
      obtain ⟨v19, hv19, hf⟩ := zc_1 hf
      refine zw_iald (pc := 32) hx hb hK hP 14 0 rfl rfl hv19 dX6_dropDeadEnds_32 ?_
      refine lv_istore (lv' := [(4, .int v19), (0, .ref a_o), (1, .int v2), (2, .int v10), (3, .int v11)]) (pc := 33) hx hb dX6_dropDeadEnds_33 hl (by decide) rfl (fun ls hl => ?_)
      refine lv_aload_n (pc := 35) hx hb dX6_dropDeadEnds_35 rfl (lv_at hl 1 rfl) ?_
      refine va_get (pc := 36) (D := (dC, dI)) (ci := 7) (v := .ref a_lv) (C := RX6) (T := TX6) (N := 7) hx hb ht zq_layX6 hown hK hP 0 rfl rfl 5 (by decide) (ht _ zq_457) (fun _ h9 => h9) rfl dX6_dropDeadEnds_36 ?_
      refine lv_iload (pc := 39) hx hb dX6_dropDeadEnds_39 (lv_at hl 0 rfl) ?_
      obtain ⟨v20, hv20, hf⟩ := zc_1 hf
      refine zw_iald (pc := 41) hx hb hK hP 16 0 rfl rfl hv20 dX6_dropDeadEnds_41 ?_
      refine lv_iload_n (pc := 42) hx hb dX6_dropDeadEnds_42 rfl (lv_at hl 2 rfl) ?_
      refine lv_ishr (pc := 43) hx hb dX6_dropDeadEnds_43 ?_
      refine lv_iconst (v := (1 : Int32)) (pc := 44) hx hb dX6_dropDeadEnds_44 (by decide) ?_
      refine lv_iand (pc := 45) hx hb dX6_dropDeadEnds_45 ?_
      obtain ⟨v30, a31, a32, a33, a34, a35, a36, hj, hf⟩ := zc_7 hf
      refine zj_join (pcJ := 77) (stk := []) (X := fun H locs ls => lv_has ls 5 [(0, .ref a_o), (1, .int v2), (2, .int v10), (3, .int v11)] ∧ va_P (dC, dI) zz_cls [zo_X6 a_o a_m a_g a_o_wanted a_k1 a_k2 a_lv f_o_length, zo_X3 a_m a_c a_w a_m_deeds a_m_ends v30, zo_X0 a_c f_c_top f_c_things a_c_bars a_c_gives a_c_rough f_c_startRung f_c_startThings f_c_startStrength f_c_startWind f_c_slips f_c_lines a_c_code f_c_coded f_c_tiresFrom f_c_tiresTo f_c_mayFrom f_c_mayTo, (a_c_bars, .inl (dA 0, 9, .inl b_c_bars)), (a_c_gives, .inl (dA 0, 9, .inl b_c_gives)), (a_c_rough, .inl (dA 0, 9, .inl b_c_rough)), (a_c_code, .inl (dA 0, 900, .inl b_c_code)), zo_X2 a_w a_c a_w_told a_w_facts a_w_stack f_w_wind, (a_w_told, .inl (dA 0, 315, .inl a31)), (a_w_facts, .inl (dA 0, 6, .inl a32)), (a_w_stack, .inl (dA 0, 64, .inl a33)), (a_m_deeds, .inl (dA 0, 9, .inl a34)), (a_m_ends, .inl (dA 0, 9, .inl a35)), zo_X1 a_g a_m a_g_order a_g_depth a_g_from f_g_size f_g_known, (a_g_order, .inl (dA 0, 2880, .inl b_g_order)), (a_g_depth, .inl (dA 0, 2880, .inl b_g_depth)), (a_lv, .inl (dA 0, 2880, .inl a36))] H ∧ va_D A [zo_X6 a_o a_m a_g a_o_wanted a_k1 a_k2 a_lv f_o_length, zo_X3 a_m a_c a_w a_m_deeds a_m_ends v30, zo_X0 a_c f_c_top f_c_things a_c_bars a_c_gives a_c_rough f_c_startRung f_c_startThings f_c_startStrength f_c_startWind f_c_slips f_c_lines a_c_code f_c_coded f_c_tiresFrom f_c_tiresTo f_c_mayFrom f_c_mayTo, (a_c_bars, .inl (dA 0, 9, .inl b_c_bars)), (a_c_gives, .inl (dA 0, 9, .inl b_c_gives)), (a_c_rough, .inl (dA 0, 9, .inl b_c_rough)), (a_c_code, .inl (dA 0, 900, .inl b_c_code)), zo_X2 a_w a_c a_w_told a_w_facts a_w_stack f_w_wind, (a_w_told, .inl (dA 0, 315, .inl a31)), (a_w_facts, .inl (dA 0, 6, .inl a32)), (a_w_stack, .inl (dA 0, 64, .inl a33)), (a_m_deeds, .inl (dA 0, 9, .inl a34)), (a_m_ends, .inl (dA 0, 9, .inl a35)), zo_X1 a_g a_m a_g_order a_g_depth a_g_from f_g_size f_g_known, (a_g_order, .inl (dA 0, 2880, .inl b_g_order)), (a_g_depth, .inl (dA 0, 2880, .inl b_g_depth)), (a_lv, .inl (dA 0, 2880, .inl a36))] ∧ va_S A s.heap H locs) (fun H locs ls hX => ?_) (fun J77 => ?_)
      · obtain ⟨hl, hP, hD, hS⟩ := hX
        clear hj
        obtain ⟨v37, hv37, hf⟩ := zc_1 hf
        refine lv_iinc (v := v37) (lv' := [(3, .int v37), (0, .ref a_o), (1, .int v2), (2, .int v10)]) (k := 3) (pc := 77) hx hb dX6_dropDeadEnds_77 hl rfl (Option.some.inj hv37) (by decide) rfl (fun ls hl => ?_)
        refine lv_goto (tgt := 19) (pc := 80) hx hb dX6_dropDeadEnds_80 rfl ?_
        obtain rfl := Option.some.inj hf
        exact ih rfl _ _ _ ⟨lv_sub hl [1, 2, 3, 0] rfl, hP, hD, hS⟩
      · clear hf
        have hf := hj
        clear hj
        refine lv_if_eq (tgt := 77) (pc := 46) hx hb dX6_dropDeadEnds_46 rfl (fun hc => ?_) (fun hc => ?_)
        · have hf := za_t hf hc
          obtain ⟨rfl, rfl, rfl, rfl, rfl, rfl, rfl⟩ := zi_7 hf
          exact J77 _ _ _ ⟨lv_sub hl [1, 2, 3, 4] rfl, hP, hD, hS⟩
        · have hf := za_f hf hc
          refine lv_aload_n (pc := 49) hx hb dX6_dropDeadEnds_49 rfl (lv_at hl 1 rfl) ?_
          refine lv_iload (pc := 50) hx hb dX6_dropDeadEnds_50 (lv_at hl 0 rfl) ?_
          refine lv_iload_n (pc := 52) hx hb dX6_dropDeadEnds_52 rfl (lv_at hl 2 rfl) ?_
          refine lv_iconst (v := (1 : Int32)) (pc := 53) hx hb dX6_dropDeadEnds_53 (by decide) ?_
          refine lv_iadd (pc := 54) hx hb dX6_dropDeadEnds_54 ?_
          obtain ⟨v21, v22, a23, a24, a25, a26, a27, hv21, hf⟩ := zc_7 hf
          refine zx_Vi (pc := 55) (wc := [zo_X6 a_o a_m a_g a_o_wanted a_k1 a_k2 a_lv f_o_length, zo_X3 a_m a_c a_w a_m_deeds a_m_ends v12, zo_X0 a_c f_c_top f_c_things a_c_bars a_c_gives a_c_rough f_c_startRung f_c_startThings f_c_startStrength f_c_startWind f_c_slips f_c_lines a_c_code f_c_coded f_c_tiresFrom f_c_tiresTo f_c_mayFrom f_c_mayTo, (a_c_bars, .inl (dA 0, 9, .inl b_c_bars)), (a_c_gives, .inl (dA 0, 9, .inl b_c_gives)), (a_c_rough, .inl (dA 0, 9, .inl b_c_rough)), (a_c_code, .inl (dA 0, 900, .inl b_c_code)), zo_X2 a_w a_c a_w_told a_w_facts a_w_stack f_w_wind, (a_w_told, .inl (dA 0, 315, .inl a13)), (a_w_facts, .inl (dA 0, 6, .inl a14)), (a_w_stack, .inl (dA 0, 64, .inl a15)), (a_m_deeds, .inl (dA 0, 9, .inl a16)), (a_m_ends, .inl (dA 0, 9, .inl a17)), (a_lv, .inl (dA 0, 2880, .inl a18))]) (wr := [zo_X1 a_g a_m a_g_order a_g_depth a_g_from f_g_size f_g_known, (a_g_order, .inl (dA 0, 2880, .inl b_g_order)), (a_g_depth, .inl (dA 0, 2880, .inl b_g_depth))]) (w1 := [zo_X6 a_o a_m a_g a_o_wanted a_k1 a_k2 a_lv f_o_length, zo_X3 a_m a_c a_w a_m_deeds a_m_ends v22, zo_X0 a_c f_c_top f_c_things a_c_bars a_c_gives a_c_rough f_c_startRung f_c_startThings f_c_startStrength f_c_startWind f_c_slips f_c_lines a_c_code f_c_coded f_c_tiresFrom f_c_tiresTo f_c_mayFrom f_c_mayTo, (a_c_bars, .inl (dA 0, 9, .inl b_c_bars)), (a_c_gives, .inl (dA 0, 9, .inl b_c_gives)), (a_c_rough, .inl (dA 0, 9, .inl b_c_rough)), (a_c_code, .inl (dA 0, 900, .inl b_c_code)), zo_X2 a_w a_c a_w_told a_w_facts a_w_stack f_w_wind, (a_w_told, .inl (dA 0, 315, .inl a23)), (a_w_facts, .inl (dA 0, 6, .inl a24)), (a_w_stack, .inl (dA 0, 64, .inl a25)), (a_m_deeds, .inl (dA 0, 9, .inl a26)), (a_m_ends, .inl (dA 0, 9, .inl a27)), (a_lv, .inl (dA 0, 2880, .inl a18))]) (As := [.int v19, .int (v2 + (1 : Int32))]) (rest := []) ⟨hx, hb, hml, hown, ht⟩ (zt_X6_firstOnward l dC dI dA adK adV _ a_o a_m a_g a_o_wanted a_k1 a_k2 a_lv a_c a_w a_m_deeds a_m_ends a_c_bars a_c_gives a_c_rough a_c_code a_w_told a_w_facts a_w_stack n f_o_length v12 f_c_top f_c_things f_c_startRung f_c_startThings f_c_startStrength f_c_startWind f_c_slips f_c_lines f_c_coded f_c_tiresFrom f_c_tiresTo f_c_mayFrom f_c_mayTo f_w_wind b_c_bars b_c_gives b_c_rough b_c_code a13 a14 a15 a16 a17 a18 v19 (v2 + (1 : Int32)) v21 v22 a23 a24 a25 a26 a27 hv21) (cwV 2 ht (zq_V zq_489 zq_490 zq_491 zq_475 zq_488) rfl rfl rfl zk_X6_firstOnward ⟨Nat.le_of_ble_eq_true rfl, Nat.le_of_ble_eq_true rfl⟩) rfl rfl hZ hK hP hD hS hA [0, 1, 2, 3, 4, 5, 6, 7, 8, 9, 10, 11, 12, 16] [13, 14, 15] (by decide) (by decide) (by decide) rfl rfl rfl hl.1 (Nat.le_of_ble_eq_true rfl) dX6_dropDeadEnds_55 ⟨Nat.zero_le _, Nat.zero_le _⟩ rfl (fun H locs hP hD hS => ?_)
          have hP : va_P (dC, dI) zz_cls [zo_X1 a_g a_m a_g_order a_g_depth a_g_from f_g_size f_g_known, (a_g_order, .inl (dA 0, 2880, .inl b_g_order)), (a_g_depth, .inl (dA 0, 2880, .inl b_g_depth)), zo_X6 a_o a_m a_g a_o_wanted a_k1 a_k2 a_lv f_o_length, zo_X3 a_m a_c a_w a_m_deeds a_m_ends v22, zo_X0 a_c f_c_top f_c_things a_c_bars a_c_gives a_c_rough f_c_startRung f_c_startThings f_c_startStrength f_c_startWind f_c_slips f_c_lines a_c_code f_c_coded f_c_tiresFrom f_c_tiresTo f_c_mayFrom f_c_mayTo, (a_c_bars, .inl (dA 0, 9, .inl b_c_bars)), (a_c_gives, .inl (dA 0, 9, .inl b_c_gives)), (a_c_rough, .inl (dA 0, 9, .inl b_c_rough)), (a_c_code, .inl (dA 0, 900, .inl b_c_code)), zo_X2 a_w a_c a_w_told a_w_facts a_w_stack f_w_wind, (a_w_told, .inl (dA 0, 315, .inl a23)), (a_w_facts, .inl (dA 0, 6, .inl a24)), (a_w_stack, .inl (dA 0, 64, .inl a25)), (a_m_deeds, .inl (dA 0, 9, .inl a26)), (a_m_ends, .inl (dA 0, 9, .inl a27)), (a_lv, .inl (dA 0, 2880, .inl a18))] H := hP
          have hD : va_D A [zo_X1 a_g a_m a_g_order a_g_depth a_g_from f_g_size f_g_known, (a_g_order, .inl (dA 0, 2880, .inl b_g_order)), (a_g_depth, .inl (dA 0, 2880, .inl b_g_depth)), zo_X6 a_o a_m a_g a_o_wanted a_k1 a_k2 a_lv f_o_length, zo_X3 a_m a_c a_w a_m_deeds a_m_ends v22, zo_X0 a_c f_c_top f_c_things a_c_bars a_c_gives a_c_rough f_c_startRung f_c_startThings f_c_startStrength f_c_startWind f_c_slips f_c_lines a_c_code f_c_coded f_c_tiresFrom f_c_tiresTo f_c_mayFrom f_c_mayTo, (a_c_bars, .inl (dA 0, 9, .inl b_c_bars)), (a_c_gives, .inl (dA 0, 9, .inl b_c_gives)), (a_c_rough, .inl (dA 0, 9, .inl b_c_rough)), (a_c_code, .inl (dA 0, 900, .inl b_c_code)), zo_X2 a_w a_c a_w_told a_w_facts a_w_stack f_w_wind, (a_w_told, .inl (dA 0, 315, .inl a23)), (a_w_facts, .inl (dA 0, 6, .inl a24)), (a_w_stack, .inl (dA 0, 64, .inl a25)), (a_m_deeds, .inl (dA 0, 9, .inl a26)), (a_m_ends, .inl (dA 0, 9, .inl a27)), (a_lv, .inl (dA 0, 2880, .inl a18))] := hD
          refine lv_iconst (v := (-1 : Int32)) (pc := 58) hx hb dX6_dropDeadEnds_58 (by decide) ?_
          refine lv_icmp_ne (tgt := 77) (pc := 59) hx hb dX6_dropDeadEnds_59 rfl (fun hc => ?_) (fun hc => ?_)
          · have hf := za_f hf hc
            obtain ⟨rfl, rfl, rfl, rfl, rfl, rfl, rfl⟩ := zi_7 hf
            exact J77 _ _ _ ⟨lv_sub hl [1, 2, 3, 4] rfl, hP.sub [3, 4, 5, 6, 7, 8, 9, 10, 11, 12, 13, 14, 15, 0, 1, 2, 16] rfl, hD.sub [3, 4, 5, 6, 7, 8, 9, 10, 11, 12, 13, 14, 15, 0, 1, 2, 16] (by decide) rfl, hS⟩
          · have hf := za_t hf hc
            refine lv_aload_n (pc := 62) hx hb dX6_dropDeadEnds_62 rfl (lv_at hl 1 rfl) ?_
            refine va_get (pc := 63) (D := (dC, dI)) (ci := 7) (v := .ref a_lv) (C := RX6) (T := TX6) (N := 7) hx hb ht zq_layX6 hown hK hP 3 rfl rfl 5 (by decide) (ht _ zq_457) (fun _ h9 => h9) rfl dX6_dropDeadEnds_63 ?_
            refine lv_iload (pc := 66) hx hb dX6_dropDeadEnds_66 (lv_at hl 0 rfl) ?_
            refine lv_dup2_11 (pc := 68) hx hb dX6_dropDeadEnds_68 rfl rfl ?_
            obtain ⟨v28, hv28, hf⟩ := zc_1 hf
            refine zw_iald (pc := 69) hx hb hK hP 16 0 rfl rfl hv28 dX6_dropDeadEnds_69 ?_
            refine lv_iconst (v := (1 : Int32)) (pc := 70) hx hb dX6_dropDeadEnds_70 (by decide) ?_
            refine lv_iload_n (pc := 71) hx hb dX6_dropDeadEnds_71 rfl (lv_at hl 2 rfl) ?_
            refine lv_ishl (pc := 72) hx hb dX6_dropDeadEnds_72 ?_
            refine lv_iconst (v := (-1 : Int32)) (pc := 73) hx hb dX6_dropDeadEnds_73 (by decide) ?_
            refine lv_ixor (pc := 74) hx hb dX6_dropDeadEnds_74 ?_
            refine lv_iand (pc := 75) hx hb dX6_dropDeadEnds_75 ?_
            obtain ⟨a29, ha29, hf⟩ := zc_1 hf
            refine zw_iast (pc := 76) hx hb hK hP hD hS 16 0 rfl rfl ha29 dX6_dropDeadEnds_76 (fun H locs hP hD hS => ?_)
            have hP : va_P (dC, dI) zz_cls [zo_X1 a_g a_m a_g_order a_g_depth a_g_from f_g_size f_g_known, (a_g_order, .inl (dA 0, 2880, .inl b_g_order)), (a_g_depth, .inl (dA 0, 2880, .inl b_g_depth)), zo_X6 a_o a_m a_g a_o_wanted a_k1 a_k2 a_lv f_o_length, zo_X3 a_m a_c a_w a_m_deeds a_m_ends v22, zo_X0 a_c f_c_top f_c_things a_c_bars a_c_gives a_c_rough f_c_startRung f_c_startThings f_c_startStrength f_c_startWind f_c_slips f_c_lines a_c_code f_c_coded f_c_tiresFrom f_c_tiresTo f_c_mayFrom f_c_mayTo, (a_c_bars, .inl (dA 0, 9, .inl b_c_bars)), (a_c_gives, .inl (dA 0, 9, .inl b_c_gives)), (a_c_rough, .inl (dA 0, 9, .inl b_c_rough)), (a_c_code, .inl (dA 0, 900, .inl b_c_code)), zo_X2 a_w a_c a_w_told a_w_facts a_w_stack f_w_wind, (a_w_told, .inl (dA 0, 315, .inl a23)), (a_w_facts, .inl (dA 0, 6, .inl a24)), (a_w_stack, .inl (dA 0, 64, .inl a25)), (a_m_deeds, .inl (dA 0, 9, .inl a26)), (a_m_ends, .inl (dA 0, 9, .inl a27)), (a_lv, .inl (dA 0, 2880, .inl a29))] H := hP
            have hD : va_D A [zo_X1 a_g a_m a_g_order a_g_depth a_g_from f_g_size f_g_known, (a_g_order, .inl (dA 0, 2880, .inl b_g_order)), (a_g_depth, .inl (dA 0, 2880, .inl b_g_depth)), zo_X6 a_o a_m a_g a_o_wanted a_k1 a_k2 a_lv f_o_length, zo_X3 a_m a_c a_w a_m_deeds a_m_ends v22, zo_X0 a_c f_c_top f_c_things a_c_bars a_c_gives a_c_rough f_c_startRung f_c_startThings f_c_startStrength f_c_startWind f_c_slips f_c_lines a_c_code f_c_coded f_c_tiresFrom f_c_tiresTo f_c_mayFrom f_c_mayTo, (a_c_bars, .inl (dA 0, 9, .inl b_c_bars)), (a_c_gives, .inl (dA 0, 9, .inl b_c_gives)), (a_c_rough, .inl (dA 0, 9, .inl b_c_rough)), (a_c_code, .inl (dA 0, 900, .inl b_c_code)), zo_X2 a_w a_c a_w_told a_w_facts a_w_stack f_w_wind, (a_w_told, .inl (dA 0, 315, .inl a23)), (a_w_facts, .inl (dA 0, 6, .inl a24)), (a_w_stack, .inl (dA 0, 64, .inl a25)), (a_m_deeds, .inl (dA 0, 9, .inl a26)), (a_m_ends, .inl (dA 0, 9, .inl a27)), (a_lv, .inl (dA 0, 2880, .inl a29))] := hD
            obtain ⟨rfl, rfl, rfl, rfl, rfl, rfl, rfl⟩ := zi_7 hf
            exact J77 _ _ _ ⟨lv_sub hl [1, 2, 3, 4] rfl, hP.sub [3, 4, 5, 6, 7, 8, 9, 10, 11, 12, 13, 14, 15, 0, 1, 2, 16] rfl, hD.sub [3, 4, 5, 6, 7, 8, 9, 10, 11, 12, 13, 14, 15, 0, 1, 2, 16] (by decide) rfl, hS⟩

def zb_X6_deedOfFirst_33 (p2 : Int32) (n : Nat) (f_c_top : Int32) (f_c_things : Int32) (f_c_tiresFrom : Int32) (f_c_tiresTo : Int32) (f_c_mayFrom : Int32) (f_c_mayTo : Int32) (b_c_bars : (Nat → Int32)) (b_c_gives : (Nat → Int32)) (b_c_rough : (Nat → Int32)) (b_c_code : (Nat → Int32)) (f_w_wind : Int32) (a7 : (Nat → Int32)) (v9 : Int32) (v10 : Int32) (v11 : Int32) (v12 : Int32) (a13 : (Nat → Int32)) (a14 : (Nat → Int32)) (a15 : (Nat → Int32)) (a16 : (Nat → Int32)) (a17 : (Nat → Int32)) : Option (Nat × Int32 × Int32 × Int32 × Int32 × (Nat → Int32) × (Nat → Int32) × (Nat → Int32) × (Nat → Int32) × (Nat → Int32)) :=
  if (p2 + (1 : Int32)) < v11 then
    some (2, v9, v10, v11, v12, a13, a14, a15, a16, a17)
  else
    zd_7 (zf_X6_firstOnward n v12 f_c_top f_c_things f_c_tiresFrom f_c_tiresTo f_c_mayFrom f_c_mayTo b_c_bars b_c_gives b_c_rough b_c_code f_w_wind a13 a14 a15 a16 a17 a7 v9 v11) (fun v18 v19 a20 a21 a22 a23 a24 =>
    if v18 = (-1 : Int32) then
      some (1, v9, v10, v11, v19, a20, a21, a22, a23, a24)
    else
      zd_1 (za_ld a24 9 v18) (fun v25 =>
      zd_1 (za_ld a23 9 v18) (fun v26 =>
      zd_1 (some (v11 + (1 : Int32))) (fun v27 =>
      some (0, v25, v26, v27, v19, a20, a21, a22, a23, a24)))))
def zf_X6_deedOfFirst (n : Nat) (f_o_length : Int32) (f_m_found : Int32) (f_c_top : Int32) (f_c_things : Int32) (f_c_tiresFrom : Int32) (f_c_tiresTo : Int32) (f_c_mayFrom : Int32) (f_c_mayTo : Int32) (b_c_bars : (Nat → Int32)) (b_c_gives : (Nat → Int32)) (b_c_rough : (Nat → Int32)) (b_c_code : (Nat → Int32)) (f_w_wind : Int32) (b_w_told : (Nat → Int32)) (b_w_facts : (Nat → Int32)) (b_w_stack : (Nat → Int32)) (b_m_deeds : (Nat → Int32)) (b_m_ends : (Nat → Int32)) (f_g_size : Int32) (b_g_order : (Nat → Int32)) (b_g_depth : (Nat → Int32)) (b_lv : (Nat → Int32)) (p1 : Int32) (p2 : Int32) : Option (Int32 × Int32 × (Nat → Int32) × (Nat → Int32) × (Nat → Int32) × (Nat → Int32) × (Nat → Int32) × (Nat → Int32)) :=
  zd_7 (zf_X6_dropDeadEnds n f_o_length f_m_found f_c_top f_c_things f_c_tiresFrom f_c_tiresTo f_c_mayFrom f_c_mayTo b_c_bars b_c_gives b_c_rough b_c_code f_w_wind b_w_told b_w_facts b_w_stack b_m_deeds b_m_ends f_g_size b_g_order b_g_depth b_lv) (fun v1 a2 a3 a4 a5 a6 a7 =>
  if f_o_length ≤ p2 then
    some ((-1 : Int32), v1, a2, a3, a4, a5, a6, a7)
  else
    zd_1 (za_ld a7 2880 p1) (fun v8 =>
    if (v8 &&& (1 : Int32)) = 0 then
      some ((-1 : Int32), v1, a2, a3, a4, a5, a6, a7)
    else
      zd_10 (za_it (fun v => zb_X6_deedOfFirst_33 p2 n f_c_top f_c_things f_c_tiresFrom f_c_tiresTo f_c_mayFrom f_c_mayTo b_c_bars b_c_gives b_c_rough b_c_code f_w_wind a7 v.1 v.2.1 v.2.2.1 v.2.2.2.1 v.2.2.2.2.1 v.2.2.2.2.2.1 v.2.2.2.2.2.2.1 v.2.2.2.2.2.2.2.1 v.2.2.2.2.2.2.2.2) n (p1, (-1 : Int32), (1 : Int32), v1, a2, a3, a4, a5, a6)) (fun g37 v28 v29 v30 v31 a32 a33 a34 a35 a36 =>
      if g37 = 1 then
        some ((-1 : Int32), v31, a32, a33, a34, a35, a36, a7)
      else if g37 = 2 then
        some (v29, v31, a32, a33, a34, a35, a36, a7)
      else none)))
theorem zk_X6_deedOfFirst : yX6_deedOfFirst.cls = RX6 ∧ yX6_deedOfFirst.cls ≠ "java/lang/invoke/MethodHandle" ∧ yX6_deedOfFirst.cls ≠ "java/lang/invoke/VarHandle" ∧ (parseMethodDescriptor yX6_deedOfFirst.desc).map (fun d => d.parameters.length) = some 2 := by decide +kernel
set_option maxHeartbeats 4000000 in
set_option maxRecDepth 100000 in
theorem zt_X6_deedOfFirst (l : Launch) (dC : Nat → ClassId) (dI : Nat → Nat → Nat) (dA : Nat → ClassId) (adK adV : Nat → Nat) (sz : Nat) (a_o : Nat) (a_m : Nat) (a_g : Nat) (a_o_wanted : Nat) (a_k1 : Nat) (a_k2 : Nat) (a_lv : Nat) (a_c : Nat) (a_w : Nat) (a_m_deeds : Nat) (a_m_ends : Nat) (a_c_bars : Nat) (a_c_gives : Nat) (a_c_rough : Nat) (a_c_code : Nat) (a_w_told : Nat) (a_w_facts : Nat) (a_w_stack : Nat) (a_g_order : Nat) (a_g_depth : Nat) (a_g_from : Nat) (n : Nat) (f_o_length : Int32) (f_m_found : Int32) (f_c_top : Int32) (f_c_things : Int32) (f_c_startRung : Int32) (f_c_startThings : Int32) (f_c_startStrength : Int32) (f_c_startWind : Int32) (f_c_slips : Int32) (f_c_lines : Int32) (f_c_coded : Int32) (f_c_tiresFrom : Int32) (f_c_tiresTo : Int32) (f_c_mayFrom : Int32) (f_c_mayTo : Int32) (f_w_wind : Int32) (f_g_size : Int32) (f_g_known : Int32) (b_c_bars : (Nat → Int32)) (b_c_gives : (Nat → Int32)) (b_c_rough : (Nat → Int32)) (b_c_code : (Nat → Int32)) (b_w_told : (Nat → Int32)) (b_w_facts : (Nat → Int32)) (b_w_stack : (Nat → Int32)) (b_m_deeds : (Nat → Int32)) (b_m_ends : (Nat → Int32)) (b_g_order : (Nat → Int32)) (b_g_depth : (Nat → Int32)) (b_lv : (Nat → Int32)) (p1 : Int32) (p2 : Int32) (r0 : Int32) (o1 : Int32) (o2 : (Nat → Int32)) (o3 : (Nat → Int32)) (o4 : (Nat → Int32)) (o5 : (Nat → Int32)) (o6 : (Nat → Int32)) (o7 : (Nat → Int32)) (hf : zf_X6_deedOfFirst n f_o_length f_m_found f_c_top f_c_things f_c_tiresFrom f_c_tiresTo f_c_mayFrom f_c_mayTo b_c_bars b_c_gives b_c_rough b_c_code f_w_wind b_w_told b_w_facts b_w_stack b_m_deeds b_m_ends f_g_size b_g_order b_g_depth b_lv p1 p2 = some (r0, o1, o2, o3, o4, o5, o6, o7)) : Met l yX6_deedOfFirst (.code yX6_deedOfFirst cX6_deedOfFirst 7 (some .int) :: zq_T) ({ frames := 7, cells := 0, slots := 0, locals := 200 }) (va_Pc [.ref a_o, .int p1, .int p2] (zx_M dC dI dA adK adV [zo_X6 a_o a_m a_g a_o_wanted a_k1 a_k2 a_lv f_o_length, zo_X3 a_m a_c a_w a_m_deeds a_m_ends f_m_found, zo_X0 a_c f_c_top f_c_things a_c_bars a_c_gives a_c_rough f_c_startRung f_c_startThings f_c_startStrength f_c_startWind f_c_slips f_c_lines a_c_code f_c_coded f_c_tiresFrom f_c_tiresTo f_c_mayFrom f_c_mayTo, (a_c_bars, .inl (dA 0, 9, .inl b_c_bars)), (a_c_gives, .inl (dA 0, 9, .inl b_c_gives)), (a_c_rough, .inl (dA 0, 9, .inl b_c_rough)), (a_c_code, .inl (dA 0, 900, .inl b_c_code)), zo_X2 a_w a_c a_w_told a_w_facts a_w_stack f_w_wind, (a_w_told, .inl (dA 0, 315, .inl b_w_told)), (a_w_facts, .inl (dA 0, 6, .inl b_w_facts)), (a_w_stack, .inl (dA 0, 64, .inl b_w_stack)), (a_m_deeds, .inl (dA 0, 9, .inl b_m_deeds)), (a_m_ends, .inl (dA 0, 9, .inl b_m_ends)), zo_X1 a_g a_m a_g_order a_g_depth a_g_from f_g_size f_g_known, (a_g_order, .inl (dA 0, 2880, .inl b_g_order)), (a_g_depth, .inl (dA 0, 2880, .inl b_g_depth)), (a_lv, .inl (dA 0, 2880, .inl b_lv))] sz)) (va_Qi (fun (r : Int32) (_ : Unit) => r = r0) (fun _ t => zz_B dC dI dA (va_A [zo_X6 a_o a_m a_g a_o_wanted a_k1 a_k2 a_lv f_o_length, zo_X3 a_m a_c a_w a_m_deeds a_m_ends f_m_found, zo_X0 a_c f_c_top f_c_things a_c_bars a_c_gives a_c_rough f_c_startRung f_c_startThings f_c_startStrength f_c_startWind f_c_slips f_c_lines a_c_code f_c_coded f_c_tiresFrom f_c_tiresTo f_c_mayFrom f_c_mayTo, (a_c_bars, .inl (dA 0, 9, .inl b_c_bars)), (a_c_gives, .inl (dA 0, 9, .inl b_c_gives)), (a_c_rough, .inl (dA 0, 9, .inl b_c_rough)), (a_c_code, .inl (dA 0, 900, .inl b_c_code)), zo_X2 a_w a_c a_w_told a_w_facts a_w_stack f_w_wind, (a_w_told, .inl (dA 0, 315, .inl b_w_told)), (a_w_facts, .inl (dA 0, 6, .inl b_w_facts)), (a_w_stack, .inl (dA 0, 64, .inl b_w_stack)), (a_m_deeds, .inl (dA 0, 9, .inl b_m_deeds)), (a_m_ends, .inl (dA 0, 9, .inl b_m_ends)), zo_X1 a_g a_m a_g_order a_g_depth a_g_from f_g_size f_g_known, (a_g_order, .inl (dA 0, 2880, .inl b_g_order)), (a_g_depth, .inl (dA 0, 2880, .inl b_g_depth)), (a_lv, .inl (dA 0, 2880, .inl b_lv))] sz) [zo_X6 a_o a_m a_g a_o_wanted a_k1 a_k2 a_lv f_o_length, zo_X3 a_m a_c a_w a_m_deeds a_m_ends o1, zo_X0 a_c f_c_top f_c_things a_c_bars a_c_gives a_c_rough f_c_startRung f_c_startThings f_c_startStrength f_c_startWind f_c_slips f_c_lines a_c_code f_c_coded f_c_tiresFrom f_c_tiresTo f_c_mayFrom f_c_mayTo, (a_c_bars, .inl (dA 0, 9, .inl b_c_bars)), (a_c_gives, .inl (dA 0, 9, .inl b_c_gives)), (a_c_rough, .inl (dA 0, 9, .inl b_c_rough)), (a_c_code, .inl (dA 0, 900, .inl b_c_code)), zo_X2 a_w a_c a_w_told a_w_facts a_w_stack f_w_wind, (a_w_told, .inl (dA 0, 315, .inl o2)), (a_w_facts, .inl (dA 0, 6, .inl o3)), (a_w_stack, .inl (dA 0, 64, .inl o4)), (a_m_deeds, .inl (dA 0, 9, .inl o5)), (a_m_ends, .inl (dA 0, 9, .inl o6)), zo_X1 a_g a_m a_g_order a_g_depth a_g_from f_g_size f_g_known, (a_g_order, .inl (dA 0, 2880, .inl b_g_order)), (a_g_depth, .inl (dA 0, 2880, .inl b_g_depth)), (a_lv, .inl (dA 0, 2880, .inl o7))] t) (va_A [zo_X6 a_o a_m a_g a_o_wanted a_k1 a_k2 a_lv f_o_length, zo_X3 a_m a_c a_w a_m_deeds a_m_ends f_m_found, zo_X0 a_c f_c_top f_c_things a_c_bars a_c_gives a_c_rough f_c_startRung f_c_startThings f_c_startStrength f_c_startWind f_c_slips f_c_lines a_c_code f_c_coded f_c_tiresFrom f_c_tiresTo f_c_mayFrom f_c_mayTo, (a_c_bars, .inl (dA 0, 9, .inl b_c_bars)), (a_c_gives, .inl (dA 0, 9, .inl b_c_gives)), (a_c_rough, .inl (dA 0, 9, .inl b_c_rough)), (a_c_code, .inl (dA 0, 900, .inl b_c_code)), zo_X2 a_w a_c a_w_told a_w_facts a_w_stack f_w_wind, (a_w_told, .inl (dA 0, 315, .inl b_w_told)), (a_w_facts, .inl (dA 0, 6, .inl b_w_facts)), (a_w_stack, .inl (dA 0, 64, .inl b_w_stack)), (a_m_deeds, .inl (dA 0, 9, .inl b_m_deeds)), (a_m_ends, .inl (dA 0, 9, .inl b_m_ends)), zo_X1 a_g a_m a_g_order a_g_depth a_g_from f_g_size f_g_known, (a_g_order, .inl (dA 0, 2880, .inl b_g_order)), (a_g_depth, .inl (dA 0, 2880, .inl b_g_depth)), (a_lv, .inl (dA 0, 2880, .inl b_lv))] sz)) 0 0 (va_A [zo_X6 a_o a_m a_g a_o_wanted a_k1 a_k2 a_lv f_o_length, zo_X3 a_m a_c a_w a_m_deeds a_m_ends f_m_found, zo_X0 a_c f_c_top f_c_things a_c_bars a_c_gives a_c_rough f_c_startRung f_c_startThings f_c_startStrength f_c_startWind f_c_slips f_c_lines a_c_code f_c_coded f_c_tiresFrom f_c_tiresTo f_c_mayFrom f_c_mayTo, (a_c_bars, .inl (dA 0, 9, .inl b_c_bars)), (a_c_gives, .inl (dA 0, 9, .inl b_c_gives)), (a_c_rough, .inl (dA 0, 9, .inl b_c_rough)), (a_c_code, .inl (dA 0, 900, .inl b_c_code)), zo_X2 a_w a_c a_w_told a_w_facts a_w_stack f_w_wind, (a_w_told, .inl (dA 0, 315, .inl b_w_told)), (a_w_facts, .inl (dA 0, 6, .inl b_w_facts)), (a_w_stack, .inl (dA 0, 64, .inl b_w_stack)), (a_m_deeds, .inl (dA 0, 9, .inl b_m_deeds)), (a_m_ends, .inl (dA 0, 9, .inl b_m_ends)), zo_X1 a_g a_m a_g_order a_g_depth a_g_from f_g_size f_g_known, (a_g_order, .inl (dA 0, 2880, .inl b_g_order)), (a_g_depth, .inl (dA 0, 2880, .inl b_g_depth)), (a_lv, .inl (dA 0, 2880, .inl b_lv))] sz) := by
  unfold zf_X6_deedOfFirst at hf
  refine Met.ofW (cc := cX6_deedOfFirst) (maxL := 7) (ret := (some .int)) (by decide) rfl ?_
  intro p e s m args below meth c s₁ B hml hv
  obtain ⟨rfl, ⟨hsz, hP, hK, hD0⟩, hZ⟩ := hv
  have hx := B.exec
  have hb := B.bytes
  have hr := B.returns
  have ht : ∀ w ∈ zq_T, w.before ([.ref a_o, .int p1, .int p2] : List Value).toArray s = true := fun w hw => atoms_spec (ws := .code yX6_deedOfFirst cX6_deedOfFirst 7 (some .int) :: zq_T) B.pre w (List.mem_cons_of_mem _ hw)
  have hown : s.vm.findClass RX6 = some m.cls := findClass_of_methodNamed B.named
  have hlocks := B.notSynchronized
  subst hsz
  have hD := hD0.self (sz := s.heap.size)
  generalize hAe : va_A [zo_X6 a_o a_m a_g a_o_wanted a_k1 a_k2 a_lv f_o_length, zo_X3 a_m a_c a_w a_m_deeds a_m_ends f_m_found, zo_X0 a_c f_c_top f_c_things a_c_bars a_c_gives a_c_rough f_c_startRung f_c_startThings f_c_startStrength f_c_startWind f_c_slips f_c_lines a_c_code f_c_coded f_c_tiresFrom f_c_tiresTo f_c_mayFrom f_c_mayTo, (a_c_bars, .inl (dA 0, 9, .inl b_c_bars)), (a_c_gives, .inl (dA 0, 9, .inl b_c_gives)), (a_c_rough, .inl (dA 0, 9, .inl b_c_rough)), (a_c_code, .inl (dA 0, 900, .inl b_c_code)), zo_X2 a_w a_c a_w_told a_w_facts a_w_stack f_w_wind, (a_w_told, .inl (dA 0, 315, .inl b_w_told)), (a_w_facts, .inl (dA 0, 6, .inl b_w_facts)), (a_w_stack, .inl (dA 0, 64, .inl b_w_stack)), (a_m_deeds, .inl (dA 0, 9, .inl b_m_deeds)), (a_m_ends, .inl (dA 0, 9, .inl b_m_ends)), zo_X1 a_g a_m a_g_order a_g_depth a_g_from f_g_size f_g_known, (a_g_order, .inl (dA 0, 2880, .inl b_g_order)), (a_g_depth, .inl (dA 0, 2880, .inl b_g_depth)), (a_lv, .inl (dA 0, 2880, .inl b_lv))] s.heap.size = A at hD hZ ⊢
  have hA : ∀ q : Nat, s.heap.size ≤ q → A q := fun q h => by rw [← hAe]; exact Or.inr h
  clear hAe hD0
  have hS : va_S A s.heap s.heap [] := va_S.rf
  have hl := lv_entry ([.ref a_o, .int p1, .int p2]) (n := 7) (Nat.le_of_ble_eq_true rfl)
  rw [lg_entry_eq]
  generalize (lg_sl ([.ref a_o, .int p1, .int p2]) ++ List.replicate (7 - (lg_sl ([.ref a_o, .int p1, .int p2])).length) Slot.unset).toArray = ls at hl ⊢
  have hl : lv_has ls 7 [(0, .ref a_o), (1, .int p1), (2, .int p2)] := hl
  refine lv_aload_n (pc := 0) hx hb dX6_deedOfFirst_0 rfl (lv_at hl 0 rfl) ?_
  obtain ⟨v1, a2, a3, a4, a5, a6, a7, hv1, hf⟩ := zc_7 hf
  refine zx_Vv (pc := 1) (wc := [zo_X6 a_o a_m a_g a_o_wanted a_k1 a_k2 a_lv f_o_length, zo_X3 a_m a_c a_w a_m_deeds a_m_ends f_m_found, zo_X0 a_c f_c_top f_c_things a_c_bars a_c_gives a_c_rough f_c_startRung f_c_startThings f_c_startStrength f_c_startWind f_c_slips f_c_lines a_c_code f_c_coded f_c_tiresFrom f_c_tiresTo f_c_mayFrom f_c_mayTo, (a_c_bars, .inl (dA 0, 9, .inl b_c_bars)), (a_c_gives, .inl (dA 0, 9, .inl b_c_gives)), (a_c_rough, .inl (dA 0, 9, .inl b_c_rough)), (a_c_code, .inl (dA 0, 900, .inl b_c_code)), zo_X2 a_w a_c a_w_told a_w_facts a_w_stack f_w_wind, (a_w_told, .inl (dA 0, 315, .inl b_w_told)), (a_w_facts, .inl (dA 0, 6, .inl b_w_facts)), (a_w_stack, .inl (dA 0, 64, .inl b_w_stack)), (a_m_deeds, .inl (dA 0, 9, .inl b_m_deeds)), (a_m_ends, .inl (dA 0, 9, .inl b_m_ends)), zo_X1 a_g a_m a_g_order a_g_depth a_g_from f_g_size f_g_known, (a_g_order, .inl (dA 0, 2880, .inl b_g_order)), (a_g_depth, .inl (dA 0, 2880, .inl b_g_depth)), (a_lv, .inl (dA 0, 2880, .inl b_lv))]) (wr := []) (w1 := [zo_X6 a_o a_m a_g a_o_wanted a_k1 a_k2 a_lv f_o_length, zo_X3 a_m a_c a_w a_m_deeds a_m_ends v1, zo_X0 a_c f_c_top f_c_things a_c_bars a_c_gives a_c_rough f_c_startRung f_c_startThings f_c_startStrength f_c_startWind f_c_slips f_c_lines a_c_code f_c_coded f_c_tiresFrom f_c_tiresTo f_c_mayFrom f_c_mayTo, (a_c_bars, .inl (dA 0, 9, .inl b_c_bars)), (a_c_gives, .inl (dA 0, 9, .inl b_c_gives)), (a_c_rough, .inl (dA 0, 9, .inl b_c_rough)), (a_c_code, .inl (dA 0, 900, .inl b_c_code)), zo_X2 a_w a_c a_w_told a_w_facts a_w_stack f_w_wind, (a_w_told, .inl (dA 0, 315, .inl a2)), (a_w_facts, .inl (dA 0, 6, .inl a3)), (a_w_stack, .inl (dA 0, 64, .inl a4)), (a_m_deeds, .inl (dA 0, 9, .inl a5)), (a_m_ends, .inl (dA 0, 9, .inl a6)), zo_X1 a_g a_m a_g_order a_g_depth a_g_from f_g_size f_g_known, (a_g_order, .inl (dA 0, 2880, .inl b_g_order)), (a_g_depth, .inl (dA 0, 2880, .inl b_g_depth)), (a_lv, .inl (dA 0, 2880, .inl a7))]) (As := []) (rest := []) ⟨hx, hb, hml, hown, ht⟩ (zt_X6_dropDeadEnds l dC dI dA adK adV _ a_o a_m a_g a_o_wanted a_k1 a_k2 a_lv a_c a_w a_m_deeds a_m_ends a_c_bars a_c_gives a_c_rough a_c_code a_w_told a_w_facts a_w_stack a_g_order a_g_depth a_g_from n f_o_length f_m_found f_c_top f_c_things f_c_startRung f_c_startThings f_c_startStrength f_c_startWind f_c_slips f_c_lines f_c_coded f_c_tiresFrom f_c_tiresTo f_c_mayFrom f_c_mayTo f_w_wind f_g_size f_g_known b_c_bars b_c_gives b_c_rough b_c_code b_w_told b_w_facts b_w_stack b_m_deeds b_m_ends b_g_order b_g_depth b_lv v1 a2 a3 a4 a5 a6 a7 hv1) (cwV 0 ht (zq_V zq_494 zq_495 zq_496 zq_475 zq_492) rfl rfl rfl zk_X6_dropDeadEnds ⟨Nat.le_of_ble_eq_true rfl, Nat.le_of_ble_eq_true rfl⟩) rfl rfl hZ hK hP hD hS hA [0, 1, 2, 3, 4, 5, 6, 7, 8, 9, 10, 11, 12, 13, 14, 15, 16] [] (by decide) (by decide) (by decide) rfl rfl rfl hl.1 (Nat.le_of_ble_eq_true rfl) dX6_deedOfFirst_1 ⟨Nat.zero_le _, Nat.zero_le _⟩ rfl (fun H locs hP hD hS => ?_)
  have hP : va_P (dC, dI) zz_cls [zo_X6 a_o a_m a_g a_o_wanted a_k1 a_k2 a_lv f_o_length, zo_X3 a_m a_c a_w a_m_deeds a_m_ends v1, zo_X0 a_c f_c_top f_c_things a_c_bars a_c_gives a_c_rough f_c_startRung f_c_startThings f_c_startStrength f_c_startWind f_c_slips f_c_lines a_c_code f_c_coded f_c_tiresFrom f_c_tiresTo f_c_mayFrom f_c_mayTo, (a_c_bars, .inl (dA 0, 9, .inl b_c_bars)), (a_c_gives, .inl (dA 0, 9, .inl b_c_gives)), (a_c_rough, .inl (dA 0, 9, .inl b_c_rough)), (a_c_code, .inl (dA 0, 900, .inl b_c_code)), zo_X2 a_w a_c a_w_told a_w_facts a_w_stack f_w_wind, (a_w_told, .inl (dA 0, 315, .inl a2)), (a_w_facts, .inl (dA 0, 6, .inl a3)), (a_w_stack, .inl (dA 0, 64, .inl a4)), (a_m_deeds, .inl (dA 0, 9, .inl a5)), (a_m_ends, .inl (dA 0, 9, .inl a6)), zo_X1 a_g a_m a_g_order a_g_depth a_g_from f_g_size f_g_known, (a_g_order, .inl (dA 0, 2880, .inl b_g_order)), (a_g_depth, .inl (dA 0, 2880, .inl b_g_depth)), (a_lv, .inl (dA 0, 2880, .inl a7))] H := hP
  have hD : va_D A [zo_X6 a_o a_m a_g a_o_wanted a_k1 a_k2 a_lv f_o_length, zo_X3 a_m a_c a_w a_m_deeds a_m_ends v1, zo_X0 a_c f_c_top f_c_things a_c_bars a_c_gives a_c_rough f_c_startRung f_c_startThings f_c_startStrength f_c_startWind f_c_slips f_c_lines a_c_code f_c_coded f_c_tiresFrom f_c_tiresTo f_c_mayFrom f_c_mayTo, (a_c_bars, .inl (dA 0, 9, .inl b_c_bars)), (a_c_gives, .inl (dA 0, 9, .inl b_c_gives)), (a_c_rough, .inl (dA 0, 9, .inl b_c_rough)), (a_c_code, .inl (dA 0, 900, .inl b_c_code)), zo_X2 a_w a_c a_w_told a_w_facts a_w_stack f_w_wind, (a_w_told, .inl (dA 0, 315, .inl a2)), (a_w_facts, .inl (dA 0, 6, .inl a3)), (a_w_stack, .inl (dA 0, 64, .inl a4)), (a_m_deeds, .inl (dA 0, 9, .inl a5)), (a_m_ends, .inl (dA 0, 9, .inl a6)), zo_X1 a_g a_m a_g_order a_g_depth a_g_from f_g_size f_g_known, (a_g_order, .inl (dA 0, 2880, .inl b_g_order)), (a_g_depth, .inl (dA 0, 2880, .inl b_g_depth)), (a_lv, .inl (dA 0, 2880, .inl a7))] := hD
  refine lv_iload_n (pc := 4) hx hb dX6_deedOfFirst_4 rfl (lv_at hl 2 rfl) ?_
  refine lv_aload_n (pc := 5) hx hb dX6_deedOfFirst_5 rfl (lv_at hl 0 rfl) ?_
  refine va_get (pc := 6) (D := (dC, dI)) (ci := 7) (v := .int f_o_length) (C := RX6) (T := TX6) (N := 7) hx hb ht zq_layX6 hown hK hP 0 rfl rfl 6 (by decide) (ht _ zq_454) (fun _ h9 => h9) rfl dX6_deedOfFirst_6 ?_
  refine lv_icmp_ge (tgt := 23) (pc := 9) hx hb dX6_deedOfFirst_9 rfl (fun hc => ?_) (fun hc => ?_)
  · have hf := za_t hf hc
    refine lv_iconst (v := (-1 : Int32)) (pc := 23) hx hb dX6_deedOfFirst_23 (by decide) ?_
    obtain ⟨rfl, rfl, rfl, rfl, rfl, rfl, rfl, rfl⟩ := zi_8 hf
    exact W.iret (pc := 24) hx hb hr (fun t ht hW => ⟨⟨_, (), rfl, rfl, zz_Bi (by rw [ht]; exact hP) (va_K.moved hW.alike hK) (hD)⟩, hS.F ht⟩) hS.2.2 dX6_deedOfFirst_24
  · have hf := za_f hf hc
    refine lv_aload_n (pc := 12) hx hb dX6_deedOfFirst_12 rfl (lv_at hl 0 rfl) ?_
    refine va_get (pc := 13) (D := (dC, dI)) (ci := 7) (v := .ref a_lv) (C := RX6) (T := TX6) (N := 7) hx hb ht zq_layX6 hown hK hP 0 rfl rfl 5 (by decide) (ht _ zq_457) (fun _ h9 => h9) rfl dX6_deedOfFirst_13 ?_
    refine lv_iload_n (pc := 16) hx hb dX6_deedOfFirst_16 rfl (lv_at hl 1 rfl) ?_
    obtain ⟨v8, hv8, hf⟩ := zc_1 hf
    refine zw_iald (pc := 17) hx hb hK hP 16 0 rfl rfl hv8 dX6_deedOfFirst_17 ?_
    refine lv_iconst (v := (1 : Int32)) (pc := 18) hx hb dX6_deedOfFirst_18 (by decide) ?_
    refine lv_iand (pc := 19) hx hb dX6_deedOfFirst_19 ?_
    refine lv_if_ne (tgt := 25) (pc := 20) hx hb dX6_deedOfFirst_20 rfl (fun hc => ?_) (fun hc => ?_)
    · have hf := za_f hf hc
      refine lv_iload_n (pc := 25) hx hb dX6_deedOfFirst_25 rfl (lv_at hl 1 rfl) ?_
      refine lv_istore_n (lv' := [(3, .int p1), (0, .ref a_o), (1, .int p1), (2, .int p2)]) (pc := 26) hx hb dX6_deedOfFirst_26 rfl hl (by decide) rfl (fun ls hl => ?_)
      refine lv_iconst (v := (-1 : Int32)) (pc := 27) hx hb dX6_deedOfFirst_27 (by decide) ?_
      refine lv_istore (lv' := [(4, .int (-1 : Int32)), (3, .int p1), (0, .ref a_o), (1, .int p1), (2, .int p2)]) (pc := 28) hx hb dX6_deedOfFirst_28 hl (by decide) rfl (fun ls hl => ?_)
      refine lv_iconst (v := (1 : Int32)) (pc := 30) hx hb dX6_deedOfFirst_30 (by decide) ?_
      refine lv_istore (lv' := [(5, .int (1 : Int32)), (4, .int (-1 : Int32)), (3, .int p1), (0, .ref a_o), (1, .int p1), (2, .int p2)]) (pc := 31) hx hb dX6_deedOfFirst_31 hl (by decide) rfl (fun ls hl => ?_)
      obtain ⟨g37, v28, v29, v30, v31, a32, a33, a34, a35, a36, hj, hf⟩ := zc_10 hf
      refine zj_join (pcJ := 56) (stk := []) (X := fun H locs ls => g37 = 1 ∧ lv_has ls 7 [] ∧ va_P (dC, dI) zz_cls [zo_X6 a_o a_m a_g a_o_wanted a_k1 a_k2 a_lv f_o_length, zo_X3 a_m a_c a_w a_m_deeds a_m_ends v31, zo_X0 a_c f_c_top f_c_things a_c_bars a_c_gives a_c_rough f_c_startRung f_c_startThings f_c_startStrength f_c_startWind f_c_slips f_c_lines a_c_code f_c_coded f_c_tiresFrom f_c_tiresTo f_c_mayFrom f_c_mayTo, (a_c_bars, .inl (dA 0, 9, .inl b_c_bars)), (a_c_gives, .inl (dA 0, 9, .inl b_c_gives)), (a_c_rough, .inl (dA 0, 9, .inl b_c_rough)), (a_c_code, .inl (dA 0, 900, .inl b_c_code)), zo_X2 a_w a_c a_w_told a_w_facts a_w_stack f_w_wind, (a_w_told, .inl (dA 0, 315, .inl a32)), (a_w_facts, .inl (dA 0, 6, .inl a33)), (a_w_stack, .inl (dA 0, 64, .inl a34)), (a_m_deeds, .inl (dA 0, 9, .inl a35)), (a_m_ends, .inl (dA 0, 9, .inl a36)), zo_X1 a_g a_m a_g_order a_g_depth a_g_from f_g_size f_g_known, (a_g_order, .inl (dA 0, 2880, .inl b_g_order)), (a_g_depth, .inl (dA 0, 2880, .inl b_g_depth)), (a_lv, .inl (dA 0, 2880, .inl a7))] H ∧ va_D A [zo_X6 a_o a_m a_g a_o_wanted a_k1 a_k2 a_lv f_o_length, zo_X3 a_m a_c a_w a_m_deeds a_m_ends v31, zo_X0 a_c f_c_top f_c_things a_c_bars a_c_gives a_c_rough f_c_startRung f_c_startThings f_c_startStrength f_c_startWind f_c_slips f_c_lines a_c_code f_c_coded f_c_tiresFrom f_c_tiresTo f_c_mayFrom f_c_mayTo, (a_c_bars, .inl (dA 0, 9, .inl b_c_bars)), (a_c_gives, .inl (dA 0, 9, .inl b_c_gives)), (a_c_rough, .inl (dA 0, 9, .inl b_c_rough)), (a_c_code, .inl (dA 0, 900, .inl b_c_code)), zo_X2 a_w a_c a_w_told a_w_facts a_w_stack f_w_wind, (a_w_told, .inl (dA 0, 315, .inl a32)), (a_w_facts, .inl (dA 0, 6, .inl a33)), (a_w_stack, .inl (dA 0, 64, .inl a34)), (a_m_deeds, .inl (dA 0, 9, .inl a35)), (a_m_ends, .inl (dA 0, 9, .inl a36)), zo_X1 a_g a_m a_g_order a_g_depth a_g_from f_g_size f_g_known, (a_g_order, .inl (dA 0, 2880, .inl b_g_order)), (a_g_depth, .inl (dA 0, 2880, .inl b_g_depth)), (a_lv, .inl (dA 0, 2880, .inl a7))] ∧ va_S A s.heap H locs) (fun H locs ls hX => ?_) (fun E56 => ?_)
      · obtain ⟨htg, hl, hP, hD, hS⟩ := hX
        clear hj
        have hf := za_t hf htg
        refine lv_iconst (v := (-1 : Int32)) (pc := 56) hx hb dX6_deedOfFirst_56 (by decide) ?_
        obtain ⟨rfl, rfl, rfl, rfl, rfl, rfl, rfl, rfl⟩ := zi_8 hf
        exact W.iret (pc := 57) hx hb hr (fun t ht hW => ⟨⟨_, (), rfl, rfl, zz_Bi (by rw [ht]; exact hP) (va_K.moved hW.alike hK) (hD)⟩, hS.F ht⟩) hS.2.2 dX6_deedOfFirst_57
      refine zj_join (pcJ := 87) (stk := []) (X := fun H locs ls => g37 = 2 ∧ lv_has ls 7 [(4, .int v29)] ∧ va_P (dC, dI) zz_cls [zo_X6 a_o a_m a_g a_o_wanted a_k1 a_k2 a_lv f_o_length, zo_X3 a_m a_c a_w a_m_deeds a_m_ends v31, zo_X0 a_c f_c_top f_c_things a_c_bars a_c_gives a_c_rough f_c_startRung f_c_startThings f_c_startStrength f_c_startWind f_c_slips f_c_lines a_c_code f_c_coded f_c_tiresFrom f_c_tiresTo f_c_mayFrom f_c_mayTo, (a_c_bars, .inl (dA 0, 9, .inl b_c_bars)), (a_c_gives, .inl (dA 0, 9, .inl b_c_gives)), (a_c_rough, .inl (dA 0, 9, .inl b_c_rough)), (a_c_code, .inl (dA 0, 900, .inl b_c_code)), zo_X2 a_w a_c a_w_told a_w_facts a_w_stack f_w_wind, (a_w_told, .inl (dA 0, 315, .inl a32)), (a_w_facts, .inl (dA 0, 6, .inl a33)), (a_w_stack, .inl (dA 0, 64, .inl a34)), (a_m_deeds, .inl (dA 0, 9, .inl a35)), (a_m_ends, .inl (dA 0, 9, .inl a36)), zo_X1 a_g a_m a_g_order a_g_depth a_g_from f_g_size f_g_known, (a_g_order, .inl (dA 0, 2880, .inl b_g_order)), (a_g_depth, .inl (dA 0, 2880, .inl b_g_depth)), (a_lv, .inl (dA 0, 2880, .inl a7))] H ∧ va_D A [zo_X6 a_o a_m a_g a_o_wanted a_k1 a_k2 a_lv f_o_length, zo_X3 a_m a_c a_w a_m_deeds a_m_ends v31, zo_X0 a_c f_c_top f_c_things a_c_bars a_c_gives a_c_rough f_c_startRung f_c_startThings f_c_startStrength f_c_startWind f_c_slips f_c_lines a_c_code f_c_coded f_c_tiresFrom f_c_tiresTo f_c_mayFrom f_c_mayTo, (a_c_bars, .inl (dA 0, 9, .inl b_c_bars)), (a_c_gives, .inl (dA 0, 9, .inl b_c_gives)), (a_c_rough, .inl (dA 0, 9, .inl b_c_rough)), (a_c_code, .inl (dA 0, 900, .inl b_c_code)), zo_X2 a_w a_c a_w_told a_w_facts a_w_stack f_w_wind, (a_w_told, .inl (dA 0, 315, .inl a32)), (a_w_facts, .inl (dA 0, 6, .inl a33)), (a_w_stack, .inl (dA 0, 64, .inl a34)), (a_m_deeds, .inl (dA 0, 9, .inl a35)), (a_m_ends, .inl (dA 0, 9, .inl a36)), zo_X1 a_g a_m a_g_order a_g_depth a_g_from f_g_size f_g_known, (a_g_order, .inl (dA 0, 2880, .inl b_g_order)), (a_g_depth, .inl (dA 0, 2880, .inl b_g_depth)), (a_lv, .inl (dA 0, 2880, .inl a7))] ∧ va_S A s.heap H locs) (fun H locs ls hX => ?_) (fun E87 => ?_)
      · obtain ⟨htg, hl, hP, hD, hS⟩ := hX
        clear hj
        have hf := za_f hf (by rw [htg]; decide)
        have hf := za_t hf htg
        refine lv_iload (pc := 87) hx hb dX6_deedOfFirst_87 (lv_at hl 0 rfl) ?_
        obtain ⟨rfl, rfl, rfl, rfl, rfl, rfl, rfl, rfl⟩ := zi_8 hf
        exact W.iret (pc := 89) hx hb hr (fun t ht hW => ⟨⟨_, (), rfl, rfl, zz_Bi (by rw [ht]; exact hP) (va_K.moved hW.alike hK) (hD)⟩, hS.F ht⟩) hS.2.2 dX6_deedOfFirst_89
      clear hf
      refine zw_loop (pcH := 33) (X := fun v H locs ls => lv_has ls 7 [(0, .ref a_o), (2, .int p2), (3, .int v.1), (4, .int v.2.1), (5, .int v.2.2.1)] ∧ va_P (dC, dI) zz_cls [zo_X6 a_o a_m a_g a_o_wanted a_k1 a_k2 a_lv f_o_length, zo_X3 a_m a_c a_w a_m_deeds a_m_ends v.2.2.2.1, zo_X0 a_c f_c_top f_c_things a_c_bars a_c_gives a_c_rough f_c_startRung f_c_startThings f_c_startStrength f_c_startWind f_c_slips f_c_lines a_c_code f_c_coded f_c_tiresFrom f_c_tiresTo f_c_mayFrom f_c_mayTo, (a_c_bars, .inl (dA 0, 9, .inl b_c_bars)), (a_c_gives, .inl (dA 0, 9, .inl b_c_gives)), (a_c_rough, .inl (dA 0, 9, .inl b_c_rough)), (a_c_code, .inl (dA 0, 900, .inl b_c_code)), zo_X2 a_w a_c a_w_told a_w_facts a_w_stack f_w_wind, (a_w_told, .inl (dA 0, 315, .inl v.2.2.2.2.1)), (a_w_facts, .inl (dA 0, 6, .inl v.2.2.2.2.2.1)), (a_w_stack, .inl (dA 0, 64, .inl v.2.2.2.2.2.2.1)), (a_m_deeds, .inl (dA 0, 9, .inl v.2.2.2.2.2.2.2.1)), (a_m_ends, .inl (dA 0, 9, .inl v.2.2.2.2.2.2.2.2)), zo_X1 a_g a_m a_g_order a_g_depth a_g_from f_g_size f_g_known, (a_g_order, .inl (dA 0, 2880, .inl b_g_order)), (a_g_depth, .inl (dA 0, 2880, .inl b_g_depth)), (a_lv, .inl (dA 0, 2880, .inl a7))] H ∧ va_D A [zo_X6 a_o a_m a_g a_o_wanted a_k1 a_k2 a_lv f_o_length, zo_X3 a_m a_c a_w a_m_deeds a_m_ends v.2.2.2.1, zo_X0 a_c f_c_top f_c_things a_c_bars a_c_gives a_c_rough f_c_startRung f_c_startThings f_c_startStrength f_c_startWind f_c_slips f_c_lines a_c_code f_c_coded f_c_tiresFrom f_c_tiresTo f_c_mayFrom f_c_mayTo, (a_c_bars, .inl (dA 0, 9, .inl b_c_bars)), (a_c_gives, .inl (dA 0, 9, .inl b_c_gives)), (a_c_rough, .inl (dA 0, 9, .inl b_c_rough)), (a_c_code, .inl (dA 0, 900, .inl b_c_code)), zo_X2 a_w a_c a_w_told a_w_facts a_w_stack f_w_wind, (a_w_told, .inl (dA 0, 315, .inl v.2.2.2.2.1)), (a_w_facts, .inl (dA 0, 6, .inl v.2.2.2.2.2.1)), (a_w_stack, .inl (dA 0, 64, .inl v.2.2.2.2.2.2.1)), (a_m_deeds, .inl (dA 0, 9, .inl v.2.2.2.2.2.2.2.1)), (a_m_ends, .inl (dA 0, 9, .inl v.2.2.2.2.2.2.2.2)), zo_X1 a_g a_m a_g_order a_g_depth a_g_from f_g_size f_g_known, (a_g_order, .inl (dA 0, 2880, .inl b_g_order)), (a_g_depth, .inl (dA 0, 2880, .inl b_g_depth)), (a_lv, .inl (dA 0, 2880, .inl a7))] ∧ va_S A s.heap H locs) hj (fun v w hf ih ex H locs ls hX => ?_) _ _ _ ⟨lv_sub hl [3, 5, 2, 1, 0] rfl, hP, hD, hS⟩
      clear hj
      obtain ⟨v9, v10, v11, v12, a13, a14, a15, a16, a17⟩ := v
      obtain ⟨hl, hP, hD, hS⟩ := hX
      have hl : lv_has ls 7 [(0, .ref a_o), (2, .int p2), (3, .int v9), (4, .int v10), (5, .int v11)] := hl
      have hP : va_P (dC, dI) zz_cls [zo_X6 a_o a_m a_g a_o_wanted a_k1 a_k2 a_lv f_o_length, zo_X3 a_m a_c a_w a_m_deeds a_m_ends v12, zo_X0 a_c f_c_top f_c_things a_c_bars a_c_gives a_c_rough f_c_startRung f_c_startThings f_c_startStrength f_c_startWind f_c_slips f_c_lines a_c_code f_c_coded f_c_tiresFrom f_c_tiresTo f_c_mayFrom f_c_mayTo, (a_c_bars, .inl (dA 0, 9, .inl b_c_bars)), (a_c_gives, .inl (dA 0, 9, .inl b_c_gives)), (a_c_rough, .inl (dA 0, 9, .inl b_c_rough)), (a_c_code, .inl (dA 0, 900, .inl b_c_code)), zo_X2 a_w a_c a_w_told a_w_facts a_w_stack f_w_wind, (a_w_told, .inl (dA 0, 315, .inl a13)), (a_w_facts, .inl (dA 0, 6, .inl a14)), (a_w_stack, .inl (dA 0, 64, .inl a15)), (a_m_deeds, .inl (dA 0, 9, .inl a16)), (a_m_ends, .inl (dA 0, 9, .inl a17)), zo_X1 a_g a_m a_g_order a_g_depth a_g_from f_g_size f_g_known, (a_g_order, .inl (dA 0, 2880, .inl b_g_order)), (a_g_depth, .inl (dA 0, 2880, .inl b_g_depth)), (a_lv, .inl (dA 0, 2880, .inl a7))] H := hP
      have hD : va_D A [zo_X6 a_o a_m a_g a_o_wanted a_k1 a_k2 a_lv f_o_length, zo_X3 a_m a_c a_w a_m_deeds a_m_ends v12, zo_X0 a_c f_c_top f_c_things a_c_bars a_c_gives a_c_rough f_c_startRung f_c_startThings f_c_startStrength f_c_startWind f_c_slips f_c_lines a_c_code f_c_coded f_c_tiresFrom f_c_tiresTo f_c_mayFrom f_c_mayTo, (a_c_bars, .inl (dA 0, 9, .inl b_c_bars)), (a_c_gives, .inl (dA 0, 9, .inl b_c_gives)), (a_c_rough, .inl (dA 0, 9, .inl b_c_rough)), (a_c_code, .inl (dA 0, 900, .inl b_c_code)), zo_X2 a_w a_c a_w_told a_w_facts a_w_stack f_w_wind, (a_w_told, .inl (dA 0, 315, .inl a13)), (a_w_facts, .inl (dA 0, 6, .inl a14)), (a_w_stack, .inl (dA 0, 64, .inl a15)), (a_m_deeds, .inl (dA 0, 9, .inl a16)), (a_m_ends, .inl (dA 0, 9, .inl a17)), zo_X1 a_g a_m a_g_order a_g_depth a_g_from f_g_size f_g_known, (a_g_order, .inl (dA 0, 2880, .inl b_g_order)), (a_g_depth, .inl (dA 0, 2880, .inl b_g_depth)), (a_lv, .inl (dA 0, 2880, .inl a7))] := hD
      replace hf : zb_X6_deedOfFirst_33 p2 n f_c_top f_c_things f_c_tiresFrom f_c_tiresTo f_c_mayFrom f_c_mayTo b_c_bars b_c_gives b_c_rough b_c_code f_w_wind a7 v9 v10 v11 v12 a13 a14 a15 a16 a17 = some w := hf
      unfold zb_X6_deedOfFirst_33 at hf
      refine lv_iload (pc := 33) hx hb dX6_deedOfFirst_33 (lv_at hl 4 rfl) ?_
      refine lv_iload_n (pc := 35) hx hb dX6_deedOfFirst_35 rfl (lv_at hl 1 rfl) ?_
      refine lv_iconst (v := (1 : Int32)) (pc := 36) hx hb dX6_deedOfFirst_36 (by decide) ?_
      refine lv_iadd (pc := 37) hx hb dX6_deedOfFirst_37 ?_
      refine lv_icmp_gt (tgt := 87) (pc := 38) hx hb dX6_deedOfFirst_38 rfl (fun hc => ?_) (fun hc => ?_)
      · have hf := za_t hf hc
        obtain rfl := Option.some.inj hf
        obtain ⟨rfl, rfl, rfl, rfl, rfl, rfl, rfl, rfl, rfl, rfl⟩ := zp_10 (ex (show ¬ (2 : Nat) = 0 by decide))
        exact E87 _ _ _ ⟨rfl, lv_sub hl [3] rfl, hP, hD, hS⟩
      · have hf := za_f hf hc
        refine lv_aload_n (pc := 41) hx hb dX6_deedOfFirst_41 rfl (lv_at hl 0 rfl) ?_
        refine lv_iload_n (pc := 42) hx hb dX6_deedOfFirst_42 rfl (lv_at hl 2 rfl) ?_
        refine lv_iload (pc := 43) hx hb dX6_deedOfFirst_43 (lv_at hl 4 rfl) ?_
        obtain ⟨v18, v19, a20, a21, a22, a23, a24, hv18, hf⟩ := zc_7 hf
        refine zx_Vi (pc := 45) (wc := [zo_X6 a_o a_m a_g a_o_wanted a_k1 a_k2 a_lv f_o_length, zo_X3 a_m a_c a_w a_m_deeds a_m_ends v12, zo_X0 a_c f_c_top f_c_things a_c_bars a_c_gives a_c_rough f_c_startRung f_c_startThings f_c_startStrength f_c_startWind f_c_slips f_c_lines a_c_code f_c_coded f_c_tiresFrom f_c_tiresTo f_c_mayFrom f_c_mayTo, (a_c_bars, .inl (dA 0, 9, .inl b_c_bars)), (a_c_gives, .inl (dA 0, 9, .inl b_c_gives)), (a_c_rough, .inl (dA 0, 9, .inl b_c_rough)), (a_c_code, .inl (dA 0, 900, .inl b_c_code)), zo_X2 a_w a_c a_w_told a_w_facts a_w_stack f_w_wind, (a_w_told, .inl (dA 0, 315, .inl a13)), (a_w_facts, .inl (dA 0, 6, .inl a14)), (a_w_stack, .inl (dA 0, 64, .inl a15)), (a_m_deeds, .inl (dA 0, 9, .inl a16)), (a_m_ends, .inl (dA 0, 9, .inl a17)), (a_lv, .inl (dA 0, 2880, .inl a7))]) (wr := [zo_X1 a_g a_m a_g_order a_g_depth a_g_from f_g_size f_g_known, (a_g_order, .inl (dA 0, 2880, .inl b_g_order)), (a_g_depth, .inl (dA 0, 2880, .inl b_g_depth))]) (w1 := [zo_X6 a_o a_m a_g a_o_wanted a_k1 a_k2 a_lv f_o_length, zo_X3 a_m a_c a_w a_m_deeds a_m_ends v19, zo_X0 a_c f_c_top f_c_things a_c_bars a_c_gives a_c_rough f_c_startRung f_c_startThings f_c_startStrength f_c_startWind f_c_slips f_c_lines a_c_code f_c_coded f_c_tiresFrom f_c_tiresTo f_c_mayFrom f_c_mayTo, (a_c_bars, .inl (dA 0, 9, .inl b_c_bars)), (a_c_gives, .inl (dA 0, 9, .inl b_c_gives)), (a_c_rough, .inl (dA 0, 9, .inl b_c_rough)), (a_c_code, .inl (dA 0, 900, .inl b_c_code)), zo_X2 a_w a_c a_w_told a_w_facts a_w_stack f_w_wind, (a_w_told, .inl (dA 0, 315, .inl a20)), (a_w_facts, .inl (dA 0, 6, .inl a21)), (a_w_stack, .inl (dA 0, 64, .inl a22)), (a_m_deeds, .inl (dA 0, 9, .inl a23)), (a_m_ends, .inl (dA 0, 9, .inl a24)), (a_lv, .inl (dA 0, 2880, .inl a7))]) (As := [.int v9, .int v11]) (rest := []) ⟨hx, hb, hml, hown, ht⟩ (zt_X6_firstOnward l dC dI dA adK adV _ a_o a_m a_g a_o_wanted a_k1 a_k2 a_lv a_c a_w a_m_deeds a_m_ends a_c_bars a_c_gives a_c_rough a_c_code a_w_told a_w_facts a_w_stack n f_o_length v12 f_c_top f_c_things f_c_startRung f_c_startThings f_c_startStrength f_c_startWind f_c_slips f_c_lines f_c_coded f_c_tiresFrom f_c_tiresTo f_c_mayFrom f_c_mayTo f_w_wind b_c_bars b_c_gives b_c_rough b_c_code a13 a14 a15 a16 a17 a7 v9 v11 v18 v19 a20 a21 a22 a23 a24 hv18) (cwV 2 ht (zq_V zq_489 zq_490 zq_491 zq_475 zq_488) rfl rfl rfl zk_X6_firstOnward ⟨Nat.le_of_ble_eq_true rfl, Nat.le_of_ble_eq_true rfl⟩) rfl rfl hZ hK hP hD hS hA [0, 1, 2, 3, 4, 5, 6, 7, 8, 9, 10, 11, 12, 16] [13, 14, 15] (by decide) (by decide) (by decide) rfl rfl rfl hl.1 (Nat.le_of_ble_eq_true rfl) dX6_deedOfFirst_45 ⟨Nat.zero_le _, Nat.zero_le _⟩ rfl (fun H locs hP hD hS => ?_)
        have hP : va_P (dC, dI) zz_cls [zo_X1 a_g a_m a_g_order a_g_depth a_g_from f_g_size f_g_known, (a_g_order, .inl (dA 0, 2880, .inl b_g_order)), (a_g_depth, .inl (dA 0, 2880, .inl b_g_depth)), zo_X6 a_o a_m a_g a_o_wanted a_k1 a_k2 a_lv f_o_length, zo_X3 a_m a_c a_w a_m_deeds a_m_ends v19, zo_X0 a_c f_c_top f_c_things a_c_bars a_c_gives a_c_rough f_c_startRung f_c_startThings f_c_startStrength f_c_startWind f_c_slips f_c_lines a_c_code f_c_coded f_c_tiresFrom f_c_tiresTo f_c_mayFrom f_c_mayTo, (a_c_bars, .inl (dA 0, 9, .inl b_c_bars)), (a_c_gives, .inl (dA 0, 9, .inl b_c_gives)), (a_c_rough, .inl (dA 0, 9, .inl b_c_rough)), (a_c_code, .inl (dA 0, 900, .inl b_c_code)), zo_X2 a_w a_c a_w_told a_w_facts a_w_stack f_w_wind, (a_w_told, .inl (dA 0, 315, .inl a20)), (a_w_facts, .inl (dA 0, 6, .inl a21)), (a_w_stack, .inl (dA 0, 64, .inl a22)), (a_m_deeds, .inl (dA 0, 9, .inl a23)), (a_m_ends, .inl (dA 0, 9, .inl a24)), (a_lv, .inl (dA 0, 2880, .inl a7))] H := hP
        have hD : va_D A [zo_X1 a_g a_m a_g_order a_g_depth a_g_from f_g_size f_g_known, (a_g_order, .inl (dA 0, 2880, .inl b_g_order)), (a_g_depth, .inl (dA 0, 2880, .inl b_g_depth)), zo_X6 a_o a_m a_g a_o_wanted a_k1 a_k2 a_lv f_o_length, zo_X3 a_m a_c a_w a_m_deeds a_m_ends v19, zo_X0 a_c f_c_top f_c_things a_c_bars a_c_gives a_c_rough f_c_startRung f_c_startThings f_c_startStrength f_c_startWind f_c_slips f_c_lines a_c_code f_c_coded f_c_tiresFrom f_c_tiresTo f_c_mayFrom f_c_mayTo, (a_c_bars, .inl (dA 0, 9, .inl b_c_bars)), (a_c_gives, .inl (dA 0, 9, .inl b_c_gives)), (a_c_rough, .inl (dA 0, 9, .inl b_c_rough)), (a_c_code, .inl (dA 0, 900, .inl b_c_code)), zo_X2 a_w a_c a_w_told a_w_facts a_w_stack f_w_wind, (a_w_told, .inl (dA 0, 315, .inl a20)), (a_w_facts, .inl (dA 0, 6, .inl a21)), (a_w_stack, .inl (dA 0, 64, .inl a22)), (a_m_deeds, .inl (dA 0, 9, .inl a23)), (a_m_ends, .inl (dA 0, 9, .inl a24)), (a_lv, .inl (dA 0, 2880, .inl a7))] := hD
        refine lv_istore (lv' := [(6, .int v18), (0, .ref a_o), (2, .int p2), (3, .int v9), (4, .int v10), (5, .int v11)]) (pc := 48) hx hb dX6_deedOfFirst_48 hl (by decide) rfl (fun ls hl => ?_)
        refine lv_iload (pc := 50) hx hb dX6_deedOfFirst_50 (lv_at hl 0 rfl) ?_
        refine lv_iconst (v := (-1 : Int32)) (pc := 52) hx hb dX6_deedOfFirst_52 (by decide) ?_
        refine lv_icmp_ne (tgt := 58) (pc := 53) hx hb dX6_deedOfFirst_53 rfl (fun hc => ?_) (fun hc => ?_)
        · have hf := za_f hf hc
          refine lv_aload_n (pc := 58) hx hb dX6_deedOfFirst_58 rfl (lv_at hl 1 rfl) ?_
          refine va_get (pc := 59) (D := (dC, dI)) (ci := 7) (v := .ref a_m) (C := RX6) (T := TX6) (N := 7) hx hb ht zq_layX6 hown hK hP 3 rfl rfl 0 (by decide) (ht _ zq_455) (fun _ h9 => h9) rfl dX6_deedOfFirst_59 ?_
          refine va_get (pc := 62) (D := (dC, dI)) (ci := 4) (v := .ref a_m_ends) (C := RX3) (T := TX3) (N := 5) hx hb ht zq_layX3 hown hK hP 4 rfl rfl 3 (by decide) (ht _ zq_471) (fun _ h9 => h9) rfl dX6_deedOfFirst_62 ?_
          refine lv_iload (pc := 65) hx hb dX6_deedOfFirst_65 (lv_at hl 0 rfl) ?_
          obtain ⟨v25, hv25, hf⟩ := zc_1 hf
          refine zw_iald (pc := 67) hx hb hK hP 15 0 rfl rfl hv25 dX6_deedOfFirst_67 ?_
          refine lv_istore_n (lv' := [(3, .int v25), (6, .int v18), (0, .ref a_o), (2, .int p2), (4, .int v10), (5, .int v11)]) (pc := 68) hx hb dX6_deedOfFirst_68 rfl hl (by decide) rfl (fun ls hl => ?_)
          refine lv_aload_n (pc := 69) hx hb dX6_deedOfFirst_69 rfl (lv_at hl 2 rfl) ?_
          refine va_get (pc := 70) (D := (dC, dI)) (ci := 7) (v := .ref a_m) (C := RX6) (T := TX6) (N := 7) hx hb ht zq_layX6 hown hK hP 3 rfl rfl 0 (by decide) (ht _ zq_455) (fun _ h9 => h9) rfl dX6_deedOfFirst_70 ?_
          refine va_get (pc := 73) (D := (dC, dI)) (ci := 4) (v := .ref a_m_deeds) (C := RX3) (T := TX3) (N := 5) hx hb ht zq_layX3 hown hK hP 4 rfl rfl 2 (by decide) (ht _ zq_493) (fun _ h9 => h9) rfl dX6_deedOfFirst_73 ?_
          refine lv_iload (pc := 76) hx hb dX6_deedOfFirst_76 (lv_at hl 1 rfl) ?_
          obtain ⟨v26, hv26, hf⟩ := zc_1 hf
          refine zw_iald (pc := 78) hx hb hK hP 14 0 rfl rfl hv26 dX6_deedOfFirst_78 ?_
          refine lv_istore (lv' := [(4, .int v26), (3, .int v25), (6, .int v18), (0, .ref a_o), (2, .int p2), (5, .int v11)]) (pc := 79) hx hb dX6_deedOfFirst_79 hl (by decide) rfl (fun ls hl => ?_)
          obtain ⟨v27, hv27, hf⟩ := zc_1 hf
          refine lv_iinc (v := v27) (lv' := [(5, .int v27), (4, .int v26), (3, .int v25), (6, .int v18), (0, .ref a_o), (2, .int p2)]) (k := 5) (pc := 81) hx hb dX6_deedOfFirst_81 hl rfl (Option.some.inj hv27) (by decide) rfl (fun ls hl => ?_)
          refine lv_goto (tgt := 33) (pc := 84) hx hb dX6_deedOfFirst_84 rfl ?_
          obtain rfl := Option.some.inj hf
          exact ih rfl _ _ _ ⟨lv_sub hl [4, 5, 2, 1, 0] rfl, hP.sub [3, 4, 5, 6, 7, 8, 9, 10, 11, 12, 13, 14, 15, 0, 1, 2, 16] rfl, hD.sub [3, 4, 5, 6, 7, 8, 9, 10, 11, 12, 13, 14, 15, 0, 1, 2, 16] (by decide) rfl, hS⟩
        · have hf := za_t hf hc
          obtain rfl := Option.some.inj hf
          obtain ⟨rfl, rfl, rfl, rfl, rfl, rfl, rfl, rfl, rfl, rfl⟩ := zp_10 (ex (show ¬ (1 : Nat) = 0 by decide))
          exact E56 _ _ _ ⟨rfl, lv_sub hl [] rfl, hP.sub [3, 4, 5, 6, 7, 8, 9, 10, 11, 12, 13, 14, 15, 0, 1, 2, 16] rfl, hD.sub [3, 4, 5, 6, 7, 8, 9, 10, 11, 12, 13, 14, 15, 0, 1, 2, 16] (by decide) rfl, hS⟩
    · have hf := za_t hf hc
      refine lv_iconst (v := (-1 : Int32)) (pc := 23) hx hb dX6_deedOfFirst_23 (by decide) ?_
      obtain ⟨rfl, rfl, rfl, rfl, rfl, rfl, rfl, rfl⟩ := zi_8 hf
      exact W.iret (pc := 24) hx hb hr (fun t ht hW => ⟨⟨_, (), rfl, rfl, zz_Bi (by rw [ht]; exact hP) (va_K.moved hW.alike hK) (hD)⟩, hS.F ht⟩) hS.2.2 dX6_deedOfFirst_24

def zf_X7_behind (b_can : (Nat → Int32)) (p1 : Int32) (p2 : Int32) : Option (Int32) :=
  zd_1 (za_ld b_can 2880 (((p1 + (1 : Int32)) * (256 : Int32)) + p2)) (fun v1 =>
  some v1)
theorem zk_X7_behind : yX7_behind.cls = RX7 ∧ yX7_behind.cls ≠ "java/lang/invoke/MethodHandle" ∧ yX7_behind.cls ≠ "java/lang/invoke/VarHandle" ∧ (parseMethodDescriptor yX7_behind.desc).map (fun d => d.parameters.length) = some 2 := by decide +kernel
set_option maxHeartbeats 4000000 in
set_option maxRecDepth 100000 in
theorem zt_X7_behind (l : Launch) (dC : Nat → ClassId) (dI : Nat → Nat → Nat) (dA : Nat → ClassId) (adK adV : Nat → Nat) (sz : Nat) (a_o : Nat) (a_c : Nat) (a_can : Nat) (f_o_rungs : Int32) (b_can : (Nat → Int32)) (p1 : Int32) (p2 : Int32) (r0 : Int32) (hf : zf_X7_behind b_can p1 p2 = some r0) : Met l yX7_behind (.code yX7_behind cX7_behind 3 (some .int) :: zq_T) ({ frames := 0, cells := 0, slots := 0, locals := 0 }) (va_Pc [.ref a_o, .int p1, .int p2] (zx_M dC dI dA adK adV [zo_X7 a_o a_c a_can f_o_rungs, (a_can, .inl (dA 0, 2880, .inl b_can))] sz)) (va_Qi (fun (r : Int32) (_ : Unit) => r = r0) (fun _ t => zz_B dC dI dA (va_A [zo_X7 a_o a_c a_can f_o_rungs, (a_can, .inl (dA 0, 2880, .inl b_can))] sz) [zo_X7 a_o a_c a_can f_o_rungs, (a_can, .inl (dA 0, 2880, .inl b_can))] t) (va_A [zo_X7 a_o a_c a_can f_o_rungs, (a_can, .inl (dA 0, 2880, .inl b_can))] sz)) 0 0 (va_A [zo_X7 a_o a_c a_can f_o_rungs, (a_can, .inl (dA 0, 2880, .inl b_can))] sz) := by
  unfold zf_X7_behind at hf
  refine Met.ofW (cc := cX7_behind) (maxL := 3) (ret := (some .int)) (by decide) rfl ?_
  intro p e s m args below meth c s₁ B hml hv
  obtain ⟨rfl, ⟨hsz, hP, hK, hD0⟩, hZ⟩ := hv
  have hx := B.exec
  have hb := B.bytes
  have hr := B.returns
  have ht : ∀ w ∈ zq_T, w.before ([.ref a_o, .int p1, .int p2] : List Value).toArray s = true := fun w hw => atoms_spec (ws := .code yX7_behind cX7_behind 3 (some .int) :: zq_T) B.pre w (List.mem_cons_of_mem _ hw)
  have hown : s.vm.findClass RX7 = some m.cls := findClass_of_methodNamed B.named
  have hlocks := B.notSynchronized
  subst hsz
  have hD := hD0.self (sz := s.heap.size)
  generalize hAe : va_A [zo_X7 a_o a_c a_can f_o_rungs, (a_can, .inl (dA 0, 2880, .inl b_can))] s.heap.size = A at hD hZ ⊢
  have hA : ∀ q : Nat, s.heap.size ≤ q → A q := fun q h => by rw [← hAe]; exact Or.inr h
  clear hAe hD0
  have hS : va_S A s.heap s.heap [] := va_S.rf
  have hl := lv_entry ([.ref a_o, .int p1, .int p2]) (n := 3) (Nat.le_of_ble_eq_true rfl)
  rw [lg_entry_eq]
  generalize (lg_sl ([.ref a_o, .int p1, .int p2]) ++ List.replicate (3 - (lg_sl ([.ref a_o, .int p1, .int p2])).length) Slot.unset).toArray = ls at hl ⊢
  have hl : lv_has ls 3 [(0, .ref a_o), (1, .int p1), (2, .int p2)] := hl
  refine lv_aload_n (pc := 0) hx hb dX7_behind_0 rfl (lv_at hl 0 rfl) ?_
  refine va_get (pc := 1) (D := (dC, dI)) (ci := 8) (v := .ref a_can) (C := RX7) (T := TX7) (N := 3) hx hb ht zq_layX7 hown hK hP 0 rfl rfl 1 (by decide) (ht _ zq_502) (fun _ h9 => h9) rfl dX7_behind_1 ?_
  refine lv_iload_n (pc := 4) hx hb dX7_behind_4 rfl (lv_at hl 1 rfl) ?_
  refine lv_iconst (v := (1 : Int32)) (pc := 5) hx hb dX7_behind_5 (by decide) ?_
  refine lv_iadd (pc := 6) hx hb dX7_behind_6 ?_
  refine lv_sipush (v := (256 : Int32)) (pc := 7) hx hb dX7_behind_7 (by decide) ?_
  refine lv_imul (pc := 10) hx hb dX7_behind_10 ?_
  refine lv_iload_n (pc := 11) hx hb dX7_behind_11 rfl (lv_at hl 2 rfl) ?_
  refine lv_iadd (pc := 12) hx hb dX7_behind_12 ?_
  obtain ⟨v1, hv1, hf⟩ := zc_1 hf
  refine zw_iald (pc := 13) hx hb hK hP 1 0 rfl rfl hv1 dX7_behind_13 ?_
  obtain rfl := Option.some.inj hf
  exact W.iret (pc := 14) hx hb hr (fun t ht hW => ⟨⟨_, (), rfl, rfl, zz_Bi (by rw [ht]; exact hP) (va_K.moved hW.alike hK) (hD)⟩, hS.F ht⟩) hS.2.2 dX7_behind_14

def zf_X7_isFree (b_c_bars : (Nat → Int32)) (b_c_gives : (Nat → Int32)) (p1 : Int32) (p2 : Int32) (p3 : Int32) : Option (Int32) :=
  if ((p3 >>> (p1 &&& 31)) &&& (1 : Int32)) = 0 then
    zd_1 (zf_X0_holds b_c_bars b_c_gives p1 p2) (fun v1 =>
    if v1 = 0 then
      some (0 : Int32)
    else
      some (1 : Int32))
  else
    some (0 : Int32)
theorem zk_X7_isFree : yX7_isFree.cls = RX7 ∧ yX7_isFree.cls ≠ "java/lang/invoke/MethodHandle" ∧ yX7_isFree.cls ≠ "java/lang/invoke/VarHandle" ∧ (parseMethodDescriptor yX7_isFree.desc).map (fun d => d.parameters.length) = some 3 := by decide +kernel
set_option maxHeartbeats 4000000 in
set_option maxRecDepth 100000 in
theorem zt_X7_isFree (l : Launch) (dC : Nat → ClassId) (dI : Nat → Nat → Nat) (dA : Nat → ClassId) (adK adV : Nat → Nat) (sz : Nat) (a_o : Nat) (a_c : Nat) (a_can : Nat) (a_c_bars : Nat) (a_c_gives : Nat) (a_c_rough : Nat) (a_c_code : Nat) (f_o_rungs : Int32) (f_c_top : Int32) (f_c_things : Int32) (f_c_startRung : Int32) (f_c_startThings : Int32) (f_c_startStrength : Int32) (f_c_startWind : Int32) (f_c_slips : Int32) (f_c_lines : Int32) (f_c_coded : Int32) (f_c_tiresFrom : Int32) (f_c_tiresTo : Int32) (f_c_mayFrom : Int32) (f_c_mayTo : Int32) (b_c_bars : (Nat → Int32)) (b_c_gives : (Nat → Int32)) (p1 : Int32) (p2 : Int32) (p3 : Int32) (r0 : Int32) (hf : zf_X7_isFree b_c_bars b_c_gives p1 p2 p3 = some r0) : Met l yX7_isFree (.code yX7_isFree cX7_isFree 4 (some .boolean) :: zq_T) ({ frames := 1, cells := 0, slots := 0, locals := 22 }) (va_Pc [.ref a_o, .int p1, .int p2, .int p3] (zx_M dC dI dA adK adV [zo_X7 a_o a_c a_can f_o_rungs, zo_X0 a_c f_c_top f_c_things a_c_bars a_c_gives a_c_rough f_c_startRung f_c_startThings f_c_startStrength f_c_startWind f_c_slips f_c_lines a_c_code f_c_coded f_c_tiresFrom f_c_tiresTo f_c_mayFrom f_c_mayTo, (a_c_bars, .inl (dA 0, 9, .inl b_c_bars)), (a_c_gives, .inl (dA 0, 9, .inl b_c_gives))] sz)) (va_Qi (fun (r : Int32) (_ : Unit) => r = r0) (fun _ t => zz_B dC dI dA (va_A [zo_X7 a_o a_c a_can f_o_rungs, zo_X0 a_c f_c_top f_c_things a_c_bars a_c_gives a_c_rough f_c_startRung f_c_startThings f_c_startStrength f_c_startWind f_c_slips f_c_lines a_c_code f_c_coded f_c_tiresFrom f_c_tiresTo f_c_mayFrom f_c_mayTo, (a_c_bars, .inl (dA 0, 9, .inl b_c_bars)), (a_c_gives, .inl (dA 0, 9, .inl b_c_gives))] sz) [zo_X7 a_o a_c a_can f_o_rungs, zo_X0 a_c f_c_top f_c_things a_c_bars a_c_gives a_c_rough f_c_startRung f_c_startThings f_c_startStrength f_c_startWind f_c_slips f_c_lines a_c_code f_c_coded f_c_tiresFrom f_c_tiresTo f_c_mayFrom f_c_mayTo, (a_c_bars, .inl (dA 0, 9, .inl b_c_bars)), (a_c_gives, .inl (dA 0, 9, .inl b_c_gives))] t) (va_A [zo_X7 a_o a_c a_can f_o_rungs, zo_X0 a_c f_c_top f_c_things a_c_bars a_c_gives a_c_rough f_c_startRung f_c_startThings f_c_startStrength f_c_startWind f_c_slips f_c_lines a_c_code f_c_coded f_c_tiresFrom f_c_tiresTo f_c_mayFrom f_c_mayTo, (a_c_bars, .inl (dA 0, 9, .inl b_c_bars)), (a_c_gives, .inl (dA 0, 9, .inl b_c_gives))] sz)) 0 0 (va_A [zo_X7 a_o a_c a_can f_o_rungs, zo_X0 a_c f_c_top f_c_things a_c_bars a_c_gives a_c_rough f_c_startRung f_c_startThings f_c_startStrength f_c_startWind f_c_slips f_c_lines a_c_code f_c_coded f_c_tiresFrom f_c_tiresTo f_c_mayFrom f_c_mayTo, (a_c_bars, .inl (dA 0, 9, .inl b_c_bars)), (a_c_gives, .inl (dA 0, 9, .inl b_c_gives))] sz) := by
  unfold zf_X7_isFree at hf
  refine Met.ofW (cc := cX7_isFree) (maxL := 4) (ret := (some .boolean)) (by decide) rfl ?_
  intro p e s m args below meth c s₁ B hml hv
  obtain ⟨rfl, ⟨hsz, hP, hK, hD0⟩, hZ⟩ := hv
  have hx := B.exec
  have hb := B.bytes
  have hr := B.returns
  have ht : ∀ w ∈ zq_T, w.before ([.ref a_o, .int p1, .int p2, .int p3] : List Value).toArray s = true := fun w hw => atoms_spec (ws := .code yX7_isFree cX7_isFree 4 (some .boolean) :: zq_T) B.pre w (List.mem_cons_of_mem _ hw)
  have hown : s.vm.findClass RX7 = some m.cls := findClass_of_methodNamed B.named
  have hlocks := B.notSynchronized
  subst hsz
  have hD := hD0.self (sz := s.heap.size)
  generalize hAe : va_A [zo_X7 a_o a_c a_can f_o_rungs, zo_X0 a_c f_c_top f_c_things a_c_bars a_c_gives a_c_rough f_c_startRung f_c_startThings f_c_startStrength f_c_startWind f_c_slips f_c_lines a_c_code f_c_coded f_c_tiresFrom f_c_tiresTo f_c_mayFrom f_c_mayTo, (a_c_bars, .inl (dA 0, 9, .inl b_c_bars)), (a_c_gives, .inl (dA 0, 9, .inl b_c_gives))] s.heap.size = A at hD hZ ⊢
  have hA : ∀ q : Nat, s.heap.size ≤ q → A q := fun q h => by rw [← hAe]; exact Or.inr h
  clear hAe hD0
  have hS : va_S A s.heap s.heap [] := va_S.rf
  have hl := lv_entry ([.ref a_o, .int p1, .int p2, .int p3]) (n := 4) (Nat.le_of_ble_eq_true rfl)
  rw [lg_entry_eq]
  generalize (lg_sl ([.ref a_o, .int p1, .int p2, .int p3]) ++ List.replicate (4 - (lg_sl ([.ref a_o, .int p1, .int p2, .int p3])).length) Slot.unset).toArray = ls at hl ⊢
  have hl : lv_has ls 4 [(0, .ref a_o), (1, .int p1), (2, .int p2), (3, .int p3)] := hl
  refine lv_iload_n (pc := 0) hx hb dX7_isFree_0 rfl (lv_at hl 3 rfl) ?_
  refine lv_iload_n (pc := 1) hx hb dX7_isFree_1 rfl (lv_at hl 1 rfl) ?_
  refine lv_ishr (pc := 2) hx hb dX7_isFree_2 ?_
  refine lv_iconst (v := (1 : Int32)) (pc := 3) hx hb dX7_isFree_3 (by decide) ?_
  refine lv_iand (pc := 4) hx hb dX7_isFree_4 ?_
  refine lv_if_ne (tgt := 24) (pc := 5) hx hb dX7_isFree_5 rfl (fun hc => ?_) (fun hc => ?_)
  · have hf := za_f hf hc
    refine lv_iconst (v := (0 : Int32)) (pc := 24) hx hb dX7_isFree_24 (by decide) ?_
    obtain rfl := Option.some.inj hf
    exact W.zret (pc := 25) hx hb hr rfl (fun t ht hW => ⟨⟨_, (), rfl, rfl, zz_Bi (by rw [ht]; exact hP) (va_K.moved hW.alike hK) (hD)⟩, hS.F ht⟩) hS.2.2 dX7_isFree_25
  · have hf := za_t hf hc
    refine lv_aload_n (pc := 8) hx hb dX7_isFree_8 rfl (lv_at hl 0 rfl) ?_
    refine va_get (pc := 9) (D := (dC, dI)) (ci := 8) (v := .ref a_c) (C := RX7) (T := TX7) (N := 3) hx hb ht zq_layX7 hown hK hP 0 rfl rfl 0 (by decide) (ht _ zq_501) (fun _ h9 => h9) rfl dX7_isFree_9 ?_
    refine lv_iload_n (pc := 12) hx hb dX7_isFree_12 rfl (lv_at hl 1 rfl) ?_
    refine lv_iload_n (pc := 13) hx hb dX7_isFree_13 rfl (lv_at hl 2 rfl) ?_
    obtain ⟨v1, hv1, hf⟩ := zc_1 hf
    refine zx_Vi (pc := 14) (wc := [zo_X0 a_c f_c_top f_c_things a_c_bars a_c_gives a_c_rough f_c_startRung f_c_startThings f_c_startStrength f_c_startWind f_c_slips f_c_lines a_c_code f_c_coded f_c_tiresFrom f_c_tiresTo f_c_mayFrom f_c_mayTo, (a_c_bars, .inl (dA 0, 9, .inl b_c_bars)), (a_c_gives, .inl (dA 0, 9, .inl b_c_gives))]) (wr := [zo_X7 a_o a_c a_can f_o_rungs]) (w1 := [zo_X0 a_c f_c_top f_c_things a_c_bars a_c_gives a_c_rough f_c_startRung f_c_startThings f_c_startStrength f_c_startWind f_c_slips f_c_lines a_c_code f_c_coded f_c_tiresFrom f_c_tiresTo f_c_mayFrom f_c_mayTo, (a_c_bars, .inl (dA 0, 9, .inl b_c_bars)), (a_c_gives, .inl (dA 0, 9, .inl b_c_gives))]) (As := [.int p1, .int p2]) (rest := []) ⟨hx, hb, hml, hown, ht⟩ (zt_X0_holds l dC dI dA adK adV _ a_c a_c_bars a_c_gives a_c_rough a_c_code f_c_top f_c_things f_c_startRung f_c_startThings f_c_startStrength f_c_startWind f_c_slips f_c_lines f_c_coded f_c_tiresFrom f_c_tiresTo f_c_mayFrom f_c_mayTo b_c_bars b_c_gives p1 p2 v1 hv1) (cwV 2 ht (zq_V zq_505 zq_506 zq_507 zq_77 zq_35) rfl rfl rfl zk_X0_holds ⟨Nat.le_of_ble_eq_true rfl, Nat.le_of_ble_eq_true rfl⟩) rfl rfl hZ hK hP hD hS hA [1, 2, 3] [0] (by decide) (by decide) (by decide) rfl rfl rfl hl.1 (Nat.le_of_ble_eq_true rfl) dX7_isFree_14 ⟨Nat.zero_le _, Nat.zero_le _⟩ rfl (fun H locs hP hD hS => ?_)
    have hP : va_P (dC, dI) zz_cls [zo_X7 a_o a_c a_can f_o_rungs, zo_X0 a_c f_c_top f_c_things a_c_bars a_c_gives a_c_rough f_c_startRung f_c_startThings f_c_startStrength f_c_startWind f_c_slips f_c_lines a_c_code f_c_coded f_c_tiresFrom f_c_tiresTo f_c_mayFrom f_c_mayTo, (a_c_bars, .inl (dA 0, 9, .inl b_c_bars)), (a_c_gives, .inl (dA 0, 9, .inl b_c_gives))] H := hP
    have hD : va_D A [zo_X7 a_o a_c a_can f_o_rungs, zo_X0 a_c f_c_top f_c_things a_c_bars a_c_gives a_c_rough f_c_startRung f_c_startThings f_c_startStrength f_c_startWind f_c_slips f_c_lines a_c_code f_c_coded f_c_tiresFrom f_c_tiresTo f_c_mayFrom f_c_mayTo, (a_c_bars, .inl (dA 0, 9, .inl b_c_bars)), (a_c_gives, .inl (dA 0, 9, .inl b_c_gives))] := hD
    refine lv_if_eq (tgt := 24) (pc := 17) hx hb dX7_isFree_17 rfl (fun hc => ?_) (fun hc => ?_)
    · have hf := za_t hf hc
      refine lv_iconst (v := (0 : Int32)) (pc := 24) hx hb dX7_isFree_24 (by decide) ?_
      obtain rfl := Option.some.inj hf
      exact W.zret (pc := 25) hx hb hr rfl (fun t ht hW => ⟨⟨_, (), rfl, rfl, zz_Bi (by rw [ht]; exact hP) (va_K.moved hW.alike hK) (hD)⟩, hS.F ht⟩) hS.2.2 dX7_isFree_25
    · have hf := za_f hf hc
      refine lv_iconst (v := (1 : Int32)) (pc := 20) hx hb dX7_isFree_20 (by decide) ?_
      refine lv_goto (tgt := 25) (pc := 21) hx hb dX7_isFree_21 rfl ?_
      obtain rfl := Option.some.inj hf
      exact W.zret (pc := 25) hx hb hr rfl (fun t ht hW => ⟨⟨_, (), rfl, rfl, zz_Bi (by rw [ht]; exact hP) (va_K.moved hW.alike hK) (hD)⟩, hS.F ht⟩) hS.2.2 dX7_isFree_25

def zb_X7_withThing_10 (f_o_rungs : Int32) (b_c_bars : (Nat → Int32)) (b_c_gives : (Nat → Int32)) (p1 : Int32) (p2 : Int32) (b_can : (Nat → Int32)) (v2 : Int32) (v3 : Int32) : Option (Nat × Int32 × Int32) :=
  if f_o_rungs ≤ v3 then
    some (1, v2, v3)
  else
    zd_1 (zf_X7_isFree b_c_bars b_c_gives v3 p1 p2) (fun v4 =>
    zd_1 (
      if v4 = 0 then
        some v2
      else
        zd_1 (zf_X7_behind b_can p1 (p2 ||| ((1 : Int32) <<< (v3 &&& 31)))) (fun v5 =>
        zd_1 (some ((if v2 < ((1 : Int32) + v5) then ((1 : Int32) + v5) else v2))) (fun v6 =>
        some v6))) (fun v7 =>
    zd_1 (some (v3 + (1 : Int32))) (fun v8 =>
    some (0, v7, v8))))
def zf_X7_withThing (n : Nat) (f_o_rungs : Int32) (b_c_bars : (Nat → Int32)) (b_c_gives : (Nat → Int32)) (b_can : (Nat → Int32)) (p1 : Int32) (p2 : Int32) : Option (Int32) :=
  zd_1 (zf_X7_behind b_can p1 p2) (fun v1 =>
  zd_3 (za_it (fun v => zb_X7_withThing_10 f_o_rungs b_c_bars b_c_gives p1 p2 b_can v.1 v.2) n (v1, (0 : Int32))) (fun g11 v9 v10 =>
  some v9))
theorem zk_X7_withThing : yX7_withThing.cls = RX7 ∧ yX7_withThing.cls ≠ "java/lang/invoke/MethodHandle" ∧ yX7_withThing.cls ≠ "java/lang/invoke/VarHandle" ∧ (parseMethodDescriptor yX7_withThing.desc).map (fun d => d.parameters.length) = some 2 := by decide +kernel
set_option maxHeartbeats 4000000 in
set_option maxRecDepth 100000 in
theorem zt_X7_withThing (l : Launch) (dC : Nat → ClassId) (dI : Nat → Nat → Nat) (dA : Nat → ClassId) (adK adV : Nat → Nat) (sz : Nat) (a_o : Nat) (a_c : Nat) (a_can : Nat) (a_c_bars : Nat) (a_c_gives : Nat) (a_c_rough : Nat) (a_c_code : Nat) (n : Nat) (f_o_rungs : Int32) (f_c_top : Int32) (f_c_things : Int32) (f_c_startRung : Int32) (f_c_startThings : Int32) (f_c_startStrength : Int32) (f_c_startWind : Int32) (f_c_slips : Int32) (f_c_lines : Int32) (f_c_coded : Int32) (f_c_tiresFrom : Int32) (f_c_tiresTo : Int32) (f_c_mayFrom : Int32) (f_c_mayTo : Int32) (b_c_bars : (Nat → Int32)) (b_c_gives : (Nat → Int32)) (b_can : (Nat → Int32)) (p1 : Int32) (p2 : Int32) (r0 : Int32) (hf : zf_X7_withThing n f_o_rungs b_c_bars b_c_gives b_can p1 p2 = some r0) : Met l yX7_withThing (.code yX7_withThing cX7_withThing 5 (some .int) :: zq_T) ({ frames := 2, cells := 0, slots := 0, locals := 48 }) (va_Pc [.ref a_o, .int p1, .int p2] (zx_M dC dI dA adK adV [zo_X7 a_o a_c a_can f_o_rungs, zo_X0 a_c f_c_top f_c_things a_c_bars a_c_gives a_c_rough f_c_startRung f_c_startThings f_c_startStrength f_c_startWind f_c_slips f_c_lines a_c_code f_c_coded f_c_tiresFrom f_c_tiresTo f_c_mayFrom f_c_mayTo, (a_c_bars, .inl (dA 0, 9, .inl b_c_bars)), (a_c_gives, .inl (dA 0, 9, .inl b_c_gives)), (a_can, .inl (dA 0, 2880, .inl b_can))] sz)) (va_Qi (fun (r : Int32) (_ : Unit) => r = r0) (fun _ t => zz_B dC dI dA (va_A [zo_X7 a_o a_c a_can f_o_rungs, zo_X0 a_c f_c_top f_c_things a_c_bars a_c_gives a_c_rough f_c_startRung f_c_startThings f_c_startStrength f_c_startWind f_c_slips f_c_lines a_c_code f_c_coded f_c_tiresFrom f_c_tiresTo f_c_mayFrom f_c_mayTo, (a_c_bars, .inl (dA 0, 9, .inl b_c_bars)), (a_c_gives, .inl (dA 0, 9, .inl b_c_gives)), (a_can, .inl (dA 0, 2880, .inl b_can))] sz) [zo_X7 a_o a_c a_can f_o_rungs, zo_X0 a_c f_c_top f_c_things a_c_bars a_c_gives a_c_rough f_c_startRung f_c_startThings f_c_startStrength f_c_startWind f_c_slips f_c_lines a_c_code f_c_coded f_c_tiresFrom f_c_tiresTo f_c_mayFrom f_c_mayTo, (a_c_bars, .inl (dA 0, 9, .inl b_c_bars)), (a_c_gives, .inl (dA 0, 9, .inl b_c_gives)), (a_can, .inl (dA 0, 2880, .inl b_can))] t) (va_A [zo_X7 a_o a_c a_can f_o_rungs, zo_X0 a_c f_c_top f_c_things a_c_bars a_c_gives a_c_rough f_c_startRung f_c_startThings f_c_startStrength f_c_startWind f_c_slips f_c_lines a_c_code f_c_coded f_c_tiresFrom f_c_tiresTo f_c_mayFrom f_c_mayTo, (a_c_bars, .inl (dA 0, 9, .inl b_c_bars)), (a_c_gives, .inl (dA 0, 9, .inl b_c_gives)), (a_can, .inl (dA 0, 2880, .inl b_can))] sz)) 0 0 (va_A [zo_X7 a_o a_c a_can f_o_rungs, zo_X0 a_c f_c_top f_c_things a_c_bars a_c_gives a_c_rough f_c_startRung f_c_startThings f_c_startStrength f_c_startWind f_c_slips f_c_lines a_c_code f_c_coded f_c_tiresFrom f_c_tiresTo f_c_mayFrom f_c_mayTo, (a_c_bars, .inl (dA 0, 9, .inl b_c_bars)), (a_c_gives, .inl (dA 0, 9, .inl b_c_gives)), (a_can, .inl (dA 0, 2880, .inl b_can))] sz) := by
  unfold zf_X7_withThing at hf
  refine Met.ofW (cc := cX7_withThing) (maxL := 5) (ret := (some .int)) (by decide) rfl ?_
  intro p e s m args below meth c s₁ B hml hv
  obtain ⟨rfl, ⟨hsz, hP, hK, hD0⟩, hZ⟩ := hv
  have hx := B.exec
  have hb := B.bytes
  have hr := B.returns
  have ht : ∀ w ∈ zq_T, w.before ([.ref a_o, .int p1, .int p2] : List Value).toArray s = true := fun w hw => atoms_spec (ws := .code yX7_withThing cX7_withThing 5 (some .int) :: zq_T) B.pre w (List.mem_cons_of_mem _ hw)
  have hown : s.vm.findClass RX7 = some m.cls := findClass_of_methodNamed B.named
  have hlocks := B.notSynchronized
  subst hsz
  have hD := hD0.self (sz := s.heap.size)
  generalize hAe : va_A [zo_X7 a_o a_c a_can f_o_rungs, zo_X0 a_c f_c_top f_c_things a_c_bars a_c_gives a_c_rough f_c_startRung f_c_startThings f_c_startStrength f_c_startWind f_c_slips f_c_lines a_c_code f_c_coded f_c_tiresFrom f_c_tiresTo f_c_mayFrom f_c_mayTo, (a_c_bars, .inl (dA 0, 9, .inl b_c_bars)), (a_c_gives, .inl (dA 0, 9, .inl b_c_gives)), (a_can, .inl (dA 0, 2880, .inl b_can))] s.heap.size = A at hD hZ ⊢
  have hA : ∀ q : Nat, s.heap.size ≤ q → A q := fun q h => by rw [← hAe]; exact Or.inr h
  clear hAe hD0
  have hS : va_S A s.heap s.heap [] := va_S.rf
  have hl := lv_entry ([.ref a_o, .int p1, .int p2]) (n := 5) (Nat.le_of_ble_eq_true rfl)
  rw [lg_entry_eq]
  generalize (lg_sl ([.ref a_o, .int p1, .int p2]) ++ List.replicate (5 - (lg_sl ([.ref a_o, .int p1, .int p2])).length) Slot.unset).toArray = ls at hl ⊢
  have hl : lv_has ls 5 [(0, .ref a_o), (1, .int p1), (2, .int p2)] := hl
  refine lv_aload_n (pc := 0) hx hb dX7_withThing_0 rfl (lv_at hl 0 rfl) ?_
  refine lv_iload_n (pc := 1) hx hb dX7_withThing_1 rfl (lv_at hl 1 rfl) ?_
  refine lv_iload_n (pc := 2) hx hb dX7_withThing_2 rfl (lv_at hl 2 rfl) ?_
  obtain ⟨v1, hv1, hf⟩ := zc_1 hf
  refine zx_Vi (pc := 3) (wc := [zo_X7 a_o a_c a_can f_o_rungs, (a_can, .inl (dA 0, 2880, .inl b_can))]) (wr := [zo_X0 a_c f_c_top f_c_things a_c_bars a_c_gives a_c_rough f_c_startRung f_c_startThings f_c_startStrength f_c_startWind f_c_slips f_c_lines a_c_code f_c_coded f_c_tiresFrom f_c_tiresTo f_c_mayFrom f_c_mayTo, (a_c_bars, .inl (dA 0, 9, .inl b_c_bars)), (a_c_gives, .inl (dA 0, 9, .inl b_c_gives))]) (w1 := [zo_X7 a_o a_c a_can f_o_rungs, (a_can, .inl (dA 0, 2880, .inl b_can))]) (As := [.int p1, .int p2]) (rest := []) ⟨hx, hb, hml, hown, ht⟩ (zt_X7_behind l dC dI dA adK adV _ a_o a_c a_can f_o_rungs b_can p1 p2 v1 hv1) (cwV 2 ht (zq_V zq_510 zq_511 zq_512 zq_513 zq_503) rfl rfl rfl zk_X7_behind ⟨Nat.le_of_ble_eq_true rfl, Nat.le_of_ble_eq_true rfl⟩) rfl rfl hZ hK hP hD hS hA [0, 4] [1, 2, 3] (by decide) (by decide) (by decide) rfl rfl rfl hl.1 (Nat.le_of_ble_eq_true rfl) dX7_withThing_3 ⟨Nat.zero_le _, Nat.zero_le _⟩ rfl (fun H locs hP hD hS => ?_)
  have hP : va_P (dC, dI) zz_cls [zo_X0 a_c f_c_top f_c_things a_c_bars a_c_gives a_c_rough f_c_startRung f_c_startThings f_c_startStrength f_c_startWind f_c_slips f_c_lines a_c_code f_c_coded f_c_tiresFrom f_c_tiresTo f_c_mayFrom f_c_mayTo, (a_c_bars, .inl (dA 0, 9, .inl b_c_bars)), (a_c_gives, .inl (dA 0, 9, .inl b_c_gives)), zo_X7 a_o a_c a_can f_o_rungs, (a_can, .inl (dA 0, 2880, .inl b_can))] H := hP
  have hD : va_D A [zo_X0 a_c f_c_top f_c_things a_c_bars a_c_gives a_c_rough f_c_startRung f_c_startThings f_c_startStrength f_c_startWind f_c_slips f_c_lines a_c_code f_c_coded f_c_tiresFrom f_c_tiresTo f_c_mayFrom f_c_mayTo, (a_c_bars, .inl (dA 0, 9, .inl b_c_bars)), (a_c_gives, .inl (dA 0, 9, .inl b_c_gives)), zo_X7 a_o a_c a_can f_o_rungs, (a_can, .inl (dA 0, 2880, .inl b_can))] := hD
  refine lv_istore_n (lv' := [(3, .int v1), (0, .ref a_o), (1, .int p1), (2, .int p2)]) (pc := 6) hx hb dX7_withThing_6 rfl hl (by decide) rfl (fun ls hl => ?_)
  refine lv_iconst (v := (0 : Int32)) (pc := 7) hx hb dX7_withThing_7 (by decide) ?_
  refine lv_istore (lv' := [(4, .int (0 : Int32)), (3, .int v1), (0, .ref a_o), (1, .int p1), (2, .int p2)]) (pc := 8) hx hb dX7_withThing_8 hl (by decide) rfl (fun ls hl => ?_)
  obtain ⟨g11, v9, v10, hj, hf⟩ := zc_3 hf
  refine zj_join (pcJ := 54) (stk := []) (X := fun H locs ls => lv_has ls 5 [(3, .int v9)] ∧ va_P (dC, dI) zz_cls [zo_X7 a_o a_c a_can f_o_rungs, zo_X0 a_c f_c_top f_c_things a_c_bars a_c_gives a_c_rough f_c_startRung f_c_startThings f_c_startStrength f_c_startWind f_c_slips f_c_lines a_c_code f_c_coded f_c_tiresFrom f_c_tiresTo f_c_mayFrom f_c_mayTo, (a_c_bars, .inl (dA 0, 9, .inl b_c_bars)), (a_c_gives, .inl (dA 0, 9, .inl b_c_gives)), (a_can, .inl (dA 0, 2880, .inl b_can))] H ∧ va_D A [zo_X7 a_o a_c a_can f_o_rungs, zo_X0 a_c f_c_top f_c_things a_c_bars a_c_gives a_c_rough f_c_startRung f_c_startThings f_c_startStrength f_c_startWind f_c_slips f_c_lines a_c_code f_c_coded f_c_tiresFrom f_c_tiresTo f_c_mayFrom f_c_mayTo, (a_c_bars, .inl (dA 0, 9, .inl b_c_bars)), (a_c_gives, .inl (dA 0, 9, .inl b_c_gives)), (a_can, .inl (dA 0, 2880, .inl b_can))] ∧ va_S A s.heap H locs) (fun H locs ls hX => ?_) (fun E54 => ?_)
  · obtain ⟨hl, hP, hD, hS⟩ := hX
    clear hj
    refine lv_iload_n (pc := 54) hx hb dX7_withThing_54 rfl (lv_at hl 0 rfl) ?_
    obtain rfl := Option.some.inj hf
    exact W.iret (pc := 55) hx hb hr (fun t ht hW => ⟨⟨_, (), rfl, rfl, zz_Bi (by rw [ht]; exact hP) (va_K.moved hW.alike hK) (hD)⟩, hS.F ht⟩) hS.2.2 dX7_withThing_55
  clear hf
  refine zw_loop (pcH := 10) (X := fun v H locs ls => lv_has ls 5 [(0, .ref a_o), (1, .int p1), (2, .int p2), (3, .int v.1), (4, .int v.2)] ∧ va_P (dC, dI) zz_cls [zo_X7 a_o a_c a_can f_o_rungs, zo_X0 a_c f_c_top f_c_things a_c_bars a_c_gives a_c_rough f_c_startRung f_c_startThings f_c_startStrength f_c_startWind f_c_slips f_c_lines a_c_code f_c_coded f_c_tiresFrom f_c_tiresTo f_c_mayFrom f_c_mayTo, (a_c_bars, .inl (dA 0, 9, .inl b_c_bars)), (a_c_gives, .inl (dA 0, 9, .inl b_c_gives)), (a_can, .inl (dA 0, 2880, .inl b_can))] H ∧ va_D A [zo_X7 a_o a_c a_can f_o_rungs, zo_X0 a_c f_c_top f_c_things a_c_bars a_c_gives a_c_rough f_c_startRung f_c_startThings f_c_startStrength f_c_startWind f_c_slips f_c_lines a_c_code f_c_coded f_c_tiresFrom f_c_tiresTo f_c_mayFrom f_c_mayTo, (a_c_bars, .inl (dA 0, 9, .inl b_c_bars)), (a_c_gives, .inl (dA 0, 9, .inl b_c_gives)), (a_can, .inl (dA 0, 2880, .inl b_can))] ∧ va_S A s.heap H locs) hj (fun v w hf ih ex H locs ls hX => ?_) _ _ _ ⟨lv_sub hl [2, 3, 4, 1, 0] rfl, hP.sub [3, 0, 1, 2, 4] rfl, hD.sub [3, 0, 1, 2, 4] (by decide) rfl, hS⟩
  clear hj
  obtain ⟨v2, v3⟩ := v
  obtain ⟨hl, hP, hD, hS⟩ := hX
  have hl : lv_has ls 5 [(0, .ref a_o), (1, .int p1), (2, .int p2), (3, .int v2), (4, .int v3)] := hl
  have hP : va_P (dC, dI) zz_cls [zo_X7 a_o a_c a_can f_o_rungs, zo_X0 a_c f_c_top f_c_things a_c_bars a_c_gives a_c_rough f_c_startRung f_c_startThings f_c_startStrength f_c_startWind f_c_slips f_c_lines a_c_code f_c_coded f_c_tiresFrom f_c_tiresTo f_c_mayFrom f_c_mayTo, (a_c_bars, .inl (dA 0, 9, .inl b_c_bars)), (a_c_gives, .inl (dA 0, 9, .inl b_c_gives)), (a_can, .inl (dA 0, 2880, .inl b_can))] H := hP
  have hD : va_D A [zo_X7 a_o a_c a_can f_o_rungs, zo_X0 a_c f_c_top f_c_things a_c_bars a_c_gives a_c_rough f_c_startRung f_c_startThings f_c_startStrength f_c_startWind f_c_slips f_c_lines a_c_code f_c_coded f_c_tiresFrom f_c_tiresTo f_c_mayFrom f_c_mayTo, (a_c_bars, .inl (dA 0, 9, .inl b_c_bars)), (a_c_gives, .inl (dA 0, 9, .inl b_c_gives)), (a_can, .inl (dA 0, 2880, .inl b_can))] := hD
  replace hf : zb_X7_withThing_10 f_o_rungs b_c_bars b_c_gives p1 p2 b_can v2 v3 = some w := hf
  unfold zb_X7_withThing_10 at hf
  refine lv_iload (pc := 10) hx hb dX7_withThing_10 (lv_at hl 4 rfl) ?_
  refine lv_aload_n (pc := 12) hx hb dX7_withThing_12 rfl (lv_at hl 0 rfl) ?_
  refine va_get (pc := 13) (D := (dC, dI)) (ci := 8) (v := .int f_o_rungs) (C := RX7) (T := TX7) (N := 3) hx hb ht zq_layX7 hown hK hP 0 rfl rfl 2 (by decide) (ht _ zq_500) (fun _ h9 => h9) rfl dX7_withThing_13 ?_
  refine lv_icmp_ge (tgt := 54) (pc := 16) hx hb dX7_withThing_16 rfl (fun hc => ?_) (fun hc => ?_)
  · have hf := za_t hf hc
    obtain rfl := Option.some.inj hf
    obtain ⟨rfl, rfl, rfl⟩ := zp_3 (ex (show ¬ (1 : Nat) = 0 by decide))
    exact E54 _ _ _ ⟨lv_sub hl [3] rfl, hP, hD, hS⟩
  · have hf := za_f hf hc
    refine lv_aload_n (pc := 19) hx hb dX7_withThing_19 rfl (lv_at hl 0 rfl) ?_
    refine lv_iload (pc := 20) hx hb dX7_withThing_20 (lv_at hl 4 rfl) ?_
    refine lv_iload_n (pc := 22) hx hb dX7_withThing_22 rfl (lv_at hl 1 rfl) ?_
    refine lv_iload_n (pc := 23) hx hb dX7_withThing_23 rfl (lv_at hl 2 rfl) ?_
    obtain ⟨v4, hv4, hf⟩ := zc_1 hf
    refine zx_Vi (pc := 24) (wc := [zo_X7 a_o a_c a_can f_o_rungs, zo_X0 a_c f_c_top f_c_things a_c_bars a_c_gives a_c_rough f_c_startRung f_c_startThings f_c_startStrength f_c_startWind f_c_slips f_c_lines a_c_code f_c_coded f_c_tiresFrom f_c_tiresTo f_c_mayFrom f_c_mayTo, (a_c_bars, .inl (dA 0, 9, .inl b_c_bars)), (a_c_gives, .inl (dA 0, 9, .inl b_c_gives))]) (wr := [(a_can, .inl (dA 0, 2880, .inl b_can))]) (w1 := [zo_X7 a_o a_c a_can f_o_rungs, zo_X0 a_c f_c_top f_c_things a_c_bars a_c_gives a_c_rough f_c_startRung f_c_startThings f_c_startStrength f_c_startWind f_c_slips f_c_lines a_c_code f_c_coded f_c_tiresFrom f_c_tiresTo f_c_mayFrom f_c_mayTo, (a_c_bars, .inl (dA 0, 9, .inl b_c_bars)), (a_c_gives, .inl (dA 0, 9, .inl b_c_gives))]) (As := [.int v3, .int p1, .int p2]) (rest := []) ⟨hx, hb, hml, hown, ht⟩ (zt_X7_isFree l dC dI dA adK adV _ a_o a_c a_can a_c_bars a_c_gives a_c_rough a_c_code f_o_rungs f_c_top f_c_things f_c_startRung f_c_startThings f_c_startStrength f_c_startWind f_c_slips f_c_lines f_c_coded f_c_tiresFrom f_c_tiresTo f_c_mayFrom f_c_mayTo b_c_bars b_c_gives v3 p1 p2 v4 hv4) (cwV 3 ht (zq_V zq_514 zq_515 zq_516 zq_513 zq_504) rfl rfl rfl zk_X7_isFree ⟨Nat.le_of_ble_eq_true rfl, Nat.le_of_ble_eq_true rfl⟩) rfl rfl hZ hK hP hD hS hA [0, 1, 2, 3] [4] (by decide) (by decide) (by decide) rfl rfl rfl hl.1 (Nat.le_of_ble_eq_true rfl) dX7_withThing_24 ⟨Nat.zero_le _, Nat.zero_le _⟩ rfl (fun H locs hP hD hS => ?_)
    have hP : va_P (dC, dI) zz_cls [(a_can, .inl (dA 0, 2880, .inl b_can)), zo_X7 a_o a_c a_can f_o_rungs, zo_X0 a_c f_c_top f_c_things a_c_bars a_c_gives a_c_rough f_c_startRung f_c_startThings f_c_startStrength f_c_startWind f_c_slips f_c_lines a_c_code f_c_coded f_c_tiresFrom f_c_tiresTo f_c_mayFrom f_c_mayTo, (a_c_bars, .inl (dA 0, 9, .inl b_c_bars)), (a_c_gives, .inl (dA 0, 9, .inl b_c_gives))] H := hP
    have hD : va_D A [(a_can, .inl (dA 0, 2880, .inl b_can)), zo_X7 a_o a_c a_can f_o_rungs, zo_X0 a_c f_c_top f_c_things a_c_bars a_c_gives a_c_rough f_c_startRung f_c_startThings f_c_startStrength f_c_startWind f_c_slips f_c_lines a_c_code f_c_coded f_c_tiresFrom f_c_tiresTo f_c_mayFrom f_c_mayTo, (a_c_bars, .inl (dA 0, 9, .inl b_c_bars)), (a_c_gives, .inl (dA 0, 9, .inl b_c_gives))] := hD
    obtain ⟨v7, hj, hf⟩ := zc_1 hf
    refine zj_join (pcJ := 48) (stk := []) (X := fun H locs ls => lv_has ls 5 [(0, .ref a_o), (1, .int p1), (2, .int p2), (3, .int v7), (4, .int v3)] ∧ va_P (dC, dI) zz_cls [zo_X7 a_o a_c a_can f_o_rungs, zo_X0 a_c f_c_top f_c_things a_c_bars a_c_gives a_c_rough f_c_startRung f_c_startThings f_c_startStrength f_c_startWind f_c_slips f_c_lines a_c_code f_c_coded f_c_tiresFrom f_c_tiresTo f_c_mayFrom f_c_mayTo, (a_c_bars, .inl (dA 0, 9, .inl b_c_bars)), (a_c_gives, .inl (dA 0, 9, .inl b_c_gives)), (a_can, .inl (dA 0, 2880, .inl b_can))] H ∧ va_D A [zo_X7 a_o a_c a_can f_o_rungs, zo_X0 a_c f_c_top f_c_things a_c_bars a_c_gives a_c_rough f_c_startRung f_c_startThings f_c_startStrength f_c_startWind f_c_slips f_c_lines a_c_code f_c_coded f_c_tiresFrom f_c_tiresTo f_c_mayFrom f_c_mayTo, (a_c_bars, .inl (dA 0, 9, .inl b_c_bars)), (a_c_gives, .inl (dA 0, 9, .inl b_c_gives)), (a_can, .inl (dA 0, 2880, .inl b_can))] ∧ va_S A s.heap H locs) (fun H locs ls hX => ?_) (fun J48 => ?_)
    · obtain ⟨hl, hP, hD, hS⟩ := hX
      clear hj
      obtain ⟨v8, hv8, hf⟩ := zc_1 hf
      refine lv_iinc (v := v8) (lv' := [(4, .int v8), (0, .ref a_o), (1, .int p1), (2, .int p2), (3, .int v7)]) (k := 4) (pc := 48) hx hb dX7_withThing_48 hl rfl (Option.some.inj hv8) (by decide) rfl (fun ls hl => ?_)
      refine lv_goto (tgt := 10) (pc := 51) hx hb dX7_withThing_51 rfl ?_
      obtain rfl := Option.some.inj hf
      exact ih rfl _ _ _ ⟨lv_sub hl [1, 2, 3, 4, 0] rfl, hP, hD, hS⟩
    · clear hf
      have hf := hj
      clear hj
      refine lv_if_eq (tgt := 48) (pc := 27) hx hb dX7_withThing_27 rfl (fun hc => ?_) (fun hc => ?_)
      · have hf := za_t hf hc
        obtain rfl := Option.some.inj hf
        exact J48 _ _ _ ⟨lv_sub hl [0, 1, 2, 3, 4] rfl, hP.sub [1, 2, 3, 4, 0] rfl, hD.sub [1, 2, 3, 4, 0] (by decide) rfl, hS⟩
      · have hf := za_f hf hc
        refine lv_iload_n (pc := 30) hx hb dX7_withThing_30 rfl (lv_at hl 3 rfl) ?_
        refine lv_iconst (v := (1 : Int32)) (pc := 31) hx hb dX7_withThing_31 (by decide) ?_
        refine lv_aload_n (pc := 32) hx hb dX7_withThing_32 rfl (lv_at hl 0 rfl) ?_
        refine lv_iload_n (pc := 33) hx hb dX7_withThing_33 rfl (lv_at hl 1 rfl) ?_
        refine lv_iload_n (pc := 34) hx hb dX7_withThing_34 rfl (lv_at hl 2 rfl) ?_
        refine lv_iconst (v := (1 : Int32)) (pc := 35) hx hb dX7_withThing_35 (by decide) ?_
        refine lv_iload (pc := 36) hx hb dX7_withThing_36 (lv_at hl 4 rfl) ?_
        refine lv_ishl (pc := 38) hx hb dX7_withThing_38 ?_
        refine lv_ior (pc := 39) hx hb dX7_withThing_39 ?_
        obtain ⟨v5, hv5, hf⟩ := zc_1 hf
        refine zx_Vi (pc := 40) (wc := [zo_X7 a_o a_c a_can f_o_rungs, (a_can, .inl (dA 0, 2880, .inl b_can))]) (wr := [zo_X0 a_c f_c_top f_c_things a_c_bars a_c_gives a_c_rough f_c_startRung f_c_startThings f_c_startStrength f_c_startWind f_c_slips f_c_lines a_c_code f_c_coded f_c_tiresFrom f_c_tiresTo f_c_mayFrom f_c_mayTo, (a_c_bars, .inl (dA 0, 9, .inl b_c_bars)), (a_c_gives, .inl (dA 0, 9, .inl b_c_gives))]) (w1 := [zo_X7 a_o a_c a_can f_o_rungs, (a_can, .inl (dA 0, 2880, .inl b_can))]) (As := [.int p1, .int (p2 ||| ((1 : Int32) <<< (v3 &&& 31)))]) (rest := [.int (1 : Int32), .int v2]) ⟨hx, hb, hml, hown, ht⟩ (zt_X7_behind l dC dI dA adK adV _ a_o a_c a_can f_o_rungs b_can p1 (p2 ||| ((1 : Int32) <<< (v3 &&& 31))) v5 hv5) (cwV 2 ht (zq_V zq_510 zq_511 zq_512 zq_513 zq_503) rfl rfl rfl zk_X7_behind ⟨Nat.le_of_ble_eq_true rfl, Nat.le_of_ble_eq_true rfl⟩) rfl rfl hZ hK hP hD hS hA [1, 0] [2, 3, 4] (by decide) (by decide) (by decide) rfl rfl rfl hl.1 (Nat.le_of_ble_eq_true rfl) dX7_withThing_40 ⟨Nat.zero_le _, Nat.zero_le _⟩ rfl (fun H locs hP hD hS => ?_)
        have hP : va_P (dC, dI) zz_cls [zo_X0 a_c f_c_top f_c_things a_c_bars a_c_gives a_c_rough f_c_startRung f_c_startThings f_c_startStrength f_c_startWind f_c_slips f_c_lines a_c_code f_c_coded f_c_tiresFrom f_c_tiresTo f_c_mayFrom f_c_mayTo, (a_c_bars, .inl (dA 0, 9, .inl b_c_bars)), (a_c_gives, .inl (dA 0, 9, .inl b_c_gives)), zo_X7 a_o a_c a_can f_o_rungs, (a_can, .inl (dA 0, 2880, .inl b_can))] H := hP
        have hD : va_D A [zo_X0 a_c f_c_top f_c_things a_c_bars a_c_gives a_c_rough f_c_startRung f_c_startThings f_c_startStrength f_c_startWind f_c_slips f_c_lines a_c_code f_c_coded f_c_tiresFrom f_c_tiresTo f_c_mayFrom f_c_mayTo, (a_c_bars, .inl (dA 0, 9, .inl b_c_bars)), (a_c_gives, .inl (dA 0, 9, .inl b_c_gives)), zo_X7 a_o a_c a_can f_o_rungs, (a_can, .inl (dA 0, 2880, .inl b_can))] := hD
        refine lv_iadd (pc := 43) hx hb dX7_withThing_43 ?_
        refine va_mmax (pc := 44) hx hb (hml.trans hl.1.symm) hown (ht _ zq_509) (ht _ zq_95) (ht _ zq_92) (ht _ zq_96) (Nat.le_of_ble_eq_true rfl) (Nat.le_of_ble_eq_true rfl) (Nat.zero_le _) (Nat.zero_le _) dX7_withThing_44 ?_
        obtain ⟨v6, hv6, hf⟩ := zc_1 hf
        refine zw_top (hv6) ?_
        refine lv_istore_n (lv' := [(3, .int v6), (0, .ref a_o), (1, .int p1), (2, .int p2), (4, .int v3)]) (pc := 47) hx hb dX7_withThing_47 rfl hl (by decide) rfl (fun ls hl => ?_)
        obtain rfl := Option.some.inj hf
        exact J48 _ _ _ ⟨lv_sub hl [1, 2, 3, 0, 4] rfl, hP.sub [3, 0, 1, 2, 4] rfl, hD.sub [3, 0, 1, 2, 4] (by decide) rfl, hS⟩

def zb_X7_reckon_7 (f_c_things : Int32) (v1 : Int32) (a2 : (Nat → Int32)) : Option (Nat × Int32 × (Nat → Int32)) :=
  if (256 : Int32) ≤ v1 then
    some (1, v1, a2)
  else
    zd_1 (za_st a2 2880 ((f_c_things * (256 : Int32)) + v1) (0 : Int32)) (fun a3 =>
    zd_1 (some (v1 + (1 : Int32))) (fun v4 =>
    some (0, v4, a3)))
def zb_X7_reckon_56 (p1 : Int32) (p2 : Int32) (v9 : Int32) (n : Nat) (b_c_bars : (Nat → Int32)) (b_c_gives : (Nat → Int32)) (v11 : Int32) (a12 : (Nat → Int32)) : Option (Nat × Int32 × (Nat → Int32)) :=
  if ((1 : Int32) <<< (p1 &&& 31)) ≤ v11 then
    some (1, v11, a12)
  else
    zd_1 (
      if ((p2 >>> (v9 &&& 31)) &&& (1 : Int32)) = 0 then
        some (0 : Int32)
      else
        some (1 : Int32)) (fun v13 =>
    zd_1 (
      if v13 = 0 then
        zd_1 (zf_X7_behind a12 v9 v11) (fun v14 =>
        some v14)
      else
        zd_1 (zf_X7_withThing n p1 b_c_bars b_c_gives a12 v9 v11) (fun v15 =>
        some v15)) (fun v16 =>
    zd_1 (za_st a12 2880 ((v9 * (256 : Int32)) + v11) v16) (fun a17 =>
    zd_1 (some (v11 + (1 : Int32))) (fun v18 =>
    some (0, v18, a17)))))
def zb_X7_reckon_49 (p1 : Int32) (p2 : Int32) (n : Nat) (b_c_bars : (Nat → Int32)) (b_c_gives : (Nat → Int32)) (v9 : Int32) (a10 : (Nat → Int32)) : Option (Nat × Int32 × (Nat → Int32)) :=
  if v9 < 0 then
    some (1, v9, a10)
  else
    zd_3 (za_it (fun v => zb_X7_reckon_56 p1 p2 v9 n b_c_bars b_c_gives v.1 v.2) n ((0 : Int32), a10)) (fun g21 v19 a20 =>
    zd_1 (some (v9 + (-1 : Int32))) (fun v22 =>
    some (0, v22, a20)))
def zf_X7_reckon (n : Nat) (f_o_rungs : Int32) (f_c_things : Int32) (b_c_bars : (Nat → Int32)) (b_c_gives : (Nat → Int32)) (b_can : (Nat → Int32)) (p1 : Int32) (p2 : Int32) : Option (Int32 × (Nat → Int32)) :=
  zd_3 (za_it (fun v => zb_X7_reckon_7 f_c_things v.1 v.2) n ((0 : Int32), b_can)) (fun g7 v5 a6 =>
  zd_1 (some ((f_c_things - (1 : Int32)))) (fun v8 =>
  zd_3 (za_it (fun v => zb_X7_reckon_49 p1 p2 n b_c_bars b_c_gives v.1 v.2) n (v8, a6)) (fun g25 v23 a24 =>
  some (p1, a24))))
theorem zk_X7_reckon : yX7_reckon.cls = RX7 ∧ yX7_reckon.cls ≠ "java/lang/invoke/MethodHandle" ∧ yX7_reckon.cls ≠ "java/lang/invoke/VarHandle" ∧ (parseMethodDescriptor yX7_reckon.desc).map (fun d => d.parameters.length) = some 2 := by decide +kernel
set_option maxHeartbeats 4000000 in
set_option maxRecDepth 100000 in
theorem zt_X7_reckon (l : Launch) (dC : Nat → ClassId) (dI : Nat → Nat → Nat) (dA : Nat → ClassId) (adK adV : Nat → Nat) (sz : Nat) (a_o : Nat) (a_c : Nat) (a_can : Nat) (a_c_bars : Nat) (a_c_gives : Nat) (a_c_rough : Nat) (a_c_code : Nat) (n : Nat) (f_o_rungs : Int32) (f_c_top : Int32) (f_c_things : Int32) (f_c_startRung : Int32) (f_c_startThings : Int32) (f_c_startStrength : Int32) (f_c_startWind : Int32) (f_c_slips : Int32) (f_c_lines : Int32) (f_c_coded : Int32) (f_c_tiresFrom : Int32) (f_c_tiresTo : Int32) (f_c_mayFrom : Int32) (f_c_mayTo : Int32) (b_c_bars : (Nat → Int32)) (b_c_gives : (Nat → Int32)) (b_can : (Nat → Int32)) (p1 : Int32) (p2 : Int32) (o1 : Int32) (o2 : (Nat → Int32)) (hf : zf_X7_reckon n f_o_rungs f_c_things b_c_bars b_c_gives b_can p1 p2 = some (o1, o2)) : Met l yX7_reckon (.code yX7_reckon cX7_reckon 6 none :: zq_T) ({ frames := 3, cells := 0, slots := 0, locals := 72 }) (va_Pc [.ref a_o, .int p1, .int p2] (zx_M dC dI dA adK adV [zo_X7 a_o a_c a_can f_o_rungs, zo_X0 a_c f_c_top f_c_things a_c_bars a_c_gives a_c_rough f_c_startRung f_c_startThings f_c_startStrength f_c_startWind f_c_slips f_c_lines a_c_code f_c_coded f_c_tiresFrom f_c_tiresTo f_c_mayFrom f_c_mayTo, (a_c_bars, .inl (dA 0, 9, .inl b_c_bars)), (a_c_gives, .inl (dA 0, 9, .inl b_c_gives)), (a_can, .inl (dA 0, 2880, .inl b_can))] sz)) (va_Qv (fun _ : Unit => True) (fun _ t => zz_B dC dI dA (va_A [zo_X7 a_o a_c a_can f_o_rungs, zo_X0 a_c f_c_top f_c_things a_c_bars a_c_gives a_c_rough f_c_startRung f_c_startThings f_c_startStrength f_c_startWind f_c_slips f_c_lines a_c_code f_c_coded f_c_tiresFrom f_c_tiresTo f_c_mayFrom f_c_mayTo, (a_c_bars, .inl (dA 0, 9, .inl b_c_bars)), (a_c_gives, .inl (dA 0, 9, .inl b_c_gives)), (a_can, .inl (dA 0, 2880, .inl b_can))] sz) [zo_X7 a_o a_c a_can o1, zo_X0 a_c f_c_top f_c_things a_c_bars a_c_gives a_c_rough f_c_startRung f_c_startThings f_c_startStrength f_c_startWind f_c_slips f_c_lines a_c_code f_c_coded f_c_tiresFrom f_c_tiresTo f_c_mayFrom f_c_mayTo, (a_c_bars, .inl (dA 0, 9, .inl b_c_bars)), (a_c_gives, .inl (dA 0, 9, .inl b_c_gives)), (a_can, .inl (dA 0, 2880, .inl o2))] t) (va_A [zo_X7 a_o a_c a_can f_o_rungs, zo_X0 a_c f_c_top f_c_things a_c_bars a_c_gives a_c_rough f_c_startRung f_c_startThings f_c_startStrength f_c_startWind f_c_slips f_c_lines a_c_code f_c_coded f_c_tiresFrom f_c_tiresTo f_c_mayFrom f_c_mayTo, (a_c_bars, .inl (dA 0, 9, .inl b_c_bars)), (a_c_gives, .inl (dA 0, 9, .inl b_c_gives)), (a_can, .inl (dA 0, 2880, .inl b_can))] sz)) 0 0 (va_A [zo_X7 a_o a_c a_can f_o_rungs, zo_X0 a_c f_c_top f_c_things a_c_bars a_c_gives a_c_rough f_c_startRung f_c_startThings f_c_startStrength f_c_startWind f_c_slips f_c_lines a_c_code f_c_coded f_c_tiresFrom f_c_tiresTo f_c_mayFrom f_c_mayTo, (a_c_bars, .inl (dA 0, 9, .inl b_c_bars)), (a_c_gives, .inl (dA 0, 9, .inl b_c_gives)), (a_can, .inl (dA 0, 2880, .inl b_can))] sz) := by
  unfold zf_X7_reckon at hf
  refine Met.ofW (cc := cX7_reckon) (maxL := 6) (ret := none) (by decide) rfl ?_
  intro p e s m args below meth c s₁ B hml hv
  obtain ⟨rfl, ⟨hsz, hP, hK, hD0⟩, hZ⟩ := hv
  have hx := B.exec
  have hb := B.bytes
  have hr := B.returns
  have ht : ∀ w ∈ zq_T, w.before ([.ref a_o, .int p1, .int p2] : List Value).toArray s = true := fun w hw => atoms_spec (ws := .code yX7_reckon cX7_reckon 6 none :: zq_T) B.pre w (List.mem_cons_of_mem _ hw)
  have hown : s.vm.findClass RX7 = some m.cls := findClass_of_methodNamed B.named
  have hlocks := B.notSynchronized
  subst hsz
  have hD := hD0.self (sz := s.heap.size)
  generalize hAe : va_A [zo_X7 a_o a_c a_can f_o_rungs, zo_X0 a_c f_c_top f_c_things a_c_bars a_c_gives a_c_rough f_c_startRung f_c_startThings f_c_startStrength f_c_startWind f_c_slips f_c_lines a_c_code f_c_coded f_c_tiresFrom f_c_tiresTo f_c_mayFrom f_c_mayTo, (a_c_bars, .inl (dA 0, 9, .inl b_c_bars)), (a_c_gives, .inl (dA 0, 9, .inl b_c_gives)), (a_can, .inl (dA 0, 2880, .inl b_can))] s.heap.size = A at hD hZ ⊢
  have hA : ∀ q : Nat, s.heap.size ≤ q → A q := fun q h => by rw [← hAe]; exact Or.inr h
  clear hAe hD0
  have hS : va_S A s.heap s.heap [] := va_S.rf
  have hl := lv_entry ([.ref a_o, .int p1, .int p2]) (n := 6) (Nat.le_of_ble_eq_true rfl)
  rw [lg_entry_eq]
  generalize (lg_sl ([.ref a_o, .int p1, .int p2]) ++ List.replicate (6 - (lg_sl ([.ref a_o, .int p1, .int p2])).length) Slot.unset).toArray = ls at hl ⊢
  have hl : lv_has ls 6 [(0, .ref a_o), (1, .int p1), (2, .int p2)] := hl
  refine lv_aload_n (pc := 0) hx hb dX7_reckon_0 rfl (lv_at hl 0 rfl) ?_
  refine lv_iload_n (pc := 1) hx hb dX7_reckon_1 rfl (lv_at hl 1 rfl) ?_
  refine va_put (pc := 2) (D := (dC, dI)) (ci := 8) (v := .int p1) (ty := .int) (C := RX7) (T := TX7) (N := 3) hx hb ht zq_layX7 tyX7 tyX7_ok nmX7 hown hK hP hD hS 0 rfl rfl 2 (by decide) (ht _ zq_500) (fun _ h9 => h9) rfl (by decide +kernel) rfl rfl (Nat.le_of_ble_eq_true rfl) dX7_reckon_2 (fun H locs hP hD hS => ?_)
  have hP : va_P (dC, dI) zz_cls [zo_X7 a_o a_c a_can p1, zo_X0 a_c f_c_top f_c_things a_c_bars a_c_gives a_c_rough f_c_startRung f_c_startThings f_c_startStrength f_c_startWind f_c_slips f_c_lines a_c_code f_c_coded f_c_tiresFrom f_c_tiresTo f_c_mayFrom f_c_mayTo, (a_c_bars, .inl (dA 0, 9, .inl b_c_bars)), (a_c_gives, .inl (dA 0, 9, .inl b_c_gives)), (a_can, .inl (dA 0, 2880, .inl b_can))] H := hP
  have hD : va_D A [zo_X7 a_o a_c a_can p1, zo_X0 a_c f_c_top f_c_things a_c_bars a_c_gives a_c_rough f_c_startRung f_c_startThings f_c_startStrength f_c_startWind f_c_slips f_c_lines a_c_code f_c_coded f_c_tiresFrom f_c_tiresTo f_c_mayFrom f_c_mayTo, (a_c_bars, .inl (dA 0, 9, .inl b_c_bars)), (a_c_gives, .inl (dA 0, 9, .inl b_c_gives)), (a_can, .inl (dA 0, 2880, .inl b_can))] := hD
  refine lv_iconst (v := (0 : Int32)) (pc := 5) hx hb dX7_reckon_5 (by decide) ?_
  refine lv_istore_n (lv' := [(3, .int (0 : Int32)), (0, .ref a_o), (1, .int p1), (2, .int p2)]) (pc := 6) hx hb dX7_reckon_6 rfl hl (by decide) rfl (fun ls hl => ?_)
  obtain ⟨g7, v5, a6, hj, hf⟩ := zc_3 hf
  refine zj_join (pcJ := 39) (stk := []) (X := fun H locs ls => lv_has ls 6 [(0, .ref a_o), (2, .int p2)] ∧ va_P (dC, dI) zz_cls [zo_X7 a_o a_c a_can p1, zo_X0 a_c f_c_top f_c_things a_c_bars a_c_gives a_c_rough f_c_startRung f_c_startThings f_c_startStrength f_c_startWind f_c_slips f_c_lines a_c_code f_c_coded f_c_tiresFrom f_c_tiresTo f_c_mayFrom f_c_mayTo, (a_c_bars, .inl (dA 0, 9, .inl b_c_bars)), (a_c_gives, .inl (dA 0, 9, .inl b_c_gives)), (a_can, .inl (dA 0, 2880, .inl a6))] H ∧ va_D A [zo_X7 a_o a_c a_can p1, zo_X0 a_c f_c_top f_c_things a_c_bars a_c_gives a_c_rough f_c_startRung f_c_startThings f_c_startStrength f_c_startWind f_c_slips f_c_lines a_c_code f_c_coded f_c_tiresFrom f_c_tiresTo f_c_mayFrom f_c_mayTo, (a_c_bars, .inl (dA 0, 9, .inl b_c_bars)), (a_c_gives, .inl (dA 0, 9, .inl b_c_gives)), (a_can, .inl (dA 0, 2880, .inl a6))] ∧ va_S A s.heap H locs) (fun H locs ls hX => ?_) (fun E39 => ?_)
  · obtain ⟨hl, hP, hD, hS⟩ := hX
    clear hj
    refine lv_aload_n (pc := 39) hx hb dX7_reckon_39 rfl (lv_at hl 0 rfl) ?_
    refine va_get (pc := 40) (D := (dC, dI)) (ci := 8) (v := .ref a_c) (C := RX7) (T := TX7) (N := 3) hx hb ht zq_layX7 hown hK hP 0 rfl rfl 0 (by decide) (ht _ zq_501) (fun _ h9 => h9) rfl dX7_reckon_40 ?_
    refine va_get (pc := 43) (D := (dC, dI)) (ci := 1) (v := .int f_c_things) (C := RX0) (T := TX0) (N := 17) hx hb ht zq_layX0 hown hK hP 1 rfl rfl 1 (by decide) (ht _ zq_517) (fun _ h9 => h9) rfl dX7_reckon_43 ?_
    refine lv_iconst (v := (1 : Int32)) (pc := 46) hx hb dX7_reckon_46 (by decide) ?_
    refine lv_isub (pc := 47) hx hb dX7_reckon_47 ?_
    obtain ⟨v8, hv8, hf⟩ := zc_1 hf
    refine zw_top (hv8) ?_
    refine lv_istore_n (lv' := [(3, .int v8), (0, .ref a_o), (2, .int p2)]) (pc := 48) hx hb dX7_reckon_48 rfl hl (by decide) rfl (fun ls hl => ?_)
    obtain ⟨g25, v23, a24, hj, hf⟩ := zc_3 hf
    refine zj_join (pcJ := 129) (stk := []) (X := fun H locs ls => lv_has ls 6 [] ∧ va_P (dC, dI) zz_cls [zo_X7 a_o a_c a_can p1, zo_X0 a_c f_c_top f_c_things a_c_bars a_c_gives a_c_rough f_c_startRung f_c_startThings f_c_startStrength f_c_startWind f_c_slips f_c_lines a_c_code f_c_coded f_c_tiresFrom f_c_tiresTo f_c_mayFrom f_c_mayTo, (a_c_bars, .inl (dA 0, 9, .inl b_c_bars)), (a_c_gives, .inl (dA 0, 9, .inl b_c_gives)), (a_can, .inl (dA 0, 2880, .inl a24))] H ∧ va_D A [zo_X7 a_o a_c a_can p1, zo_X0 a_c f_c_top f_c_things a_c_bars a_c_gives a_c_rough f_c_startRung f_c_startThings f_c_startStrength f_c_startWind f_c_slips f_c_lines a_c_code f_c_coded f_c_tiresFrom f_c_tiresTo f_c_mayFrom f_c_mayTo, (a_c_bars, .inl (dA 0, 9, .inl b_c_bars)), (a_c_gives, .inl (dA 0, 9, .inl b_c_gives)), (a_can, .inl (dA 0, 2880, .inl a24))] ∧ va_S A s.heap H locs) (fun H locs ls hX => ?_) (fun E129 => ?_)
    · obtain ⟨hl, hP, hD, hS⟩ := hX
      clear hj
      obtain ⟨rfl, rfl⟩ := zi_2 hf
      exact W.vret (pc := 129) hx hb hr (fun t ht hW => ⟨⟨(), rfl, trivial, zz_Bi (by rw [ht]; exact hP) (va_K.moved hW.alike hK) (hD)⟩, hS.F ht⟩) hS.2.2 dX7_reckon_129
    clear hf
    refine zw_loop (pcH := 49) (X := fun v H locs ls => lv_has ls 6 [(0, .ref a_o), (2, .int p2), (3, .int v.1)] ∧ va_P (dC, dI) zz_cls [zo_X7 a_o a_c a_can p1, zo_X0 a_c f_c_top f_c_things a_c_bars a_c_gives a_c_rough f_c_startRung f_c_startThings f_c_startStrength f_c_startWind f_c_slips f_c_lines a_c_code f_c_coded f_c_tiresFrom f_c_tiresTo f_c_mayFrom f_c_mayTo, (a_c_bars, .inl (dA 0, 9, .inl b_c_bars)), (a_c_gives, .inl (dA 0, 9, .inl b_c_gives)), (a_can, .inl (dA 0, 2880, .inl v.2))] H ∧ va_D A [zo_X7 a_o a_c a_can p1, zo_X0 a_c f_c_top f_c_things a_c_bars a_c_gives a_c_rough f_c_startRung f_c_startThings f_c_startStrength f_c_startWind f_c_slips f_c_lines a_c_code f_c_coded f_c_tiresFrom f_c_tiresTo f_c_mayFrom f_c_mayTo, (a_c_bars, .inl (dA 0, 9, .inl b_c_bars)), (a_c_gives, .inl (dA 0, 9, .inl b_c_gives)), (a_can, .inl (dA 0, 2880, .inl v.2))] ∧ va_S A s.heap H locs) hj (fun v w hf ih ex H locs ls hX => ?_) _ _ _ ⟨lv_sub hl [1, 2, 0] rfl, hP, hD, hS⟩
    clear hj
    obtain ⟨v9, a10⟩ := v
    obtain ⟨hl, hP, hD, hS⟩ := hX
    have hl : lv_has ls 6 [(0, .ref a_o), (2, .int p2), (3, .int v9)] := hl
    have hP : va_P (dC, dI) zz_cls [zo_X7 a_o a_c a_can p1, zo_X0 a_c f_c_top f_c_things a_c_bars a_c_gives a_c_rough f_c_startRung f_c_startThings f_c_startStrength f_c_startWind f_c_slips f_c_lines a_c_code f_c_coded f_c_tiresFrom f_c_tiresTo f_c_mayFrom f_c_mayTo, (a_c_bars, .inl (dA 0, 9, .inl b_c_bars)), (a_c_gives, .inl (dA 0, 9, .inl b_c_gives)), (a_can, .inl (dA 0, 2880, .inl a10))] H := hP
    have hD : va_D A [zo_X7 a_o a_c a_can p1, zo_X0 a_c f_c_top f_c_things a_c_bars a_c_gives a_c_rough f_c_startRung f_c_startThings f_c_startStrength f_c_startWind f_c_slips f_c_lines a_c_code f_c_coded f_c_tiresFrom f_c_tiresTo f_c_mayFrom f_c_mayTo, (a_c_bars, .inl (dA 0, 9, .inl b_c_bars)), (a_c_gives, .inl (dA 0, 9, .inl b_c_gives)), (a_can, .inl (dA 0, 2880, .inl a10))] := hD
    replace hf : zb_X7_reckon_49 p1 p2 n b_c_bars b_c_gives v9 a10 = some w := hf
    unfold zb_X7_reckon_49 at hf
    refine lv_iload_n (pc := 49) hx hb dX7_reckon_49 rfl (lv_at hl 2 rfl) ?_
    refine lv_if_lt (tgt := 129) (pc := 50) hx hb dX7_reckon_50 rfl (fun hc => ?_) (fun hc => ?_)
    · have hf := za_t hf hc
      obtain rfl := Option.some.inj hf
      obtain ⟨rfl, rfl, rfl⟩ := zp_3 (ex (show ¬ (1 : Nat) = 0 by decide))
      exact E129 _ _ _ ⟨lv_sub hl [] rfl, hP, hD, hS⟩
    · have hf := za_f hf hc
      refine lv_iconst (v := (0 : Int32)) (pc := 53) hx hb dX7_reckon_53 (by decide) ?_
      refine lv_istore (lv' := [(4, .int (0 : Int32)), (0, .ref a_o), (2, .int p2), (3, .int v9)]) (pc := 54) hx hb dX7_reckon_54 hl (by decide) rfl (fun ls hl => ?_)
      obtain ⟨g21, v19, a20, hj, hf⟩ := zc_3 hf
      refine zj_join (pcJ := 123) (stk := []) (X := fun H locs ls => lv_has ls 6 [(0, .ref a_o), (2, .int p2), (3, .int v9)] ∧ va_P (dC, dI) zz_cls [zo_X7 a_o a_c a_can p1, zo_X0 a_c f_c_top f_c_things a_c_bars a_c_gives a_c_rough f_c_startRung f_c_startThings f_c_startStrength f_c_startWind f_c_slips f_c_lines a_c_code f_c_coded f_c_tiresFrom f_c_tiresTo f_c_mayFrom f_c_mayTo, (a_c_bars, .inl (dA 0, 9, .inl b_c_bars)), (a_c_gives, .inl (dA 0, 9, .inl b_c_gives)), (a_can, .inl (dA 0, 2880, .inl a20))] H ∧ va_D A [zo_X7 a_o a_c a_can p1, zo_X0 a_c f_c_top f_c_things a_c_bars a_c_gives a_c_rough f_c_startRung f_c_startThings f_c_startStrength f_c_startWind f_c_slips f_c_lines a_c_code f_c_coded f_c_tiresFrom f_c_tiresTo f_c_mayFrom f_c_mayTo, (a_c_bars, .inl (dA 0, 9, .inl b_c_bars)), (a_c_gives, .inl (dA 0, 9, .inl b_c_gives)), (a_can, .inl (dA 0, 2880, .inl a20))] ∧ va_S A s.heap H locs) (fun H locs ls hX => ?_) (fun E123 => ?_)
      · obtain ⟨hl, hP, hD, hS⟩ := hX
        clear hj
        obtain ⟨v22, hv22, hf⟩ := zc_1 hf
        refine lv_iinc (v := v22) (lv' := [(3, .int v22), (0, .ref a_o), (2, .int p2)]) (k := 2) (pc := 123) hx hb dX7_reckon_123 hl rfl (Option.some.inj hv22) (by decide) rfl (fun ls hl => ?_)
        refine lv_goto (tgt := 49) (pc := 126) hx hb dX7_reckon_126 rfl ?_
        obtain rfl := Option.some.inj hf
        exact ih rfl _ _ _ ⟨lv_sub hl [1, 2, 0] rfl, hP, hD, hS⟩
      clear hf
      refine zw_loop (pcH := 56) (X := fun v H locs ls => lv_has ls 6 [(0, .ref a_o), (2, .int p2), (3, .int v9), (4, .int v.1)] ∧ va_P (dC, dI) zz_cls [zo_X7 a_o a_c a_can p1, zo_X0 a_c f_c_top f_c_things a_c_bars a_c_gives a_c_rough f_c_startRung f_c_startThings f_c_startStrength f_c_startWind f_c_slips f_c_lines a_c_code f_c_coded f_c_tiresFrom f_c_tiresTo f_c_mayFrom f_c_mayTo, (a_c_bars, .inl (dA 0, 9, .inl b_c_bars)), (a_c_gives, .inl (dA 0, 9, .inl b_c_gives)), (a_can, .inl (dA 0, 2880, .inl v.2))] H ∧ va_D A [zo_X7 a_o a_c a_can p1, zo_X0 a_c f_c_top f_c_things a_c_bars a_c_gives a_c_rough f_c_startRung f_c_startThings f_c_startStrength f_c_startWind f_c_slips f_c_lines a_c_code f_c_coded f_c_tiresFrom f_c_tiresTo f_c_mayFrom f_c_mayTo, (a_c_bars, .inl (dA 0, 9, .inl b_c_bars)), (a_c_gives, .inl (dA 0, 9, .inl b_c_gives)), (a_can, .inl (dA 0, 2880, .inl v.2))] ∧ va_S A s.heap H locs) hj (fun v w hf ih ex H locs ls hX => ?_) _ _ _ ⟨lv_sub hl [1, 2, 3, 0] rfl, hP, hD, hS⟩
      clear hj
      obtain ⟨v11, a12⟩ := v
      obtain ⟨hl, hP, hD, hS⟩ := hX
      have hl : lv_has ls 6 [(0, .ref a_o), (2, .int p2), (3, .int v9), (4, .int v11)] := hl
      have hP : va_P (dC, dI) zz_cls [zo_X7 a_o a_c a_can p1, zo_X0 a_c f_c_top f_c_things a_c_bars a_c_gives a_c_rough f_c_startRung f_c_startThings f_c_startStrength f_c_startWind f_c_slips f_c_lines a_c_code f_c_coded f_c_tiresFrom f_c_tiresTo f_c_mayFrom f_c_mayTo, (a_c_bars, .inl (dA 0, 9, .inl b_c_bars)), (a_c_gives, .inl (dA 0, 9, .inl b_c_gives)), (a_can, .inl (dA 0, 2880, .inl a12))] H := hP
      have hD : va_D A [zo_X7 a_o a_c a_can p1, zo_X0 a_c f_c_top f_c_things a_c_bars a_c_gives a_c_rough f_c_startRung f_c_startThings f_c_startStrength f_c_startWind f_c_slips f_c_lines a_c_code f_c_coded f_c_tiresFrom f_c_tiresTo f_c_mayFrom f_c_mayTo, (a_c_bars, .inl (dA 0, 9, .inl b_c_bars)), (a_c_gives, .inl (dA 0, 9, .inl b_c_gives)), (a_can, .inl (dA 0, 2880, .inl a12))] := hD
      replace hf : zb_X7_reckon_56 p1 p2 v9 n b_c_bars b_c_gives v11 a12 = some w := hf
      unfold zb_X7_reckon_56 at hf
      refine lv_iload (pc := 56) hx hb dX7_reckon_56 (lv_at hl 3 rfl) ?_
      refine lv_iconst (v := (1 : Int32)) (pc := 58) hx hb dX7_reckon_58 (by decide) ?_
      refine lv_aload_n (pc := 59) hx hb dX7_reckon_59 rfl (lv_at hl 0 rfl) ?_
      refine va_get (pc := 60) (D := (dC, dI)) (ci := 8) (v := .int p1) (C := RX7) (T := TX7) (N := 3) hx hb ht zq_layX7 hown hK hP 0 rfl rfl 2 (by decide) (ht _ zq_500) (fun _ h9 => h9) rfl dX7_reckon_60 ?_
      refine lv_ishl (pc := 63) hx hb dX7_reckon_63 ?_
      refine lv_icmp_ge (tgt := 123) (pc := 64) hx hb dX7_reckon_64 rfl (fun hc => ?_) (fun hc => ?_)
      · have hf := za_t hf hc
        obtain rfl := Option.some.inj hf
        obtain ⟨rfl, rfl, rfl⟩ := zp_3 (ex (show ¬ (1 : Nat) = 0 by decide))
        exact E123 _ _ _ ⟨lv_sub hl [0, 1, 2] rfl, hP, hD, hS⟩
      · have hf := za_f hf hc
        refine lv_iload_n (pc := 67) hx hb dX7_reckon_67 rfl (lv_at hl 1 rfl) ?_
        refine lv_iload_n (pc := 68) hx hb dX7_reckon_68 rfl (lv_at hl 2 rfl) ?_
        refine lv_ishr (pc := 69) hx hb dX7_reckon_69 ?_
        refine lv_iconst (v := (1 : Int32)) (pc := 70) hx hb dX7_reckon_70 (by decide) ?_
        refine lv_iand (pc := 71) hx hb dX7_reckon_71 ?_
        obtain ⟨v13, hj, hf⟩ := zc_1 hf
        refine zj_join (pcJ := 80) (stk := [.int v13]) (X := fun H locs ls => lv_has ls 6 [(0, .ref a_o), (2, .int p2), (3, .int v9), (4, .int v11)] ∧ va_P (dC, dI) zz_cls [zo_X7 a_o a_c a_can p1, zo_X0 a_c f_c_top f_c_things a_c_bars a_c_gives a_c_rough f_c_startRung f_c_startThings f_c_startStrength f_c_startWind f_c_slips f_c_lines a_c_code f_c_coded f_c_tiresFrom f_c_tiresTo f_c_mayFrom f_c_mayTo, (a_c_bars, .inl (dA 0, 9, .inl b_c_bars)), (a_c_gives, .inl (dA 0, 9, .inl b_c_gives)), (a_can, .inl (dA 0, 2880, .inl a12))] H ∧ va_D A [zo_X7 a_o a_c a_can p1, zo_X0 a_c f_c_top f_c_things a_c_bars a_c_gives a_c_rough f_c_startRung f_c_startThings f_c_startStrength f_c_startWind f_c_slips f_c_lines a_c_code f_c_coded f_c_tiresFrom f_c_tiresTo f_c_mayFrom f_c_mayTo, (a_c_bars, .inl (dA 0, 9, .inl b_c_bars)), (a_c_gives, .inl (dA 0, 9, .inl b_c_gives)), (a_can, .inl (dA 0, 2880, .inl a12))] ∧ va_S A s.heap H locs) (fun H locs ls hX => ?_) (fun J80 => ?_)
        · obtain ⟨hl, hP, hD, hS⟩ := hX
          clear hj
          refine lv_istore (lv' := [(5, .int v13), (0, .ref a_o), (2, .int p2), (3, .int v9), (4, .int v11)]) (pc := 80) hx hb dX7_reckon_80 hl (by decide) rfl (fun ls hl => ?_)
          refine lv_aload_n (pc := 82) hx hb dX7_reckon_82 rfl (lv_at hl 1 rfl) ?_
          refine va_get (pc := 83) (D := (dC, dI)) (ci := 8) (v := .ref a_can) (C := RX7) (T := TX7) (N := 3) hx hb ht zq_layX7 hown hK hP 0 rfl rfl 1 (by decide) (ht _ zq_502) (fun _ h9 => h9) rfl dX7_reckon_83 ?_
          refine lv_iload_n (pc := 86) hx hb dX7_reckon_86 rfl (lv_at hl 3 rfl) ?_
          refine lv_sipush (v := (256 : Int32)) (pc := 87) hx hb dX7_reckon_87 (by decide) ?_
          refine lv_imul (pc := 90) hx hb dX7_reckon_90 ?_
          refine lv_iload (pc := 91) hx hb dX7_reckon_91 (lv_at hl 4 rfl) ?_
          refine lv_iadd (pc := 93) hx hb dX7_reckon_93 ?_
          refine lv_iload (pc := 94) hx hb dX7_reckon_94 (lv_at hl 0 rfl) ?_
          obtain ⟨v16, hj, hf⟩ := zc_1 hf
          refine zj_join (pcJ := 116) (stk := [.int v16, .int ((v9 * (256 : Int32)) + v11), .ref a_can]) (X := fun H locs ls => lv_has ls 6 [(0, .ref a_o), (2, .int p2), (3, .int v9), (4, .int v11)] ∧ va_P (dC, dI) zz_cls [zo_X7 a_o a_c a_can p1, zo_X0 a_c f_c_top f_c_things a_c_bars a_c_gives a_c_rough f_c_startRung f_c_startThings f_c_startStrength f_c_startWind f_c_slips f_c_lines a_c_code f_c_coded f_c_tiresFrom f_c_tiresTo f_c_mayFrom f_c_mayTo, (a_c_bars, .inl (dA 0, 9, .inl b_c_bars)), (a_c_gives, .inl (dA 0, 9, .inl b_c_gives)), (a_can, .inl (dA 0, 2880, .inl a12))] H ∧ va_D A [zo_X7 a_o a_c a_can p1, zo_X0 a_c f_c_top f_c_things a_c_bars a_c_gives a_c_rough f_c_startRung f_c_startThings f_c_startStrength f_c_startWind f_c_slips f_c_lines a_c_code f_c_coded f_c_tiresFrom f_c_tiresTo f_c_mayFrom f_c_mayTo, (a_c_bars, .inl (dA 0, 9, .inl b_c_bars)), (a_c_gives, .inl (dA 0, 9, .inl b_c_gives)), (a_can, .inl (dA 0, 2880, .inl a12))] ∧ va_S A s.heap H locs) (fun H locs ls hX => ?_) (fun J116 => ?_)
          · obtain ⟨hl, hP, hD, hS⟩ := hX
            clear hj
            obtain ⟨a17, ha17, hf⟩ := zc_1 hf
            refine zw_iast (pc := 116) hx hb hK hP hD hS 4 0 rfl rfl ha17 dX7_reckon_116 (fun H locs hP hD hS => ?_)
            have hP : va_P (dC, dI) zz_cls [zo_X7 a_o a_c a_can p1, zo_X0 a_c f_c_top f_c_things a_c_bars a_c_gives a_c_rough f_c_startRung f_c_startThings f_c_startStrength f_c_startWind f_c_slips f_c_lines a_c_code f_c_coded f_c_tiresFrom f_c_tiresTo f_c_mayFrom f_c_mayTo, (a_c_bars, .inl (dA 0, 9, .inl b_c_bars)), (a_c_gives, .inl (dA 0, 9, .inl b_c_gives)), (a_can, .inl (dA 0, 2880, .inl a17))] H := hP
            have hD : va_D A [zo_X7 a_o a_c a_can p1, zo_X0 a_c f_c_top f_c_things a_c_bars a_c_gives a_c_rough f_c_startRung f_c_startThings f_c_startStrength f_c_startWind f_c_slips f_c_lines a_c_code f_c_coded f_c_tiresFrom f_c_tiresTo f_c_mayFrom f_c_mayTo, (a_c_bars, .inl (dA 0, 9, .inl b_c_bars)), (a_c_gives, .inl (dA 0, 9, .inl b_c_gives)), (a_can, .inl (dA 0, 2880, .inl a17))] := hD
            obtain ⟨v18, hv18, hf⟩ := zc_1 hf
            refine lv_iinc (v := v18) (lv' := [(4, .int v18), (0, .ref a_o), (2, .int p2), (3, .int v9)]) (k := 3) (pc := 117) hx hb dX7_reckon_117 hl rfl (Option.some.inj hv18) (by decide) rfl (fun ls hl => ?_)
            refine lv_goto (tgt := 56) (pc := 120) hx hb dX7_reckon_120 rfl ?_
            obtain rfl := Option.some.inj hf
            exact ih rfl _ _ _ ⟨lv_sub hl [1, 2, 3, 0] rfl, hP, hD, hS⟩
          · clear hf
            have hf := hj
            clear hj
            refine lv_if_eq (tgt := 109) (pc := 96) hx hb dX7_reckon_96 rfl (fun hc => ?_) (fun hc => ?_)
            · have hf := za_t hf hc
              refine lv_aload_n (pc := 109) hx hb dX7_reckon_109 rfl (lv_at hl 1 rfl) ?_
              refine lv_iload_n (pc := 110) hx hb dX7_reckon_110 rfl (lv_at hl 3 rfl) ?_
              refine lv_iload (pc := 111) hx hb dX7_reckon_111 (lv_at hl 4 rfl) ?_
              obtain ⟨v14, hv14, hf⟩ := zc_1 hf
              refine zx_Vi (pc := 113) (wc := [zo_X7 a_o a_c a_can p1, (a_can, .inl (dA 0, 2880, .inl a12))]) (wr := [zo_X0 a_c f_c_top f_c_things a_c_bars a_c_gives a_c_rough f_c_startRung f_c_startThings f_c_startStrength f_c_startWind f_c_slips f_c_lines a_c_code f_c_coded f_c_tiresFrom f_c_tiresTo f_c_mayFrom f_c_mayTo, (a_c_bars, .inl (dA 0, 9, .inl b_c_bars)), (a_c_gives, .inl (dA 0, 9, .inl b_c_gives))]) (w1 := [zo_X7 a_o a_c a_can p1, (a_can, .inl (dA 0, 2880, .inl a12))]) (As := [.int v9, .int v11]) (rest := [.int ((v9 * (256 : Int32)) + v11), .ref a_can]) ⟨hx, hb, hml, hown, ht⟩ (zt_X7_behind l dC dI dA adK adV _ a_o a_c a_can p1 a12 v9 v11 v14 hv14) (cwV 2 ht (zq_V zq_510 zq_511 zq_512 zq_513 zq_503) rfl rfl rfl zk_X7_behind ⟨Nat.le_of_ble_eq_true rfl, Nat.le_of_ble_eq_true rfl⟩) rfl rfl hZ hK hP hD hS hA [0, 4] [1, 2, 3] (by decide) (by decide) (by decide) rfl rfl rfl hl.1 (Nat.le_of_ble_eq_true rfl) dX7_reckon_113 ⟨Nat.zero_le _, Nat.zero_le _⟩ rfl (fun H locs hP hD hS => ?_)
              have hP : va_P (dC, dI) zz_cls [zo_X0 a_c f_c_top f_c_things a_c_bars a_c_gives a_c_rough f_c_startRung f_c_startThings f_c_startStrength f_c_startWind f_c_slips f_c_lines a_c_code f_c_coded f_c_tiresFrom f_c_tiresTo f_c_mayFrom f_c_mayTo, (a_c_bars, .inl (dA 0, 9, .inl b_c_bars)), (a_c_gives, .inl (dA 0, 9, .inl b_c_gives)), zo_X7 a_o a_c a_can p1, (a_can, .inl (dA 0, 2880, .inl a12))] H := hP
              have hD : va_D A [zo_X0 a_c f_c_top f_c_things a_c_bars a_c_gives a_c_rough f_c_startRung f_c_startThings f_c_startStrength f_c_startWind f_c_slips f_c_lines a_c_code f_c_coded f_c_tiresFrom f_c_tiresTo f_c_mayFrom f_c_mayTo, (a_c_bars, .inl (dA 0, 9, .inl b_c_bars)), (a_c_gives, .inl (dA 0, 9, .inl b_c_gives)), zo_X7 a_o a_c a_can p1, (a_can, .inl (dA 0, 2880, .inl a12))] := hD
              obtain rfl := Option.some.inj hf
              exact J116 _ _ _ ⟨lv_sub hl [1, 2, 3, 4] rfl, hP.sub [3, 0, 1, 2, 4] rfl, hD.sub [3, 0, 1, 2, 4] (by decide) rfl, hS⟩
            · have hf := za_f hf hc
              refine lv_aload_n (pc := 99) hx hb dX7_reckon_99 rfl (lv_at hl 1 rfl) ?_
              refine lv_iload_n (pc := 100) hx hb dX7_reckon_100 rfl (lv_at hl 3 rfl) ?_
              refine lv_iload (pc := 101) hx hb dX7_reckon_101 (lv_at hl 4 rfl) ?_
              obtain ⟨v15, hv15, hf⟩ := zc_1 hf
              refine zx_Vi (pc := 103) (wc := [zo_X7 a_o a_c a_can p1, zo_X0 a_c f_c_top f_c_things a_c_bars a_c_gives a_c_rough f_c_startRung f_c_startThings f_c_startStrength f_c_startWind f_c_slips f_c_lines a_c_code f_c_coded f_c_tiresFrom f_c_tiresTo f_c_mayFrom f_c_mayTo, (a_c_bars, .inl (dA 0, 9, .inl b_c_bars)), (a_c_gives, .inl (dA 0, 9, .inl b_c_gives)), (a_can, .inl (dA 0, 2880, .inl a12))]) (wr := []) (w1 := [zo_X7 a_o a_c a_can p1, zo_X0 a_c f_c_top f_c_things a_c_bars a_c_gives a_c_rough f_c_startRung f_c_startThings f_c_startStrength f_c_startWind f_c_slips f_c_lines a_c_code f_c_coded f_c_tiresFrom f_c_tiresTo f_c_mayFrom f_c_mayTo, (a_c_bars, .inl (dA 0, 9, .inl b_c_bars)), (a_c_gives, .inl (dA 0, 9, .inl b_c_gives)), (a_can, .inl (dA 0, 2880, .inl a12))]) (As := [.int v9, .int v11]) (rest := [.int ((v9 * (256 : Int32)) + v11), .ref a_can]) ⟨hx, hb, hml, hown, ht⟩ (zt_X7_withThing l dC dI dA adK adV _ a_o a_c a_can a_c_bars a_c_gives a_c_rough a_c_code n p1 f_c_top f_c_things f_c_startRung f_c_startThings f_c_startStrength f_c_startWind f_c_slips f_c_lines f_c_coded f_c_tiresFrom f_c_tiresTo f_c_mayFrom f_c_mayTo b_c_bars b_c_gives a12 v9 v11 v15 hv15) (cwV 2 ht (zq_V zq_518 zq_519 zq_520 zq_513 zq_508) rfl rfl rfl zk_X7_withThing ⟨Nat.le_of_ble_eq_true rfl, Nat.le_of_ble_eq_true rfl⟩) rfl rfl hZ hK hP hD hS hA [0, 1, 2, 3, 4] [] (by decide) (by decide) (by decide) rfl rfl rfl hl.1 (Nat.le_of_ble_eq_true rfl) dX7_reckon_103 ⟨Nat.zero_le _, Nat.zero_le _⟩ rfl (fun H locs hP hD hS => ?_)
              have hP : va_P (dC, dI) zz_cls [zo_X7 a_o a_c a_can p1, zo_X0 a_c f_c_top f_c_things a_c_bars a_c_gives a_c_rough f_c_startRung f_c_startThings f_c_startStrength f_c_startWind f_c_slips f_c_lines a_c_code f_c_coded f_c_tiresFrom f_c_tiresTo f_c_mayFrom f_c_mayTo, (a_c_bars, .inl (dA 0, 9, .inl b_c_bars)), (a_c_gives, .inl (dA 0, 9, .inl b_c_gives)), (a_can, .inl (dA 0, 2880, .inl a12))] H := hP
              have hD : va_D A [zo_X7 a_o a_c a_can p1, zo_X0 a_c f_c_top f_c_things a_c_bars a_c_gives a_c_rough f_c_startRung f_c_startThings f_c_startStrength f_c_startWind f_c_slips f_c_lines a_c_code f_c_coded f_c_tiresFrom f_c_tiresTo f_c_mayFrom f_c_mayTo, (a_c_bars, .inl (dA 0, 9, .inl b_c_bars)), (a_c_gives, .inl (dA 0, 9, .inl b_c_gives)), (a_can, .inl (dA 0, 2880, .inl a12))] := hD
              refine lv_goto (tgt := 116) (pc := 106) hx hb dX7_reckon_106 rfl ?_
              obtain rfl := Option.some.inj hf
              exact J116 _ _ _ ⟨lv_sub hl [1, 2, 3, 4] rfl, hP, hD, hS⟩
        · clear hf
          have hf := hj
          clear hj
          refine lv_if_eq (tgt := 79) (pc := 72) hx hb dX7_reckon_72 rfl (fun hc => ?_) (fun hc => ?_)
          · have hf := za_t hf hc
            refine lv_iconst (v := (0 : Int32)) (pc := 79) hx hb dX7_reckon_79 (by decide) ?_
            obtain rfl := Option.some.inj hf
            exact J80 _ _ _ ⟨lv_sub hl [0, 1, 2, 3] rfl, hP, hD, hS⟩
          · have hf := za_f hf hc
            refine lv_iconst (v := (1 : Int32)) (pc := 75) hx hb dX7_reckon_75 (by decide) ?_
            refine lv_goto (tgt := 80) (pc := 76) hx hb dX7_reckon_76 rfl ?_
            obtain rfl := Option.some.inj hf
            exact J80 _ _ _ ⟨lv_sub hl [0, 1, 2, 3] rfl, hP, hD, hS⟩
  clear hf
  refine zw_loop (pcH := 7) (X := fun v H locs ls => lv_has ls 6 [(0, .ref a_o), (2, .int p2), (3, .int v.1)] ∧ va_P (dC, dI) zz_cls [zo_X7 a_o a_c a_can p1, zo_X0 a_c f_c_top f_c_things a_c_bars a_c_gives a_c_rough f_c_startRung f_c_startThings f_c_startStrength f_c_startWind f_c_slips f_c_lines a_c_code f_c_coded f_c_tiresFrom f_c_tiresTo f_c_mayFrom f_c_mayTo, (a_c_bars, .inl (dA 0, 9, .inl b_c_bars)), (a_c_gives, .inl (dA 0, 9, .inl b_c_gives)), (a_can, .inl (dA 0, 2880, .inl v.2))] H ∧ va_D A [zo_X7 a_o a_c a_can p1, zo_X0 a_c f_c_top f_c_things a_c_bars a_c_gives a_c_rough f_c_startRung f_c_startThings f_c_startStrength f_c_startWind f_c_slips f_c_lines a_c_code f_c_coded f_c_tiresFrom f_c_tiresTo f_c_mayFrom f_c_mayTo, (a_c_bars, .inl (dA 0, 9, .inl b_c_bars)), (a_c_gives, .inl (dA 0, 9, .inl b_c_gives)), (a_can, .inl (dA 0, 2880, .inl v.2))] ∧ va_S A s.heap H locs) hj (fun v w hf ih ex H locs ls hX => ?_) _ _ _ ⟨lv_sub hl [1, 3, 0] rfl, hP, hD, hS⟩
  clear hj
  obtain ⟨v1, a2⟩ := v
  obtain ⟨hl, hP, hD, hS⟩ := hX
  have hl : lv_has ls 6 [(0, .ref a_o), (2, .int p2), (3, .int v1)] := hl
  have hP : va_P (dC, dI) zz_cls [zo_X7 a_o a_c a_can p1, zo_X0 a_c f_c_top f_c_things a_c_bars a_c_gives a_c_rough f_c_startRung f_c_startThings f_c_startStrength f_c_startWind f_c_slips f_c_lines a_c_code f_c_coded f_c_tiresFrom f_c_tiresTo f_c_mayFrom f_c_mayTo, (a_c_bars, .inl (dA 0, 9, .inl b_c_bars)), (a_c_gives, .inl (dA 0, 9, .inl b_c_gives)), (a_can, .inl (dA 0, 2880, .inl a2))] H := hP
  have hD : va_D A [zo_X7 a_o a_c a_can p1, zo_X0 a_c f_c_top f_c_things a_c_bars a_c_gives a_c_rough f_c_startRung f_c_startThings f_c_startStrength f_c_startWind f_c_slips f_c_lines a_c_code f_c_coded f_c_tiresFrom f_c_tiresTo f_c_mayFrom f_c_mayTo, (a_c_bars, .inl (dA 0, 9, .inl b_c_bars)), (a_c_gives, .inl (dA 0, 9, .inl b_c_gives)), (a_can, .inl (dA 0, 2880, .inl a2))] := hD
  replace hf : zb_X7_reckon_7 f_c_things v1 a2 = some w := hf
  unfold zb_X7_reckon_7 at hf
  refine lv_iload_n (pc := 7) hx hb dX7_reckon_7 rfl (lv_at hl 2 rfl) ?_
  refine lv_sipush (v := (256 : Int32)) (pc := 8) hx hb dX7_reckon_8 (by decide) ?_
  refine lv_icmp_ge (tgt := 39) (pc := 11) hx hb dX7_reckon_11 rfl (fun hc => ?_) (fun hc => ?_)
  · have hf := za_t hf hc
    obtain rfl := Option.some.inj hf
    obtain ⟨rfl, rfl, rfl⟩ := zp_3 (ex (show ¬ (1 : Nat) = 0 by decide))
    exact E39 _ _ _ ⟨lv_sub hl [0, 1] rfl, hP, hD, hS⟩
  · have hf := za_f hf hc
    refine lv_aload_n (pc := 14) hx hb dX7_reckon_14 rfl (lv_at hl 0 rfl) ?_
    refine va_get (pc := 15) (D := (dC, dI)) (ci := 8) (v := .ref a_can) (C := RX7) (T := TX7) (N := 3) hx hb ht zq_layX7 hown hK hP 0 rfl rfl 1 (by decide) (ht _ zq_502) (fun _ h9 => h9) rfl dX7_reckon_15 ?_
    refine lv_aload_n (pc := 18) hx hb dX7_reckon_18 rfl (lv_at hl 0 rfl) ?_
    refine va_get (pc := 19) (D := (dC, dI)) (ci := 8) (v := .ref a_c) (C := RX7) (T := TX7) (N := 3) hx hb ht zq_layX7 hown hK hP 0 rfl rfl 0 (by decide) (ht _ zq_501) (fun _ h9 => h9) rfl dX7_reckon_19 ?_
    refine va_get (pc := 22) (D := (dC, dI)) (ci := 1) (v := .int f_c_things) (C := RX0) (T := TX0) (N := 17) hx hb ht zq_layX0 hown hK hP 1 rfl rfl 1 (by decide) (ht _ zq_517) (fun _ h9 => h9) rfl dX7_reckon_22 ?_
    refine lv_sipush (v := (256 : Int32)) (pc := 25) hx hb dX7_reckon_25 (by decide) ?_
    refine lv_imul (pc := 28) hx hb dX7_reckon_28 ?_
    refine lv_iload_n (pc := 29) hx hb dX7_reckon_29 rfl (lv_at hl 2 rfl) ?_
    refine lv_iadd (pc := 30) hx hb dX7_reckon_30 ?_
    refine lv_iconst (v := (0 : Int32)) (pc := 31) hx hb dX7_reckon_31 (by decide) ?_
    obtain ⟨a3, ha3, hf⟩ := zc_1 hf
    refine zw_iast (pc := 32) hx hb hK hP hD hS 4 0 rfl rfl ha3 dX7_reckon_32 (fun H locs hP hD hS => ?_)
    have hP : va_P (dC, dI) zz_cls [zo_X7 a_o a_c a_can p1, zo_X0 a_c f_c_top f_c_things a_c_bars a_c_gives a_c_rough f_c_startRung f_c_startThings f_c_startStrength f_c_startWind f_c_slips f_c_lines a_c_code f_c_coded f_c_tiresFrom f_c_tiresTo f_c_mayFrom f_c_mayTo, (a_c_bars, .inl (dA 0, 9, .inl b_c_bars)), (a_c_gives, .inl (dA 0, 9, .inl b_c_gives)), (a_can, .inl (dA 0, 2880, .inl a3))] H := hP
    have hD : va_D A [zo_X7 a_o a_c a_can p1, zo_X0 a_c f_c_top f_c_things a_c_bars a_c_gives a_c_rough f_c_startRung f_c_startThings f_c_startStrength f_c_startWind f_c_slips f_c_lines a_c_code f_c_coded f_c_tiresFrom f_c_tiresTo f_c_mayFrom f_c_mayTo, (a_c_bars, .inl (dA 0, 9, .inl b_c_bars)), (a_c_gives, .inl (dA 0, 9, .inl b_c_gives)), (a_can, .inl (dA 0, 2880, .inl a3))] := hD
    obtain ⟨v4, hv4, hf⟩ := zc_1 hf
    refine lv_iinc (v := v4) (lv' := [(3, .int v4), (0, .ref a_o), (2, .int p2)]) (k := 2) (pc := 33) hx hb dX7_reckon_33 hl rfl (Option.some.inj hv4) (by decide) rfl (fun ls hl => ?_)
    refine lv_goto (tgt := 7) (pc := 36) hx hb dX7_reckon_36 rfl ?_
    obtain rfl := Option.some.inj hf
    exact ih rfl _ _ _ ⟨lv_sub hl [1, 2, 0] rfl, hP, hD, hS⟩

def zf_X7_landed (b_can : (Nat → Int32)) : Option (Int32) :=
  zd_1 (za_ld b_can 2880 (0 : Int32)) (fun v1 =>
  some v1)
theorem zk_X7_landed : yX7_landed.cls = RX7 ∧ yX7_landed.cls ≠ "java/lang/invoke/MethodHandle" ∧ yX7_landed.cls ≠ "java/lang/invoke/VarHandle" ∧ (parseMethodDescriptor yX7_landed.desc).map (fun d => d.parameters.length) = some 0 := by decide +kernel
set_option maxHeartbeats 4000000 in
set_option maxRecDepth 100000 in
theorem zt_X7_landed (l : Launch) (dC : Nat → ClassId) (dI : Nat → Nat → Nat) (dA : Nat → ClassId) (adK adV : Nat → Nat) (sz : Nat) (a_o : Nat) (a_c : Nat) (a_can : Nat) (f_o_rungs : Int32) (b_can : (Nat → Int32)) (r0 : Int32) (hf : zf_X7_landed b_can = some r0) : Met l yX7_landed (.code yX7_landed cX7_landed 1 (some .int) :: zq_T) ({ frames := 0, cells := 0, slots := 0, locals := 0 }) (va_Pc [.ref a_o] (zx_M dC dI dA adK adV [zo_X7 a_o a_c a_can f_o_rungs, (a_can, .inl (dA 0, 2880, .inl b_can))] sz)) (va_Qi (fun (r : Int32) (_ : Unit) => r = r0) (fun _ t => zz_B dC dI dA (va_A [zo_X7 a_o a_c a_can f_o_rungs, (a_can, .inl (dA 0, 2880, .inl b_can))] sz) [zo_X7 a_o a_c a_can f_o_rungs, (a_can, .inl (dA 0, 2880, .inl b_can))] t) (va_A [zo_X7 a_o a_c a_can f_o_rungs, (a_can, .inl (dA 0, 2880, .inl b_can))] sz)) 0 0 (va_A [zo_X7 a_o a_c a_can f_o_rungs, (a_can, .inl (dA 0, 2880, .inl b_can))] sz) := by
  unfold zf_X7_landed at hf
  refine Met.ofW (cc := cX7_landed) (maxL := 1) (ret := (some .int)) (by decide) rfl ?_
  intro p e s m args below meth c s₁ B hml hv
  obtain ⟨rfl, ⟨hsz, hP, hK, hD0⟩, hZ⟩ := hv
  have hx := B.exec
  have hb := B.bytes
  have hr := B.returns
  have ht : ∀ w ∈ zq_T, w.before ([.ref a_o] : List Value).toArray s = true := fun w hw => atoms_spec (ws := .code yX7_landed cX7_landed 1 (some .int) :: zq_T) B.pre w (List.mem_cons_of_mem _ hw)
  have hown : s.vm.findClass RX7 = some m.cls := findClass_of_methodNamed B.named
  have hlocks := B.notSynchronized
  subst hsz
  have hD := hD0.self (sz := s.heap.size)
  generalize hAe : va_A [zo_X7 a_o a_c a_can f_o_rungs, (a_can, .inl (dA 0, 2880, .inl b_can))] s.heap.size = A at hD hZ ⊢
  have hA : ∀ q : Nat, s.heap.size ≤ q → A q := fun q h => by rw [← hAe]; exact Or.inr h
  clear hAe hD0
  have hS : va_S A s.heap s.heap [] := va_S.rf
  have hl := lv_entry ([.ref a_o]) (n := 1) (Nat.le_of_ble_eq_true rfl)
  rw [lg_entry_eq]
  generalize (lg_sl ([.ref a_o]) ++ List.replicate (1 - (lg_sl ([.ref a_o])).length) Slot.unset).toArray = ls at hl ⊢
  have hl : lv_has ls 1 [(0, .ref a_o)] := hl
  refine lv_aload_n (pc := 0) hx hb dX7_landed_0 rfl (lv_at hl 0 rfl) ?_
  refine va_get (pc := 1) (D := (dC, dI)) (ci := 8) (v := .ref a_can) (C := RX7) (T := TX7) (N := 3) hx hb ht zq_layX7 hown hK hP 0 rfl rfl 1 (by decide) (ht _ zq_502) (fun _ h9 => h9) rfl dX7_landed_1 ?_
  refine lv_iconst (v := (0 : Int32)) (pc := 4) hx hb dX7_landed_4 (by decide) ?_
  obtain ⟨v1, hv1, hf⟩ := zc_1 hf
  refine zw_iald (pc := 5) hx hb hK hP 1 0 rfl rfl hv1 dX7_landed_5 ?_
  obtain rfl := Option.some.inj hf
  exact W.iret (pc := 6) hx hb hr (fun t ht hW => ⟨⟨_, (), rfl, rfl, zz_Bi (by rw [ht]; exact hP) (va_K.moved hW.alike hK) (hD)⟩, hS.F ht⟩) hS.2.2 dX7_landed_6

def zb_X7_firstRung_2 (f_o_rungs : Int32) (b_c_bars : (Nat → Int32)) (b_c_gives : (Nat → Int32)) (p1 : Int32) (p2 : Int32) (b_can : (Nat → Int32)) (v1 : Int32) : Option (Nat × Int32) :=
  if f_o_rungs ≤ v1 then
    some (2, v1)
  else
    zd_1 (zf_X7_isFree b_c_bars b_c_gives v1 p1 p2) (fun v2 =>
    if v2 = 0 then
      zd_1 (some (v1 + (1 : Int32))) (fun v3 =>
      some (0, v3))
    else
      zd_1 (zf_X7_behind b_can p1 (p2 ||| ((1 : Int32) <<< (v1 &&& 31)))) (fun v4 =>
      zd_1 (za_ld b_can 2880 ((p1 * (256 : Int32)) + p2)) (fun v5 =>
      if ((1 : Int32) + v4) = v5 then
        some (1, v1)
      else
        zd_1 (some (v1 + (1 : Int32))) (fun v6 =>
        some (0, v6)))))
def zf_X7_firstRung (n : Nat) (f_o_rungs : Int32) (b_c_bars : (Nat → Int32)) (b_c_gives : (Nat → Int32)) (b_can : (Nat → Int32)) (p1 : Int32) (p2 : Int32) : Option (Int32) :=
  zd_2 (za_it (fun v => zb_X7_firstRung_2 f_o_rungs b_c_bars b_c_gives p1 p2 b_can v) n (0 : Int32)) (fun g8 v7 =>
  if g8 = 1 then
    some v7
  else if g8 = 2 then
    some (-1 : Int32)
  else none)
theorem zk_X7_firstRung : yX7_firstRung.cls = RX7 ∧ yX7_firstRung.cls ≠ "java/lang/invoke/MethodHandle" ∧ yX7_firstRung.cls ≠ "java/lang/invoke/VarHandle" ∧ (parseMethodDescriptor yX7_firstRung.desc).map (fun d => d.parameters.length) = some 2 := by decide +kernel
set_option maxHeartbeats 4000000 in
set_option maxRecDepth 100000 in
theorem zt_X7_firstRung (l : Launch) (dC : Nat → ClassId) (dI : Nat → Nat → Nat) (dA : Nat → ClassId) (adK adV : Nat → Nat) (sz : Nat) (a_o : Nat) (a_c : Nat) (a_can : Nat) (a_c_bars : Nat) (a_c_gives : Nat) (a_c_rough : Nat) (a_c_code : Nat) (n : Nat) (f_o_rungs : Int32) (f_c_top : Int32) (f_c_things : Int32) (f_c_startRung : Int32) (f_c_startThings : Int32) (f_c_startStrength : Int32) (f_c_startWind : Int32) (f_c_slips : Int32) (f_c_lines : Int32) (f_c_coded : Int32) (f_c_tiresFrom : Int32) (f_c_tiresTo : Int32) (f_c_mayFrom : Int32) (f_c_mayTo : Int32) (b_c_bars : (Nat → Int32)) (b_c_gives : (Nat → Int32)) (b_can : (Nat → Int32)) (p1 : Int32) (p2 : Int32) (r0 : Int32) (hf : zf_X7_firstRung n f_o_rungs b_c_bars b_c_gives b_can p1 p2 = some r0) : Met l yX7_firstRung (.code yX7_firstRung cX7_firstRung 5 (some .int) :: zq_T) ({ frames := 2, cells := 0, slots := 0, locals := 45 }) (va_Pc [.ref a_o, .int p1, .int p2] (zx_M dC dI dA adK adV [zo_X7 a_o a_c a_can f_o_rungs, zo_X0 a_c f_c_top f_c_things a_c_bars a_c_gives a_c_rough f_c_startRung f_c_startThings f_c_startStrength f_c_startWind f_c_slips f_c_lines a_c_code f_c_coded f_c_tiresFrom f_c_tiresTo f_c_mayFrom f_c_mayTo, (a_c_bars, .inl (dA 0, 9, .inl b_c_bars)), (a_c_gives, .inl (dA 0, 9, .inl b_c_gives)), (a_can, .inl (dA 0, 2880, .inl b_can))] sz)) (va_Qi (fun (r : Int32) (_ : Unit) => r = r0) (fun _ t => zz_B dC dI dA (va_A [zo_X7 a_o a_c a_can f_o_rungs, zo_X0 a_c f_c_top f_c_things a_c_bars a_c_gives a_c_rough f_c_startRung f_c_startThings f_c_startStrength f_c_startWind f_c_slips f_c_lines a_c_code f_c_coded f_c_tiresFrom f_c_tiresTo f_c_mayFrom f_c_mayTo, (a_c_bars, .inl (dA 0, 9, .inl b_c_bars)), (a_c_gives, .inl (dA 0, 9, .inl b_c_gives)), (a_can, .inl (dA 0, 2880, .inl b_can))] sz) [zo_X7 a_o a_c a_can f_o_rungs, zo_X0 a_c f_c_top f_c_things a_c_bars a_c_gives a_c_rough f_c_startRung f_c_startThings f_c_startStrength f_c_startWind f_c_slips f_c_lines a_c_code f_c_coded f_c_tiresFrom f_c_tiresTo f_c_mayFrom f_c_mayTo, (a_c_bars, .inl (dA 0, 9, .inl b_c_bars)), (a_c_gives, .inl (dA 0, 9, .inl b_c_gives)), (a_can, .inl (dA 0, 2880, .inl b_can))] t) (va_A [zo_X7 a_o a_c a_can f_o_rungs, zo_X0 a_c f_c_top f_c_things a_c_bars a_c_gives a_c_rough f_c_startRung f_c_startThings f_c_startStrength f_c_startWind f_c_slips f_c_lines a_c_code f_c_coded f_c_tiresFrom f_c_tiresTo f_c_mayFrom f_c_mayTo, (a_c_bars, .inl (dA 0, 9, .inl b_c_bars)), (a_c_gives, .inl (dA 0, 9, .inl b_c_gives)), (a_can, .inl (dA 0, 2880, .inl b_can))] sz)) 0 0 (va_A [zo_X7 a_o a_c a_can f_o_rungs, zo_X0 a_c f_c_top f_c_things a_c_bars a_c_gives a_c_rough f_c_startRung f_c_startThings f_c_startStrength f_c_startWind f_c_slips f_c_lines a_c_code f_c_coded f_c_tiresFrom f_c_tiresTo f_c_mayFrom f_c_mayTo, (a_c_bars, .inl (dA 0, 9, .inl b_c_bars)), (a_c_gives, .inl (dA 0, 9, .inl b_c_gives)), (a_can, .inl (dA 0, 2880, .inl b_can))] sz) := by
  unfold zf_X7_firstRung at hf
  refine Met.ofW (cc := cX7_firstRung) (maxL := 5) (ret := (some .int)) (by decide) rfl ?_
  intro p e s m args below meth c s₁ B hml hv
  obtain ⟨rfl, ⟨hsz, hP, hK, hD0⟩, hZ⟩ := hv
  have hx := B.exec
  have hb := B.bytes
  have hr := B.returns
  have ht : ∀ w ∈ zq_T, w.before ([.ref a_o, .int p1, .int p2] : List Value).toArray s = true := fun w hw => atoms_spec (ws := .code yX7_firstRung cX7_firstRung 5 (some .int) :: zq_T) B.pre w (List.mem_cons_of_mem _ hw)
  have hown : s.vm.findClass RX7 = some m.cls := findClass_of_methodNamed B.named
  have hlocks := B.notSynchronized
  subst hsz
  have hD := hD0.self (sz := s.heap.size)
  generalize hAe : va_A [zo_X7 a_o a_c a_can f_o_rungs, zo_X0 a_c f_c_top f_c_things a_c_bars a_c_gives a_c_rough f_c_startRung f_c_startThings f_c_startStrength f_c_startWind f_c_slips f_c_lines a_c_code f_c_coded f_c_tiresFrom f_c_tiresTo f_c_mayFrom f_c_mayTo, (a_c_bars, .inl (dA 0, 9, .inl b_c_bars)), (a_c_gives, .inl (dA 0, 9, .inl b_c_gives)), (a_can, .inl (dA 0, 2880, .inl b_can))] s.heap.size = A at hD hZ ⊢
  have hA : ∀ q : Nat, s.heap.size ≤ q → A q := fun q h => by rw [← hAe]; exact Or.inr h
  clear hAe hD0
  have hS : va_S A s.heap s.heap [] := va_S.rf
  have hl := lv_entry ([.ref a_o, .int p1, .int p2]) (n := 5) (Nat.le_of_ble_eq_true rfl)
  rw [lg_entry_eq]
  generalize (lg_sl ([.ref a_o, .int p1, .int p2]) ++ List.replicate (5 - (lg_sl ([.ref a_o, .int p1, .int p2])).length) Slot.unset).toArray = ls at hl ⊢
  have hl : lv_has ls 5 [(0, .ref a_o), (1, .int p1), (2, .int p2)] := hl
  refine lv_iconst (v := (0 : Int32)) (pc := 0) hx hb dX7_firstRung_0 (by decide) ?_
  refine lv_istore_n (lv' := [(3, .int (0 : Int32)), (0, .ref a_o), (1, .int p1), (2, .int p2)]) (pc := 1) hx hb dX7_firstRung_1 rfl hl (by decide) rfl (fun ls hl => ?_)
  obtain ⟨g8, v7, hj, hf⟩ := zc_2 hf
  refine zj_join (pcJ := 51) (stk := []) (X := fun H locs ls => g8 = 1 ∧ lv_has ls 5 [(3, .int v7)] ∧ va_P (dC, dI) zz_cls [zo_X7 a_o a_c a_can f_o_rungs, zo_X0 a_c f_c_top f_c_things a_c_bars a_c_gives a_c_rough f_c_startRung f_c_startThings f_c_startStrength f_c_startWind f_c_slips f_c_lines a_c_code f_c_coded f_c_tiresFrom f_c_tiresTo f_c_mayFrom f_c_mayTo, (a_c_bars, .inl (dA 0, 9, .inl b_c_bars)), (a_c_gives, .inl (dA 0, 9, .inl b_c_gives)), (a_can, .inl (dA 0, 2880, .inl b_can))] H ∧ va_D A [zo_X7 a_o a_c a_can f_o_rungs, zo_X0 a_c f_c_top f_c_things a_c_bars a_c_gives a_c_rough f_c_startRung f_c_startThings f_c_startStrength f_c_startWind f_c_slips f_c_lines a_c_code f_c_coded f_c_tiresFrom f_c_tiresTo f_c_mayFrom f_c_mayTo, (a_c_bars, .inl (dA 0, 9, .inl b_c_bars)), (a_c_gives, .inl (dA 0, 9, .inl b_c_gives)), (a_can, .inl (dA 0, 2880, .inl b_can))] ∧ va_S A s.heap H locs) (fun H locs ls hX => ?_) (fun E51 => ?_)
  · obtain ⟨htg, hl, hP, hD, hS⟩ := hX
    clear hj
    have hf := za_t hf htg
    refine lv_iload_n (pc := 51) hx hb dX7_firstRung_51 rfl (lv_at hl 0 rfl) ?_
    obtain rfl := Option.some.inj hf
    exact W.iret (pc := 52) hx hb hr (fun t ht hW => ⟨⟨_, (), rfl, rfl, zz_Bi (by rw [ht]; exact hP) (va_K.moved hW.alike hK) (hD)⟩, hS.F ht⟩) hS.2.2 dX7_firstRung_52
  refine zj_join (pcJ := 59) (stk := []) (X := fun H locs ls => g8 = 2 ∧ lv_has ls 5 [] ∧ va_P (dC, dI) zz_cls [zo_X7 a_o a_c a_can f_o_rungs, zo_X0 a_c f_c_top f_c_things a_c_bars a_c_gives a_c_rough f_c_startRung f_c_startThings f_c_startStrength f_c_startWind f_c_slips f_c_lines a_c_code f_c_coded f_c_tiresFrom f_c_tiresTo f_c_mayFrom f_c_mayTo, (a_c_bars, .inl (dA 0, 9, .inl b_c_bars)), (a_c_gives, .inl (dA 0, 9, .inl b_c_gives)), (a_can, .inl (dA 0, 2880, .inl b_can))] H ∧ va_D A [zo_X7 a_o a_c a_can f_o_rungs, zo_X0 a_c f_c_top f_c_things a_c_bars a_c_gives a_c_rough f_c_startRung f_c_startThings f_c_startStrength f_c_startWind f_c_slips f_c_lines a_c_code f_c_coded f_c_tiresFrom f_c_tiresTo f_c_mayFrom f_c_mayTo, (a_c_bars, .inl (dA 0, 9, .inl b_c_bars)), (a_c_gives, .inl (dA 0, 9, .inl b_c_gives)), (a_can, .inl (dA 0, 2880, .inl b_can))] ∧ va_S A s.heap H locs) (fun H locs ls hX => ?_) (fun E59 => ?_)
  · obtain ⟨htg, hl, hP, hD, hS⟩ := hX
    clear hj
    have hf := za_f hf (by rw [htg]; decide)
    have hf := za_t hf htg
    refine lv_iconst (v := (-1 : Int32)) (pc := 59) hx hb dX7_firstRung_59 (by decide) ?_
    obtain rfl := Option.some.inj hf
    exact W.iret (pc := 60) hx hb hr (fun t ht hW => ⟨⟨_, (), rfl, rfl, zz_Bi (by rw [ht]; exact hP) (va_K.moved hW.alike hK) (hD)⟩, hS.F ht⟩) hS.2.2 dX7_firstRung_60
  clear hf
  refine zw_loop (pcH := 2) (X := fun v H locs ls => lv_has ls 5 [(0, .ref a_o), (1, .int p1), (2, .int p2), (3, .int v)] ∧ va_P (dC, dI) zz_cls [zo_X7 a_o a_c a_can f_o_rungs, zo_X0 a_c f_c_top f_c_things a_c_bars a_c_gives a_c_rough f_c_startRung f_c_startThings f_c_startStrength f_c_startWind f_c_slips f_c_lines a_c_code f_c_coded f_c_tiresFrom f_c_tiresTo f_c_mayFrom f_c_mayTo, (a_c_bars, .inl (dA 0, 9, .inl b_c_bars)), (a_c_gives, .inl (dA 0, 9, .inl b_c_gives)), (a_can, .inl (dA 0, 2880, .inl b_can))] H ∧ va_D A [zo_X7 a_o a_c a_can f_o_rungs, zo_X0 a_c f_c_top f_c_things a_c_bars a_c_gives a_c_rough f_c_startRung f_c_startThings f_c_startStrength f_c_startWind f_c_slips f_c_lines a_c_code f_c_coded f_c_tiresFrom f_c_tiresTo f_c_mayFrom f_c_mayTo, (a_c_bars, .inl (dA 0, 9, .inl b_c_bars)), (a_c_gives, .inl (dA 0, 9, .inl b_c_gives)), (a_can, .inl (dA 0, 2880, .inl b_can))] ∧ va_S A s.heap H locs) hj (fun v w hf ih ex H locs ls hX => ?_) _ _ _ ⟨lv_sub hl [1, 2, 3, 0] rfl, hP, hD, hS⟩
  clear hj
  generalize v = v1 at hf hX
  obtain ⟨hl, hP, hD, hS⟩ := hX
  have hl : lv_has ls 5 [(0, .ref a_o), (1, .int p1), (2, .int p2), (3, .int v1)] := hl
  have hP : va_P (dC, dI) zz_cls [zo_X7 a_o a_c a_can f_o_rungs, zo_X0 a_c f_c_top f_c_things a_c_bars a_c_gives a_c_rough f_c_startRung f_c_startThings f_c_startStrength f_c_startWind f_c_slips f_c_lines a_c_code f_c_coded f_c_tiresFrom f_c_tiresTo f_c_mayFrom f_c_mayTo, (a_c_bars, .inl (dA 0, 9, .inl b_c_bars)), (a_c_gives, .inl (dA 0, 9, .inl b_c_gives)), (a_can, .inl (dA 0, 2880, .inl b_can))] H := hP
  have hD : va_D A [zo_X7 a_o a_c a_can f_o_rungs, zo_X0 a_c f_c_top f_c_things a_c_bars a_c_gives a_c_rough f_c_startRung f_c_startThings f_c_startStrength f_c_startWind f_c_slips f_c_lines a_c_code f_c_coded f_c_tiresFrom f_c_tiresTo f_c_mayFrom f_c_mayTo, (a_c_bars, .inl (dA 0, 9, .inl b_c_bars)), (a_c_gives, .inl (dA 0, 9, .inl b_c_gives)), (a_can, .inl (dA 0, 2880, .inl b_can))] := hD
  replace hf : zb_X7_firstRung_2 f_o_rungs b_c_bars b_c_gives p1 p2 b_can v1 = some w := hf
  unfold zb_X7_firstRung_2 at hf
  refine lv_iload_n (pc := 2) hx hb dX7_firstRung_2 rfl (lv_at hl 3 rfl) ?_
  refine lv_aload_n (pc := 3) hx hb dX7_firstRung_3 rfl (lv_at hl 0 rfl) ?_
  refine va_get (pc := 4) (D := (dC, dI)) (ci := 8) (v := .int f_o_rungs) (C := RX7) (T := TX7) (N := 3) hx hb ht zq_layX7 hown hK hP 0 rfl rfl 2 (by decide) (ht _ zq_500) (fun _ h9 => h9) rfl dX7_firstRung_4 ?_
  refine lv_icmp_ge (tgt := 59) (pc := 7) hx hb dX7_firstRung_7 rfl (fun hc => ?_) (fun hc => ?_)
  · have hf := za_t hf hc
    obtain rfl := Option.some.inj hf
    obtain ⟨rfl, rfl⟩ := zp_2 (ex (show ¬ (2 : Nat) = 0 by decide))
    exact E59 _ _ _ ⟨rfl, lv_sub hl [] rfl, hP, hD, hS⟩
  · have hf := za_f hf hc
    refine lv_aload_n (pc := 10) hx hb dX7_firstRung_10 rfl (lv_at hl 0 rfl) ?_
    refine lv_iload_n (pc := 11) hx hb dX7_firstRung_11 rfl (lv_at hl 3 rfl) ?_
    refine lv_iload_n (pc := 12) hx hb dX7_firstRung_12 rfl (lv_at hl 1 rfl) ?_
    refine lv_iload_n (pc := 13) hx hb dX7_firstRung_13 rfl (lv_at hl 2 rfl) ?_
    obtain ⟨v2, hv2, hf⟩ := zc_1 hf
    refine zx_Vi (pc := 14) (wc := [zo_X7 a_o a_c a_can f_o_rungs, zo_X0 a_c f_c_top f_c_things a_c_bars a_c_gives a_c_rough f_c_startRung f_c_startThings f_c_startStrength f_c_startWind f_c_slips f_c_lines a_c_code f_c_coded f_c_tiresFrom f_c_tiresTo f_c_mayFrom f_c_mayTo, (a_c_bars, .inl (dA 0, 9, .inl b_c_bars)), (a_c_gives, .inl (dA 0, 9, .inl b_c_gives))]) (wr := [(a_can, .inl (dA 0, 2880, .inl b_can))]) (w1 := [zo_X7 a_o a_c a_can f_o_rungs, zo_X0 a_c f_c_top f_c_things a_c_bars a_c_gives a_c_rough f_c_startRung f_c_startThings f_c_startStrength f_c_startWind f_c_slips f_c_lines a_c_code f_c_coded f_c_tiresFrom f_c_tiresTo f_c_mayFrom f_c_mayTo, (a_c_bars, .inl (dA 0, 9, .inl b_c_bars)), (a_c_gives, .inl (dA 0, 9, .inl b_c_gives))]) (As := [.int v1, .int p1, .int p2]) (rest := []) ⟨hx, hb, hml, hown, ht⟩ (zt_X7_isFree l dC dI dA adK adV _ a_o a_c a_can a_c_bars a_c_gives a_c_rough a_c_code f_o_rungs f_c_top f_c_things f_c_startRung f_c_startThings f_c_startStrength f_c_startWind f_c_slips f_c_lines f_c_coded f_c_tiresFrom f_c_tiresTo f_c_mayFrom f_c_mayTo b_c_bars b_c_gives v1 p1 p2 v2 hv2) (cwV 3 ht (zq_V zq_514 zq_515 zq_516 zq_513 zq_504) rfl rfl rfl zk_X7_isFree ⟨Nat.le_of_ble_eq_true rfl, Nat.le_of_ble_eq_true rfl⟩) rfl rfl hZ hK hP hD hS hA [0, 1, 2, 3] [4] (by decide) (by decide) (by decide) rfl rfl rfl hl.1 (Nat.le_of_ble_eq_true rfl) dX7_firstRung_14 ⟨Nat.zero_le _, Nat.zero_le _⟩ rfl (fun H locs hP hD hS => ?_)
    have hP : va_P (dC, dI) zz_cls [(a_can, .inl (dA 0, 2880, .inl b_can)), zo_X7 a_o a_c a_can f_o_rungs, zo_X0 a_c f_c_top f_c_things a_c_bars a_c_gives a_c_rough f_c_startRung f_c_startThings f_c_startStrength f_c_startWind f_c_slips f_c_lines a_c_code f_c_coded f_c_tiresFrom f_c_tiresTo f_c_mayFrom f_c_mayTo, (a_c_bars, .inl (dA 0, 9, .inl b_c_bars)), (a_c_gives, .inl (dA 0, 9, .inl b_c_gives))] H := hP
    have hD : va_D A [(a_can, .inl (dA 0, 2880, .inl b_can)), zo_X7 a_o a_c a_can f_o_rungs, zo_X0 a_c f_c_top f_c_things a_c_bars a_c_gives a_c_rough f_c_startRung f_c_startThings f_c_startStrength f_c_startWind f_c_slips f_c_lines a_c_code f_c_coded f_c_tiresFrom f_c_tiresTo f_c_mayFrom f_c_mayTo, (a_c_bars, .inl (dA 0, 9, .inl b_c_bars)), (a_c_gives, .inl (dA 0, 9, .inl b_c_gives))] := hD
    refine lv_istore (lv' := [(4, .int v2), (0, .ref a_o), (1, .int p1), (2, .int p2), (3, .int v1)]) (pc := 17) hx hb dX7_firstRung_17 hl (by decide) rfl (fun ls hl => ?_)
    refine lv_iload (pc := 19) hx hb dX7_firstRung_19 (lv_at hl 0 rfl) ?_
    refine lv_if_eq (tgt := 53) (pc := 21) hx hb dX7_firstRung_21 rfl (fun hc => ?_) (fun hc => ?_)
    · have hf := za_t hf hc
      obtain ⟨v3, hv3, hf⟩ := zc_1 hf
      refine lv_iinc (v := v3) (lv' := [(3, .int v3), (4, .int v2), (0, .ref a_o), (1, .int p1), (2, .int p2)]) (k := 4) (pc := 53) hx hb dX7_firstRung_53 hl rfl (Option.some.inj hv3) (by decide) rfl (fun ls hl => ?_)
      refine lv_goto (tgt := 2) (pc := 56) hx hb dX7_firstRung_56 rfl ?_
      obtain rfl := Option.some.inj hf
      exact ih rfl _ _ _ ⟨lv_sub hl [2, 3, 4, 0] rfl, hP.sub [1, 2, 3, 4, 0] rfl, hD.sub [1, 2, 3, 4, 0] (by decide) rfl, hS⟩
    · have hf := za_f hf hc
      refine lv_iconst (v := (1 : Int32)) (pc := 24) hx hb dX7_firstRung_24 (by decide) ?_
      refine lv_aload_n (pc := 25) hx hb dX7_firstRung_25 rfl (lv_at hl 1 rfl) ?_
      refine lv_iload_n (pc := 26) hx hb dX7_firstRung_26 rfl (lv_at hl 2 rfl) ?_
      refine lv_iload_n (pc := 27) hx hb dX7_firstRung_27 rfl (lv_at hl 3 rfl) ?_
      refine lv_iconst (v := (1 : Int32)) (pc := 28) hx hb dX7_firstRung_28 (by decide) ?_
      refine lv_iload_n (pc := 29) hx hb dX7_firstRung_29 rfl (lv_at hl 4 rfl) ?_
      refine lv_ishl (pc := 30) hx hb dX7_firstRung_30 ?_
      refine lv_ior (pc := 31) hx hb dX7_firstRung_31 ?_
      obtain ⟨v4, hv4, hf⟩ := zc_1 hf
      refine zx_Vi (pc := 32) (wc := [zo_X7 a_o a_c a_can f_o_rungs, (a_can, .inl (dA 0, 2880, .inl b_can))]) (wr := [zo_X0 a_c f_c_top f_c_things a_c_bars a_c_gives a_c_rough f_c_startRung f_c_startThings f_c_startStrength f_c_startWind f_c_slips f_c_lines a_c_code f_c_coded f_c_tiresFrom f_c_tiresTo f_c_mayFrom f_c_mayTo, (a_c_bars, .inl (dA 0, 9, .inl b_c_bars)), (a_c_gives, .inl (dA 0, 9, .inl b_c_gives))]) (w1 := [zo_X7 a_o a_c a_can f_o_rungs, (a_can, .inl (dA 0, 2880, .inl b_can))]) (As := [.int p1, .int (p2 ||| ((1 : Int32) <<< (v1 &&& 31)))]) (rest := [.int (1 : Int32)]) ⟨hx, hb, hml, hown, ht⟩ (zt_X7_behind l dC dI dA adK adV _ a_o a_c a_can f_o_rungs b_can p1 (p2 ||| ((1 : Int32) <<< (v1 &&& 31))) v4 hv4) (cwV 2 ht (zq_V zq_510 zq_511 zq_512 zq_513 zq_503) rfl rfl rfl zk_X7_behind ⟨Nat.le_of_ble_eq_true rfl, Nat.le_of_ble_eq_true rfl⟩) rfl rfl hZ hK hP hD hS hA [1, 0] [2, 3, 4] (by decide) (by decide) (by decide) rfl rfl rfl hl.1 (Nat.le_of_ble_eq_true rfl) dX7_firstRung_32 ⟨Nat.zero_le _, Nat.zero_le _⟩ rfl (fun H locs hP hD hS => ?_)
      have hP : va_P (dC, dI) zz_cls [zo_X0 a_c f_c_top f_c_things a_c_bars a_c_gives a_c_rough f_c_startRung f_c_startThings f_c_startStrength f_c_startWind f_c_slips f_c_lines a_c_code f_c_coded f_c_tiresFrom f_c_tiresTo f_c_mayFrom f_c_mayTo, (a_c_bars, .inl (dA 0, 9, .inl b_c_bars)), (a_c_gives, .inl (dA 0, 9, .inl b_c_gives)), zo_X7 a_o a_c a_can f_o_rungs, (a_can, .inl (dA 0, 2880, .inl b_can))] H := hP
      have hD : va_D A [zo_X0 a_c f_c_top f_c_things a_c_bars a_c_gives a_c_rough f_c_startRung f_c_startThings f_c_startStrength f_c_startWind f_c_slips f_c_lines a_c_code f_c_coded f_c_tiresFrom f_c_tiresTo f_c_mayFrom f_c_mayTo, (a_c_bars, .inl (dA 0, 9, .inl b_c_bars)), (a_c_gives, .inl (dA 0, 9, .inl b_c_gives)), zo_X7 a_o a_c a_can f_o_rungs, (a_can, .inl (dA 0, 2880, .inl b_can))] := hD
      refine lv_iadd (pc := 35) hx hb dX7_firstRung_35 ?_
      refine lv_aload_n (pc := 36) hx hb dX7_firstRung_36 rfl (lv_at hl 1 rfl) ?_
      refine va_get (pc := 37) (D := (dC, dI)) (ci := 8) (v := .ref a_can) (C := RX7) (T := TX7) (N := 3) hx hb ht zq_layX7 hown hK hP 3 rfl rfl 1 (by decide) (ht _ zq_502) (fun _ h9 => h9) rfl dX7_firstRung_37 ?_
      refine lv_iload_n (pc := 40) hx hb dX7_firstRung_40 rfl (lv_at hl 2 rfl) ?_
      refine lv_sipush (v := (256 : Int32)) (pc := 41) hx hb dX7_firstRung_41 (by decide) ?_
      refine lv_imul (pc := 44) hx hb dX7_firstRung_44 ?_
      refine lv_iload_n (pc := 45) hx hb dX7_firstRung_45 rfl (lv_at hl 3 rfl) ?_
      refine lv_iadd (pc := 46) hx hb dX7_firstRung_46 ?_
      obtain ⟨v5, hv5, hf⟩ := zc_1 hf
      refine zw_iald (pc := 47) hx hb hK hP 4 0 rfl rfl hv5 dX7_firstRung_47 ?_
      refine lv_icmp_ne (tgt := 53) (pc := 48) hx hb dX7_firstRung_48 rfl (fun hc => ?_) (fun hc => ?_)
      · have hf := za_f hf hc
        obtain ⟨v6, hv6, hf⟩ := zc_1 hf
        refine lv_iinc (v := v6) (lv' := [(3, .int v6), (4, .int v2), (0, .ref a_o), (1, .int p1), (2, .int p2)]) (k := 4) (pc := 53) hx hb dX7_firstRung_53 hl rfl (Option.some.inj hv6) (by decide) rfl (fun ls hl => ?_)
        refine lv_goto (tgt := 2) (pc := 56) hx hb dX7_firstRung_56 rfl ?_
        obtain rfl := Option.some.inj hf
        exact ih rfl _ _ _ ⟨lv_sub hl [2, 3, 4, 0] rfl, hP.sub [3, 0, 1, 2, 4] rfl, hD.sub [3, 0, 1, 2, 4] (by decide) rfl, hS⟩
      · have hf := za_t hf hc
        obtain rfl := Option.some.inj hf
        obtain ⟨rfl, rfl⟩ := zp_2 (ex (show ¬ (1 : Nat) = 0 by decide))
        exact E51 _ _ _ ⟨rfl, lv_sub hl [4] rfl, hP.sub [3, 0, 1, 2, 4] rfl, hD.sub [3, 0, 1, 2, 4] (by decide) rfl, hS⟩

def zb_X7_rungOfThing_8 (p2 : Int32) (p1 : Int32) (n : Nat) (f_o_rungs : Int32) (b_c_bars : (Nat → Int32)) (b_c_gives : (Nat → Int32)) (b_can : (Nat → Int32)) (v1 : Int32) (v2 : Int32) (v3 : Int32) : Option (Nat × Int32 × Int32 × Int32) :=
  if p2 < v3 then
    some (1, v1, v2, v3)
  else
    zd_1 (
      if ((p1 >>> (v3 &&& 31)) &&& (1 : Int32)) = 0 then
        some (-1 : Int32)
      else
        zd_1 (zf_X7_firstRung n f_o_rungs b_c_bars b_c_gives b_can v3 v1) (fun v4 =>
        some v4)) (fun v5 =>
    zd_1 (
      if v5 = (-1 : Int32) then
        some (0 : Int32)
      else
        some ((1 : Int32) <<< (v5 &&& 31))) (fun v6 =>
    zd_1 (some ((v1 ||| v6))) (fun v7 =>
    zd_1 (some (v3 + (1 : Int32))) (fun v8 =>
    some (0, v7, v5, v8)))))
def zf_X7_rungOfThing (n : Nat) (f_o_rungs : Int32) (b_c_bars : (Nat → Int32)) (b_c_gives : (Nat → Int32)) (b_can : (Nat → Int32)) (p1 : Int32) (p2 : Int32) : Option (Int32) :=
  zd_4 (za_it (fun v => zb_X7_rungOfThing_8 p2 p1 n f_o_rungs b_c_bars b_c_gives b_can v.1 v.2.1 v.2.2) n ((0 : Int32), (-1 : Int32), (0 : Int32))) (fun g12 v9 v10 v11 =>
  some v10)
theorem zk_X7_rungOfThing : yX7_rungOfThing.cls = RX7 ∧ yX7_rungOfThing.cls ≠ "java/lang/invoke/MethodHandle" ∧ yX7_rungOfThing.cls ≠ "java/lang/invoke/VarHandle" ∧ (parseMethodDescriptor yX7_rungOfThing.desc).map (fun d => d.parameters.length) = some 2 := by decide +kernel
set_option maxHeartbeats 4000000 in
set_option maxRecDepth 100000 in
theorem zt_X7_rungOfThing (l : Launch) (dC : Nat → ClassId) (dI : Nat → Nat → Nat) (dA : Nat → ClassId) (adK adV : Nat → Nat) (sz : Nat) (a_o : Nat) (a_c : Nat) (a_can : Nat) (a_c_bars : Nat) (a_c_gives : Nat) (a_c_rough : Nat) (a_c_code : Nat) (n : Nat) (f_o_rungs : Int32) (f_c_top : Int32) (f_c_things : Int32) (f_c_startRung : Int32) (f_c_startThings : Int32) (f_c_startStrength : Int32) (f_c_startWind : Int32) (f_c_slips : Int32) (f_c_lines : Int32) (f_c_coded : Int32) (f_c_tiresFrom : Int32) (f_c_tiresTo : Int32) (f_c_mayFrom : Int32) (f_c_mayTo : Int32) (b_c_bars : (Nat → Int32)) (b_c_gives : (Nat → Int32)) (b_can : (Nat → Int32)) (p1 : Int32) (p2 : Int32) (r0 : Int32) (hf : zf_X7_rungOfThing n f_o_rungs b_c_bars b_c_gives b_can p1 p2 = some r0) : Met l yX7_rungOfThing (.code yX7_rungOfThing cX7_rungOfThing 6 (some .int) :: zq_T) ({ frames := 3, cells := 0, slots := 0, locals := 69 }) (va_Pc [.ref a_o, .int p1, .int p2] (zx_M dC dI dA adK adV [zo_X7 a_o a_c a_can f_o_rungs, zo_X0 a_c f_c_top f_c_things a_c_bars a_c_gives a_c_rough f_c_startRung f_c_startThings f_c_startStrength f_c_startWind f_c_slips f_c_lines a_c_code f_c_coded f_c_tiresFrom f_c_tiresTo f_c_mayFrom f_c_mayTo, (a_c_bars, .inl (dA 0, 9, .inl b_c_bars)), (a_c_gives, .inl (dA 0, 9, .inl b_c_gives)), (a_can, .inl (dA 0, 2880, .inl b_can))] sz)) (va_Qi (fun (r : Int32) (_ : Unit) => r = r0) (fun _ t => zz_B dC dI dA (va_A [zo_X7 a_o a_c a_can f_o_rungs, zo_X0 a_c f_c_top f_c_things a_c_bars a_c_gives a_c_rough f_c_startRung f_c_startThings f_c_startStrength f_c_startWind f_c_slips f_c_lines a_c_code f_c_coded f_c_tiresFrom f_c_tiresTo f_c_mayFrom f_c_mayTo, (a_c_bars, .inl (dA 0, 9, .inl b_c_bars)), (a_c_gives, .inl (dA 0, 9, .inl b_c_gives)), (a_can, .inl (dA 0, 2880, .inl b_can))] sz) [zo_X7 a_o a_c a_can f_o_rungs, zo_X0 a_c f_c_top f_c_things a_c_bars a_c_gives a_c_rough f_c_startRung f_c_startThings f_c_startStrength f_c_startWind f_c_slips f_c_lines a_c_code f_c_coded f_c_tiresFrom f_c_tiresTo f_c_mayFrom f_c_mayTo, (a_c_bars, .inl (dA 0, 9, .inl b_c_bars)), (a_c_gives, .inl (dA 0, 9, .inl b_c_gives)), (a_can, .inl (dA 0, 2880, .inl b_can))] t) (va_A [zo_X7 a_o a_c a_can f_o_rungs, zo_X0 a_c f_c_top f_c_things a_c_bars a_c_gives a_c_rough f_c_startRung f_c_startThings f_c_startStrength f_c_startWind f_c_slips f_c_lines a_c_code f_c_coded f_c_tiresFrom f_c_tiresTo f_c_mayFrom f_c_mayTo, (a_c_bars, .inl (dA 0, 9, .inl b_c_bars)), (a_c_gives, .inl (dA 0, 9, .inl b_c_gives)), (a_can, .inl (dA 0, 2880, .inl b_can))] sz)) 0 0 (va_A [zo_X7 a_o a_c a_can f_o_rungs, zo_X0 a_c f_c_top f_c_things a_c_bars a_c_gives a_c_rough f_c_startRung f_c_startThings f_c_startStrength f_c_startWind f_c_slips f_c_lines a_c_code f_c_coded f_c_tiresFrom f_c_tiresTo f_c_mayFrom f_c_mayTo, (a_c_bars, .inl (dA 0, 9, .inl b_c_bars)), (a_c_gives, .inl (dA 0, 9, .inl b_c_gives)), (a_can, .inl (dA 0, 2880, .inl b_can))] sz) := by
  unfold zf_X7_rungOfThing at hf
  refine Met.ofW (cc := cX7_rungOfThing) (maxL := 6) (ret := (some .int)) (by decide) rfl ?_
  intro p e s m args below meth c s₁ B hml hv
  obtain ⟨rfl, ⟨hsz, hP, hK, hD0⟩, hZ⟩ := hv
  have hx := B.exec
  have hb := B.bytes
  have hr := B.returns
  have ht : ∀ w ∈ zq_T, w.before ([.ref a_o, .int p1, .int p2] : List Value).toArray s = true := fun w hw => atoms_spec (ws := .code yX7_rungOfThing cX7_rungOfThing 6 (some .int) :: zq_T) B.pre w (List.mem_cons_of_mem _ hw)
  have hown : s.vm.findClass RX7 = some m.cls := findClass_of_methodNamed B.named
  have hlocks := B.notSynchronized
  subst hsz
  have hD := hD0.self (sz := s.heap.size)
  generalize hAe : va_A [zo_X7 a_o a_c a_can f_o_rungs, zo_X0 a_c f_c_top f_c_things a_c_bars a_c_gives a_c_rough f_c_startRung f_c_startThings f_c_startStrength f_c_startWind f_c_slips f_c_lines a_c_code f_c_coded f_c_tiresFrom f_c_tiresTo f_c_mayFrom f_c_mayTo, (a_c_bars, .inl (dA 0, 9, .inl b_c_bars)), (a_c_gives, .inl (dA 0, 9, .inl b_c_gives)), (a_can, .inl (dA 0, 2880, .inl b_can))] s.heap.size = A at hD hZ ⊢
  have hA : ∀ q : Nat, s.heap.size ≤ q → A q := fun q h => by rw [← hAe]; exact Or.inr h
  clear hAe hD0
  have hS : va_S A s.heap s.heap [] := va_S.rf
  have hl := lv_entry ([.ref a_o, .int p1, .int p2]) (n := 6) (Nat.le_of_ble_eq_true rfl)
  rw [lg_entry_eq]
  generalize (lg_sl ([.ref a_o, .int p1, .int p2]) ++ List.replicate (6 - (lg_sl ([.ref a_o, .int p1, .int p2])).length) Slot.unset).toArray = ls at hl ⊢
  have hl : lv_has ls 6 [(0, .ref a_o), (1, .int p1), (2, .int p2)] := hl
  refine lv_iconst (v := (0 : Int32)) (pc := 0) hx hb dX7_rungOfThing_0 (by decide) ?_
  refine lv_istore_n (lv' := [(3, .int (0 : Int32)), (0, .ref a_o), (1, .int p1), (2, .int p2)]) (pc := 1) hx hb dX7_rungOfThing_1 rfl hl (by decide) rfl (fun ls hl => ?_)
  refine lv_iconst (v := (-1 : Int32)) (pc := 2) hx hb dX7_rungOfThing_2 (by decide) ?_
  refine lv_istore (lv' := [(4, .int (-1 : Int32)), (3, .int (0 : Int32)), (0, .ref a_o), (1, .int p1), (2, .int p2)]) (pc := 3) hx hb dX7_rungOfThing_3 hl (by decide) rfl (fun ls hl => ?_)
  refine lv_iconst (v := (0 : Int32)) (pc := 5) hx hb dX7_rungOfThing_5 (by decide) ?_
  refine lv_istore (lv' := [(5, .int (0 : Int32)), (4, .int (-1 : Int32)), (3, .int (0 : Int32)), (0, .ref a_o), (1, .int p1), (2, .int p2)]) (pc := 6) hx hb dX7_rungOfThing_6 hl (by decide) rfl (fun ls hl => ?_)
  obtain ⟨g12, v9, v10, v11, hj, hf⟩ := zc_4 hf
  refine zj_join (pcJ := 59) (stk := []) (X := fun H locs ls => lv_has ls 6 [(4, .int v10)] ∧ va_P (dC, dI) zz_cls [zo_X7 a_o a_c a_can f_o_rungs, zo_X0 a_c f_c_top f_c_things a_c_bars a_c_gives a_c_rough f_c_startRung f_c_startThings f_c_startStrength f_c_startWind f_c_slips f_c_lines a_c_code f_c_coded f_c_tiresFrom f_c_tiresTo f_c_mayFrom f_c_mayTo, (a_c_bars, .inl (dA 0, 9, .inl b_c_bars)), (a_c_gives, .inl (dA 0, 9, .inl b_c_gives)), (a_can, .inl (dA 0, 2880, .inl b_can))] H ∧ va_D A [zo_X7 a_o a_c a_can f_o_rungs, zo_X0 a_c f_c_top f_c_things a_c_bars a_c_gives a_c_rough f_c_startRung f_c_startThings f_c_startStrength f_c_startWind f_c_slips f_c_lines a_c_code f_c_coded f_c_tiresFrom f_c_tiresTo f_c_mayFrom f_c_mayTo, (a_c_bars, .inl (dA 0, 9, .inl b_c_bars)), (a_c_gives, .inl (dA 0, 9, .inl b_c_gives)), (a_can, .inl (dA 0, 2880, .inl b_can))] ∧ va_S A s.heap H locs) (fun H locs ls hX => ?_) (fun E59 => ?_)
  · obtain ⟨hl, hP, hD, hS⟩ := hX
    clear hj
    refine lv_iload (pc := 59) hx hb dX7_rungOfThing_59 (lv_at hl 0 rfl) ?_
    obtain rfl := Option.some.inj hf
    exact W.iret (pc := 61) hx hb hr (fun t ht hW => ⟨⟨_, (), rfl, rfl, zz_Bi (by rw [ht]; exact hP) (va_K.moved hW.alike hK) (hD)⟩, hS.F ht⟩) hS.2.2 dX7_rungOfThing_61
  clear hf
  refine zw_loop (pcH := 8) (X := fun v H locs ls => lv_has ls 6 [(0, .ref a_o), (1, .int p1), (2, .int p2), (3, .int v.1), (4, .int v.2.1), (5, .int v.2.2)] ∧ va_P (dC, dI) zz_cls [zo_X7 a_o a_c a_can f_o_rungs, zo_X0 a_c f_c_top f_c_things a_c_bars a_c_gives a_c_rough f_c_startRung f_c_startThings f_c_startStrength f_c_startWind f_c_slips f_c_lines a_c_code f_c_coded f_c_tiresFrom f_c_tiresTo f_c_mayFrom f_c_mayTo, (a_c_bars, .inl (dA 0, 9, .inl b_c_bars)), (a_c_gives, .inl (dA 0, 9, .inl b_c_gives)), (a_can, .inl (dA 0, 2880, .inl b_can))] H ∧ va_D A [zo_X7 a_o a_c a_can f_o_rungs, zo_X0 a_c f_c_top f_c_things a_c_bars a_c_gives a_c_rough f_c_startRung f_c_startThings f_c_startStrength f_c_startWind f_c_slips f_c_lines a_c_code f_c_coded f_c_tiresFrom f_c_tiresTo f_c_mayFrom f_c_mayTo, (a_c_bars, .inl (dA 0, 9, .inl b_c_bars)), (a_c_gives, .inl (dA 0, 9, .inl b_c_gives)), (a_can, .inl (dA 0, 2880, .inl b_can))] ∧ va_S A s.heap H locs) hj (fun v w hf ih ex H locs ls hX => ?_) _ _ _ ⟨lv_sub hl [3, 4, 5, 2, 1, 0] rfl, hP, hD, hS⟩
  clear hj
  obtain ⟨v1, v2, v3⟩ := v
  obtain ⟨hl, hP, hD, hS⟩ := hX
  have hl : lv_has ls 6 [(0, .ref a_o), (1, .int p1), (2, .int p2), (3, .int v1), (4, .int v2), (5, .int v3)] := hl
  have hP : va_P (dC, dI) zz_cls [zo_X7 a_o a_c a_can f_o_rungs, zo_X0 a_c f_c_top f_c_things a_c_bars a_c_gives a_c_rough f_c_startRung f_c_startThings f_c_startStrength f_c_startWind f_c_slips f_c_lines a_c_code f_c_coded f_c_tiresFrom f_c_tiresTo f_c_mayFrom f_c_mayTo, (a_c_bars, .inl (dA 0, 9, .inl b_c_bars)), (a_c_gives, .inl (dA 0, 9, .inl b_c_gives)), (a_can, .inl (dA 0, 2880, .inl b_can))] H := hP
  have hD : va_D A [zo_X7 a_o a_c a_can f_o_rungs, zo_X0 a_c f_c_top f_c_things a_c_bars a_c_gives a_c_rough f_c_startRung f_c_startThings f_c_startStrength f_c_startWind f_c_slips f_c_lines a_c_code f_c_coded f_c_tiresFrom f_c_tiresTo f_c_mayFrom f_c_mayTo, (a_c_bars, .inl (dA 0, 9, .inl b_c_bars)), (a_c_gives, .inl (dA 0, 9, .inl b_c_gives)), (a_can, .inl (dA 0, 2880, .inl b_can))] := hD
  replace hf : zb_X7_rungOfThing_8 p2 p1 n f_o_rungs b_c_bars b_c_gives b_can v1 v2 v3 = some w := hf
  unfold zb_X7_rungOfThing_8 at hf
  refine lv_iload (pc := 8) hx hb dX7_rungOfThing_8 (lv_at hl 5 rfl) ?_
  refine lv_iload_n (pc := 10) hx hb dX7_rungOfThing_10 rfl (lv_at hl 2 rfl) ?_
  refine lv_icmp_gt (tgt := 59) (pc := 11) hx hb dX7_rungOfThing_11 rfl (fun hc => ?_) (fun hc => ?_)
  · have hf := za_t hf hc
    obtain rfl := Option.some.inj hf
    obtain ⟨rfl, rfl, rfl, rfl⟩ := zp_4 (ex (show ¬ (1 : Nat) = 0 by decide))
    exact E59 _ _ _ ⟨lv_sub hl [4] rfl, hP, hD, hS⟩
  · have hf := za_f hf hc
    refine lv_iload_n (pc := 14) hx hb dX7_rungOfThing_14 rfl (lv_at hl 1 rfl) ?_
    refine lv_iload (pc := 15) hx hb dX7_rungOfThing_15 (lv_at hl 5 rfl) ?_
    refine lv_ishr (pc := 17) hx hb dX7_rungOfThing_17 ?_
    refine lv_iconst (v := (1 : Int32)) (pc := 18) hx hb dX7_rungOfThing_18 (by decide) ?_
    refine lv_iand (pc := 19) hx hb dX7_rungOfThing_19 ?_
    obtain ⟨v5, hj, hf⟩ := zc_1 hf
    refine zj_join (pcJ := 34) (stk := [.int v5]) (X := fun H locs ls => lv_has ls 6 [(0, .ref a_o), (1, .int p1), (2, .int p2), (3, .int v1), (5, .int v3)] ∧ va_P (dC, dI) zz_cls [zo_X7 a_o a_c a_can f_o_rungs, zo_X0 a_c f_c_top f_c_things a_c_bars a_c_gives a_c_rough f_c_startRung f_c_startThings f_c_startStrength f_c_startWind f_c_slips f_c_lines a_c_code f_c_coded f_c_tiresFrom f_c_tiresTo f_c_mayFrom f_c_mayTo, (a_c_bars, .inl (dA 0, 9, .inl b_c_bars)), (a_c_gives, .inl (dA 0, 9, .inl b_c_gives)), (a_can, .inl (dA 0, 2880, .inl b_can))] H ∧ va_D A [zo_X7 a_o a_c a_can f_o_rungs, zo_X0 a_c f_c_top f_c_things a_c_bars a_c_gives a_c_rough f_c_startRung f_c_startThings f_c_startStrength f_c_startWind f_c_slips f_c_lines a_c_code f_c_coded f_c_tiresFrom f_c_tiresTo f_c_mayFrom f_c_mayTo, (a_c_bars, .inl (dA 0, 9, .inl b_c_bars)), (a_c_gives, .inl (dA 0, 9, .inl b_c_gives)), (a_can, .inl (dA 0, 2880, .inl b_can))] ∧ va_S A s.heap H locs) (fun H locs ls hX => ?_) (fun J34 => ?_)
    · obtain ⟨hl, hP, hD, hS⟩ := hX
      clear hj
      refine lv_istore (lv' := [(4, .int v5), (0, .ref a_o), (1, .int p1), (2, .int p2), (3, .int v1), (5, .int v3)]) (pc := 34) hx hb dX7_rungOfThing_34 hl (by decide) rfl (fun ls hl => ?_)
      refine lv_iload_n (pc := 36) hx hb dX7_rungOfThing_36 rfl (lv_at hl 4 rfl) ?_
      refine lv_iload (pc := 37) hx hb dX7_rungOfThing_37 (lv_at hl 0 rfl) ?_
      refine lv_iconst (v := (-1 : Int32)) (pc := 39) hx hb dX7_rungOfThing_39 (by decide) ?_
      obtain ⟨v6, hj, hf⟩ := zc_1 hf
      refine zj_join (pcJ := 51) (stk := [.int v6, .int v1]) (X := fun H locs ls => lv_has ls 6 [(0, .ref a_o), (1, .int p1), (2, .int p2), (4, .int v5), (5, .int v3)] ∧ va_P (dC, dI) zz_cls [zo_X7 a_o a_c a_can f_o_rungs, zo_X0 a_c f_c_top f_c_things a_c_bars a_c_gives a_c_rough f_c_startRung f_c_startThings f_c_startStrength f_c_startWind f_c_slips f_c_lines a_c_code f_c_coded f_c_tiresFrom f_c_tiresTo f_c_mayFrom f_c_mayTo, (a_c_bars, .inl (dA 0, 9, .inl b_c_bars)), (a_c_gives, .inl (dA 0, 9, .inl b_c_gives)), (a_can, .inl (dA 0, 2880, .inl b_can))] H ∧ va_D A [zo_X7 a_o a_c a_can f_o_rungs, zo_X0 a_c f_c_top f_c_things a_c_bars a_c_gives a_c_rough f_c_startRung f_c_startThings f_c_startStrength f_c_startWind f_c_slips f_c_lines a_c_code f_c_coded f_c_tiresFrom f_c_tiresTo f_c_mayFrom f_c_mayTo, (a_c_bars, .inl (dA 0, 9, .inl b_c_bars)), (a_c_gives, .inl (dA 0, 9, .inl b_c_gives)), (a_can, .inl (dA 0, 2880, .inl b_can))] ∧ va_S A s.heap H locs) (fun H locs ls hX => ?_) (fun J51 => ?_)
      · obtain ⟨hl, hP, hD, hS⟩ := hX
        clear hj
        refine lv_ior (pc := 51) hx hb dX7_rungOfThing_51 ?_
        obtain ⟨v7, hv7, hf⟩ := zc_1 hf
        refine zw_top (hv7) ?_
        refine lv_istore_n (lv' := [(3, .int v7), (0, .ref a_o), (1, .int p1), (2, .int p2), (4, .int v5), (5, .int v3)]) (pc := 52) hx hb dX7_rungOfThing_52 rfl hl (by decide) rfl (fun ls hl => ?_)
        obtain ⟨v8, hv8, hf⟩ := zc_1 hf
        refine lv_iinc (v := v8) (lv' := [(5, .int v8), (3, .int v7), (0, .ref a_o), (1, .int p1), (2, .int p2), (4, .int v5)]) (k := 5) (pc := 53) hx hb dX7_rungOfThing_53 hl rfl (Option.some.inj hv8) (by decide) rfl (fun ls hl => ?_)
        refine lv_goto (tgt := 8) (pc := 56) hx hb dX7_rungOfThing_56 rfl ?_
        obtain rfl := Option.some.inj hf
        exact ih rfl _ _ _ ⟨lv_sub hl [2, 3, 4, 1, 5, 0] rfl, hP, hD, hS⟩
      · clear hf
        have hf := hj
        clear hj
        refine lv_icmp_ne (tgt := 47) (pc := 40) hx hb dX7_rungOfThing_40 rfl (fun hc => ?_) (fun hc => ?_)
        · have hf := za_f hf hc
          refine lv_iconst (v := (1 : Int32)) (pc := 47) hx hb dX7_rungOfThing_47 (by decide) ?_
          refine lv_iload (pc := 48) hx hb dX7_rungOfThing_48 (lv_at hl 0 rfl) ?_
          refine lv_ishl (pc := 50) hx hb dX7_rungOfThing_50 ?_
          obtain rfl := Option.some.inj hf
          exact J51 _ _ _ ⟨lv_sub hl [1, 2, 3, 0, 5] rfl, hP, hD, hS⟩
        · have hf := za_t hf hc
          refine lv_iconst (v := (0 : Int32)) (pc := 43) hx hb dX7_rungOfThing_43 (by decide) ?_
          refine lv_goto (tgt := 51) (pc := 44) hx hb dX7_rungOfThing_44 rfl ?_
          obtain rfl := Option.some.inj hf
          exact J51 _ _ _ ⟨lv_sub hl [1, 2, 3, 0, 5] rfl, hP, hD, hS⟩
    · clear hf
      have hf := hj
      clear hj
      refine lv_if_eq (tgt := 33) (pc := 20) hx hb dX7_rungOfThing_20 rfl (fun hc => ?_) (fun hc => ?_)
      · have hf := za_t hf hc
        refine lv_iconst (v := (-1 : Int32)) (pc := 33) hx hb dX7_rungOfThing_33 (by decide) ?_
        obtain rfl := Option.some.inj hf
        exact J34 _ _ _ ⟨lv_sub hl [0, 1, 2, 3, 5] rfl, hP, hD, hS⟩
      · have hf := za_f hf hc
        refine lv_aload_n (pc := 23) hx hb dX7_rungOfThing_23 rfl (lv_at hl 0 rfl) ?_
        refine lv_iload (pc := 24) hx hb dX7_rungOfThing_24 (lv_at hl 5 rfl) ?_
        refine lv_iload_n (pc := 26) hx hb dX7_rungOfThing_26 rfl (lv_at hl 3 rfl) ?_
        obtain ⟨v4, hv4, hf⟩ := zc_1 hf
        refine zx_Vi (pc := 27) (wc := [zo_X7 a_o a_c a_can f_o_rungs, zo_X0 a_c f_c_top f_c_things a_c_bars a_c_gives a_c_rough f_c_startRung f_c_startThings f_c_startStrength f_c_startWind f_c_slips f_c_lines a_c_code f_c_coded f_c_tiresFrom f_c_tiresTo f_c_mayFrom f_c_mayTo, (a_c_bars, .inl (dA 0, 9, .inl b_c_bars)), (a_c_gives, .inl (dA 0, 9, .inl b_c_gives)), (a_can, .inl (dA 0, 2880, .inl b_can))]) (wr := []) (w1 := [zo_X7 a_o a_c a_can f_o_rungs, zo_X0 a_c f_c_top f_c_things a_c_bars a_c_gives a_c_rough f_c_startRung f_c_startThings f_c_startStrength f_c_startWind f_c_slips f_c_lines a_c_code f_c_coded f_c_tiresFrom f_c_tiresTo f_c_mayFrom f_c_mayTo, (a_c_bars, .inl (dA 0, 9, .inl b_c_bars)), (a_c_gives, .inl (dA 0, 9, .inl b_c_gives)), (a_can, .inl (dA 0, 2880, .inl b_can))]) (As := [.int v3, .int v1]) (rest := []) ⟨hx, hb, hml, hown, ht⟩ (zt_X7_firstRung l dC dI dA adK adV _ a_o a_c a_can a_c_bars a_c_gives a_c_rough a_c_code n f_o_rungs f_c_top f_c_things f_c_startRung f_c_startThings f_c_startStrength f_c_startWind f_c_slips f_c_lines f_c_coded f_c_tiresFrom f_c_tiresTo f_c_mayFrom f_c_mayTo b_c_bars b_c_gives b_can v3 v1 v4 hv4) (cwV 2 ht (zq_V zq_525 zq_526 zq_527 zq_513 zq_523) rfl rfl rfl zk_X7_firstRung ⟨Nat.le_of_ble_eq_true rfl, Nat.le_of_ble_eq_true rfl⟩) rfl rfl hZ hK hP hD hS hA [0, 1, 2, 3, 4] [] (by decide) (by decide) (by decide) rfl rfl rfl hl.1 (Nat.le_of_ble_eq_true rfl) dX7_rungOfThing_27 ⟨Nat.zero_le _, Nat.zero_le _⟩ rfl (fun H locs hP hD hS => ?_)
        have hP : va_P (dC, dI) zz_cls [zo_X7 a_o a_c a_can f_o_rungs, zo_X0 a_c f_c_top f_c_things a_c_bars a_c_gives a_c_rough f_c_startRung f_c_startThings f_c_startStrength f_c_startWind f_c_slips f_c_lines a_c_code f_c_coded f_c_tiresFrom f_c_tiresTo f_c_mayFrom f_c_mayTo, (a_c_bars, .inl (dA 0, 9, .inl b_c_bars)), (a_c_gives, .inl (dA 0, 9, .inl b_c_gives)), (a_can, .inl (dA 0, 2880, .inl b_can))] H := hP
        have hD : va_D A [zo_X7 a_o a_c a_can f_o_rungs, zo_X0 a_c f_c_top f_c_things a_c_bars a_c_gives a_c_rough f_c_startRung f_c_startThings f_c_startStrength f_c_startWind f_c_slips f_c_lines a_c_code f_c_coded f_c_tiresFrom f_c_tiresTo f_c_mayFrom f_c_mayTo, (a_c_bars, .inl (dA 0, 9, .inl b_c_bars)), (a_c_gives, .inl (dA 0, 9, .inl b_c_gives)), (a_can, .inl (dA 0, 2880, .inl b_can))] := hD
        refine lv_goto (tgt := 34) (pc := 30) hx hb dX7_rungOfThing_30 rfl ?_
        obtain rfl := Option.some.inj hf
        exact J34 _ _ _ ⟨lv_sub hl [0, 1, 2, 3, 5] rfl, hP, hD, hS⟩

def zf_X8_reach (f_o_size : Int32) (f_o_rung : Int32) (b_ord : (Nat → Int32)) (b_dep : (Nat → Int32)) (b_k1 : (Nat → Int64)) (p1 : Int32) (p2 : Int32) : Option (Int32 × (Nat → Int32) × (Nat → Int32) × (Nat → Int64)) :=
  zd_1 (za_ld b_dep 2880 p1) (fun v1 =>
  if v1 = (-1 : Int32) then
    if (2880 : Int32) ≤ f_o_size then
      some (f_o_size, b_ord, b_dep, b_k1)
    else
      zd_1 (za_st b_dep 2880 p1 p2) (fun a2 =>
      zd_1 (zf_X10_rungOf p1) (fun v3 =>
      zd_1 (
        if v3 = f_o_rung then
          some (1 : Int64)
        else
          some (0 : Int64)) (fun v4 =>
      zd_1 (za_st b_k1 2880 p1 v4) (fun a5 =>
      zd_1 (za_st b_ord 2880 f_o_size p1) (fun a6 =>
      zd_1 (some ((f_o_size + (1 : Int32)))) (fun v7 =>
      some (v7, a6, a2, a5)))))))
  else
    some (f_o_size, b_ord, b_dep, b_k1))
theorem zk_X8_reach : yX8_reach.cls = RX8 ∧ yX8_reach.cls ≠ "java/lang/invoke/MethodHandle" ∧ yX8_reach.cls ≠ "java/lang/invoke/VarHandle" ∧ (parseMethodDescriptor yX8_reach.desc).map (fun d => d.parameters.length) = some 2 := by decide +kernel
set_option maxHeartbeats 4000000 in
set_option maxRecDepth 100000 in
theorem zt_X8_reach (l : Launch) (dC : Nat → ClassId) (dI : Nat → Nat → Nat) (dA : Nat → ClassId) (adK adV : Nat → Nat) (sz : Nat) (a_o : Nat) (a_c : Nat) (a_m : Nat) (a_ord : Nat) (a_dep : Nat) (a_k1 : Nat) (a_k2 : Nat) (f_o_size : Int32) (f_o_rung : Int32) (f_o_whole : Int64) (f_o_result : Int64) (f_o_firstDeed : Int32) (b_ord : (Nat → Int32)) (b_dep : (Nat → Int32)) (b_k1 : (Nat → Int64)) (p1 : Int32) (p2 : Int32) (o1 : Int32) (o2 : (Nat → Int32)) (o3 : (Nat → Int32)) (o4 : (Nat → Int64)) (hf : zf_X8_reach f_o_size f_o_rung b_ord b_dep b_k1 p1 p2 = some (o1, o2, o3, o4)) : Met l yX8_reach (.code yX8_reach cX8_reach 3 none :: zq_T) ({ frames := 1, cells := 0, slots := 0, locals := 20 }) (va_Pc [.ref a_o, .int p1, .int p2] (zx_M dC dI dA adK adV [zo_X8 a_o a_c a_m a_ord a_dep f_o_size a_k1 a_k2 f_o_rung f_o_whole f_o_result f_o_firstDeed, (a_ord, .inl (dA 0, 2880, .inl b_ord)), (a_dep, .inl (dA 0, 2880, .inl b_dep)), (a_k1, .inl (dA 1, 2880, .inr (.inl b_k1)))] sz)) (va_Qv (fun _ : Unit => True) (fun _ t => zz_B dC dI dA (va_A [zo_X8 a_o a_c a_m a_ord a_dep f_o_size a_k1 a_k2 f_o_rung f_o_whole f_o_result f_o_firstDeed, (a_ord, .inl (dA 0, 2880, .inl b_ord)), (a_dep, .inl (dA 0, 2880, .inl b_dep)), (a_k1, .inl (dA 1, 2880, .inr (.inl b_k1)))] sz) [zo_X8 a_o a_c a_m a_ord a_dep o1 a_k1 a_k2 f_o_rung f_o_whole f_o_result f_o_firstDeed, (a_ord, .inl (dA 0, 2880, .inl o2)), (a_dep, .inl (dA 0, 2880, .inl o3)), (a_k1, .inl (dA 1, 2880, .inr (.inl o4)))] t) (va_A [zo_X8 a_o a_c a_m a_ord a_dep f_o_size a_k1 a_k2 f_o_rung f_o_whole f_o_result f_o_firstDeed, (a_ord, .inl (dA 0, 2880, .inl b_ord)), (a_dep, .inl (dA 0, 2880, .inl b_dep)), (a_k1, .inl (dA 1, 2880, .inr (.inl b_k1)))] sz)) 0 0 (va_A [zo_X8 a_o a_c a_m a_ord a_dep f_o_size a_k1 a_k2 f_o_rung f_o_whole f_o_result f_o_firstDeed, (a_ord, .inl (dA 0, 2880, .inl b_ord)), (a_dep, .inl (dA 0, 2880, .inl b_dep)), (a_k1, .inl (dA 1, 2880, .inr (.inl b_k1)))] sz) := by
  unfold zf_X8_reach at hf
  refine Met.ofW (cc := cX8_reach) (maxL := 3) (ret := none) (by decide) rfl ?_
  intro p e s m args below meth c s₁ B hml hv
  obtain ⟨rfl, ⟨hsz, hP, hK, hD0⟩, hZ⟩ := hv
  have hx := B.exec
  have hb := B.bytes
  have hr := B.returns
  have ht : ∀ w ∈ zq_T, w.before ([.ref a_o, .int p1, .int p2] : List Value).toArray s = true := fun w hw => atoms_spec (ws := .code yX8_reach cX8_reach 3 none :: zq_T) B.pre w (List.mem_cons_of_mem _ hw)
  have hown : s.vm.findClass RX8 = some m.cls := findClass_of_methodNamed B.named
  have hlocks := B.notSynchronized
  subst hsz
  have hD := hD0.self (sz := s.heap.size)
  generalize hAe : va_A [zo_X8 a_o a_c a_m a_ord a_dep f_o_size a_k1 a_k2 f_o_rung f_o_whole f_o_result f_o_firstDeed, (a_ord, .inl (dA 0, 2880, .inl b_ord)), (a_dep, .inl (dA 0, 2880, .inl b_dep)), (a_k1, .inl (dA 1, 2880, .inr (.inl b_k1)))] s.heap.size = A at hD hZ ⊢
  have hA : ∀ q : Nat, s.heap.size ≤ q → A q := fun q h => by rw [← hAe]; exact Or.inr h
  clear hAe hD0
  have hS : va_S A s.heap s.heap [] := va_S.rf
  have hl := lv_entry ([.ref a_o, .int p1, .int p2]) (n := 3) (Nat.le_of_ble_eq_true rfl)
  rw [lg_entry_eq]
  generalize (lg_sl ([.ref a_o, .int p1, .int p2]) ++ List.replicate (3 - (lg_sl ([.ref a_o, .int p1, .int p2])).length) Slot.unset).toArray = ls at hl ⊢
  have hl : lv_has ls 3 [(0, .ref a_o), (1, .int p1), (2, .int p2)] := hl
  refine lv_aload_n (pc := 0) hx hb dX8_reach_0 rfl (lv_at hl 0 rfl) ?_
  refine va_get (pc := 1) (D := (dC, dI)) (ci := 9) (v := .ref a_dep) (C := RX8) (T := TX8) (N := 11) hx hb ht zq_layX8 hown hK hP 0 rfl rfl 3 (by decide) (ht _ zq_538) (fun _ h9 => h9) rfl dX8_reach_1 ?_
  refine lv_iload_n (pc := 4) hx hb dX8_reach_4 rfl (lv_at hl 1 rfl) ?_
  obtain ⟨v1, hv1, hf⟩ := zc_1 hf
  refine zw_iald (pc := 5) hx hb hK hP 2 0 rfl rfl hv1 dX8_reach_5 ?_
  refine lv_iconst (v := (-1 : Int32)) (pc := 6) hx hb dX8_reach_6 (by decide) ?_
  refine lv_icmp_ne (tgt := 69) (pc := 7) hx hb dX8_reach_7 rfl (fun hc => ?_) (fun hc => ?_)
  · have hf := za_f hf hc
    obtain ⟨rfl, rfl, rfl, rfl⟩ := zi_4 hf
    exact W.vret (pc := 69) hx hb hr (fun t ht hW => ⟨⟨(), rfl, trivial, zz_Bi (by rw [ht]; exact hP) (va_K.moved hW.alike hK) (hD)⟩, hS.F ht⟩) hS.2.2 dX8_reach_69
  · have hf := za_t hf hc
    refine lv_aload_n (pc := 10) hx hb dX8_reach_10 rfl (lv_at hl 0 rfl) ?_
    refine va_get (pc := 11) (D := (dC, dI)) (ci := 9) (v := .int f_o_size) (C := RX8) (T := TX8) (N := 11) hx hb ht zq_layX8 hown hK hP 0 rfl rfl 4 (by decide) (ht _ zq_530) (fun _ h9 => h9) rfl dX8_reach_11 ?_
    refine lv_sipush (v := (2880 : Int32)) (pc := 14) hx hb dX8_reach_14 (by decide) ?_
    refine lv_icmp_ge (tgt := 69) (pc := 17) hx hb dX8_reach_17 rfl (fun hc => ?_) (fun hc => ?_)
    · have hf := za_t hf hc
      obtain ⟨rfl, rfl, rfl, rfl⟩ := zi_4 hf
      exact W.vret (pc := 69) hx hb hr (fun t ht hW => ⟨⟨(), rfl, trivial, zz_Bi (by rw [ht]; exact hP) (va_K.moved hW.alike hK) (hD)⟩, hS.F ht⟩) hS.2.2 dX8_reach_69
    · have hf := za_f hf hc
      refine lv_aload_n (pc := 20) hx hb dX8_reach_20 rfl (lv_at hl 0 rfl) ?_
      refine va_get (pc := 21) (D := (dC, dI)) (ci := 9) (v := .ref a_dep) (C := RX8) (T := TX8) (N := 11) hx hb ht zq_layX8 hown hK hP 0 rfl rfl 3 (by decide) (ht _ zq_538) (fun _ h9 => h9) rfl dX8_reach_21 ?_
      refine lv_iload_n (pc := 24) hx hb dX8_reach_24 rfl (lv_at hl 1 rfl) ?_
      refine lv_iload_n (pc := 25) hx hb dX8_reach_25 rfl (lv_at hl 2 rfl) ?_
      obtain ⟨a2, ha2, hf⟩ := zc_1 hf
      refine zw_iast (pc := 26) hx hb hK hP hD hS 2 0 rfl rfl ha2 dX8_reach_26 (fun H locs hP hD hS => ?_)
      have hP : va_P (dC, dI) zz_cls [zo_X8 a_o a_c a_m a_ord a_dep f_o_size a_k1 a_k2 f_o_rung f_o_whole f_o_result f_o_firstDeed, (a_ord, .inl (dA 0, 2880, .inl b_ord)), (a_dep, .inl (dA 0, 2880, .inl a2)), (a_k1, .inl (dA 1, 2880, .inr (.inl b_k1)))] H := hP
      have hD : va_D A [zo_X8 a_o a_c a_m a_ord a_dep f_o_size a_k1 a_k2 f_o_rung f_o_whole f_o_result f_o_firstDeed, (a_ord, .inl (dA 0, 2880, .inl b_ord)), (a_dep, .inl (dA 0, 2880, .inl a2)), (a_k1, .inl (dA 1, 2880, .inr (.inl b_k1)))] := hD
      refine lv_aload_n (pc := 27) hx hb dX8_reach_27 rfl (lv_at hl 0 rfl) ?_
      refine va_get (pc := 28) (D := (dC, dI)) (ci := 9) (v := .ref a_k1) (C := RX8) (T := TX8) (N := 11) hx hb ht zq_layX8 hown hK hP 0 rfl rfl 5 (by decide) (ht _ zq_539) (fun _ h9 => h9) rfl dX8_reach_28 ?_
      refine lv_iload_n (pc := 31) hx hb dX8_reach_31 rfl (lv_at hl 1 rfl) ?_
      refine lv_iload_n (pc := 32) hx hb dX8_reach_32 rfl (lv_at hl 1 rfl) ?_
      obtain ⟨v3, hv3, hf⟩ := zc_1 hf
      refine zx_Ni (pc := 33) (wc := []) (wr := [zo_X8 a_o a_c a_m a_ord a_dep f_o_size a_k1 a_k2 f_o_rung f_o_whole f_o_result f_o_firstDeed, (a_ord, .inl (dA 0, 2880, .inl b_ord)), (a_dep, .inl (dA 0, 2880, .inl a2)), (a_k1, .inl (dA 1, 2880, .inr (.inl b_k1)))]) (w1 := []) (As := [.int p1]) (rest := [.int p1, .ref a_k1]) ⟨hx, hb, hml, hown, ht⟩ (zt_X10_rungOf l dC dI dA adK adV _ p1 v3 hv3) ⟨va_cnB 1 ht (zq_C zq_59) rfl rfl rfl (zx_n14 hZ) (ht _ zq_58) zk_X10_rungOf.2 ⟨Nat.le_of_ble_eq_true rfl, Nat.le_of_ble_eq_true rfl⟩, ht _ zq_57, trivial⟩ hZ hK hP hD hS hA [] [0, 1, 2, 3] (by decide) (by decide) (by decide) rfl rfl rfl hl.1 (Nat.le_of_ble_eq_true rfl) dX8_reach_33 ⟨Nat.zero_le _, Nat.zero_le _⟩ rfl (fun H locs hP hD hS => ?_)
      have hP : va_P (dC, dI) zz_cls [zo_X8 a_o a_c a_m a_ord a_dep f_o_size a_k1 a_k2 f_o_rung f_o_whole f_o_result f_o_firstDeed, (a_ord, .inl (dA 0, 2880, .inl b_ord)), (a_dep, .inl (dA 0, 2880, .inl a2)), (a_k1, .inl (dA 1, 2880, .inr (.inl b_k1)))] H := hP
      have hD : va_D A [zo_X8 a_o a_c a_m a_ord a_dep f_o_size a_k1 a_k2 f_o_rung f_o_whole f_o_result f_o_firstDeed, (a_ord, .inl (dA 0, 2880, .inl b_ord)), (a_dep, .inl (dA 0, 2880, .inl a2)), (a_k1, .inl (dA 1, 2880, .inr (.inl b_k1)))] := hD
      refine lv_aload_n (pc := 36) hx hb dX8_reach_36 rfl (lv_at hl 0 rfl) ?_
      refine va_get (pc := 37) (D := (dC, dI)) (ci := 9) (v := .int f_o_rung) (C := RX8) (T := TX8) (N := 11) hx hb ht zq_layX8 hown hK hP 0 rfl rfl 7 (by decide) (ht _ zq_531) (fun _ h9 => h9) rfl dX8_reach_37 ?_
      obtain ⟨v4, hj, hf⟩ := zc_1 hf
      refine zj_join (pcJ := 48) (stk := [.long v4, .int p1, .ref a_k1]) (X := fun H locs ls => lv_has ls 3 [(0, .ref a_o), (1, .int p1)] ∧ va_P (dC, dI) zz_cls [zo_X8 a_o a_c a_m a_ord a_dep f_o_size a_k1 a_k2 f_o_rung f_o_whole f_o_result f_o_firstDeed, (a_ord, .inl (dA 0, 2880, .inl b_ord)), (a_dep, .inl (dA 0, 2880, .inl a2)), (a_k1, .inl (dA 1, 2880, .inr (.inl b_k1)))] H ∧ va_D A [zo_X8 a_o a_c a_m a_ord a_dep f_o_size a_k1 a_k2 f_o_rung f_o_whole f_o_result f_o_firstDeed, (a_ord, .inl (dA 0, 2880, .inl b_ord)), (a_dep, .inl (dA 0, 2880, .inl a2)), (a_k1, .inl (dA 1, 2880, .inr (.inl b_k1)))] ∧ va_S A s.heap H locs) (fun H locs ls hX => ?_) (fun J48 => ?_)
      · obtain ⟨hl, hP, hD, hS⟩ := hX
        clear hj
        obtain ⟨a5, ha5, hf⟩ := zc_1 hf
        refine zw_last (pc := 48) hx hb hK hP hD hS 3 1 rfl rfl ha5 dX8_reach_48 (fun H locs hP hD hS => ?_)
        have hP : va_P (dC, dI) zz_cls [zo_X8 a_o a_c a_m a_ord a_dep f_o_size a_k1 a_k2 f_o_rung f_o_whole f_o_result f_o_firstDeed, (a_ord, .inl (dA 0, 2880, .inl b_ord)), (a_dep, .inl (dA 0, 2880, .inl a2)), (a_k1, .inl (dA 1, 2880, .inr (.inl a5)))] H := hP
        have hD : va_D A [zo_X8 a_o a_c a_m a_ord a_dep f_o_size a_k1 a_k2 f_o_rung f_o_whole f_o_result f_o_firstDeed, (a_ord, .inl (dA 0, 2880, .inl b_ord)), (a_dep, .inl (dA 0, 2880, .inl a2)), (a_k1, .inl (dA 1, 2880, .inr (.inl a5)))] := hD
        refine lv_aload_n (pc := 49) hx hb dX8_reach_49 rfl (lv_at hl 0 rfl) ?_
        refine va_get (pc := 50) (D := (dC, dI)) (ci := 9) (v := .ref a_ord) (C := RX8) (T := TX8) (N := 11) hx hb ht zq_layX8 hown hK hP 0 rfl rfl 2 (by decide) (ht _ zq_537) (fun _ h9 => h9) rfl dX8_reach_50 ?_
        refine lv_aload_n (pc := 53) hx hb dX8_reach_53 rfl (lv_at hl 0 rfl) ?_
        refine va_get (pc := 54) (D := (dC, dI)) (ci := 9) (v := .int f_o_size) (C := RX8) (T := TX8) (N := 11) hx hb ht zq_layX8 hown hK hP 0 rfl rfl 4 (by decide) (ht _ zq_530) (fun _ h9 => h9) rfl dX8_reach_54 ?_
        refine lv_iload_n (pc := 57) hx hb dX8_reach_57 rfl (lv_at hl 1 rfl) ?_
        obtain ⟨a6, ha6, hf⟩ := zc_1 hf
        refine zw_iast (pc := 58) hx hb hK hP hD hS 1 0 rfl rfl ha6 dX8_reach_58 (fun H locs hP hD hS => ?_)
        have hP : va_P (dC, dI) zz_cls [zo_X8 a_o a_c a_m a_ord a_dep f_o_size a_k1 a_k2 f_o_rung f_o_whole f_o_result f_o_firstDeed, (a_ord, .inl (dA 0, 2880, .inl a6)), (a_dep, .inl (dA 0, 2880, .inl a2)), (a_k1, .inl (dA 1, 2880, .inr (.inl a5)))] H := hP
        have hD : va_D A [zo_X8 a_o a_c a_m a_ord a_dep f_o_size a_k1 a_k2 f_o_rung f_o_whole f_o_result f_o_firstDeed, (a_ord, .inl (dA 0, 2880, .inl a6)), (a_dep, .inl (dA 0, 2880, .inl a2)), (a_k1, .inl (dA 1, 2880, .inr (.inl a5)))] := hD
        refine lv_aload_n (pc := 59) hx hb dX8_reach_59 rfl (lv_at hl 0 rfl) ?_
        refine lv_dup (pc := 60) hx hb dX8_reach_60 rfl ?_
        refine va_get (pc := 61) (D := (dC, dI)) (ci := 9) (v := .int f_o_size) (C := RX8) (T := TX8) (N := 11) hx hb ht zq_layX8 hown hK hP 0 rfl rfl 4 (by decide) (ht _ zq_530) (fun _ h9 => h9) rfl dX8_reach_61 ?_
        refine lv_iconst (v := (1 : Int32)) (pc := 64) hx hb dX8_reach_64 (by decide) ?_
        refine lv_iadd (pc := 65) hx hb dX8_reach_65 ?_
        obtain ⟨v7, hv7, hf⟩ := zc_1 hf
        refine zw_top (hv7) ?_
        refine va_put (pc := 66) (D := (dC, dI)) (ci := 9) (v := .int v7) (ty := .int) (C := RX8) (T := TX8) (N := 11) hx hb ht zq_layX8 tyX8 tyX8_ok nmX8 hown hK hP hD hS 0 rfl rfl 4 (by decide) (ht _ zq_530) (fun _ h9 => h9) rfl (by decide +kernel) rfl rfl (Nat.le_of_ble_eq_true rfl) dX8_reach_66 (fun H locs hP hD hS => ?_)
        have hP : va_P (dC, dI) zz_cls [zo_X8 a_o a_c a_m a_ord a_dep v7 a_k1 a_k2 f_o_rung f_o_whole f_o_result f_o_firstDeed, (a_ord, .inl (dA 0, 2880, .inl a6)), (a_dep, .inl (dA 0, 2880, .inl a2)), (a_k1, .inl (dA 1, 2880, .inr (.inl a5)))] H := hP
        have hD : va_D A [zo_X8 a_o a_c a_m a_ord a_dep v7 a_k1 a_k2 f_o_rung f_o_whole f_o_result f_o_firstDeed, (a_ord, .inl (dA 0, 2880, .inl a6)), (a_dep, .inl (dA 0, 2880, .inl a2)), (a_k1, .inl (dA 1, 2880, .inr (.inl a5)))] := hD
        obtain ⟨rfl, rfl, rfl, rfl⟩ := zi_4 hf
        exact W.vret (pc := 69) hx hb hr (fun t ht hW => ⟨⟨(), rfl, trivial, zz_Bi (by rw [ht]; exact hP) (va_K.moved hW.alike hK) (hD)⟩, hS.F ht⟩) hS.2.2 dX8_reach_69
      · clear hf
        have hf := hj
        clear hj
        refine lv_icmp_ne (tgt := 47) (pc := 40) hx hb dX8_reach_40 rfl (fun hc => ?_) (fun hc => ?_)
        · have hf := za_f hf hc
          refine lv_lconst (v := (0 : Int64)) (pc := 47) hx hb dX8_reach_47 (by decide) ?_
          obtain rfl := Option.some.inj hf
          exact J48 _ _ _ ⟨lv_sub hl [0, 1] rfl, hP, hD, hS⟩
        · have hf := za_t hf hc
          refine lv_lconst (v := (1 : Int64)) (pc := 43) hx hb dX8_reach_43 (by decide) ?_
          refine lv_goto (tgt := 48) (pc := 44) hx hb dX8_reach_44 rfl ?_
          obtain rfl := Option.some.inj hf
          exact J48 _ _ _ ⟨lv_sub hl [0, 1] rfl, hP, hD, hS⟩

def zf_X8_slipped (p0 : Int32) (p1 : Int32) : Option (Int32) :=
  zd_1 (zf_X10_rungOf p0) (fun v1 =>
  zd_1 (zf_X10_thingsOf p0) (fun v2 =>
  zd_1 (zf_X10_strengthOf p1) (fun v3 =>
  zd_1 (zf_X10_standOf v1 v2 v3) (fun v4 =>
  some v4))))
theorem zk_X8_slipped : yX8_slipped.cls = RX8 ∧ yX8_slipped.cls ≠ "java/lang/invoke/MethodHandle" ∧ yX8_slipped.cls ≠ "java/lang/invoke/VarHandle" ∧ (parseMethodDescriptor yX8_slipped.desc).map (fun d => d.parameters.length) = some 2 := by decide +kernel
set_option maxHeartbeats 4000000 in
set_option maxRecDepth 100000 in
theorem zt_X8_slipped (l : Launch) (dC : Nat → ClassId) (dI : Nat → Nat → Nat) (dA : Nat → ClassId) (adK adV : Nat → Nat) (sz : Nat) (p0 : Int32) (p1 : Int32) (r0 : Int32) (hf : zf_X8_slipped p0 p1 = some r0) : Met l yX8_slipped (.code yX8_slipped cX8_slipped 2 (some .int) :: zq_T) ({ frames := 1, cells := 0, slots := 0, locals := 22 }) (va_Pc [.int p0, .int p1] (zx_M dC dI dA adK adV [] sz)) (va_Qi (fun (r : Int32) (_ : Unit) => r = r0) (fun _ t => zz_B dC dI dA (va_A [] sz) [] t) (va_A [] sz)) 0 0 (va_A [] sz) := by
  unfold zf_X8_slipped at hf
  refine Met.ofW (cc := cX8_slipped) (maxL := 2) (ret := (some .int)) (by decide) rfl ?_
  intro p e s m args below meth c s₁ B hml hv
  obtain ⟨rfl, ⟨hsz, hP, hK, hD0⟩, hZ⟩ := hv
  have hx := B.exec
  have hb := B.bytes
  have hr := B.returns
  have ht : ∀ w ∈ zq_T, w.before ([.int p0, .int p1] : List Value).toArray s = true := fun w hw => atoms_spec (ws := .code yX8_slipped cX8_slipped 2 (some .int) :: zq_T) B.pre w (List.mem_cons_of_mem _ hw)
  have hown : s.vm.findClass RX8 = some m.cls := findClass_of_methodNamed B.named
  have hlocks := B.notSynchronized
  subst hsz
  have hD := hD0.self (sz := s.heap.size)
  generalize hAe : va_A [] s.heap.size = A at hD hZ ⊢
  have hA : ∀ q : Nat, s.heap.size ≤ q → A q := fun q h => by rw [← hAe]; exact Or.inr h
  clear hAe hD0
  have hS : va_S A s.heap s.heap [] := va_S.rf
  have hl := lv_entry ([.int p0, .int p1]) (n := 2) (Nat.le_of_ble_eq_true rfl)
  rw [lg_entry_eq]
  generalize (lg_sl ([.int p0, .int p1]) ++ List.replicate (2 - (lg_sl ([.int p0, .int p1])).length) Slot.unset).toArray = ls at hl ⊢
  have hl : lv_has ls 2 [(0, .int p0), (1, .int p1)] := hl
  refine lv_iload_n (pc := 0) hx hb dX8_slipped_0 rfl (lv_at hl 0 rfl) ?_
  obtain ⟨v1, hv1, hf⟩ := zc_1 hf
  refine zx_Ni (pc := 1) (wc := []) (wr := []) (w1 := []) (As := [.int p0]) (rest := []) ⟨hx, hb, hml, hown, ht⟩ (zt_X10_rungOf l dC dI dA adK adV _ p0 v1 hv1) ⟨va_cnB 1 ht (zq_C zq_59) rfl rfl rfl (zx_n14 hZ) (ht _ zq_58) zk_X10_rungOf.2 ⟨Nat.le_of_ble_eq_true rfl, Nat.le_of_ble_eq_true rfl⟩, ht _ zq_57, trivial⟩ hZ hK hP hD hS hA [] [] (by decide) (by decide) (by decide) rfl rfl rfl hl.1 (Nat.le_of_ble_eq_true rfl) dX8_slipped_1 ⟨Nat.zero_le _, Nat.zero_le _⟩ rfl (fun H locs hP hD hS => ?_)
  have hP : va_P (dC, dI) zz_cls [] H := hP
  have hD : va_D A [] := hD
  refine lv_iload_n (pc := 4) hx hb dX8_slipped_4 rfl (lv_at hl 0 rfl) ?_
  obtain ⟨v2, hv2, hf⟩ := zc_1 hf
  refine zx_Ni (pc := 5) (wc := []) (wr := []) (w1 := []) (As := [.int p0]) (rest := [.int v1]) ⟨hx, hb, hml, hown, ht⟩ (zt_X10_thingsOf l dC dI dA adK adV _ p0 v2 hv2) ⟨va_cnB 1 ht (zq_C zq_61) rfl rfl rfl (zx_n15 hZ) (ht _ zq_58) zk_X10_thingsOf.2 ⟨Nat.le_of_ble_eq_true rfl, Nat.le_of_ble_eq_true rfl⟩, ht _ zq_60, trivial⟩ hZ hK hP hD hS hA [] [] (by decide) (by decide) (by decide) rfl rfl rfl hl.1 (Nat.le_of_ble_eq_true rfl) dX8_slipped_5 ⟨Nat.zero_le _, Nat.zero_le _⟩ rfl (fun H locs hP hD hS => ?_)
  have hP : va_P (dC, dI) zz_cls [] H := hP
  have hD : va_D A [] := hD
  refine lv_iload_n (pc := 8) hx hb dX8_slipped_8 rfl (lv_at hl 1 rfl) ?_
  obtain ⟨v3, hv3, hf⟩ := zc_1 hf
  refine zx_Ni (pc := 9) (wc := []) (wr := []) (w1 := []) (As := [.int p1]) (rest := [.int v2, .int v1]) ⟨hx, hb, hml, hown, ht⟩ (zt_X10_strengthOf l dC dI dA adK adV _ p1 v3 hv3) ⟨va_cnB 1 ht (zq_C zq_63) rfl rfl rfl (zx_n16 hZ) (ht _ zq_58) zk_X10_strengthOf.2 ⟨Nat.le_of_ble_eq_true rfl, Nat.le_of_ble_eq_true rfl⟩, ht _ zq_62, trivial⟩ hZ hK hP hD hS hA [] [] (by decide) (by decide) (by decide) rfl rfl rfl hl.1 (Nat.le_of_ble_eq_true rfl) dX8_slipped_9 ⟨Nat.zero_le _, Nat.zero_le _⟩ rfl (fun H locs hP hD hS => ?_)
  have hP : va_P (dC, dI) zz_cls [] H := hP
  have hD : va_D A [] := hD
  obtain ⟨v4, hv4, hf⟩ := zc_1 hf
  refine zx_Ni (pc := 12) (wc := []) (wr := []) (w1 := []) (As := [.int v1, .int v2, .int v3]) (rest := []) ⟨hx, hb, hml, hown, ht⟩ (zt_X10_standOf l dC dI dA adK adV _ v1 v2 v3 v4 hv4) ⟨va_cnB 3 ht (zq_C zq_132) rfl rfl rfl (zx_n17 hZ) (ht _ zq_58) zk_X10_standOf.2 ⟨Nat.le_of_ble_eq_true rfl, Nat.le_of_ble_eq_true rfl⟩, ht _ zq_131, trivial⟩ hZ hK hP hD hS hA [] [] (by decide) (by decide) (by decide) rfl rfl rfl hl.1 (Nat.le_of_ble_eq_true rfl) dX8_slipped_12 ⟨Nat.zero_le _, Nat.zero_le _⟩ rfl (fun H locs hP hD hS => ?_)
  have hP : va_P (dC, dI) zz_cls [] H := hP
  have hD : va_D A [] := hD
  obtain rfl := Option.some.inj hf
  exact W.iret (pc := 15) hx hb hr (fun t ht hW => ⟨⟨_, (), rfl, rfl, zz_Bi (by rw [ht]; exact hP) (va_K.moved hW.alike hK) (hD)⟩, hS.F ht⟩) hS.2.2 dX8_slipped_15

def zb_X8_reachFrom_11 (v1 : Int32) (a7 : (Nat → Int32)) (p1 : Int32) (f_o_rung : Int32) (a6 : (Nat → Int32)) (v8 : Int32) (v9 : Int32) (a10 : (Nat → Int32)) (a11 : (Nat → Int32)) (a12 : (Nat → Int64)) : Option (Nat × Int32 × Int32 × (Nat → Int32) × (Nat → Int32) × (Nat → Int64)) :=
  if v1 ≤ v8 then
    some (1, v8, v9, a10, a11, a12)
  else
    zd_1 (za_ld a7 9 v8) (fun v13 =>
    zd_1 (za_ld a11 2880 p1) (fun v14 =>
    zd_4 (zf_X8_reach v9 f_o_rung a10 a11 a12 v13 (v14 + (1 : Int32))) (fun v15 a16 a17 a18 =>
    zd_1 (za_ld a6 9 v8) (fun v19 =>
    zd_4 (
      if v19 = (1 : Int32) then
        zd_1 (za_ld a7 9 v8) (fun v20 =>
        zd_1 (zf_X8_slipped p1 v20) (fun v21 =>
        zd_1 (za_ld a17 2880 p1) (fun v22 =>
        zd_4 (zf_X8_reach v15 f_o_rung a16 a17 a18 v21 (v22 + (1 : Int32))) (fun v23 a24 a25 a26 =>
        some (v23, a24, a25, a26)))))
      else
        some (v15, a16, a17, a18)) (fun v27 a28 a29 a30 =>
    zd_1 (some (v8 + (1 : Int32))) (fun v31 =>
    some (0, v31, v27, a28, a29, a30)))))))
def zf_X8_reachFrom (n : Nat) (f_o_size : Int32) (f_o_rung : Int32) (f_c_top : Int32) (f_c_things : Int32) (f_c_tiresFrom : Int32) (f_c_tiresTo : Int32) (f_c_mayFrom : Int32) (f_c_mayTo : Int32) (b_c_bars : (Nat → Int32)) (b_c_gives : (Nat → Int32)) (b_c_rough : (Nat → Int32)) (b_c_code : (Nat → Int32)) (f_m_found : Int32) (f_w_wind : Int32) (b_w_told : (Nat → Int32)) (b_w_facts : (Nat → Int32)) (b_w_stack : (Nat → Int32)) (b_m_deeds : (Nat → Int32)) (b_m_ends : (Nat → Int32)) (b_ord : (Nat → Int32)) (b_dep : (Nat → Int32)) (b_k1 : (Nat → Int64)) (p1 : Int32) : Option (Int32 × Int32 × (Nat → Int32) × (Nat → Int32) × (Nat → Int32) × (Nat → Int32) × (Nat → Int32) × (Nat → Int32) × (Nat → Int32) × (Nat → Int64)) :=
  zd_7 (zf_X3_gather n f_m_found f_c_top f_c_things f_c_tiresFrom f_c_tiresTo f_c_mayFrom f_c_mayTo b_c_bars b_c_gives b_c_rough b_c_code f_w_wind b_w_told b_w_facts b_w_stack b_m_deeds b_m_ends p1) (fun v1 v2 a3 a4 a5 a6 a7 =>
  zd_6 (za_it (fun v => zb_X8_reachFrom_11 v1 a7 p1 f_o_rung a6 v.1 v.2.1 v.2.2.1 v.2.2.2.1 v.2.2.2.2) n ((0 : Int32), f_o_size, b_ord, b_dep, b_k1)) (fun g37 v32 v33 a34 a35 a36 =>
  some (v33, v2, a3, a4, a5, a6, a7, a34, a35, a36)))
theorem zk_X8_reachFrom : yX8_reachFrom.cls = RX8 ∧ yX8_reachFrom.cls ≠ "java/lang/invoke/MethodHandle" ∧ yX8_reachFrom.cls ≠ "java/lang/invoke/VarHandle" ∧ (parseMethodDescriptor yX8_reachFrom.desc).map (fun d => d.parameters.length) = some 1 := by decide +kernel
set_option maxHeartbeats 4000000 in
set_option maxRecDepth 100000 in
theorem zt_X8_reachFrom (l : Launch) (dC : Nat → ClassId) (dI : Nat → Nat → Nat) (dA : Nat → ClassId) (adK adV : Nat → Nat) (sz : Nat) (a_o : Nat) (a_c : Nat) (a_m : Nat) (a_ord : Nat) (a_dep : Nat) (a_k1 : Nat) (a_k2 : Nat) (a_c_bars : Nat) (a_c_gives : Nat) (a_c_rough : Nat) (a_c_code : Nat) (a_w : Nat) (a_m_deeds : Nat) (a_m_ends : Nat) (a_w_told : Nat) (a_w_facts : Nat) (a_w_stack : Nat) (n : Nat) (f_o_size : Int32) (f_o_rung : Int32) (f_o_whole : Int64) (f_o_result : Int64) (f_o_firstDeed : Int32) (f_c_top : Int32) (f_c_things : Int32) (f_c_startRung : Int32) (f_c_startThings : Int32) (f_c_startStrength : Int32) (f_c_startWind : Int32) (f_c_slips : Int32) (f_c_lines : Int32) (f_c_coded : Int32) (f_c_tiresFrom : Int32) (f_c_tiresTo : Int32) (f_c_mayFrom : Int32) (f_c_mayTo : Int32) (f_m_found : Int32) (f_w_wind : Int32) (b_c_bars : (Nat → Int32)) (b_c_gives : (Nat → Int32)) (b_c_rough : (Nat → Int32)) (b_c_code : (Nat → Int32)) (b_w_told : (Nat → Int32)) (b_w_facts : (Nat → Int32)) (b_w_stack : (Nat → Int32)) (b_m_deeds : (Nat → Int32)) (b_m_ends : (Nat → Int32)) (b_ord : (Nat → Int32)) (b_dep : (Nat → Int32)) (b_k1 : (Nat → Int64)) (p1 : Int32) (o1 : Int32) (o2 : Int32) (o3 : (Nat → Int32)) (o4 : (Nat → Int32)) (o5 : (Nat → Int32)) (o6 : (Nat → Int32)) (o7 : (Nat → Int32)) (o8 : (Nat → Int32)) (o9 : (Nat → Int32)) (o10 : (Nat → Int64)) (hf : zf_X8_reachFrom n f_o_size f_o_rung f_c_top f_c_things f_c_tiresFrom f_c_tiresTo f_c_mayFrom f_c_mayTo b_c_bars b_c_gives b_c_rough b_c_code f_m_found f_w_wind b_w_told b_w_facts b_w_stack b_m_deeds b_m_ends b_ord b_dep b_k1 p1 = some (o1, o2, o3, o4, o5, o6, o7, o8, o9, o10)) : Met l yX8_reachFrom (.code yX8_reachFrom cX8_reachFrom 4 none :: zq_T) ({ frames := 5, cells := 0, slots := 0, locals := 152 }) (va_Pc [.ref a_o, .int p1] (zx_M dC dI dA adK adV [zo_X8 a_o a_c a_m a_ord a_dep f_o_size a_k1 a_k2 f_o_rung f_o_whole f_o_result f_o_firstDeed, zo_X0 a_c f_c_top f_c_things a_c_bars a_c_gives a_c_rough f_c_startRung f_c_startThings f_c_startStrength f_c_startWind f_c_slips f_c_lines a_c_code f_c_coded f_c_tiresFrom f_c_tiresTo f_c_mayFrom f_c_mayTo, (a_c_bars, .inl (dA 0, 9, .inl b_c_bars)), (a_c_gives, .inl (dA 0, 9, .inl b_c_gives)), (a_c_rough, .inl (dA 0, 9, .inl b_c_rough)), (a_c_code, .inl (dA 0, 900, .inl b_c_code)), zo_X3 a_m a_c a_w a_m_deeds a_m_ends f_m_found, zo_X2 a_w a_c a_w_told a_w_facts a_w_stack f_w_wind, (a_w_told, .inl (dA 0, 315, .inl b_w_told)), (a_w_facts, .inl (dA 0, 6, .inl b_w_facts)), (a_w_stack, .inl (dA 0, 64, .inl b_w_stack)), (a_m_deeds, .inl (dA 0, 9, .inl b_m_deeds)), (a_m_ends, .inl (dA 0, 9, .inl b_m_ends)), (a_ord, .inl (dA 0, 2880, .inl b_ord)), (a_dep, .inl (dA 0, 2880, .inl b_dep)), (a_k1, .inl (dA 1, 2880, .inr (.inl b_k1)))] sz)) (va_Qv (fun _ : Unit => True) (fun _ t => zz_B dC dI dA (va_A [zo_X8 a_o a_c a_m a_ord a_dep f_o_size a_k1 a_k2 f_o_rung f_o_whole f_o_result f_o_firstDeed, zo_X0 a_c f_c_top f_c_things a_c_bars a_c_gives a_c_rough f_c_startRung f_c_startThings f_c_startStrength f_c_startWind f_c_slips f_c_lines a_c_code f_c_coded f_c_tiresFrom f_c_tiresTo f_c_mayFrom f_c_mayTo, (a_c_bars, .inl (dA 0, 9, .inl b_c_bars)), (a_c_gives, .inl (dA 0, 9, .inl b_c_gives)), (a_c_rough, .inl (dA 0, 9, .inl b_c_rough)), (a_c_code, .inl (dA 0, 900, .inl b_c_code)), zo_X3 a_m a_c a_w a_m_deeds a_m_ends f_m_found, zo_X2 a_w a_c a_w_told a_w_facts a_w_stack f_w_wind, (a_w_told, .inl (dA 0, 315, .inl b_w_told)), (a_w_facts, .inl (dA 0, 6, .inl b_w_facts)), (a_w_stack, .inl (dA 0, 64, .inl b_w_stack)), (a_m_deeds, .inl (dA 0, 9, .inl b_m_deeds)), (a_m_ends, .inl (dA 0, 9, .inl b_m_ends)), (a_ord, .inl (dA 0, 2880, .inl b_ord)), (a_dep, .inl (dA 0, 2880, .inl b_dep)), (a_k1, .inl (dA 1, 2880, .inr (.inl b_k1)))] sz) [zo_X8 a_o a_c a_m a_ord a_dep o1 a_k1 a_k2 f_o_rung f_o_whole f_o_result f_o_firstDeed, zo_X0 a_c f_c_top f_c_things a_c_bars a_c_gives a_c_rough f_c_startRung f_c_startThings f_c_startStrength f_c_startWind f_c_slips f_c_lines a_c_code f_c_coded f_c_tiresFrom f_c_tiresTo f_c_mayFrom f_c_mayTo, (a_c_bars, .inl (dA 0, 9, .inl b_c_bars)), (a_c_gives, .inl (dA 0, 9, .inl b_c_gives)), (a_c_rough, .inl (dA 0, 9, .inl b_c_rough)), (a_c_code, .inl (dA 0, 900, .inl b_c_code)), zo_X3 a_m a_c a_w a_m_deeds a_m_ends o2, zo_X2 a_w a_c a_w_told a_w_facts a_w_stack f_w_wind, (a_w_told, .inl (dA 0, 315, .inl o3)), (a_w_facts, .inl (dA 0, 6, .inl o4)), (a_w_stack, .inl (dA 0, 64, .inl o5)), (a_m_deeds, .inl (dA 0, 9, .inl o6)), (a_m_ends, .inl (dA 0, 9, .inl o7)), (a_ord, .inl (dA 0, 2880, .inl o8)), (a_dep, .inl (dA 0, 2880, .inl o9)), (a_k1, .inl (dA 1, 2880, .inr (.inl o10)))] t) (va_A [zo_X8 a_o a_c a_m a_ord a_dep f_o_size a_k1 a_k2 f_o_rung f_o_whole f_o_result f_o_firstDeed, zo_X0 a_c f_c_top f_c_things a_c_bars a_c_gives a_c_rough f_c_startRung f_c_startThings f_c_startStrength f_c_startWind f_c_slips f_c_lines a_c_code f_c_coded f_c_tiresFrom f_c_tiresTo f_c_mayFrom f_c_mayTo, (a_c_bars, .inl (dA 0, 9, .inl b_c_bars)), (a_c_gives, .inl (dA 0, 9, .inl b_c_gives)), (a_c_rough, .inl (dA 0, 9, .inl b_c_rough)), (a_c_code, .inl (dA 0, 900, .inl b_c_code)), zo_X3 a_m a_c a_w a_m_deeds a_m_ends f_m_found, zo_X2 a_w a_c a_w_told a_w_facts a_w_stack f_w_wind, (a_w_told, .inl (dA 0, 315, .inl b_w_told)), (a_w_facts, .inl (dA 0, 6, .inl b_w_facts)), (a_w_stack, .inl (dA 0, 64, .inl b_w_stack)), (a_m_deeds, .inl (dA 0, 9, .inl b_m_deeds)), (a_m_ends, .inl (dA 0, 9, .inl b_m_ends)), (a_ord, .inl (dA 0, 2880, .inl b_ord)), (a_dep, .inl (dA 0, 2880, .inl b_dep)), (a_k1, .inl (dA 1, 2880, .inr (.inl b_k1)))] sz)) 0 0 (va_A [zo_X8 a_o a_c a_m a_ord a_dep f_o_size a_k1 a_k2 f_o_rung f_o_whole f_o_result f_o_firstDeed, zo_X0 a_c f_c_top f_c_things a_c_bars a_c_gives a_c_rough f_c_startRung f_c_startThings f_c_startStrength f_c_startWind f_c_slips f_c_lines a_c_code f_c_coded f_c_tiresFrom f_c_tiresTo f_c_mayFrom f_c_mayTo, (a_c_bars, .inl (dA 0, 9, .inl b_c_bars)), (a_c_gives, .inl (dA 0, 9, .inl b_c_gives)), (a_c_rough, .inl (dA 0, 9, .inl b_c_rough)), (a_c_code, .inl (dA 0, 900, .inl b_c_code)), zo_X3 a_m a_c a_w a_m_deeds a_m_ends f_m_found, zo_X2 a_w a_c a_w_told a_w_facts a_w_stack f_w_wind, (a_w_told, .inl (dA 0, 315, .inl b_w_told)), (a_w_facts, .inl (dA 0, 6, .inl b_w_facts)), (a_w_stack, .inl (dA 0, 64, .inl b_w_stack)), (a_m_deeds, .inl (dA 0, 9, .inl b_m_deeds)), (a_m_ends, .inl (dA 0, 9, .inl b_m_ends)), (a_ord, .inl (dA 0, 2880, .inl b_ord)), (a_dep, .inl (dA 0, 2880, .inl b_dep)), (a_k1, .inl (dA 1, 2880, .inr (.inl b_k1)))] sz) := by
  unfold zf_X8_reachFrom at hf
  refine Met.ofW (cc := cX8_reachFrom) (maxL := 4) (ret := none) (by decide) rfl ?_
  intro p e s m args below meth c s₁ B hml hv
  obtain ⟨rfl, ⟨hsz, hP, hK, hD0⟩, hZ⟩ := hv
  have hx := B.exec
  have hb := B.bytes
  have hr := B.returns
  have ht : ∀ w ∈ zq_T, w.before ([.ref a_o, .int p1] : List Value).toArray s = true := fun w hw => atoms_spec (ws := .code yX8_reachFrom cX8_reachFrom 4 none :: zq_T) B.pre w (List.mem_cons_of_mem _ hw)
  have hown : s.vm.findClass RX8 = some m.cls := findClass_of_methodNamed B.named
  have hlocks := B.notSynchronized
  subst hsz
  have hD := hD0.self (sz := s.heap.size)
  generalize hAe : va_A [zo_X8 a_o a_c a_m a_ord a_dep f_o_size a_k1 a_k2 f_o_rung f_o_whole f_o_result f_o_firstDeed, zo_X0 a_c f_c_top f_c_things a_c_bars a_c_gives a_c_rough f_c_startRung f_c_startThings f_c_startStrength f_c_startWind f_c_slips f_c_lines a_c_code f_c_coded f_c_tiresFrom f_c_tiresTo f_c_mayFrom f_c_mayTo, (a_c_bars, .inl (dA 0, 9, .inl b_c_bars)), (a_c_gives, .inl (dA 0, 9, .inl b_c_gives)), (a_c_rough, .inl (dA 0, 9, .inl b_c_rough)), (a_c_code, .inl (dA 0, 900, .inl b_c_code)), zo_X3 a_m a_c a_w a_m_deeds a_m_ends f_m_found, zo_X2 a_w a_c a_w_told a_w_facts a_w_stack f_w_wind, (a_w_told, .inl (dA 0, 315, .inl b_w_told)), (a_w_facts, .inl (dA 0, 6, .inl b_w_facts)), (a_w_stack, .inl (dA 0, 64, .inl b_w_stack)), (a_m_deeds, .inl (dA 0, 9, .inl b_m_deeds)), (a_m_ends, .inl (dA 0, 9, .inl b_m_ends)), (a_ord, .inl (dA 0, 2880, .inl b_ord)), (a_dep, .inl (dA 0, 2880, .inl b_dep)), (a_k1, .inl (dA 1, 2880, .inr (.inl b_k1)))] s.heap.size = A at hD hZ ⊢
  have hA : ∀ q : Nat, s.heap.size ≤ q → A q := fun q h => by rw [← hAe]; exact Or.inr h
  clear hAe hD0
  have hS : va_S A s.heap s.heap [] := va_S.rf
  have hl := lv_entry ([.ref a_o, .int p1]) (n := 4) (Nat.le_of_ble_eq_true rfl)
  rw [lg_entry_eq]
  generalize (lg_sl ([.ref a_o, .int p1]) ++ List.replicate (4 - (lg_sl ([.ref a_o, .int p1])).length) Slot.unset).toArray = ls at hl ⊢
  have hl : lv_has ls 4 [(0, .ref a_o), (1, .int p1)] := hl
  refine lv_aload_n (pc := 0) hx hb dX8_reachFrom_0 rfl (lv_at hl 0 rfl) ?_
  refine va_get (pc := 1) (D := (dC, dI)) (ci := 9) (v := .ref a_m) (C := RX8) (T := TX8) (N := 11) hx hb ht zq_layX8 hown hK hP 0 rfl rfl 1 (by decide) (ht _ zq_536) (fun _ h9 => h9) rfl dX8_reachFrom_1 ?_
  refine lv_iload_n (pc := 4) hx hb dX8_reachFrom_4 rfl (lv_at hl 1 rfl) ?_
  obtain ⟨v1, v2, a3, a4, a5, a6, a7, hv1, hf⟩ := zc_7 hf
  refine zx_Vi (pc := 5) (wc := [zo_X3 a_m a_c a_w a_m_deeds a_m_ends f_m_found, zo_X0 a_c f_c_top f_c_things a_c_bars a_c_gives a_c_rough f_c_startRung f_c_startThings f_c_startStrength f_c_startWind f_c_slips f_c_lines a_c_code f_c_coded f_c_tiresFrom f_c_tiresTo f_c_mayFrom f_c_mayTo, (a_c_bars, .inl (dA 0, 9, .inl b_c_bars)), (a_c_gives, .inl (dA 0, 9, .inl b_c_gives)), (a_c_rough, .inl (dA 0, 9, .inl b_c_rough)), (a_c_code, .inl (dA 0, 900, .inl b_c_code)), zo_X2 a_w a_c a_w_told a_w_facts a_w_stack f_w_wind, (a_w_told, .inl (dA 0, 315, .inl b_w_told)), (a_w_facts, .inl (dA 0, 6, .inl b_w_facts)), (a_w_stack, .inl (dA 0, 64, .inl b_w_stack)), (a_m_deeds, .inl (dA 0, 9, .inl b_m_deeds)), (a_m_ends, .inl (dA 0, 9, .inl b_m_ends))]) (wr := [zo_X8 a_o a_c a_m a_ord a_dep f_o_size a_k1 a_k2 f_o_rung f_o_whole f_o_result f_o_firstDeed, (a_ord, .inl (dA 0, 2880, .inl b_ord)), (a_dep, .inl (dA 0, 2880, .inl b_dep)), (a_k1, .inl (dA 1, 2880, .inr (.inl b_k1)))]) (w1 := [zo_X3 a_m a_c a_w a_m_deeds a_m_ends v2, zo_X0 a_c f_c_top f_c_things a_c_bars a_c_gives a_c_rough f_c_startRung f_c_startThings f_c_startStrength f_c_startWind f_c_slips f_c_lines a_c_code f_c_coded f_c_tiresFrom f_c_tiresTo f_c_mayFrom f_c_mayTo, (a_c_bars, .inl (dA 0, 9, .inl b_c_bars)), (a_c_gives, .inl (dA 0, 9, .inl b_c_gives)), (a_c_rough, .inl (dA 0, 9, .inl b_c_rough)), (a_c_code, .inl (dA 0, 900, .inl b_c_code)), zo_X2 a_w a_c a_w_told a_w_facts a_w_stack f_w_wind, (a_w_told, .inl (dA 0, 315, .inl a3)), (a_w_facts, .inl (dA 0, 6, .inl a4)), (a_w_stack, .inl (dA 0, 64, .inl a5)), (a_m_deeds, .inl (dA 0, 9, .inl a6)), (a_m_ends, .inl (dA 0, 9, .inl a7))]) (As := [.int p1]) (rest := []) ⟨hx, hb, hml, hown, ht⟩ (zt_X3_gather l dC dI dA adK adV _ a_m a_c a_w a_m_deeds a_m_ends a_c_bars a_c_gives a_c_rough a_c_code a_w_told a_w_facts a_w_stack n f_m_found f_c_top f_c_things f_c_startRung f_c_startThings f_c_startStrength f_c_startWind f_c_slips f_c_lines f_c_coded f_c_tiresFrom f_c_tiresTo f_c_mayFrom f_c_mayTo f_w_wind b_c_bars b_c_gives b_c_rough b_c_code b_w_told b_w_facts b_w_stack b_m_deeds b_m_ends p1 v1 v2 a3 a4 a5 a6 a7 hv1) (cwV 1 ht (zq_V zq_545 zq_48 zq_49 zq_50 zq_51) rfl rfl rfl zk_X3_gather ⟨Nat.le_of_ble_eq_true rfl, Nat.le_of_ble_eq_true rfl⟩) rfl rfl hZ hK hP hD hS hA [6, 1, 2, 3, 4, 5, 7, 8, 9, 10, 11, 12] [0, 13, 14, 15] (by decide) (by decide) (by decide) rfl rfl rfl hl.1 (Nat.le_of_ble_eq_true rfl) dX8_reachFrom_5 ⟨Nat.zero_le _, Nat.zero_le _⟩ rfl (fun H locs hP hD hS => ?_)
  have hP : va_P (dC, dI) zz_cls [zo_X8 a_o a_c a_m a_ord a_dep f_o_size a_k1 a_k2 f_o_rung f_o_whole f_o_result f_o_firstDeed, (a_ord, .inl (dA 0, 2880, .inl b_ord)), (a_dep, .inl (dA 0, 2880, .inl b_dep)), (a_k1, .inl (dA 1, 2880, .inr (.inl b_k1))), zo_X3 a_m a_c a_w a_m_deeds a_m_ends v2, zo_X0 a_c f_c_top f_c_things a_c_bars a_c_gives a_c_rough f_c_startRung f_c_startThings f_c_startStrength f_c_startWind f_c_slips f_c_lines a_c_code f_c_coded f_c_tiresFrom f_c_tiresTo f_c_mayFrom f_c_mayTo, (a_c_bars, .inl (dA 0, 9, .inl b_c_bars)), (a_c_gives, .inl (dA 0, 9, .inl b_c_gives)), (a_c_rough, .inl (dA 0, 9, .inl b_c_rough)), (a_c_code, .inl (dA 0, 900, .inl b_c_code)), zo_X2 a_w a_c a_w_told a_w_facts a_w_stack f_w_wind, (a_w_told, .inl (dA 0, 315, .inl a3)), (a_w_facts, .inl (dA 0, 6, .inl a4)), (a_w_stack, .inl (dA 0, 64, .inl a5)), (a_m_deeds, .inl (dA 0, 9, .inl a6)), (a_m_ends, .inl (dA 0, 9, .inl a7))] H := hP
  have hD : va_D A [zo_X8 a_o a_c a_m a_ord a_dep f_o_size a_k1 a_k2 f_o_rung f_o_whole f_o_result f_o_firstDeed, (a_ord, .inl (dA 0, 2880, .inl b_ord)), (a_dep, .inl (dA 0, 2880, .inl b_dep)), (a_k1, .inl (dA 1, 2880, .inr (.inl b_k1))), zo_X3 a_m a_c a_w a_m_deeds a_m_ends v2, zo_X0 a_c f_c_top f_c_things a_c_bars a_c_gives a_c_rough f_c_startRung f_c_startThings f_c_startStrength f_c_startWind f_c_slips f_c_lines a_c_code f_c_coded f_c_tiresFrom f_c_tiresTo f_c_mayFrom f_c_mayTo, (a_c_bars, .inl (dA 0, 9, .inl b_c_bars)), (a_c_gives, .inl (dA 0, 9, .inl b_c_gives)), (a_c_rough, .inl (dA 0, 9, .inl b_c_rough)), (a_c_code, .inl (dA 0, 900, .inl b_c_code)), zo_X2 a_w a_c a_w_told a_w_facts a_w_stack f_w_wind, (a_w_told, .inl (dA 0, 315, .inl a3)), (a_w_facts, .inl (dA 0, 6, .inl a4)), (a_w_stack, .inl (dA 0, 64, .inl a5)), (a_m_deeds, .inl (dA 0, 9, .inl a6)), (a_m_ends, .inl (dA 0, 9, .inl a7))] := hD
  refine lv_istore_n (lv' := [(2, .int v1), (0, .ref a_o), (1, .int p1)]) (pc := 8) hx hb dX8_reachFrom_8 rfl hl (by decide) rfl (fun ls hl => ?_)
  refine lv_iconst (v := (0 : Int32)) (pc := 9) hx hb dX8_reachFrom_9 (by decide) ?_
  refine lv_istore_n (lv' := [(3, .int (0 : Int32)), (2, .int v1), (0, .ref a_o), (1, .int p1)]) (pc := 10) hx hb dX8_reachFrom_10 rfl hl (by decide) rfl (fun ls hl => ?_)
  obtain ⟨g37, v32, v33, a34, a35, a36, hj, hf⟩ := zc_6 hf
  refine zj_join (pcJ := 81) (stk := []) (X := fun H locs ls => lv_has ls 4 [] ∧ va_P (dC, dI) zz_cls [zo_X8 a_o a_c a_m a_ord a_dep v33 a_k1 a_k2 f_o_rung f_o_whole f_o_result f_o_firstDeed, zo_X0 a_c f_c_top f_c_things a_c_bars a_c_gives a_c_rough f_c_startRung f_c_startThings f_c_startStrength f_c_startWind f_c_slips f_c_lines a_c_code f_c_coded f_c_tiresFrom f_c_tiresTo f_c_mayFrom f_c_mayTo, (a_c_bars, .inl (dA 0, 9, .inl b_c_bars)), (a_c_gives, .inl (dA 0, 9, .inl b_c_gives)), (a_c_rough, .inl (dA 0, 9, .inl b_c_rough)), (a_c_code, .inl (dA 0, 900, .inl b_c_code)), zo_X3 a_m a_c a_w a_m_deeds a_m_ends v2, zo_X2 a_w a_c a_w_told a_w_facts a_w_stack f_w_wind, (a_w_told, .inl (dA 0, 315, .inl a3)), (a_w_facts, .inl (dA 0, 6, .inl a4)), (a_w_stack, .inl (dA 0, 64, .inl a5)), (a_m_deeds, .inl (dA 0, 9, .inl a6)), (a_m_ends, .inl (dA 0, 9, .inl a7)), (a_ord, .inl (dA 0, 2880, .inl a34)), (a_dep, .inl (dA 0, 2880, .inl a35)), (a_k1, .inl (dA 1, 2880, .inr (.inl a36)))] H ∧ va_D A [zo_X8 a_o a_c a_m a_ord a_dep v33 a_k1 a_k2 f_o_rung f_o_whole f_o_result f_o_firstDeed, zo_X0 a_c f_c_top f_c_things a_c_bars a_c_gives a_c_rough f_c_startRung f_c_startThings f_c_startStrength f_c_startWind f_c_slips f_c_lines a_c_code f_c_coded f_c_tiresFrom f_c_tiresTo f_c_mayFrom f_c_mayTo, (a_c_bars, .inl (dA 0, 9, .inl b_c_bars)), (a_c_gives, .inl (dA 0, 9, .inl b_c_gives)), (a_c_rough, .inl (dA 0, 9, .inl b_c_rough)), (a_c_code, .inl (dA 0, 900, .inl b_c_code)), zo_X3 a_m a_c a_w a_m_deeds a_m_ends v2, zo_X2 a_w a_c a_w_told a_w_facts a_w_stack f_w_wind, (a_w_told, .inl (dA 0, 315, .inl a3)), (a_w_facts, .inl (dA 0, 6, .inl a4)), (a_w_stack, .inl (dA 0, 64, .inl a5)), (a_m_deeds, .inl (dA 0, 9, .inl a6)), (a_m_ends, .inl (dA 0, 9, .inl a7)), (a_ord, .inl (dA 0, 2880, .inl a34)), (a_dep, .inl (dA 0, 2880, .inl a35)), (a_k1, .inl (dA 1, 2880, .inr (.inl a36)))] ∧ va_S A s.heap H locs) (fun H locs ls hX => ?_) (fun E81 => ?_)
  · obtain ⟨hl, hP, hD, hS⟩ := hX
    clear hj
    obtain ⟨rfl, rfl, rfl, rfl, rfl, rfl, rfl, rfl, rfl, rfl⟩ := zi_10 hf
    exact W.vret (pc := 81) hx hb hr (fun t ht hW => ⟨⟨(), rfl, trivial, zz_Bi (by rw [ht]; exact hP) (va_K.moved hW.alike hK) (hD)⟩, hS.F ht⟩) hS.2.2 dX8_reachFrom_81
  clear hf
  refine zw_loop (pcH := 11) (X := fun v H locs ls => lv_has ls 4 [(0, .ref a_o), (1, .int p1), (2, .int v1), (3, .int v.1)] ∧ va_P (dC, dI) zz_cls [zo_X8 a_o a_c a_m a_ord a_dep v.2.1 a_k1 a_k2 f_o_rung f_o_whole f_o_result f_o_firstDeed, zo_X0 a_c f_c_top f_c_things a_c_bars a_c_gives a_c_rough f_c_startRung f_c_startThings f_c_startStrength f_c_startWind f_c_slips f_c_lines a_c_code f_c_coded f_c_tiresFrom f_c_tiresTo f_c_mayFrom f_c_mayTo, (a_c_bars, .inl (dA 0, 9, .inl b_c_bars)), (a_c_gives, .inl (dA 0, 9, .inl b_c_gives)), (a_c_rough, .inl (dA 0, 9, .inl b_c_rough)), (a_c_code, .inl (dA 0, 900, .inl b_c_code)), zo_X3 a_m a_c a_w a_m_deeds a_m_ends v2, zo_X2 a_w a_c a_w_told a_w_facts a_w_stack f_w_wind, (a_w_told, .inl (dA 0, 315, .inl a3)), (a_w_facts, .inl (dA 0, 6, .inl a4)), (a_w_stack, .inl (dA 0, 64, .inl a5)), (a_m_deeds, .inl (dA 0, 9, .inl a6)), (a_m_ends, .inl (dA 0, 9, .inl a7)), (a_ord, .inl (dA 0, 2880, .inl v.2.2.1)), (a_dep, .inl (dA 0, 2880, .inl v.2.2.2.1)), (a_k1, .inl (dA 1, 2880, .inr (.inl v.2.2.2.2)))] H ∧ va_D A [zo_X8 a_o a_c a_m a_ord a_dep v.2.1 a_k1 a_k2 f_o_rung f_o_whole f_o_result f_o_firstDeed, zo_X0 a_c f_c_top f_c_things a_c_bars a_c_gives a_c_rough f_c_startRung f_c_startThings f_c_startStrength f_c_startWind f_c_slips f_c_lines a_c_code f_c_coded f_c_tiresFrom f_c_tiresTo f_c_mayFrom f_c_mayTo, (a_c_bars, .inl (dA 0, 9, .inl b_c_bars)), (a_c_gives, .inl (dA 0, 9, .inl b_c_gives)), (a_c_rough, .inl (dA 0, 9, .inl b_c_rough)), (a_c_code, .inl (dA 0, 900, .inl b_c_code)), zo_X3 a_m a_c a_w a_m_deeds a_m_ends v2, zo_X2 a_w a_c a_w_told a_w_facts a_w_stack f_w_wind, (a_w_told, .inl (dA 0, 315, .inl a3)), (a_w_facts, .inl (dA 0, 6, .inl a4)), (a_w_stack, .inl (dA 0, 64, .inl a5)), (a_m_deeds, .inl (dA 0, 9, .inl a6)), (a_m_ends, .inl (dA 0, 9, .inl a7)), (a_ord, .inl (dA 0, 2880, .inl v.2.2.1)), (a_dep, .inl (dA 0, 2880, .inl v.2.2.2.1)), (a_k1, .inl (dA 1, 2880, .inr (.inl v.2.2.2.2)))] ∧ va_S A s.heap H locs) hj (fun v w hf ih ex H locs ls hX => ?_) _ _ _ ⟨lv_sub hl [2, 3, 1, 0] rfl, hP.sub [0, 5, 6, 7, 8, 9, 4, 10, 11, 12, 13, 14, 15, 1, 2, 3] rfl, hD.sub [0, 5, 6, 7, 8, 9, 4, 10, 11, 12, 13, 14, 15, 1, 2, 3] (by decide) rfl, hS⟩
  clear hj
  obtain ⟨v8, v9, a10, a11, a12⟩ := v
  obtain ⟨hl, hP, hD, hS⟩ := hX
  have hl : lv_has ls 4 [(0, .ref a_o), (1, .int p1), (2, .int v1), (3, .int v8)] := hl
  have hP : va_P (dC, dI) zz_cls [zo_X8 a_o a_c a_m a_ord a_dep v9 a_k1 a_k2 f_o_rung f_o_whole f_o_result f_o_firstDeed, zo_X0 a_c f_c_top f_c_things a_c_bars a_c_gives a_c_rough f_c_startRung f_c_startThings f_c_startStrength f_c_startWind f_c_slips f_c_lines a_c_code f_c_coded f_c_tiresFrom f_c_tiresTo f_c_mayFrom f_c_mayTo, (a_c_bars, .inl (dA 0, 9, .inl b_c_bars)), (a_c_gives, .inl (dA 0, 9, .inl b_c_gives)), (a_c_rough, .inl (dA 0, 9, .inl b_c_rough)), (a_c_code, .inl (dA 0, 900, .inl b_c_code)), zo_X3 a_m a_c a_w a_m_deeds a_m_ends v2, zo_X2 a_w a_c a_w_told a_w_facts a_w_stack f_w_wind, (a_w_told, .inl (dA 0, 315, .inl a3)), (a_w_facts, .inl (dA 0, 6, .inl a4)), (a_w_stack, .inl (dA 0, 64, .inl a5)), (a_m_deeds, .inl (dA 0, 9, .inl a6)), (a_m_ends, .inl (dA 0, 9, .inl a7)), (a_ord, .inl (dA 0, 2880, .inl a10)), (a_dep, .inl (dA 0, 2880, .inl a11)), (a_k1, .inl (dA 1, 2880, .inr (.inl a12)))] H := hP
  have hD : va_D A [zo_X8 a_o a_c a_m a_ord a_dep v9 a_k1 a_k2 f_o_rung f_o_whole f_o_result f_o_firstDeed, zo_X0 a_c f_c_top f_c_things a_c_bars a_c_gives a_c_rough f_c_startRung f_c_startThings f_c_startStrength f_c_startWind f_c_slips f_c_lines a_c_code f_c_coded f_c_tiresFrom f_c_tiresTo f_c_mayFrom f_c_mayTo, (a_c_bars, .inl (dA 0, 9, .inl b_c_bars)), (a_c_gives, .inl (dA 0, 9, .inl b_c_gives)), (a_c_rough, .inl (dA 0, 9, .inl b_c_rough)), (a_c_code, .inl (dA 0, 900, .inl b_c_code)), zo_X3 a_m a_c a_w a_m_deeds a_m_ends v2, zo_X2 a_w a_c a_w_told a_w_facts a_w_stack f_w_wind, (a_w_told, .inl (dA 0, 315, .inl a3)), (a_w_facts, .inl (dA 0, 6, .inl a4)), (a_w_stack, .inl (dA 0, 64, .inl a5)), (a_m_deeds, .inl (dA 0, 9, .inl a6)), (a_m_ends, .inl (dA 0, 9, .inl a7)), (a_ord, .inl (dA 0, 2880, .inl a10)), (a_dep, .inl (dA 0, 2880, .inl a11)), (a_k1, .inl (dA 1, 2880, .inr (.inl a12)))] := hD
  replace hf : zb_X8_reachFrom_11 v1 a7 p1 f_o_rung a6 v8 v9 a10 a11 a12 = some w := hf
  unfold zb_X8_reachFrom_11 at hf
  refine lv_iload_n (pc := 11) hx hb dX8_reachFrom_11 rfl (lv_at hl 3 rfl) ?_
  refine lv_iload_n (pc := 12) hx hb dX8_reachFrom_12 rfl (lv_at hl 2 rfl) ?_
  refine lv_icmp_ge (tgt := 81) (pc := 13) hx hb dX8_reachFrom_13 rfl (fun hc => ?_) (fun hc => ?_)
  · have hf := za_t hf hc
    obtain rfl := Option.some.inj hf
    obtain ⟨rfl, rfl, rfl, rfl, rfl, rfl⟩ := zp_6 (ex (show ¬ (1 : Nat) = 0 by decide))
    exact E81 _ _ _ ⟨lv_sub hl [] rfl, hP, hD, hS⟩
  · have hf := za_f hf hc
    refine lv_aload_n (pc := 16) hx hb dX8_reachFrom_16 rfl (lv_at hl 0 rfl) ?_
    refine lv_aload_n (pc := 17) hx hb dX8_reachFrom_17 rfl (lv_at hl 0 rfl) ?_
    refine va_get (pc := 18) (D := (dC, dI)) (ci := 9) (v := .ref a_m) (C := RX8) (T := TX8) (N := 11) hx hb ht zq_layX8 hown hK hP 0 rfl rfl 1 (by decide) (ht _ zq_536) (fun _ h9 => h9) rfl dX8_reachFrom_18 ?_
    refine va_get (pc := 21) (D := (dC, dI)) (ci := 4) (v := .ref a_m_ends) (C := RX3) (T := TX3) (N := 5) hx hb ht zq_layX3 hown hK hP 6 rfl rfl 3 (by decide) (ht _ zq_543) (fun _ h9 => h9) rfl dX8_reachFrom_21 ?_
    refine lv_iload_n (pc := 24) hx hb dX8_reachFrom_24 rfl (lv_at hl 3 rfl) ?_
    obtain ⟨v13, hv13, hf⟩ := zc_1 hf
    refine zw_iald (pc := 25) hx hb hK hP 12 0 rfl rfl hv13 dX8_reachFrom_25 ?_
    refine lv_aload_n (pc := 26) hx hb dX8_reachFrom_26 rfl (lv_at hl 0 rfl) ?_
    refine va_get (pc := 27) (D := (dC, dI)) (ci := 9) (v := .ref a_dep) (C := RX8) (T := TX8) (N := 11) hx hb ht zq_layX8 hown hK hP 0 rfl rfl 3 (by decide) (ht _ zq_538) (fun _ h9 => h9) rfl dX8_reachFrom_27 ?_
    refine lv_iload_n (pc := 30) hx hb dX8_reachFrom_30 rfl (lv_at hl 1 rfl) ?_
    obtain ⟨v14, hv14, hf⟩ := zc_1 hf
    refine zw_iald (pc := 31) hx hb hK hP 14 0 rfl rfl hv14 dX8_reachFrom_31 ?_
    refine lv_iconst (v := (1 : Int32)) (pc := 32) hx hb dX8_reachFrom_32 (by decide) ?_
    refine lv_iadd (pc := 33) hx hb dX8_reachFrom_33 ?_
    obtain ⟨v15, a16, a17, a18, hv15, hf⟩ := zc_4 hf
    refine zx_Vv (pc := 34) (wc := [zo_X8 a_o a_c a_m a_ord a_dep v9 a_k1 a_k2 f_o_rung f_o_whole f_o_result f_o_firstDeed, (a_ord, .inl (dA 0, 2880, .inl a10)), (a_dep, .inl (dA 0, 2880, .inl a11)), (a_k1, .inl (dA 1, 2880, .inr (.inl a12)))]) (wr := [zo_X0 a_c f_c_top f_c_things a_c_bars a_c_gives a_c_rough f_c_startRung f_c_startThings f_c_startStrength f_c_startWind f_c_slips f_c_lines a_c_code f_c_coded f_c_tiresFrom f_c_tiresTo f_c_mayFrom f_c_mayTo, (a_c_bars, .inl (dA 0, 9, .inl b_c_bars)), (a_c_gives, .inl (dA 0, 9, .inl b_c_gives)), (a_c_rough, .inl (dA 0, 9, .inl b_c_rough)), (a_c_code, .inl (dA 0, 900, .inl b_c_code)), zo_X3 a_m a_c a_w a_m_deeds a_m_ends v2, zo_X2 a_w a_c a_w_told a_w_facts a_w_stack f_w_wind, (a_w_told, .inl (dA 0, 315, .inl a3)), (a_w_facts, .inl (dA 0, 6, .inl a4)), (a_w_stack, .inl (dA 0, 64, .inl a5)), (a_m_deeds, .inl (dA 0, 9, .inl a6)), (a_m_ends, .inl (dA 0, 9, .inl a7))]) (w1 := [zo_X8 a_o a_c a_m a_ord a_dep v15 a_k1 a_k2 f_o_rung f_o_whole f_o_result f_o_firstDeed, (a_ord, .inl (dA 0, 2880, .inl a16)), (a_dep, .inl (dA 0, 2880, .inl a17)), (a_k1, .inl (dA 1, 2880, .inr (.inl a18)))]) (As := [.int v13, .int (v14 + (1 : Int32))]) (rest := []) ⟨hx, hb, hml, hown, ht⟩ (zt_X8_reach l dC dI dA adK adV _ a_o a_c a_m a_ord a_dep a_k1 a_k2 v9 f_o_rung f_o_whole f_o_result f_o_firstDeed a10 a11 a12 v13 (v14 + (1 : Int32)) v15 a16 a17 a18 hv15) (cwV 2 ht (zq_V zq_546 zq_547 zq_548 zq_549 zq_541) rfl rfl rfl zk_X8_reach ⟨Nat.le_of_ble_eq_true rfl, Nat.le_of_ble_eq_true rfl⟩) rfl rfl hZ hK hP hD hS hA [0, 13, 14, 15] [1, 2, 3, 4, 5, 6, 7, 8, 9, 10, 11, 12] (by decide) (by decide) (by decide) rfl rfl rfl hl.1 (Nat.le_of_ble_eq_true rfl) dX8_reachFrom_34 ⟨Nat.zero_le _, Nat.zero_le _⟩ rfl (fun H locs hP hD hS => ?_)
    have hP : va_P (dC, dI) zz_cls [zo_X0 a_c f_c_top f_c_things a_c_bars a_c_gives a_c_rough f_c_startRung f_c_startThings f_c_startStrength f_c_startWind f_c_slips f_c_lines a_c_code f_c_coded f_c_tiresFrom f_c_tiresTo f_c_mayFrom f_c_mayTo, (a_c_bars, .inl (dA 0, 9, .inl b_c_bars)), (a_c_gives, .inl (dA 0, 9, .inl b_c_gives)), (a_c_rough, .inl (dA 0, 9, .inl b_c_rough)), (a_c_code, .inl (dA 0, 900, .inl b_c_code)), zo_X3 a_m a_c a_w a_m_deeds a_m_ends v2, zo_X2 a_w a_c a_w_told a_w_facts a_w_stack f_w_wind, (a_w_told, .inl (dA 0, 315, .inl a3)), (a_w_facts, .inl (dA 0, 6, .inl a4)), (a_w_stack, .inl (dA 0, 64, .inl a5)), (a_m_deeds, .inl (dA 0, 9, .inl a6)), (a_m_ends, .inl (dA 0, 9, .inl a7)), zo_X8 a_o a_c a_m a_ord a_dep v15 a_k1 a_k2 f_o_rung f_o_whole f_o_result f_o_firstDeed, (a_ord, .inl (dA 0, 2880, .inl a16)), (a_dep, .inl (dA 0, 2880, .inl a17)), (a_k1, .inl (dA 1, 2880, .inr (.inl a18)))] H := hP
    have hD : va_D A [zo_X0 a_c f_c_top f_c_things a_c_bars a_c_gives a_c_rough f_c_startRung f_c_startThings f_c_startStrength f_c_startWind f_c_slips f_c_lines a_c_code f_c_coded f_c_tiresFrom f_c_tiresTo f_c_mayFrom f_c_mayTo, (a_c_bars, .inl (dA 0, 9, .inl b_c_bars)), (a_c_gives, .inl (dA 0, 9, .inl b_c_gives)), (a_c_rough, .inl (dA 0, 9, .inl b_c_rough)), (a_c_code, .inl (dA 0, 900, .inl b_c_code)), zo_X3 a_m a_c a_w a_m_deeds a_m_ends v2, zo_X2 a_w a_c a_w_told a_w_facts a_w_stack f_w_wind, (a_w_told, .inl (dA 0, 315, .inl a3)), (a_w_facts, .inl (dA 0, 6, .inl a4)), (a_w_stack, .inl (dA 0, 64, .inl a5)), (a_m_deeds, .inl (dA 0, 9, .inl a6)), (a_m_ends, .inl (dA 0, 9, .inl a7)), zo_X8 a_o a_c a_m a_ord a_dep v15 a_k1 a_k2 f_o_rung f_o_whole f_o_result f_o_firstDeed, (a_ord, .inl (dA 0, 2880, .inl a16)), (a_dep, .inl (dA 0, 2880, .inl a17)), (a_k1, .inl (dA 1, 2880, .inr (.inl a18)))] := hD
    refine lv_aload_n (pc := 37) hx hb dX8_reachFrom_37 rfl (lv_at hl 0 rfl) ?_
    refine va_get (pc := 38) (D := (dC, dI)) (ci := 9) (v := .ref a_m) (C := RX8) (T := TX8) (N := 11) hx hb ht zq_layX8 hown hK hP 12 rfl rfl 1 (by decide) (ht _ zq_536) (fun _ h9 => h9) rfl dX8_reachFrom_38 ?_
    refine va_get (pc := 41) (D := (dC, dI)) (ci := 4) (v := .ref a_m_deeds) (C := RX3) (T := TX3) (N := 5) hx hb ht zq_layX3 hown hK hP 5 rfl rfl 2 (by decide) (ht _ zq_544) (fun _ h9 => h9) rfl dX8_reachFrom_41 ?_
    refine lv_iload_n (pc := 44) hx hb dX8_reachFrom_44 rfl (lv_at hl 3 rfl) ?_
    obtain ⟨v19, hv19, hf⟩ := zc_1 hf
    refine zw_iald (pc := 45) hx hb hK hP 10 0 rfl rfl hv19 dX8_reachFrom_45 ?_
    refine lv_iconst (v := (1 : Int32)) (pc := 46) hx hb dX8_reachFrom_46 (by decide) ?_
    obtain ⟨v27, a28, a29, a30, hj, hf⟩ := zc_4 hf
    refine zj_join (pcJ := 75) (stk := []) (X := fun H locs ls => lv_has ls 4 [(0, .ref a_o), (1, .int p1), (2, .int v1), (3, .int v8)] ∧ va_P (dC, dI) zz_cls [zo_X8 a_o a_c a_m a_ord a_dep v27 a_k1 a_k2 f_o_rung f_o_whole f_o_result f_o_firstDeed, zo_X0 a_c f_c_top f_c_things a_c_bars a_c_gives a_c_rough f_c_startRung f_c_startThings f_c_startStrength f_c_startWind f_c_slips f_c_lines a_c_code f_c_coded f_c_tiresFrom f_c_tiresTo f_c_mayFrom f_c_mayTo, (a_c_bars, .inl (dA 0, 9, .inl b_c_bars)), (a_c_gives, .inl (dA 0, 9, .inl b_c_gives)), (a_c_rough, .inl (dA 0, 9, .inl b_c_rough)), (a_c_code, .inl (dA 0, 900, .inl b_c_code)), zo_X3 a_m a_c a_w a_m_deeds a_m_ends v2, zo_X2 a_w a_c a_w_told a_w_facts a_w_stack f_w_wind, (a_w_told, .inl (dA 0, 315, .inl a3)), (a_w_facts, .inl (dA 0, 6, .inl a4)), (a_w_stack, .inl (dA 0, 64, .inl a5)), (a_m_deeds, .inl (dA 0, 9, .inl a6)), (a_m_ends, .inl (dA 0, 9, .inl a7)), (a_ord, .inl (dA 0, 2880, .inl a28)), (a_dep, .inl (dA 0, 2880, .inl a29)), (a_k1, .inl (dA 1, 2880, .inr (.inl a30)))] H ∧ va_D A [zo_X8 a_o a_c a_m a_ord a_dep v27 a_k1 a_k2 f_o_rung f_o_whole f_o_result f_o_firstDeed, zo_X0 a_c f_c_top f_c_things a_c_bars a_c_gives a_c_rough f_c_startRung f_c_startThings f_c_startStrength f_c_startWind f_c_slips f_c_lines a_c_code f_c_coded f_c_tiresFrom f_c_tiresTo f_c_mayFrom f_c_mayTo, (a_c_bars, .inl (dA 0, 9, .inl b_c_bars)), (a_c_gives, .inl (dA 0, 9, .inl b_c_gives)), (a_c_rough, .inl (dA 0, 9, .inl b_c_rough)), (a_c_code, .inl (dA 0, 900, .inl b_c_code)), zo_X3 a_m a_c a_w a_m_deeds a_m_ends v2, zo_X2 a_w a_c a_w_told a_w_facts a_w_stack f_w_wind, (a_w_told, .inl (dA 0, 315, .inl a3)), (a_w_facts, .inl (dA 0, 6, .inl a4)), (a_w_stack, .inl (dA 0, 64, .inl a5)), (a_m_deeds, .inl (dA 0, 9, .inl a6)), (a_m_ends, .inl (dA 0, 9, .inl a7)), (a_ord, .inl (dA 0, 2880, .inl a28)), (a_dep, .inl (dA 0, 2880, .inl a29)), (a_k1, .inl (dA 1, 2880, .inr (.inl a30)))] ∧ va_S A s.heap H locs) (fun H locs ls hX => ?_) (fun J75 => ?_)
    · obtain ⟨hl, hP, hD, hS⟩ := hX
      clear hj
      obtain ⟨v31, hv31, hf⟩ := zc_1 hf
      refine lv_iinc (v := v31) (lv' := [(3, .int v31), (0, .ref a_o), (1, .int p1), (2, .int v1)]) (k := 3) (pc := 75) hx hb dX8_reachFrom_75 hl rfl (Option.some.inj hv31) (by decide) rfl (fun ls hl => ?_)
      refine lv_goto (tgt := 11) (pc := 78) hx hb dX8_reachFrom_78 rfl ?_
      obtain rfl := Option.some.inj hf
      exact ih rfl _ _ _ ⟨lv_sub hl [1, 2, 3, 0] rfl, hP, hD, hS⟩
    · clear hf
      have hf := hj
      clear hj
      refine lv_icmp_ne (tgt := 75) (pc := 47) hx hb dX8_reachFrom_47 rfl (fun hc => ?_) (fun hc => ?_)
      · have hf := za_f hf hc
        obtain ⟨rfl, rfl, rfl, rfl⟩ := zi_4 hf
        exact J75 _ _ _ ⟨lv_sub hl [0, 1, 2, 3] rfl, hP.sub [12, 0, 1, 2, 3, 4, 5, 6, 7, 8, 9, 10, 11, 13, 14, 15] rfl, hD.sub [12, 0, 1, 2, 3, 4, 5, 6, 7, 8, 9, 10, 11, 13, 14, 15] (by decide) rfl, hS⟩
      · have hf := za_t hf hc
        refine lv_aload_n (pc := 50) hx hb dX8_reachFrom_50 rfl (lv_at hl 0 rfl) ?_
        refine lv_iload_n (pc := 51) hx hb dX8_reachFrom_51 rfl (lv_at hl 1 rfl) ?_
        refine lv_aload_n (pc := 52) hx hb dX8_reachFrom_52 rfl (lv_at hl 0 rfl) ?_
        refine va_get (pc := 53) (D := (dC, dI)) (ci := 9) (v := .ref a_m) (C := RX8) (T := TX8) (N := 11) hx hb ht zq_layX8 hown hK hP 12 rfl rfl 1 (by decide) (ht _ zq_536) (fun _ h9 => h9) rfl dX8_reachFrom_53 ?_
        refine va_get (pc := 56) (D := (dC, dI)) (ci := 4) (v := .ref a_m_ends) (C := RX3) (T := TX3) (N := 5) hx hb ht zq_layX3 hown hK hP 5 rfl rfl 3 (by decide) (ht _ zq_543) (fun _ h9 => h9) rfl dX8_reachFrom_56 ?_
        refine lv_iload_n (pc := 59) hx hb dX8_reachFrom_59 rfl (lv_at hl 3 rfl) ?_
        obtain ⟨v20, hv20, hf⟩ := zc_1 hf
        refine zw_iald (pc := 60) hx hb hK hP 11 0 rfl rfl hv20 dX8_reachFrom_60 ?_
        obtain ⟨v21, hv21, hf⟩ := zc_1 hf
        refine zx_Si (pc := 61) (wc := []) (wr := [zo_X0 a_c f_c_top f_c_things a_c_bars a_c_gives a_c_rough f_c_startRung f_c_startThings f_c_startStrength f_c_startWind f_c_slips f_c_lines a_c_code f_c_coded f_c_tiresFrom f_c_tiresTo f_c_mayFrom f_c_mayTo, (a_c_bars, .inl (dA 0, 9, .inl b_c_bars)), (a_c_gives, .inl (dA 0, 9, .inl b_c_gives)), (a_c_rough, .inl (dA 0, 9, .inl b_c_rough)), (a_c_code, .inl (dA 0, 900, .inl b_c_code)), zo_X3 a_m a_c a_w a_m_deeds a_m_ends v2, zo_X2 a_w a_c a_w_told a_w_facts a_w_stack f_w_wind, (a_w_told, .inl (dA 0, 315, .inl a3)), (a_w_facts, .inl (dA 0, 6, .inl a4)), (a_w_stack, .inl (dA 0, 64, .inl a5)), (a_m_deeds, .inl (dA 0, 9, .inl a6)), (a_m_ends, .inl (dA 0, 9, .inl a7)), zo_X8 a_o a_c a_m a_ord a_dep v15 a_k1 a_k2 f_o_rung f_o_whole f_o_result f_o_firstDeed, (a_ord, .inl (dA 0, 2880, .inl a16)), (a_dep, .inl (dA 0, 2880, .inl a17)), (a_k1, .inl (dA 1, 2880, .inr (.inl a18)))]) (w1 := []) (As := [.int p1, .int v20]) (rest := [.ref a_o]) ⟨hx, hb, hml, hown, ht⟩ (zt_X8_slipped l dC dI dA adK adV _ p1 v20 v21 hv21) (cwS 2 ht (zq_S zq_550 zq_551 zq_549 zq_542) rfl rfl rfl zk_X8_slipped ⟨Nat.le_of_ble_eq_true rfl, Nat.le_of_ble_eq_true rfl⟩) hZ hK hP hD hS hA [] [0, 1, 2, 3, 4, 5, 6, 7, 8, 9, 10, 11, 12, 13, 14, 15] (by decide) (by decide) (by decide) rfl rfl rfl hl.1 (Nat.le_of_ble_eq_true rfl) dX8_reachFrom_61 ⟨Nat.zero_le _, Nat.zero_le _⟩ rfl (fun H locs hP hD hS => ?_)
        have hP : va_P (dC, dI) zz_cls [zo_X0 a_c f_c_top f_c_things a_c_bars a_c_gives a_c_rough f_c_startRung f_c_startThings f_c_startStrength f_c_startWind f_c_slips f_c_lines a_c_code f_c_coded f_c_tiresFrom f_c_tiresTo f_c_mayFrom f_c_mayTo, (a_c_bars, .inl (dA 0, 9, .inl b_c_bars)), (a_c_gives, .inl (dA 0, 9, .inl b_c_gives)), (a_c_rough, .inl (dA 0, 9, .inl b_c_rough)), (a_c_code, .inl (dA 0, 900, .inl b_c_code)), zo_X3 a_m a_c a_w a_m_deeds a_m_ends v2, zo_X2 a_w a_c a_w_told a_w_facts a_w_stack f_w_wind, (a_w_told, .inl (dA 0, 315, .inl a3)), (a_w_facts, .inl (dA 0, 6, .inl a4)), (a_w_stack, .inl (dA 0, 64, .inl a5)), (a_m_deeds, .inl (dA 0, 9, .inl a6)), (a_m_ends, .inl (dA 0, 9, .inl a7)), zo_X8 a_o a_c a_m a_ord a_dep v15 a_k1 a_k2 f_o_rung f_o_whole f_o_result f_o_firstDeed, (a_ord, .inl (dA 0, 2880, .inl a16)), (a_dep, .inl (dA 0, 2880, .inl a17)), (a_k1, .inl (dA 1, 2880, .inr (.inl a18)))] H := hP
        have hD : va_D A [zo_X0 a_c f_c_top f_c_things a_c_bars a_c_gives a_c_rough f_c_startRung f_c_startThings f_c_startStrength f_c_startWind f_c_slips f_c_lines a_c_code f_c_coded f_c_tiresFrom f_c_tiresTo f_c_mayFrom f_c_mayTo, (a_c_bars, .inl (dA 0, 9, .inl b_c_bars)), (a_c_gives, .inl (dA 0, 9, .inl b_c_gives)), (a_c_rough, .inl (dA 0, 9, .inl b_c_rough)), (a_c_code, .inl (dA 0, 900, .inl b_c_code)), zo_X3 a_m a_c a_w a_m_deeds a_m_ends v2, zo_X2 a_w a_c a_w_told a_w_facts a_w_stack f_w_wind, (a_w_told, .inl (dA 0, 315, .inl a3)), (a_w_facts, .inl (dA 0, 6, .inl a4)), (a_w_stack, .inl (dA 0, 64, .inl a5)), (a_m_deeds, .inl (dA 0, 9, .inl a6)), (a_m_ends, .inl (dA 0, 9, .inl a7)), zo_X8 a_o a_c a_m a_ord a_dep v15 a_k1 a_k2 f_o_rung f_o_whole f_o_result f_o_firstDeed, (a_ord, .inl (dA 0, 2880, .inl a16)), (a_dep, .inl (dA 0, 2880, .inl a17)), (a_k1, .inl (dA 1, 2880, .inr (.inl a18)))] := hD
        refine lv_aload_n (pc := 64) hx hb dX8_reachFrom_64 rfl (lv_at hl 0 rfl) ?_
        refine va_get (pc := 65) (D := (dC, dI)) (ci := 9) (v := .ref a_dep) (C := RX8) (T := TX8) (N := 11) hx hb ht zq_layX8 hown hK hP 12 rfl rfl 3 (by decide) (ht _ zq_538) (fun _ h9 => h9) rfl dX8_reachFrom_65 ?_
        refine lv_iload_n (pc := 68) hx hb dX8_reachFrom_68 rfl (lv_at hl 1 rfl) ?_
        obtain ⟨v22, hv22, hf⟩ := zc_1 hf
        refine zw_iald (pc := 69) hx hb hK hP 14 0 rfl rfl hv22 dX8_reachFrom_69 ?_
        refine lv_iconst (v := (1 : Int32)) (pc := 70) hx hb dX8_reachFrom_70 (by decide) ?_
        refine lv_iadd (pc := 71) hx hb dX8_reachFrom_71 ?_
        obtain ⟨v23, a24, a25, a26, hv23, hf⟩ := zc_4 hf
        refine zx_Vv (pc := 72) (wc := [zo_X8 a_o a_c a_m a_ord a_dep v15 a_k1 a_k2 f_o_rung f_o_whole f_o_result f_o_firstDeed, (a_ord, .inl (dA 0, 2880, .inl a16)), (a_dep, .inl (dA 0, 2880, .inl a17)), (a_k1, .inl (dA 1, 2880, .inr (.inl a18)))]) (wr := [zo_X0 a_c f_c_top f_c_things a_c_bars a_c_gives a_c_rough f_c_startRung f_c_startThings f_c_startStrength f_c_startWind f_c_slips f_c_lines a_c_code f_c_coded f_c_tiresFrom f_c_tiresTo f_c_mayFrom f_c_mayTo, (a_c_bars, .inl (dA 0, 9, .inl b_c_bars)), (a_c_gives, .inl (dA 0, 9, .inl b_c_gives)), (a_c_rough, .inl (dA 0, 9, .inl b_c_rough)), (a_c_code, .inl (dA 0, 900, .inl b_c_code)), zo_X3 a_m a_c a_w a_m_deeds a_m_ends v2, zo_X2 a_w a_c a_w_told a_w_facts a_w_stack f_w_wind, (a_w_told, .inl (dA 0, 315, .inl a3)), (a_w_facts, .inl (dA 0, 6, .inl a4)), (a_w_stack, .inl (dA 0, 64, .inl a5)), (a_m_deeds, .inl (dA 0, 9, .inl a6)), (a_m_ends, .inl (dA 0, 9, .inl a7))]) (w1 := [zo_X8 a_o a_c a_m a_ord a_dep v23 a_k1 a_k2 f_o_rung f_o_whole f_o_result f_o_firstDeed, (a_ord, .inl (dA 0, 2880, .inl a24)), (a_dep, .inl (dA 0, 2880, .inl a25)), (a_k1, .inl (dA 1, 2880, .inr (.inl a26)))]) (As := [.int v21, .int (v22 + (1 : Int32))]) (rest := []) ⟨hx, hb, hml, hown, ht⟩ (zt_X8_reach l dC dI dA adK adV _ a_o a_c a_m a_ord a_dep a_k1 a_k2 v15 f_o_rung f_o_whole f_o_result f_o_firstDeed a16 a17 a18 v21 (v22 + (1 : Int32)) v23 a24 a25 a26 hv23) (cwV 2 ht (zq_V zq_546 zq_547 zq_548 zq_549 zq_541) rfl rfl rfl zk_X8_reach ⟨Nat.le_of_ble_eq_true rfl, Nat.le_of_ble_eq_true rfl⟩) rfl rfl hZ hK hP hD hS hA [12, 13, 14, 15] [0, 1, 2, 3, 4, 5, 6, 7, 8, 9, 10, 11] (by decide) (by decide) (by decide) rfl rfl rfl hl.1 (Nat.le_of_ble_eq_true rfl) dX8_reachFrom_72 ⟨Nat.zero_le _, Nat.zero_le _⟩ rfl (fun H locs hP hD hS => ?_)
        have hP : va_P (dC, dI) zz_cls [zo_X0 a_c f_c_top f_c_things a_c_bars a_c_gives a_c_rough f_c_startRung f_c_startThings f_c_startStrength f_c_startWind f_c_slips f_c_lines a_c_code f_c_coded f_c_tiresFrom f_c_tiresTo f_c_mayFrom f_c_mayTo, (a_c_bars, .inl (dA 0, 9, .inl b_c_bars)), (a_c_gives, .inl (dA 0, 9, .inl b_c_gives)), (a_c_rough, .inl (dA 0, 9, .inl b_c_rough)), (a_c_code, .inl (dA 0, 900, .inl b_c_code)), zo_X3 a_m a_c a_w a_m_deeds a_m_ends v2, zo_X2 a_w a_c a_w_told a_w_facts a_w_stack f_w_wind, (a_w_told, .inl (dA 0, 315, .inl a3)), (a_w_facts, .inl (dA 0, 6, .inl a4)), (a_w_stack, .inl (dA 0, 64, .inl a5)), (a_m_deeds, .inl (dA 0, 9, .inl a6)), (a_m_ends, .inl (dA 0, 9, .inl a7)), zo_X8 a_o a_c a_m a_ord a_dep v23 a_k1 a_k2 f_o_rung f_o_whole f_o_result f_o_firstDeed, (a_ord, .inl (dA 0, 2880, .inl a24)), (a_dep, .inl (dA 0, 2880, .inl a25)), (a_k1, .inl (dA 1, 2880, .inr (.inl a26)))] H := hP
        have hD : va_D A [zo_X0 a_c f_c_top f_c_things a_c_bars a_c_gives a_c_rough f_c_startRung f_c_startThings f_c_startStrength f_c_startWind f_c_slips f_c_lines a_c_code f_c_coded f_c_tiresFrom f_c_tiresTo f_c_mayFrom f_c_mayTo, (a_c_bars, .inl (dA 0, 9, .inl b_c_bars)), (a_c_gives, .inl (dA 0, 9, .inl b_c_gives)), (a_c_rough, .inl (dA 0, 9, .inl b_c_rough)), (a_c_code, .inl (dA 0, 900, .inl b_c_code)), zo_X3 a_m a_c a_w a_m_deeds a_m_ends v2, zo_X2 a_w a_c a_w_told a_w_facts a_w_stack f_w_wind, (a_w_told, .inl (dA 0, 315, .inl a3)), (a_w_facts, .inl (dA 0, 6, .inl a4)), (a_w_stack, .inl (dA 0, 64, .inl a5)), (a_m_deeds, .inl (dA 0, 9, .inl a6)), (a_m_ends, .inl (dA 0, 9, .inl a7)), zo_X8 a_o a_c a_m a_ord a_dep v23 a_k1 a_k2 f_o_rung f_o_whole f_o_result f_o_firstDeed, (a_ord, .inl (dA 0, 2880, .inl a24)), (a_dep, .inl (dA 0, 2880, .inl a25)), (a_k1, .inl (dA 1, 2880, .inr (.inl a26)))] := hD
        obtain ⟨rfl, rfl, rfl, rfl⟩ := zi_4 hf
        exact J75 _ _ _ ⟨lv_sub hl [0, 1, 2, 3] rfl, hP.sub [12, 0, 1, 2, 3, 4, 5, 6, 7, 8, 9, 10, 11, 13, 14, 15] rfl, hD.sub [12, 0, 1, 2, 3, 4, 5, 6, 7, 8, 9, 10, 11, 13, 14, 15] (by decide) rfl, hS⟩
