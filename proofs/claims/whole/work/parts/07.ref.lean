def zb_X11_undo_44 (v5 : Int32) (a6 : (Nat → Int32)) : Option (Nat × Int32 × (Nat → Int32)) :=
  if (5 : Int32) ≤ v5 then
    some (1, v5, a6)
  else
    zd_1 (za_ld a6 2982 (42 : Int32)) (fun v7 =>
    zd_1 (za_ld a6 2982 (((43 : Int32) + ((5 : Int32) * v7)) + v5)) (fun v8 =>
    zd_1 (za_st a6 2982 ((37 : Int32) + v5) v8) (fun a9 =>
    zd_1 (some (v5 + (1 : Int32))) (fun v10 =>
    some (0, v10, a9)))))
def zf_X11_undo (n : Nat) (f_thrown : Int32) (b_all : (Nat → Int32)) (p1 : Int32) : Option (Int32 × Int32 × (Nat → Int32)) :=
  zd_1 (zf_X11_within (Int32.toInt64 p1) (1 : Int64) (10 : Int64)) (fun v1 =>
  if v1 = 0 then
    some ((-3 : Int32), (0 : Int32), b_all)
  else
    zd_1 (za_ld b_all 2982 (42 : Int32)) (fun v2 =>
    if p1 ≤ v2 then
      zd_1 (za_ld b_all 2982 (42 : Int32)) (fun v3 =>
      zd_1 (za_st b_all 2982 (42 : Int32) (v3 - p1)) (fun a4 =>
      zd_3 (za_it (fun v => zb_X11_undo_44 v.1 v.2) n ((0 : Int32), a4)) (fun g13 v11 a12 =>
      zd_1 (za_ld a12 2982 (42 : Int32)) (fun v14 =>
      some (v14, (0 : Int32), a12)))))
    else
      some ((-3 : Int32), (0 : Int32), b_all)))
theorem zk_X11_undo : yX11_undo.cls = RX11 ∧ yX11_undo.cls ≠ "java/lang/invoke/MethodHandle" ∧ yX11_undo.cls ≠ "java/lang/invoke/VarHandle" ∧ (parseMethodDescriptor yX11_undo.desc).map (fun d => d.parameters.length) = some 1 := by decide +kernel
set_option maxHeartbeats 4000000 in
set_option maxRecDepth 100000 in
theorem zt_X11_undo (l : Launch) (dC : Nat → ClassId) (dI : Nat → Nat → Nat) (dA : Nat → ClassId) (ad : Nat → Nat) (sz : Nat) (n : Nat) (f_thrown f_taped f_at f_behind f_size f_kind f_number f_wrong f_wrongAt f_faultKind f_faultPlace f_reading f_toldWhy f_x f_standMany f_bestMany f_tail f_round1 : Int32) (b_all : (Nat → Int32)) (p1 : Int32) (r0 : Int32) (o1 : Int32) (o2 : (Nat → Int32)) (hf : zf_X11_undo n f_thrown b_all p1 = some (r0, o1, o2)) : Met l yX11_undo (.code yX11_undo cX11_undo 3 (some .int) :: zr_T) ({ frames := 1, cells := 0, slots := 0, locals := 25 }) (va_Pc [.ref (ad 0), .int p1] (zz_M dC dI dA [zr_o ad f_thrown f_taped f_at f_behind f_size f_kind f_number f_wrong f_wrongAt f_faultKind f_faultPlace f_reading f_toldWhy f_x f_standMany f_bestMany f_tail f_round1, (ad 2, .inl (dA 0, 2982, .inl b_all))] sz)) (va_Qi (fun (r : Int32) (_ : Unit) => r = r0) (fun _ t => zz_B dC dI dA (va_A [zr_o ad f_thrown f_taped f_at f_behind f_size f_kind f_number f_wrong f_wrongAt f_faultKind f_faultPlace f_reading f_toldWhy f_x f_standMany f_bestMany f_tail f_round1, (ad 2, .inl (dA 0, 2982, .inl b_all))] sz) [zr_o ad o1 f_taped f_at f_behind f_size f_kind f_number f_wrong f_wrongAt f_faultKind f_faultPlace f_reading f_toldWhy f_x f_standMany f_bestMany f_tail f_round1, (ad 2, .inl (dA 0, 2982, .inl o2))] t) (va_A [zr_o ad f_thrown f_taped f_at f_behind f_size f_kind f_number f_wrong f_wrongAt f_faultKind f_faultPlace f_reading f_toldWhy f_x f_standMany f_bestMany f_tail f_round1, (ad 2, .inl (dA 0, 2982, .inl b_all))] sz)) 0 0 (va_A [zr_o ad f_thrown f_taped f_at f_behind f_size f_kind f_number f_wrong f_wrongAt f_faultKind f_faultPlace f_reading f_toldWhy f_x f_standMany f_bestMany f_tail f_round1, (ad 2, .inl (dA 0, 2982, .inl b_all))] sz) := by
  unfold zf_X11_undo at hf
  refine Met.ofW (cc := cX11_undo) (maxL := 3) (ret := (some .int)) (by decide) rfl ?_
  intro p e s m args below meth c s₁ B hml hv
  obtain ⟨rfl, hsz, hP, hK, hD0⟩ := hv
  have hx := B.exec
  have hb := B.bytes
  have hr := B.returns
  have ht : ∀ w ∈ zr_T, w.before ([.ref (ad 0), .int p1] : List Value).toArray s = true := fun w hw => atoms_spec (ws := .code yX11_undo cX11_undo 3 (some .int) :: zr_T) B.pre w (List.mem_cons_of_mem _ hw)
  have hown : s.vm.findClass RX11 = some m.cls := findClass_of_methodNamed B.named
  have hlocks := B.notSynchronized
  subst hsz
  have hD := hD0.self (sz := s.heap.size)
  generalize hAe : va_A [zr_o ad f_thrown f_taped f_at f_behind f_size f_kind f_number f_wrong f_wrongAt f_faultKind f_faultPlace f_reading f_toldWhy f_x f_standMany f_bestMany f_tail f_round1, (ad 2, .inl (dA 0, 2982, .inl b_all))] s.heap.size = A at hD ⊢
  have hA : ∀ q : Nat, s.heap.size ≤ q → A q := fun q h => by rw [← hAe]; exact Or.inr h
  clear hAe hD0
  have hS : va_S A s.heap s.heap [] := va_S.rf
  have hl := lv_entry ([.ref (ad 0), .int p1]) (n := 3) (Nat.le_of_ble_eq_true rfl)
  rw [lg_entry_eq]
  generalize (lg_sl ([.ref (ad 0), .int p1]) ++ List.replicate (3 - (lg_sl ([.ref (ad 0), .int p1])).length) Slot.unset).toArray = ls at hl ⊢
  have hl : lv_has ls 3 [(0, .ref (ad 0)), (1, .int p1)] := hl
  refine lv_aload_n (pc := 0) hx hb dX11_undo_0 rfl (lv_at hl 0 rfl) ?_
  refine lv_iconst (v := (0 : Int32)) (pc := 1) hx hb dX11_undo_1 (by decide) ?_
  refine va_put (pc := 2) (D := (dC, dI)) (ci := 0) (v := .int (0 : Int32)) (ty := .int) (C := RX11) (T := TX11) (N := 42) hx hb ht zr_lay tyX11 tyX11_ok nmX11 hown hK hP hD hS 0 rfl rfl 0 (by decide) (ht _ zr_39) (fun _ h9 => h9) rfl (by decide +kernel) rfl rfl (Nat.le_of_ble_eq_true rfl) dX11_undo_2 (fun H locs hP hD hS => ?_)
  have hP : va_P (dC, dI) zz_cls [zr_o ad (0 : Int32) f_taped f_at f_behind f_size f_kind f_number f_wrong f_wrongAt f_faultKind f_faultPlace f_reading f_toldWhy f_x f_standMany f_bestMany f_tail f_round1, (ad 2, .inl (dA 0, 2982, .inl b_all))] H := hP
  have hD : va_D A [zr_o ad (0 : Int32) f_taped f_at f_behind f_size f_kind f_number f_wrong f_wrongAt f_faultKind f_faultPlace f_reading f_toldWhy f_x f_standMany f_bestMany f_tail f_round1, (ad 2, .inl (dA 0, 2982, .inl b_all))] := hD
  refine lv_iload_n (pc := 5) hx hb dX11_undo_5 rfl (lv_at hl 1 rfl) ?_
  refine lv_i2l (pc := 6) hx hb dX11_undo_6 rfl ?_
  refine lv_lconst (v := (1 : Int64)) (pc := 7) hx hb dX11_undo_7 (by decide) ?_
  refine lv_ldc2 (v := (10 : Int64)) (pc := 8) hx hb hown (ht _ zr_232) dX11_undo_8 ?_
  obtain ⟨v1, hv1, hf⟩ := zc_1 hf
  refine zw_Si (pc := 11) (wc := []) (wr := [zr_o ad (0 : Int32) f_taped f_at f_behind f_size f_kind f_number f_wrong f_wrongAt f_faultKind f_faultPlace f_reading f_toldWhy f_x f_standMany f_bestMany f_tail f_round1, (ad 2, .inl (dA 0, 2982, .inl b_all))]) (w1 := []) (As := [.long (Int32.toInt64 p1), .long (1 : Int64), .long (10 : Int64)]) (rest := []) ⟨hx, hb, hml, hown, ht⟩ (zt_X11_within l dC dI dA ad _ (Int32.toInt64 p1) (1 : Int64) (10 : Int64) v1 hv1) (cwS 3 ht (zr_S zr_124 zr_125 zr_36 zr_0) rfl rfl rfl zk_X11_within ⟨Nat.le_of_ble_eq_true rfl, Nat.le_of_ble_eq_true rfl⟩) hK hP hD hS hA [] [0, 1] (by decide) (by decide) (by decide) rfl rfl rfl hl.1 (Nat.le_of_ble_eq_true rfl) dX11_undo_11 ⟨Nat.zero_le _, Nat.zero_le _⟩ rfl (fun H locs hP hD hS => ?_)
  have hP : va_P (dC, dI) zz_cls [zr_o ad (0 : Int32) f_taped f_at f_behind f_size f_kind f_number f_wrong f_wrongAt f_faultKind f_faultPlace f_reading f_toldWhy f_x f_standMany f_bestMany f_tail f_round1, (ad 2, .inl (dA 0, 2982, .inl b_all))] H := hP
  have hD : va_D A [zr_o ad (0 : Int32) f_taped f_at f_behind f_size f_kind f_number f_wrong f_wrongAt f_faultKind f_faultPlace f_reading f_toldWhy f_x f_standMany f_bestMany f_tail f_round1, (ad 2, .inl (dA 0, 2982, .inl b_all))] := hD
  refine lv_if_eq (tgt := 28) (pc := 14) hx hb dX11_undo_14 rfl (fun hc => ?_) (fun hc => ?_)
  · have hf := za_t hf hc
    refine lv_bipush (v := (-3 : Int32)) (pc := 28) hx hb dX11_undo_28 (by decide) ?_
    obtain ⟨rfl, rfl, rfl⟩ := zi_3 hf
    exact W.iret (pc := 30) hx hb hr (fun t ht hW => ⟨⟨_, (), rfl, rfl, zz_Bi (by rw [ht]; exact hP) (va_K.moved hW.alike hK) (hD)⟩, hS.F ht⟩) hS.2.2 dX11_undo_30
  · have hf := za_f hf hc
    refine lv_iload_n (pc := 17) hx hb dX11_undo_17 rfl (lv_at hl 1 rfl) ?_
    refine lv_aload_n (pc := 18) hx hb dX11_undo_18 rfl (lv_at hl 0 rfl) ?_
    refine va_get (pc := 19) (D := (dC, dI)) (ci := 0) (v := .ref (ad 2)) (C := RX11) (T := TX11) (N := 42) hx hb ht zr_lay hown hK hP 0 rfl rfl 1 (by decide) (ht _ zr_6) (fun _ h9 => h9) rfl dX11_undo_19 ?_
    refine lv_bipush (v := (42 : Int32)) (pc := 22) hx hb dX11_undo_22 (by decide) ?_
    obtain ⟨v2, hv2, hf⟩ := zc_1 hf
    refine zw_iald (pc := 24) hx hb hK hP 1 0 rfl rfl hv2 dX11_undo_24 ?_
    refine lv_icmp_le (tgt := 31) (pc := 25) hx hb dX11_undo_25 rfl (fun hc => ?_) (fun hc => ?_)
    · have hf := za_t hf hc
      refine lv_aload_n (pc := 31) hx hb dX11_undo_31 rfl (lv_at hl 0 rfl) ?_
      refine va_get (pc := 32) (D := (dC, dI)) (ci := 0) (v := .ref (ad 2)) (C := RX11) (T := TX11) (N := 42) hx hb ht zr_lay hown hK hP 0 rfl rfl 1 (by decide) (ht _ zr_6) (fun _ h9 => h9) rfl dX11_undo_32 ?_
      refine lv_bipush (v := (42 : Int32)) (pc := 35) hx hb dX11_undo_35 (by decide) ?_
      refine lv_dup2_11 (pc := 37) hx hb dX11_undo_37 rfl rfl ?_
      obtain ⟨v3, hv3, hf⟩ := zc_1 hf
      refine zw_iald (pc := 38) hx hb hK hP 1 0 rfl rfl hv3 dX11_undo_38 ?_
      refine lv_iload_n (pc := 39) hx hb dX11_undo_39 rfl (lv_at hl 1 rfl) ?_
      refine lv_isub (pc := 40) hx hb dX11_undo_40 ?_
      obtain ⟨a4, ha4, hf⟩ := zc_1 hf
      refine zw_iast (pc := 41) hx hb hK hP hD hS 1 0 rfl rfl ha4 dX11_undo_41 (fun H locs hP hD hS => ?_)
      have hP : va_P (dC, dI) zz_cls [zr_o ad (0 : Int32) f_taped f_at f_behind f_size f_kind f_number f_wrong f_wrongAt f_faultKind f_faultPlace f_reading f_toldWhy f_x f_standMany f_bestMany f_tail f_round1, (ad 2, .inl (dA 0, 2982, .inl a4))] H := hP
      have hD : va_D A [zr_o ad (0 : Int32) f_taped f_at f_behind f_size f_kind f_number f_wrong f_wrongAt f_faultKind f_faultPlace f_reading f_toldWhy f_x f_standMany f_bestMany f_tail f_round1, (ad 2, .inl (dA 0, 2982, .inl a4))] := hD
      refine lv_iconst (v := (0 : Int32)) (pc := 42) hx hb dX11_undo_42 (by decide) ?_
      refine lv_istore_n (lv' := [(2, .int (0 : Int32)), (0, .ref (ad 0)), (1, .int p1)]) (pc := 43) hx hb dX11_undo_43 rfl hl (by decide) rfl (fun ls hl => ?_)
      obtain ⟨g13, v11, a12, hj, hf⟩ := zc_3 hf
      refine zj_join (pcJ := 83) (stk := []) (X := fun H locs ls => lv_has ls 3 [(0, .ref (ad 0))] ∧ va_P (dC, dI) zz_cls [zr_o ad (0 : Int32) f_taped f_at f_behind f_size f_kind f_number f_wrong f_wrongAt f_faultKind f_faultPlace f_reading f_toldWhy f_x f_standMany f_bestMany f_tail f_round1, (ad 2, .inl (dA 0, 2982, .inl a12))] H ∧ va_D A [zr_o ad (0 : Int32) f_taped f_at f_behind f_size f_kind f_number f_wrong f_wrongAt f_faultKind f_faultPlace f_reading f_toldWhy f_x f_standMany f_bestMany f_tail f_round1, (ad 2, .inl (dA 0, 2982, .inl a12))] ∧ va_S A s.heap H locs) (fun H locs ls hX => ?_) (fun E83 => ?_)
      · obtain ⟨hl, hP, hD, hS⟩ := hX
        clear hj
        refine lv_aload_n (pc := 83) hx hb dX11_undo_83 rfl (lv_at hl 0 rfl) ?_
        refine va_get (pc := 84) (D := (dC, dI)) (ci := 0) (v := .ref (ad 2)) (C := RX11) (T := TX11) (N := 42) hx hb ht zr_lay hown hK hP 0 rfl rfl 1 (by decide) (ht _ zr_6) (fun _ h9 => h9) rfl dX11_undo_84 ?_
        refine lv_bipush (v := (42 : Int32)) (pc := 87) hx hb dX11_undo_87 (by decide) ?_
        obtain ⟨v14, hv14, hf⟩ := zc_1 hf
        refine zw_iald (pc := 89) hx hb hK hP 1 0 rfl rfl hv14 dX11_undo_89 ?_
        obtain ⟨rfl, rfl, rfl⟩ := zi_3 hf
        exact W.iret (pc := 90) hx hb hr (fun t ht hW => ⟨⟨_, (), rfl, rfl, zz_Bi (by rw [ht]; exact hP) (va_K.moved hW.alike hK) (hD)⟩, hS.F ht⟩) hS.2.2 dX11_undo_90
      clear hf
      refine zw_loop (pcH := 44) (X := fun v H locs ls => lv_has ls 3 [(0, .ref (ad 0)), (2, .int v.1)] ∧ va_P (dC, dI) zz_cls [zr_o ad (0 : Int32) f_taped f_at f_behind f_size f_kind f_number f_wrong f_wrongAt f_faultKind f_faultPlace f_reading f_toldWhy f_x f_standMany f_bestMany f_tail f_round1, (ad 2, .inl (dA 0, 2982, .inl v.2))] H ∧ va_D A [zr_o ad (0 : Int32) f_taped f_at f_behind f_size f_kind f_number f_wrong f_wrongAt f_faultKind f_faultPlace f_reading f_toldWhy f_x f_standMany f_bestMany f_tail f_round1, (ad 2, .inl (dA 0, 2982, .inl v.2))] ∧ va_S A s.heap H locs) hj (fun v w hf ih ex H locs ls hX => ?_) _ _ _ ⟨lv_sub hl [1, 0] rfl, hP, hD, hS⟩
      clear hj
      obtain ⟨v5, a6⟩ := v
      obtain ⟨hl, hP, hD, hS⟩ := hX
      have hl : lv_has ls 3 [(0, .ref (ad 0)), (2, .int v5)] := hl
      have hP : va_P (dC, dI) zz_cls [zr_o ad (0 : Int32) f_taped f_at f_behind f_size f_kind f_number f_wrong f_wrongAt f_faultKind f_faultPlace f_reading f_toldWhy f_x f_standMany f_bestMany f_tail f_round1, (ad 2, .inl (dA 0, 2982, .inl a6))] H := hP
      have hD : va_D A [zr_o ad (0 : Int32) f_taped f_at f_behind f_size f_kind f_number f_wrong f_wrongAt f_faultKind f_faultPlace f_reading f_toldWhy f_x f_standMany f_bestMany f_tail f_round1, (ad 2, .inl (dA 0, 2982, .inl a6))] := hD
      replace hf : zb_X11_undo_44 v5 a6 = some w := hf
      unfold zb_X11_undo_44 at hf
      refine lv_iload_n (pc := 44) hx hb dX11_undo_44 rfl (lv_at hl 1 rfl) ?_
      refine lv_iconst (v := (5 : Int32)) (pc := 45) hx hb dX11_undo_45 (by decide) ?_
      refine lv_icmp_ge (tgt := 83) (pc := 46) hx hb dX11_undo_46 rfl (fun hc => ?_) (fun hc => ?_)
      · have hf := za_t hf hc
        obtain rfl := Option.some.inj hf
        obtain ⟨rfl, rfl, rfl⟩ := zp_3 (ex (show ¬ (1 : Nat) = 0 by decide))
        exact E83 _ _ _ ⟨lv_sub hl [0] rfl, hP, hD, hS⟩
      · have hf := za_f hf hc
        refine lv_aload_n (pc := 49) hx hb dX11_undo_49 rfl (lv_at hl 0 rfl) ?_
        refine va_get (pc := 50) (D := (dC, dI)) (ci := 0) (v := .ref (ad 2)) (C := RX11) (T := TX11) (N := 42) hx hb ht zr_lay hown hK hP 0 rfl rfl 1 (by decide) (ht _ zr_6) (fun _ h9 => h9) rfl dX11_undo_50 ?_
        refine lv_bipush (v := (37 : Int32)) (pc := 53) hx hb dX11_undo_53 (by decide) ?_
        refine lv_iload_n (pc := 55) hx hb dX11_undo_55 rfl (lv_at hl 1 rfl) ?_
        refine lv_iadd (pc := 56) hx hb dX11_undo_56 ?_
        refine lv_aload_n (pc := 57) hx hb dX11_undo_57 rfl (lv_at hl 0 rfl) ?_
        refine va_get (pc := 58) (D := (dC, dI)) (ci := 0) (v := .ref (ad 2)) (C := RX11) (T := TX11) (N := 42) hx hb ht zr_lay hown hK hP 0 rfl rfl 1 (by decide) (ht _ zr_6) (fun _ h9 => h9) rfl dX11_undo_58 ?_
        refine lv_bipush (v := (43 : Int32)) (pc := 61) hx hb dX11_undo_61 (by decide) ?_
        refine lv_iconst (v := (5 : Int32)) (pc := 63) hx hb dX11_undo_63 (by decide) ?_
        refine lv_aload_n (pc := 64) hx hb dX11_undo_64 rfl (lv_at hl 0 rfl) ?_
        refine va_get (pc := 65) (D := (dC, dI)) (ci := 0) (v := .ref (ad 2)) (C := RX11) (T := TX11) (N := 42) hx hb ht zr_lay hown hK hP 0 rfl rfl 1 (by decide) (ht _ zr_6) (fun _ h9 => h9) rfl dX11_undo_65 ?_
        refine lv_bipush (v := (42 : Int32)) (pc := 68) hx hb dX11_undo_68 (by decide) ?_
        obtain ⟨v7, hv7, hf⟩ := zc_1 hf
        refine zw_iald (pc := 70) hx hb hK hP 1 0 rfl rfl hv7 dX11_undo_70 ?_
        refine lv_imul (pc := 71) hx hb dX11_undo_71 ?_
        refine lv_iadd (pc := 72) hx hb dX11_undo_72 ?_
        refine lv_iload_n (pc := 73) hx hb dX11_undo_73 rfl (lv_at hl 1 rfl) ?_
        refine lv_iadd (pc := 74) hx hb dX11_undo_74 ?_
        obtain ⟨v8, hv8, hf⟩ := zc_1 hf
        refine zw_iald (pc := 75) hx hb hK hP 1 0 rfl rfl hv8 dX11_undo_75 ?_
        obtain ⟨a9, ha9, hf⟩ := zc_1 hf
        refine zw_iast (pc := 76) hx hb hK hP hD hS 1 0 rfl rfl ha9 dX11_undo_76 (fun H locs hP hD hS => ?_)
        have hP : va_P (dC, dI) zz_cls [zr_o ad (0 : Int32) f_taped f_at f_behind f_size f_kind f_number f_wrong f_wrongAt f_faultKind f_faultPlace f_reading f_toldWhy f_x f_standMany f_bestMany f_tail f_round1, (ad 2, .inl (dA 0, 2982, .inl a9))] H := hP
        have hD : va_D A [zr_o ad (0 : Int32) f_taped f_at f_behind f_size f_kind f_number f_wrong f_wrongAt f_faultKind f_faultPlace f_reading f_toldWhy f_x f_standMany f_bestMany f_tail f_round1, (ad 2, .inl (dA 0, 2982, .inl a9))] := hD
        obtain ⟨v10, hv10, hf⟩ := zc_1 hf
        refine lv_iinc (v := v10) (lv' := [(2, .int v10), (0, .ref (ad 0))]) (k := 1) (pc := 77) hx hb dX11_undo_77 hl rfl (Option.some.inj hv10) (by decide) rfl (fun ls hl => ?_)
        refine lv_goto (tgt := 44) (pc := 80) hx hb dX11_undo_80 rfl ?_
        obtain rfl := Option.some.inj hf
        exact ih rfl _ _ _ ⟨lv_sub hl [1, 0] rfl, hP, hD, hS⟩
    · have hf := za_f hf hc
      refine lv_bipush (v := (-3 : Int32)) (pc := 28) hx hb dX11_undo_28 (by decide) ?_
      obtain ⟨rfl, rfl, rfl⟩ := zi_3 hf
      exact W.iret (pc := 30) hx hb hr (fun t ht hW => ⟨⟨_, (), rfl, rfl, zz_Bi (by rw [ht]; exact hP) (va_K.moved hW.alike hK) (hD)⟩, hS.F ht⟩) hS.2.2 dX11_undo_30

def zf_X11_whyNot (n : Nat) (b_all : (Nat → Int32)) (b_reckoned : (Nat → Int32)) (b_words : (Nat → Int32)) (p1 : Int64) : Option (Int32 × (Nat → Int32) × (Nat → Int32)) :=
  zd_1 (zf_X11_within p1 (30 : Int64) (39 : Int64)) (fun v1 =>
  if v1 = 0 then
    zd_3 (zf_X11_whyAct n b_all b_reckoned b_words p1) (fun v2 a3 a4 =>
    some (v2, a3, a4))
  else
    some ((0 : Int32), b_reckoned, b_words))
theorem zk_X11_whyNot : yX11_whyNot.cls = RX11 ∧ yX11_whyNot.cls ≠ "java/lang/invoke/MethodHandle" ∧ yX11_whyNot.cls ≠ "java/lang/invoke/VarHandle" ∧ (parseMethodDescriptor yX11_whyNot.desc).map (fun d => d.parameters.length) = some 1 := by decide +kernel
set_option maxHeartbeats 4000000 in
set_option maxRecDepth 100000 in
theorem zt_X11_whyNot (l : Launch) (dC : Nat → ClassId) (dI : Nat → Nat → Nat) (dA : Nat → ClassId) (ad : Nat → Nat) (sz : Nat) (n : Nat) (f_thrown f_taped f_at f_behind f_size f_kind f_number f_wrong f_wrongAt f_faultKind f_faultPlace f_reading f_toldWhy f_x f_standMany f_bestMany f_tail f_round1 : Int32) (b_all : (Nat → Int32)) (b_reckoned : (Nat → Int32)) (b_words : (Nat → Int32)) (p1 : Int64) (r0 : Int32) (o1 : (Nat → Int32)) (o2 : (Nat → Int32)) (hf : zf_X11_whyNot n b_all b_reckoned b_words p1 = some (r0, o1, o2)) : Met l yX11_whyNot (.code yX11_whyNot cX11_whyNot 3 (some .int) :: zr_T) ({ frames := 4, cells := 0, slots := 0, locals := 100 }) (va_Pc [.ref (ad 0), .long p1] (zz_M dC dI dA [zr_o ad f_thrown f_taped f_at f_behind f_size f_kind f_number f_wrong f_wrongAt f_faultKind f_faultPlace f_reading f_toldWhy f_x f_standMany f_bestMany f_tail f_round1, (ad 2, .inl (dA 0, 2982, .inl b_all)), (ad 17, .inl (dA 0, 900, .inl b_reckoned)), (ad 18, .inl (dA 0, 6, .inl b_words))] sz)) (va_Qi (fun (r : Int32) (_ : Unit) => r = r0) (fun _ t => zz_B dC dI dA (va_A [zr_o ad f_thrown f_taped f_at f_behind f_size f_kind f_number f_wrong f_wrongAt f_faultKind f_faultPlace f_reading f_toldWhy f_x f_standMany f_bestMany f_tail f_round1, (ad 2, .inl (dA 0, 2982, .inl b_all)), (ad 17, .inl (dA 0, 900, .inl b_reckoned)), (ad 18, .inl (dA 0, 6, .inl b_words))] sz) [zr_o ad f_thrown f_taped f_at f_behind f_size f_kind f_number f_wrong f_wrongAt f_faultKind f_faultPlace f_reading f_toldWhy f_x f_standMany f_bestMany f_tail f_round1, (ad 2, .inl (dA 0, 2982, .inl b_all)), (ad 17, .inl (dA 0, 900, .inl o1)), (ad 18, .inl (dA 0, 6, .inl o2))] t) (va_A [zr_o ad f_thrown f_taped f_at f_behind f_size f_kind f_number f_wrong f_wrongAt f_faultKind f_faultPlace f_reading f_toldWhy f_x f_standMany f_bestMany f_tail f_round1, (ad 2, .inl (dA 0, 2982, .inl b_all)), (ad 17, .inl (dA 0, 900, .inl b_reckoned)), (ad 18, .inl (dA 0, 6, .inl b_words))] sz)) 0 0 (va_A [zr_o ad f_thrown f_taped f_at f_behind f_size f_kind f_number f_wrong f_wrongAt f_faultKind f_faultPlace f_reading f_toldWhy f_x f_standMany f_bestMany f_tail f_round1, (ad 2, .inl (dA 0, 2982, .inl b_all)), (ad 17, .inl (dA 0, 900, .inl b_reckoned)), (ad 18, .inl (dA 0, 6, .inl b_words))] sz) := by
  unfold zf_X11_whyNot at hf
  refine Met.ofW (cc := cX11_whyNot) (maxL := 3) (ret := (some .int)) (by decide) rfl ?_
  intro p e s m args below meth c s₁ B hml hv
  obtain ⟨rfl, hsz, hP, hK, hD0⟩ := hv
  have hx := B.exec
  have hb := B.bytes
  have hr := B.returns
  have ht : ∀ w ∈ zr_T, w.before ([.ref (ad 0), .long p1] : List Value).toArray s = true := fun w hw => atoms_spec (ws := .code yX11_whyNot cX11_whyNot 3 (some .int) :: zr_T) B.pre w (List.mem_cons_of_mem _ hw)
  have hown : s.vm.findClass RX11 = some m.cls := findClass_of_methodNamed B.named
  have hlocks := B.notSynchronized
  subst hsz
  have hD := hD0.self (sz := s.heap.size)
  generalize hAe : va_A [zr_o ad f_thrown f_taped f_at f_behind f_size f_kind f_number f_wrong f_wrongAt f_faultKind f_faultPlace f_reading f_toldWhy f_x f_standMany f_bestMany f_tail f_round1, (ad 2, .inl (dA 0, 2982, .inl b_all)), (ad 17, .inl (dA 0, 900, .inl b_reckoned)), (ad 18, .inl (dA 0, 6, .inl b_words))] s.heap.size = A at hD ⊢
  have hA : ∀ q : Nat, s.heap.size ≤ q → A q := fun q h => by rw [← hAe]; exact Or.inr h
  clear hAe hD0
  have hS : va_S A s.heap s.heap [] := va_S.rf
  have hl := lv_entry ([.ref (ad 0), .long p1]) (n := 3) (Nat.le_of_ble_eq_true rfl)
  rw [lg_entry_eq]
  generalize (lg_sl ([.ref (ad 0), .long p1]) ++ List.replicate (3 - (lg_sl ([.ref (ad 0), .long p1])).length) Slot.unset).toArray = ls at hl ⊢
  have hl : lv_has ls 3 [(0, .ref (ad 0)), (1, .long p1)] := hl
  refine lv_lload_n (pc := 0) hx hb dX11_whyNot_0 rfl (lv_at hl 1 rfl) ?_
  refine lv_ldc2 (v := (30 : Int64)) (pc := 1) hx hb hown (ht _ zr_302) dX11_whyNot_1 ?_
  refine lv_ldc2 (v := (39 : Int64)) (pc := 4) hx hb hown (ht _ zr_303) dX11_whyNot_4 ?_
  obtain ⟨v1, hv1, hf⟩ := zc_1 hf
  refine zw_Si (pc := 7) (wc := []) (wr := [zr_o ad f_thrown f_taped f_at f_behind f_size f_kind f_number f_wrong f_wrongAt f_faultKind f_faultPlace f_reading f_toldWhy f_x f_standMany f_bestMany f_tail f_round1, (ad 2, .inl (dA 0, 2982, .inl b_all)), (ad 17, .inl (dA 0, 900, .inl b_reckoned)), (ad 18, .inl (dA 0, 6, .inl b_words))]) (w1 := []) (As := [.long p1, .long (30 : Int64), .long (39 : Int64)]) (rest := []) ⟨hx, hb, hml, hown, ht⟩ (zt_X11_within l dC dI dA ad _ p1 (30 : Int64) (39 : Int64) v1 hv1) (cwS 3 ht (zr_S zr_124 zr_125 zr_36 zr_0) rfl rfl rfl zk_X11_within ⟨Nat.le_of_ble_eq_true rfl, Nat.le_of_ble_eq_true rfl⟩) hK hP hD hS hA [] [0, 1, 2, 3] (by decide) (by decide) (by decide) rfl rfl rfl hl.1 (Nat.le_of_ble_eq_true rfl) dX11_whyNot_7 ⟨Nat.zero_le _, Nat.zero_le _⟩ rfl (fun H locs hP hD hS => ?_)
  have hP : va_P (dC, dI) zz_cls [zr_o ad f_thrown f_taped f_at f_behind f_size f_kind f_number f_wrong f_wrongAt f_faultKind f_faultPlace f_reading f_toldWhy f_x f_standMany f_bestMany f_tail f_round1, (ad 2, .inl (dA 0, 2982, .inl b_all)), (ad 17, .inl (dA 0, 900, .inl b_reckoned)), (ad 18, .inl (dA 0, 6, .inl b_words))] H := hP
  have hD : va_D A [zr_o ad f_thrown f_taped f_at f_behind f_size f_kind f_number f_wrong f_wrongAt f_faultKind f_faultPlace f_reading f_toldWhy f_x f_standMany f_bestMany f_tail f_round1, (ad 2, .inl (dA 0, 2982, .inl b_all)), (ad 17, .inl (dA 0, 900, .inl b_reckoned)), (ad 18, .inl (dA 0, 6, .inl b_words))] := hD
  refine lv_if_eq (tgt := 17) (pc := 10) hx hb dX11_whyNot_10 rfl (fun hc => ?_) (fun hc => ?_)
  · have hf := za_t hf hc
    refine lv_aload_n (pc := 17) hx hb dX11_whyNot_17 rfl (lv_at hl 0 rfl) ?_
    refine lv_lload_n (pc := 18) hx hb dX11_whyNot_18 rfl (lv_at hl 1 rfl) ?_
    obtain ⟨v2, a3, a4, hv2, hf⟩ := zc_3 hf
    refine zw_Vi (pc := 19) (wc := [zr_o ad f_thrown f_taped f_at f_behind f_size f_kind f_number f_wrong f_wrongAt f_faultKind f_faultPlace f_reading f_toldWhy f_x f_standMany f_bestMany f_tail f_round1, (ad 2, .inl (dA 0, 2982, .inl b_all)), (ad 17, .inl (dA 0, 900, .inl b_reckoned)), (ad 18, .inl (dA 0, 6, .inl b_words))]) (wr := []) (w1 := [zr_o ad f_thrown f_taped f_at f_behind f_size f_kind f_number f_wrong f_wrongAt f_faultKind f_faultPlace f_reading f_toldWhy f_x f_standMany f_bestMany f_tail f_round1, (ad 2, .inl (dA 0, 2982, .inl b_all)), (ad 17, .inl (dA 0, 900, .inl a3)), (ad 18, .inl (dA 0, 6, .inl a4))]) (As := [.long p1]) (rest := []) ⟨hx, hb, hml, hown, ht⟩ (zt_X11_whyAct l dC dI dA ad _ n f_thrown f_taped f_at f_behind f_size f_kind f_number f_wrong f_wrongAt f_faultKind f_faultPlace f_reading f_toldWhy f_x f_standMany f_bestMany f_tail f_round1 b_all b_reckoned b_words p1 v2 a3 a4 hv2) (cwV 1 ht (zr_V zr_268 zr_269 zr_270 zr_36 zr_267) rfl rfl rfl zk_X11_whyAct ⟨Nat.le_of_ble_eq_true rfl, Nat.le_of_ble_eq_true rfl⟩) rfl rfl hK hP hD hS hA [0, 1, 2, 3] [] (by decide) (by decide) (by decide) rfl rfl rfl hl.1 (Nat.le_of_ble_eq_true rfl) dX11_whyNot_19 ⟨Nat.zero_le _, Nat.zero_le _⟩ rfl (fun H locs hP hD hS => ?_)
    have hP : va_P (dC, dI) zz_cls [zr_o ad f_thrown f_taped f_at f_behind f_size f_kind f_number f_wrong f_wrongAt f_faultKind f_faultPlace f_reading f_toldWhy f_x f_standMany f_bestMany f_tail f_round1, (ad 2, .inl (dA 0, 2982, .inl b_all)), (ad 17, .inl (dA 0, 900, .inl a3)), (ad 18, .inl (dA 0, 6, .inl a4))] H := hP
    have hD : va_D A [zr_o ad f_thrown f_taped f_at f_behind f_size f_kind f_number f_wrong f_wrongAt f_faultKind f_faultPlace f_reading f_toldWhy f_x f_standMany f_bestMany f_tail f_round1, (ad 2, .inl (dA 0, 2982, .inl b_all)), (ad 17, .inl (dA 0, 900, .inl a3)), (ad 18, .inl (dA 0, 6, .inl a4))] := hD
    obtain ⟨rfl, rfl, rfl⟩ := zi_3 hf
    exact W.iret (pc := 22) hx hb hr (fun t ht hW => ⟨⟨_, (), rfl, rfl, zz_Bi (by rw [ht]; exact hP) (va_K.moved hW.alike hK) (hD)⟩, hS.F ht⟩) hS.2.2 dX11_whyNot_22
  · have hf := za_f hf hc
    refine lv_iconst (v := (0 : Int32)) (pc := 13) hx hb dX11_whyNot_13 (by decide) ?_
    refine lv_goto (tgt := 22) (pc := 14) hx hb dX11_whyNot_14 rfl ?_
    obtain ⟨rfl, rfl, rfl⟩ := zi_3 hf
    exact W.iret (pc := 22) hx hb hr (fun t ht hW => ⟨⟨_, (), rfl, rfl, zz_Bi (by rw [ht]; exact hP) (va_K.moved hW.alike hK) (hD)⟩, hS.F ht⟩) hS.2.2 dX11_whyNot_22

def zf_X11_does (n : Nat) (b_all : (Nat → Int32)) (b_reckoned : (Nat → Int32)) (b_words : (Nat → Int32)) (p1 : Int32) : Option ((Nat → Int32) × (Nat → Int32) × (Nat → Int32)) :=
  if p1 < (30 : Int32) then
    zd_1 (zf_X11_moveOf b_all (Int32.toInt64 p1)) (fun v1 =>
    zd_3 (zf_X11_acts n b_all b_reckoned b_words v1) (fun a2 a3 a4 =>
    some (a2, a3, a4)))
  else
    zd_1 (za_st b_all 2982 (40 : Int32) (p1 - (30 : Int32))) (fun a5 =>
    some (a5, b_reckoned, b_words))
theorem zk_X11_does : yX11_does.cls = RX11 ∧ yX11_does.cls ≠ "java/lang/invoke/MethodHandle" ∧ yX11_does.cls ≠ "java/lang/invoke/VarHandle" ∧ (parseMethodDescriptor yX11_does.desc).map (fun d => d.parameters.length) = some 1 := by decide +kernel
set_option maxHeartbeats 4000000 in
set_option maxRecDepth 100000 in
theorem zt_X11_does (l : Launch) (dC : Nat → ClassId) (dI : Nat → Nat → Nat) (dA : Nat → ClassId) (ad : Nat → Nat) (sz : Nat) (n : Nat) (f_thrown f_taped f_at f_behind f_size f_kind f_number f_wrong f_wrongAt f_faultKind f_faultPlace f_reading f_toldWhy f_x f_standMany f_bestMany f_tail f_round1 : Int32) (b_all : (Nat → Int32)) (b_reckoned : (Nat → Int32)) (b_words : (Nat → Int32)) (p1 : Int32) (o1 : (Nat → Int32)) (o2 : (Nat → Int32)) (o3 : (Nat → Int32)) (hf : zf_X11_does n b_all b_reckoned b_words p1 = some (o1, o2, o3)) : Met l yX11_does (.code yX11_does cX11_does 2 none :: zr_T) ({ frames := 5, cells := 0, slots := 0, locals := 120 }) (va_Pc [.ref (ad 0), .int p1] (zz_M dC dI dA [zr_o ad f_thrown f_taped f_at f_behind f_size f_kind f_number f_wrong f_wrongAt f_faultKind f_faultPlace f_reading f_toldWhy f_x f_standMany f_bestMany f_tail f_round1, (ad 2, .inl (dA 0, 2982, .inl b_all)), (ad 17, .inl (dA 0, 900, .inl b_reckoned)), (ad 18, .inl (dA 0, 6, .inl b_words))] sz)) (va_Qv (fun _ : Unit => True) (fun _ t => zz_B dC dI dA (va_A [zr_o ad f_thrown f_taped f_at f_behind f_size f_kind f_number f_wrong f_wrongAt f_faultKind f_faultPlace f_reading f_toldWhy f_x f_standMany f_bestMany f_tail f_round1, (ad 2, .inl (dA 0, 2982, .inl b_all)), (ad 17, .inl (dA 0, 900, .inl b_reckoned)), (ad 18, .inl (dA 0, 6, .inl b_words))] sz) [zr_o ad f_thrown f_taped f_at f_behind f_size f_kind f_number f_wrong f_wrongAt f_faultKind f_faultPlace f_reading f_toldWhy f_x f_standMany f_bestMany f_tail f_round1, (ad 2, .inl (dA 0, 2982, .inl o1)), (ad 17, .inl (dA 0, 900, .inl o2)), (ad 18, .inl (dA 0, 6, .inl o3))] t) (va_A [zr_o ad f_thrown f_taped f_at f_behind f_size f_kind f_number f_wrong f_wrongAt f_faultKind f_faultPlace f_reading f_toldWhy f_x f_standMany f_bestMany f_tail f_round1, (ad 2, .inl (dA 0, 2982, .inl b_all)), (ad 17, .inl (dA 0, 900, .inl b_reckoned)), (ad 18, .inl (dA 0, 6, .inl b_words))] sz)) 0 0 (va_A [zr_o ad f_thrown f_taped f_at f_behind f_size f_kind f_number f_wrong f_wrongAt f_faultKind f_faultPlace f_reading f_toldWhy f_x f_standMany f_bestMany f_tail f_round1, (ad 2, .inl (dA 0, 2982, .inl b_all)), (ad 17, .inl (dA 0, 900, .inl b_reckoned)), (ad 18, .inl (dA 0, 6, .inl b_words))] sz) := by
  unfold zf_X11_does at hf
  refine Met.ofW (cc := cX11_does) (maxL := 2) (ret := none) (by decide) rfl ?_
  intro p e s m args below meth c s₁ B hml hv
  obtain ⟨rfl, hsz, hP, hK, hD0⟩ := hv
  have hx := B.exec
  have hb := B.bytes
  have hr := B.returns
  have ht : ∀ w ∈ zr_T, w.before ([.ref (ad 0), .int p1] : List Value).toArray s = true := fun w hw => atoms_spec (ws := .code yX11_does cX11_does 2 none :: zr_T) B.pre w (List.mem_cons_of_mem _ hw)
  have hown : s.vm.findClass RX11 = some m.cls := findClass_of_methodNamed B.named
  have hlocks := B.notSynchronized
  subst hsz
  have hD := hD0.self (sz := s.heap.size)
  generalize hAe : va_A [zr_o ad f_thrown f_taped f_at f_behind f_size f_kind f_number f_wrong f_wrongAt f_faultKind f_faultPlace f_reading f_toldWhy f_x f_standMany f_bestMany f_tail f_round1, (ad 2, .inl (dA 0, 2982, .inl b_all)), (ad 17, .inl (dA 0, 900, .inl b_reckoned)), (ad 18, .inl (dA 0, 6, .inl b_words))] s.heap.size = A at hD ⊢
  have hA : ∀ q : Nat, s.heap.size ≤ q → A q := fun q h => by rw [← hAe]; exact Or.inr h
  clear hAe hD0
  have hS : va_S A s.heap s.heap [] := va_S.rf
  have hl := lv_entry ([.ref (ad 0), .int p1]) (n := 2) (Nat.le_of_ble_eq_true rfl)
  rw [lg_entry_eq]
  generalize (lg_sl ([.ref (ad 0), .int p1]) ++ List.replicate (2 - (lg_sl ([.ref (ad 0), .int p1])).length) Slot.unset).toArray = ls at hl ⊢
  have hl : lv_has ls 2 [(0, .ref (ad 0)), (1, .int p1)] := hl
  refine lv_iload_n (pc := 0) hx hb dX11_does_0 rfl (lv_at hl 1 rfl) ?_
  refine lv_bipush (v := (30 : Int32)) (pc := 1) hx hb dX11_does_1 (by decide) ?_
  refine lv_icmp_lt (tgt := 20) (pc := 3) hx hb dX11_does_3 rfl (fun hc => ?_) (fun hc => ?_)
  · have hf := za_t hf hc
    refine lv_aload_n (pc := 20) hx hb dX11_does_20 rfl (lv_at hl 0 rfl) ?_
    refine lv_aload_n (pc := 21) hx hb dX11_does_21 rfl (lv_at hl 0 rfl) ?_
    refine lv_iload_n (pc := 22) hx hb dX11_does_22 rfl (lv_at hl 1 rfl) ?_
    refine lv_i2l (pc := 23) hx hb dX11_does_23 rfl ?_
    obtain ⟨v1, hv1, hf⟩ := zc_1 hf
    refine zw_Vi (pc := 24) (wc := [zr_o ad f_thrown f_taped f_at f_behind f_size f_kind f_number f_wrong f_wrongAt f_faultKind f_faultPlace f_reading f_toldWhy f_x f_standMany f_bestMany f_tail f_round1, (ad 2, .inl (dA 0, 2982, .inl b_all))]) (wr := [(ad 17, .inl (dA 0, 900, .inl b_reckoned)), (ad 18, .inl (dA 0, 6, .inl b_words))]) (w1 := [zr_o ad f_thrown f_taped f_at f_behind f_size f_kind f_number f_wrong f_wrongAt f_faultKind f_faultPlace f_reading f_toldWhy f_x f_standMany f_bestMany f_tail f_round1, (ad 2, .inl (dA 0, 2982, .inl b_all))]) (As := [.long (Int32.toInt64 p1)]) (rest := [.ref (ad 0)]) ⟨hx, hb, hml, hown, ht⟩ (zt_X11_moveOf l dC dI dA ad _ f_thrown f_taped f_at f_behind f_size f_kind f_number f_wrong f_wrongAt f_faultKind f_faultPlace f_reading f_toldWhy f_x f_standMany f_bestMany f_tail f_round1 b_all (Int32.toInt64 p1) v1 hv1) (cwV 1 ht (zr_V zr_258 zr_259 zr_260 zr_36 zr_230) rfl rfl rfl zk_X11_moveOf ⟨Nat.le_of_ble_eq_true rfl, Nat.le_of_ble_eq_true rfl⟩) rfl rfl hK hP hD hS hA [0, 1] [2, 3] (by decide) (by decide) (by decide) rfl rfl rfl hl.1 (Nat.le_of_ble_eq_true rfl) dX11_does_24 ⟨Nat.zero_le _, Nat.zero_le _⟩ rfl (fun H locs hP hD hS => ?_)
    have hP : va_P (dC, dI) zz_cls [(ad 17, .inl (dA 0, 900, .inl b_reckoned)), (ad 18, .inl (dA 0, 6, .inl b_words)), zr_o ad f_thrown f_taped f_at f_behind f_size f_kind f_number f_wrong f_wrongAt f_faultKind f_faultPlace f_reading f_toldWhy f_x f_standMany f_bestMany f_tail f_round1, (ad 2, .inl (dA 0, 2982, .inl b_all))] H := hP
    have hD : va_D A [(ad 17, .inl (dA 0, 900, .inl b_reckoned)), (ad 18, .inl (dA 0, 6, .inl b_words)), zr_o ad f_thrown f_taped f_at f_behind f_size f_kind f_number f_wrong f_wrongAt f_faultKind f_faultPlace f_reading f_toldWhy f_x f_standMany f_bestMany f_tail f_round1, (ad 2, .inl (dA 0, 2982, .inl b_all))] := hD
    obtain ⟨a2, a3, a4, ha2, hf⟩ := zc_3 hf
    refine zw_Vv (pc := 27) (wc := [zr_o ad f_thrown f_taped f_at f_behind f_size f_kind f_number f_wrong f_wrongAt f_faultKind f_faultPlace f_reading f_toldWhy f_x f_standMany f_bestMany f_tail f_round1, (ad 2, .inl (dA 0, 2982, .inl b_all)), (ad 17, .inl (dA 0, 900, .inl b_reckoned)), (ad 18, .inl (dA 0, 6, .inl b_words))]) (wr := []) (w1 := [zr_o ad f_thrown f_taped f_at f_behind f_size f_kind f_number f_wrong f_wrongAt f_faultKind f_faultPlace f_reading f_toldWhy f_x f_standMany f_bestMany f_tail f_round1, (ad 2, .inl (dA 0, 2982, .inl a2)), (ad 17, .inl (dA 0, 900, .inl a3)), (ad 18, .inl (dA 0, 6, .inl a4))]) (As := [.int v1]) (rest := []) ⟨hx, hb, hml, hown, ht⟩ (zt_X11_acts l dC dI dA ad _ n f_thrown f_taped f_at f_behind f_size f_kind f_number f_wrong f_wrongAt f_faultKind f_faultPlace f_reading f_toldWhy f_x f_standMany f_bestMany f_tail f_round1 b_all b_reckoned b_words v1 a2 a3 a4 ha2) (cwV 1 ht (zr_V zr_286 zr_287 zr_288 zr_36 zr_282) rfl rfl rfl zk_X11_acts ⟨Nat.le_of_ble_eq_true rfl, Nat.le_of_ble_eq_true rfl⟩) rfl rfl hK hP hD hS hA [2, 3, 0, 1] [] (by decide) (by decide) (by decide) rfl rfl rfl hl.1 (Nat.le_of_ble_eq_true rfl) dX11_does_27 ⟨Nat.zero_le _, Nat.zero_le _⟩ rfl (fun H locs hP hD hS => ?_)
    have hP : va_P (dC, dI) zz_cls [zr_o ad f_thrown f_taped f_at f_behind f_size f_kind f_number f_wrong f_wrongAt f_faultKind f_faultPlace f_reading f_toldWhy f_x f_standMany f_bestMany f_tail f_round1, (ad 2, .inl (dA 0, 2982, .inl a2)), (ad 17, .inl (dA 0, 900, .inl a3)), (ad 18, .inl (dA 0, 6, .inl a4))] H := hP
    have hD : va_D A [zr_o ad f_thrown f_taped f_at f_behind f_size f_kind f_number f_wrong f_wrongAt f_faultKind f_faultPlace f_reading f_toldWhy f_x f_standMany f_bestMany f_tail f_round1, (ad 2, .inl (dA 0, 2982, .inl a2)), (ad 17, .inl (dA 0, 900, .inl a3)), (ad 18, .inl (dA 0, 6, .inl a4))] := hD
    obtain ⟨rfl, rfl, rfl⟩ := zi_3 hf
    exact W.vret (pc := 30) hx hb hr (fun t ht hW => ⟨⟨(), rfl, trivial, zz_Bi (by rw [ht]; exact hP) (va_K.moved hW.alike hK) (hD)⟩, hS.F ht⟩) hS.2.2 dX11_does_30
  · have hf := za_f hf hc
    refine lv_aload_n (pc := 6) hx hb dX11_does_6 rfl (lv_at hl 0 rfl) ?_
    refine va_get (pc := 7) (D := (dC, dI)) (ci := 0) (v := .ref (ad 2)) (C := RX11) (T := TX11) (N := 42) hx hb ht zr_lay hown hK hP 0 rfl rfl 1 (by decide) (ht _ zr_6) (fun _ h9 => h9) rfl dX11_does_7 ?_
    refine lv_bipush (v := (40 : Int32)) (pc := 10) hx hb dX11_does_10 (by decide) ?_
    refine lv_iload_n (pc := 12) hx hb dX11_does_12 rfl (lv_at hl 1 rfl) ?_
    refine lv_bipush (v := (30 : Int32)) (pc := 13) hx hb dX11_does_13 (by decide) ?_
    refine lv_isub (pc := 15) hx hb dX11_does_15 ?_
    obtain ⟨a5, ha5, hf⟩ := zc_1 hf
    refine zw_iast (pc := 16) hx hb hK hP hD hS 1 0 rfl rfl ha5 dX11_does_16 (fun H locs hP hD hS => ?_)
    have hP : va_P (dC, dI) zz_cls [zr_o ad f_thrown f_taped f_at f_behind f_size f_kind f_number f_wrong f_wrongAt f_faultKind f_faultPlace f_reading f_toldWhy f_x f_standMany f_bestMany f_tail f_round1, (ad 2, .inl (dA 0, 2982, .inl a5)), (ad 17, .inl (dA 0, 900, .inl b_reckoned)), (ad 18, .inl (dA 0, 6, .inl b_words))] H := hP
    have hD : va_D A [zr_o ad f_thrown f_taped f_at f_behind f_size f_kind f_number f_wrong f_wrongAt f_faultKind f_faultPlace f_reading f_toldWhy f_x f_standMany f_bestMany f_tail f_round1, (ad 2, .inl (dA 0, 2982, .inl a5)), (ad 17, .inl (dA 0, 900, .inl b_reckoned)), (ad 18, .inl (dA 0, 6, .inl b_words))] := hD
    refine lv_goto (tgt := 30) (pc := 17) hx hb dX11_does_17 rfl ?_
    obtain ⟨rfl, rfl, rfl⟩ := zi_3 hf
    exact W.vret (pc := 30) hx hb hr (fun t ht hW => ⟨⟨(), rfl, trivial, zz_Bi (by rw [ht]; exact hP) (va_K.moved hW.alike hK) (hD)⟩, hS.F ht⟩) hS.2.2 dX11_does_30

def zb_X11_tells_7 (b_rowMany : (Nat → Int32)) (p1 : Int32) (b_numbers : (Nat → Int64)) (n : Nat) (v1 : Int32) (v2 : Int32) (a3 : (Nat → Int32)) (a4 : (Nat → Int32)) (a5 : (Nat → Int32)) : Option (Nat × Int32 × Int32 × (Nat → Int32) × (Nat → Int32) × (Nat → Int32)) :=
  zd_1 (za_ld b_rowMany 4 p1) (fun v6 =>
  if v6 ≤ v1 then
    some (2, v1, v2, a3, a4, a5)
  else
    zd_1 (za_ld b_numbers 160 (((40 : Int32) * p1) + v1)) (fun v7 =>
    zd_3 (zf_X11_whyNot n a3 a4 a5 v7) (fun v8 a9 a10 =>
    if v8 = 0 then
      zd_1 (za_ld b_numbers 160 (((40 : Int32) * p1) + v1)) (fun v11 =>
      zd_3 (zf_X11_does n a3 a9 a10 (Int64.toInt32 v11)) (fun a12 a13 a14 =>
      zd_1 (some (v1 + (1 : Int32))) (fun v15 =>
      some (0, v15, v8, a12, a13, a14))))
    else
      some (1, v1, v8, a3, a9, a10))))
def zf_X11_tells (n : Nat) (f_toldWhy : Int32) (b_all : (Nat → Int32)) (b_reckoned : (Nat → Int32)) (b_words : (Nat → Int32)) (b_rowMany : (Nat → Int32)) (b_numbers : (Nat → Int64)) (p1 : Int32) : Option (Int32 × Int32 × (Nat → Int32) × (Nat → Int32) × (Nat → Int32)) :=
  zd_6 (za_it (fun v => zb_X11_tells_7 b_rowMany p1 b_numbers n v.1 v.2.1 v.2.2.1 v.2.2.2.1 v.2.2.2.2) n ((0 : Int32), (0 : Int32), b_all, b_reckoned, b_words)) (fun g21 v16 v17 a18 a19 a20 =>
  if g21 = 1 then
    some (v16, v17, a18, a19, a20)
  else if g21 = 2 then
    zd_1 (za_ld b_rowMany 4 p1) (fun v22 =>
    some (v22, v17, a18, a19, a20))
  else none)
theorem zk_X11_tells : yX11_tells.cls = RX11 ∧ yX11_tells.cls ≠ "java/lang/invoke/MethodHandle" ∧ yX11_tells.cls ≠ "java/lang/invoke/VarHandle" ∧ (parseMethodDescriptor yX11_tells.desc).map (fun d => d.parameters.length) = some 1 := by decide +kernel
set_option maxHeartbeats 4000000 in
set_option maxRecDepth 100000 in
theorem zt_X11_tells (l : Launch) (dC : Nat → ClassId) (dI : Nat → Nat → Nat) (dA : Nat → ClassId) (ad : Nat → Nat) (sz : Nat) (n : Nat) (f_thrown f_taped f_at f_behind f_size f_kind f_number f_wrong f_wrongAt f_faultKind f_faultPlace f_reading f_toldWhy f_x f_standMany f_bestMany f_tail f_round1 : Int32) (b_all : (Nat → Int32)) (b_reckoned : (Nat → Int32)) (b_words : (Nat → Int32)) (b_rowMany : (Nat → Int32)) (b_numbers : (Nat → Int64)) (p1 : Int32) (r0 : Int32) (o1 : Int32) (o2 : (Nat → Int32)) (o3 : (Nat → Int32)) (o4 : (Nat → Int32)) (hf : zf_X11_tells n f_toldWhy b_all b_reckoned b_words b_rowMany b_numbers p1 = some (r0, o1, o2, o3, o4)) : Met l yX11_tells (.code yX11_tells cX11_tells 3 (some .int) :: zr_T) ({ frames := 6, cells := 0, slots := 0, locals := 141 }) (va_Pc [.ref (ad 0), .int p1] (zz_M dC dI dA [zr_o ad f_thrown f_taped f_at f_behind f_size f_kind f_number f_wrong f_wrongAt f_faultKind f_faultPlace f_reading f_toldWhy f_x f_standMany f_bestMany f_tail f_round1, (ad 2, .inl (dA 0, 2982, .inl b_all)), (ad 17, .inl (dA 0, 900, .inl b_reckoned)), (ad 18, .inl (dA 0, 6, .inl b_words)), (ad 41, .inl (dA 0, 4, .inl b_rowMany)), (ad 42, .inl (dA 1, 160, .inr (.inl b_numbers)))] sz)) (va_Qi (fun (r : Int32) (_ : Unit) => r = r0) (fun _ t => zz_B dC dI dA (va_A [zr_o ad f_thrown f_taped f_at f_behind f_size f_kind f_number f_wrong f_wrongAt f_faultKind f_faultPlace f_reading f_toldWhy f_x f_standMany f_bestMany f_tail f_round1, (ad 2, .inl (dA 0, 2982, .inl b_all)), (ad 17, .inl (dA 0, 900, .inl b_reckoned)), (ad 18, .inl (dA 0, 6, .inl b_words)), (ad 41, .inl (dA 0, 4, .inl b_rowMany)), (ad 42, .inl (dA 1, 160, .inr (.inl b_numbers)))] sz) [zr_o ad f_thrown f_taped f_at f_behind f_size f_kind f_number f_wrong f_wrongAt f_faultKind f_faultPlace f_reading o1 f_x f_standMany f_bestMany f_tail f_round1, (ad 2, .inl (dA 0, 2982, .inl o2)), (ad 17, .inl (dA 0, 900, .inl o3)), (ad 18, .inl (dA 0, 6, .inl o4)), (ad 41, .inl (dA 0, 4, .inl b_rowMany)), (ad 42, .inl (dA 1, 160, .inr (.inl b_numbers)))] t) (va_A [zr_o ad f_thrown f_taped f_at f_behind f_size f_kind f_number f_wrong f_wrongAt f_faultKind f_faultPlace f_reading f_toldWhy f_x f_standMany f_bestMany f_tail f_round1, (ad 2, .inl (dA 0, 2982, .inl b_all)), (ad 17, .inl (dA 0, 900, .inl b_reckoned)), (ad 18, .inl (dA 0, 6, .inl b_words)), (ad 41, .inl (dA 0, 4, .inl b_rowMany)), (ad 42, .inl (dA 1, 160, .inr (.inl b_numbers)))] sz)) 0 0 (va_A [zr_o ad f_thrown f_taped f_at f_behind f_size f_kind f_number f_wrong f_wrongAt f_faultKind f_faultPlace f_reading f_toldWhy f_x f_standMany f_bestMany f_tail f_round1, (ad 2, .inl (dA 0, 2982, .inl b_all)), (ad 17, .inl (dA 0, 900, .inl b_reckoned)), (ad 18, .inl (dA 0, 6, .inl b_words)), (ad 41, .inl (dA 0, 4, .inl b_rowMany)), (ad 42, .inl (dA 1, 160, .inr (.inl b_numbers)))] sz) := by
  unfold zf_X11_tells at hf
  refine Met.ofW (cc := cX11_tells) (maxL := 3) (ret := (some .int)) (by decide) rfl ?_
  intro p e s m args below meth c s₁ B hml hv
  obtain ⟨rfl, hsz, hP, hK, hD0⟩ := hv
  have hx := B.exec
  have hb := B.bytes
  have hr := B.returns
  have ht : ∀ w ∈ zr_T, w.before ([.ref (ad 0), .int p1] : List Value).toArray s = true := fun w hw => atoms_spec (ws := .code yX11_tells cX11_tells 3 (some .int) :: zr_T) B.pre w (List.mem_cons_of_mem _ hw)
  have hown : s.vm.findClass RX11 = some m.cls := findClass_of_methodNamed B.named
  have hlocks := B.notSynchronized
  subst hsz
  have hD := hD0.self (sz := s.heap.size)
  generalize hAe : va_A [zr_o ad f_thrown f_taped f_at f_behind f_size f_kind f_number f_wrong f_wrongAt f_faultKind f_faultPlace f_reading f_toldWhy f_x f_standMany f_bestMany f_tail f_round1, (ad 2, .inl (dA 0, 2982, .inl b_all)), (ad 17, .inl (dA 0, 900, .inl b_reckoned)), (ad 18, .inl (dA 0, 6, .inl b_words)), (ad 41, .inl (dA 0, 4, .inl b_rowMany)), (ad 42, .inl (dA 1, 160, .inr (.inl b_numbers)))] s.heap.size = A at hD ⊢
  have hA : ∀ q : Nat, s.heap.size ≤ q → A q := fun q h => by rw [← hAe]; exact Or.inr h
  clear hAe hD0
  have hS : va_S A s.heap s.heap [] := va_S.rf
  have hl := lv_entry ([.ref (ad 0), .int p1]) (n := 3) (Nat.le_of_ble_eq_true rfl)
  rw [lg_entry_eq]
  generalize (lg_sl ([.ref (ad 0), .int p1]) ++ List.replicate (3 - (lg_sl ([.ref (ad 0), .int p1])).length) Slot.unset).toArray = ls at hl ⊢
  have hl : lv_has ls 3 [(0, .ref (ad 0)), (1, .int p1)] := hl
  refine lv_aload_n (pc := 0) hx hb dX11_tells_0 rfl (lv_at hl 0 rfl) ?_
  refine lv_iconst (v := (0 : Int32)) (pc := 1) hx hb dX11_tells_1 (by decide) ?_
  refine va_put (pc := 2) (D := (dC, dI)) (ci := 0) (v := .int (0 : Int32)) (ty := .int) (C := RX11) (T := TX11) (N := 42) hx hb ht zr_lay tyX11 tyX11_ok nmX11 hown hK hP hD hS 0 rfl rfl 19 (by decide) (ht _ zr_306) (fun _ h9 => h9) rfl (by decide +kernel) rfl rfl (Nat.le_of_ble_eq_true rfl) dX11_tells_2 (fun H locs hP hD hS => ?_)
  have hP : va_P (dC, dI) zz_cls [zr_o ad f_thrown f_taped f_at f_behind f_size f_kind f_number f_wrong f_wrongAt f_faultKind f_faultPlace f_reading (0 : Int32) f_x f_standMany f_bestMany f_tail f_round1, (ad 2, .inl (dA 0, 2982, .inl b_all)), (ad 17, .inl (dA 0, 900, .inl b_reckoned)), (ad 18, .inl (dA 0, 6, .inl b_words)), (ad 41, .inl (dA 0, 4, .inl b_rowMany)), (ad 42, .inl (dA 1, 160, .inr (.inl b_numbers)))] H := hP
  have hD : va_D A [zr_o ad f_thrown f_taped f_at f_behind f_size f_kind f_number f_wrong f_wrongAt f_faultKind f_faultPlace f_reading (0 : Int32) f_x f_standMany f_bestMany f_tail f_round1, (ad 2, .inl (dA 0, 2982, .inl b_all)), (ad 17, .inl (dA 0, 900, .inl b_reckoned)), (ad 18, .inl (dA 0, 6, .inl b_words)), (ad 41, .inl (dA 0, 4, .inl b_rowMany)), (ad 42, .inl (dA 1, 160, .inr (.inl b_numbers)))] := hD
  refine lv_iconst (v := (0 : Int32)) (pc := 5) hx hb dX11_tells_5 (by decide) ?_
  refine lv_istore_n (lv' := [(2, .int (0 : Int32)), (0, .ref (ad 0)), (1, .int p1)]) (pc := 6) hx hb dX11_tells_6 rfl hl (by decide) rfl (fun ls hl => ?_)
  obtain ⟨g21, v16, v17, a18, a19, a20, hj, hf⟩ := zc_6 hf
  refine zj_join (pcJ := 43) (stk := []) (X := fun H locs ls => g21 = 1 ∧ lv_has ls 3 [(2, .int v16)] ∧ va_P (dC, dI) zz_cls [zr_o ad f_thrown f_taped f_at f_behind f_size f_kind f_number f_wrong f_wrongAt f_faultKind f_faultPlace f_reading v17 f_x f_standMany f_bestMany f_tail f_round1, (ad 2, .inl (dA 0, 2982, .inl a18)), (ad 17, .inl (dA 0, 900, .inl a19)), (ad 18, .inl (dA 0, 6, .inl a20)), (ad 41, .inl (dA 0, 4, .inl b_rowMany)), (ad 42, .inl (dA 1, 160, .inr (.inl b_numbers)))] H ∧ va_D A [zr_o ad f_thrown f_taped f_at f_behind f_size f_kind f_number f_wrong f_wrongAt f_faultKind f_faultPlace f_reading v17 f_x f_standMany f_bestMany f_tail f_round1, (ad 2, .inl (dA 0, 2982, .inl a18)), (ad 17, .inl (dA 0, 900, .inl a19)), (ad 18, .inl (dA 0, 6, .inl a20)), (ad 41, .inl (dA 0, 4, .inl b_rowMany)), (ad 42, .inl (dA 1, 160, .inr (.inl b_numbers)))] ∧ va_S A s.heap H locs) (fun H locs ls hX => ?_) (fun E43 => ?_)
  · obtain ⟨htg, hl, hP, hD, hS⟩ := hX
    clear hj
    have hf := za_t hf htg
    refine lv_iload_n (pc := 43) hx hb dX11_tells_43 rfl (lv_at hl 0 rfl) ?_
    obtain ⟨rfl, rfl, rfl, rfl, rfl⟩ := zi_5 hf
    exact W.iret (pc := 44) hx hb hr (fun t ht hW => ⟨⟨_, (), rfl, rfl, zz_Bi (by rw [ht]; exact hP) (va_K.moved hW.alike hK) (hD)⟩, hS.F ht⟩) hS.2.2 dX11_tells_44
  refine zj_join (pcJ := 67) (stk := []) (X := fun H locs ls => g21 = 2 ∧ lv_has ls 3 [(0, .ref (ad 0)), (1, .int p1)] ∧ va_P (dC, dI) zz_cls [zr_o ad f_thrown f_taped f_at f_behind f_size f_kind f_number f_wrong f_wrongAt f_faultKind f_faultPlace f_reading v17 f_x f_standMany f_bestMany f_tail f_round1, (ad 2, .inl (dA 0, 2982, .inl a18)), (ad 17, .inl (dA 0, 900, .inl a19)), (ad 18, .inl (dA 0, 6, .inl a20)), (ad 41, .inl (dA 0, 4, .inl b_rowMany)), (ad 42, .inl (dA 1, 160, .inr (.inl b_numbers)))] H ∧ va_D A [zr_o ad f_thrown f_taped f_at f_behind f_size f_kind f_number f_wrong f_wrongAt f_faultKind f_faultPlace f_reading v17 f_x f_standMany f_bestMany f_tail f_round1, (ad 2, .inl (dA 0, 2982, .inl a18)), (ad 17, .inl (dA 0, 900, .inl a19)), (ad 18, .inl (dA 0, 6, .inl a20)), (ad 41, .inl (dA 0, 4, .inl b_rowMany)), (ad 42, .inl (dA 1, 160, .inr (.inl b_numbers)))] ∧ va_S A s.heap H locs) (fun H locs ls hX => ?_) (fun E67 => ?_)
  · obtain ⟨htg, hl, hP, hD, hS⟩ := hX
    clear hj
    have hf := za_f hf (by rw [htg]; decide)
    have hf := za_t hf htg
    refine lv_aload_n (pc := 67) hx hb dX11_tells_67 rfl (lv_at hl 0 rfl) ?_
    refine va_get (pc := 68) (D := (dC, dI)) (ci := 0) (v := .ref (ad 41)) (C := RX11) (T := TX11) (N := 42) hx hb ht zr_lay hown hK hP 0 rfl rfl 40 (by decide) (ht _ zr_32) (fun _ h9 => h9) rfl dX11_tells_68 ?_
    refine lv_iload_n (pc := 71) hx hb dX11_tells_71 rfl (lv_at hl 1 rfl) ?_
    obtain ⟨v22, hv22, hf⟩ := zc_1 hf
    refine zw_iald (pc := 72) hx hb hK hP 4 0 rfl rfl hv22 dX11_tells_72 ?_
    obtain ⟨rfl, rfl, rfl, rfl, rfl⟩ := zi_5 hf
    exact W.iret (pc := 73) hx hb hr (fun t ht hW => ⟨⟨_, (), rfl, rfl, zz_Bi (by rw [ht]; exact hP) (va_K.moved hW.alike hK) (hD)⟩, hS.F ht⟩) hS.2.2 dX11_tells_73
  clear hf
  refine zw_loop (pcH := 7) (X := fun v H locs ls => lv_has ls 3 [(0, .ref (ad 0)), (1, .int p1), (2, .int v.1)] ∧ va_P (dC, dI) zz_cls [zr_o ad f_thrown f_taped f_at f_behind f_size f_kind f_number f_wrong f_wrongAt f_faultKind f_faultPlace f_reading v.2.1 f_x f_standMany f_bestMany f_tail f_round1, (ad 2, .inl (dA 0, 2982, .inl v.2.2.1)), (ad 17, .inl (dA 0, 900, .inl v.2.2.2.1)), (ad 18, .inl (dA 0, 6, .inl v.2.2.2.2)), (ad 41, .inl (dA 0, 4, .inl b_rowMany)), (ad 42, .inl (dA 1, 160, .inr (.inl b_numbers)))] H ∧ va_D A [zr_o ad f_thrown f_taped f_at f_behind f_size f_kind f_number f_wrong f_wrongAt f_faultKind f_faultPlace f_reading v.2.1 f_x f_standMany f_bestMany f_tail f_round1, (ad 2, .inl (dA 0, 2982, .inl v.2.2.1)), (ad 17, .inl (dA 0, 900, .inl v.2.2.2.1)), (ad 18, .inl (dA 0, 6, .inl v.2.2.2.2)), (ad 41, .inl (dA 0, 4, .inl b_rowMany)), (ad 42, .inl (dA 1, 160, .inr (.inl b_numbers)))] ∧ va_S A s.heap H locs) hj (fun v w hf ih ex H locs ls hX => ?_) _ _ _ ⟨lv_sub hl [1, 2, 0] rfl, hP, hD, hS⟩
  clear hj
  obtain ⟨v1, v2, a3, a4, a5⟩ := v
  obtain ⟨hl, hP, hD, hS⟩ := hX
  have hl : lv_has ls 3 [(0, .ref (ad 0)), (1, .int p1), (2, .int v1)] := hl
  have hP : va_P (dC, dI) zz_cls [zr_o ad f_thrown f_taped f_at f_behind f_size f_kind f_number f_wrong f_wrongAt f_faultKind f_faultPlace f_reading v2 f_x f_standMany f_bestMany f_tail f_round1, (ad 2, .inl (dA 0, 2982, .inl a3)), (ad 17, .inl (dA 0, 900, .inl a4)), (ad 18, .inl (dA 0, 6, .inl a5)), (ad 41, .inl (dA 0, 4, .inl b_rowMany)), (ad 42, .inl (dA 1, 160, .inr (.inl b_numbers)))] H := hP
  have hD : va_D A [zr_o ad f_thrown f_taped f_at f_behind f_size f_kind f_number f_wrong f_wrongAt f_faultKind f_faultPlace f_reading v2 f_x f_standMany f_bestMany f_tail f_round1, (ad 2, .inl (dA 0, 2982, .inl a3)), (ad 17, .inl (dA 0, 900, .inl a4)), (ad 18, .inl (dA 0, 6, .inl a5)), (ad 41, .inl (dA 0, 4, .inl b_rowMany)), (ad 42, .inl (dA 1, 160, .inr (.inl b_numbers)))] := hD
  replace hf : zb_X11_tells_7 b_rowMany p1 b_numbers n v1 v2 a3 a4 a5 = some w := hf
  unfold zb_X11_tells_7 at hf
  refine lv_iload_n (pc := 7) hx hb dX11_tells_7 rfl (lv_at hl 2 rfl) ?_
  refine lv_aload_n (pc := 8) hx hb dX11_tells_8 rfl (lv_at hl 0 rfl) ?_
  refine va_get (pc := 9) (D := (dC, dI)) (ci := 0) (v := .ref (ad 41)) (C := RX11) (T := TX11) (N := 42) hx hb ht zr_lay hown hK hP 0 rfl rfl 40 (by decide) (ht _ zr_32) (fun _ h9 => h9) rfl dX11_tells_9 ?_
  refine lv_iload_n (pc := 12) hx hb dX11_tells_12 rfl (lv_at hl 1 rfl) ?_
  obtain ⟨v6, hv6, hf⟩ := zc_1 hf
  refine zw_iald (pc := 13) hx hb hK hP 4 0 rfl rfl hv6 dX11_tells_13 ?_
  refine lv_icmp_ge (tgt := 67) (pc := 14) hx hb dX11_tells_14 rfl (fun hc => ?_) (fun hc => ?_)
  · have hf := za_t hf hc
    obtain rfl := Option.some.inj hf
    obtain ⟨rfl, rfl, rfl, rfl, rfl, rfl⟩ := zp_6 (ex (show ¬ (2 : Nat) = 0 by decide))
    exact E67 _ _ _ ⟨rfl, lv_sub hl [0, 1] rfl, hP, hD, hS⟩
  · have hf := za_f hf hc
    refine lv_aload_n (pc := 17) hx hb dX11_tells_17 rfl (lv_at hl 0 rfl) ?_
    refine lv_aload_n (pc := 18) hx hb dX11_tells_18 rfl (lv_at hl 0 rfl) ?_
    refine lv_aload_n (pc := 19) hx hb dX11_tells_19 rfl (lv_at hl 0 rfl) ?_
    refine va_get (pc := 20) (D := (dC, dI)) (ci := 0) (v := .ref (ad 42)) (C := RX11) (T := TX11) (N := 42) hx hb ht zr_lay hown hK hP 0 rfl rfl 41 (by decide) (ht _ zr_33) (fun _ h9 => h9) rfl dX11_tells_20 ?_
    refine lv_bipush (v := (40 : Int32)) (pc := 23) hx hb dX11_tells_23 (by decide) ?_
    refine lv_iload_n (pc := 25) hx hb dX11_tells_25 rfl (lv_at hl 1 rfl) ?_
    refine lv_imul (pc := 26) hx hb dX11_tells_26 ?_
    refine lv_iload_n (pc := 27) hx hb dX11_tells_27 rfl (lv_at hl 2 rfl) ?_
    refine lv_iadd (pc := 28) hx hb dX11_tells_28 ?_
    obtain ⟨v7, hv7, hf⟩ := zc_1 hf
    refine zw_lald (pc := 29) hx hb hK hP 5 1 rfl rfl hv7 dX11_tells_29 ?_
    obtain ⟨v8, a9, a10, hv8, hf⟩ := zc_3 hf
    refine zw_Vi (pc := 30) (wc := [zr_o ad f_thrown f_taped f_at f_behind f_size f_kind f_number f_wrong f_wrongAt f_faultKind f_faultPlace f_reading v2 f_x f_standMany f_bestMany f_tail f_round1, (ad 2, .inl (dA 0, 2982, .inl a3)), (ad 17, .inl (dA 0, 900, .inl a4)), (ad 18, .inl (dA 0, 6, .inl a5))]) (wr := [(ad 41, .inl (dA 0, 4, .inl b_rowMany)), (ad 42, .inl (dA 1, 160, .inr (.inl b_numbers)))]) (w1 := [zr_o ad f_thrown f_taped f_at f_behind f_size f_kind f_number f_wrong f_wrongAt f_faultKind f_faultPlace f_reading v2 f_x f_standMany f_bestMany f_tail f_round1, (ad 2, .inl (dA 0, 2982, .inl a3)), (ad 17, .inl (dA 0, 900, .inl a9)), (ad 18, .inl (dA 0, 6, .inl a10))]) (As := [.long v7]) (rest := [.ref (ad 0)]) ⟨hx, hb, hml, hown, ht⟩ (zt_X11_whyNot l dC dI dA ad _ n f_thrown f_taped f_at f_behind f_size f_kind f_number f_wrong f_wrongAt f_faultKind f_faultPlace f_reading v2 f_x f_standMany f_bestMany f_tail f_round1 a3 a4 a5 v7 v8 a9 a10 hv8) (cwV 1 ht (zr_V zr_307 zr_308 zr_309 zr_36 zr_304) rfl rfl rfl zk_X11_whyNot ⟨Nat.le_of_ble_eq_true rfl, Nat.le_of_ble_eq_true rfl⟩) rfl rfl hK hP hD hS hA [0, 1, 2, 3] [4, 5] (by decide) (by decide) (by decide) rfl rfl rfl hl.1 (Nat.le_of_ble_eq_true rfl) dX11_tells_30 ⟨Nat.zero_le _, Nat.zero_le _⟩ rfl (fun H locs hP hD hS => ?_)
    have hP : va_P (dC, dI) zz_cls [(ad 41, .inl (dA 0, 4, .inl b_rowMany)), (ad 42, .inl (dA 1, 160, .inr (.inl b_numbers))), zr_o ad f_thrown f_taped f_at f_behind f_size f_kind f_number f_wrong f_wrongAt f_faultKind f_faultPlace f_reading v2 f_x f_standMany f_bestMany f_tail f_round1, (ad 2, .inl (dA 0, 2982, .inl a3)), (ad 17, .inl (dA 0, 900, .inl a9)), (ad 18, .inl (dA 0, 6, .inl a10))] H := hP
    have hD : va_D A [(ad 41, .inl (dA 0, 4, .inl b_rowMany)), (ad 42, .inl (dA 1, 160, .inr (.inl b_numbers))), zr_o ad f_thrown f_taped f_at f_behind f_size f_kind f_number f_wrong f_wrongAt f_faultKind f_faultPlace f_reading v2 f_x f_standMany f_bestMany f_tail f_round1, (ad 2, .inl (dA 0, 2982, .inl a3)), (ad 17, .inl (dA 0, 900, .inl a9)), (ad 18, .inl (dA 0, 6, .inl a10))] := hD
    refine va_put (pc := 33) (D := (dC, dI)) (ci := 0) (v := .int v8) (ty := .int) (C := RX11) (T := TX11) (N := 42) hx hb ht zr_lay tyX11 tyX11_ok nmX11 hown hK hP hD hS 2 rfl rfl 19 (by decide) (ht _ zr_306) (fun _ h9 => h9) rfl (by decide +kernel) rfl rfl (Nat.le_of_ble_eq_true rfl) dX11_tells_33 (fun H locs hP hD hS => ?_)
    have hP : va_P (dC, dI) zz_cls [(ad 41, .inl (dA 0, 4, .inl b_rowMany)), (ad 42, .inl (dA 1, 160, .inr (.inl b_numbers))), zr_o ad f_thrown f_taped f_at f_behind f_size f_kind f_number f_wrong f_wrongAt f_faultKind f_faultPlace f_reading v8 f_x f_standMany f_bestMany f_tail f_round1, (ad 2, .inl (dA 0, 2982, .inl a3)), (ad 17, .inl (dA 0, 900, .inl a9)), (ad 18, .inl (dA 0, 6, .inl a10))] H := hP
    have hD : va_D A [(ad 41, .inl (dA 0, 4, .inl b_rowMany)), (ad 42, .inl (dA 1, 160, .inr (.inl b_numbers))), zr_o ad f_thrown f_taped f_at f_behind f_size f_kind f_number f_wrong f_wrongAt f_faultKind f_faultPlace f_reading v8 f_x f_standMany f_bestMany f_tail f_round1, (ad 2, .inl (dA 0, 2982, .inl a3)), (ad 17, .inl (dA 0, 900, .inl a9)), (ad 18, .inl (dA 0, 6, .inl a10))] := hD
    refine lv_aload_n (pc := 36) hx hb dX11_tells_36 rfl (lv_at hl 0 rfl) ?_
    refine va_get (pc := 37) (D := (dC, dI)) (ci := 0) (v := .int v8) (C := RX11) (T := TX11) (N := 42) hx hb ht zr_lay hown hK hP 2 rfl rfl 19 (by decide) (ht _ zr_306) (fun _ h9 => h9) rfl dX11_tells_37 ?_
    refine lv_if_eq (tgt := 45) (pc := 40) hx hb dX11_tells_40 rfl (fun hc => ?_) (fun hc => ?_)
    · have hf := za_t hf hc
      refine lv_aload_n (pc := 45) hx hb dX11_tells_45 rfl (lv_at hl 0 rfl) ?_
      refine lv_aload_n (pc := 46) hx hb dX11_tells_46 rfl (lv_at hl 0 rfl) ?_
      refine va_get (pc := 47) (D := (dC, dI)) (ci := 0) (v := .ref (ad 42)) (C := RX11) (T := TX11) (N := 42) hx hb ht zr_lay hown hK hP 2 rfl rfl 41 (by decide) (ht _ zr_33) (fun _ h9 => h9) rfl dX11_tells_47 ?_
      refine lv_bipush (v := (40 : Int32)) (pc := 50) hx hb dX11_tells_50 (by decide) ?_
      refine lv_iload_n (pc := 52) hx hb dX11_tells_52 rfl (lv_at hl 1 rfl) ?_
      refine lv_imul (pc := 53) hx hb dX11_tells_53 ?_
      refine lv_iload_n (pc := 54) hx hb dX11_tells_54 rfl (lv_at hl 2 rfl) ?_
      refine lv_iadd (pc := 55) hx hb dX11_tells_55 ?_
      obtain ⟨v11, hv11, hf⟩ := zc_1 hf
      refine zw_lald (pc := 56) hx hb hK hP 1 1 rfl rfl hv11 dX11_tells_56 ?_
      refine lv_l2i (pc := 57) hx hb dX11_tells_57 rfl ?_
      obtain ⟨a12, a13, a14, ha12, hf⟩ := zc_3 hf
      refine zw_Vv (pc := 58) (wc := [zr_o ad f_thrown f_taped f_at f_behind f_size f_kind f_number f_wrong f_wrongAt f_faultKind f_faultPlace f_reading v8 f_x f_standMany f_bestMany f_tail f_round1, (ad 2, .inl (dA 0, 2982, .inl a3)), (ad 17, .inl (dA 0, 900, .inl a9)), (ad 18, .inl (dA 0, 6, .inl a10))]) (wr := [(ad 41, .inl (dA 0, 4, .inl b_rowMany)), (ad 42, .inl (dA 1, 160, .inr (.inl b_numbers)))]) (w1 := [zr_o ad f_thrown f_taped f_at f_behind f_size f_kind f_number f_wrong f_wrongAt f_faultKind f_faultPlace f_reading v8 f_x f_standMany f_bestMany f_tail f_round1, (ad 2, .inl (dA 0, 2982, .inl a12)), (ad 17, .inl (dA 0, 900, .inl a13)), (ad 18, .inl (dA 0, 6, .inl a14))]) (As := [.int (Int64.toInt32 v11)]) (rest := []) ⟨hx, hb, hml, hown, ht⟩ (zt_X11_does l dC dI dA ad _ n f_thrown f_taped f_at f_behind f_size f_kind f_number f_wrong f_wrongAt f_faultKind f_faultPlace f_reading v8 f_x f_standMany f_bestMany f_tail f_round1 a3 a9 a10 (Int64.toInt32 v11) a12 a13 a14 ha12) (cwV 1 ht (zr_V zr_310 zr_311 zr_312 zr_36 zr_305) rfl rfl rfl zk_X11_does ⟨Nat.le_of_ble_eq_true rfl, Nat.le_of_ble_eq_true rfl⟩) rfl rfl hK hP hD hS hA [2, 3, 4, 5] [0, 1] (by decide) (by decide) (by decide) rfl rfl rfl hl.1 (Nat.le_of_ble_eq_true rfl) dX11_tells_58 ⟨Nat.zero_le _, Nat.zero_le _⟩ rfl (fun H locs hP hD hS => ?_)
      have hP : va_P (dC, dI) zz_cls [(ad 41, .inl (dA 0, 4, .inl b_rowMany)), (ad 42, .inl (dA 1, 160, .inr (.inl b_numbers))), zr_o ad f_thrown f_taped f_at f_behind f_size f_kind f_number f_wrong f_wrongAt f_faultKind f_faultPlace f_reading v8 f_x f_standMany f_bestMany f_tail f_round1, (ad 2, .inl (dA 0, 2982, .inl a12)), (ad 17, .inl (dA 0, 900, .inl a13)), (ad 18, .inl (dA 0, 6, .inl a14))] H := hP
      have hD : va_D A [(ad 41, .inl (dA 0, 4, .inl b_rowMany)), (ad 42, .inl (dA 1, 160, .inr (.inl b_numbers))), zr_o ad f_thrown f_taped f_at f_behind f_size f_kind f_number f_wrong f_wrongAt f_faultKind f_faultPlace f_reading v8 f_x f_standMany f_bestMany f_tail f_round1, (ad 2, .inl (dA 0, 2982, .inl a12)), (ad 17, .inl (dA 0, 900, .inl a13)), (ad 18, .inl (dA 0, 6, .inl a14))] := hD
      obtain ⟨v15, hv15, hf⟩ := zc_1 hf
      refine lv_iinc (v := v15) (lv' := [(2, .int v15), (0, .ref (ad 0)), (1, .int p1)]) (k := 2) (pc := 61) hx hb dX11_tells_61 hl rfl (Option.some.inj hv15) (by decide) rfl (fun ls hl => ?_)
      refine lv_goto (tgt := 7) (pc := 64) hx hb dX11_tells_64 rfl ?_
      obtain rfl := Option.some.inj hf
      exact ih rfl _ _ _ ⟨lv_sub hl [1, 2, 0] rfl, hP.sub [2, 3, 4, 5, 0, 1] rfl, hD.sub [2, 3, 4, 5, 0, 1] (by decide) rfl, hS⟩
    · have hf := za_f hf hc
      obtain rfl := Option.some.inj hf
      obtain ⟨rfl, rfl, rfl, rfl, rfl, rfl⟩ := zp_6 (ex (show ¬ (1 : Nat) = 0 by decide))
      exact E43 _ _ _ ⟨rfl, lv_sub hl [2] rfl, hP.sub [2, 3, 4, 5, 0, 1] rfl, hD.sub [2, 3, 4, 5, 0, 1] (by decide) rfl, hS⟩

def zf_X11_noTray (b_rowSort : (Nat → Int32)) (p1 : Int32) : Option (Int32) :=
  zd_1 (zf_X11_within (Int32.toInt64 p1) (0 : Int64) (3 : Int64)) (fun v1 =>
  if v1 = 0 then
    some (-2 : Int32)
  else
    zd_1 (za_ld b_rowSort 4 p1) (fun v2 =>
    if v2 = (-1 : Int32) then
      some (-6 : Int32)
    else
      some (0 : Int32)))
theorem zk_X11_noTray : yX11_noTray.cls = RX11 ∧ yX11_noTray.cls ≠ "java/lang/invoke/MethodHandle" ∧ yX11_noTray.cls ≠ "java/lang/invoke/VarHandle" ∧ (parseMethodDescriptor yX11_noTray.desc).map (fun d => d.parameters.length) = some 1 := by decide +kernel
set_option maxHeartbeats 4000000 in
set_option maxRecDepth 100000 in
theorem zt_X11_noTray (l : Launch) (dC : Nat → ClassId) (dI : Nat → Nat → Nat) (dA : Nat → ClassId) (ad : Nat → Nat) (sz : Nat) (f_thrown f_taped f_at f_behind f_size f_kind f_number f_wrong f_wrongAt f_faultKind f_faultPlace f_reading f_toldWhy f_x f_standMany f_bestMany f_tail f_round1 : Int32) (b_rowSort : (Nat → Int32)) (p1 : Int32) (r0 : Int32) (hf : zf_X11_noTray b_rowSort p1 = some r0) : Met l yX11_noTray (.code yX11_noTray cX11_noTray 2 (some .int) :: zr_T) ({ frames := 1, cells := 0, slots := 0, locals := 25 }) (va_Pc [.ref (ad 0), .int p1] (zz_M dC dI dA [zr_o ad f_thrown f_taped f_at f_behind f_size f_kind f_number f_wrong f_wrongAt f_faultKind f_faultPlace f_reading f_toldWhy f_x f_standMany f_bestMany f_tail f_round1, (ad 40, .inl (dA 0, 4, .inl b_rowSort))] sz)) (va_Qi (fun (r : Int32) (_ : Unit) => r = r0) (fun _ t => zz_B dC dI dA (va_A [zr_o ad f_thrown f_taped f_at f_behind f_size f_kind f_number f_wrong f_wrongAt f_faultKind f_faultPlace f_reading f_toldWhy f_x f_standMany f_bestMany f_tail f_round1, (ad 40, .inl (dA 0, 4, .inl b_rowSort))] sz) [zr_o ad f_thrown f_taped f_at f_behind f_size f_kind f_number f_wrong f_wrongAt f_faultKind f_faultPlace f_reading f_toldWhy f_x f_standMany f_bestMany f_tail f_round1, (ad 40, .inl (dA 0, 4, .inl b_rowSort))] t) (va_A [zr_o ad f_thrown f_taped f_at f_behind f_size f_kind f_number f_wrong f_wrongAt f_faultKind f_faultPlace f_reading f_toldWhy f_x f_standMany f_bestMany f_tail f_round1, (ad 40, .inl (dA 0, 4, .inl b_rowSort))] sz)) 0 0 (va_A [zr_o ad f_thrown f_taped f_at f_behind f_size f_kind f_number f_wrong f_wrongAt f_faultKind f_faultPlace f_reading f_toldWhy f_x f_standMany f_bestMany f_tail f_round1, (ad 40, .inl (dA 0, 4, .inl b_rowSort))] sz) := by
  unfold zf_X11_noTray at hf
  refine Met.ofW (cc := cX11_noTray) (maxL := 2) (ret := (some .int)) (by decide) rfl ?_
  intro p e s m args below meth c s₁ B hml hv
  obtain ⟨rfl, hsz, hP, hK, hD0⟩ := hv
  have hx := B.exec
  have hb := B.bytes
  have hr := B.returns
  have ht : ∀ w ∈ zr_T, w.before ([.ref (ad 0), .int p1] : List Value).toArray s = true := fun w hw => atoms_spec (ws := .code yX11_noTray cX11_noTray 2 (some .int) :: zr_T) B.pre w (List.mem_cons_of_mem _ hw)
  have hown : s.vm.findClass RX11 = some m.cls := findClass_of_methodNamed B.named
  have hlocks := B.notSynchronized
  subst hsz
  have hD := hD0.self (sz := s.heap.size)
  generalize hAe : va_A [zr_o ad f_thrown f_taped f_at f_behind f_size f_kind f_number f_wrong f_wrongAt f_faultKind f_faultPlace f_reading f_toldWhy f_x f_standMany f_bestMany f_tail f_round1, (ad 40, .inl (dA 0, 4, .inl b_rowSort))] s.heap.size = A at hD ⊢
  have hA : ∀ q : Nat, s.heap.size ≤ q → A q := fun q h => by rw [← hAe]; exact Or.inr h
  clear hAe hD0
  have hS : va_S A s.heap s.heap [] := va_S.rf
  have hl := lv_entry ([.ref (ad 0), .int p1]) (n := 2) (Nat.le_of_ble_eq_true rfl)
  rw [lg_entry_eq]
  generalize (lg_sl ([.ref (ad 0), .int p1]) ++ List.replicate (2 - (lg_sl ([.ref (ad 0), .int p1])).length) Slot.unset).toArray = ls at hl ⊢
  have hl : lv_has ls 2 [(0, .ref (ad 0)), (1, .int p1)] := hl
  refine lv_iload_n (pc := 0) hx hb dX11_noTray_0 rfl (lv_at hl 1 rfl) ?_
  refine lv_i2l (pc := 1) hx hb dX11_noTray_1 rfl ?_
  refine lv_lconst (v := (0 : Int64)) (pc := 2) hx hb dX11_noTray_2 (by decide) ?_
  refine lv_ldc2 (v := (3 : Int64)) (pc := 3) hx hb hown (ht _ zr_315) dX11_noTray_3 ?_
  obtain ⟨v1, hv1, hf⟩ := zc_1 hf
  refine zw_Si (pc := 6) (wc := []) (wr := [zr_o ad f_thrown f_taped f_at f_behind f_size f_kind f_number f_wrong f_wrongAt f_faultKind f_faultPlace f_reading f_toldWhy f_x f_standMany f_bestMany f_tail f_round1, (ad 40, .inl (dA 0, 4, .inl b_rowSort))]) (w1 := []) (As := [.long (Int32.toInt64 p1), .long (0 : Int64), .long (3 : Int64)]) (rest := []) ⟨hx, hb, hml, hown, ht⟩ (zt_X11_within l dC dI dA ad _ (Int32.toInt64 p1) (0 : Int64) (3 : Int64) v1 hv1) (cwS 3 ht (zr_S zr_124 zr_125 zr_36 zr_0) rfl rfl rfl zk_X11_within ⟨Nat.le_of_ble_eq_true rfl, Nat.le_of_ble_eq_true rfl⟩) hK hP hD hS hA [] [0, 1] (by decide) (by decide) (by decide) rfl rfl rfl hl.1 (Nat.le_of_ble_eq_true rfl) dX11_noTray_6 ⟨Nat.zero_le _, Nat.zero_le _⟩ rfl (fun H locs hP hD hS => ?_)
  have hP : va_P (dC, dI) zz_cls [zr_o ad f_thrown f_taped f_at f_behind f_size f_kind f_number f_wrong f_wrongAt f_faultKind f_faultPlace f_reading f_toldWhy f_x f_standMany f_bestMany f_tail f_round1, (ad 40, .inl (dA 0, 4, .inl b_rowSort))] H := hP
  have hD : va_D A [zr_o ad f_thrown f_taped f_at f_behind f_size f_kind f_number f_wrong f_wrongAt f_faultKind f_faultPlace f_reading f_toldWhy f_x f_standMany f_bestMany f_tail f_round1, (ad 40, .inl (dA 0, 4, .inl b_rowSort))] := hD
  refine lv_if_ne (tgt := 17) (pc := 9) hx hb dX11_noTray_9 rfl (fun hc => ?_) (fun hc => ?_)
  · have hf := za_f hf hc
    refine lv_aload_n (pc := 17) hx hb dX11_noTray_17 rfl (lv_at hl 0 rfl) ?_
    refine va_get (pc := 18) (D := (dC, dI)) (ci := 0) (v := .ref (ad 40)) (C := RX11) (T := TX11) (N := 42) hx hb ht zr_lay hown hK hP 0 rfl rfl 39 (by decide) (ht _ zr_31) (fun _ h9 => h9) rfl dX11_noTray_18 ?_
    refine lv_iload_n (pc := 21) hx hb dX11_noTray_21 rfl (lv_at hl 1 rfl) ?_
    obtain ⟨v2, hv2, hf⟩ := zc_1 hf
    refine zw_iald (pc := 22) hx hb hK hP 1 0 rfl rfl hv2 dX11_noTray_22 ?_
    refine lv_iconst (v := (-1 : Int32)) (pc := 23) hx hb dX11_noTray_23 (by decide) ?_
    refine lv_icmp_ne (tgt := 32) (pc := 24) hx hb dX11_noTray_24 rfl (fun hc => ?_) (fun hc => ?_)
    · have hf := za_f hf hc
      refine lv_iconst (v := (0 : Int32)) (pc := 32) hx hb dX11_noTray_32 (by decide) ?_
      obtain rfl := Option.some.inj hf
      exact W.iret (pc := 33) hx hb hr (fun t ht hW => ⟨⟨_, (), rfl, rfl, zz_Bi (by rw [ht]; exact hP) (va_K.moved hW.alike hK) (hD)⟩, hS.F ht⟩) hS.2.2 dX11_noTray_33
    · have hf := za_t hf hc
      refine lv_bipush (v := (-6 : Int32)) (pc := 27) hx hb dX11_noTray_27 (by decide) ?_
      refine lv_goto (tgt := 33) (pc := 29) hx hb dX11_noTray_29 rfl ?_
      obtain rfl := Option.some.inj hf
      exact W.iret (pc := 33) hx hb hr (fun t ht hW => ⟨⟨_, (), rfl, rfl, zz_Bi (by rw [ht]; exact hP) (va_K.moved hW.alike hK) (hD)⟩, hS.F ht⟩) hS.2.2 dX11_noTray_33
  · have hf := za_t hf hc
    refine lv_bipush (v := (-2 : Int32)) (pc := 12) hx hb dX11_noTray_12 (by decide) ?_
    refine lv_goto (tgt := 33) (pc := 14) hx hb dX11_noTray_14 rfl ?_
    obtain rfl := Option.some.inj hf
    exact W.iret (pc := 33) hx hb hr (fun t ht hW => ⟨⟨_, (), rfl, rfl, zz_Bi (by rw [ht]; exact hP) (va_K.moved hW.alike hK) (hD)⟩, hS.F ht⟩) hS.2.2 dX11_noTray_33

def zf_X11_judge (n : Nat) (f_thrown : Int32) (f_toldWhy : Int32) (b_all : (Nat → Int32)) (b_reckoned : (Nat → Int32)) (b_words : (Nat → Int32)) (b_was : (Nat → Int32)) (b_rowSort : (Nat → Int32)) (b_rowMany : (Nat → Int32)) (b_numbers : (Nat → Int64)) (p1 : Int32) (p2 : Int32) : Option (Int32 × Int32 × Int32 × (Nat → Int32) × (Nat → Int32) × (Nat → Int32) × (Nat → Int32)) :=
  zd_1 (zf_X11_within (Int32.toInt64 p2) (0 : Int64) (3 : Int64)) (fun v1 =>
  if v1 = 0 then
    some ((-2 : Int32), (0 : Int32), f_toldWhy, b_all, b_reckoned, b_words, b_was)
  else
    zd_1 (zf_X11_noTray b_rowSort p1) (fun v2 =>
    if v2 = 0 then
      zd_1 (zf_X11_keeps n b_all b_was) (fun a3 =>
      zd_5 (zf_X11_tells n f_toldWhy b_all b_reckoned b_words b_rowMany b_numbers p1) (fun v4 v5 a6 a7 a8 =>
      zd_1 (zf_X11_standNow a6) (fun v9 =>
      zd_1 (zf_X11_isAgain n a6 a3) (fun a10 =>
      if p2 = 0 then
        if v5 = 0 then
          some ((-1 : Int32), (0 : Int32), v5, a10, a7, a8, a3)
        else
          some (v4, (0 : Int32), v5, a10, a7, a8, a3)
      else
        if p2 = (1 : Int32) then
          some (v5, (0 : Int32), v5, a10, a7, a8, a3)
        else
          if p2 = (2 : Int32) then
            zd_1 (zf_X11_rungIn v9) (fun v11 =>
            some (v11, (0 : Int32), v5, a10, a7, a8, a3))
          else
            zd_1 (zf_X11_hasIn v9) (fun v12 =>
            some (v12, (0 : Int32), v5, a10, a7, a8, a3))))))
    else
      some (v2, (0 : Int32), f_toldWhy, b_all, b_reckoned, b_words, b_was)))
theorem zk_X11_judge : yX11_judge.cls = RX11 ∧ yX11_judge.cls ≠ "java/lang/invoke/MethodHandle" ∧ yX11_judge.cls ≠ "java/lang/invoke/VarHandle" ∧ (parseMethodDescriptor yX11_judge.desc).map (fun d => d.parameters.length) = some 2 := by decide +kernel
set_option maxHeartbeats 4000000 in
set_option maxRecDepth 100000 in
theorem zt_X11_judge (l : Launch) (dC : Nat → ClassId) (dI : Nat → Nat → Nat) (dA : Nat → ClassId) (ad : Nat → Nat) (sz : Nat) (n : Nat) (f_thrown f_taped f_at f_behind f_size f_kind f_number f_wrong f_wrongAt f_faultKind f_faultPlace f_reading f_toldWhy f_x f_standMany f_bestMany f_tail f_round1 : Int32) (b_all : (Nat → Int32)) (b_reckoned : (Nat → Int32)) (b_words : (Nat → Int32)) (b_was : (Nat → Int32)) (b_rowSort : (Nat → Int32)) (b_rowMany : (Nat → Int32)) (b_numbers : (Nat → Int64)) (p1 : Int32) (p2 : Int32) (r0 : Int32) (o1 : Int32) (o2 : Int32) (o3 : (Nat → Int32)) (o4 : (Nat → Int32)) (o5 : (Nat → Int32)) (o6 : (Nat → Int32)) (hf : zf_X11_judge n f_thrown f_toldWhy b_all b_reckoned b_words b_was b_rowSort b_rowMany b_numbers p1 p2 = some (r0, o1, o2, o3, o4, o5, o6)) : Met l yX11_judge (.code yX11_judge cX11_judge 6 (some .int) :: zr_T) ({ frames := 7, cells := 0, slots := 0, locals := 163 }) (va_Pc [.ref (ad 0), .int p1, .int p2] (zz_M dC dI dA [zr_o ad f_thrown f_taped f_at f_behind f_size f_kind f_number f_wrong f_wrongAt f_faultKind f_faultPlace f_reading f_toldWhy f_x f_standMany f_bestMany f_tail f_round1, (ad 2, .inl (dA 0, 2982, .inl b_all)), (ad 17, .inl (dA 0, 900, .inl b_reckoned)), (ad 18, .inl (dA 0, 6, .inl b_words)), (ad 19, .inl (dA 0, 5, .inl b_was)), (ad 40, .inl (dA 0, 4, .inl b_rowSort)), (ad 41, .inl (dA 0, 4, .inl b_rowMany)), (ad 42, .inl (dA 1, 160, .inr (.inl b_numbers)))] sz)) (va_Qi (fun (r : Int32) (_ : Unit) => r = r0) (fun _ t => zz_B dC dI dA (va_A [zr_o ad f_thrown f_taped f_at f_behind f_size f_kind f_number f_wrong f_wrongAt f_faultKind f_faultPlace f_reading f_toldWhy f_x f_standMany f_bestMany f_tail f_round1, (ad 2, .inl (dA 0, 2982, .inl b_all)), (ad 17, .inl (dA 0, 900, .inl b_reckoned)), (ad 18, .inl (dA 0, 6, .inl b_words)), (ad 19, .inl (dA 0, 5, .inl b_was)), (ad 40, .inl (dA 0, 4, .inl b_rowSort)), (ad 41, .inl (dA 0, 4, .inl b_rowMany)), (ad 42, .inl (dA 1, 160, .inr (.inl b_numbers)))] sz) [zr_o ad o1 f_taped f_at f_behind f_size f_kind f_number f_wrong f_wrongAt f_faultKind f_faultPlace f_reading o2 f_x f_standMany f_bestMany f_tail f_round1, (ad 2, .inl (dA 0, 2982, .inl o3)), (ad 17, .inl (dA 0, 900, .inl o4)), (ad 18, .inl (dA 0, 6, .inl o5)), (ad 19, .inl (dA 0, 5, .inl o6)), (ad 40, .inl (dA 0, 4, .inl b_rowSort)), (ad 41, .inl (dA 0, 4, .inl b_rowMany)), (ad 42, .inl (dA 1, 160, .inr (.inl b_numbers)))] t) (va_A [zr_o ad f_thrown f_taped f_at f_behind f_size f_kind f_number f_wrong f_wrongAt f_faultKind f_faultPlace f_reading f_toldWhy f_x f_standMany f_bestMany f_tail f_round1, (ad 2, .inl (dA 0, 2982, .inl b_all)), (ad 17, .inl (dA 0, 900, .inl b_reckoned)), (ad 18, .inl (dA 0, 6, .inl b_words)), (ad 19, .inl (dA 0, 5, .inl b_was)), (ad 40, .inl (dA 0, 4, .inl b_rowSort)), (ad 41, .inl (dA 0, 4, .inl b_rowMany)), (ad 42, .inl (dA 1, 160, .inr (.inl b_numbers)))] sz)) 0 0 (va_A [zr_o ad f_thrown f_taped f_at f_behind f_size f_kind f_number f_wrong f_wrongAt f_faultKind f_faultPlace f_reading f_toldWhy f_x f_standMany f_bestMany f_tail f_round1, (ad 2, .inl (dA 0, 2982, .inl b_all)), (ad 17, .inl (dA 0, 900, .inl b_reckoned)), (ad 18, .inl (dA 0, 6, .inl b_words)), (ad 19, .inl (dA 0, 5, .inl b_was)), (ad 40, .inl (dA 0, 4, .inl b_rowSort)), (ad 41, .inl (dA 0, 4, .inl b_rowMany)), (ad 42, .inl (dA 1, 160, .inr (.inl b_numbers)))] sz) := by
  unfold zf_X11_judge at hf
  refine Met.ofW (cc := cX11_judge) (maxL := 6) (ret := (some .int)) (by decide) rfl ?_
  intro p e s m args below meth c s₁ B hml hv
  obtain ⟨rfl, hsz, hP, hK, hD0⟩ := hv
  have hx := B.exec
  have hb := B.bytes
  have hr := B.returns
  have ht : ∀ w ∈ zr_T, w.before ([.ref (ad 0), .int p1, .int p2] : List Value).toArray s = true := fun w hw => atoms_spec (ws := .code yX11_judge cX11_judge 6 (some .int) :: zr_T) B.pre w (List.mem_cons_of_mem _ hw)
  have hown : s.vm.findClass RX11 = some m.cls := findClass_of_methodNamed B.named
  have hlocks := B.notSynchronized
  subst hsz
  have hD := hD0.self (sz := s.heap.size)
  generalize hAe : va_A [zr_o ad f_thrown f_taped f_at f_behind f_size f_kind f_number f_wrong f_wrongAt f_faultKind f_faultPlace f_reading f_toldWhy f_x f_standMany f_bestMany f_tail f_round1, (ad 2, .inl (dA 0, 2982, .inl b_all)), (ad 17, .inl (dA 0, 900, .inl b_reckoned)), (ad 18, .inl (dA 0, 6, .inl b_words)), (ad 19, .inl (dA 0, 5, .inl b_was)), (ad 40, .inl (dA 0, 4, .inl b_rowSort)), (ad 41, .inl (dA 0, 4, .inl b_rowMany)), (ad 42, .inl (dA 1, 160, .inr (.inl b_numbers)))] s.heap.size = A at hD ⊢
  have hA : ∀ q : Nat, s.heap.size ≤ q → A q := fun q h => by rw [← hAe]; exact Or.inr h
  clear hAe hD0
  have hS : va_S A s.heap s.heap [] := va_S.rf
  have hl := lv_entry ([.ref (ad 0), .int p1, .int p2]) (n := 6) (Nat.le_of_ble_eq_true rfl)
  rw [lg_entry_eq]
  generalize (lg_sl ([.ref (ad 0), .int p1, .int p2]) ++ List.replicate (6 - (lg_sl ([.ref (ad 0), .int p1, .int p2])).length) Slot.unset).toArray = ls at hl ⊢
  have hl : lv_has ls 6 [(0, .ref (ad 0)), (1, .int p1), (2, .int p2)] := hl
  refine lv_aload_n (pc := 0) hx hb dX11_judge_0 rfl (lv_at hl 0 rfl) ?_
  refine lv_iconst (v := (0 : Int32)) (pc := 1) hx hb dX11_judge_1 (by decide) ?_
  refine va_put (pc := 2) (D := (dC, dI)) (ci := 0) (v := .int (0 : Int32)) (ty := .int) (C := RX11) (T := TX11) (N := 42) hx hb ht zr_lay tyX11 tyX11_ok nmX11 hown hK hP hD hS 0 rfl rfl 0 (by decide) (ht _ zr_39) (fun _ h9 => h9) rfl (by decide +kernel) rfl rfl (Nat.le_of_ble_eq_true rfl) dX11_judge_2 (fun H locs hP hD hS => ?_)
  have hP : va_P (dC, dI) zz_cls [zr_o ad (0 : Int32) f_taped f_at f_behind f_size f_kind f_number f_wrong f_wrongAt f_faultKind f_faultPlace f_reading f_toldWhy f_x f_standMany f_bestMany f_tail f_round1, (ad 2, .inl (dA 0, 2982, .inl b_all)), (ad 17, .inl (dA 0, 900, .inl b_reckoned)), (ad 18, .inl (dA 0, 6, .inl b_words)), (ad 19, .inl (dA 0, 5, .inl b_was)), (ad 40, .inl (dA 0, 4, .inl b_rowSort)), (ad 41, .inl (dA 0, 4, .inl b_rowMany)), (ad 42, .inl (dA 1, 160, .inr (.inl b_numbers)))] H := hP
  have hD : va_D A [zr_o ad (0 : Int32) f_taped f_at f_behind f_size f_kind f_number f_wrong f_wrongAt f_faultKind f_faultPlace f_reading f_toldWhy f_x f_standMany f_bestMany f_tail f_round1, (ad 2, .inl (dA 0, 2982, .inl b_all)), (ad 17, .inl (dA 0, 900, .inl b_reckoned)), (ad 18, .inl (dA 0, 6, .inl b_words)), (ad 19, .inl (dA 0, 5, .inl b_was)), (ad 40, .inl (dA 0, 4, .inl b_rowSort)), (ad 41, .inl (dA 0, 4, .inl b_rowMany)), (ad 42, .inl (dA 1, 160, .inr (.inl b_numbers)))] := hD
  refine lv_iload_n (pc := 5) hx hb dX11_judge_5 rfl (lv_at hl 2 rfl) ?_
  refine lv_i2l (pc := 6) hx hb dX11_judge_6 rfl ?_
  refine lv_lconst (v := (0 : Int64)) (pc := 7) hx hb dX11_judge_7 (by decide) ?_
  refine lv_ldc2 (v := (3 : Int64)) (pc := 8) hx hb hown (ht _ zr_315) dX11_judge_8 ?_
  obtain ⟨v1, hv1, hf⟩ := zc_1 hf
  refine zw_Si (pc := 11) (wc := []) (wr := [zr_o ad (0 : Int32) f_taped f_at f_behind f_size f_kind f_number f_wrong f_wrongAt f_faultKind f_faultPlace f_reading f_toldWhy f_x f_standMany f_bestMany f_tail f_round1, (ad 2, .inl (dA 0, 2982, .inl b_all)), (ad 17, .inl (dA 0, 900, .inl b_reckoned)), (ad 18, .inl (dA 0, 6, .inl b_words)), (ad 19, .inl (dA 0, 5, .inl b_was)), (ad 40, .inl (dA 0, 4, .inl b_rowSort)), (ad 41, .inl (dA 0, 4, .inl b_rowMany)), (ad 42, .inl (dA 1, 160, .inr (.inl b_numbers)))]) (w1 := []) (As := [.long (Int32.toInt64 p2), .long (0 : Int64), .long (3 : Int64)]) (rest := []) ⟨hx, hb, hml, hown, ht⟩ (zt_X11_within l dC dI dA ad _ (Int32.toInt64 p2) (0 : Int64) (3 : Int64) v1 hv1) (cwS 3 ht (zr_S zr_124 zr_125 zr_36 zr_0) rfl rfl rfl zk_X11_within ⟨Nat.le_of_ble_eq_true rfl, Nat.le_of_ble_eq_true rfl⟩) hK hP hD hS hA [] [0, 1, 2, 3, 4, 5, 6, 7] (by decide) (by decide) (by decide) rfl rfl rfl hl.1 (Nat.le_of_ble_eq_true rfl) dX11_judge_11 ⟨Nat.zero_le _, Nat.zero_le _⟩ rfl (fun H locs hP hD hS => ?_)
  have hP : va_P (dC, dI) zz_cls [zr_o ad (0 : Int32) f_taped f_at f_behind f_size f_kind f_number f_wrong f_wrongAt f_faultKind f_faultPlace f_reading f_toldWhy f_x f_standMany f_bestMany f_tail f_round1, (ad 2, .inl (dA 0, 2982, .inl b_all)), (ad 17, .inl (dA 0, 900, .inl b_reckoned)), (ad 18, .inl (dA 0, 6, .inl b_words)), (ad 19, .inl (dA 0, 5, .inl b_was)), (ad 40, .inl (dA 0, 4, .inl b_rowSort)), (ad 41, .inl (dA 0, 4, .inl b_rowMany)), (ad 42, .inl (dA 1, 160, .inr (.inl b_numbers)))] H := hP
  have hD : va_D A [zr_o ad (0 : Int32) f_taped f_at f_behind f_size f_kind f_number f_wrong f_wrongAt f_faultKind f_faultPlace f_reading f_toldWhy f_x f_standMany f_bestMany f_tail f_round1, (ad 2, .inl (dA 0, 2982, .inl b_all)), (ad 17, .inl (dA 0, 900, .inl b_reckoned)), (ad 18, .inl (dA 0, 6, .inl b_words)), (ad 19, .inl (dA 0, 5, .inl b_was)), (ad 40, .inl (dA 0, 4, .inl b_rowSort)), (ad 41, .inl (dA 0, 4, .inl b_rowMany)), (ad 42, .inl (dA 1, 160, .inr (.inl b_numbers)))] := hD
  refine lv_if_ne (tgt := 20) (pc := 14) hx hb dX11_judge_14 rfl (fun hc => ?_) (fun hc => ?_)
  · have hf := za_f hf hc
    refine lv_aload_n (pc := 20) hx hb dX11_judge_20 rfl (lv_at hl 0 rfl) ?_
    refine lv_iload_n (pc := 21) hx hb dX11_judge_21 rfl (lv_at hl 1 rfl) ?_
    obtain ⟨v2, hv2, hf⟩ := zc_1 hf
    refine zw_Vi (pc := 22) (wc := [zr_o ad (0 : Int32) f_taped f_at f_behind f_size f_kind f_number f_wrong f_wrongAt f_faultKind f_faultPlace f_reading f_toldWhy f_x f_standMany f_bestMany f_tail f_round1, (ad 40, .inl (dA 0, 4, .inl b_rowSort))]) (wr := [(ad 2, .inl (dA 0, 2982, .inl b_all)), (ad 17, .inl (dA 0, 900, .inl b_reckoned)), (ad 18, .inl (dA 0, 6, .inl b_words)), (ad 19, .inl (dA 0, 5, .inl b_was)), (ad 41, .inl (dA 0, 4, .inl b_rowMany)), (ad 42, .inl (dA 1, 160, .inr (.inl b_numbers)))]) (w1 := [zr_o ad (0 : Int32) f_taped f_at f_behind f_size f_kind f_number f_wrong f_wrongAt f_faultKind f_faultPlace f_reading f_toldWhy f_x f_standMany f_bestMany f_tail f_round1, (ad 40, .inl (dA 0, 4, .inl b_rowSort))]) (As := [.int p1]) (rest := []) ⟨hx, hb, hml, hown, ht⟩ (zt_X11_noTray l dC dI dA ad _ (0 : Int32) f_taped f_at f_behind f_size f_kind f_number f_wrong f_wrongAt f_faultKind f_faultPlace f_reading f_toldWhy f_x f_standMany f_bestMany f_tail f_round1 b_rowSort p1 v2 hv2) (cwV 1 ht (zr_V zr_316 zr_317 zr_318 zr_36 zr_314) rfl rfl rfl zk_X11_noTray ⟨Nat.le_of_ble_eq_true rfl, Nat.le_of_ble_eq_true rfl⟩) rfl rfl hK hP hD hS hA [0, 5] [1, 2, 3, 4, 6, 7] (by decide) (by decide) (by decide) rfl rfl rfl hl.1 (Nat.le_of_ble_eq_true rfl) dX11_judge_22 ⟨Nat.zero_le _, Nat.zero_le _⟩ rfl (fun H locs hP hD hS => ?_)
    have hP : va_P (dC, dI) zz_cls [(ad 2, .inl (dA 0, 2982, .inl b_all)), (ad 17, .inl (dA 0, 900, .inl b_reckoned)), (ad 18, .inl (dA 0, 6, .inl b_words)), (ad 19, .inl (dA 0, 5, .inl b_was)), (ad 41, .inl (dA 0, 4, .inl b_rowMany)), (ad 42, .inl (dA 1, 160, .inr (.inl b_numbers))), zr_o ad (0 : Int32) f_taped f_at f_behind f_size f_kind f_number f_wrong f_wrongAt f_faultKind f_faultPlace f_reading f_toldWhy f_x f_standMany f_bestMany f_tail f_round1, (ad 40, .inl (dA 0, 4, .inl b_rowSort))] H := hP
    have hD : va_D A [(ad 2, .inl (dA 0, 2982, .inl b_all)), (ad 17, .inl (dA 0, 900, .inl b_reckoned)), (ad 18, .inl (dA 0, 6, .inl b_words)), (ad 19, .inl (dA 0, 5, .inl b_was)), (ad 41, .inl (dA 0, 4, .inl b_rowMany)), (ad 42, .inl (dA 1, 160, .inr (.inl b_numbers))), zr_o ad (0 : Int32) f_taped f_at f_behind f_size f_kind f_number f_wrong f_wrongAt f_faultKind f_faultPlace f_reading f_toldWhy f_x f_standMany f_bestMany f_tail f_round1, (ad 40, .inl (dA 0, 4, .inl b_rowSort))] := hD
    refine lv_istore_n (lv' := [(3, .int v2), (0, .ref (ad 0)), (1, .int p1), (2, .int p2)]) (pc := 25) hx hb dX11_judge_25 rfl hl (by decide) rfl (fun ls hl => ?_)
    refine lv_iload_n (pc := 26) hx hb dX11_judge_26 rfl (lv_at hl 0 rfl) ?_
    refine lv_if_eq (tgt := 32) (pc := 27) hx hb dX11_judge_27 rfl (fun hc => ?_) (fun hc => ?_)
    · have hf := za_t hf hc
      refine lv_aload_n (pc := 32) hx hb dX11_judge_32 rfl (lv_at hl 1 rfl) ?_
      obtain ⟨a3, ha3, hf⟩ := zc_1 hf
      refine zw_Vv (pc := 33) (wc := [zr_o ad (0 : Int32) f_taped f_at f_behind f_size f_kind f_number f_wrong f_wrongAt f_faultKind f_faultPlace f_reading f_toldWhy f_x f_standMany f_bestMany f_tail f_round1, (ad 2, .inl (dA 0, 2982, .inl b_all)), (ad 19, .inl (dA 0, 5, .inl b_was))]) (wr := [(ad 17, .inl (dA 0, 900, .inl b_reckoned)), (ad 18, .inl (dA 0, 6, .inl b_words)), (ad 41, .inl (dA 0, 4, .inl b_rowMany)), (ad 42, .inl (dA 1, 160, .inr (.inl b_numbers))), (ad 40, .inl (dA 0, 4, .inl b_rowSort))]) (w1 := [zr_o ad (0 : Int32) f_taped f_at f_behind f_size f_kind f_number f_wrong f_wrongAt f_faultKind f_faultPlace f_reading f_toldWhy f_x f_standMany f_bestMany f_tail f_round1, (ad 2, .inl (dA 0, 2982, .inl b_all)), (ad 19, .inl (dA 0, 5, .inl a3))]) (As := []) (rest := []) ⟨hx, hb, hml, hown, ht⟩ (zt_X11_keeps l dC dI dA ad _ n (0 : Int32) f_taped f_at f_behind f_size f_kind f_number f_wrong f_wrongAt f_faultKind f_faultPlace f_reading f_toldWhy f_x f_standMany f_bestMany f_tail f_round1 b_all b_was a3 ha3) (cwV 0 ht (zr_V zr_283 zr_284 zr_285 zr_36 zr_276) rfl rfl rfl zk_X11_keeps ⟨Nat.le_of_ble_eq_true rfl, Nat.le_of_ble_eq_true rfl⟩) rfl rfl hK hP hD hS hA [6, 0, 3] [1, 2, 4, 5, 7] (by decide) (by decide) (by decide) rfl rfl rfl hl.1 (Nat.le_of_ble_eq_true rfl) dX11_judge_33 ⟨Nat.zero_le _, Nat.zero_le _⟩ rfl (fun H locs hP hD hS => ?_)
      have hP : va_P (dC, dI) zz_cls [(ad 17, .inl (dA 0, 900, .inl b_reckoned)), (ad 18, .inl (dA 0, 6, .inl b_words)), (ad 41, .inl (dA 0, 4, .inl b_rowMany)), (ad 42, .inl (dA 1, 160, .inr (.inl b_numbers))), (ad 40, .inl (dA 0, 4, .inl b_rowSort)), zr_o ad (0 : Int32) f_taped f_at f_behind f_size f_kind f_number f_wrong f_wrongAt f_faultKind f_faultPlace f_reading f_toldWhy f_x f_standMany f_bestMany f_tail f_round1, (ad 2, .inl (dA 0, 2982, .inl b_all)), (ad 19, .inl (dA 0, 5, .inl a3))] H := hP
      have hD : va_D A [(ad 17, .inl (dA 0, 900, .inl b_reckoned)), (ad 18, .inl (dA 0, 6, .inl b_words)), (ad 41, .inl (dA 0, 4, .inl b_rowMany)), (ad 42, .inl (dA 1, 160, .inr (.inl b_numbers))), (ad 40, .inl (dA 0, 4, .inl b_rowSort)), zr_o ad (0 : Int32) f_taped f_at f_behind f_size f_kind f_number f_wrong f_wrongAt f_faultKind f_faultPlace f_reading f_toldWhy f_x f_standMany f_bestMany f_tail f_round1, (ad 2, .inl (dA 0, 2982, .inl b_all)), (ad 19, .inl (dA 0, 5, .inl a3))] := hD
      refine lv_aload_n (pc := 36) hx hb dX11_judge_36 rfl (lv_at hl 1 rfl) ?_
      refine lv_iload_n (pc := 37) hx hb dX11_judge_37 rfl (lv_at hl 2 rfl) ?_
      obtain ⟨v4, v5, a6, a7, a8, hv4, hf⟩ := zc_5 hf
      refine zw_Vi (pc := 38) (wc := [zr_o ad (0 : Int32) f_taped f_at f_behind f_size f_kind f_number f_wrong f_wrongAt f_faultKind f_faultPlace f_reading f_toldWhy f_x f_standMany f_bestMany f_tail f_round1, (ad 2, .inl (dA 0, 2982, .inl b_all)), (ad 17, .inl (dA 0, 900, .inl b_reckoned)), (ad 18, .inl (dA 0, 6, .inl b_words)), (ad 41, .inl (dA 0, 4, .inl b_rowMany)), (ad 42, .inl (dA 1, 160, .inr (.inl b_numbers)))]) (wr := [(ad 40, .inl (dA 0, 4, .inl b_rowSort)), (ad 19, .inl (dA 0, 5, .inl a3))]) (w1 := [zr_o ad (0 : Int32) f_taped f_at f_behind f_size f_kind f_number f_wrong f_wrongAt f_faultKind f_faultPlace f_reading v5 f_x f_standMany f_bestMany f_tail f_round1, (ad 2, .inl (dA 0, 2982, .inl a6)), (ad 17, .inl (dA 0, 900, .inl a7)), (ad 18, .inl (dA 0, 6, .inl a8)), (ad 41, .inl (dA 0, 4, .inl b_rowMany)), (ad 42, .inl (dA 1, 160, .inr (.inl b_numbers)))]) (As := [.int p1]) (rest := []) ⟨hx, hb, hml, hown, ht⟩ (zt_X11_tells l dC dI dA ad _ n (0 : Int32) f_taped f_at f_behind f_size f_kind f_number f_wrong f_wrongAt f_faultKind f_faultPlace f_reading f_toldWhy f_x f_standMany f_bestMany f_tail f_round1 b_all b_reckoned b_words b_rowMany b_numbers p1 v4 v5 a6 a7 a8 hv4) (cwV 1 ht (zr_V zr_319 zr_320 zr_321 zr_36 zr_313) rfl rfl rfl zk_X11_tells ⟨Nat.le_of_ble_eq_true rfl, Nat.le_of_ble_eq_true rfl⟩) rfl rfl hK hP hD hS hA [5, 6, 0, 1, 2, 3] [4, 7] (by decide) (by decide) (by decide) rfl rfl rfl hl.1 (Nat.le_of_ble_eq_true rfl) dX11_judge_38 ⟨Nat.zero_le _, Nat.zero_le _⟩ rfl (fun H locs hP hD hS => ?_)
      have hP : va_P (dC, dI) zz_cls [(ad 40, .inl (dA 0, 4, .inl b_rowSort)), (ad 19, .inl (dA 0, 5, .inl a3)), zr_o ad (0 : Int32) f_taped f_at f_behind f_size f_kind f_number f_wrong f_wrongAt f_faultKind f_faultPlace f_reading v5 f_x f_standMany f_bestMany f_tail f_round1, (ad 2, .inl (dA 0, 2982, .inl a6)), (ad 17, .inl (dA 0, 900, .inl a7)), (ad 18, .inl (dA 0, 6, .inl a8)), (ad 41, .inl (dA 0, 4, .inl b_rowMany)), (ad 42, .inl (dA 1, 160, .inr (.inl b_numbers)))] H := hP
      have hD : va_D A [(ad 40, .inl (dA 0, 4, .inl b_rowSort)), (ad 19, .inl (dA 0, 5, .inl a3)), zr_o ad (0 : Int32) f_taped f_at f_behind f_size f_kind f_number f_wrong f_wrongAt f_faultKind f_faultPlace f_reading v5 f_x f_standMany f_bestMany f_tail f_round1, (ad 2, .inl (dA 0, 2982, .inl a6)), (ad 17, .inl (dA 0, 900, .inl a7)), (ad 18, .inl (dA 0, 6, .inl a8)), (ad 41, .inl (dA 0, 4, .inl b_rowMany)), (ad 42, .inl (dA 1, 160, .inr (.inl b_numbers)))] := hD
      refine lv_istore (lv' := [(4, .int v4), (3, .int v2), (0, .ref (ad 0)), (1, .int p1), (2, .int p2)]) (pc := 41) hx hb dX11_judge_41 hl (by decide) rfl (fun ls hl => ?_)
      refine lv_aload_n (pc := 43) hx hb dX11_judge_43 rfl (lv_at hl 2 rfl) ?_
      obtain ⟨v9, hv9, hf⟩ := zc_1 hf
      refine zw_Vi (pc := 44) (wc := [zr_o ad (0 : Int32) f_taped f_at f_behind f_size f_kind f_number f_wrong f_wrongAt f_faultKind f_faultPlace f_reading v5 f_x f_standMany f_bestMany f_tail f_round1, (ad 2, .inl (dA 0, 2982, .inl a6))]) (wr := [(ad 40, .inl (dA 0, 4, .inl b_rowSort)), (ad 19, .inl (dA 0, 5, .inl a3)), (ad 17, .inl (dA 0, 900, .inl a7)), (ad 18, .inl (dA 0, 6, .inl a8)), (ad 41, .inl (dA 0, 4, .inl b_rowMany)), (ad 42, .inl (dA 1, 160, .inr (.inl b_numbers)))]) (w1 := [zr_o ad (0 : Int32) f_taped f_at f_behind f_size f_kind f_number f_wrong f_wrongAt f_faultKind f_faultPlace f_reading v5 f_x f_standMany f_bestMany f_tail f_round1, (ad 2, .inl (dA 0, 2982, .inl a6))]) (As := []) (rest := []) ⟨hx, hb, hml, hown, ht⟩ (zt_X11_standNow l dC dI dA ad _ (0 : Int32) f_taped f_at f_behind f_size f_kind f_number f_wrong f_wrongAt f_faultKind f_faultPlace f_reading v5 f_x f_standMany f_bestMany f_tail f_round1 a6 v9 hv9) (cwV 0 ht (zr_V zr_261 zr_262 zr_263 zr_36 zr_213) rfl rfl rfl zk_X11_standNow ⟨Nat.le_of_ble_eq_true rfl, Nat.le_of_ble_eq_true rfl⟩) rfl rfl hK hP hD hS hA [2, 3] [0, 1, 4, 5, 6, 7] (by decide) (by decide) (by decide) rfl rfl rfl hl.1 (Nat.le_of_ble_eq_true rfl) dX11_judge_44 ⟨Nat.zero_le _, Nat.zero_le _⟩ rfl (fun H locs hP hD hS => ?_)
      have hP : va_P (dC, dI) zz_cls [(ad 40, .inl (dA 0, 4, .inl b_rowSort)), (ad 19, .inl (dA 0, 5, .inl a3)), (ad 17, .inl (dA 0, 900, .inl a7)), (ad 18, .inl (dA 0, 6, .inl a8)), (ad 41, .inl (dA 0, 4, .inl b_rowMany)), (ad 42, .inl (dA 1, 160, .inr (.inl b_numbers))), zr_o ad (0 : Int32) f_taped f_at f_behind f_size f_kind f_number f_wrong f_wrongAt f_faultKind f_faultPlace f_reading v5 f_x f_standMany f_bestMany f_tail f_round1, (ad 2, .inl (dA 0, 2982, .inl a6))] H := hP
      have hD : va_D A [(ad 40, .inl (dA 0, 4, .inl b_rowSort)), (ad 19, .inl (dA 0, 5, .inl a3)), (ad 17, .inl (dA 0, 900, .inl a7)), (ad 18, .inl (dA 0, 6, .inl a8)), (ad 41, .inl (dA 0, 4, .inl b_rowMany)), (ad 42, .inl (dA 1, 160, .inr (.inl b_numbers))), zr_o ad (0 : Int32) f_taped f_at f_behind f_size f_kind f_number f_wrong f_wrongAt f_faultKind f_faultPlace f_reading v5 f_x f_standMany f_bestMany f_tail f_round1, (ad 2, .inl (dA 0, 2982, .inl a6))] := hD
      refine lv_istore (lv' := [(5, .int v9), (4, .int v4), (3, .int v2), (0, .ref (ad 0)), (1, .int p1), (2, .int p2)]) (pc := 47) hx hb dX11_judge_47 hl (by decide) rfl (fun ls hl => ?_)
      refine lv_aload_n (pc := 49) hx hb dX11_judge_49 rfl (lv_at hl 3 rfl) ?_
      obtain ⟨a10, ha10, hf⟩ := zc_1 hf
      refine zw_Vv (pc := 50) (wc := [zr_o ad (0 : Int32) f_taped f_at f_behind f_size f_kind f_number f_wrong f_wrongAt f_faultKind f_faultPlace f_reading v5 f_x f_standMany f_bestMany f_tail f_round1, (ad 2, .inl (dA 0, 2982, .inl a6)), (ad 19, .inl (dA 0, 5, .inl a3))]) (wr := [(ad 40, .inl (dA 0, 4, .inl b_rowSort)), (ad 17, .inl (dA 0, 900, .inl a7)), (ad 18, .inl (dA 0, 6, .inl a8)), (ad 41, .inl (dA 0, 4, .inl b_rowMany)), (ad 42, .inl (dA 1, 160, .inr (.inl b_numbers)))]) (w1 := [zr_o ad (0 : Int32) f_taped f_at f_behind f_size f_kind f_number f_wrong f_wrongAt f_faultKind f_faultPlace f_reading v5 f_x f_standMany f_bestMany f_tail f_round1, (ad 2, .inl (dA 0, 2982, .inl a10)), (ad 19, .inl (dA 0, 5, .inl a3))]) (As := []) (rest := []) ⟨hx, hb, hml, hown, ht⟩ (zt_X11_isAgain l dC dI dA ad _ n (0 : Int32) f_taped f_at f_behind f_size f_kind f_number f_wrong f_wrongAt f_faultKind f_faultPlace f_reading v5 f_x f_standMany f_bestMany f_tail f_round1 a6 a3 a10 ha10) (cwV 0 ht (zr_V zr_322 zr_323 zr_324 zr_36 zr_277) rfl rfl rfl zk_X11_isAgain ⟨Nat.le_of_ble_eq_true rfl, Nat.le_of_ble_eq_true rfl⟩) rfl rfl hK hP hD hS hA [6, 7, 1] [0, 2, 3, 4, 5] (by decide) (by decide) (by decide) rfl rfl rfl hl.1 (Nat.le_of_ble_eq_true rfl) dX11_judge_50 ⟨Nat.zero_le _, Nat.zero_le _⟩ rfl (fun H locs hP hD hS => ?_)
      have hP : va_P (dC, dI) zz_cls [(ad 40, .inl (dA 0, 4, .inl b_rowSort)), (ad 17, .inl (dA 0, 900, .inl a7)), (ad 18, .inl (dA 0, 6, .inl a8)), (ad 41, .inl (dA 0, 4, .inl b_rowMany)), (ad 42, .inl (dA 1, 160, .inr (.inl b_numbers))), zr_o ad (0 : Int32) f_taped f_at f_behind f_size f_kind f_number f_wrong f_wrongAt f_faultKind f_faultPlace f_reading v5 f_x f_standMany f_bestMany f_tail f_round1, (ad 2, .inl (dA 0, 2982, .inl a10)), (ad 19, .inl (dA 0, 5, .inl a3))] H := hP
      have hD : va_D A [(ad 40, .inl (dA 0, 4, .inl b_rowSort)), (ad 17, .inl (dA 0, 900, .inl a7)), (ad 18, .inl (dA 0, 6, .inl a8)), (ad 41, .inl (dA 0, 4, .inl b_rowMany)), (ad 42, .inl (dA 1, 160, .inr (.inl b_numbers))), zr_o ad (0 : Int32) f_taped f_at f_behind f_size f_kind f_number f_wrong f_wrongAt f_faultKind f_faultPlace f_reading v5 f_x f_standMany f_bestMany f_tail f_round1, (ad 2, .inl (dA 0, 2982, .inl a10)), (ad 19, .inl (dA 0, 5, .inl a3))] := hD
      refine lv_iload_n (pc := 53) hx hb dX11_judge_53 rfl (lv_at hl 5 rfl) ?_
      refine lv_if_ne (tgt := 73) (pc := 54) hx hb dX11_judge_54 rfl (fun hc => ?_) (fun hc => ?_)
      · have hf := za_f hf hc
        refine lv_iload_n (pc := 73) hx hb dX11_judge_73 rfl (lv_at hl 5 rfl) ?_
        refine lv_iconst (v := (1 : Int32)) (pc := 74) hx hb dX11_judge_74 (by decide) ?_
        refine lv_icmp_ne (tgt := 85) (pc := 75) hx hb dX11_judge_75 rfl (fun hc => ?_) (fun hc => ?_)
        · have hf := za_f hf hc
          refine lv_iload_n (pc := 85) hx hb dX11_judge_85 rfl (lv_at hl 5 rfl) ?_
          refine lv_iconst (v := (2 : Int32)) (pc := 86) hx hb dX11_judge_86 (by decide) ?_
          refine lv_icmp_ne (tgt := 98) (pc := 87) hx hb dX11_judge_87 rfl (fun hc => ?_) (fun hc => ?_)
          · have hf := za_f hf hc
            refine lv_iload (pc := 98) hx hb dX11_judge_98 (lv_at hl 0 rfl) ?_
            obtain ⟨v12, hv12, hf⟩ := zc_1 hf
            refine zw_Si (pc := 100) (wc := []) (wr := [(ad 40, .inl (dA 0, 4, .inl b_rowSort)), (ad 17, .inl (dA 0, 900, .inl a7)), (ad 18, .inl (dA 0, 6, .inl a8)), (ad 41, .inl (dA 0, 4, .inl b_rowMany)), (ad 42, .inl (dA 1, 160, .inr (.inl b_numbers))), zr_o ad (0 : Int32) f_taped f_at f_behind f_size f_kind f_number f_wrong f_wrongAt f_faultKind f_faultPlace f_reading v5 f_x f_standMany f_bestMany f_tail f_round1, (ad 2, .inl (dA 0, 2982, .inl a10)), (ad 19, .inl (dA 0, 5, .inl a3))]) (w1 := []) (As := [.int v9]) (rest := []) ⟨hx, hb, hml, hown, ht⟩ (zt_X11_hasIn l dC dI dA ad _ v9 v12 hv12) (cwS 1 ht (zr_S zr_219 zr_220 zr_36 zr_211) rfl rfl rfl zk_X11_hasIn ⟨Nat.le_of_ble_eq_true rfl, Nat.le_of_ble_eq_true rfl⟩) hK hP hD hS hA [] [0, 1, 2, 3, 4, 5, 6, 7] (by decide) (by decide) (by decide) rfl rfl rfl hl.1 (Nat.le_of_ble_eq_true rfl) dX11_judge_100 ⟨Nat.zero_le _, Nat.zero_le _⟩ rfl (fun H locs hP hD hS => ?_)
            have hP : va_P (dC, dI) zz_cls [(ad 40, .inl (dA 0, 4, .inl b_rowSort)), (ad 17, .inl (dA 0, 900, .inl a7)), (ad 18, .inl (dA 0, 6, .inl a8)), (ad 41, .inl (dA 0, 4, .inl b_rowMany)), (ad 42, .inl (dA 1, 160, .inr (.inl b_numbers))), zr_o ad (0 : Int32) f_taped f_at f_behind f_size f_kind f_number f_wrong f_wrongAt f_faultKind f_faultPlace f_reading v5 f_x f_standMany f_bestMany f_tail f_round1, (ad 2, .inl (dA 0, 2982, .inl a10)), (ad 19, .inl (dA 0, 5, .inl a3))] H := hP
            have hD : va_D A [(ad 40, .inl (dA 0, 4, .inl b_rowSort)), (ad 17, .inl (dA 0, 900, .inl a7)), (ad 18, .inl (dA 0, 6, .inl a8)), (ad 41, .inl (dA 0, 4, .inl b_rowMany)), (ad 42, .inl (dA 1, 160, .inr (.inl b_numbers))), zr_o ad (0 : Int32) f_taped f_at f_behind f_size f_kind f_number f_wrong f_wrongAt f_faultKind f_faultPlace f_reading v5 f_x f_standMany f_bestMany f_tail f_round1, (ad 2, .inl (dA 0, 2982, .inl a10)), (ad 19, .inl (dA 0, 5, .inl a3))] := hD
            obtain ⟨rfl, rfl, rfl, rfl, rfl, rfl, rfl⟩ := zi_7 hf
            exact W.iret (pc := 103) hx hb hr (fun t ht hW => ⟨⟨_, (), rfl, rfl, zz_Bi (by rw [ht]; exact hP.sub [5, 6, 1, 2, 7, 0, 3, 4] rfl) (va_K.moved hW.alike hK) (hD.sub [5, 6, 1, 2, 7, 0, 3, 4] (by decide) rfl)⟩, hS.F ht⟩) hS.2.2 dX11_judge_103
          · have hf := za_t hf hc
            refine lv_iload (pc := 90) hx hb dX11_judge_90 (lv_at hl 0 rfl) ?_
            obtain ⟨v11, hv11, hf⟩ := zc_1 hf
            refine zw_Si (pc := 92) (wc := []) (wr := [(ad 40, .inl (dA 0, 4, .inl b_rowSort)), (ad 17, .inl (dA 0, 900, .inl a7)), (ad 18, .inl (dA 0, 6, .inl a8)), (ad 41, .inl (dA 0, 4, .inl b_rowMany)), (ad 42, .inl (dA 1, 160, .inr (.inl b_numbers))), zr_o ad (0 : Int32) f_taped f_at f_behind f_size f_kind f_number f_wrong f_wrongAt f_faultKind f_faultPlace f_reading v5 f_x f_standMany f_bestMany f_tail f_round1, (ad 2, .inl (dA 0, 2982, .inl a10)), (ad 19, .inl (dA 0, 5, .inl a3))]) (w1 := []) (As := [.int v9]) (rest := []) ⟨hx, hb, hml, hown, ht⟩ (zt_X11_rungIn l dC dI dA ad _ v9 v11 hv11) (cwS 1 ht (zr_S zr_217 zr_218 zr_36 zr_210) rfl rfl rfl zk_X11_rungIn ⟨Nat.le_of_ble_eq_true rfl, Nat.le_of_ble_eq_true rfl⟩) hK hP hD hS hA [] [0, 1, 2, 3, 4, 5, 6, 7] (by decide) (by decide) (by decide) rfl rfl rfl hl.1 (Nat.le_of_ble_eq_true rfl) dX11_judge_92 ⟨Nat.zero_le _, Nat.zero_le _⟩ rfl (fun H locs hP hD hS => ?_)
            have hP : va_P (dC, dI) zz_cls [(ad 40, .inl (dA 0, 4, .inl b_rowSort)), (ad 17, .inl (dA 0, 900, .inl a7)), (ad 18, .inl (dA 0, 6, .inl a8)), (ad 41, .inl (dA 0, 4, .inl b_rowMany)), (ad 42, .inl (dA 1, 160, .inr (.inl b_numbers))), zr_o ad (0 : Int32) f_taped f_at f_behind f_size f_kind f_number f_wrong f_wrongAt f_faultKind f_faultPlace f_reading v5 f_x f_standMany f_bestMany f_tail f_round1, (ad 2, .inl (dA 0, 2982, .inl a10)), (ad 19, .inl (dA 0, 5, .inl a3))] H := hP
            have hD : va_D A [(ad 40, .inl (dA 0, 4, .inl b_rowSort)), (ad 17, .inl (dA 0, 900, .inl a7)), (ad 18, .inl (dA 0, 6, .inl a8)), (ad 41, .inl (dA 0, 4, .inl b_rowMany)), (ad 42, .inl (dA 1, 160, .inr (.inl b_numbers))), zr_o ad (0 : Int32) f_taped f_at f_behind f_size f_kind f_number f_wrong f_wrongAt f_faultKind f_faultPlace f_reading v5 f_x f_standMany f_bestMany f_tail f_round1, (ad 2, .inl (dA 0, 2982, .inl a10)), (ad 19, .inl (dA 0, 5, .inl a3))] := hD
            refine lv_goto (tgt := 103) (pc := 95) hx hb dX11_judge_95 rfl ?_
            obtain ⟨rfl, rfl, rfl, rfl, rfl, rfl, rfl⟩ := zi_7 hf
            exact W.iret (pc := 103) hx hb hr (fun t ht hW => ⟨⟨_, (), rfl, rfl, zz_Bi (by rw [ht]; exact hP.sub [5, 6, 1, 2, 7, 0, 3, 4] rfl) (va_K.moved hW.alike hK) (hD.sub [5, 6, 1, 2, 7, 0, 3, 4] (by decide) rfl)⟩, hS.F ht⟩) hS.2.2 dX11_judge_103
        · have hf := za_t hf hc
          refine lv_aload_n (pc := 78) hx hb dX11_judge_78 rfl (lv_at hl 3 rfl) ?_
          refine va_get (pc := 79) (D := (dC, dI)) (ci := 0) (v := .int v5) (C := RX11) (T := TX11) (N := 42) hx hb ht zr_lay hown hK hP 5 rfl rfl 19 (by decide) (ht _ zr_306) (fun _ h9 => h9) rfl dX11_judge_79 ?_
          refine lv_goto (tgt := 103) (pc := 82) hx hb dX11_judge_82 rfl ?_
          obtain ⟨rfl, rfl, rfl, rfl, rfl, rfl, rfl⟩ := zi_7 hf
          exact W.iret (pc := 103) hx hb hr (fun t ht hW => ⟨⟨_, (), rfl, rfl, zz_Bi (by rw [ht]; exact hP.sub [5, 6, 1, 2, 7, 0, 3, 4] rfl) (va_K.moved hW.alike hK) (hD.sub [5, 6, 1, 2, 7, 0, 3, 4] (by decide) rfl)⟩, hS.F ht⟩) hS.2.2 dX11_judge_103
      · have hf := za_t hf hc
        refine lv_aload_n (pc := 57) hx hb dX11_judge_57 rfl (lv_at hl 3 rfl) ?_
        refine va_get (pc := 58) (D := (dC, dI)) (ci := 0) (v := .int v5) (C := RX11) (T := TX11) (N := 42) hx hb ht zr_lay hown hK hP 5 rfl rfl 19 (by decide) (ht _ zr_306) (fun _ h9 => h9) rfl dX11_judge_58 ?_
        refine lv_if_ne (tgt := 68) (pc := 61) hx hb dX11_judge_61 rfl (fun hc => ?_) (fun hc => ?_)
        · have hf := za_f hf hc
          refine lv_iload (pc := 68) hx hb dX11_judge_68 (lv_at hl 1 rfl) ?_
          refine lv_goto (tgt := 103) (pc := 70) hx hb dX11_judge_70 rfl ?_
          obtain ⟨rfl, rfl, rfl, rfl, rfl, rfl, rfl⟩ := zi_7 hf
          exact W.iret (pc := 103) hx hb hr (fun t ht hW => ⟨⟨_, (), rfl, rfl, zz_Bi (by rw [ht]; exact hP.sub [5, 6, 1, 2, 7, 0, 3, 4] rfl) (va_K.moved hW.alike hK) (hD.sub [5, 6, 1, 2, 7, 0, 3, 4] (by decide) rfl)⟩, hS.F ht⟩) hS.2.2 dX11_judge_103
        · have hf := za_t hf hc
          refine lv_iconst (v := (-1 : Int32)) (pc := 64) hx hb dX11_judge_64 (by decide) ?_
          refine lv_goto (tgt := 103) (pc := 65) hx hb dX11_judge_65 rfl ?_
          obtain ⟨rfl, rfl, rfl, rfl, rfl, rfl, rfl⟩ := zi_7 hf
          exact W.iret (pc := 103) hx hb hr (fun t ht hW => ⟨⟨_, (), rfl, rfl, zz_Bi (by rw [ht]; exact hP.sub [5, 6, 1, 2, 7, 0, 3, 4] rfl) (va_K.moved hW.alike hK) (hD.sub [5, 6, 1, 2, 7, 0, 3, 4] (by decide) rfl)⟩, hS.F ht⟩) hS.2.2 dX11_judge_103
    · have hf := za_f hf hc
      refine lv_iload_n (pc := 30) hx hb dX11_judge_30 rfl (lv_at hl 0 rfl) ?_
      obtain ⟨rfl, rfl, rfl, rfl, rfl, rfl, rfl⟩ := zi_7 hf
      exact W.iret (pc := 31) hx hb hr (fun t ht hW => ⟨⟨_, (), rfl, rfl, zz_Bi (by rw [ht]; exact hP.sub [6, 0, 1, 2, 3, 7, 4, 5] rfl) (va_K.moved hW.alike hK) (hD.sub [6, 0, 1, 2, 3, 7, 4, 5] (by decide) rfl)⟩, hS.F ht⟩) hS.2.2 dX11_judge_31
  · have hf := za_t hf hc
    refine lv_bipush (v := (-2 : Int32)) (pc := 17) hx hb dX11_judge_17 (by decide) ?_
    obtain ⟨rfl, rfl, rfl, rfl, rfl, rfl, rfl⟩ := zi_7 hf
    exact W.iret (pc := 19) hx hb hr (fun t ht hW => ⟨⟨_, (), rfl, rfl, zz_Bi (by rw [ht]; exact hP) (va_K.moved hW.alike hK) (hD)⟩, hS.F ht⟩) hS.2.2 dX11_judge_19

def zf_X11_perform (n : Nat) (f_thrown : Int32) (f_toldWhy : Int32) (b_all : (Nat → Int32)) (b_reckoned : (Nat → Int32)) (b_words : (Nat → Int32)) (b_was : (Nat → Int32)) (b_rowSort : (Nat → Int32)) (b_rowMany : (Nat → Int32)) (b_numbers : (Nat → Int64)) (p1 : Int32) : Option (Int32 × Int32 × Int32 × (Nat → Int32) × (Nat → Int32) × (Nat → Int32) × (Nat → Int32)) :=
  zd_1 (zf_X11_noTray b_rowSort p1) (fun v1 =>
  if v1 = 0 then
    zd_1 (zf_X11_keeps n b_all b_was) (fun a2 =>
    zd_5 (zf_X11_tells n f_toldWhy b_all b_reckoned b_words b_rowMany b_numbers p1) (fun v3 v4 a5 a6 a7 =>
    zd_1 (
      if v3 ≤ 0 then
        some a5
      else
        zd_1 (zf_X11_notes n a5 a2) (fun a8 =>
        some a8)) (fun a9 =>
    some (v3, (0 : Int32), v4, a9, a6, a7, a2))))
  else
    some (v1, (0 : Int32), f_toldWhy, b_all, b_reckoned, b_words, b_was))
theorem zk_X11_perform : yX11_perform.cls = RX11 ∧ yX11_perform.cls ≠ "java/lang/invoke/MethodHandle" ∧ yX11_perform.cls ≠ "java/lang/invoke/VarHandle" ∧ (parseMethodDescriptor yX11_perform.desc).map (fun d => d.parameters.length) = some 1 := by decide +kernel
set_option maxHeartbeats 4000000 in
set_option maxRecDepth 100000 in
theorem zt_X11_perform (l : Launch) (dC : Nat → ClassId) (dI : Nat → Nat → Nat) (dA : Nat → ClassId) (ad : Nat → Nat) (sz : Nat) (n : Nat) (f_thrown f_taped f_at f_behind f_size f_kind f_number f_wrong f_wrongAt f_faultKind f_faultPlace f_reading f_toldWhy f_x f_standMany f_bestMany f_tail f_round1 : Int32) (b_all : (Nat → Int32)) (b_reckoned : (Nat → Int32)) (b_words : (Nat → Int32)) (b_was : (Nat → Int32)) (b_rowSort : (Nat → Int32)) (b_rowMany : (Nat → Int32)) (b_numbers : (Nat → Int64)) (p1 : Int32) (r0 : Int32) (o1 : Int32) (o2 : Int32) (o3 : (Nat → Int32)) (o4 : (Nat → Int32)) (o5 : (Nat → Int32)) (o6 : (Nat → Int32)) (hf : zf_X11_perform n f_thrown f_toldWhy b_all b_reckoned b_words b_was b_rowSort b_rowMany b_numbers p1 = some (r0, o1, o2, o3, o4, o5, o6)) : Met l yX11_perform (.code yX11_perform cX11_perform 4 (some .int) :: zr_T) ({ frames := 7, cells := 0, slots := 0, locals := 163 }) (va_Pc [.ref (ad 0), .int p1] (zz_M dC dI dA [zr_o ad f_thrown f_taped f_at f_behind f_size f_kind f_number f_wrong f_wrongAt f_faultKind f_faultPlace f_reading f_toldWhy f_x f_standMany f_bestMany f_tail f_round1, (ad 2, .inl (dA 0, 2982, .inl b_all)), (ad 17, .inl (dA 0, 900, .inl b_reckoned)), (ad 18, .inl (dA 0, 6, .inl b_words)), (ad 19, .inl (dA 0, 5, .inl b_was)), (ad 40, .inl (dA 0, 4, .inl b_rowSort)), (ad 41, .inl (dA 0, 4, .inl b_rowMany)), (ad 42, .inl (dA 1, 160, .inr (.inl b_numbers)))] sz)) (va_Qi (fun (r : Int32) (_ : Unit) => r = r0) (fun _ t => zz_B dC dI dA (va_A [zr_o ad f_thrown f_taped f_at f_behind f_size f_kind f_number f_wrong f_wrongAt f_faultKind f_faultPlace f_reading f_toldWhy f_x f_standMany f_bestMany f_tail f_round1, (ad 2, .inl (dA 0, 2982, .inl b_all)), (ad 17, .inl (dA 0, 900, .inl b_reckoned)), (ad 18, .inl (dA 0, 6, .inl b_words)), (ad 19, .inl (dA 0, 5, .inl b_was)), (ad 40, .inl (dA 0, 4, .inl b_rowSort)), (ad 41, .inl (dA 0, 4, .inl b_rowMany)), (ad 42, .inl (dA 1, 160, .inr (.inl b_numbers)))] sz) [zr_o ad o1 f_taped f_at f_behind f_size f_kind f_number f_wrong f_wrongAt f_faultKind f_faultPlace f_reading o2 f_x f_standMany f_bestMany f_tail f_round1, (ad 2, .inl (dA 0, 2982, .inl o3)), (ad 17, .inl (dA 0, 900, .inl o4)), (ad 18, .inl (dA 0, 6, .inl o5)), (ad 19, .inl (dA 0, 5, .inl o6)), (ad 40, .inl (dA 0, 4, .inl b_rowSort)), (ad 41, .inl (dA 0, 4, .inl b_rowMany)), (ad 42, .inl (dA 1, 160, .inr (.inl b_numbers)))] t) (va_A [zr_o ad f_thrown f_taped f_at f_behind f_size f_kind f_number f_wrong f_wrongAt f_faultKind f_faultPlace f_reading f_toldWhy f_x f_standMany f_bestMany f_tail f_round1, (ad 2, .inl (dA 0, 2982, .inl b_all)), (ad 17, .inl (dA 0, 900, .inl b_reckoned)), (ad 18, .inl (dA 0, 6, .inl b_words)), (ad 19, .inl (dA 0, 5, .inl b_was)), (ad 40, .inl (dA 0, 4, .inl b_rowSort)), (ad 41, .inl (dA 0, 4, .inl b_rowMany)), (ad 42, .inl (dA 1, 160, .inr (.inl b_numbers)))] sz)) 0 0 (va_A [zr_o ad f_thrown f_taped f_at f_behind f_size f_kind f_number f_wrong f_wrongAt f_faultKind f_faultPlace f_reading f_toldWhy f_x f_standMany f_bestMany f_tail f_round1, (ad 2, .inl (dA 0, 2982, .inl b_all)), (ad 17, .inl (dA 0, 900, .inl b_reckoned)), (ad 18, .inl (dA 0, 6, .inl b_words)), (ad 19, .inl (dA 0, 5, .inl b_was)), (ad 40, .inl (dA 0, 4, .inl b_rowSort)), (ad 41, .inl (dA 0, 4, .inl b_rowMany)), (ad 42, .inl (dA 1, 160, .inr (.inl b_numbers)))] sz) := by
  unfold zf_X11_perform at hf
  refine Met.ofW (cc := cX11_perform) (maxL := 4) (ret := (some .int)) (by decide) rfl ?_
  intro p e s m args below meth c s₁ B hml hv
  obtain ⟨rfl, hsz, hP, hK, hD0⟩ := hv
  have hx := B.exec
  have hb := B.bytes
  have hr := B.returns
  have ht : ∀ w ∈ zr_T, w.before ([.ref (ad 0), .int p1] : List Value).toArray s = true := fun w hw => atoms_spec (ws := .code yX11_perform cX11_perform 4 (some .int) :: zr_T) B.pre w (List.mem_cons_of_mem _ hw)
  have hown : s.vm.findClass RX11 = some m.cls := findClass_of_methodNamed B.named
  have hlocks := B.notSynchronized
  subst hsz
  have hD := hD0.self (sz := s.heap.size)
  generalize hAe : va_A [zr_o ad f_thrown f_taped f_at f_behind f_size f_kind f_number f_wrong f_wrongAt f_faultKind f_faultPlace f_reading f_toldWhy f_x f_standMany f_bestMany f_tail f_round1, (ad 2, .inl (dA 0, 2982, .inl b_all)), (ad 17, .inl (dA 0, 900, .inl b_reckoned)), (ad 18, .inl (dA 0, 6, .inl b_words)), (ad 19, .inl (dA 0, 5, .inl b_was)), (ad 40, .inl (dA 0, 4, .inl b_rowSort)), (ad 41, .inl (dA 0, 4, .inl b_rowMany)), (ad 42, .inl (dA 1, 160, .inr (.inl b_numbers)))] s.heap.size = A at hD ⊢
  have hA : ∀ q : Nat, s.heap.size ≤ q → A q := fun q h => by rw [← hAe]; exact Or.inr h
  clear hAe hD0
  have hS : va_S A s.heap s.heap [] := va_S.rf
  have hl := lv_entry ([.ref (ad 0), .int p1]) (n := 4) (Nat.le_of_ble_eq_true rfl)
  rw [lg_entry_eq]
  generalize (lg_sl ([.ref (ad 0), .int p1]) ++ List.replicate (4 - (lg_sl ([.ref (ad 0), .int p1])).length) Slot.unset).toArray = ls at hl ⊢
  have hl : lv_has ls 4 [(0, .ref (ad 0)), (1, .int p1)] := hl
  refine lv_aload_n (pc := 0) hx hb dX11_perform_0 rfl (lv_at hl 0 rfl) ?_
  refine lv_iconst (v := (0 : Int32)) (pc := 1) hx hb dX11_perform_1 (by decide) ?_
  refine va_put (pc := 2) (D := (dC, dI)) (ci := 0) (v := .int (0 : Int32)) (ty := .int) (C := RX11) (T := TX11) (N := 42) hx hb ht zr_lay tyX11 tyX11_ok nmX11 hown hK hP hD hS 0 rfl rfl 0 (by decide) (ht _ zr_39) (fun _ h9 => h9) rfl (by decide +kernel) rfl rfl (Nat.le_of_ble_eq_true rfl) dX11_perform_2 (fun H locs hP hD hS => ?_)
  have hP : va_P (dC, dI) zz_cls [zr_o ad (0 : Int32) f_taped f_at f_behind f_size f_kind f_number f_wrong f_wrongAt f_faultKind f_faultPlace f_reading f_toldWhy f_x f_standMany f_bestMany f_tail f_round1, (ad 2, .inl (dA 0, 2982, .inl b_all)), (ad 17, .inl (dA 0, 900, .inl b_reckoned)), (ad 18, .inl (dA 0, 6, .inl b_words)), (ad 19, .inl (dA 0, 5, .inl b_was)), (ad 40, .inl (dA 0, 4, .inl b_rowSort)), (ad 41, .inl (dA 0, 4, .inl b_rowMany)), (ad 42, .inl (dA 1, 160, .inr (.inl b_numbers)))] H := hP
  have hD : va_D A [zr_o ad (0 : Int32) f_taped f_at f_behind f_size f_kind f_number f_wrong f_wrongAt f_faultKind f_faultPlace f_reading f_toldWhy f_x f_standMany f_bestMany f_tail f_round1, (ad 2, .inl (dA 0, 2982, .inl b_all)), (ad 17, .inl (dA 0, 900, .inl b_reckoned)), (ad 18, .inl (dA 0, 6, .inl b_words)), (ad 19, .inl (dA 0, 5, .inl b_was)), (ad 40, .inl (dA 0, 4, .inl b_rowSort)), (ad 41, .inl (dA 0, 4, .inl b_rowMany)), (ad 42, .inl (dA 1, 160, .inr (.inl b_numbers)))] := hD
  refine lv_aload_n (pc := 5) hx hb dX11_perform_5 rfl (lv_at hl 0 rfl) ?_
  refine lv_iload_n (pc := 6) hx hb dX11_perform_6 rfl (lv_at hl 1 rfl) ?_
  obtain ⟨v1, hv1, hf⟩ := zc_1 hf
  refine zw_Vi (pc := 7) (wc := [zr_o ad (0 : Int32) f_taped f_at f_behind f_size f_kind f_number f_wrong f_wrongAt f_faultKind f_faultPlace f_reading f_toldWhy f_x f_standMany f_bestMany f_tail f_round1, (ad 40, .inl (dA 0, 4, .inl b_rowSort))]) (wr := [(ad 2, .inl (dA 0, 2982, .inl b_all)), (ad 17, .inl (dA 0, 900, .inl b_reckoned)), (ad 18, .inl (dA 0, 6, .inl b_words)), (ad 19, .inl (dA 0, 5, .inl b_was)), (ad 41, .inl (dA 0, 4, .inl b_rowMany)), (ad 42, .inl (dA 1, 160, .inr (.inl b_numbers)))]) (w1 := [zr_o ad (0 : Int32) f_taped f_at f_behind f_size f_kind f_number f_wrong f_wrongAt f_faultKind f_faultPlace f_reading f_toldWhy f_x f_standMany f_bestMany f_tail f_round1, (ad 40, .inl (dA 0, 4, .inl b_rowSort))]) (As := [.int p1]) (rest := []) ⟨hx, hb, hml, hown, ht⟩ (zt_X11_noTray l dC dI dA ad _ (0 : Int32) f_taped f_at f_behind f_size f_kind f_number f_wrong f_wrongAt f_faultKind f_faultPlace f_reading f_toldWhy f_x f_standMany f_bestMany f_tail f_round1 b_rowSort p1 v1 hv1) (cwV 1 ht (zr_V zr_316 zr_317 zr_318 zr_36 zr_314) rfl rfl rfl zk_X11_noTray ⟨Nat.le_of_ble_eq_true rfl, Nat.le_of_ble_eq_true rfl⟩) rfl rfl hK hP hD hS hA [0, 5] [1, 2, 3, 4, 6, 7] (by decide) (by decide) (by decide) rfl rfl rfl hl.1 (Nat.le_of_ble_eq_true rfl) dX11_perform_7 ⟨Nat.zero_le _, Nat.zero_le _⟩ rfl (fun H locs hP hD hS => ?_)
  have hP : va_P (dC, dI) zz_cls [(ad 2, .inl (dA 0, 2982, .inl b_all)), (ad 17, .inl (dA 0, 900, .inl b_reckoned)), (ad 18, .inl (dA 0, 6, .inl b_words)), (ad 19, .inl (dA 0, 5, .inl b_was)), (ad 41, .inl (dA 0, 4, .inl b_rowMany)), (ad 42, .inl (dA 1, 160, .inr (.inl b_numbers))), zr_o ad (0 : Int32) f_taped f_at f_behind f_size f_kind f_number f_wrong f_wrongAt f_faultKind f_faultPlace f_reading f_toldWhy f_x f_standMany f_bestMany f_tail f_round1, (ad 40, .inl (dA 0, 4, .inl b_rowSort))] H := hP
  have hD : va_D A [(ad 2, .inl (dA 0, 2982, .inl b_all)), (ad 17, .inl (dA 0, 900, .inl b_reckoned)), (ad 18, .inl (dA 0, 6, .inl b_words)), (ad 19, .inl (dA 0, 5, .inl b_was)), (ad 41, .inl (dA 0, 4, .inl b_rowMany)), (ad 42, .inl (dA 1, 160, .inr (.inl b_numbers))), zr_o ad (0 : Int32) f_taped f_at f_behind f_size f_kind f_number f_wrong f_wrongAt f_faultKind f_faultPlace f_reading f_toldWhy f_x f_standMany f_bestMany f_tail f_round1, (ad 40, .inl (dA 0, 4, .inl b_rowSort))] := hD
  refine lv_istore_n (lv' := [(2, .int v1), (0, .ref (ad 0)), (1, .int p1)]) (pc := 10) hx hb dX11_perform_10 rfl hl (by decide) rfl (fun ls hl => ?_)
  refine lv_iload_n (pc := 11) hx hb dX11_perform_11 rfl (lv_at hl 0 rfl) ?_
  refine lv_if_eq (tgt := 17) (pc := 12) hx hb dX11_perform_12 rfl (fun hc => ?_) (fun hc => ?_)
  · have hf := za_t hf hc
    refine lv_aload_n (pc := 17) hx hb dX11_perform_17 rfl (lv_at hl 1 rfl) ?_
    obtain ⟨a2, ha2, hf⟩ := zc_1 hf
    refine zw_Vv (pc := 18) (wc := [zr_o ad (0 : Int32) f_taped f_at f_behind f_size f_kind f_number f_wrong f_wrongAt f_faultKind f_faultPlace f_reading f_toldWhy f_x f_standMany f_bestMany f_tail f_round1, (ad 2, .inl (dA 0, 2982, .inl b_all)), (ad 19, .inl (dA 0, 5, .inl b_was))]) (wr := [(ad 17, .inl (dA 0, 900, .inl b_reckoned)), (ad 18, .inl (dA 0, 6, .inl b_words)), (ad 41, .inl (dA 0, 4, .inl b_rowMany)), (ad 42, .inl (dA 1, 160, .inr (.inl b_numbers))), (ad 40, .inl (dA 0, 4, .inl b_rowSort))]) (w1 := [zr_o ad (0 : Int32) f_taped f_at f_behind f_size f_kind f_number f_wrong f_wrongAt f_faultKind f_faultPlace f_reading f_toldWhy f_x f_standMany f_bestMany f_tail f_round1, (ad 2, .inl (dA 0, 2982, .inl b_all)), (ad 19, .inl (dA 0, 5, .inl a2))]) (As := []) (rest := []) ⟨hx, hb, hml, hown, ht⟩ (zt_X11_keeps l dC dI dA ad _ n (0 : Int32) f_taped f_at f_behind f_size f_kind f_number f_wrong f_wrongAt f_faultKind f_faultPlace f_reading f_toldWhy f_x f_standMany f_bestMany f_tail f_round1 b_all b_was a2 ha2) (cwV 0 ht (zr_V zr_283 zr_284 zr_285 zr_36 zr_276) rfl rfl rfl zk_X11_keeps ⟨Nat.le_of_ble_eq_true rfl, Nat.le_of_ble_eq_true rfl⟩) rfl rfl hK hP hD hS hA [6, 0, 3] [1, 2, 4, 5, 7] (by decide) (by decide) (by decide) rfl rfl rfl hl.1 (Nat.le_of_ble_eq_true rfl) dX11_perform_18 ⟨Nat.zero_le _, Nat.zero_le _⟩ rfl (fun H locs hP hD hS => ?_)
    have hP : va_P (dC, dI) zz_cls [(ad 17, .inl (dA 0, 900, .inl b_reckoned)), (ad 18, .inl (dA 0, 6, .inl b_words)), (ad 41, .inl (dA 0, 4, .inl b_rowMany)), (ad 42, .inl (dA 1, 160, .inr (.inl b_numbers))), (ad 40, .inl (dA 0, 4, .inl b_rowSort)), zr_o ad (0 : Int32) f_taped f_at f_behind f_size f_kind f_number f_wrong f_wrongAt f_faultKind f_faultPlace f_reading f_toldWhy f_x f_standMany f_bestMany f_tail f_round1, (ad 2, .inl (dA 0, 2982, .inl b_all)), (ad 19, .inl (dA 0, 5, .inl a2))] H := hP
    have hD : va_D A [(ad 17, .inl (dA 0, 900, .inl b_reckoned)), (ad 18, .inl (dA 0, 6, .inl b_words)), (ad 41, .inl (dA 0, 4, .inl b_rowMany)), (ad 42, .inl (dA 1, 160, .inr (.inl b_numbers))), (ad 40, .inl (dA 0, 4, .inl b_rowSort)), zr_o ad (0 : Int32) f_taped f_at f_behind f_size f_kind f_number f_wrong f_wrongAt f_faultKind f_faultPlace f_reading f_toldWhy f_x f_standMany f_bestMany f_tail f_round1, (ad 2, .inl (dA 0, 2982, .inl b_all)), (ad 19, .inl (dA 0, 5, .inl a2))] := hD
    refine lv_aload_n (pc := 21) hx hb dX11_perform_21 rfl (lv_at hl 1 rfl) ?_
    refine lv_iload_n (pc := 22) hx hb dX11_perform_22 rfl (lv_at hl 2 rfl) ?_
    obtain ⟨v3, v4, a5, a6, a7, hv3, hf⟩ := zc_5 hf
    refine zw_Vi (pc := 23) (wc := [zr_o ad (0 : Int32) f_taped f_at f_behind f_size f_kind f_number f_wrong f_wrongAt f_faultKind f_faultPlace f_reading f_toldWhy f_x f_standMany f_bestMany f_tail f_round1, (ad 2, .inl (dA 0, 2982, .inl b_all)), (ad 17, .inl (dA 0, 900, .inl b_reckoned)), (ad 18, .inl (dA 0, 6, .inl b_words)), (ad 41, .inl (dA 0, 4, .inl b_rowMany)), (ad 42, .inl (dA 1, 160, .inr (.inl b_numbers)))]) (wr := [(ad 40, .inl (dA 0, 4, .inl b_rowSort)), (ad 19, .inl (dA 0, 5, .inl a2))]) (w1 := [zr_o ad (0 : Int32) f_taped f_at f_behind f_size f_kind f_number f_wrong f_wrongAt f_faultKind f_faultPlace f_reading v4 f_x f_standMany f_bestMany f_tail f_round1, (ad 2, .inl (dA 0, 2982, .inl a5)), (ad 17, .inl (dA 0, 900, .inl a6)), (ad 18, .inl (dA 0, 6, .inl a7)), (ad 41, .inl (dA 0, 4, .inl b_rowMany)), (ad 42, .inl (dA 1, 160, .inr (.inl b_numbers)))]) (As := [.int p1]) (rest := []) ⟨hx, hb, hml, hown, ht⟩ (zt_X11_tells l dC dI dA ad _ n (0 : Int32) f_taped f_at f_behind f_size f_kind f_number f_wrong f_wrongAt f_faultKind f_faultPlace f_reading f_toldWhy f_x f_standMany f_bestMany f_tail f_round1 b_all b_reckoned b_words b_rowMany b_numbers p1 v3 v4 a5 a6 a7 hv3) (cwV 1 ht (zr_V zr_319 zr_320 zr_321 zr_36 zr_313) rfl rfl rfl zk_X11_tells ⟨Nat.le_of_ble_eq_true rfl, Nat.le_of_ble_eq_true rfl⟩) rfl rfl hK hP hD hS hA [5, 6, 0, 1, 2, 3] [4, 7] (by decide) (by decide) (by decide) rfl rfl rfl hl.1 (Nat.le_of_ble_eq_true rfl) dX11_perform_23 ⟨Nat.zero_le _, Nat.zero_le _⟩ rfl (fun H locs hP hD hS => ?_)
    have hP : va_P (dC, dI) zz_cls [(ad 40, .inl (dA 0, 4, .inl b_rowSort)), (ad 19, .inl (dA 0, 5, .inl a2)), zr_o ad (0 : Int32) f_taped f_at f_behind f_size f_kind f_number f_wrong f_wrongAt f_faultKind f_faultPlace f_reading v4 f_x f_standMany f_bestMany f_tail f_round1, (ad 2, .inl (dA 0, 2982, .inl a5)), (ad 17, .inl (dA 0, 900, .inl a6)), (ad 18, .inl (dA 0, 6, .inl a7)), (ad 41, .inl (dA 0, 4, .inl b_rowMany)), (ad 42, .inl (dA 1, 160, .inr (.inl b_numbers)))] H := hP
    have hD : va_D A [(ad 40, .inl (dA 0, 4, .inl b_rowSort)), (ad 19, .inl (dA 0, 5, .inl a2)), zr_o ad (0 : Int32) f_taped f_at f_behind f_size f_kind f_number f_wrong f_wrongAt f_faultKind f_faultPlace f_reading v4 f_x f_standMany f_bestMany f_tail f_round1, (ad 2, .inl (dA 0, 2982, .inl a5)), (ad 17, .inl (dA 0, 900, .inl a6)), (ad 18, .inl (dA 0, 6, .inl a7)), (ad 41, .inl (dA 0, 4, .inl b_rowMany)), (ad 42, .inl (dA 1, 160, .inr (.inl b_numbers)))] := hD
    refine lv_istore_n (lv' := [(3, .int v3), (2, .int v1), (0, .ref (ad 0)), (1, .int p1)]) (pc := 26) hx hb dX11_perform_26 rfl hl (by decide) rfl (fun ls hl => ?_)
    refine lv_iload_n (pc := 27) hx hb dX11_perform_27 rfl (lv_at hl 0 rfl) ?_
    obtain ⟨a9, hj, hf⟩ := zc_1 hf
    refine zj_join (pcJ := 35) (stk := []) (X := fun H locs ls => lv_has ls 4 [(3, .int v3)] ∧ va_P (dC, dI) zz_cls [zr_o ad (0 : Int32) f_taped f_at f_behind f_size f_kind f_number f_wrong f_wrongAt f_faultKind f_faultPlace f_reading v4 f_x f_standMany f_bestMany f_tail f_round1, (ad 2, .inl (dA 0, 2982, .inl a9)), (ad 17, .inl (dA 0, 900, .inl a6)), (ad 18, .inl (dA 0, 6, .inl a7)), (ad 19, .inl (dA 0, 5, .inl a2)), (ad 40, .inl (dA 0, 4, .inl b_rowSort)), (ad 41, .inl (dA 0, 4, .inl b_rowMany)), (ad 42, .inl (dA 1, 160, .inr (.inl b_numbers)))] H ∧ va_D A [zr_o ad (0 : Int32) f_taped f_at f_behind f_size f_kind f_number f_wrong f_wrongAt f_faultKind f_faultPlace f_reading v4 f_x f_standMany f_bestMany f_tail f_round1, (ad 2, .inl (dA 0, 2982, .inl a9)), (ad 17, .inl (dA 0, 900, .inl a6)), (ad 18, .inl (dA 0, 6, .inl a7)), (ad 19, .inl (dA 0, 5, .inl a2)), (ad 40, .inl (dA 0, 4, .inl b_rowSort)), (ad 41, .inl (dA 0, 4, .inl b_rowMany)), (ad 42, .inl (dA 1, 160, .inr (.inl b_numbers)))] ∧ va_S A s.heap H locs) (fun H locs ls hX => ?_) (fun J35 => ?_)
    · obtain ⟨hl, hP, hD, hS⟩ := hX
      clear hj
      refine lv_iload_n (pc := 35) hx hb dX11_perform_35 rfl (lv_at hl 0 rfl) ?_
      obtain ⟨rfl, rfl, rfl, rfl, rfl, rfl, rfl⟩ := zi_7 hf
      exact W.iret (pc := 36) hx hb hr (fun t ht hW => ⟨⟨_, (), rfl, rfl, zz_Bi (by rw [ht]; exact hP) (va_K.moved hW.alike hK) (hD)⟩, hS.F ht⟩) hS.2.2 dX11_perform_36
    · clear hf
      have hf := hj
      clear hj
      refine lv_if_le (tgt := 35) (pc := 28) hx hb dX11_perform_28 rfl (fun hc => ?_) (fun hc => ?_)
      · have hf := za_t hf hc
        obtain rfl := Option.some.inj hf
        exact J35 _ _ _ ⟨lv_sub hl [0] rfl, hP.sub [2, 3, 4, 5, 1, 0, 6, 7] rfl, hD.sub [2, 3, 4, 5, 1, 0, 6, 7] (by decide) rfl, hS⟩
      · have hf := za_f hf hc
        refine lv_aload_n (pc := 31) hx hb dX11_perform_31 rfl (lv_at hl 2 rfl) ?_
        obtain ⟨a8, ha8, hf⟩ := zc_1 hf
        refine zw_Vv (pc := 32) (wc := [zr_o ad (0 : Int32) f_taped f_at f_behind f_size f_kind f_number f_wrong f_wrongAt f_faultKind f_faultPlace f_reading v4 f_x f_standMany f_bestMany f_tail f_round1, (ad 2, .inl (dA 0, 2982, .inl a5)), (ad 19, .inl (dA 0, 5, .inl a2))]) (wr := [(ad 40, .inl (dA 0, 4, .inl b_rowSort)), (ad 17, .inl (dA 0, 900, .inl a6)), (ad 18, .inl (dA 0, 6, .inl a7)), (ad 41, .inl (dA 0, 4, .inl b_rowMany)), (ad 42, .inl (dA 1, 160, .inr (.inl b_numbers)))]) (w1 := [zr_o ad (0 : Int32) f_taped f_at f_behind f_size f_kind f_number f_wrong f_wrongAt f_faultKind f_faultPlace f_reading v4 f_x f_standMany f_bestMany f_tail f_round1, (ad 2, .inl (dA 0, 2982, .inl a8)), (ad 19, .inl (dA 0, 5, .inl a2))]) (As := []) (rest := []) ⟨hx, hb, hml, hown, ht⟩ (zt_X11_notes l dC dI dA ad _ n (0 : Int32) f_taped f_at f_behind f_size f_kind f_number f_wrong f_wrongAt f_faultKind f_faultPlace f_reading v4 f_x f_standMany f_bestMany f_tail f_round1 a5 a2 a8 ha8) (cwV 0 ht (zr_V zr_289 zr_290 zr_291 zr_36 zr_278) rfl rfl rfl zk_X11_notes ⟨Nat.le_of_ble_eq_true rfl, Nat.le_of_ble_eq_true rfl⟩) rfl rfl hK hP hD hS hA [2, 3, 1] [0, 4, 5, 6, 7] (by decide) (by decide) (by decide) rfl rfl rfl hl.1 (Nat.le_of_ble_eq_true rfl) dX11_perform_32 ⟨Nat.zero_le _, Nat.zero_le _⟩ rfl (fun H locs hP hD hS => ?_)
        have hP : va_P (dC, dI) zz_cls [(ad 40, .inl (dA 0, 4, .inl b_rowSort)), (ad 17, .inl (dA 0, 900, .inl a6)), (ad 18, .inl (dA 0, 6, .inl a7)), (ad 41, .inl (dA 0, 4, .inl b_rowMany)), (ad 42, .inl (dA 1, 160, .inr (.inl b_numbers))), zr_o ad (0 : Int32) f_taped f_at f_behind f_size f_kind f_number f_wrong f_wrongAt f_faultKind f_faultPlace f_reading v4 f_x f_standMany f_bestMany f_tail f_round1, (ad 2, .inl (dA 0, 2982, .inl a8)), (ad 19, .inl (dA 0, 5, .inl a2))] H := hP
        have hD : va_D A [(ad 40, .inl (dA 0, 4, .inl b_rowSort)), (ad 17, .inl (dA 0, 900, .inl a6)), (ad 18, .inl (dA 0, 6, .inl a7)), (ad 41, .inl (dA 0, 4, .inl b_rowMany)), (ad 42, .inl (dA 1, 160, .inr (.inl b_numbers))), zr_o ad (0 : Int32) f_taped f_at f_behind f_size f_kind f_number f_wrong f_wrongAt f_faultKind f_faultPlace f_reading v4 f_x f_standMany f_bestMany f_tail f_round1, (ad 2, .inl (dA 0, 2982, .inl a8)), (ad 19, .inl (dA 0, 5, .inl a2))] := hD
        obtain rfl := Option.some.inj hf
        exact J35 _ _ _ ⟨lv_sub hl [0] rfl, hP.sub [5, 6, 1, 2, 7, 0, 3, 4] rfl, hD.sub [5, 6, 1, 2, 7, 0, 3, 4] (by decide) rfl, hS⟩
  · have hf := za_f hf hc
    refine lv_iload_n (pc := 15) hx hb dX11_perform_15 rfl (lv_at hl 0 rfl) ?_
    obtain ⟨rfl, rfl, rfl, rfl, rfl, rfl, rfl⟩ := zi_7 hf
    exact W.iret (pc := 16) hx hb hr (fun t ht hW => ⟨⟨_, (), rfl, rfl, zz_Bi (by rw [ht]; exact hP.sub [6, 0, 1, 2, 3, 7, 4, 5] rfl) (va_K.moved hW.alike hK) (hD.sub [6, 0, 1, 2, 3, 7, 4, 5] (by decide) rfl)⟩, hS.F ht⟩) hS.2.2 dX11_perform_16

def zf_X11_draw (f_x : Int32) (p1 : Int32) : Option (Int32 × Int32) :=
  zd_1 (some ((((1103515245 : Int32) * f_x) + (12345 : Int32)))) (fun v1 =>
  zd_1 (some (((Int32.toUInt32 v1 >>> (Int32.toUInt32 (16 : Int32) &&& Int32.toUInt32 31)).toInt32))) (fun v2 =>
  zd_1 (za_nz p1) (fun v3 =>
  some ((za_rem v2 p1), v1))))
theorem zk_X11_draw : yX11_draw.cls = RX11 ∧ yX11_draw.cls ≠ "java/lang/invoke/MethodHandle" ∧ yX11_draw.cls ≠ "java/lang/invoke/VarHandle" ∧ (parseMethodDescriptor yX11_draw.desc).map (fun d => d.parameters.length) = some 1 := by decide +kernel
set_option maxHeartbeats 4000000 in
set_option maxRecDepth 100000 in
theorem zt_X11_draw (l : Launch) (dC : Nat → ClassId) (dI : Nat → Nat → Nat) (dA : Nat → ClassId) (ad : Nat → Nat) (sz : Nat) (f_thrown f_taped f_at f_behind f_size f_kind f_number f_wrong f_wrongAt f_faultKind f_faultPlace f_reading f_toldWhy f_x f_standMany f_bestMany f_tail f_round1 : Int32) (p1 : Int32) (r0 : Int32) (o1 : Int32) (hf : zf_X11_draw f_x p1 = some (r0, o1)) : Met l yX11_draw (.code yX11_draw cX11_draw 2 (some .int) :: zr_T) ({ frames := 0, cells := 0, slots := 0, locals := 0 }) (va_Pc [.ref (ad 0), .int p1] (zz_M dC dI dA [zr_o ad f_thrown f_taped f_at f_behind f_size f_kind f_number f_wrong f_wrongAt f_faultKind f_faultPlace f_reading f_toldWhy f_x f_standMany f_bestMany f_tail f_round1] sz)) (va_Qi (fun (r : Int32) (_ : Unit) => r = r0) (fun _ t => zz_B dC dI dA (va_A [zr_o ad f_thrown f_taped f_at f_behind f_size f_kind f_number f_wrong f_wrongAt f_faultKind f_faultPlace f_reading f_toldWhy f_x f_standMany f_bestMany f_tail f_round1] sz) [zr_o ad f_thrown f_taped f_at f_behind f_size f_kind f_number f_wrong f_wrongAt f_faultKind f_faultPlace f_reading f_toldWhy o1 f_standMany f_bestMany f_tail f_round1] t) (va_A [zr_o ad f_thrown f_taped f_at f_behind f_size f_kind f_number f_wrong f_wrongAt f_faultKind f_faultPlace f_reading f_toldWhy f_x f_standMany f_bestMany f_tail f_round1] sz)) 0 0 (va_A [zr_o ad f_thrown f_taped f_at f_behind f_size f_kind f_number f_wrong f_wrongAt f_faultKind f_faultPlace f_reading f_toldWhy f_x f_standMany f_bestMany f_tail f_round1] sz) := by
  unfold zf_X11_draw at hf
  refine Met.ofW (cc := cX11_draw) (maxL := 2) (ret := (some .int)) (by decide) rfl ?_
  intro p e s m args below meth c s₁ B hml hv
  obtain ⟨rfl, hsz, hP, hK, hD0⟩ := hv
  have hx := B.exec
  have hb := B.bytes
  have hr := B.returns
  have ht : ∀ w ∈ zr_T, w.before ([.ref (ad 0), .int p1] : List Value).toArray s = true := fun w hw => atoms_spec (ws := .code yX11_draw cX11_draw 2 (some .int) :: zr_T) B.pre w (List.mem_cons_of_mem _ hw)
  have hown : s.vm.findClass RX11 = some m.cls := findClass_of_methodNamed B.named
  have hlocks := B.notSynchronized
  subst hsz
  have hD := hD0.self (sz := s.heap.size)
  generalize hAe : va_A [zr_o ad f_thrown f_taped f_at f_behind f_size f_kind f_number f_wrong f_wrongAt f_faultKind f_faultPlace f_reading f_toldWhy f_x f_standMany f_bestMany f_tail f_round1] s.heap.size = A at hD ⊢
  have hA : ∀ q : Nat, s.heap.size ≤ q → A q := fun q h => by rw [← hAe]; exact Or.inr h
  clear hAe hD0
  have hS : va_S A s.heap s.heap [] := va_S.rf
  have hl := lv_entry ([.ref (ad 0), .int p1]) (n := 2) (Nat.le_of_ble_eq_true rfl)
  rw [lg_entry_eq]
  generalize (lg_sl ([.ref (ad 0), .int p1]) ++ List.replicate (2 - (lg_sl ([.ref (ad 0), .int p1])).length) Slot.unset).toArray = ls at hl ⊢
  have hl : lv_has ls 2 [(0, .ref (ad 0)), (1, .int p1)] := hl
  refine lv_aload_n (pc := 0) hx hb dX11_draw_0 rfl (lv_at hl 0 rfl) ?_
  refine lv_ldcw (v := (1103515245 : Int32)) (pc := 1) hx hb hown (ht _ zr_328) dX11_draw_1 ?_
  refine lv_aload_n (pc := 4) hx hb dX11_draw_4 rfl (lv_at hl 0 rfl) ?_
  refine va_get (pc := 5) (D := (dC, dI)) (ci := 0) (v := .int f_x) (C := RX11) (T := TX11) (N := 42) hx hb ht zr_lay hown hK hP 0 rfl rfl 20 (by decide) (ht _ zr_329) (fun _ h9 => h9) rfl dX11_draw_5 ?_
  refine lv_imul (pc := 8) hx hb dX11_draw_8 ?_
  refine lv_sipush (v := (12345 : Int32)) (pc := 9) hx hb dX11_draw_9 (by decide) ?_
  refine lv_iadd (pc := 12) hx hb dX11_draw_12 ?_
  obtain ⟨v1, hv1, hf⟩ := zc_1 hf
  refine zw_top (hv1) ?_
  refine va_put (pc := 13) (D := (dC, dI)) (ci := 0) (v := .int v1) (ty := .int) (C := RX11) (T := TX11) (N := 42) hx hb ht zr_lay tyX11 tyX11_ok nmX11 hown hK hP hD hS 0 rfl rfl 20 (by decide) (ht _ zr_329) (fun _ h9 => h9) rfl (by decide +kernel) rfl rfl (Nat.le_of_ble_eq_true rfl) dX11_draw_13 (fun H locs hP hD hS => ?_)
  have hP : va_P (dC, dI) zz_cls [zr_o ad f_thrown f_taped f_at f_behind f_size f_kind f_number f_wrong f_wrongAt f_faultKind f_faultPlace f_reading f_toldWhy v1 f_standMany f_bestMany f_tail f_round1] H := hP
  have hD : va_D A [zr_o ad f_thrown f_taped f_at f_behind f_size f_kind f_number f_wrong f_wrongAt f_faultKind f_faultPlace f_reading f_toldWhy v1 f_standMany f_bestMany f_tail f_round1] := hD
  refine lv_aload_n (pc := 16) hx hb dX11_draw_16 rfl (lv_at hl 0 rfl) ?_
  refine va_get (pc := 17) (D := (dC, dI)) (ci := 0) (v := .int v1) (C := RX11) (T := TX11) (N := 42) hx hb ht zr_lay hown hK hP 0 rfl rfl 20 (by decide) (ht _ zr_329) (fun _ h9 => h9) rfl dX11_draw_17 ?_
  refine lv_bipush (v := (16 : Int32)) (pc := 20) hx hb dX11_draw_20 (by decide) ?_
  refine lv_iushr (pc := 22) hx hb dX11_draw_22 rfl ?_
  obtain ⟨v2, hv2, hf⟩ := zc_1 hf
  refine zw_top (hv2) ?_
  refine lv_iload_n (pc := 23) hx hb dX11_draw_23 rfl (lv_at hl 1 rfl) ?_
  obtain ⟨v3, hv3, hf⟩ := zc_1 hf
  refine lv_irem (pc := 24) hx hb dX11_draw_24 (za_nzs hv3).2 ?_
  obtain ⟨rfl, rfl⟩ := zi_2 hf
  exact W.iret (pc := 25) hx hb hr (fun t ht hW => ⟨⟨_, (), rfl, rfl, zz_Bi (by rw [ht]; exact hP) (va_K.moved hW.alike hK) (hD)⟩, hS.F ht⟩) hS.2.2 dX11_draw_25

def zf_X11_drawn (f_x : Int32) : Option (Int32 × Int32) :=
  zd_2 (zf_X11_draw f_x (8 : Int32)) (fun v1 v2 =>
  if v1 = 0 then
    some ((0 : Int32), v2)
  else
    if (4 : Int32) ≤ v1 then
      if v1 = (4 : Int32) then
        some ((2 : Int32), v2)
      else
        if v1 = (5 : Int32) then
          zd_2 (zf_X11_draw v2 (6 : Int32)) (fun v3 v4 =>
          some (((10 : Int32) + v3), v4))
        else
          zd_2 (zf_X11_draw v2 (6 : Int32)) (fun v5 v6 =>
          some (((20 : Int32) + v5), v6))
    else
      some ((1 : Int32), v2))
theorem zk_X11_drawn : yX11_drawn.cls = RX11 ∧ yX11_drawn.cls ≠ "java/lang/invoke/MethodHandle" ∧ yX11_drawn.cls ≠ "java/lang/invoke/VarHandle" ∧ (parseMethodDescriptor yX11_drawn.desc).map (fun d => d.parameters.length) = some 0 := by decide +kernel
set_option maxHeartbeats 4000000 in
set_option maxRecDepth 100000 in
theorem zt_X11_drawn (l : Launch) (dC : Nat → ClassId) (dI : Nat → Nat → Nat) (dA : Nat → ClassId) (ad : Nat → Nat) (sz : Nat) (f_thrown f_taped f_at f_behind f_size f_kind f_number f_wrong f_wrongAt f_faultKind f_faultPlace f_reading f_toldWhy f_x f_standMany f_bestMany f_tail f_round1 : Int32) (r0 : Int32) (o1 : Int32) (hf : zf_X11_drawn f_x = some (r0, o1)) : Met l yX11_drawn (.code yX11_drawn cX11_drawn 2 (some .int) :: zr_T) ({ frames := 1, cells := 0, slots := 0, locals := 21 }) (va_Pc [.ref (ad 0)] (zz_M dC dI dA [zr_o ad f_thrown f_taped f_at f_behind f_size f_kind f_number f_wrong f_wrongAt f_faultKind f_faultPlace f_reading f_toldWhy f_x f_standMany f_bestMany f_tail f_round1] sz)) (va_Qi (fun (r : Int32) (_ : Unit) => r = r0) (fun _ t => zz_B dC dI dA (va_A [zr_o ad f_thrown f_taped f_at f_behind f_size f_kind f_number f_wrong f_wrongAt f_faultKind f_faultPlace f_reading f_toldWhy f_x f_standMany f_bestMany f_tail f_round1] sz) [zr_o ad f_thrown f_taped f_at f_behind f_size f_kind f_number f_wrong f_wrongAt f_faultKind f_faultPlace f_reading f_toldWhy o1 f_standMany f_bestMany f_tail f_round1] t) (va_A [zr_o ad f_thrown f_taped f_at f_behind f_size f_kind f_number f_wrong f_wrongAt f_faultKind f_faultPlace f_reading f_toldWhy f_x f_standMany f_bestMany f_tail f_round1] sz)) 0 0 (va_A [zr_o ad f_thrown f_taped f_at f_behind f_size f_kind f_number f_wrong f_wrongAt f_faultKind f_faultPlace f_reading f_toldWhy f_x f_standMany f_bestMany f_tail f_round1] sz) := by
  unfold zf_X11_drawn at hf
  refine Met.ofW (cc := cX11_drawn) (maxL := 2) (ret := (some .int)) (by decide) rfl ?_
  intro p e s m args below meth c s₁ B hml hv
  obtain ⟨rfl, hsz, hP, hK, hD0⟩ := hv
  have hx := B.exec
  have hb := B.bytes
  have hr := B.returns
  have ht : ∀ w ∈ zr_T, w.before ([.ref (ad 0)] : List Value).toArray s = true := fun w hw => atoms_spec (ws := .code yX11_drawn cX11_drawn 2 (some .int) :: zr_T) B.pre w (List.mem_cons_of_mem _ hw)
  have hown : s.vm.findClass RX11 = some m.cls := findClass_of_methodNamed B.named
  have hlocks := B.notSynchronized
  subst hsz
  have hD := hD0.self (sz := s.heap.size)
  generalize hAe : va_A [zr_o ad f_thrown f_taped f_at f_behind f_size f_kind f_number f_wrong f_wrongAt f_faultKind f_faultPlace f_reading f_toldWhy f_x f_standMany f_bestMany f_tail f_round1] s.heap.size = A at hD ⊢
  have hA : ∀ q : Nat, s.heap.size ≤ q → A q := fun q h => by rw [← hAe]; exact Or.inr h
  clear hAe hD0
  have hS : va_S A s.heap s.heap [] := va_S.rf
  have hl := lv_entry ([.ref (ad 0)]) (n := 2) (Nat.le_of_ble_eq_true rfl)
  rw [lg_entry_eq]
  generalize (lg_sl ([.ref (ad 0)]) ++ List.replicate (2 - (lg_sl ([.ref (ad 0)])).length) Slot.unset).toArray = ls at hl ⊢
  have hl : lv_has ls 2 [(0, .ref (ad 0))] := hl
  refine lv_aload_n (pc := 0) hx hb dX11_drawn_0 rfl (lv_at hl 0 rfl) ?_
  refine lv_bipush (v := (8 : Int32)) (pc := 1) hx hb dX11_drawn_1 (by decide) ?_
  obtain ⟨v1, v2, hv1, hf⟩ := zc_2 hf
  refine zw_Vi (pc := 3) (wc := [zr_o ad f_thrown f_taped f_at f_behind f_size f_kind f_number f_wrong f_wrongAt f_faultKind f_faultPlace f_reading f_toldWhy f_x f_standMany f_bestMany f_tail f_round1]) (wr := []) (w1 := [zr_o ad f_thrown f_taped f_at f_behind f_size f_kind f_number f_wrong f_wrongAt f_faultKind f_faultPlace f_reading f_toldWhy v2 f_standMany f_bestMany f_tail f_round1]) (As := [.int (8 : Int32)]) (rest := []) ⟨hx, hb, hml, hown, ht⟩ (zt_X11_draw l dC dI dA ad _ f_thrown f_taped f_at f_behind f_size f_kind f_number f_wrong f_wrongAt f_faultKind f_faultPlace f_reading f_toldWhy f_x f_standMany f_bestMany f_tail f_round1 (8 : Int32) v1 v2 hv1) (cwV 1 ht (zr_V zr_331 zr_332 zr_333 zr_36 zr_327) rfl rfl rfl zk_X11_draw ⟨Nat.le_of_ble_eq_true rfl, Nat.le_of_ble_eq_true rfl⟩) rfl rfl hK hP hD hS hA [0] [] (by decide) (by decide) (by decide) rfl rfl rfl hl.1 (Nat.le_of_ble_eq_true rfl) dX11_drawn_3 ⟨Nat.zero_le _, Nat.zero_le _⟩ rfl (fun H locs hP hD hS => ?_)
  have hP : va_P (dC, dI) zz_cls [zr_o ad f_thrown f_taped f_at f_behind f_size f_kind f_number f_wrong f_wrongAt f_faultKind f_faultPlace f_reading f_toldWhy v2 f_standMany f_bestMany f_tail f_round1] H := hP
  have hD : va_D A [zr_o ad f_thrown f_taped f_at f_behind f_size f_kind f_number f_wrong f_wrongAt f_faultKind f_faultPlace f_reading f_toldWhy v2 f_standMany f_bestMany f_tail f_round1] := hD
  refine lv_istore_n (lv' := [(1, .int v1), (0, .ref (ad 0))]) (pc := 6) hx hb dX11_drawn_6 rfl hl (by decide) rfl (fun ls hl => ?_)
  refine lv_iload_n (pc := 7) hx hb dX11_drawn_7 rfl (lv_at hl 0 rfl) ?_
  refine lv_if_ne (tgt := 15) (pc := 8) hx hb dX11_drawn_8 rfl (fun hc => ?_) (fun hc => ?_)
  · have hf := za_f hf hc
    refine lv_iload_n (pc := 15) hx hb dX11_drawn_15 rfl (lv_at hl 0 rfl) ?_
    refine lv_iconst (v := (4 : Int32)) (pc := 16) hx hb dX11_drawn_16 (by decide) ?_
    refine lv_icmp_ge (tgt := 24) (pc := 17) hx hb dX11_drawn_17 rfl (fun hc => ?_) (fun hc => ?_)
    · have hf := za_t hf hc
      refine lv_iload_n (pc := 24) hx hb dX11_drawn_24 rfl (lv_at hl 0 rfl) ?_
      refine lv_iconst (v := (4 : Int32)) (pc := 25) hx hb dX11_drawn_25 (by decide) ?_
      refine lv_icmp_ne (tgt := 33) (pc := 26) hx hb dX11_drawn_26 rfl (fun hc => ?_) (fun hc => ?_)
      · have hf := za_f hf hc
        refine lv_iload_n (pc := 33) hx hb dX11_drawn_33 rfl (lv_at hl 0 rfl) ?_
        refine lv_iconst (v := (5 : Int32)) (pc := 34) hx hb dX11_drawn_34 (by decide) ?_
        refine lv_icmp_ne (tgt := 50) (pc := 35) hx hb dX11_drawn_35 rfl (fun hc => ?_) (fun hc => ?_)
        · have hf := za_f hf hc
          refine lv_bipush (v := (20 : Int32)) (pc := 50) hx hb dX11_drawn_50 (by decide) ?_
          refine lv_aload_n (pc := 52) hx hb dX11_drawn_52 rfl (lv_at hl 1 rfl) ?_
          refine lv_bipush (v := (6 : Int32)) (pc := 53) hx hb dX11_drawn_53 (by decide) ?_
          obtain ⟨v5, v6, hv5, hf⟩ := zc_2 hf
          refine zw_Vi (pc := 55) (wc := [zr_o ad f_thrown f_taped f_at f_behind f_size f_kind f_number f_wrong f_wrongAt f_faultKind f_faultPlace f_reading f_toldWhy v2 f_standMany f_bestMany f_tail f_round1]) (wr := []) (w1 := [zr_o ad f_thrown f_taped f_at f_behind f_size f_kind f_number f_wrong f_wrongAt f_faultKind f_faultPlace f_reading f_toldWhy v6 f_standMany f_bestMany f_tail f_round1]) (As := [.int (6 : Int32)]) (rest := [.int (20 : Int32)]) ⟨hx, hb, hml, hown, ht⟩ (zt_X11_draw l dC dI dA ad _ f_thrown f_taped f_at f_behind f_size f_kind f_number f_wrong f_wrongAt f_faultKind f_faultPlace f_reading f_toldWhy v2 f_standMany f_bestMany f_tail f_round1 (6 : Int32) v5 v6 hv5) (cwV 1 ht (zr_V zr_331 zr_332 zr_333 zr_36 zr_327) rfl rfl rfl zk_X11_draw ⟨Nat.le_of_ble_eq_true rfl, Nat.le_of_ble_eq_true rfl⟩) rfl rfl hK hP hD hS hA [0] [] (by decide) (by decide) (by decide) rfl rfl rfl hl.1 (Nat.le_of_ble_eq_true rfl) dX11_drawn_55 ⟨Nat.zero_le _, Nat.zero_le _⟩ rfl (fun H locs hP hD hS => ?_)
          have hP : va_P (dC, dI) zz_cls [zr_o ad f_thrown f_taped f_at f_behind f_size f_kind f_number f_wrong f_wrongAt f_faultKind f_faultPlace f_reading f_toldWhy v6 f_standMany f_bestMany f_tail f_round1] H := hP
          have hD : va_D A [zr_o ad f_thrown f_taped f_at f_behind f_size f_kind f_number f_wrong f_wrongAt f_faultKind f_faultPlace f_reading f_toldWhy v6 f_standMany f_bestMany f_tail f_round1] := hD
          refine lv_iadd (pc := 58) hx hb dX11_drawn_58 ?_
          obtain ⟨rfl, rfl⟩ := zi_2 hf
          exact W.iret (pc := 59) hx hb hr (fun t ht hW => ⟨⟨_, (), rfl, rfl, zz_Bi (by rw [ht]; exact hP) (va_K.moved hW.alike hK) (hD)⟩, hS.F ht⟩) hS.2.2 dX11_drawn_59
        · have hf := za_t hf hc
          refine lv_bipush (v := (10 : Int32)) (pc := 38) hx hb dX11_drawn_38 (by decide) ?_
          refine lv_aload_n (pc := 40) hx hb dX11_drawn_40 rfl (lv_at hl 1 rfl) ?_
          refine lv_bipush (v := (6 : Int32)) (pc := 41) hx hb dX11_drawn_41 (by decide) ?_
          obtain ⟨v3, v4, hv3, hf⟩ := zc_2 hf
          refine zw_Vi (pc := 43) (wc := [zr_o ad f_thrown f_taped f_at f_behind f_size f_kind f_number f_wrong f_wrongAt f_faultKind f_faultPlace f_reading f_toldWhy v2 f_standMany f_bestMany f_tail f_round1]) (wr := []) (w1 := [zr_o ad f_thrown f_taped f_at f_behind f_size f_kind f_number f_wrong f_wrongAt f_faultKind f_faultPlace f_reading f_toldWhy v4 f_standMany f_bestMany f_tail f_round1]) (As := [.int (6 : Int32)]) (rest := [.int (10 : Int32)]) ⟨hx, hb, hml, hown, ht⟩ (zt_X11_draw l dC dI dA ad _ f_thrown f_taped f_at f_behind f_size f_kind f_number f_wrong f_wrongAt f_faultKind f_faultPlace f_reading f_toldWhy v2 f_standMany f_bestMany f_tail f_round1 (6 : Int32) v3 v4 hv3) (cwV 1 ht (zr_V zr_331 zr_332 zr_333 zr_36 zr_327) rfl rfl rfl zk_X11_draw ⟨Nat.le_of_ble_eq_true rfl, Nat.le_of_ble_eq_true rfl⟩) rfl rfl hK hP hD hS hA [0] [] (by decide) (by decide) (by decide) rfl rfl rfl hl.1 (Nat.le_of_ble_eq_true rfl) dX11_drawn_43 ⟨Nat.zero_le _, Nat.zero_le _⟩ rfl (fun H locs hP hD hS => ?_)
          have hP : va_P (dC, dI) zz_cls [zr_o ad f_thrown f_taped f_at f_behind f_size f_kind f_number f_wrong f_wrongAt f_faultKind f_faultPlace f_reading f_toldWhy v4 f_standMany f_bestMany f_tail f_round1] H := hP
          have hD : va_D A [zr_o ad f_thrown f_taped f_at f_behind f_size f_kind f_number f_wrong f_wrongAt f_faultKind f_faultPlace f_reading f_toldWhy v4 f_standMany f_bestMany f_tail f_round1] := hD
          refine lv_iadd (pc := 46) hx hb dX11_drawn_46 ?_
          refine lv_goto (tgt := 59) (pc := 47) hx hb dX11_drawn_47 rfl ?_
          obtain ⟨rfl, rfl⟩ := zi_2 hf
          exact W.iret (pc := 59) hx hb hr (fun t ht hW => ⟨⟨_, (), rfl, rfl, zz_Bi (by rw [ht]; exact hP) (va_K.moved hW.alike hK) (hD)⟩, hS.F ht⟩) hS.2.2 dX11_drawn_59
      · have hf := za_t hf hc
        refine lv_iconst (v := (2 : Int32)) (pc := 29) hx hb dX11_drawn_29 (by decide) ?_
        refine lv_goto (tgt := 59) (pc := 30) hx hb dX11_drawn_30 rfl ?_
        obtain ⟨rfl, rfl⟩ := zi_2 hf
        exact W.iret (pc := 59) hx hb hr (fun t ht hW => ⟨⟨_, (), rfl, rfl, zz_Bi (by rw [ht]; exact hP) (va_K.moved hW.alike hK) (hD)⟩, hS.F ht⟩) hS.2.2 dX11_drawn_59
    · have hf := za_f hf hc
      refine lv_iconst (v := (1 : Int32)) (pc := 20) hx hb dX11_drawn_20 (by decide) ?_
      refine lv_goto (tgt := 59) (pc := 21) hx hb dX11_drawn_21 rfl ?_
      obtain ⟨rfl, rfl⟩ := zi_2 hf
      exact W.iret (pc := 59) hx hb hr (fun t ht hW => ⟨⟨_, (), rfl, rfl, zz_Bi (by rw [ht]; exact hP) (va_K.moved hW.alike hK) (hD)⟩, hS.F ht⟩) hS.2.2 dX11_drawn_59
  · have hf := za_t hf hc
    refine lv_iconst (v := (0 : Int32)) (pc := 11) hx hb dX11_drawn_11 (by decide) ?_
    refine lv_goto (tgt := 59) (pc := 12) hx hb dX11_drawn_12 rfl ?_
    obtain ⟨rfl, rfl⟩ := zi_2 hf
    exact W.iret (pc := 59) hx hb hr (fun t ht hW => ⟨⟨_, (), rfl, rfl, zz_Bi (by rw [ht]; exact hP) (va_K.moved hW.alike hK) (hD)⟩, hS.F ht⟩) hS.2.2 dX11_drawn_59

def zb_X11_year_34 (p2 : Int32) (n : Nat) (v3 : Int32) (v4 : Int32) (v5 : Int32) (a6 : (Nat → Int32)) (a7 : (Nat → Int32)) (a8 : (Nat → Int32)) : Option (Nat × Int32 × Int32 × Int32 × (Nat → Int32) × (Nat → Int32) × (Nat → Int32)) :=
  if p2 ≤ v4 then
    some (1, v3, v4, v5, a6, a7, a8)
  else
    zd_2 (zf_X11_drawn v5) (fun v9 v10 =>
    zd_3 (zf_X11_whyNot n a6 a7 a8 (Int32.toInt64 v9)) (fun v11 a12 a13 =>
    zd_4 (
      if v11 = 0 then
        zd_3 (zf_X11_does n a6 a12 a13 v9) (fun a14 a15 a16 =>
        zd_1 (some (v3 + (1 : Int32))) (fun v17 =>
        some (v17, a14, a15, a16)))
      else
        some (v3, a6, a12, a13)) (fun v18 a19 a20 a21 =>
    zd_1 (some (v4 + (1 : Int32))) (fun v22 =>
    some (0, v18, v22, v10, a19, a20, a21)))))
def zf_X11_year (n : Nat) (f_thrown : Int32) (f_x : Int32) (b_all : (Nat → Int32)) (b_reckoned : (Nat → Int32)) (b_words : (Nat → Int32)) (b_was : (Nat → Int32)) (p1 : Int32) (p2 : Int32) : Option (Int32 × Int32 × Int32 × (Nat → Int32) × (Nat → Int32) × (Nat → Int32) × (Nat → Int32)) :=
  zd_1 (zf_X11_within (Int32.toInt64 p2) (1 : Int64) (40 : Int64)) (fun v1 =>
  if v1 = 0 then
    some ((-3 : Int32), (0 : Int32), f_x, b_all, b_reckoned, b_words, b_was)
  else
    zd_1 (zf_X11_keeps n b_all b_was) (fun a2 =>
    zd_7 (za_it (fun v => zb_X11_year_34 p2 n v.1 v.2.1 v.2.2.1 v.2.2.2.1 v.2.2.2.2.1 v.2.2.2.2.2) n ((0 : Int32), (0 : Int32), p1, b_all, b_reckoned, b_words)) (fun g29 v23 v24 v25 a26 a27 a28 =>
    zd_1 (
      if v23 ≤ 0 then
        some a26
      else
        zd_1 (zf_X11_notes n a26 a2) (fun a30 =>
        some a30)) (fun a31 =>
    some (v23, (0 : Int32), v25, a31, a27, a28, a2)))))
theorem zk_X11_year : yX11_year.cls = RX11 ∧ yX11_year.cls ≠ "java/lang/invoke/MethodHandle" ∧ yX11_year.cls ≠ "java/lang/invoke/VarHandle" ∧ (parseMethodDescriptor yX11_year.desc).map (fun d => d.parameters.length) = some 2 := by decide +kernel
set_option maxHeartbeats 4000000 in
set_option maxRecDepth 100000 in
theorem zt_X11_year (l : Launch) (dC : Nat → ClassId) (dI : Nat → Nat → Nat) (dA : Nat → ClassId) (ad : Nat → Nat) (sz : Nat) (n : Nat) (f_thrown f_taped f_at f_behind f_size f_kind f_number f_wrong f_wrongAt f_faultKind f_faultPlace f_reading f_toldWhy f_x f_standMany f_bestMany f_tail f_round1 : Int32) (b_all : (Nat → Int32)) (b_reckoned : (Nat → Int32)) (b_words : (Nat → Int32)) (b_was : (Nat → Int32)) (p1 : Int32) (p2 : Int32) (r0 : Int32) (o1 : Int32) (o2 : Int32) (o3 : (Nat → Int32)) (o4 : (Nat → Int32)) (o5 : (Nat → Int32)) (o6 : (Nat → Int32)) (hf : zf_X11_year n f_thrown f_x b_all b_reckoned b_words b_was p1 p2 = some (r0, o1, o2, o3, o4, o5, o6)) : Met l yX11_year (.code yX11_year cX11_year 6 (some .int) :: zr_T) ({ frames := 6, cells := 0, slots := 0, locals := 141 }) (va_Pc [.ref (ad 0), .int p1, .int p2] (zz_M dC dI dA [zr_o ad f_thrown f_taped f_at f_behind f_size f_kind f_number f_wrong f_wrongAt f_faultKind f_faultPlace f_reading f_toldWhy f_x f_standMany f_bestMany f_tail f_round1, (ad 2, .inl (dA 0, 2982, .inl b_all)), (ad 17, .inl (dA 0, 900, .inl b_reckoned)), (ad 18, .inl (dA 0, 6, .inl b_words)), (ad 19, .inl (dA 0, 5, .inl b_was))] sz)) (va_Qi (fun (r : Int32) (_ : Unit) => r = r0) (fun _ t => zz_B dC dI dA (va_A [zr_o ad f_thrown f_taped f_at f_behind f_size f_kind f_number f_wrong f_wrongAt f_faultKind f_faultPlace f_reading f_toldWhy f_x f_standMany f_bestMany f_tail f_round1, (ad 2, .inl (dA 0, 2982, .inl b_all)), (ad 17, .inl (dA 0, 900, .inl b_reckoned)), (ad 18, .inl (dA 0, 6, .inl b_words)), (ad 19, .inl (dA 0, 5, .inl b_was))] sz) [zr_o ad o1 f_taped f_at f_behind f_size f_kind f_number f_wrong f_wrongAt f_faultKind f_faultPlace f_reading f_toldWhy o2 f_standMany f_bestMany f_tail f_round1, (ad 2, .inl (dA 0, 2982, .inl o3)), (ad 17, .inl (dA 0, 900, .inl o4)), (ad 18, .inl (dA 0, 6, .inl o5)), (ad 19, .inl (dA 0, 5, .inl o6))] t) (va_A [zr_o ad f_thrown f_taped f_at f_behind f_size f_kind f_number f_wrong f_wrongAt f_faultKind f_faultPlace f_reading f_toldWhy f_x f_standMany f_bestMany f_tail f_round1, (ad 2, .inl (dA 0, 2982, .inl b_all)), (ad 17, .inl (dA 0, 900, .inl b_reckoned)), (ad 18, .inl (dA 0, 6, .inl b_words)), (ad 19, .inl (dA 0, 5, .inl b_was))] sz)) 0 0 (va_A [zr_o ad f_thrown f_taped f_at f_behind f_size f_kind f_number f_wrong f_wrongAt f_faultKind f_faultPlace f_reading f_toldWhy f_x f_standMany f_bestMany f_tail f_round1, (ad 2, .inl (dA 0, 2982, .inl b_all)), (ad 17, .inl (dA 0, 900, .inl b_reckoned)), (ad 18, .inl (dA 0, 6, .inl b_words)), (ad 19, .inl (dA 0, 5, .inl b_was))] sz) := by
  unfold zf_X11_year at hf
  refine Met.ofW (cc := cX11_year) (maxL := 6) (ret := (some .int)) (by decide) rfl ?_
  intro p e s m args below meth c s₁ B hml hv
  obtain ⟨rfl, hsz, hP, hK, hD0⟩ := hv
  have hx := B.exec
  have hb := B.bytes
  have hr := B.returns
  have ht : ∀ w ∈ zr_T, w.before ([.ref (ad 0), .int p1, .int p2] : List Value).toArray s = true := fun w hw => atoms_spec (ws := .code yX11_year cX11_year 6 (some .int) :: zr_T) B.pre w (List.mem_cons_of_mem _ hw)
  have hown : s.vm.findClass RX11 = some m.cls := findClass_of_methodNamed B.named
  have hlocks := B.notSynchronized
  subst hsz
  have hD := hD0.self (sz := s.heap.size)
  generalize hAe : va_A [zr_o ad f_thrown f_taped f_at f_behind f_size f_kind f_number f_wrong f_wrongAt f_faultKind f_faultPlace f_reading f_toldWhy f_x f_standMany f_bestMany f_tail f_round1, (ad 2, .inl (dA 0, 2982, .inl b_all)), (ad 17, .inl (dA 0, 900, .inl b_reckoned)), (ad 18, .inl (dA 0, 6, .inl b_words)), (ad 19, .inl (dA 0, 5, .inl b_was))] s.heap.size = A at hD ⊢
  have hA : ∀ q : Nat, s.heap.size ≤ q → A q := fun q h => by rw [← hAe]; exact Or.inr h
  clear hAe hD0
  have hS : va_S A s.heap s.heap [] := va_S.rf
  have hl := lv_entry ([.ref (ad 0), .int p1, .int p2]) (n := 6) (Nat.le_of_ble_eq_true rfl)
  rw [lg_entry_eq]
  generalize (lg_sl ([.ref (ad 0), .int p1, .int p2]) ++ List.replicate (6 - (lg_sl ([.ref (ad 0), .int p1, .int p2])).length) Slot.unset).toArray = ls at hl ⊢
  have hl : lv_has ls 6 [(0, .ref (ad 0)), (1, .int p1), (2, .int p2)] := hl
  refine lv_aload_n (pc := 0) hx hb dX11_year_0 rfl (lv_at hl 0 rfl) ?_
  refine lv_iconst (v := (0 : Int32)) (pc := 1) hx hb dX11_year_1 (by decide) ?_
  refine va_put (pc := 2) (D := (dC, dI)) (ci := 0) (v := .int (0 : Int32)) (ty := .int) (C := RX11) (T := TX11) (N := 42) hx hb ht zr_lay tyX11 tyX11_ok nmX11 hown hK hP hD hS 0 rfl rfl 0 (by decide) (ht _ zr_39) (fun _ h9 => h9) rfl (by decide +kernel) rfl rfl (Nat.le_of_ble_eq_true rfl) dX11_year_2 (fun H locs hP hD hS => ?_)
  have hP : va_P (dC, dI) zz_cls [zr_o ad (0 : Int32) f_taped f_at f_behind f_size f_kind f_number f_wrong f_wrongAt f_faultKind f_faultPlace f_reading f_toldWhy f_x f_standMany f_bestMany f_tail f_round1, (ad 2, .inl (dA 0, 2982, .inl b_all)), (ad 17, .inl (dA 0, 900, .inl b_reckoned)), (ad 18, .inl (dA 0, 6, .inl b_words)), (ad 19, .inl (dA 0, 5, .inl b_was))] H := hP
  have hD : va_D A [zr_o ad (0 : Int32) f_taped f_at f_behind f_size f_kind f_number f_wrong f_wrongAt f_faultKind f_faultPlace f_reading f_toldWhy f_x f_standMany f_bestMany f_tail f_round1, (ad 2, .inl (dA 0, 2982, .inl b_all)), (ad 17, .inl (dA 0, 900, .inl b_reckoned)), (ad 18, .inl (dA 0, 6, .inl b_words)), (ad 19, .inl (dA 0, 5, .inl b_was))] := hD
  refine lv_iload_n (pc := 5) hx hb dX11_year_5 rfl (lv_at hl 2 rfl) ?_
  refine lv_i2l (pc := 6) hx hb dX11_year_6 rfl ?_
  refine lv_lconst (v := (1 : Int64)) (pc := 7) hx hb dX11_year_7 (by decide) ?_
  refine lv_ldc2 (v := (40 : Int64)) (pc := 8) hx hb hown (ht _ zr_334) dX11_year_8 ?_
  obtain ⟨v1, hv1, hf⟩ := zc_1 hf
  refine zw_Si (pc := 11) (wc := []) (wr := [zr_o ad (0 : Int32) f_taped f_at f_behind f_size f_kind f_number f_wrong f_wrongAt f_faultKind f_faultPlace f_reading f_toldWhy f_x f_standMany f_bestMany f_tail f_round1, (ad 2, .inl (dA 0, 2982, .inl b_all)), (ad 17, .inl (dA 0, 900, .inl b_reckoned)), (ad 18, .inl (dA 0, 6, .inl b_words)), (ad 19, .inl (dA 0, 5, .inl b_was))]) (w1 := []) (As := [.long (Int32.toInt64 p2), .long (1 : Int64), .long (40 : Int64)]) (rest := []) ⟨hx, hb, hml, hown, ht⟩ (zt_X11_within l dC dI dA ad _ (Int32.toInt64 p2) (1 : Int64) (40 : Int64) v1 hv1) (cwS 3 ht (zr_S zr_124 zr_125 zr_36 zr_0) rfl rfl rfl zk_X11_within ⟨Nat.le_of_ble_eq_true rfl, Nat.le_of_ble_eq_true rfl⟩) hK hP hD hS hA [] [0, 1, 2, 3, 4] (by decide) (by decide) (by decide) rfl rfl rfl hl.1 (Nat.le_of_ble_eq_true rfl) dX11_year_11 ⟨Nat.zero_le _, Nat.zero_le _⟩ rfl (fun H locs hP hD hS => ?_)
  have hP : va_P (dC, dI) zz_cls [zr_o ad (0 : Int32) f_taped f_at f_behind f_size f_kind f_number f_wrong f_wrongAt f_faultKind f_faultPlace f_reading f_toldWhy f_x f_standMany f_bestMany f_tail f_round1, (ad 2, .inl (dA 0, 2982, .inl b_all)), (ad 17, .inl (dA 0, 900, .inl b_reckoned)), (ad 18, .inl (dA 0, 6, .inl b_words)), (ad 19, .inl (dA 0, 5, .inl b_was))] H := hP
  have hD : va_D A [zr_o ad (0 : Int32) f_taped f_at f_behind f_size f_kind f_number f_wrong f_wrongAt f_faultKind f_faultPlace f_reading f_toldWhy f_x f_standMany f_bestMany f_tail f_round1, (ad 2, .inl (dA 0, 2982, .inl b_all)), (ad 17, .inl (dA 0, 900, .inl b_reckoned)), (ad 18, .inl (dA 0, 6, .inl b_words)), (ad 19, .inl (dA 0, 5, .inl b_was))] := hD
  refine lv_if_ne (tgt := 20) (pc := 14) hx hb dX11_year_14 rfl (fun hc => ?_) (fun hc => ?_)
  · have hf := za_f hf hc
    refine lv_aload_n (pc := 20) hx hb dX11_year_20 rfl (lv_at hl 0 rfl) ?_
    obtain ⟨a2, ha2, hf⟩ := zc_1 hf
    refine zw_Vv (pc := 21) (wc := [zr_o ad (0 : Int32) f_taped f_at f_behind f_size f_kind f_number f_wrong f_wrongAt f_faultKind f_faultPlace f_reading f_toldWhy f_x f_standMany f_bestMany f_tail f_round1, (ad 2, .inl (dA 0, 2982, .inl b_all)), (ad 19, .inl (dA 0, 5, .inl b_was))]) (wr := [(ad 17, .inl (dA 0, 900, .inl b_reckoned)), (ad 18, .inl (dA 0, 6, .inl b_words))]) (w1 := [zr_o ad (0 : Int32) f_taped f_at f_behind f_size f_kind f_number f_wrong f_wrongAt f_faultKind f_faultPlace f_reading f_toldWhy f_x f_standMany f_bestMany f_tail f_round1, (ad 2, .inl (dA 0, 2982, .inl b_all)), (ad 19, .inl (dA 0, 5, .inl a2))]) (As := []) (rest := []) ⟨hx, hb, hml, hown, ht⟩ (zt_X11_keeps l dC dI dA ad _ n (0 : Int32) f_taped f_at f_behind f_size f_kind f_number f_wrong f_wrongAt f_faultKind f_faultPlace f_reading f_toldWhy f_x f_standMany f_bestMany f_tail f_round1 b_all b_was a2 ha2) (cwV 0 ht (zr_V zr_283 zr_284 zr_285 zr_36 zr_276) rfl rfl rfl zk_X11_keeps ⟨Nat.le_of_ble_eq_true rfl, Nat.le_of_ble_eq_true rfl⟩) rfl rfl hK hP hD hS hA [0, 1, 4] [2, 3] (by decide) (by decide) (by decide) rfl rfl rfl hl.1 (Nat.le_of_ble_eq_true rfl) dX11_year_21 ⟨Nat.zero_le _, Nat.zero_le _⟩ rfl (fun H locs hP hD hS => ?_)
    have hP : va_P (dC, dI) zz_cls [(ad 17, .inl (dA 0, 900, .inl b_reckoned)), (ad 18, .inl (dA 0, 6, .inl b_words)), zr_o ad (0 : Int32) f_taped f_at f_behind f_size f_kind f_number f_wrong f_wrongAt f_faultKind f_faultPlace f_reading f_toldWhy f_x f_standMany f_bestMany f_tail f_round1, (ad 2, .inl (dA 0, 2982, .inl b_all)), (ad 19, .inl (dA 0, 5, .inl a2))] H := hP
    have hD : va_D A [(ad 17, .inl (dA 0, 900, .inl b_reckoned)), (ad 18, .inl (dA 0, 6, .inl b_words)), zr_o ad (0 : Int32) f_taped f_at f_behind f_size f_kind f_number f_wrong f_wrongAt f_faultKind f_faultPlace f_reading f_toldWhy f_x f_standMany f_bestMany f_tail f_round1, (ad 2, .inl (dA 0, 2982, .inl b_all)), (ad 19, .inl (dA 0, 5, .inl a2))] := hD
    refine lv_aload_n (pc := 24) hx hb dX11_year_24 rfl (lv_at hl 0 rfl) ?_
    refine lv_iload_n (pc := 25) hx hb dX11_year_25 rfl (lv_at hl 1 rfl) ?_
    refine va_put (pc := 26) (D := (dC, dI)) (ci := 0) (v := .int p1) (ty := .int) (C := RX11) (T := TX11) (N := 42) hx hb ht zr_lay tyX11 tyX11_ok nmX11 hown hK hP hD hS 2 rfl rfl 20 (by decide) (ht _ zr_329) (fun _ h9 => h9) rfl (by decide +kernel) rfl rfl (Nat.le_of_ble_eq_true rfl) dX11_year_26 (fun H locs hP hD hS => ?_)
    have hP : va_P (dC, dI) zz_cls [(ad 17, .inl (dA 0, 900, .inl b_reckoned)), (ad 18, .inl (dA 0, 6, .inl b_words)), zr_o ad (0 : Int32) f_taped f_at f_behind f_size f_kind f_number f_wrong f_wrongAt f_faultKind f_faultPlace f_reading f_toldWhy p1 f_standMany f_bestMany f_tail f_round1, (ad 2, .inl (dA 0, 2982, .inl b_all)), (ad 19, .inl (dA 0, 5, .inl a2))] H := hP
    have hD : va_D A [(ad 17, .inl (dA 0, 900, .inl b_reckoned)), (ad 18, .inl (dA 0, 6, .inl b_words)), zr_o ad (0 : Int32) f_taped f_at f_behind f_size f_kind f_number f_wrong f_wrongAt f_faultKind f_faultPlace f_reading f_toldWhy p1 f_standMany f_bestMany f_tail f_round1, (ad 2, .inl (dA 0, 2982, .inl b_all)), (ad 19, .inl (dA 0, 5, .inl a2))] := hD
    refine lv_iconst (v := (0 : Int32)) (pc := 29) hx hb dX11_year_29 (by decide) ?_
    refine lv_istore_n (lv' := [(3, .int (0 : Int32)), (0, .ref (ad 0)), (1, .int p1), (2, .int p2)]) (pc := 30) hx hb dX11_year_30 rfl hl (by decide) rfl (fun ls hl => ?_)
    refine lv_iconst (v := (0 : Int32)) (pc := 31) hx hb dX11_year_31 (by decide) ?_
    refine lv_istore (lv' := [(4, .int (0 : Int32)), (3, .int (0 : Int32)), (0, .ref (ad 0)), (1, .int p1), (2, .int p2)]) (pc := 32) hx hb dX11_year_32 hl (by decide) rfl (fun ls hl => ?_)
    obtain ⟨g29, v23, v24, v25, a26, a27, a28, hj, hf⟩ := zc_7 hf
    refine zj_join (pcJ := 74) (stk := []) (X := fun H locs ls => lv_has ls 6 [(0, .ref (ad 0)), (3, .int v23)] ∧ va_P (dC, dI) zz_cls [zr_o ad (0 : Int32) f_taped f_at f_behind f_size f_kind f_number f_wrong f_wrongAt f_faultKind f_faultPlace f_reading f_toldWhy v25 f_standMany f_bestMany f_tail f_round1, (ad 2, .inl (dA 0, 2982, .inl a26)), (ad 17, .inl (dA 0, 900, .inl a27)), (ad 18, .inl (dA 0, 6, .inl a28)), (ad 19, .inl (dA 0, 5, .inl a2))] H ∧ va_D A [zr_o ad (0 : Int32) f_taped f_at f_behind f_size f_kind f_number f_wrong f_wrongAt f_faultKind f_faultPlace f_reading f_toldWhy v25 f_standMany f_bestMany f_tail f_round1, (ad 2, .inl (dA 0, 2982, .inl a26)), (ad 17, .inl (dA 0, 900, .inl a27)), (ad 18, .inl (dA 0, 6, .inl a28)), (ad 19, .inl (dA 0, 5, .inl a2))] ∧ va_S A s.heap H locs) (fun H locs ls hX => ?_) (fun E74 => ?_)
    · obtain ⟨hl, hP, hD, hS⟩ := hX
      clear hj
      refine lv_iload_n (pc := 74) hx hb dX11_year_74 rfl (lv_at hl 1 rfl) ?_
      obtain ⟨a31, hj, hf⟩ := zc_1 hf
      refine zj_join (pcJ := 82) (stk := []) (X := fun H locs ls => lv_has ls 6 [(3, .int v23)] ∧ va_P (dC, dI) zz_cls [zr_o ad (0 : Int32) f_taped f_at f_behind f_size f_kind f_number f_wrong f_wrongAt f_faultKind f_faultPlace f_reading f_toldWhy v25 f_standMany f_bestMany f_tail f_round1, (ad 2, .inl (dA 0, 2982, .inl a31)), (ad 17, .inl (dA 0, 900, .inl a27)), (ad 18, .inl (dA 0, 6, .inl a28)), (ad 19, .inl (dA 0, 5, .inl a2))] H ∧ va_D A [zr_o ad (0 : Int32) f_taped f_at f_behind f_size f_kind f_number f_wrong f_wrongAt f_faultKind f_faultPlace f_reading f_toldWhy v25 f_standMany f_bestMany f_tail f_round1, (ad 2, .inl (dA 0, 2982, .inl a31)), (ad 17, .inl (dA 0, 900, .inl a27)), (ad 18, .inl (dA 0, 6, .inl a28)), (ad 19, .inl (dA 0, 5, .inl a2))] ∧ va_S A s.heap H locs) (fun H locs ls hX => ?_) (fun J82 => ?_)
      · obtain ⟨hl, hP, hD, hS⟩ := hX
        clear hj
        refine lv_iload_n (pc := 82) hx hb dX11_year_82 rfl (lv_at hl 0 rfl) ?_
        obtain ⟨rfl, rfl, rfl, rfl, rfl, rfl, rfl⟩ := zi_7 hf
        exact W.iret (pc := 83) hx hb hr (fun t ht hW => ⟨⟨_, (), rfl, rfl, zz_Bi (by rw [ht]; exact hP) (va_K.moved hW.alike hK) (hD)⟩, hS.F ht⟩) hS.2.2 dX11_year_83
      · clear hf
        have hf := hj
        clear hj
        refine lv_if_le (tgt := 82) (pc := 75) hx hb dX11_year_75 rfl (fun hc => ?_) (fun hc => ?_)
        · have hf := za_t hf hc
          obtain rfl := Option.some.inj hf
          exact J82 _ _ _ ⟨lv_sub hl [1] rfl, hP, hD, hS⟩
        · have hf := za_f hf hc
          refine lv_aload_n (pc := 78) hx hb dX11_year_78 rfl (lv_at hl 0 rfl) ?_
          obtain ⟨a30, ha30, hf⟩ := zc_1 hf
          refine zw_Vv (pc := 79) (wc := [zr_o ad (0 : Int32) f_taped f_at f_behind f_size f_kind f_number f_wrong f_wrongAt f_faultKind f_faultPlace f_reading f_toldWhy v25 f_standMany f_bestMany f_tail f_round1, (ad 2, .inl (dA 0, 2982, .inl a26)), (ad 19, .inl (dA 0, 5, .inl a2))]) (wr := [(ad 17, .inl (dA 0, 900, .inl a27)), (ad 18, .inl (dA 0, 6, .inl a28))]) (w1 := [zr_o ad (0 : Int32) f_taped f_at f_behind f_size f_kind f_number f_wrong f_wrongAt f_faultKind f_faultPlace f_reading f_toldWhy v25 f_standMany f_bestMany f_tail f_round1, (ad 2, .inl (dA 0, 2982, .inl a30)), (ad 19, .inl (dA 0, 5, .inl a2))]) (As := []) (rest := []) ⟨hx, hb, hml, hown, ht⟩ (zt_X11_notes l dC dI dA ad _ n (0 : Int32) f_taped f_at f_behind f_size f_kind f_number f_wrong f_wrongAt f_faultKind f_faultPlace f_reading f_toldWhy v25 f_standMany f_bestMany f_tail f_round1 a26 a2 a30 ha30) (cwV 0 ht (zr_V zr_289 zr_290 zr_291 zr_36 zr_278) rfl rfl rfl zk_X11_notes ⟨Nat.le_of_ble_eq_true rfl, Nat.le_of_ble_eq_true rfl⟩) rfl rfl hK hP hD hS hA [0, 1, 4] [2, 3] (by decide) (by decide) (by decide) rfl rfl rfl hl.1 (Nat.le_of_ble_eq_true rfl) dX11_year_79 ⟨Nat.zero_le _, Nat.zero_le _⟩ rfl (fun H locs hP hD hS => ?_)
          have hP : va_P (dC, dI) zz_cls [(ad 17, .inl (dA 0, 900, .inl a27)), (ad 18, .inl (dA 0, 6, .inl a28)), zr_o ad (0 : Int32) f_taped f_at f_behind f_size f_kind f_number f_wrong f_wrongAt f_faultKind f_faultPlace f_reading f_toldWhy v25 f_standMany f_bestMany f_tail f_round1, (ad 2, .inl (dA 0, 2982, .inl a30)), (ad 19, .inl (dA 0, 5, .inl a2))] H := hP
          have hD : va_D A [(ad 17, .inl (dA 0, 900, .inl a27)), (ad 18, .inl (dA 0, 6, .inl a28)), zr_o ad (0 : Int32) f_taped f_at f_behind f_size f_kind f_number f_wrong f_wrongAt f_faultKind f_faultPlace f_reading f_toldWhy v25 f_standMany f_bestMany f_tail f_round1, (ad 2, .inl (dA 0, 2982, .inl a30)), (ad 19, .inl (dA 0, 5, .inl a2))] := hD
          obtain rfl := Option.some.inj hf
          exact J82 _ _ _ ⟨lv_sub hl [1] rfl, hP.sub [2, 3, 0, 1, 4] rfl, hD.sub [2, 3, 0, 1, 4] (by decide) rfl, hS⟩
    clear hf
    refine zw_loop (pcH := 34) (X := fun v H locs ls => lv_has ls 6 [(0, .ref (ad 0)), (2, .int p2), (3, .int v.1), (4, .int v.2.1)] ∧ va_P (dC, dI) zz_cls [zr_o ad (0 : Int32) f_taped f_at f_behind f_size f_kind f_number f_wrong f_wrongAt f_faultKind f_faultPlace f_reading f_toldWhy v.2.2.1 f_standMany f_bestMany f_tail f_round1, (ad 2, .inl (dA 0, 2982, .inl v.2.2.2.1)), (ad 17, .inl (dA 0, 900, .inl v.2.2.2.2.1)), (ad 18, .inl (dA 0, 6, .inl v.2.2.2.2.2)), (ad 19, .inl (dA 0, 5, .inl a2))] H ∧ va_D A [zr_o ad (0 : Int32) f_taped f_at f_behind f_size f_kind f_number f_wrong f_wrongAt f_faultKind f_faultPlace f_reading f_toldWhy v.2.2.1 f_standMany f_bestMany f_tail f_round1, (ad 2, .inl (dA 0, 2982, .inl v.2.2.2.1)), (ad 17, .inl (dA 0, 900, .inl v.2.2.2.2.1)), (ad 18, .inl (dA 0, 6, .inl v.2.2.2.2.2)), (ad 19, .inl (dA 0, 5, .inl a2))] ∧ va_S A s.heap H locs) hj (fun v w hf ih ex H locs ls hX => ?_) _ _ _ ⟨lv_sub hl [2, 4, 1, 0] rfl, hP.sub [2, 3, 0, 1, 4] rfl, hD.sub [2, 3, 0, 1, 4] (by decide) rfl, hS⟩
    clear hj
    obtain ⟨v3, v4, v5, a6, a7, a8⟩ := v
    obtain ⟨hl, hP, hD, hS⟩ := hX
    have hl : lv_has ls 6 [(0, .ref (ad 0)), (2, .int p2), (3, .int v3), (4, .int v4)] := hl
    have hP : va_P (dC, dI) zz_cls [zr_o ad (0 : Int32) f_taped f_at f_behind f_size f_kind f_number f_wrong f_wrongAt f_faultKind f_faultPlace f_reading f_toldWhy v5 f_standMany f_bestMany f_tail f_round1, (ad 2, .inl (dA 0, 2982, .inl a6)), (ad 17, .inl (dA 0, 900, .inl a7)), (ad 18, .inl (dA 0, 6, .inl a8)), (ad 19, .inl (dA 0, 5, .inl a2))] H := hP
    have hD : va_D A [zr_o ad (0 : Int32) f_taped f_at f_behind f_size f_kind f_number f_wrong f_wrongAt f_faultKind f_faultPlace f_reading f_toldWhy v5 f_standMany f_bestMany f_tail f_round1, (ad 2, .inl (dA 0, 2982, .inl a6)), (ad 17, .inl (dA 0, 900, .inl a7)), (ad 18, .inl (dA 0, 6, .inl a8)), (ad 19, .inl (dA 0, 5, .inl a2))] := hD
    replace hf : zb_X11_year_34 p2 n v3 v4 v5 a6 a7 a8 = some w := hf
    unfold zb_X11_year_34 at hf
    refine lv_iload (pc := 34) hx hb dX11_year_34 (lv_at hl 3 rfl) ?_
    refine lv_iload_n (pc := 36) hx hb dX11_year_36 rfl (lv_at hl 1 rfl) ?_
    refine lv_icmp_ge (tgt := 74) (pc := 37) hx hb dX11_year_37 rfl (fun hc => ?_) (fun hc => ?_)
    · have hf := za_t hf hc
      obtain rfl := Option.some.inj hf
      obtain ⟨rfl, rfl, rfl, rfl, rfl, rfl, rfl⟩ := zp_7 (ex (show ¬ (1 : Nat) = 0 by decide))
      exact E74 _ _ _ ⟨lv_sub hl [0, 2] rfl, hP, hD, hS⟩
    · have hf := za_f hf hc
      refine lv_aload_n (pc := 40) hx hb dX11_year_40 rfl (lv_at hl 0 rfl) ?_
      obtain ⟨v9, v10, hv9, hf⟩ := zc_2 hf
      refine zw_Vi (pc := 41) (wc := [zr_o ad (0 : Int32) f_taped f_at f_behind f_size f_kind f_number f_wrong f_wrongAt f_faultKind f_faultPlace f_reading f_toldWhy v5 f_standMany f_bestMany f_tail f_round1]) (wr := [(ad 2, .inl (dA 0, 2982, .inl a6)), (ad 17, .inl (dA 0, 900, .inl a7)), (ad 18, .inl (dA 0, 6, .inl a8)), (ad 19, .inl (dA 0, 5, .inl a2))]) (w1 := [zr_o ad (0 : Int32) f_taped f_at f_behind f_size f_kind f_number f_wrong f_wrongAt f_faultKind f_faultPlace f_reading f_toldWhy v10 f_standMany f_bestMany f_tail f_round1]) (As := []) (rest := []) ⟨hx, hb, hml, hown, ht⟩ (zt_X11_drawn l dC dI dA ad _ (0 : Int32) f_taped f_at f_behind f_size f_kind f_number f_wrong f_wrongAt f_faultKind f_faultPlace f_reading f_toldWhy v5 f_standMany f_bestMany f_tail f_round1 v9 v10 hv9) (cwV 0 ht (zr_V zr_335 zr_336 zr_337 zr_36 zr_330) rfl rfl rfl zk_X11_drawn ⟨Nat.le_of_ble_eq_true rfl, Nat.le_of_ble_eq_true rfl⟩) rfl rfl hK hP hD hS hA [0] [1, 2, 3, 4] (by decide) (by decide) (by decide) rfl rfl rfl hl.1 (Nat.le_of_ble_eq_true rfl) dX11_year_41 ⟨Nat.zero_le _, Nat.zero_le _⟩ rfl (fun H locs hP hD hS => ?_)
      have hP : va_P (dC, dI) zz_cls [(ad 2, .inl (dA 0, 2982, .inl a6)), (ad 17, .inl (dA 0, 900, .inl a7)), (ad 18, .inl (dA 0, 6, .inl a8)), (ad 19, .inl (dA 0, 5, .inl a2)), zr_o ad (0 : Int32) f_taped f_at f_behind f_size f_kind f_number f_wrong f_wrongAt f_faultKind f_faultPlace f_reading f_toldWhy v10 f_standMany f_bestMany f_tail f_round1] H := hP
      have hD : va_D A [(ad 2, .inl (dA 0, 2982, .inl a6)), (ad 17, .inl (dA 0, 900, .inl a7)), (ad 18, .inl (dA 0, 6, .inl a8)), (ad 19, .inl (dA 0, 5, .inl a2)), zr_o ad (0 : Int32) f_taped f_at f_behind f_size f_kind f_number f_wrong f_wrongAt f_faultKind f_faultPlace f_reading f_toldWhy v10 f_standMany f_bestMany f_tail f_round1] := hD
      refine lv_istore (lv' := [(5, .int v9), (0, .ref (ad 0)), (2, .int p2), (3, .int v3), (4, .int v4)]) (pc := 44) hx hb dX11_year_44 hl (by decide) rfl (fun ls hl => ?_)
      refine lv_aload_n (pc := 46) hx hb dX11_year_46 rfl (lv_at hl 1 rfl) ?_
      refine lv_iload (pc := 47) hx hb dX11_year_47 (lv_at hl 0 rfl) ?_
      refine lv_i2l (pc := 49) hx hb dX11_year_49 rfl ?_
      obtain ⟨v11, a12, a13, hv11, hf⟩ := zc_3 hf
      refine zw_Vi (pc := 50) (wc := [zr_o ad (0 : Int32) f_taped f_at f_behind f_size f_kind f_number f_wrong f_wrongAt f_faultKind f_faultPlace f_reading f_toldWhy v10 f_standMany f_bestMany f_tail f_round1, (ad 2, .inl (dA 0, 2982, .inl a6)), (ad 17, .inl (dA 0, 900, .inl a7)), (ad 18, .inl (dA 0, 6, .inl a8))]) (wr := [(ad 19, .inl (dA 0, 5, .inl a2))]) (w1 := [zr_o ad (0 : Int32) f_taped f_at f_behind f_size f_kind f_number f_wrong f_wrongAt f_faultKind f_faultPlace f_reading f_toldWhy v10 f_standMany f_bestMany f_tail f_round1, (ad 2, .inl (dA 0, 2982, .inl a6)), (ad 17, .inl (dA 0, 900, .inl a12)), (ad 18, .inl (dA 0, 6, .inl a13))]) (As := [.long (Int32.toInt64 v9)]) (rest := []) ⟨hx, hb, hml, hown, ht⟩ (zt_X11_whyNot l dC dI dA ad _ n (0 : Int32) f_taped f_at f_behind f_size f_kind f_number f_wrong f_wrongAt f_faultKind f_faultPlace f_reading f_toldWhy v10 f_standMany f_bestMany f_tail f_round1 a6 a7 a8 (Int32.toInt64 v9) v11 a12 a13 hv11) (cwV 1 ht (zr_V zr_307 zr_308 zr_309 zr_36 zr_304) rfl rfl rfl zk_X11_whyNot ⟨Nat.le_of_ble_eq_true rfl, Nat.le_of_ble_eq_true rfl⟩) rfl rfl hK hP hD hS hA [4, 0, 1, 2] [3] (by decide) (by decide) (by decide) rfl rfl rfl hl.1 (Nat.le_of_ble_eq_true rfl) dX11_year_50 ⟨Nat.zero_le _, Nat.zero_le _⟩ rfl (fun H locs hP hD hS => ?_)
      have hP : va_P (dC, dI) zz_cls [(ad 19, .inl (dA 0, 5, .inl a2)), zr_o ad (0 : Int32) f_taped f_at f_behind f_size f_kind f_number f_wrong f_wrongAt f_faultKind f_faultPlace f_reading f_toldWhy v10 f_standMany f_bestMany f_tail f_round1, (ad 2, .inl (dA 0, 2982, .inl a6)), (ad 17, .inl (dA 0, 900, .inl a12)), (ad 18, .inl (dA 0, 6, .inl a13))] H := hP
      have hD : va_D A [(ad 19, .inl (dA 0, 5, .inl a2)), zr_o ad (0 : Int32) f_taped f_at f_behind f_size f_kind f_number f_wrong f_wrongAt f_faultKind f_faultPlace f_reading f_toldWhy v10 f_standMany f_bestMany f_tail f_round1, (ad 2, .inl (dA 0, 2982, .inl a6)), (ad 17, .inl (dA 0, 900, .inl a12)), (ad 18, .inl (dA 0, 6, .inl a13))] := hD
      obtain ⟨v18, a19, a20, a21, hj, hf⟩ := zc_4 hf
      refine zj_join (pcJ := 68) (stk := []) (X := fun H locs ls => lv_has ls 6 [(0, .ref (ad 0)), (2, .int p2), (3, .int v18), (4, .int v4)] ∧ va_P (dC, dI) zz_cls [zr_o ad (0 : Int32) f_taped f_at f_behind f_size f_kind f_number f_wrong f_wrongAt f_faultKind f_faultPlace f_reading f_toldWhy v10 f_standMany f_bestMany f_tail f_round1, (ad 2, .inl (dA 0, 2982, .inl a19)), (ad 17, .inl (dA 0, 900, .inl a20)), (ad 18, .inl (dA 0, 6, .inl a21)), (ad 19, .inl (dA 0, 5, .inl a2))] H ∧ va_D A [zr_o ad (0 : Int32) f_taped f_at f_behind f_size f_kind f_number f_wrong f_wrongAt f_faultKind f_faultPlace f_reading f_toldWhy v10 f_standMany f_bestMany f_tail f_round1, (ad 2, .inl (dA 0, 2982, .inl a19)), (ad 17, .inl (dA 0, 900, .inl a20)), (ad 18, .inl (dA 0, 6, .inl a21)), (ad 19, .inl (dA 0, 5, .inl a2))] ∧ va_S A s.heap H locs) (fun H locs ls hX => ?_) (fun J68 => ?_)
      · obtain ⟨hl, hP, hD, hS⟩ := hX
        clear hj
        obtain ⟨v22, hv22, hf⟩ := zc_1 hf
        refine lv_iinc (v := v22) (lv' := [(4, .int v22), (0, .ref (ad 0)), (2, .int p2), (3, .int v18)]) (k := 3) (pc := 68) hx hb dX11_year_68 hl rfl (Option.some.inj hv22) (by decide) rfl (fun ls hl => ?_)
        refine lv_goto (tgt := 34) (pc := 71) hx hb dX11_year_71 rfl ?_
        obtain rfl := Option.some.inj hf
        exact ih rfl _ _ _ ⟨lv_sub hl [1, 2, 3, 0] rfl, hP, hD, hS⟩
      · clear hf
        have hf := hj
        clear hj
        refine lv_if_eq (tgt := 59) (pc := 53) hx hb dX11_year_53 rfl (fun hc => ?_) (fun hc => ?_)
        · have hf := za_t hf hc
          refine lv_aload_n (pc := 59) hx hb dX11_year_59 rfl (lv_at hl 1 rfl) ?_
          refine lv_iload (pc := 60) hx hb dX11_year_60 (lv_at hl 0 rfl) ?_
          obtain ⟨a14, a15, a16, ha14, hf⟩ := zc_3 hf
          refine zw_Vv (pc := 62) (wc := [zr_o ad (0 : Int32) f_taped f_at f_behind f_size f_kind f_number f_wrong f_wrongAt f_faultKind f_faultPlace f_reading f_toldWhy v10 f_standMany f_bestMany f_tail f_round1, (ad 2, .inl (dA 0, 2982, .inl a6)), (ad 17, .inl (dA 0, 900, .inl a12)), (ad 18, .inl (dA 0, 6, .inl a13))]) (wr := [(ad 19, .inl (dA 0, 5, .inl a2))]) (w1 := [zr_o ad (0 : Int32) f_taped f_at f_behind f_size f_kind f_number f_wrong f_wrongAt f_faultKind f_faultPlace f_reading f_toldWhy v10 f_standMany f_bestMany f_tail f_round1, (ad 2, .inl (dA 0, 2982, .inl a14)), (ad 17, .inl (dA 0, 900, .inl a15)), (ad 18, .inl (dA 0, 6, .inl a16))]) (As := [.int v9]) (rest := []) ⟨hx, hb, hml, hown, ht⟩ (zt_X11_does l dC dI dA ad _ n (0 : Int32) f_taped f_at f_behind f_size f_kind f_number f_wrong f_wrongAt f_faultKind f_faultPlace f_reading f_toldWhy v10 f_standMany f_bestMany f_tail f_round1 a6 a12 a13 v9 a14 a15 a16 ha14) (cwV 1 ht (zr_V zr_310 zr_311 zr_312 zr_36 zr_305) rfl rfl rfl zk_X11_does ⟨Nat.le_of_ble_eq_true rfl, Nat.le_of_ble_eq_true rfl⟩) rfl rfl hK hP hD hS hA [1, 2, 3, 4] [0] (by decide) (by decide) (by decide) rfl rfl rfl hl.1 (Nat.le_of_ble_eq_true rfl) dX11_year_62 ⟨Nat.zero_le _, Nat.zero_le _⟩ rfl (fun H locs hP hD hS => ?_)
          have hP : va_P (dC, dI) zz_cls [(ad 19, .inl (dA 0, 5, .inl a2)), zr_o ad (0 : Int32) f_taped f_at f_behind f_size f_kind f_number f_wrong f_wrongAt f_faultKind f_faultPlace f_reading f_toldWhy v10 f_standMany f_bestMany f_tail f_round1, (ad 2, .inl (dA 0, 2982, .inl a14)), (ad 17, .inl (dA 0, 900, .inl a15)), (ad 18, .inl (dA 0, 6, .inl a16))] H := hP
          have hD : va_D A [(ad 19, .inl (dA 0, 5, .inl a2)), zr_o ad (0 : Int32) f_taped f_at f_behind f_size f_kind f_number f_wrong f_wrongAt f_faultKind f_faultPlace f_reading f_toldWhy v10 f_standMany f_bestMany f_tail f_round1, (ad 2, .inl (dA 0, 2982, .inl a14)), (ad 17, .inl (dA 0, 900, .inl a15)), (ad 18, .inl (dA 0, 6, .inl a16))] := hD
          obtain ⟨v17, hv17, hf⟩ := zc_1 hf
          refine lv_iinc (v := v17) (lv' := [(3, .int v17), (5, .int v9), (0, .ref (ad 0)), (2, .int p2), (4, .int v4)]) (k := 3) (pc := 65) hx hb dX11_year_65 hl rfl (Option.some.inj hv17) (by decide) rfl (fun ls hl => ?_)
          obtain ⟨rfl, rfl, rfl, rfl⟩ := zi_4 hf
          exact J68 _ _ _ ⟨lv_sub hl [2, 3, 0, 4] rfl, hP.sub [1, 2, 3, 4, 0] rfl, hD.sub [1, 2, 3, 4, 0] (by decide) rfl, hS⟩
        · have hf := za_f hf hc
          refine lv_goto (tgt := 68) (pc := 56) hx hb dX11_year_56 rfl ?_
          obtain ⟨rfl, rfl, rfl, rfl⟩ := zi_4 hf
          exact J68 _ _ _ ⟨lv_sub hl [1, 2, 3, 4] rfl, hP.sub [1, 2, 3, 4, 0] rfl, hD.sub [1, 2, 3, 4, 0] (by decide) rfl, hS⟩
  · have hf := za_t hf hc
    refine lv_bipush (v := (-3 : Int32)) (pc := 17) hx hb dX11_year_17 (by decide) ?_
    obtain ⟨rfl, rfl, rfl, rfl, rfl, rfl, rfl⟩ := zi_7 hf
    exact W.iret (pc := 19) hx hb hr (fun t ht hW => ⟨⟨_, (), rfl, rfl, zz_Bi (by rw [ht]; exact hP) (va_K.moved hW.alike hK) (hD)⟩, hS.F ht⟩) hS.2.2 dX11_year_19

def zf_X11_adds (f_standMany : Int32) (b_stand : (Nat → Int32)) (b_known : (Nat → Int32)) (p1 : Int32) : Option (Int32 × (Nat → Int32) × (Nat → Int32)) :=
  zd_1 (za_ld b_known 2880 p1) (fun v1 =>
  if v1 = 0 then
    zd_1 (za_st b_known 2880 p1 (1 : Int32)) (fun a2 =>
    zd_1 (za_st b_stand 2880 f_standMany p1) (fun a3 =>
    zd_1 (some ((f_standMany + (1 : Int32)))) (fun v4 =>
    some (v4, a3, a2))))
  else
    some (f_standMany, b_stand, b_known))
theorem zk_X11_adds : yX11_adds.cls = RX11 ∧ yX11_adds.cls ≠ "java/lang/invoke/MethodHandle" ∧ yX11_adds.cls ≠ "java/lang/invoke/VarHandle" ∧ (parseMethodDescriptor yX11_adds.desc).map (fun d => d.parameters.length) = some 1 := by decide +kernel
set_option maxHeartbeats 4000000 in
set_option maxRecDepth 100000 in
theorem zt_X11_adds (l : Launch) (dC : Nat → ClassId) (dI : Nat → Nat → Nat) (dA : Nat → ClassId) (ad : Nat → Nat) (sz : Nat) (f_thrown f_taped f_at f_behind f_size f_kind f_number f_wrong f_wrongAt f_faultKind f_faultPlace f_reading f_toldWhy f_x f_standMany f_bestMany f_tail f_round1 : Int32) (b_stand : (Nat → Int32)) (b_known : (Nat → Int32)) (p1 : Int32) (o1 : Int32) (o2 : (Nat → Int32)) (o3 : (Nat → Int32)) (hf : zf_X11_adds f_standMany b_stand b_known p1 = some (o1, o2, o3)) : Met l yX11_adds (.code yX11_adds cX11_adds 2 none :: zr_T) ({ frames := 0, cells := 0, slots := 0, locals := 0 }) (va_Pc [.ref (ad 0), .int p1] (zz_M dC dI dA [zr_o ad f_thrown f_taped f_at f_behind f_size f_kind f_number f_wrong f_wrongAt f_faultKind f_faultPlace f_reading f_toldWhy f_x f_standMany f_bestMany f_tail f_round1, (ad 22, .inl (dA 0, 2880, .inl b_stand)), (ad 25, .inl (dA 2, 2880, .inl b_known))] sz)) (va_Qv (fun _ : Unit => True) (fun _ t => zz_B dC dI dA (va_A [zr_o ad f_thrown f_taped f_at f_behind f_size f_kind f_number f_wrong f_wrongAt f_faultKind f_faultPlace f_reading f_toldWhy f_x f_standMany f_bestMany f_tail f_round1, (ad 22, .inl (dA 0, 2880, .inl b_stand)), (ad 25, .inl (dA 2, 2880, .inl b_known))] sz) [zr_o ad f_thrown f_taped f_at f_behind f_size f_kind f_number f_wrong f_wrongAt f_faultKind f_faultPlace f_reading f_toldWhy f_x o1 f_bestMany f_tail f_round1, (ad 22, .inl (dA 0, 2880, .inl o2)), (ad 25, .inl (dA 2, 2880, .inl o3))] t) (va_A [zr_o ad f_thrown f_taped f_at f_behind f_size f_kind f_number f_wrong f_wrongAt f_faultKind f_faultPlace f_reading f_toldWhy f_x f_standMany f_bestMany f_tail f_round1, (ad 22, .inl (dA 0, 2880, .inl b_stand)), (ad 25, .inl (dA 2, 2880, .inl b_known))] sz)) 0 0 (va_A [zr_o ad f_thrown f_taped f_at f_behind f_size f_kind f_number f_wrong f_wrongAt f_faultKind f_faultPlace f_reading f_toldWhy f_x f_standMany f_bestMany f_tail f_round1, (ad 22, .inl (dA 0, 2880, .inl b_stand)), (ad 25, .inl (dA 2, 2880, .inl b_known))] sz) := by
  unfold zf_X11_adds at hf
  refine Met.ofW (cc := cX11_adds) (maxL := 2) (ret := none) (by decide) rfl ?_
  intro p e s m args below meth c s₁ B hml hv
  obtain ⟨rfl, hsz, hP, hK, hD0⟩ := hv
  have hx := B.exec
  have hb := B.bytes
  have hr := B.returns
  have ht : ∀ w ∈ zr_T, w.before ([.ref (ad 0), .int p1] : List Value).toArray s = true := fun w hw => atoms_spec (ws := .code yX11_adds cX11_adds 2 none :: zr_T) B.pre w (List.mem_cons_of_mem _ hw)
  have hown : s.vm.findClass RX11 = some m.cls := findClass_of_methodNamed B.named
  have hlocks := B.notSynchronized
  subst hsz
  have hD := hD0.self (sz := s.heap.size)
  generalize hAe : va_A [zr_o ad f_thrown f_taped f_at f_behind f_size f_kind f_number f_wrong f_wrongAt f_faultKind f_faultPlace f_reading f_toldWhy f_x f_standMany f_bestMany f_tail f_round1, (ad 22, .inl (dA 0, 2880, .inl b_stand)), (ad 25, .inl (dA 2, 2880, .inl b_known))] s.heap.size = A at hD ⊢
  have hA : ∀ q : Nat, s.heap.size ≤ q → A q := fun q h => by rw [← hAe]; exact Or.inr h
  clear hAe hD0
  have hS : va_S A s.heap s.heap [] := va_S.rf
  have hl := lv_entry ([.ref (ad 0), .int p1]) (n := 2) (Nat.le_of_ble_eq_true rfl)
  rw [lg_entry_eq]
  generalize (lg_sl ([.ref (ad 0), .int p1]) ++ List.replicate (2 - (lg_sl ([.ref (ad 0), .int p1])).length) Slot.unset).toArray = ls at hl ⊢
  have hl : lv_has ls 2 [(0, .ref (ad 0)), (1, .int p1)] := hl
  refine lv_aload_n (pc := 0) hx hb dX11_adds_0 rfl (lv_at hl 0 rfl) ?_
  refine va_get (pc := 1) (D := (dC, dI)) (ci := 0) (v := .ref (ad 25)) (C := RX11) (T := TX11) (N := 42) hx hb ht zr_lay hown hK hP 0 rfl rfl 24 (by decide) (ht _ zr_19) (fun _ h9 => h9) rfl dX11_adds_1 ?_
  refine lv_iload_n (pc := 4) hx hb dX11_adds_4 rfl (lv_at hl 1 rfl) ?_
  obtain ⟨v1, hv1, hf⟩ := zc_1 hf
  refine zw_zald (pc := 5) hx hb hK hP 2 2 rfl rfl hv1 dX11_adds_5 ?_
  refine lv_if_eq (tgt := 10) (pc := 6) hx hb dX11_adds_6 rfl (fun hc => ?_) (fun hc => ?_)
  · have hf := za_t hf hc
    refine lv_aload_n (pc := 10) hx hb dX11_adds_10 rfl (lv_at hl 0 rfl) ?_
    refine va_get (pc := 11) (D := (dC, dI)) (ci := 0) (v := .ref (ad 25)) (C := RX11) (T := TX11) (N := 42) hx hb ht zr_lay hown hK hP 0 rfl rfl 24 (by decide) (ht _ zr_19) (fun _ h9 => h9) rfl dX11_adds_11 ?_
    refine lv_iload_n (pc := 14) hx hb dX11_adds_14 rfl (lv_at hl 1 rfl) ?_
    refine lv_iconst (v := (1 : Int32)) (pc := 15) hx hb dX11_adds_15 (by decide) ?_
    obtain ⟨a2, ha2, hf⟩ := zc_1 hf
    refine zw_zast (pc := 16) hx hb hK hP hD hS 2 2 rfl rfl rfl ha2 dX11_adds_16 (fun H locs hP hD hS => ?_)
    have hP : va_P (dC, dI) zz_cls [zr_o ad f_thrown f_taped f_at f_behind f_size f_kind f_number f_wrong f_wrongAt f_faultKind f_faultPlace f_reading f_toldWhy f_x f_standMany f_bestMany f_tail f_round1, (ad 22, .inl (dA 0, 2880, .inl b_stand)), (ad 25, .inl (dA 2, 2880, .inl a2))] H := hP
    have hD : va_D A [zr_o ad f_thrown f_taped f_at f_behind f_size f_kind f_number f_wrong f_wrongAt f_faultKind f_faultPlace f_reading f_toldWhy f_x f_standMany f_bestMany f_tail f_round1, (ad 22, .inl (dA 0, 2880, .inl b_stand)), (ad 25, .inl (dA 2, 2880, .inl a2))] := hD
    refine lv_aload_n (pc := 17) hx hb dX11_adds_17 rfl (lv_at hl 0 rfl) ?_
    refine va_get (pc := 18) (D := (dC, dI)) (ci := 0) (v := .ref (ad 22)) (C := RX11) (T := TX11) (N := 42) hx hb ht zr_lay hown hK hP 0 rfl rfl 21 (by decide) (ht _ zr_15) (fun _ h9 => h9) rfl dX11_adds_18 ?_
    refine lv_aload_n (pc := 21) hx hb dX11_adds_21 rfl (lv_at hl 0 rfl) ?_
    refine va_get (pc := 22) (D := (dC, dI)) (ci := 0) (v := .int f_standMany) (C := RX11) (T := TX11) (N := 42) hx hb ht zr_lay hown hK hP 0 rfl rfl 25 (by decide) (ht _ zr_340) (fun _ h9 => h9) rfl dX11_adds_22 ?_
    refine lv_iload_n (pc := 25) hx hb dX11_adds_25 rfl (lv_at hl 1 rfl) ?_
    obtain ⟨a3, ha3, hf⟩ := zc_1 hf
    refine zw_iast (pc := 26) hx hb hK hP hD hS 1 0 rfl rfl ha3 dX11_adds_26 (fun H locs hP hD hS => ?_)
    have hP : va_P (dC, dI) zz_cls [zr_o ad f_thrown f_taped f_at f_behind f_size f_kind f_number f_wrong f_wrongAt f_faultKind f_faultPlace f_reading f_toldWhy f_x f_standMany f_bestMany f_tail f_round1, (ad 22, .inl (dA 0, 2880, .inl a3)), (ad 25, .inl (dA 2, 2880, .inl a2))] H := hP
    have hD : va_D A [zr_o ad f_thrown f_taped f_at f_behind f_size f_kind f_number f_wrong f_wrongAt f_faultKind f_faultPlace f_reading f_toldWhy f_x f_standMany f_bestMany f_tail f_round1, (ad 22, .inl (dA 0, 2880, .inl a3)), (ad 25, .inl (dA 2, 2880, .inl a2))] := hD
    refine lv_aload_n (pc := 27) hx hb dX11_adds_27 rfl (lv_at hl 0 rfl) ?_
    refine lv_dup (pc := 28) hx hb dX11_adds_28 rfl ?_
    refine va_get (pc := 29) (D := (dC, dI)) (ci := 0) (v := .int f_standMany) (C := RX11) (T := TX11) (N := 42) hx hb ht zr_lay hown hK hP 0 rfl rfl 25 (by decide) (ht _ zr_340) (fun _ h9 => h9) rfl dX11_adds_29 ?_
    refine lv_iconst (v := (1 : Int32)) (pc := 32) hx hb dX11_adds_32 (by decide) ?_
    refine lv_iadd (pc := 33) hx hb dX11_adds_33 ?_
    obtain ⟨v4, hv4, hf⟩ := zc_1 hf
    refine zw_top (hv4) ?_
    refine va_put (pc := 34) (D := (dC, dI)) (ci := 0) (v := .int v4) (ty := .int) (C := RX11) (T := TX11) (N := 42) hx hb ht zr_lay tyX11 tyX11_ok nmX11 hown hK hP hD hS 0 rfl rfl 25 (by decide) (ht _ zr_340) (fun _ h9 => h9) rfl (by decide +kernel) rfl rfl (Nat.le_of_ble_eq_true rfl) dX11_adds_34 (fun H locs hP hD hS => ?_)
    have hP : va_P (dC, dI) zz_cls [zr_o ad f_thrown f_taped f_at f_behind f_size f_kind f_number f_wrong f_wrongAt f_faultKind f_faultPlace f_reading f_toldWhy f_x v4 f_bestMany f_tail f_round1, (ad 22, .inl (dA 0, 2880, .inl a3)), (ad 25, .inl (dA 2, 2880, .inl a2))] H := hP
    have hD : va_D A [zr_o ad f_thrown f_taped f_at f_behind f_size f_kind f_number f_wrong f_wrongAt f_faultKind f_faultPlace f_reading f_toldWhy f_x v4 f_bestMany f_tail f_round1, (ad 22, .inl (dA 0, 2880, .inl a3)), (ad 25, .inl (dA 2, 2880, .inl a2))] := hD
    obtain ⟨rfl, rfl, rfl⟩ := zi_3 hf
    exact W.vret (pc := 37) hx hb hr (fun t ht hW => ⟨⟨(), rfl, trivial, zz_Bi (by rw [ht]; exact hP) (va_K.moved hW.alike hK) (hD)⟩, hS.F ht⟩) hS.2.2 dX11_adds_37
  · have hf := za_f hf hc
    obtain ⟨rfl, rfl, rfl⟩ := zi_3 hf
    exact W.vret (pc := 9) hx hb hr (fun t ht hW => ⟨⟨(), rfl, trivial, zz_Bi (by rw [ht]; exact hP) (va_K.moved hW.alike hK) (hD)⟩, hS.F ht⟩) hS.2.2 dX11_adds_9

def zf_X11_gust (p0 : Int32) : Option (Int32) :=
  if (za_rem p0 (5 : Int32)) = 0 then
    some p0
  else
    some (p0 - (1 : Int32))
theorem zk_X11_gust : yX11_gust.cls = RX11 ∧ yX11_gust.cls ≠ "java/lang/invoke/MethodHandle" ∧ yX11_gust.cls ≠ "java/lang/invoke/VarHandle" ∧ (parseMethodDescriptor yX11_gust.desc).map (fun d => d.parameters.length) = some 1 := by decide +kernel
set_option maxHeartbeats 4000000 in
set_option maxRecDepth 100000 in
theorem zt_X11_gust (l : Launch) (dC : Nat → ClassId) (dI : Nat → Nat → Nat) (dA : Nat → ClassId) (ad : Nat → Nat) (sz : Nat) (p0 : Int32) (r0 : Int32) (hf : zf_X11_gust p0 = some r0) : Met l yX11_gust (.code yX11_gust cX11_gust 1 (some .int) :: zr_T) ({ frames := 0, cells := 0, slots := 0, locals := 0 }) (va_Pc [.int p0] (zz_M dC dI dA [] sz)) (va_Qi (fun (r : Int32) (_ : Unit) => r = r0) (fun _ t => zz_B dC dI dA (va_A [] sz) [] t) (va_A [] sz)) 0 0 (va_A [] sz) := by
  unfold zf_X11_gust at hf
  refine Met.ofW (cc := cX11_gust) (maxL := 1) (ret := (some .int)) (by decide) rfl ?_
  intro p e s m args below meth c s₁ B hml hv
  obtain ⟨rfl, hsz, hP, hK, hD0⟩ := hv
  have hx := B.exec
  have hb := B.bytes
  have hr := B.returns
  have ht : ∀ w ∈ zr_T, w.before ([.int p0] : List Value).toArray s = true := fun w hw => atoms_spec (ws := .code yX11_gust cX11_gust 1 (some .int) :: zr_T) B.pre w (List.mem_cons_of_mem _ hw)
  have hown : s.vm.findClass RX11 = some m.cls := findClass_of_methodNamed B.named
  have hlocks := B.notSynchronized
  subst hsz
  have hD := hD0.self (sz := s.heap.size)
  generalize hAe : va_A [] s.heap.size = A at hD ⊢
  have hA : ∀ q : Nat, s.heap.size ≤ q → A q := fun q h => by rw [← hAe]; exact Or.inr h
  clear hAe hD0
  have hS : va_S A s.heap s.heap [] := va_S.rf
  have hl := lv_entry ([.int p0]) (n := 1) (Nat.le_of_ble_eq_true rfl)
  rw [lg_entry_eq]
  generalize (lg_sl ([.int p0]) ++ List.replicate (1 - (lg_sl ([.int p0])).length) Slot.unset).toArray = ls at hl ⊢
  have hl : lv_has ls 1 [(0, .int p0)] := hl
  refine lv_iload_n (pc := 0) hx hb dX11_gust_0 rfl (lv_at hl 0 rfl) ?_
  refine lv_iconst (v := (5 : Int32)) (pc := 1) hx hb dX11_gust_1 (by decide) ?_
  refine lv_irem (pc := 2) hx hb dX11_gust_2 (by decide) ?_
  refine lv_if_ne (tgt := 10) (pc := 3) hx hb dX11_gust_3 rfl (fun hc => ?_) (fun hc => ?_)
  · have hf := za_f hf hc
    refine lv_iload_n (pc := 10) hx hb dX11_gust_10 rfl (lv_at hl 0 rfl) ?_
    refine lv_iconst (v := (1 : Int32)) (pc := 11) hx hb dX11_gust_11 (by decide) ?_
    refine lv_isub (pc := 12) hx hb dX11_gust_12 ?_
    obtain rfl := Option.some.inj hf
    exact W.iret (pc := 13) hx hb hr (fun t ht hW => ⟨⟨_, (), rfl, rfl, zz_Bi (by rw [ht]; exact hP) (va_K.moved hW.alike hK) (hD)⟩, hS.F ht⟩) hS.2.2 dX11_gust_13
  · have hf := za_t hf hc
    refine lv_iload_n (pc := 6) hx hb dX11_gust_6 rfl (lv_at hl 0 rfl) ?_
    refine lv_goto (tgt := 13) (pc := 7) hx hb dX11_gust_7 rfl ?_
    obtain rfl := Option.some.inj hf
    exact W.iret (pc := 13) hx hb hr (fun t ht hW => ⟨⟨_, (), rfl, rfl, zz_Bi (by rw [ht]; exact hP) (va_K.moved hW.alike hK) (hD)⟩, hS.F ht⟩) hS.2.2 dX11_gust_13

def zb_X11_laysStands_2 (v1 : Int32) (a2 : (Nat → Int32)) : Option (Nat × Int32 × (Nat → Int32)) :=
  if (2880 : Int32) ≤ v1 then
    some (1, v1, a2)
  else
    zd_1 (za_st a2 2880 v1 (0 : Int32)) (fun a3 =>
    zd_1 (some (v1 + (1 : Int32))) (fun v4 =>
    some (0, v4, a3)))
def zb_X11_laysStands_47 (b_all : (Nat → Int32)) (v12 : Int32) (n : Nat) (p1 : Int32) (v19 : Int32) (v20 : Int32) (a21 : (Nat → Int32)) (a22 : (Nat → Int32)) (a23 : (Nat → Int32)) (a24 : (Nat → Int32)) (a25 : (Nat → Int32)) : Option (Nat × Int32 × Int32 × (Nat → Int32) × (Nat → Int32) × (Nat → Int32) × (Nat → Int32) × (Nat → Int32)) :=
  if (15 : Int32) ≤ v19 then
    some (1, v19, v20, a21, a22, a23, a24, a25)
  else
    zd_1 (zf_X11_isMove b_all v19) (fun v26 =>
    zd_3 (
      if v26 = 0 then
        some ((-1 : Int32), a21, a22)
      else
        zd_1 (za_ld a23 2880 v12) (fun v27 =>
        zd_1 (za_ld b_all 2982 (40 : Int32)) (fun v28 =>
        zd_3 (zf_X11_whyBy n b_all a21 a22 v27 v19 v28) (fun v29 a30 a31 =>
        if v29 = 0 then
          zd_1 (za_ld a23 2880 v12) (fun v32 =>
          zd_1 (za_ld b_all 2982 (40 : Int32)) (fun v33 =>
          zd_3 (zf_X11_actedTo n b_all a30 a31 v32 v19 v33) (fun v34 a35 a36 =>
          some (v34, a35, a36))))
        else
          some ((-1 : Int32), a30, a31))))) (fun v37 a38 a39 =>
    zd_1 (za_ld a23 2880 v12) (fun v40 =>
    zd_1 (za_st a24 43200 (((15 : Int32) * v40) + v19) v37) (fun a41 =>
    zd_3 (
      if v37 = (-1 : Int32) then
        some (v20, a23, a25)
      else
        zd_3 (zf_X11_adds v20 a23 a25 v37) (fun v42 a43 a44 =>
        if p1 = 0 then
          some (v42, a43, a44)
        else
          if v19 = (1 : Int32) then
            zd_1 (zf_X11_gust v37) (fun v45 =>
            zd_3 (zf_X11_adds v42 a43 a44 v45) (fun v46 a47 a48 =>
            zd_3 (zf_X11_adds v46 a47 a48 (v37 - (320 : Int32))) (fun v49 a50 a51 =>
            some (v49, a50, a51))))
          else
            some (v42, a43, a44))) (fun v52 a53 a54 =>
    zd_1 (some (v19 + (1 : Int32))) (fun v55 =>
    some (0, v55, v52, a38, a39, a53, a41, a54)))))))
def zb_X11_laysStands_37 (b_all : (Nat → Int32)) (n : Nat) (p1 : Int32) (v12 : Int32) (v13 : Int32) (a14 : (Nat → Int32)) (a15 : (Nat → Int32)) (a16 : (Nat → Int32)) (a17 : (Nat → Int32)) (a18 : (Nat → Int32)) : Option (Nat × Int32 × Int32 × (Nat → Int32) × (Nat → Int32) × (Nat → Int32) × (Nat → Int32) × (Nat → Int32)) :=
  if v13 ≤ v12 then
    some (1, v12, v13, a14, a15, a16, a17, a18)
  else
    zd_8 (za_it (fun v => zb_X11_laysStands_47 b_all v12 n p1 v.1 v.2.1 v.2.2.1 v.2.2.2.1 v.2.2.2.2.1 v.2.2.2.2.2.1 v.2.2.2.2.2.2) n ((0 : Int32), v13, a14, a15, a16, a17, a18)) (fun g63 v56 v57 a58 a59 a60 a61 a62 =>
    zd_1 (some (v12 + (1 : Int32))) (fun v64 =>
    some (0, v64, v57, a58, a59, a60, a61, a62)))
def zf_X11_laysStands (n : Nat) (f_standMany : Int32) (b_all : (Nat → Int32)) (b_reckoned : (Nat → Int32)) (b_words : (Nat → Int32)) (b_stand : (Nat → Int32)) (b_then : (Nat → Int32)) (b_known : (Nat → Int32)) (p1 : Int32) : Option (Int32 × (Nat → Int32) × (Nat → Int32) × (Nat → Int32) × (Nat → Int32) × (Nat → Int32)) :=
  zd_3 (za_it (fun v => zb_X11_laysStands_2 v.1 v.2) n ((0 : Int32), b_known)) (fun g7 v5 a6 =>
  zd_1 (zf_X11_standNow b_all) (fun v8 =>
  zd_3 (zf_X11_adds (0 : Int32) b_stand a6 v8) (fun v9 a10 a11 =>
  zd_8 (za_it (fun v => zb_X11_laysStands_37 b_all n p1 v.1 v.2.1 v.2.2.1 v.2.2.2.1 v.2.2.2.2.1 v.2.2.2.2.2.1 v.2.2.2.2.2.2) n ((0 : Int32), v9, b_reckoned, b_words, a10, b_then, a11)) (fun g72 v65 v66 a67 a68 a69 a70 a71 =>
  some (v66, a67, a68, a69, a70, a71)))))
theorem zk_X11_laysStands : yX11_laysStands.cls = RX11 ∧ yX11_laysStands.cls ≠ "java/lang/invoke/MethodHandle" ∧ yX11_laysStands.cls ≠ "java/lang/invoke/VarHandle" ∧ (parseMethodDescriptor yX11_laysStands.desc).map (fun d => d.parameters.length) = some 1 := by decide +kernel
set_option maxHeartbeats 4000000 in
set_option maxRecDepth 100000 in
theorem zt_X11_laysStands (l : Launch) (dC : Nat → ClassId) (dI : Nat → Nat → Nat) (dA : Nat → ClassId) (ad : Nat → Nat) (sz : Nat) (n : Nat) (f_thrown f_taped f_at f_behind f_size f_kind f_number f_wrong f_wrongAt f_faultKind f_faultPlace f_reading f_toldWhy f_x f_standMany f_bestMany f_tail f_round1 : Int32) (b_all : (Nat → Int32)) (b_reckoned : (Nat → Int32)) (b_words : (Nat → Int32)) (b_stand : (Nat → Int32)) (b_then : (Nat → Int32)) (b_known : (Nat → Int32)) (p1 : Int32) (o1 : Int32) (o2 : (Nat → Int32)) (o3 : (Nat → Int32)) (o4 : (Nat → Int32)) (o5 : (Nat → Int32)) (o6 : (Nat → Int32)) (hf : zf_X11_laysStands n f_standMany b_all b_reckoned b_words b_stand b_then b_known p1 = some (o1, o2, o3, o4, o5, o6)) : Met l yX11_laysStands (.code yX11_laysStands cX11_laysStands 5 none :: zr_T) ({ frames := 4, cells := 0, slots := 0, locals := 99 }) (va_Pc [.ref (ad 0), .int p1] (zz_M dC dI dA [zr_o ad f_thrown f_taped f_at f_behind f_size f_kind f_number f_wrong f_wrongAt f_faultKind f_faultPlace f_reading f_toldWhy f_x f_standMany f_bestMany f_tail f_round1, (ad 2, .inl (dA 0, 2982, .inl b_all)), (ad 17, .inl (dA 0, 900, .inl b_reckoned)), (ad 18, .inl (dA 0, 6, .inl b_words)), (ad 22, .inl (dA 0, 2880, .inl b_stand)), (ad 23, .inl (dA 0, 43200, .inl b_then)), (ad 25, .inl (dA 2, 2880, .inl b_known))] sz)) (va_Qv (fun _ : Unit => True) (fun _ t => zz_B dC dI dA (va_A [zr_o ad f_thrown f_taped f_at f_behind f_size f_kind f_number f_wrong f_wrongAt f_faultKind f_faultPlace f_reading f_toldWhy f_x f_standMany f_bestMany f_tail f_round1, (ad 2, .inl (dA 0, 2982, .inl b_all)), (ad 17, .inl (dA 0, 900, .inl b_reckoned)), (ad 18, .inl (dA 0, 6, .inl b_words)), (ad 22, .inl (dA 0, 2880, .inl b_stand)), (ad 23, .inl (dA 0, 43200, .inl b_then)), (ad 25, .inl (dA 2, 2880, .inl b_known))] sz) [zr_o ad f_thrown f_taped f_at f_behind f_size f_kind f_number f_wrong f_wrongAt f_faultKind f_faultPlace f_reading f_toldWhy f_x o1 f_bestMany f_tail f_round1, (ad 2, .inl (dA 0, 2982, .inl b_all)), (ad 17, .inl (dA 0, 900, .inl o2)), (ad 18, .inl (dA 0, 6, .inl o3)), (ad 22, .inl (dA 0, 2880, .inl o4)), (ad 23, .inl (dA 0, 43200, .inl o5)), (ad 25, .inl (dA 2, 2880, .inl o6))] t) (va_A [zr_o ad f_thrown f_taped f_at f_behind f_size f_kind f_number f_wrong f_wrongAt f_faultKind f_faultPlace f_reading f_toldWhy f_x f_standMany f_bestMany f_tail f_round1, (ad 2, .inl (dA 0, 2982, .inl b_all)), (ad 17, .inl (dA 0, 900, .inl b_reckoned)), (ad 18, .inl (dA 0, 6, .inl b_words)), (ad 22, .inl (dA 0, 2880, .inl b_stand)), (ad 23, .inl (dA 0, 43200, .inl b_then)), (ad 25, .inl (dA 2, 2880, .inl b_known))] sz)) 0 0 (va_A [zr_o ad f_thrown f_taped f_at f_behind f_size f_kind f_number f_wrong f_wrongAt f_faultKind f_faultPlace f_reading f_toldWhy f_x f_standMany f_bestMany f_tail f_round1, (ad 2, .inl (dA 0, 2982, .inl b_all)), (ad 17, .inl (dA 0, 900, .inl b_reckoned)), (ad 18, .inl (dA 0, 6, .inl b_words)), (ad 22, .inl (dA 0, 2880, .inl b_stand)), (ad 23, .inl (dA 0, 43200, .inl b_then)), (ad 25, .inl (dA 2, 2880, .inl b_known))] sz) := by
  unfold zf_X11_laysStands at hf
  refine Met.ofW (cc := cX11_laysStands) (maxL := 5) (ret := none) (by decide) rfl ?_
  intro p e s m args below meth c s₁ B hml hv
  obtain ⟨rfl, hsz, hP, hK, hD0⟩ := hv
  have hx := B.exec
  have hb := B.bytes
  have hr := B.returns
  have ht : ∀ w ∈ zr_T, w.before ([.ref (ad 0), .int p1] : List Value).toArray s = true := fun w hw => atoms_spec (ws := .code yX11_laysStands cX11_laysStands 5 none :: zr_T) B.pre w (List.mem_cons_of_mem _ hw)
  have hown : s.vm.findClass RX11 = some m.cls := findClass_of_methodNamed B.named
  have hlocks := B.notSynchronized
  subst hsz
  have hD := hD0.self (sz := s.heap.size)
  generalize hAe : va_A [zr_o ad f_thrown f_taped f_at f_behind f_size f_kind f_number f_wrong f_wrongAt f_faultKind f_faultPlace f_reading f_toldWhy f_x f_standMany f_bestMany f_tail f_round1, (ad 2, .inl (dA 0, 2982, .inl b_all)), (ad 17, .inl (dA 0, 900, .inl b_reckoned)), (ad 18, .inl (dA 0, 6, .inl b_words)), (ad 22, .inl (dA 0, 2880, .inl b_stand)), (ad 23, .inl (dA 0, 43200, .inl b_then)), (ad 25, .inl (dA 2, 2880, .inl b_known))] s.heap.size = A at hD ⊢
  have hA : ∀ q : Nat, s.heap.size ≤ q → A q := fun q h => by rw [← hAe]; exact Or.inr h
  clear hAe hD0
  have hS : va_S A s.heap s.heap [] := va_S.rf
  have hl := lv_entry ([.ref (ad 0), .int p1]) (n := 5) (Nat.le_of_ble_eq_true rfl)
  rw [lg_entry_eq]
  generalize (lg_sl ([.ref (ad 0), .int p1]) ++ List.replicate (5 - (lg_sl ([.ref (ad 0), .int p1])).length) Slot.unset).toArray = ls at hl ⊢
  have hl : lv_has ls 5 [(0, .ref (ad 0)), (1, .int p1)] := hl
  refine lv_iconst (v := (0 : Int32)) (pc := 0) hx hb dX11_laysStands_0 (by decide) ?_
  refine lv_istore_n (lv' := [(2, .int (0 : Int32)), (0, .ref (ad 0)), (1, .int p1)]) (pc := 1) hx hb dX11_laysStands_1 rfl hl (by decide) rfl (fun ls hl => ?_)
  obtain ⟨g7, v5, a6, hj, hf⟩ := zc_3 hf
  refine zj_join (pcJ := 22) (stk := []) (X := fun H locs ls => lv_has ls 5 [(0, .ref (ad 0)), (1, .int p1)] ∧ va_P (dC, dI) zz_cls [zr_o ad f_thrown f_taped f_at f_behind f_size f_kind f_number f_wrong f_wrongAt f_faultKind f_faultPlace f_reading f_toldWhy f_x f_standMany f_bestMany f_tail f_round1, (ad 2, .inl (dA 0, 2982, .inl b_all)), (ad 17, .inl (dA 0, 900, .inl b_reckoned)), (ad 18, .inl (dA 0, 6, .inl b_words)), (ad 22, .inl (dA 0, 2880, .inl b_stand)), (ad 23, .inl (dA 0, 43200, .inl b_then)), (ad 25, .inl (dA 2, 2880, .inl a6))] H ∧ va_D A [zr_o ad f_thrown f_taped f_at f_behind f_size f_kind f_number f_wrong f_wrongAt f_faultKind f_faultPlace f_reading f_toldWhy f_x f_standMany f_bestMany f_tail f_round1, (ad 2, .inl (dA 0, 2982, .inl b_all)), (ad 17, .inl (dA 0, 900, .inl b_reckoned)), (ad 18, .inl (dA 0, 6, .inl b_words)), (ad 22, .inl (dA 0, 2880, .inl b_stand)), (ad 23, .inl (dA 0, 43200, .inl b_then)), (ad 25, .inl (dA 2, 2880, .inl a6))] ∧ va_S A s.heap H locs) (fun H locs ls hX => ?_) (fun E22 => ?_)
  · obtain ⟨hl, hP, hD, hS⟩ := hX
    clear hj
    refine lv_aload_n (pc := 22) hx hb dX11_laysStands_22 rfl (lv_at hl 0 rfl) ?_
    refine lv_iconst (v := (0 : Int32)) (pc := 23) hx hb dX11_laysStands_23 (by decide) ?_
    refine va_put (pc := 24) (D := (dC, dI)) (ci := 0) (v := .int (0 : Int32)) (ty := .int) (C := RX11) (T := TX11) (N := 42) hx hb ht zr_lay tyX11 tyX11_ok nmX11 hown hK hP hD hS 0 rfl rfl 25 (by decide) (ht _ zr_340) (fun _ h9 => h9) rfl (by decide +kernel) rfl rfl (Nat.le_of_ble_eq_true rfl) dX11_laysStands_24 (fun H locs hP hD hS => ?_)
    have hP : va_P (dC, dI) zz_cls [zr_o ad f_thrown f_taped f_at f_behind f_size f_kind f_number f_wrong f_wrongAt f_faultKind f_faultPlace f_reading f_toldWhy f_x (0 : Int32) f_bestMany f_tail f_round1, (ad 2, .inl (dA 0, 2982, .inl b_all)), (ad 17, .inl (dA 0, 900, .inl b_reckoned)), (ad 18, .inl (dA 0, 6, .inl b_words)), (ad 22, .inl (dA 0, 2880, .inl b_stand)), (ad 23, .inl (dA 0, 43200, .inl b_then)), (ad 25, .inl (dA 2, 2880, .inl a6))] H := hP
    have hD : va_D A [zr_o ad f_thrown f_taped f_at f_behind f_size f_kind f_number f_wrong f_wrongAt f_faultKind f_faultPlace f_reading f_toldWhy f_x (0 : Int32) f_bestMany f_tail f_round1, (ad 2, .inl (dA 0, 2982, .inl b_all)), (ad 17, .inl (dA 0, 900, .inl b_reckoned)), (ad 18, .inl (dA 0, 6, .inl b_words)), (ad 22, .inl (dA 0, 2880, .inl b_stand)), (ad 23, .inl (dA 0, 43200, .inl b_then)), (ad 25, .inl (dA 2, 2880, .inl a6))] := hD
    refine lv_aload_n (pc := 27) hx hb dX11_laysStands_27 rfl (lv_at hl 0 rfl) ?_
    refine lv_aload_n (pc := 28) hx hb dX11_laysStands_28 rfl (lv_at hl 0 rfl) ?_
    obtain ⟨v8, hv8, hf⟩ := zc_1 hf
    refine zw_Vi (pc := 29) (wc := [zr_o ad f_thrown f_taped f_at f_behind f_size f_kind f_number f_wrong f_wrongAt f_faultKind f_faultPlace f_reading f_toldWhy f_x (0 : Int32) f_bestMany f_tail f_round1, (ad 2, .inl (dA 0, 2982, .inl b_all))]) (wr := [(ad 17, .inl (dA 0, 900, .inl b_reckoned)), (ad 18, .inl (dA 0, 6, .inl b_words)), (ad 22, .inl (dA 0, 2880, .inl b_stand)), (ad 23, .inl (dA 0, 43200, .inl b_then)), (ad 25, .inl (dA 2, 2880, .inl a6))]) (w1 := [zr_o ad f_thrown f_taped f_at f_behind f_size f_kind f_number f_wrong f_wrongAt f_faultKind f_faultPlace f_reading f_toldWhy f_x (0 : Int32) f_bestMany f_tail f_round1, (ad 2, .inl (dA 0, 2982, .inl b_all))]) (As := []) (rest := [.ref (ad 0)]) ⟨hx, hb, hml, hown, ht⟩ (zt_X11_standNow l dC dI dA ad _ f_thrown f_taped f_at f_behind f_size f_kind f_number f_wrong f_wrongAt f_faultKind f_faultPlace f_reading f_toldWhy f_x (0 : Int32) f_bestMany f_tail f_round1 b_all v8 hv8) (cwV 0 ht (zr_V zr_261 zr_262 zr_263 zr_36 zr_213) rfl rfl rfl zk_X11_standNow ⟨Nat.le_of_ble_eq_true rfl, Nat.le_of_ble_eq_true rfl⟩) rfl rfl hK hP hD hS hA [0, 1] [2, 3, 4, 5, 6] (by decide) (by decide) (by decide) rfl rfl rfl hl.1 (Nat.le_of_ble_eq_true rfl) dX11_laysStands_29 ⟨Nat.zero_le _, Nat.zero_le _⟩ rfl (fun H locs hP hD hS => ?_)
    have hP : va_P (dC, dI) zz_cls [(ad 17, .inl (dA 0, 900, .inl b_reckoned)), (ad 18, .inl (dA 0, 6, .inl b_words)), (ad 22, .inl (dA 0, 2880, .inl b_stand)), (ad 23, .inl (dA 0, 43200, .inl b_then)), (ad 25, .inl (dA 2, 2880, .inl a6)), zr_o ad f_thrown f_taped f_at f_behind f_size f_kind f_number f_wrong f_wrongAt f_faultKind f_faultPlace f_reading f_toldWhy f_x (0 : Int32) f_bestMany f_tail f_round1, (ad 2, .inl (dA 0, 2982, .inl b_all))] H := hP
    have hD : va_D A [(ad 17, .inl (dA 0, 900, .inl b_reckoned)), (ad 18, .inl (dA 0, 6, .inl b_words)), (ad 22, .inl (dA 0, 2880, .inl b_stand)), (ad 23, .inl (dA 0, 43200, .inl b_then)), (ad 25, .inl (dA 2, 2880, .inl a6)), zr_o ad f_thrown f_taped f_at f_behind f_size f_kind f_number f_wrong f_wrongAt f_faultKind f_faultPlace f_reading f_toldWhy f_x (0 : Int32) f_bestMany f_tail f_round1, (ad 2, .inl (dA 0, 2982, .inl b_all))] := hD
    obtain ⟨v9, a10, a11, hv9, hf⟩ := zc_3 hf
    refine zw_Vv (pc := 32) (wc := [zr_o ad f_thrown f_taped f_at f_behind f_size f_kind f_number f_wrong f_wrongAt f_faultKind f_faultPlace f_reading f_toldWhy f_x (0 : Int32) f_bestMany f_tail f_round1, (ad 22, .inl (dA 0, 2880, .inl b_stand)), (ad 25, .inl (dA 2, 2880, .inl a6))]) (wr := [(ad 17, .inl (dA 0, 900, .inl b_reckoned)), (ad 18, .inl (dA 0, 6, .inl b_words)), (ad 23, .inl (dA 0, 43200, .inl b_then)), (ad 2, .inl (dA 0, 2982, .inl b_all))]) (w1 := [zr_o ad f_thrown f_taped f_at f_behind f_size f_kind f_number f_wrong f_wrongAt f_faultKind f_faultPlace f_reading f_toldWhy f_x v9 f_bestMany f_tail f_round1, (ad 22, .inl (dA 0, 2880, .inl a10)), (ad 25, .inl (dA 2, 2880, .inl a11))]) (As := [.int v8]) (rest := []) ⟨hx, hb, hml, hown, ht⟩ (zt_X11_adds l dC dI dA ad _ f_thrown f_taped f_at f_behind f_size f_kind f_number f_wrong f_wrongAt f_faultKind f_faultPlace f_reading f_toldWhy f_x (0 : Int32) f_bestMany f_tail f_round1 b_stand a6 v8 v9 a10 a11 hv9) (cwV 1 ht (zr_V zr_342 zr_343 zr_344 zr_36 zr_339) rfl rfl rfl zk_X11_adds ⟨Nat.le_of_ble_eq_true rfl, Nat.le_of_ble_eq_true rfl⟩) rfl rfl hK hP hD hS hA [5, 2, 4] [0, 1, 3, 6] (by decide) (by decide) (by decide) rfl rfl rfl hl.1 (Nat.le_of_ble_eq_true rfl) dX11_laysStands_32 ⟨Nat.zero_le _, Nat.zero_le _⟩ rfl (fun H locs hP hD hS => ?_)
    have hP : va_P (dC, dI) zz_cls [(ad 17, .inl (dA 0, 900, .inl b_reckoned)), (ad 18, .inl (dA 0, 6, .inl b_words)), (ad 23, .inl (dA 0, 43200, .inl b_then)), (ad 2, .inl (dA 0, 2982, .inl b_all)), zr_o ad f_thrown f_taped f_at f_behind f_size f_kind f_number f_wrong f_wrongAt f_faultKind f_faultPlace f_reading f_toldWhy f_x v9 f_bestMany f_tail f_round1, (ad 22, .inl (dA 0, 2880, .inl a10)), (ad 25, .inl (dA 2, 2880, .inl a11))] H := hP
    have hD : va_D A [(ad 17, .inl (dA 0, 900, .inl b_reckoned)), (ad 18, .inl (dA 0, 6, .inl b_words)), (ad 23, .inl (dA 0, 43200, .inl b_then)), (ad 2, .inl (dA 0, 2982, .inl b_all)), zr_o ad f_thrown f_taped f_at f_behind f_size f_kind f_number f_wrong f_wrongAt f_faultKind f_faultPlace f_reading f_toldWhy f_x v9 f_bestMany f_tail f_round1, (ad 22, .inl (dA 0, 2880, .inl a10)), (ad 25, .inl (dA 2, 2880, .inl a11))] := hD
    refine lv_iconst (v := (0 : Int32)) (pc := 35) hx hb dX11_laysStands_35 (by decide) ?_
    refine lv_istore_n (lv' := [(2, .int (0 : Int32)), (0, .ref (ad 0)), (1, .int p1)]) (pc := 36) hx hb dX11_laysStands_36 rfl hl (by decide) rfl (fun ls hl => ?_)
    obtain ⟨g72, v65, v66, a67, a68, a69, a70, a71, hj, hf⟩ := zc_8 hf
    refine zj_join (pcJ := 179) (stk := []) (X := fun H locs ls => lv_has ls 5 [] ∧ va_P (dC, dI) zz_cls [zr_o ad f_thrown f_taped f_at f_behind f_size f_kind f_number f_wrong f_wrongAt f_faultKind f_faultPlace f_reading f_toldWhy f_x v66 f_bestMany f_tail f_round1, (ad 2, .inl (dA 0, 2982, .inl b_all)), (ad 17, .inl (dA 0, 900, .inl a67)), (ad 18, .inl (dA 0, 6, .inl a68)), (ad 22, .inl (dA 0, 2880, .inl a69)), (ad 23, .inl (dA 0, 43200, .inl a70)), (ad 25, .inl (dA 2, 2880, .inl a71))] H ∧ va_D A [zr_o ad f_thrown f_taped f_at f_behind f_size f_kind f_number f_wrong f_wrongAt f_faultKind f_faultPlace f_reading f_toldWhy f_x v66 f_bestMany f_tail f_round1, (ad 2, .inl (dA 0, 2982, .inl b_all)), (ad 17, .inl (dA 0, 900, .inl a67)), (ad 18, .inl (dA 0, 6, .inl a68)), (ad 22, .inl (dA 0, 2880, .inl a69)), (ad 23, .inl (dA 0, 43200, .inl a70)), (ad 25, .inl (dA 2, 2880, .inl a71))] ∧ va_S A s.heap H locs) (fun H locs ls hX => ?_) (fun E179 => ?_)
    · obtain ⟨hl, hP, hD, hS⟩ := hX
      clear hj
      obtain ⟨rfl, rfl, rfl, rfl, rfl, rfl⟩ := zi_6 hf
      exact W.vret (pc := 179) hx hb hr (fun t ht hW => ⟨⟨(), rfl, trivial, zz_Bi (by rw [ht]; exact hP) (va_K.moved hW.alike hK) (hD)⟩, hS.F ht⟩) hS.2.2 dX11_laysStands_179
    clear hf
    refine zw_loop (pcH := 37) (X := fun v H locs ls => lv_has ls 5 [(0, .ref (ad 0)), (1, .int p1), (2, .int v.1)] ∧ va_P (dC, dI) zz_cls [zr_o ad f_thrown f_taped f_at f_behind f_size f_kind f_number f_wrong f_wrongAt f_faultKind f_faultPlace f_reading f_toldWhy f_x v.2.1 f_bestMany f_tail f_round1, (ad 2, .inl (dA 0, 2982, .inl b_all)), (ad 17, .inl (dA 0, 900, .inl v.2.2.1)), (ad 18, .inl (dA 0, 6, .inl v.2.2.2.1)), (ad 22, .inl (dA 0, 2880, .inl v.2.2.2.2.1)), (ad 23, .inl (dA 0, 43200, .inl v.2.2.2.2.2.1)), (ad 25, .inl (dA 2, 2880, .inl v.2.2.2.2.2.2))] H ∧ va_D A [zr_o ad f_thrown f_taped f_at f_behind f_size f_kind f_number f_wrong f_wrongAt f_faultKind f_faultPlace f_reading f_toldWhy f_x v.2.1 f_bestMany f_tail f_round1, (ad 2, .inl (dA 0, 2982, .inl b_all)), (ad 17, .inl (dA 0, 900, .inl v.2.2.1)), (ad 18, .inl (dA 0, 6, .inl v.2.2.2.1)), (ad 22, .inl (dA 0, 2880, .inl v.2.2.2.2.1)), (ad 23, .inl (dA 0, 43200, .inl v.2.2.2.2.2.1)), (ad 25, .inl (dA 2, 2880, .inl v.2.2.2.2.2.2))] ∧ va_S A s.heap H locs) hj (fun v w hf ih ex H locs ls hX => ?_) _ _ _ ⟨lv_sub hl [1, 2, 0] rfl, hP.sub [4, 3, 0, 1, 5, 2, 6] rfl, hD.sub [4, 3, 0, 1, 5, 2, 6] (by decide) rfl, hS⟩
    clear hj
    obtain ⟨v12, v13, a14, a15, a16, a17, a18⟩ := v
    obtain ⟨hl, hP, hD, hS⟩ := hX
    have hl : lv_has ls 5 [(0, .ref (ad 0)), (1, .int p1), (2, .int v12)] := hl
    have hP : va_P (dC, dI) zz_cls [zr_o ad f_thrown f_taped f_at f_behind f_size f_kind f_number f_wrong f_wrongAt f_faultKind f_faultPlace f_reading f_toldWhy f_x v13 f_bestMany f_tail f_round1, (ad 2, .inl (dA 0, 2982, .inl b_all)), (ad 17, .inl (dA 0, 900, .inl a14)), (ad 18, .inl (dA 0, 6, .inl a15)), (ad 22, .inl (dA 0, 2880, .inl a16)), (ad 23, .inl (dA 0, 43200, .inl a17)), (ad 25, .inl (dA 2, 2880, .inl a18))] H := hP
    have hD : va_D A [zr_o ad f_thrown f_taped f_at f_behind f_size f_kind f_number f_wrong f_wrongAt f_faultKind f_faultPlace f_reading f_toldWhy f_x v13 f_bestMany f_tail f_round1, (ad 2, .inl (dA 0, 2982, .inl b_all)), (ad 17, .inl (dA 0, 900, .inl a14)), (ad 18, .inl (dA 0, 6, .inl a15)), (ad 22, .inl (dA 0, 2880, .inl a16)), (ad 23, .inl (dA 0, 43200, .inl a17)), (ad 25, .inl (dA 2, 2880, .inl a18))] := hD
    replace hf : zb_X11_laysStands_37 b_all n p1 v12 v13 a14 a15 a16 a17 a18 = some w := hf
    unfold zb_X11_laysStands_37 at hf
    refine lv_iload_n (pc := 37) hx hb dX11_laysStands_37 rfl (lv_at hl 2 rfl) ?_
    refine lv_aload_n (pc := 38) hx hb dX11_laysStands_38 rfl (lv_at hl 0 rfl) ?_
    refine va_get (pc := 39) (D := (dC, dI)) (ci := 0) (v := .int v13) (C := RX11) (T := TX11) (N := 42) hx hb ht zr_lay hown hK hP 0 rfl rfl 25 (by decide) (ht _ zr_340) (fun _ h9 => h9) rfl dX11_laysStands_39 ?_
    refine lv_icmp_ge (tgt := 179) (pc := 42) hx hb dX11_laysStands_42 rfl (fun hc => ?_) (fun hc => ?_)
    · have hf := za_t hf hc
      obtain rfl := Option.some.inj hf
      obtain ⟨rfl, rfl, rfl, rfl, rfl, rfl, rfl, rfl⟩ := zp_8 (ex (show ¬ (1 : Nat) = 0 by decide))
      exact E179 _ _ _ ⟨lv_sub hl [] rfl, hP, hD, hS⟩
    · have hf := za_f hf hc
      refine lv_iconst (v := (0 : Int32)) (pc := 45) hx hb dX11_laysStands_45 (by decide) ?_
      refine lv_istore_n (lv' := [(3, .int (0 : Int32)), (0, .ref (ad 0)), (1, .int p1), (2, .int v12)]) (pc := 46) hx hb dX11_laysStands_46 rfl hl (by decide) rfl (fun ls hl => ?_)
      obtain ⟨g63, v56, v57, a58, a59, a60, a61, a62, hj, hf⟩ := zc_8 hf
      refine zj_join (pcJ := 173) (stk := []) (X := fun H locs ls => lv_has ls 5 [(0, .ref (ad 0)), (1, .int p1), (2, .int v12)] ∧ va_P (dC, dI) zz_cls [zr_o ad f_thrown f_taped f_at f_behind f_size f_kind f_number f_wrong f_wrongAt f_faultKind f_faultPlace f_reading f_toldWhy f_x v57 f_bestMany f_tail f_round1, (ad 2, .inl (dA 0, 2982, .inl b_all)), (ad 17, .inl (dA 0, 900, .inl a58)), (ad 18, .inl (dA 0, 6, .inl a59)), (ad 22, .inl (dA 0, 2880, .inl a60)), (ad 23, .inl (dA 0, 43200, .inl a61)), (ad 25, .inl (dA 2, 2880, .inl a62))] H ∧ va_D A [zr_o ad f_thrown f_taped f_at f_behind f_size f_kind f_number f_wrong f_wrongAt f_faultKind f_faultPlace f_reading f_toldWhy f_x v57 f_bestMany f_tail f_round1, (ad 2, .inl (dA 0, 2982, .inl b_all)), (ad 17, .inl (dA 0, 900, .inl a58)), (ad 18, .inl (dA 0, 6, .inl a59)), (ad 22, .inl (dA 0, 2880, .inl a60)), (ad 23, .inl (dA 0, 43200, .inl a61)), (ad 25, .inl (dA 2, 2880, .inl a62))] ∧ va_S A s.heap H locs) (fun H locs ls hX => ?_) (fun E173 => ?_)
      · obtain ⟨hl, hP, hD, hS⟩ := hX
        clear hj
        obtain ⟨v64, hv64, hf⟩ := zc_1 hf
        refine lv_iinc (v := v64) (lv' := [(2, .int v64), (0, .ref (ad 0)), (1, .int p1)]) (k := 2) (pc := 173) hx hb dX11_laysStands_173 hl rfl (Option.some.inj hv64) (by decide) rfl (fun ls hl => ?_)
        refine lv_goto (tgt := 37) (pc := 176) hx hb dX11_laysStands_176 rfl ?_
        obtain rfl := Option.some.inj hf
        exact ih rfl _ _ _ ⟨lv_sub hl [1, 2, 0] rfl, hP, hD, hS⟩
      clear hf
      refine zw_loop (pcH := 47) (X := fun v H locs ls => lv_has ls 5 [(0, .ref (ad 0)), (1, .int p1), (2, .int v12), (3, .int v.1)] ∧ va_P (dC, dI) zz_cls [zr_o ad f_thrown f_taped f_at f_behind f_size f_kind f_number f_wrong f_wrongAt f_faultKind f_faultPlace f_reading f_toldWhy f_x v.2.1 f_bestMany f_tail f_round1, (ad 2, .inl (dA 0, 2982, .inl b_all)), (ad 17, .inl (dA 0, 900, .inl v.2.2.1)), (ad 18, .inl (dA 0, 6, .inl v.2.2.2.1)), (ad 22, .inl (dA 0, 2880, .inl v.2.2.2.2.1)), (ad 23, .inl (dA 0, 43200, .inl v.2.2.2.2.2.1)), (ad 25, .inl (dA 2, 2880, .inl v.2.2.2.2.2.2))] H ∧ va_D A [zr_o ad f_thrown f_taped f_at f_behind f_size f_kind f_number f_wrong f_wrongAt f_faultKind f_faultPlace f_reading f_toldWhy f_x v.2.1 f_bestMany f_tail f_round1, (ad 2, .inl (dA 0, 2982, .inl b_all)), (ad 17, .inl (dA 0, 900, .inl v.2.2.1)), (ad 18, .inl (dA 0, 6, .inl v.2.2.2.1)), (ad 22, .inl (dA 0, 2880, .inl v.2.2.2.2.1)), (ad 23, .inl (dA 0, 43200, .inl v.2.2.2.2.2.1)), (ad 25, .inl (dA 2, 2880, .inl v.2.2.2.2.2.2))] ∧ va_S A s.heap H locs) hj (fun v w hf ih ex H locs ls hX => ?_) _ _ _ ⟨lv_sub hl [1, 2, 3, 0] rfl, hP, hD, hS⟩
      clear hj
      obtain ⟨v19, v20, a21, a22, a23, a24, a25⟩ := v
      obtain ⟨hl, hP, hD, hS⟩ := hX
      have hl : lv_has ls 5 [(0, .ref (ad 0)), (1, .int p1), (2, .int v12), (3, .int v19)] := hl
      have hP : va_P (dC, dI) zz_cls [zr_o ad f_thrown f_taped f_at f_behind f_size f_kind f_number f_wrong f_wrongAt f_faultKind f_faultPlace f_reading f_toldWhy f_x v20 f_bestMany f_tail f_round1, (ad 2, .inl (dA 0, 2982, .inl b_all)), (ad 17, .inl (dA 0, 900, .inl a21)), (ad 18, .inl (dA 0, 6, .inl a22)), (ad 22, .inl (dA 0, 2880, .inl a23)), (ad 23, .inl (dA 0, 43200, .inl a24)), (ad 25, .inl (dA 2, 2880, .inl a25))] H := hP
      have hD : va_D A [zr_o ad f_thrown f_taped f_at f_behind f_size f_kind f_number f_wrong f_wrongAt f_faultKind f_faultPlace f_reading f_toldWhy f_x v20 f_bestMany f_tail f_round1, (ad 2, .inl (dA 0, 2982, .inl b_all)), (ad 17, .inl (dA 0, 900, .inl a21)), (ad 18, .inl (dA 0, 6, .inl a22)), (ad 22, .inl (dA 0, 2880, .inl a23)), (ad 23, .inl (dA 0, 43200, .inl a24)), (ad 25, .inl (dA 2, 2880, .inl a25))] := hD
      replace hf : zb_X11_laysStands_47 b_all v12 n p1 v19 v20 a21 a22 a23 a24 a25 = some w := hf
      unfold zb_X11_laysStands_47 at hf
      refine lv_iload_n (pc := 47) hx hb dX11_laysStands_47 rfl (lv_at hl 3 rfl) ?_
      refine lv_bipush (v := (15 : Int32)) (pc := 48) hx hb dX11_laysStands_48 (by decide) ?_
      refine lv_icmp_ge (tgt := 173) (pc := 50) hx hb dX11_laysStands_50 rfl (fun hc => ?_) (fun hc => ?_)
      · have hf := za_t hf hc
        obtain rfl := Option.some.inj hf
        obtain ⟨rfl, rfl, rfl, rfl, rfl, rfl, rfl, rfl⟩ := zp_8 (ex (show ¬ (1 : Nat) = 0 by decide))
        exact E173 _ _ _ ⟨lv_sub hl [0, 1, 2] rfl, hP, hD, hS⟩
      · have hf := za_f hf hc
        refine lv_aload_n (pc := 53) hx hb dX11_laysStands_53 rfl (lv_at hl 0 rfl) ?_
        refine lv_iload_n (pc := 54) hx hb dX11_laysStands_54 rfl (lv_at hl 3 rfl) ?_
        obtain ⟨v26, hv26, hf⟩ := zc_1 hf
        refine zw_Vi (pc := 55) (wc := [zr_o ad f_thrown f_taped f_at f_behind f_size f_kind f_number f_wrong f_wrongAt f_faultKind f_faultPlace f_reading f_toldWhy f_x v20 f_bestMany f_tail f_round1, (ad 2, .inl (dA 0, 2982, .inl b_all))]) (wr := [(ad 17, .inl (dA 0, 900, .inl a21)), (ad 18, .inl (dA 0, 6, .inl a22)), (ad 22, .inl (dA 0, 2880, .inl a23)), (ad 23, .inl (dA 0, 43200, .inl a24)), (ad 25, .inl (dA 2, 2880, .inl a25))]) (w1 := [zr_o ad f_thrown f_taped f_at f_behind f_size f_kind f_number f_wrong f_wrongAt f_faultKind f_faultPlace f_reading f_toldWhy f_x v20 f_bestMany f_tail f_round1, (ad 2, .inl (dA 0, 2982, .inl b_all))]) (As := [.int v19]) (rest := []) ⟨hx, hb, hml, hown, ht⟩ (zt_X11_isMove l dC dI dA ad _ f_thrown f_taped f_at f_behind f_size f_kind f_number f_wrong f_wrongAt f_faultKind f_faultPlace f_reading f_toldWhy f_x v20 f_bestMany f_tail f_round1 b_all v19 v26 hv26) (cwV 1 ht (zr_V zr_345 zr_346 zr_347 zr_36 zr_238) rfl rfl rfl zk_X11_isMove ⟨Nat.le_of_ble_eq_true rfl, Nat.le_of_ble_eq_true rfl⟩) rfl rfl hK hP hD hS hA [0, 1] [2, 3, 4, 5, 6] (by decide) (by decide) (by decide) rfl rfl rfl hl.1 (Nat.le_of_ble_eq_true rfl) dX11_laysStands_55 ⟨Nat.zero_le _, Nat.zero_le _⟩ rfl (fun H locs hP hD hS => ?_)
        have hP : va_P (dC, dI) zz_cls [(ad 17, .inl (dA 0, 900, .inl a21)), (ad 18, .inl (dA 0, 6, .inl a22)), (ad 22, .inl (dA 0, 2880, .inl a23)), (ad 23, .inl (dA 0, 43200, .inl a24)), (ad 25, .inl (dA 2, 2880, .inl a25)), zr_o ad f_thrown f_taped f_at f_behind f_size f_kind f_number f_wrong f_wrongAt f_faultKind f_faultPlace f_reading f_toldWhy f_x v20 f_bestMany f_tail f_round1, (ad 2, .inl (dA 0, 2982, .inl b_all))] H := hP
        have hD : va_D A [(ad 17, .inl (dA 0, 900, .inl a21)), (ad 18, .inl (dA 0, 6, .inl a22)), (ad 22, .inl (dA 0, 2880, .inl a23)), (ad 23, .inl (dA 0, 43200, .inl a24)), (ad 25, .inl (dA 2, 2880, .inl a25)), zr_o ad f_thrown f_taped f_at f_behind f_size f_kind f_number f_wrong f_wrongAt f_faultKind f_faultPlace f_reading f_toldWhy f_x v20 f_bestMany f_tail f_round1, (ad 2, .inl (dA 0, 2982, .inl b_all))] := hD
        obtain ⟨v37, a38, a39, hj, hf⟩ := zc_3 hf
        refine zj_join (pcJ := 104) (stk := [.int v37]) (X := fun H locs ls => lv_has ls 5 [(0, .ref (ad 0)), (1, .int p1), (2, .int v12), (3, .int v19)] ∧ va_P (dC, dI) zz_cls [zr_o ad f_thrown f_taped f_at f_behind f_size f_kind f_number f_wrong f_wrongAt f_faultKind f_faultPlace f_reading f_toldWhy f_x v20 f_bestMany f_tail f_round1, (ad 2, .inl (dA 0, 2982, .inl b_all)), (ad 17, .inl (dA 0, 900, .inl a38)), (ad 18, .inl (dA 0, 6, .inl a39)), (ad 22, .inl (dA 0, 2880, .inl a23)), (ad 23, .inl (dA 0, 43200, .inl a24)), (ad 25, .inl (dA 2, 2880, .inl a25))] H ∧ va_D A [zr_o ad f_thrown f_taped f_at f_behind f_size f_kind f_number f_wrong f_wrongAt f_faultKind f_faultPlace f_reading f_toldWhy f_x v20 f_bestMany f_tail f_round1, (ad 2, .inl (dA 0, 2982, .inl b_all)), (ad 17, .inl (dA 0, 900, .inl a38)), (ad 18, .inl (dA 0, 6, .inl a39)), (ad 22, .inl (dA 0, 2880, .inl a23)), (ad 23, .inl (dA 0, 43200, .inl a24)), (ad 25, .inl (dA 2, 2880, .inl a25))] ∧ va_S A s.heap H locs) (fun H locs ls hX => ?_) (fun J104 => ?_)
        · obtain ⟨hl, hP, hD, hS⟩ := hX
          clear hj
          refine lv_istore (lv' := [(4, .int v37), (0, .ref (ad 0)), (1, .int p1), (2, .int v12), (3, .int v19)]) (pc := 104) hx hb dX11_laysStands_104 hl (by decide) rfl (fun ls hl => ?_)
          refine lv_aload_n (pc := 106) hx hb dX11_laysStands_106 rfl (lv_at hl 1 rfl) ?_
          refine va_get (pc := 107) (D := (dC, dI)) (ci := 0) (v := .ref (ad 23)) (C := RX11) (T := TX11) (N := 42) hx hb ht zr_lay hown hK hP 0 rfl rfl 22 (by decide) (ht _ zr_17) (fun _ h9 => h9) rfl dX11_laysStands_107 ?_
          refine lv_bipush (v := (15 : Int32)) (pc := 110) hx hb dX11_laysStands_110 (by decide) ?_
          refine lv_aload_n (pc := 112) hx hb dX11_laysStands_112 rfl (lv_at hl 1 rfl) ?_
          refine va_get (pc := 113) (D := (dC, dI)) (ci := 0) (v := .ref (ad 22)) (C := RX11) (T := TX11) (N := 42) hx hb ht zr_lay hown hK hP 0 rfl rfl 21 (by decide) (ht _ zr_15) (fun _ h9 => h9) rfl dX11_laysStands_113 ?_
          refine lv_iload_n (pc := 116) hx hb dX11_laysStands_116 rfl (lv_at hl 3 rfl) ?_
          obtain ⟨v40, hv40, hf⟩ := zc_1 hf
          refine zw_iald (pc := 117) hx hb hK hP 4 0 rfl rfl hv40 dX11_laysStands_117 ?_
          refine lv_imul (pc := 118) hx hb dX11_laysStands_118 ?_
          refine lv_iload_n (pc := 119) hx hb dX11_laysStands_119 rfl (lv_at hl 4 rfl) ?_
          refine lv_iadd (pc := 120) hx hb dX11_laysStands_120 ?_
          refine lv_iload (pc := 121) hx hb dX11_laysStands_121 (lv_at hl 0 rfl) ?_
          obtain ⟨a41, ha41, hf⟩ := zc_1 hf
          refine zw_iast (pc := 123) hx hb hK hP hD hS 5 0 rfl rfl ha41 dX11_laysStands_123 (fun H locs hP hD hS => ?_)
          have hP : va_P (dC, dI) zz_cls [zr_o ad f_thrown f_taped f_at f_behind f_size f_kind f_number f_wrong f_wrongAt f_faultKind f_faultPlace f_reading f_toldWhy f_x v20 f_bestMany f_tail f_round1, (ad 2, .inl (dA 0, 2982, .inl b_all)), (ad 17, .inl (dA 0, 900, .inl a38)), (ad 18, .inl (dA 0, 6, .inl a39)), (ad 22, .inl (dA 0, 2880, .inl a23)), (ad 23, .inl (dA 0, 43200, .inl a41)), (ad 25, .inl (dA 2, 2880, .inl a25))] H := hP
          have hD : va_D A [zr_o ad f_thrown f_taped f_at f_behind f_size f_kind f_number f_wrong f_wrongAt f_faultKind f_faultPlace f_reading f_toldWhy f_x v20 f_bestMany f_tail f_round1, (ad 2, .inl (dA 0, 2982, .inl b_all)), (ad 17, .inl (dA 0, 900, .inl a38)), (ad 18, .inl (dA 0, 6, .inl a39)), (ad 22, .inl (dA 0, 2880, .inl a23)), (ad 23, .inl (dA 0, 43200, .inl a41)), (ad 25, .inl (dA 2, 2880, .inl a25))] := hD
          refine lv_iload (pc := 124) hx hb dX11_laysStands_124 (lv_at hl 0 rfl) ?_
          refine lv_iconst (v := (-1 : Int32)) (pc := 126) hx hb dX11_laysStands_126 (by decide) ?_
          obtain ⟨v52, a53, a54, hj, hf⟩ := zc_3 hf
          refine zj_join (pcJ := 167) (stk := []) (X := fun H locs ls => lv_has ls 5 [(0, .ref (ad 0)), (1, .int p1), (2, .int v12), (3, .int v19)] ∧ va_P (dC, dI) zz_cls [zr_o ad f_thrown f_taped f_at f_behind f_size f_kind f_number f_wrong f_wrongAt f_faultKind f_faultPlace f_reading f_toldWhy f_x v52 f_bestMany f_tail f_round1, (ad 2, .inl (dA 0, 2982, .inl b_all)), (ad 17, .inl (dA 0, 900, .inl a38)), (ad 18, .inl (dA 0, 6, .inl a39)), (ad 22, .inl (dA 0, 2880, .inl a53)), (ad 23, .inl (dA 0, 43200, .inl a41)), (ad 25, .inl (dA 2, 2880, .inl a54))] H ∧ va_D A [zr_o ad f_thrown f_taped f_at f_behind f_size f_kind f_number f_wrong f_wrongAt f_faultKind f_faultPlace f_reading f_toldWhy f_x v52 f_bestMany f_tail f_round1, (ad 2, .inl (dA 0, 2982, .inl b_all)), (ad 17, .inl (dA 0, 900, .inl a38)), (ad 18, .inl (dA 0, 6, .inl a39)), (ad 22, .inl (dA 0, 2880, .inl a53)), (ad 23, .inl (dA 0, 43200, .inl a41)), (ad 25, .inl (dA 2, 2880, .inl a54))] ∧ va_S A s.heap H locs) (fun H locs ls hX => ?_) (fun J167 => ?_)
          · obtain ⟨hl, hP, hD, hS⟩ := hX
            clear hj
            obtain ⟨v55, hv55, hf⟩ := zc_1 hf
            refine lv_iinc (v := v55) (lv' := [(3, .int v55), (0, .ref (ad 0)), (1, .int p1), (2, .int v12)]) (k := 3) (pc := 167) hx hb dX11_laysStands_167 hl rfl (Option.some.inj hv55) (by decide) rfl (fun ls hl => ?_)
            refine lv_goto (tgt := 47) (pc := 170) hx hb dX11_laysStands_170 rfl ?_
            obtain rfl := Option.some.inj hf
            exact ih rfl _ _ _ ⟨lv_sub hl [1, 2, 3, 0] rfl, hP, hD, hS⟩
          · clear hf
            have hf := hj
            clear hj
            refine lv_icmp_ne (tgt := 133) (pc := 127) hx hb dX11_laysStands_127 rfl (fun hc => ?_) (fun hc => ?_)
            · have hf := za_f hf hc
              refine lv_aload_n (pc := 133) hx hb dX11_laysStands_133 rfl (lv_at hl 1 rfl) ?_
              refine lv_iload (pc := 134) hx hb dX11_laysStands_134 (lv_at hl 0 rfl) ?_
              obtain ⟨v42, a43, a44, hv42, hf⟩ := zc_3 hf
              refine zw_Vv (pc := 136) (wc := [zr_o ad f_thrown f_taped f_at f_behind f_size f_kind f_number f_wrong f_wrongAt f_faultKind f_faultPlace f_reading f_toldWhy f_x v20 f_bestMany f_tail f_round1, (ad 22, .inl (dA 0, 2880, .inl a23)), (ad 25, .inl (dA 2, 2880, .inl a25))]) (wr := [(ad 2, .inl (dA 0, 2982, .inl b_all)), (ad 17, .inl (dA 0, 900, .inl a38)), (ad 18, .inl (dA 0, 6, .inl a39)), (ad 23, .inl (dA 0, 43200, .inl a41))]) (w1 := [zr_o ad f_thrown f_taped f_at f_behind f_size f_kind f_number f_wrong f_wrongAt f_faultKind f_faultPlace f_reading f_toldWhy f_x v42 f_bestMany f_tail f_round1, (ad 22, .inl (dA 0, 2880, .inl a43)), (ad 25, .inl (dA 2, 2880, .inl a44))]) (As := [.int v37]) (rest := []) ⟨hx, hb, hml, hown, ht⟩ (zt_X11_adds l dC dI dA ad _ f_thrown f_taped f_at f_behind f_size f_kind f_number f_wrong f_wrongAt f_faultKind f_faultPlace f_reading f_toldWhy f_x v20 f_bestMany f_tail f_round1 a23 a25 v37 v42 a43 a44 hv42) (cwV 1 ht (zr_V zr_342 zr_343 zr_344 zr_36 zr_339) rfl rfl rfl zk_X11_adds ⟨Nat.le_of_ble_eq_true rfl, Nat.le_of_ble_eq_true rfl⟩) rfl rfl hK hP hD hS hA [0, 4, 6] [1, 2, 3, 5] (by decide) (by decide) (by decide) rfl rfl rfl hl.1 (Nat.le_of_ble_eq_true rfl) dX11_laysStands_136 ⟨Nat.zero_le _, Nat.zero_le _⟩ rfl (fun H locs hP hD hS => ?_)
              have hP : va_P (dC, dI) zz_cls [(ad 2, .inl (dA 0, 2982, .inl b_all)), (ad 17, .inl (dA 0, 900, .inl a38)), (ad 18, .inl (dA 0, 6, .inl a39)), (ad 23, .inl (dA 0, 43200, .inl a41)), zr_o ad f_thrown f_taped f_at f_behind f_size f_kind f_number f_wrong f_wrongAt f_faultKind f_faultPlace f_reading f_toldWhy f_x v42 f_bestMany f_tail f_round1, (ad 22, .inl (dA 0, 2880, .inl a43)), (ad 25, .inl (dA 2, 2880, .inl a44))] H := hP
              have hD : va_D A [(ad 2, .inl (dA 0, 2982, .inl b_all)), (ad 17, .inl (dA 0, 900, .inl a38)), (ad 18, .inl (dA 0, 6, .inl a39)), (ad 23, .inl (dA 0, 43200, .inl a41)), zr_o ad f_thrown f_taped f_at f_behind f_size f_kind f_number f_wrong f_wrongAt f_faultKind f_faultPlace f_reading f_toldWhy f_x v42 f_bestMany f_tail f_round1, (ad 22, .inl (dA 0, 2880, .inl a43)), (ad 25, .inl (dA 2, 2880, .inl a44))] := hD
              refine lv_iload_n (pc := 139) hx hb dX11_laysStands_139 rfl (lv_at hl 2 rfl) ?_
              refine lv_if_eq (tgt := 167) (pc := 140) hx hb dX11_laysStands_140 rfl (fun hc => ?_) (fun hc => ?_)
              · have hf := za_t hf hc
                obtain ⟨rfl, rfl, rfl⟩ := zi_3 hf
                exact J167 _ _ _ ⟨lv_sub hl [1, 2, 3, 4] rfl, hP.sub [4, 0, 1, 2, 5, 3, 6] rfl, hD.sub [4, 0, 1, 2, 5, 3, 6] (by decide) rfl, hS⟩
              · have hf := za_f hf hc
                refine lv_iload_n (pc := 143) hx hb dX11_laysStands_143 rfl (lv_at hl 4 rfl) ?_
                refine lv_iconst (v := (1 : Int32)) (pc := 144) hx hb dX11_laysStands_144 (by decide) ?_
                refine lv_icmp_ne (tgt := 167) (pc := 145) hx hb dX11_laysStands_145 rfl (fun hc => ?_) (fun hc => ?_)
                · have hf := za_f hf hc
                  obtain ⟨rfl, rfl, rfl⟩ := zi_3 hf
                  exact J167 _ _ _ ⟨lv_sub hl [1, 2, 3, 4] rfl, hP.sub [4, 0, 1, 2, 5, 3, 6] rfl, hD.sub [4, 0, 1, 2, 5, 3, 6] (by decide) rfl, hS⟩
                · have hf := za_t hf hc
                  refine lv_aload_n (pc := 148) hx hb dX11_laysStands_148 rfl (lv_at hl 1 rfl) ?_
                  refine lv_iload (pc := 149) hx hb dX11_laysStands_149 (lv_at hl 0 rfl) ?_
                  obtain ⟨v45, hv45, hf⟩ := zc_1 hf
                  refine zw_Si (pc := 151) (wc := []) (wr := [(ad 2, .inl (dA 0, 2982, .inl b_all)), (ad 17, .inl (dA 0, 900, .inl a38)), (ad 18, .inl (dA 0, 6, .inl a39)), (ad 23, .inl (dA 0, 43200, .inl a41)), zr_o ad f_thrown f_taped f_at f_behind f_size f_kind f_number f_wrong f_wrongAt f_faultKind f_faultPlace f_reading f_toldWhy f_x v42 f_bestMany f_tail f_round1, (ad 22, .inl (dA 0, 2880, .inl a43)), (ad 25, .inl (dA 2, 2880, .inl a44))]) (w1 := []) (As := [.int v37]) (rest := [.ref (ad 0)]) ⟨hx, hb, hml, hown, ht⟩ (zt_X11_gust l dC dI dA ad _ v37 v45 hv45) (cwS 1 ht (zr_S zr_348 zr_349 zr_36 zr_341) rfl rfl rfl zk_X11_gust ⟨Nat.le_of_ble_eq_true rfl, Nat.le_of_ble_eq_true rfl⟩) hK hP hD hS hA [] [0, 1, 2, 3, 4, 5, 6] (by decide) (by decide) (by decide) rfl rfl rfl hl.1 (Nat.le_of_ble_eq_true rfl) dX11_laysStands_151 ⟨Nat.zero_le _, Nat.zero_le _⟩ rfl (fun H locs hP hD hS => ?_)
                  have hP : va_P (dC, dI) zz_cls [(ad 2, .inl (dA 0, 2982, .inl b_all)), (ad 17, .inl (dA 0, 900, .inl a38)), (ad 18, .inl (dA 0, 6, .inl a39)), (ad 23, .inl (dA 0, 43200, .inl a41)), zr_o ad f_thrown f_taped f_at f_behind f_size f_kind f_number f_wrong f_wrongAt f_faultKind f_faultPlace f_reading f_toldWhy f_x v42 f_bestMany f_tail f_round1, (ad 22, .inl (dA 0, 2880, .inl a43)), (ad 25, .inl (dA 2, 2880, .inl a44))] H := hP
                  have hD : va_D A [(ad 2, .inl (dA 0, 2982, .inl b_all)), (ad 17, .inl (dA 0, 900, .inl a38)), (ad 18, .inl (dA 0, 6, .inl a39)), (ad 23, .inl (dA 0, 43200, .inl a41)), zr_o ad f_thrown f_taped f_at f_behind f_size f_kind f_number f_wrong f_wrongAt f_faultKind f_faultPlace f_reading f_toldWhy f_x v42 f_bestMany f_tail f_round1, (ad 22, .inl (dA 0, 2880, .inl a43)), (ad 25, .inl (dA 2, 2880, .inl a44))] := hD
                  obtain ⟨v46, a47, a48, hv46, hf⟩ := zc_3 hf
                  refine zw_Vv (pc := 154) (wc := [zr_o ad f_thrown f_taped f_at f_behind f_size f_kind f_number f_wrong f_wrongAt f_faultKind f_faultPlace f_reading f_toldWhy f_x v42 f_bestMany f_tail f_round1, (ad 22, .inl (dA 0, 2880, .inl a43)), (ad 25, .inl (dA 2, 2880, .inl a44))]) (wr := [(ad 2, .inl (dA 0, 2982, .inl b_all)), (ad 17, .inl (dA 0, 900, .inl a38)), (ad 18, .inl (dA 0, 6, .inl a39)), (ad 23, .inl (dA 0, 43200, .inl a41))]) (w1 := [zr_o ad f_thrown f_taped f_at f_behind f_size f_kind f_number f_wrong f_wrongAt f_faultKind f_faultPlace f_reading f_toldWhy f_x v46 f_bestMany f_tail f_round1, (ad 22, .inl (dA 0, 2880, .inl a47)), (ad 25, .inl (dA 2, 2880, .inl a48))]) (As := [.int v45]) (rest := []) ⟨hx, hb, hml, hown, ht⟩ (zt_X11_adds l dC dI dA ad _ f_thrown f_taped f_at f_behind f_size f_kind f_number f_wrong f_wrongAt f_faultKind f_faultPlace f_reading f_toldWhy f_x v42 f_bestMany f_tail f_round1 a43 a44 v45 v46 a47 a48 hv46) (cwV 1 ht (zr_V zr_342 zr_343 zr_344 zr_36 zr_339) rfl rfl rfl zk_X11_adds ⟨Nat.le_of_ble_eq_true rfl, Nat.le_of_ble_eq_true rfl⟩) rfl rfl hK hP hD hS hA [4, 5, 6] [0, 1, 2, 3] (by decide) (by decide) (by decide) rfl rfl rfl hl.1 (Nat.le_of_ble_eq_true rfl) dX11_laysStands_154 ⟨Nat.zero_le _, Nat.zero_le _⟩ rfl (fun H locs hP hD hS => ?_)
                  have hP : va_P (dC, dI) zz_cls [(ad 2, .inl (dA 0, 2982, .inl b_all)), (ad 17, .inl (dA 0, 900, .inl a38)), (ad 18, .inl (dA 0, 6, .inl a39)), (ad 23, .inl (dA 0, 43200, .inl a41)), zr_o ad f_thrown f_taped f_at f_behind f_size f_kind f_number f_wrong f_wrongAt f_faultKind f_faultPlace f_reading f_toldWhy f_x v46 f_bestMany f_tail f_round1, (ad 22, .inl (dA 0, 2880, .inl a47)), (ad 25, .inl (dA 2, 2880, .inl a48))] H := hP
                  have hD : va_D A [(ad 2, .inl (dA 0, 2982, .inl b_all)), (ad 17, .inl (dA 0, 900, .inl a38)), (ad 18, .inl (dA 0, 6, .inl a39)), (ad 23, .inl (dA 0, 43200, .inl a41)), zr_o ad f_thrown f_taped f_at f_behind f_size f_kind f_number f_wrong f_wrongAt f_faultKind f_faultPlace f_reading f_toldWhy f_x v46 f_bestMany f_tail f_round1, (ad 22, .inl (dA 0, 2880, .inl a47)), (ad 25, .inl (dA 2, 2880, .inl a48))] := hD
                  refine lv_aload_n (pc := 157) hx hb dX11_laysStands_157 rfl (lv_at hl 1 rfl) ?_
                  refine lv_iload (pc := 158) hx hb dX11_laysStands_158 (lv_at hl 0 rfl) ?_
                  refine lv_sipush (v := (320 : Int32)) (pc := 160) hx hb dX11_laysStands_160 (by decide) ?_
                  refine lv_isub (pc := 163) hx hb dX11_laysStands_163 ?_
                  obtain ⟨v49, a50, a51, hv49, hf⟩ := zc_3 hf
                  refine zw_Vv (pc := 164) (wc := [zr_o ad f_thrown f_taped f_at f_behind f_size f_kind f_number f_wrong f_wrongAt f_faultKind f_faultPlace f_reading f_toldWhy f_x v46 f_bestMany f_tail f_round1, (ad 22, .inl (dA 0, 2880, .inl a47)), (ad 25, .inl (dA 2, 2880, .inl a48))]) (wr := [(ad 2, .inl (dA 0, 2982, .inl b_all)), (ad 17, .inl (dA 0, 900, .inl a38)), (ad 18, .inl (dA 0, 6, .inl a39)), (ad 23, .inl (dA 0, 43200, .inl a41))]) (w1 := [zr_o ad f_thrown f_taped f_at f_behind f_size f_kind f_number f_wrong f_wrongAt f_faultKind f_faultPlace f_reading f_toldWhy f_x v49 f_bestMany f_tail f_round1, (ad 22, .inl (dA 0, 2880, .inl a50)), (ad 25, .inl (dA 2, 2880, .inl a51))]) (As := [.int (v37 - (320 : Int32))]) (rest := []) ⟨hx, hb, hml, hown, ht⟩ (zt_X11_adds l dC dI dA ad _ f_thrown f_taped f_at f_behind f_size f_kind f_number f_wrong f_wrongAt f_faultKind f_faultPlace f_reading f_toldWhy f_x v46 f_bestMany f_tail f_round1 a47 a48 (v37 - (320 : Int32)) v49 a50 a51 hv49) (cwV 1 ht (zr_V zr_342 zr_343 zr_344 zr_36 zr_339) rfl rfl rfl zk_X11_adds ⟨Nat.le_of_ble_eq_true rfl, Nat.le_of_ble_eq_true rfl⟩) rfl rfl hK hP hD hS hA [4, 5, 6] [0, 1, 2, 3] (by decide) (by decide) (by decide) rfl rfl rfl hl.1 (Nat.le_of_ble_eq_true rfl) dX11_laysStands_164 ⟨Nat.zero_le _, Nat.zero_le _⟩ rfl (fun H locs hP hD hS => ?_)
                  have hP : va_P (dC, dI) zz_cls [(ad 2, .inl (dA 0, 2982, .inl b_all)), (ad 17, .inl (dA 0, 900, .inl a38)), (ad 18, .inl (dA 0, 6, .inl a39)), (ad 23, .inl (dA 0, 43200, .inl a41)), zr_o ad f_thrown f_taped f_at f_behind f_size f_kind f_number f_wrong f_wrongAt f_faultKind f_faultPlace f_reading f_toldWhy f_x v49 f_bestMany f_tail f_round1, (ad 22, .inl (dA 0, 2880, .inl a50)), (ad 25, .inl (dA 2, 2880, .inl a51))] H := hP
                  have hD : va_D A [(ad 2, .inl (dA 0, 2982, .inl b_all)), (ad 17, .inl (dA 0, 900, .inl a38)), (ad 18, .inl (dA 0, 6, .inl a39)), (ad 23, .inl (dA 0, 43200, .inl a41)), zr_o ad f_thrown f_taped f_at f_behind f_size f_kind f_number f_wrong f_wrongAt f_faultKind f_faultPlace f_reading f_toldWhy f_x v49 f_bestMany f_tail f_round1, (ad 22, .inl (dA 0, 2880, .inl a50)), (ad 25, .inl (dA 2, 2880, .inl a51))] := hD
                  obtain ⟨rfl, rfl, rfl⟩ := zi_3 hf
                  exact J167 _ _ _ ⟨lv_sub hl [1, 2, 3, 4] rfl, hP.sub [4, 0, 1, 2, 5, 3, 6] rfl, hD.sub [4, 0, 1, 2, 5, 3, 6] (by decide) rfl, hS⟩
            · have hf := za_t hf hc
              refine lv_goto (tgt := 167) (pc := 130) hx hb dX11_laysStands_130 rfl ?_
              obtain ⟨rfl, rfl, rfl⟩ := zi_3 hf
              exact J167 _ _ _ ⟨lv_sub hl [1, 2, 3, 4] rfl, hP, hD, hS⟩
        · clear hf
          have hf := hj
          clear hj
          refine lv_if_eq (tgt := 103) (pc := 58) hx hb dX11_laysStands_58 rfl (fun hc => ?_) (fun hc => ?_)
          · have hf := za_t hf hc
            refine lv_iconst (v := (-1 : Int32)) (pc := 103) hx hb dX11_laysStands_103 (by decide) ?_
            obtain ⟨rfl, rfl, rfl⟩ := zi_3 hf
            exact J104 _ _ _ ⟨lv_sub hl [0, 1, 2, 3] rfl, hP.sub [5, 6, 0, 1, 2, 3, 4] rfl, hD.sub [5, 6, 0, 1, 2, 3, 4] (by decide) rfl, hS⟩
          · have hf := za_f hf hc
            refine lv_aload_n (pc := 61) hx hb dX11_laysStands_61 rfl (lv_at hl 0 rfl) ?_
            refine lv_aload_n (pc := 62) hx hb dX11_laysStands_62 rfl (lv_at hl 0 rfl) ?_
            refine va_get (pc := 63) (D := (dC, dI)) (ci := 0) (v := .ref (ad 22)) (C := RX11) (T := TX11) (N := 42) hx hb ht zr_lay hown hK hP 5 rfl rfl 21 (by decide) (ht _ zr_15) (fun _ h9 => h9) rfl dX11_laysStands_63 ?_
            refine lv_iload_n (pc := 66) hx hb dX11_laysStands_66 rfl (lv_at hl 2 rfl) ?_
            obtain ⟨v27, hv27, hf⟩ := zc_1 hf
            refine zw_iald (pc := 67) hx hb hK hP 2 0 rfl rfl hv27 dX11_laysStands_67 ?_
            refine lv_iload_n (pc := 68) hx hb dX11_laysStands_68 rfl (lv_at hl 3 rfl) ?_
            refine lv_aload_n (pc := 69) hx hb dX11_laysStands_69 rfl (lv_at hl 0 rfl) ?_
            refine va_get (pc := 70) (D := (dC, dI)) (ci := 0) (v := .ref (ad 2)) (C := RX11) (T := TX11) (N := 42) hx hb ht zr_lay hown hK hP 5 rfl rfl 1 (by decide) (ht _ zr_6) (fun _ h9 => h9) rfl dX11_laysStands_70 ?_
            refine lv_bipush (v := (40 : Int32)) (pc := 73) hx hb dX11_laysStands_73 (by decide) ?_
            obtain ⟨v28, hv28, hf⟩ := zc_1 hf
            refine zw_iald (pc := 75) hx hb hK hP 6 0 rfl rfl hv28 dX11_laysStands_75 ?_
            obtain ⟨v29, a30, a31, hv29, hf⟩ := zc_3 hf
            refine zw_Vi (pc := 76) (wc := [zr_o ad f_thrown f_taped f_at f_behind f_size f_kind f_number f_wrong f_wrongAt f_faultKind f_faultPlace f_reading f_toldWhy f_x v20 f_bestMany f_tail f_round1, (ad 2, .inl (dA 0, 2982, .inl b_all)), (ad 17, .inl (dA 0, 900, .inl a21)), (ad 18, .inl (dA 0, 6, .inl a22))]) (wr := [(ad 22, .inl (dA 0, 2880, .inl a23)), (ad 23, .inl (dA 0, 43200, .inl a24)), (ad 25, .inl (dA 2, 2880, .inl a25))]) (w1 := [zr_o ad f_thrown f_taped f_at f_behind f_size f_kind f_number f_wrong f_wrongAt f_faultKind f_faultPlace f_reading f_toldWhy f_x v20 f_bestMany f_tail f_round1, (ad 2, .inl (dA 0, 2982, .inl b_all)), (ad 17, .inl (dA 0, 900, .inl a30)), (ad 18, .inl (dA 0, 6, .inl a31))]) (As := [.int v27, .int v19, .int v28]) (rest := []) ⟨hx, hb, hml, hown, ht⟩ (zt_X11_whyBy l dC dI dA ad _ n f_thrown f_taped f_at f_behind f_size f_kind f_number f_wrong f_wrongAt f_faultKind f_faultPlace f_reading f_toldWhy f_x v20 f_bestMany f_tail f_round1 b_all a21 a22 v27 v19 v28 v29 a30 a31 hv29) (cwV 3 ht (zr_V zr_264 zr_265 zr_266 zr_36 zr_248) rfl rfl rfl zk_X11_whyBy ⟨Nat.le_of_ble_eq_true rfl, Nat.le_of_ble_eq_true rfl⟩) rfl rfl hK hP hD hS hA [5, 6, 0, 1] [2, 3, 4] (by decide) (by decide) (by decide) rfl rfl rfl hl.1 (Nat.le_of_ble_eq_true rfl) dX11_laysStands_76 ⟨Nat.zero_le _, Nat.zero_le _⟩ rfl (fun H locs hP hD hS => ?_)
            have hP : va_P (dC, dI) zz_cls [(ad 22, .inl (dA 0, 2880, .inl a23)), (ad 23, .inl (dA 0, 43200, .inl a24)), (ad 25, .inl (dA 2, 2880, .inl a25)), zr_o ad f_thrown f_taped f_at f_behind f_size f_kind f_number f_wrong f_wrongAt f_faultKind f_faultPlace f_reading f_toldWhy f_x v20 f_bestMany f_tail f_round1, (ad 2, .inl (dA 0, 2982, .inl b_all)), (ad 17, .inl (dA 0, 900, .inl a30)), (ad 18, .inl (dA 0, 6, .inl a31))] H := hP
            have hD : va_D A [(ad 22, .inl (dA 0, 2880, .inl a23)), (ad 23, .inl (dA 0, 43200, .inl a24)), (ad 25, .inl (dA 2, 2880, .inl a25)), zr_o ad f_thrown f_taped f_at f_behind f_size f_kind f_number f_wrong f_wrongAt f_faultKind f_faultPlace f_reading f_toldWhy f_x v20 f_bestMany f_tail f_round1, (ad 2, .inl (dA 0, 2982, .inl b_all)), (ad 17, .inl (dA 0, 900, .inl a30)), (ad 18, .inl (dA 0, 6, .inl a31))] := hD
            refine lv_if_ne (tgt := 103) (pc := 79) hx hb dX11_laysStands_79 rfl (fun hc => ?_) (fun hc => ?_)
            · have hf := za_f hf hc
              refine lv_iconst (v := (-1 : Int32)) (pc := 103) hx hb dX11_laysStands_103 (by decide) ?_
              obtain ⟨rfl, rfl, rfl⟩ := zi_3 hf
              exact J104 _ _ _ ⟨lv_sub hl [0, 1, 2, 3] rfl, hP.sub [3, 4, 5, 6, 0, 1, 2] rfl, hD.sub [3, 4, 5, 6, 0, 1, 2] (by decide) rfl, hS⟩
            · have hf := za_t hf hc
              refine lv_aload_n (pc := 82) hx hb dX11_laysStands_82 rfl (lv_at hl 0 rfl) ?_
              refine lv_aload_n (pc := 83) hx hb dX11_laysStands_83 rfl (lv_at hl 0 rfl) ?_
              refine va_get (pc := 84) (D := (dC, dI)) (ci := 0) (v := .ref (ad 22)) (C := RX11) (T := TX11) (N := 42) hx hb ht zr_lay hown hK hP 3 rfl rfl 21 (by decide) (ht _ zr_15) (fun _ h9 => h9) rfl dX11_laysStands_84 ?_
              refine lv_iload_n (pc := 87) hx hb dX11_laysStands_87 rfl (lv_at hl 2 rfl) ?_
              obtain ⟨v32, hv32, hf⟩ := zc_1 hf
              refine zw_iald (pc := 88) hx hb hK hP 0 0 rfl rfl hv32 dX11_laysStands_88 ?_
              refine lv_iload_n (pc := 89) hx hb dX11_laysStands_89 rfl (lv_at hl 3 rfl) ?_
              refine lv_aload_n (pc := 90) hx hb dX11_laysStands_90 rfl (lv_at hl 0 rfl) ?_
              refine va_get (pc := 91) (D := (dC, dI)) (ci := 0) (v := .ref (ad 2)) (C := RX11) (T := TX11) (N := 42) hx hb ht zr_lay hown hK hP 3 rfl rfl 1 (by decide) (ht _ zr_6) (fun _ h9 => h9) rfl dX11_laysStands_91 ?_
              refine lv_bipush (v := (40 : Int32)) (pc := 94) hx hb dX11_laysStands_94 (by decide) ?_
              obtain ⟨v33, hv33, hf⟩ := zc_1 hf
              refine zw_iald (pc := 96) hx hb hK hP 4 0 rfl rfl hv33 dX11_laysStands_96 ?_
              obtain ⟨v34, a35, a36, hv34, hf⟩ := zc_3 hf
              refine zw_Vi (pc := 97) (wc := [zr_o ad f_thrown f_taped f_at f_behind f_size f_kind f_number f_wrong f_wrongAt f_faultKind f_faultPlace f_reading f_toldWhy f_x v20 f_bestMany f_tail f_round1, (ad 2, .inl (dA 0, 2982, .inl b_all)), (ad 17, .inl (dA 0, 900, .inl a30)), (ad 18, .inl (dA 0, 6, .inl a31))]) (wr := [(ad 22, .inl (dA 0, 2880, .inl a23)), (ad 23, .inl (dA 0, 43200, .inl a24)), (ad 25, .inl (dA 2, 2880, .inl a25))]) (w1 := [zr_o ad f_thrown f_taped f_at f_behind f_size f_kind f_number f_wrong f_wrongAt f_faultKind f_faultPlace f_reading f_toldWhy f_x v20 f_bestMany f_tail f_round1, (ad 2, .inl (dA 0, 2982, .inl b_all)), (ad 17, .inl (dA 0, 900, .inl a35)), (ad 18, .inl (dA 0, 6, .inl a36))]) (As := [.int v32, .int v19, .int v33]) (rest := []) ⟨hx, hb, hml, hown, ht⟩ (zt_X11_actedTo l dC dI dA ad _ n f_thrown f_taped f_at f_behind f_size f_kind f_number f_wrong f_wrongAt f_faultKind f_faultPlace f_reading f_toldWhy f_x v20 f_bestMany f_tail f_round1 b_all a30 a31 v32 v19 v33 v34 a35 a36 hv34) (cwV 3 ht (zr_V zr_272 zr_273 zr_274 zr_36 zr_253) rfl rfl rfl zk_X11_actedTo ⟨Nat.le_of_ble_eq_true rfl, Nat.le_of_ble_eq_true rfl⟩) rfl rfl hK hP hD hS hA [3, 4, 5, 6] [0, 1, 2] (by decide) (by decide) (by decide) rfl rfl rfl hl.1 (Nat.le_of_ble_eq_true rfl) dX11_laysStands_97 ⟨Nat.zero_le _, Nat.zero_le _⟩ rfl (fun H locs hP hD hS => ?_)
              have hP : va_P (dC, dI) zz_cls [(ad 22, .inl (dA 0, 2880, .inl a23)), (ad 23, .inl (dA 0, 43200, .inl a24)), (ad 25, .inl (dA 2, 2880, .inl a25)), zr_o ad f_thrown f_taped f_at f_behind f_size f_kind f_number f_wrong f_wrongAt f_faultKind f_faultPlace f_reading f_toldWhy f_x v20 f_bestMany f_tail f_round1, (ad 2, .inl (dA 0, 2982, .inl b_all)), (ad 17, .inl (dA 0, 900, .inl a35)), (ad 18, .inl (dA 0, 6, .inl a36))] H := hP
              have hD : va_D A [(ad 22, .inl (dA 0, 2880, .inl a23)), (ad 23, .inl (dA 0, 43200, .inl a24)), (ad 25, .inl (dA 2, 2880, .inl a25)), zr_o ad f_thrown f_taped f_at f_behind f_size f_kind f_number f_wrong f_wrongAt f_faultKind f_faultPlace f_reading f_toldWhy f_x v20 f_bestMany f_tail f_round1, (ad 2, .inl (dA 0, 2982, .inl b_all)), (ad 17, .inl (dA 0, 900, .inl a35)), (ad 18, .inl (dA 0, 6, .inl a36))] := hD
              refine lv_goto (tgt := 104) (pc := 100) hx hb dX11_laysStands_100 rfl ?_
              obtain ⟨rfl, rfl, rfl⟩ := zi_3 hf
              exact J104 _ _ _ ⟨lv_sub hl [0, 1, 2, 3] rfl, hP.sub [3, 4, 5, 6, 0, 1, 2] rfl, hD.sub [3, 4, 5, 6, 0, 1, 2] (by decide) rfl, hS⟩
  clear hf
  refine zw_loop (pcH := 2) (X := fun v H locs ls => lv_has ls 5 [(0, .ref (ad 0)), (1, .int p1), (2, .int v.1)] ∧ va_P (dC, dI) zz_cls [zr_o ad f_thrown f_taped f_at f_behind f_size f_kind f_number f_wrong f_wrongAt f_faultKind f_faultPlace f_reading f_toldWhy f_x f_standMany f_bestMany f_tail f_round1, (ad 2, .inl (dA 0, 2982, .inl b_all)), (ad 17, .inl (dA 0, 900, .inl b_reckoned)), (ad 18, .inl (dA 0, 6, .inl b_words)), (ad 22, .inl (dA 0, 2880, .inl b_stand)), (ad 23, .inl (dA 0, 43200, .inl b_then)), (ad 25, .inl (dA 2, 2880, .inl v.2))] H ∧ va_D A [zr_o ad f_thrown f_taped f_at f_behind f_size f_kind f_number f_wrong f_wrongAt f_faultKind f_faultPlace f_reading f_toldWhy f_x f_standMany f_bestMany f_tail f_round1, (ad 2, .inl (dA 0, 2982, .inl b_all)), (ad 17, .inl (dA 0, 900, .inl b_reckoned)), (ad 18, .inl (dA 0, 6, .inl b_words)), (ad 22, .inl (dA 0, 2880, .inl b_stand)), (ad 23, .inl (dA 0, 43200, .inl b_then)), (ad 25, .inl (dA 2, 2880, .inl v.2))] ∧ va_S A s.heap H locs) hj (fun v w hf ih ex H locs ls hX => ?_) _ _ _ ⟨lv_sub hl [1, 2, 0] rfl, hP, hD, hS⟩
  clear hj
  obtain ⟨v1, a2⟩ := v
  obtain ⟨hl, hP, hD, hS⟩ := hX
  have hl : lv_has ls 5 [(0, .ref (ad 0)), (1, .int p1), (2, .int v1)] := hl
  have hP : va_P (dC, dI) zz_cls [zr_o ad f_thrown f_taped f_at f_behind f_size f_kind f_number f_wrong f_wrongAt f_faultKind f_faultPlace f_reading f_toldWhy f_x f_standMany f_bestMany f_tail f_round1, (ad 2, .inl (dA 0, 2982, .inl b_all)), (ad 17, .inl (dA 0, 900, .inl b_reckoned)), (ad 18, .inl (dA 0, 6, .inl b_words)), (ad 22, .inl (dA 0, 2880, .inl b_stand)), (ad 23, .inl (dA 0, 43200, .inl b_then)), (ad 25, .inl (dA 2, 2880, .inl a2))] H := hP
  have hD : va_D A [zr_o ad f_thrown f_taped f_at f_behind f_size f_kind f_number f_wrong f_wrongAt f_faultKind f_faultPlace f_reading f_toldWhy f_x f_standMany f_bestMany f_tail f_round1, (ad 2, .inl (dA 0, 2982, .inl b_all)), (ad 17, .inl (dA 0, 900, .inl b_reckoned)), (ad 18, .inl (dA 0, 6, .inl b_words)), (ad 22, .inl (dA 0, 2880, .inl b_stand)), (ad 23, .inl (dA 0, 43200, .inl b_then)), (ad 25, .inl (dA 2, 2880, .inl a2))] := hD
  replace hf : zb_X11_laysStands_2 v1 a2 = some w := hf
  unfold zb_X11_laysStands_2 at hf
  refine lv_iload_n (pc := 2) hx hb dX11_laysStands_2 rfl (lv_at hl 2 rfl) ?_
  refine lv_sipush (v := (2880 : Int32)) (pc := 3) hx hb dX11_laysStands_3 (by decide) ?_
  refine lv_icmp_ge (tgt := 22) (pc := 6) hx hb dX11_laysStands_6 rfl (fun hc => ?_) (fun hc => ?_)
  · have hf := za_t hf hc
    obtain rfl := Option.some.inj hf
    obtain ⟨rfl, rfl, rfl⟩ := zp_3 (ex (show ¬ (1 : Nat) = 0 by decide))
    exact E22 _ _ _ ⟨lv_sub hl [0, 1] rfl, hP, hD, hS⟩
  · have hf := za_f hf hc
    refine lv_aload_n (pc := 9) hx hb dX11_laysStands_9 rfl (lv_at hl 0 rfl) ?_
    refine va_get (pc := 10) (D := (dC, dI)) (ci := 0) (v := .ref (ad 25)) (C := RX11) (T := TX11) (N := 42) hx hb ht zr_lay hown hK hP 0 rfl rfl 24 (by decide) (ht _ zr_19) (fun _ h9 => h9) rfl dX11_laysStands_10 ?_
    refine lv_iload_n (pc := 13) hx hb dX11_laysStands_13 rfl (lv_at hl 2 rfl) ?_
    refine lv_iconst (v := (0 : Int32)) (pc := 14) hx hb dX11_laysStands_14 (by decide) ?_
    obtain ⟨a3, ha3, hf⟩ := zc_1 hf
    refine zw_zast (pc := 15) hx hb hK hP hD hS 6 2 rfl rfl rfl ha3 dX11_laysStands_15 (fun H locs hP hD hS => ?_)
    have hP : va_P (dC, dI) zz_cls [zr_o ad f_thrown f_taped f_at f_behind f_size f_kind f_number f_wrong f_wrongAt f_faultKind f_faultPlace f_reading f_toldWhy f_x f_standMany f_bestMany f_tail f_round1, (ad 2, .inl (dA 0, 2982, .inl b_all)), (ad 17, .inl (dA 0, 900, .inl b_reckoned)), (ad 18, .inl (dA 0, 6, .inl b_words)), (ad 22, .inl (dA 0, 2880, .inl b_stand)), (ad 23, .inl (dA 0, 43200, .inl b_then)), (ad 25, .inl (dA 2, 2880, .inl a3))] H := hP
    have hD : va_D A [zr_o ad f_thrown f_taped f_at f_behind f_size f_kind f_number f_wrong f_wrongAt f_faultKind f_faultPlace f_reading f_toldWhy f_x f_standMany f_bestMany f_tail f_round1, (ad 2, .inl (dA 0, 2982, .inl b_all)), (ad 17, .inl (dA 0, 900, .inl b_reckoned)), (ad 18, .inl (dA 0, 6, .inl b_words)), (ad 22, .inl (dA 0, 2880, .inl b_stand)), (ad 23, .inl (dA 0, 43200, .inl b_then)), (ad 25, .inl (dA 2, 2880, .inl a3))] := hD
    obtain ⟨v4, hv4, hf⟩ := zc_1 hf
    refine lv_iinc (v := v4) (lv' := [(2, .int v4), (0, .ref (ad 0)), (1, .int p1)]) (k := 2) (pc := 16) hx hb dX11_laysStands_16 hl rfl (Option.some.inj hv4) (by decide) rfl (fun ls hl => ?_)
    refine lv_goto (tgt := 2) (pc := 19) hx hb dX11_laysStands_19 rfl ?_
    obtain rfl := Option.some.inj hf
    exact ih rfl _ _ _ ⟨lv_sub hl [1, 2, 0] rfl, hP, hD, hS⟩

def zf_X11_isGoal (p0 : Int32) (p1 : Int32) (p2 : Int32) : Option (Int32) :=
  zd_1 (zf_X11_rungIn p0) (fun v1 =>
  if v1 = p1 then
    zd_1 (zf_X11_hasIn p0) (fun v2 =>
    if (v2 &&& p2) = p2 then
      some (1 : Int32)
    else
      some (0 : Int32))
  else
    some (0 : Int32))
theorem zk_X11_isGoal : yX11_isGoal.cls = RX11 ∧ yX11_isGoal.cls ≠ "java/lang/invoke/MethodHandle" ∧ yX11_isGoal.cls ≠ "java/lang/invoke/VarHandle" ∧ (parseMethodDescriptor yX11_isGoal.desc).map (fun d => d.parameters.length) = some 3 := by decide +kernel
set_option maxHeartbeats 4000000 in
set_option maxRecDepth 100000 in
theorem zt_X11_isGoal (l : Launch) (dC : Nat → ClassId) (dI : Nat → Nat → Nat) (dA : Nat → ClassId) (ad : Nat → Nat) (sz : Nat) (p0 : Int32) (p1 : Int32) (p2 : Int32) (r0 : Int32) (hf : zf_X11_isGoal p0 p1 p2 = some r0) : Met l yX11_isGoal (.code yX11_isGoal cX11_isGoal 3 (some .boolean) :: zr_T) ({ frames := 1, cells := 0, slots := 0, locals := 20 }) (va_Pc [.int p0, .int p1, .int p2] (zz_M dC dI dA [] sz)) (va_Qi (fun (r : Int32) (_ : Unit) => r = r0) (fun _ t => zz_B dC dI dA (va_A [] sz) [] t) (va_A [] sz)) 0 0 (va_A [] sz) := by
  unfold zf_X11_isGoal at hf
  refine Met.ofW (cc := cX11_isGoal) (maxL := 3) (ret := (some .boolean)) (by decide) rfl ?_
  intro p e s m args below meth c s₁ B hml hv
  obtain ⟨rfl, hsz, hP, hK, hD0⟩ := hv
  have hx := B.exec
  have hb := B.bytes
  have hr := B.returns
  have ht : ∀ w ∈ zr_T, w.before ([.int p0, .int p1, .int p2] : List Value).toArray s = true := fun w hw => atoms_spec (ws := .code yX11_isGoal cX11_isGoal 3 (some .boolean) :: zr_T) B.pre w (List.mem_cons_of_mem _ hw)
  have hown : s.vm.findClass RX11 = some m.cls := findClass_of_methodNamed B.named
  have hlocks := B.notSynchronized
  subst hsz
  have hD := hD0.self (sz := s.heap.size)
  generalize hAe : va_A [] s.heap.size = A at hD ⊢
  have hA : ∀ q : Nat, s.heap.size ≤ q → A q := fun q h => by rw [← hAe]; exact Or.inr h
  clear hAe hD0
  have hS : va_S A s.heap s.heap [] := va_S.rf
  have hl := lv_entry ([.int p0, .int p1, .int p2]) (n := 3) (Nat.le_of_ble_eq_true rfl)
  rw [lg_entry_eq]
  generalize (lg_sl ([.int p0, .int p1, .int p2]) ++ List.replicate (3 - (lg_sl ([.int p0, .int p1, .int p2])).length) Slot.unset).toArray = ls at hl ⊢
  have hl : lv_has ls 3 [(0, .int p0), (1, .int p1), (2, .int p2)] := hl
  refine lv_iload_n (pc := 0) hx hb dX11_isGoal_0 rfl (lv_at hl 0 rfl) ?_
  obtain ⟨v1, hv1, hf⟩ := zc_1 hf
  refine zw_Si (pc := 1) (wc := []) (wr := []) (w1 := []) (As := [.int p0]) (rest := []) ⟨hx, hb, hml, hown, ht⟩ (zt_X11_rungIn l dC dI dA ad _ p0 v1 hv1) (cwS 1 ht (zr_S zr_217 zr_218 zr_36 zr_210) rfl rfl rfl zk_X11_rungIn ⟨Nat.le_of_ble_eq_true rfl, Nat.le_of_ble_eq_true rfl⟩) hK hP hD hS hA [] [] (by decide) (by decide) (by decide) rfl rfl rfl hl.1 (Nat.le_of_ble_eq_true rfl) dX11_isGoal_1 ⟨Nat.zero_le _, Nat.zero_le _⟩ rfl (fun H locs hP hD hS => ?_)
  have hP : va_P (dC, dI) zz_cls [] H := hP
  have hD : va_D A [] := hD
  refine lv_iload_n (pc := 4) hx hb dX11_isGoal_4 rfl (lv_at hl 1 rfl) ?_
  refine lv_icmp_ne (tgt := 22) (pc := 5) hx hb dX11_isGoal_5 rfl (fun hc => ?_) (fun hc => ?_)
  · have hf := za_f hf hc
    refine lv_iconst (v := (0 : Int32)) (pc := 22) hx hb dX11_isGoal_22 (by decide) ?_
    obtain rfl := Option.some.inj hf
    exact W.zret (pc := 23) hx hb hr rfl (fun t ht hW => ⟨⟨_, (), rfl, rfl, zz_Bi (by rw [ht]; exact hP) (va_K.moved hW.alike hK) (hD)⟩, hS.F ht⟩) hS.2.2 dX11_isGoal_23
  · have hf := za_t hf hc
    refine lv_iload_n (pc := 8) hx hb dX11_isGoal_8 rfl (lv_at hl 0 rfl) ?_
    obtain ⟨v2, hv2, hf⟩ := zc_1 hf
    refine zw_Si (pc := 9) (wc := []) (wr := []) (w1 := []) (As := [.int p0]) (rest := []) ⟨hx, hb, hml, hown, ht⟩ (zt_X11_hasIn l dC dI dA ad _ p0 v2 hv2) (cwS 1 ht (zr_S zr_219 zr_220 zr_36 zr_211) rfl rfl rfl zk_X11_hasIn ⟨Nat.le_of_ble_eq_true rfl, Nat.le_of_ble_eq_true rfl⟩) hK hP hD hS hA [] [] (by decide) (by decide) (by decide) rfl rfl rfl hl.1 (Nat.le_of_ble_eq_true rfl) dX11_isGoal_9 ⟨Nat.zero_le _, Nat.zero_le _⟩ rfl (fun H locs hP hD hS => ?_)
    have hP : va_P (dC, dI) zz_cls [] H := hP
    have hD : va_D A [] := hD
    refine lv_iload_n (pc := 12) hx hb dX11_isGoal_12 rfl (lv_at hl 2 rfl) ?_
    refine lv_iand (pc := 13) hx hb dX11_isGoal_13 ?_
    refine lv_iload_n (pc := 14) hx hb dX11_isGoal_14 rfl (lv_at hl 2 rfl) ?_
    refine lv_icmp_ne (tgt := 22) (pc := 15) hx hb dX11_isGoal_15 rfl (fun hc => ?_) (fun hc => ?_)
    · have hf := za_f hf hc
      refine lv_iconst (v := (0 : Int32)) (pc := 22) hx hb dX11_isGoal_22 (by decide) ?_
      obtain rfl := Option.some.inj hf
      exact W.zret (pc := 23) hx hb hr rfl (fun t ht hW => ⟨⟨_, (), rfl, rfl, zz_Bi (by rw [ht]; exact hP) (va_K.moved hW.alike hK) (hD)⟩, hS.F ht⟩) hS.2.2 dX11_isGoal_23
    · have hf := za_t hf hc
      refine lv_iconst (v := (1 : Int32)) (pc := 18) hx hb dX11_isGoal_18 (by decide) ?_
      refine lv_goto (tgt := 23) (pc := 19) hx hb dX11_isGoal_19 rfl ?_
      obtain rfl := Option.some.inj hf
      exact W.zret (pc := 23) hx hb hr rfl (fun t ht hW => ⟨⟨_, (), rfl, rfl, zz_Bi (by rw [ht]; exact hP) (va_K.moved hW.alike hK) (hD)⟩, hS.F ht⟩) hS.2.2 dX11_isGoal_23

def zf_X11_farBy (b_then : (Nat → Int32)) (b_far : (Nat → Int32)) (p1 : Int32) (p2 : Int32) : Option (Int32) :=
  zd_1 (za_ld b_then 43200 (((15 : Int32) * p1) + p2)) (fun v1 =>
  if v1 = (-1 : Int32) then
    some (268435456 : Int32)
  else
    zd_1 (za_ld b_far 2880 v1) (fun v2 =>
    if v2 = (268435456 : Int32) then
      some (268435456 : Int32)
    else
      zd_1 (za_ld b_far 2880 v1) (fun v3 =>
      some (v3 + (1 : Int32)))))
theorem zk_X11_farBy : yX11_farBy.cls = RX11 ∧ yX11_farBy.cls ≠ "java/lang/invoke/MethodHandle" ∧ yX11_farBy.cls ≠ "java/lang/invoke/VarHandle" ∧ (parseMethodDescriptor yX11_farBy.desc).map (fun d => d.parameters.length) = some 2 := by decide +kernel
set_option maxHeartbeats 4000000 in
set_option maxRecDepth 100000 in
theorem zt_X11_farBy (l : Launch) (dC : Nat → ClassId) (dI : Nat → Nat → Nat) (dA : Nat → ClassId) (ad : Nat → Nat) (sz : Nat) (f_thrown f_taped f_at f_behind f_size f_kind f_number f_wrong f_wrongAt f_faultKind f_faultPlace f_reading f_toldWhy f_x f_standMany f_bestMany f_tail f_round1 : Int32) (b_then : (Nat → Int32)) (b_far : (Nat → Int32)) (p1 : Int32) (p2 : Int32) (r0 : Int32) (hf : zf_X11_farBy b_then b_far p1 p2 = some r0) : Met l yX11_farBy (.code yX11_farBy cX11_farBy 4 (some .int) :: zr_T) ({ frames := 0, cells := 0, slots := 0, locals := 0 }) (va_Pc [.ref (ad 0), .int p1, .int p2] (zz_M dC dI dA [zr_o ad f_thrown f_taped f_at f_behind f_size f_kind f_number f_wrong f_wrongAt f_faultKind f_faultPlace f_reading f_toldWhy f_x f_standMany f_bestMany f_tail f_round1, (ad 23, .inl (dA 0, 43200, .inl b_then)), (ad 24, .inl (dA 0, 2880, .inl b_far))] sz)) (va_Qi (fun (r : Int32) (_ : Unit) => r = r0) (fun _ t => zz_B dC dI dA (va_A [zr_o ad f_thrown f_taped f_at f_behind f_size f_kind f_number f_wrong f_wrongAt f_faultKind f_faultPlace f_reading f_toldWhy f_x f_standMany f_bestMany f_tail f_round1, (ad 23, .inl (dA 0, 43200, .inl b_then)), (ad 24, .inl (dA 0, 2880, .inl b_far))] sz) [zr_o ad f_thrown f_taped f_at f_behind f_size f_kind f_number f_wrong f_wrongAt f_faultKind f_faultPlace f_reading f_toldWhy f_x f_standMany f_bestMany f_tail f_round1, (ad 23, .inl (dA 0, 43200, .inl b_then)), (ad 24, .inl (dA 0, 2880, .inl b_far))] t) (va_A [zr_o ad f_thrown f_taped f_at f_behind f_size f_kind f_number f_wrong f_wrongAt f_faultKind f_faultPlace f_reading f_toldWhy f_x f_standMany f_bestMany f_tail f_round1, (ad 23, .inl (dA 0, 43200, .inl b_then)), (ad 24, .inl (dA 0, 2880, .inl b_far))] sz)) 0 0 (va_A [zr_o ad f_thrown f_taped f_at f_behind f_size f_kind f_number f_wrong f_wrongAt f_faultKind f_faultPlace f_reading f_toldWhy f_x f_standMany f_bestMany f_tail f_round1, (ad 23, .inl (dA 0, 43200, .inl b_then)), (ad 24, .inl (dA 0, 2880, .inl b_far))] sz) := by
  unfold zf_X11_farBy at hf
  refine Met.ofW (cc := cX11_farBy) (maxL := 4) (ret := (some .int)) (by decide) rfl ?_
  intro p e s m args below meth c s₁ B hml hv
  obtain ⟨rfl, hsz, hP, hK, hD0⟩ := hv
  have hx := B.exec
  have hb := B.bytes
  have hr := B.returns
  have ht : ∀ w ∈ zr_T, w.before ([.ref (ad 0), .int p1, .int p2] : List Value).toArray s = true := fun w hw => atoms_spec (ws := .code yX11_farBy cX11_farBy 4 (some .int) :: zr_T) B.pre w (List.mem_cons_of_mem _ hw)
  have hown : s.vm.findClass RX11 = some m.cls := findClass_of_methodNamed B.named
  have hlocks := B.notSynchronized
  subst hsz
  have hD := hD0.self (sz := s.heap.size)
  generalize hAe : va_A [zr_o ad f_thrown f_taped f_at f_behind f_size f_kind f_number f_wrong f_wrongAt f_faultKind f_faultPlace f_reading f_toldWhy f_x f_standMany f_bestMany f_tail f_round1, (ad 23, .inl (dA 0, 43200, .inl b_then)), (ad 24, .inl (dA 0, 2880, .inl b_far))] s.heap.size = A at hD ⊢
  have hA : ∀ q : Nat, s.heap.size ≤ q → A q := fun q h => by rw [← hAe]; exact Or.inr h
  clear hAe hD0
  have hS : va_S A s.heap s.heap [] := va_S.rf
  have hl := lv_entry ([.ref (ad 0), .int p1, .int p2]) (n := 4) (Nat.le_of_ble_eq_true rfl)
  rw [lg_entry_eq]
  generalize (lg_sl ([.ref (ad 0), .int p1, .int p2]) ++ List.replicate (4 - (lg_sl ([.ref (ad 0), .int p1, .int p2])).length) Slot.unset).toArray = ls at hl ⊢
  have hl : lv_has ls 4 [(0, .ref (ad 0)), (1, .int p1), (2, .int p2)] := hl
  refine lv_aload_n (pc := 0) hx hb dX11_farBy_0 rfl (lv_at hl 0 rfl) ?_
  refine va_get (pc := 1) (D := (dC, dI)) (ci := 0) (v := .ref (ad 23)) (C := RX11) (T := TX11) (N := 42) hx hb ht zr_lay hown hK hP 0 rfl rfl 22 (by decide) (ht _ zr_17) (fun _ h9 => h9) rfl dX11_farBy_1 ?_
  refine lv_bipush (v := (15 : Int32)) (pc := 4) hx hb dX11_farBy_4 (by decide) ?_
  refine lv_iload_n (pc := 6) hx hb dX11_farBy_6 rfl (lv_at hl 1 rfl) ?_
  refine lv_imul (pc := 7) hx hb dX11_farBy_7 ?_
  refine lv_iload_n (pc := 8) hx hb dX11_farBy_8 rfl (lv_at hl 2 rfl) ?_
  refine lv_iadd (pc := 9) hx hb dX11_farBy_9 ?_
  obtain ⟨v1, hv1, hf⟩ := zc_1 hf
  refine zw_iald (pc := 10) hx hb hK hP 1 0 rfl rfl hv1 dX11_farBy_10 ?_
  refine lv_istore_n (lv' := [(3, .int v1), (0, .ref (ad 0)), (1, .int p1), (2, .int p2)]) (pc := 11) hx hb dX11_farBy_11 rfl hl (by decide) rfl (fun ls hl => ?_)
  refine lv_iload_n (pc := 12) hx hb dX11_farBy_12 rfl (lv_at hl 0 rfl) ?_
  refine lv_iconst (v := (-1 : Int32)) (pc := 13) hx hb dX11_farBy_13 (by decide) ?_
  refine lv_icmp_eq (tgt := 29) (pc := 14) hx hb dX11_farBy_14 rfl (fun hc => ?_) (fun hc => ?_)
  · have hf := za_t hf hc
    refine lv_ldcw (v := (268435456 : Int32)) (pc := 29) hx hb hown (ht _ zr_353) dX11_farBy_29 ?_
    refine lv_goto (tgt := 43) (pc := 32) hx hb dX11_farBy_32 rfl ?_
    obtain rfl := Option.some.inj hf
    exact W.iret (pc := 43) hx hb hr (fun t ht hW => ⟨⟨_, (), rfl, rfl, zz_Bi (by rw [ht]; exact hP) (va_K.moved hW.alike hK) (hD)⟩, hS.F ht⟩) hS.2.2 dX11_farBy_43
  · have hf := za_f hf hc
    refine lv_aload_n (pc := 17) hx hb dX11_farBy_17 rfl (lv_at hl 1 rfl) ?_
    refine va_get (pc := 18) (D := (dC, dI)) (ci := 0) (v := .ref (ad 24)) (C := RX11) (T := TX11) (N := 42) hx hb ht zr_lay hown hK hP 0 rfl rfl 23 (by decide) (ht _ zr_18) (fun _ h9 => h9) rfl dX11_farBy_18 ?_
    refine lv_iload_n (pc := 21) hx hb dX11_farBy_21 rfl (lv_at hl 0 rfl) ?_
    obtain ⟨v2, hv2, hf⟩ := zc_1 hf
    refine zw_iald (pc := 22) hx hb hK hP 2 0 rfl rfl hv2 dX11_farBy_22 ?_
    refine lv_ldcw (v := (268435456 : Int32)) (pc := 23) hx hb hown (ht _ zr_353) dX11_farBy_23 ?_
    refine lv_icmp_ne (tgt := 35) (pc := 26) hx hb dX11_farBy_26 rfl (fun hc => ?_) (fun hc => ?_)
    · have hf := za_f hf hc
      refine lv_aload_n (pc := 35) hx hb dX11_farBy_35 rfl (lv_at hl 1 rfl) ?_
      refine va_get (pc := 36) (D := (dC, dI)) (ci := 0) (v := .ref (ad 24)) (C := RX11) (T := TX11) (N := 42) hx hb ht zr_lay hown hK hP 0 rfl rfl 23 (by decide) (ht _ zr_18) (fun _ h9 => h9) rfl dX11_farBy_36 ?_
      refine lv_iload_n (pc := 39) hx hb dX11_farBy_39 rfl (lv_at hl 0 rfl) ?_
      obtain ⟨v3, hv3, hf⟩ := zc_1 hf
      refine zw_iald (pc := 40) hx hb hK hP 2 0 rfl rfl hv3 dX11_farBy_40 ?_
      refine lv_iconst (v := (1 : Int32)) (pc := 41) hx hb dX11_farBy_41 (by decide) ?_
      refine lv_iadd (pc := 42) hx hb dX11_farBy_42 ?_
      obtain rfl := Option.some.inj hf
      exact W.iret (pc := 43) hx hb hr (fun t ht hW => ⟨⟨_, (), rfl, rfl, zz_Bi (by rw [ht]; exact hP) (va_K.moved hW.alike hK) (hD)⟩, hS.F ht⟩) hS.2.2 dX11_farBy_43
    · have hf := za_t hf hc
      refine lv_ldcw (v := (268435456 : Int32)) (pc := 29) hx hb hown (ht _ zr_353) dX11_farBy_29 ?_
      refine lv_goto (tgt := 43) (pc := 32) hx hb dX11_farBy_32 rfl ?_
      obtain rfl := Option.some.inj hf
      exact W.iret (pc := 43) hx hb hr (fun t ht hW => ⟨⟨_, (), rfl, rfl, zz_Bi (by rw [ht]; exact hP) (va_K.moved hW.alike hK) (hD)⟩, hS.F ht⟩) hS.2.2 dX11_farBy_43

def zb_X11_laysFar_7 (v1 : Int32) (a4 : (Nat → Int32)) (p1 : Int32) (p2 : Int32) (v7 : Int32) (a8 : (Nat → Int32)) : Option (Nat × Int32 × (Nat → Int32)) :=
  if v1 ≤ v7 then
    some (1, v7, a8)
  else
    zd_1 (za_ld a4 2880 v7) (fun v9 =>
    zd_1 (za_ld a4 2880 v7) (fun v10 =>
    zd_1 (zf_X11_isGoal v10 p1 p2) (fun v11 =>
    zd_1 (
      if v11 = 0 then
        some (268435456 : Int32)
      else
        some (0 : Int32)) (fun v12 =>
    zd_1 (za_st a8 2880 v9 v12) (fun a13 =>
    zd_1 (some (v7 + (1 : Int32))) (fun v14 =>
    some (0, v14, a13)))))))
def zb_X11_laysFar_77 (a4 : (Nat → Int32)) (v22 : Int32) (a5 : (Nat → Int32)) (v24 : Int32) (v25 : Int32) (a26 : (Nat → Int32)) : Option (Nat × Int32 × Int32 × (Nat → Int32)) :=
  if (15 : Int32) ≤ v25 then
    some (1, v24, v25, a26)
  else
    zd_1 (za_ld a4 2880 v22) (fun v27 =>
    zd_1 (za_ld a26 2880 v27) (fun v28 =>
    if v28 ≤ 0 then
      some (1, v24, v25, a26)
    else
      zd_1 (za_ld a4 2880 v22) (fun v29 =>
      zd_1 (zf_X11_farBy a5 a26 v29 v25) (fun v30 =>
      zd_1 (za_ld a4 2880 v22) (fun v31 =>
      zd_1 (za_ld a26 2880 v31) (fun v32 =>
      zd_2 (
        if v30 < v32 then
          zd_1 (za_ld a4 2880 v22) (fun v33 =>
          zd_1 (za_ld a4 2880 v22) (fun v34 =>
          zd_1 (zf_X11_farBy a5 a26 v34 v25) (fun v35 =>
          zd_1 (za_st a26 2880 v33 v35) (fun a36 =>
          some ((1 : Int32), a36)))))
        else
          some (v24, a26)) (fun v37 a38 =>
      zd_1 (some (v25 + (1 : Int32))) (fun v39 =>
      some (0, v37, v39, a38)))))))))
def zb_X11_laysFar_69 (a4 : (Nat → Int32)) (a5 : (Nat → Int32)) (n : Nat) (v21 : Int32) (v22 : Int32) (a23 : (Nat → Int32)) : Option (Nat × Int32 × Int32 × (Nat → Int32)) :=
  if v22 < 0 then
    some (1, v21, v22, a23)
  else
    zd_4 (za_it (fun v => zb_X11_laysFar_77 a4 v22 a5 v.1 v.2.1 v.2.2) n (v21, (0 : Int32), a23)) (fun g43 v40 v41 a42 =>
    zd_1 (some (v22 + (-1 : Int32))) (fun v44 =>
    some (0, v40, v44, a42)))
def zb_X11_laysFar_55 (v1 : Int32) (a4 : (Nat → Int32)) (a5 : (Nat → Int32)) (n : Nat) (v18 : Int32) (a19 : (Nat → Int32)) : Option (Nat × Int32 × (Nat → Int32)) :=
  if v18 = 0 then
    some (1, v18, a19)
  else
    zd_1 (some ((v1 - (1 : Int32)))) (fun v20 =>
    zd_4 (za_it (fun v => zb_X11_laysFar_69 a4 a5 n v.1 v.2.1 v.2.2) n ((0 : Int32), v20, a19)) (fun g48 v45 v46 a47 =>
    some (0, v45, a47)))
def zf_X11_laysFar (n : Nat) (f_standMany : Int32) (b_all : (Nat → Int32)) (b_reckoned : (Nat → Int32)) (b_words : (Nat → Int32)) (b_stand : (Nat → Int32)) (b_then : (Nat → Int32)) (b_far : (Nat → Int32)) (b_known : (Nat → Int32)) (p1 : Int32) (p2 : Int32) : Option (Int32 × Int32 × (Nat → Int32) × (Nat → Int32) × (Nat → Int32) × (Nat → Int32) × (Nat → Int32) × (Nat → Int32)) :=
  zd_6 (zf_X11_laysStands n f_standMany b_all b_reckoned b_words b_stand b_then b_known (0 : Int32)) (fun v1 a2 a3 a4 a5 a6 =>
  zd_3 (za_it (fun v => zb_X11_laysFar_7 v1 a4 p1 p2 v.1 v.2) n ((0 : Int32), b_far)) (fun g17 v15 a16 =>
  zd_3 (za_it (fun v => zb_X11_laysFar_55 v1 a4 a5 n v.1 v.2) n ((1 : Int32), a16)) (fun g51 v49 a50 =>
  zd_1 (zf_X11_standNow b_all) (fun v52 =>
  zd_1 (za_ld a50 2880 v52) (fun v53 =>
  some (v53, v1, a2, a3, a4, a5, a50, a6))))))
theorem zk_X11_laysFar : yX11_laysFar.cls = RX11 ∧ yX11_laysFar.cls ≠ "java/lang/invoke/MethodHandle" ∧ yX11_laysFar.cls ≠ "java/lang/invoke/VarHandle" ∧ (parseMethodDescriptor yX11_laysFar.desc).map (fun d => d.parameters.length) = some 2 := by decide +kernel
set_option maxHeartbeats 4000000 in
set_option maxRecDepth 100000 in
theorem zt_X11_laysFar (l : Launch) (dC : Nat → ClassId) (dI : Nat → Nat → Nat) (dA : Nat → ClassId) (ad : Nat → Nat) (sz : Nat) (n : Nat) (f_thrown f_taped f_at f_behind f_size f_kind f_number f_wrong f_wrongAt f_faultKind f_faultPlace f_reading f_toldWhy f_x f_standMany f_bestMany f_tail f_round1 : Int32) (b_all : (Nat → Int32)) (b_reckoned : (Nat → Int32)) (b_words : (Nat → Int32)) (b_stand : (Nat → Int32)) (b_then : (Nat → Int32)) (b_far : (Nat → Int32)) (b_known : (Nat → Int32)) (p1 : Int32) (p2 : Int32) (r0 : Int32) (o1 : Int32) (o2 : (Nat → Int32)) (o3 : (Nat → Int32)) (o4 : (Nat → Int32)) (o5 : (Nat → Int32)) (o6 : (Nat → Int32)) (o7 : (Nat → Int32)) (hf : zf_X11_laysFar n f_standMany b_all b_reckoned b_words b_stand b_then b_far b_known p1 p2 = some (r0, o1, o2, o3, o4, o5, o6, o7)) : Met l yX11_laysFar (.code yX11_laysFar cX11_laysFar 6 (some .int) :: zr_T) ({ frames := 5, cells := 0, slots := 0, locals := 123 }) (va_Pc [.ref (ad 0), .int p1, .int p2] (zz_M dC dI dA [zr_o ad f_thrown f_taped f_at f_behind f_size f_kind f_number f_wrong f_wrongAt f_faultKind f_faultPlace f_reading f_toldWhy f_x f_standMany f_bestMany f_tail f_round1, (ad 2, .inl (dA 0, 2982, .inl b_all)), (ad 17, .inl (dA 0, 900, .inl b_reckoned)), (ad 18, .inl (dA 0, 6, .inl b_words)), (ad 22, .inl (dA 0, 2880, .inl b_stand)), (ad 23, .inl (dA 0, 43200, .inl b_then)), (ad 24, .inl (dA 0, 2880, .inl b_far)), (ad 25, .inl (dA 2, 2880, .inl b_known))] sz)) (va_Qi (fun (r : Int32) (_ : Unit) => r = r0) (fun _ t => zz_B dC dI dA (va_A [zr_o ad f_thrown f_taped f_at f_behind f_size f_kind f_number f_wrong f_wrongAt f_faultKind f_faultPlace f_reading f_toldWhy f_x f_standMany f_bestMany f_tail f_round1, (ad 2, .inl (dA 0, 2982, .inl b_all)), (ad 17, .inl (dA 0, 900, .inl b_reckoned)), (ad 18, .inl (dA 0, 6, .inl b_words)), (ad 22, .inl (dA 0, 2880, .inl b_stand)), (ad 23, .inl (dA 0, 43200, .inl b_then)), (ad 24, .inl (dA 0, 2880, .inl b_far)), (ad 25, .inl (dA 2, 2880, .inl b_known))] sz) [zr_o ad f_thrown f_taped f_at f_behind f_size f_kind f_number f_wrong f_wrongAt f_faultKind f_faultPlace f_reading f_toldWhy f_x o1 f_bestMany f_tail f_round1, (ad 2, .inl (dA 0, 2982, .inl b_all)), (ad 17, .inl (dA 0, 900, .inl o2)), (ad 18, .inl (dA 0, 6, .inl o3)), (ad 22, .inl (dA 0, 2880, .inl o4)), (ad 23, .inl (dA 0, 43200, .inl o5)), (ad 24, .inl (dA 0, 2880, .inl o6)), (ad 25, .inl (dA 2, 2880, .inl o7))] t) (va_A [zr_o ad f_thrown f_taped f_at f_behind f_size f_kind f_number f_wrong f_wrongAt f_faultKind f_faultPlace f_reading f_toldWhy f_x f_standMany f_bestMany f_tail f_round1, (ad 2, .inl (dA 0, 2982, .inl b_all)), (ad 17, .inl (dA 0, 900, .inl b_reckoned)), (ad 18, .inl (dA 0, 6, .inl b_words)), (ad 22, .inl (dA 0, 2880, .inl b_stand)), (ad 23, .inl (dA 0, 43200, .inl b_then)), (ad 24, .inl (dA 0, 2880, .inl b_far)), (ad 25, .inl (dA 2, 2880, .inl b_known))] sz)) 0 0 (va_A [zr_o ad f_thrown f_taped f_at f_behind f_size f_kind f_number f_wrong f_wrongAt f_faultKind f_faultPlace f_reading f_toldWhy f_x f_standMany f_bestMany f_tail f_round1, (ad 2, .inl (dA 0, 2982, .inl b_all)), (ad 17, .inl (dA 0, 900, .inl b_reckoned)), (ad 18, .inl (dA 0, 6, .inl b_words)), (ad 22, .inl (dA 0, 2880, .inl b_stand)), (ad 23, .inl (dA 0, 43200, .inl b_then)), (ad 24, .inl (dA 0, 2880, .inl b_far)), (ad 25, .inl (dA 2, 2880, .inl b_known))] sz) := by
  unfold zf_X11_laysFar at hf
  refine Met.ofW (cc := cX11_laysFar) (maxL := 6) (ret := (some .int)) (by decide) rfl ?_
  intro p e s m args below meth c s₁ B hml hv
  obtain ⟨rfl, hsz, hP, hK, hD0⟩ := hv
  have hx := B.exec
  have hb := B.bytes
  have hr := B.returns
  have ht : ∀ w ∈ zr_T, w.before ([.ref (ad 0), .int p1, .int p2] : List Value).toArray s = true := fun w hw => atoms_spec (ws := .code yX11_laysFar cX11_laysFar 6 (some .int) :: zr_T) B.pre w (List.mem_cons_of_mem _ hw)
  have hown : s.vm.findClass RX11 = some m.cls := findClass_of_methodNamed B.named
  have hlocks := B.notSynchronized
  subst hsz
  have hD := hD0.self (sz := s.heap.size)
  generalize hAe : va_A [zr_o ad f_thrown f_taped f_at f_behind f_size f_kind f_number f_wrong f_wrongAt f_faultKind f_faultPlace f_reading f_toldWhy f_x f_standMany f_bestMany f_tail f_round1, (ad 2, .inl (dA 0, 2982, .inl b_all)), (ad 17, .inl (dA 0, 900, .inl b_reckoned)), (ad 18, .inl (dA 0, 6, .inl b_words)), (ad 22, .inl (dA 0, 2880, .inl b_stand)), (ad 23, .inl (dA 0, 43200, .inl b_then)), (ad 24, .inl (dA 0, 2880, .inl b_far)), (ad 25, .inl (dA 2, 2880, .inl b_known))] s.heap.size = A at hD ⊢
  have hA : ∀ q : Nat, s.heap.size ≤ q → A q := fun q h => by rw [← hAe]; exact Or.inr h
  clear hAe hD0
  have hS : va_S A s.heap s.heap [] := va_S.rf
  have hl := lv_entry ([.ref (ad 0), .int p1, .int p2]) (n := 6) (Nat.le_of_ble_eq_true rfl)
  rw [lg_entry_eq]
  generalize (lg_sl ([.ref (ad 0), .int p1, .int p2]) ++ List.replicate (6 - (lg_sl ([.ref (ad 0), .int p1, .int p2])).length) Slot.unset).toArray = ls at hl ⊢
  have hl : lv_has ls 6 [(0, .ref (ad 0)), (1, .int p1), (2, .int p2)] := hl
  refine lv_aload_n (pc := 0) hx hb dX11_laysFar_0 rfl (lv_at hl 0 rfl) ?_
  refine lv_iconst (v := (0 : Int32)) (pc := 1) hx hb dX11_laysFar_1 (by decide) ?_
  obtain ⟨v1, a2, a3, a4, a5, a6, hv1, hf⟩ := zc_6 hf
  refine zw_Vv (pc := 2) (wc := [zr_o ad f_thrown f_taped f_at f_behind f_size f_kind f_number f_wrong f_wrongAt f_faultKind f_faultPlace f_reading f_toldWhy f_x f_standMany f_bestMany f_tail f_round1, (ad 2, .inl (dA 0, 2982, .inl b_all)), (ad 17, .inl (dA 0, 900, .inl b_reckoned)), (ad 18, .inl (dA 0, 6, .inl b_words)), (ad 22, .inl (dA 0, 2880, .inl b_stand)), (ad 23, .inl (dA 0, 43200, .inl b_then)), (ad 25, .inl (dA 2, 2880, .inl b_known))]) (wr := [(ad 24, .inl (dA 0, 2880, .inl b_far))]) (w1 := [zr_o ad f_thrown f_taped f_at f_behind f_size f_kind f_number f_wrong f_wrongAt f_faultKind f_faultPlace f_reading f_toldWhy f_x v1 f_bestMany f_tail f_round1, (ad 2, .inl (dA 0, 2982, .inl b_all)), (ad 17, .inl (dA 0, 900, .inl a2)), (ad 18, .inl (dA 0, 6, .inl a3)), (ad 22, .inl (dA 0, 2880, .inl a4)), (ad 23, .inl (dA 0, 43200, .inl a5)), (ad 25, .inl (dA 2, 2880, .inl a6))]) (As := [.int (0 : Int32)]) (rest := []) ⟨hx, hb, hml, hown, ht⟩ (zt_X11_laysStands l dC dI dA ad _ n f_thrown f_taped f_at f_behind f_size f_kind f_number f_wrong f_wrongAt f_faultKind f_faultPlace f_reading f_toldWhy f_x f_standMany f_bestMany f_tail f_round1 b_all b_reckoned b_words b_stand b_then b_known (0 : Int32) v1 a2 a3 a4 a5 a6 hv1) (cwV 1 ht (zr_V zr_354 zr_355 zr_356 zr_36 zr_350) rfl rfl rfl zk_X11_laysStands ⟨Nat.le_of_ble_eq_true rfl, Nat.le_of_ble_eq_true rfl⟩) rfl rfl hK hP hD hS hA [0, 1, 2, 3, 4, 5, 7] [6] (by decide) (by decide) (by decide) rfl rfl rfl hl.1 (Nat.le_of_ble_eq_true rfl) dX11_laysFar_2 ⟨Nat.zero_le _, Nat.zero_le _⟩ rfl (fun H locs hP hD hS => ?_)
  have hP : va_P (dC, dI) zz_cls [(ad 24, .inl (dA 0, 2880, .inl b_far)), zr_o ad f_thrown f_taped f_at f_behind f_size f_kind f_number f_wrong f_wrongAt f_faultKind f_faultPlace f_reading f_toldWhy f_x v1 f_bestMany f_tail f_round1, (ad 2, .inl (dA 0, 2982, .inl b_all)), (ad 17, .inl (dA 0, 900, .inl a2)), (ad 18, .inl (dA 0, 6, .inl a3)), (ad 22, .inl (dA 0, 2880, .inl a4)), (ad 23, .inl (dA 0, 43200, .inl a5)), (ad 25, .inl (dA 2, 2880, .inl a6))] H := hP
  have hD : va_D A [(ad 24, .inl (dA 0, 2880, .inl b_far)), zr_o ad f_thrown f_taped f_at f_behind f_size f_kind f_number f_wrong f_wrongAt f_faultKind f_faultPlace f_reading f_toldWhy f_x v1 f_bestMany f_tail f_round1, (ad 2, .inl (dA 0, 2982, .inl b_all)), (ad 17, .inl (dA 0, 900, .inl a2)), (ad 18, .inl (dA 0, 6, .inl a3)), (ad 22, .inl (dA 0, 2880, .inl a4)), (ad 23, .inl (dA 0, 43200, .inl a5)), (ad 25, .inl (dA 2, 2880, .inl a6))] := hD
  refine lv_iconst (v := (0 : Int32)) (pc := 5) hx hb dX11_laysFar_5 (by decide) ?_
  refine lv_istore_n (lv' := [(3, .int (0 : Int32)), (0, .ref (ad 0)), (1, .int p1), (2, .int p2)]) (pc := 6) hx hb dX11_laysFar_6 rfl hl (by decide) rfl (fun ls hl => ?_)
  obtain ⟨g17, v15, a16, hj, hf⟩ := zc_3 hf
  refine zj_join (pcJ := 53) (stk := []) (X := fun H locs ls => lv_has ls 6 [(0, .ref (ad 0))] ∧ va_P (dC, dI) zz_cls [zr_o ad f_thrown f_taped f_at f_behind f_size f_kind f_number f_wrong f_wrongAt f_faultKind f_faultPlace f_reading f_toldWhy f_x v1 f_bestMany f_tail f_round1, (ad 2, .inl (dA 0, 2982, .inl b_all)), (ad 17, .inl (dA 0, 900, .inl a2)), (ad 18, .inl (dA 0, 6, .inl a3)), (ad 22, .inl (dA 0, 2880, .inl a4)), (ad 23, .inl (dA 0, 43200, .inl a5)), (ad 24, .inl (dA 0, 2880, .inl a16)), (ad 25, .inl (dA 2, 2880, .inl a6))] H ∧ va_D A [zr_o ad f_thrown f_taped f_at f_behind f_size f_kind f_number f_wrong f_wrongAt f_faultKind f_faultPlace f_reading f_toldWhy f_x v1 f_bestMany f_tail f_round1, (ad 2, .inl (dA 0, 2982, .inl b_all)), (ad 17, .inl (dA 0, 900, .inl a2)), (ad 18, .inl (dA 0, 6, .inl a3)), (ad 22, .inl (dA 0, 2880, .inl a4)), (ad 23, .inl (dA 0, 43200, .inl a5)), (ad 24, .inl (dA 0, 2880, .inl a16)), (ad 25, .inl (dA 2, 2880, .inl a6))] ∧ va_S A s.heap H locs) (fun H locs ls hX => ?_) (fun E53 => ?_)
  · obtain ⟨hl, hP, hD, hS⟩ := hX
    clear hj
    refine lv_iconst (v := (1 : Int32)) (pc := 53) hx hb dX11_laysFar_53 (by decide) ?_
    refine lv_istore_n (lv' := [(3, .int (1 : Int32)), (0, .ref (ad 0))]) (pc := 54) hx hb dX11_laysFar_54 rfl hl (by decide) rfl (fun ls hl => ?_)
    obtain ⟨g51, v49, a50, hj, hf⟩ := zc_3 hf
    refine zj_join (pcJ := 172) (stk := []) (X := fun H locs ls => lv_has ls 6 [(0, .ref (ad 0))] ∧ va_P (dC, dI) zz_cls [zr_o ad f_thrown f_taped f_at f_behind f_size f_kind f_number f_wrong f_wrongAt f_faultKind f_faultPlace f_reading f_toldWhy f_x v1 f_bestMany f_tail f_round1, (ad 2, .inl (dA 0, 2982, .inl b_all)), (ad 17, .inl (dA 0, 900, .inl a2)), (ad 18, .inl (dA 0, 6, .inl a3)), (ad 22, .inl (dA 0, 2880, .inl a4)), (ad 23, .inl (dA 0, 43200, .inl a5)), (ad 24, .inl (dA 0, 2880, .inl a50)), (ad 25, .inl (dA 2, 2880, .inl a6))] H ∧ va_D A [zr_o ad f_thrown f_taped f_at f_behind f_size f_kind f_number f_wrong f_wrongAt f_faultKind f_faultPlace f_reading f_toldWhy f_x v1 f_bestMany f_tail f_round1, (ad 2, .inl (dA 0, 2982, .inl b_all)), (ad 17, .inl (dA 0, 900, .inl a2)), (ad 18, .inl (dA 0, 6, .inl a3)), (ad 22, .inl (dA 0, 2880, .inl a4)), (ad 23, .inl (dA 0, 43200, .inl a5)), (ad 24, .inl (dA 0, 2880, .inl a50)), (ad 25, .inl (dA 2, 2880, .inl a6))] ∧ va_S A s.heap H locs) (fun H locs ls hX => ?_) (fun E172 => ?_)
    · obtain ⟨hl, hP, hD, hS⟩ := hX
      clear hj
      refine lv_aload_n (pc := 172) hx hb dX11_laysFar_172 rfl (lv_at hl 0 rfl) ?_
      refine va_get (pc := 173) (D := (dC, dI)) (ci := 0) (v := .ref (ad 24)) (C := RX11) (T := TX11) (N := 42) hx hb ht zr_lay hown hK hP 0 rfl rfl 23 (by decide) (ht _ zr_18) (fun _ h9 => h9) rfl dX11_laysFar_173 ?_
      refine lv_aload_n (pc := 176) hx hb dX11_laysFar_176 rfl (lv_at hl 0 rfl) ?_
      obtain ⟨v52, hv52, hf⟩ := zc_1 hf
      refine zw_Vi (pc := 177) (wc := [zr_o ad f_thrown f_taped f_at f_behind f_size f_kind f_number f_wrong f_wrongAt f_faultKind f_faultPlace f_reading f_toldWhy f_x v1 f_bestMany f_tail f_round1, (ad 2, .inl (dA 0, 2982, .inl b_all))]) (wr := [(ad 17, .inl (dA 0, 900, .inl a2)), (ad 18, .inl (dA 0, 6, .inl a3)), (ad 22, .inl (dA 0, 2880, .inl a4)), (ad 23, .inl (dA 0, 43200, .inl a5)), (ad 24, .inl (dA 0, 2880, .inl a50)), (ad 25, .inl (dA 2, 2880, .inl a6))]) (w1 := [zr_o ad f_thrown f_taped f_at f_behind f_size f_kind f_number f_wrong f_wrongAt f_faultKind f_faultPlace f_reading f_toldWhy f_x v1 f_bestMany f_tail f_round1, (ad 2, .inl (dA 0, 2982, .inl b_all))]) (As := []) (rest := [.ref (ad 24)]) ⟨hx, hb, hml, hown, ht⟩ (zt_X11_standNow l dC dI dA ad _ f_thrown f_taped f_at f_behind f_size f_kind f_number f_wrong f_wrongAt f_faultKind f_faultPlace f_reading f_toldWhy f_x v1 f_bestMany f_tail f_round1 b_all v52 hv52) (cwV 0 ht (zr_V zr_261 zr_262 zr_263 zr_36 zr_213) rfl rfl rfl zk_X11_standNow ⟨Nat.le_of_ble_eq_true rfl, Nat.le_of_ble_eq_true rfl⟩) rfl rfl hK hP hD hS hA [0, 1] [2, 3, 4, 5, 6, 7] (by decide) (by decide) (by decide) rfl rfl rfl hl.1 (Nat.le_of_ble_eq_true rfl) dX11_laysFar_177 ⟨Nat.zero_le _, Nat.zero_le _⟩ rfl (fun H locs hP hD hS => ?_)
      have hP : va_P (dC, dI) zz_cls [(ad 17, .inl (dA 0, 900, .inl a2)), (ad 18, .inl (dA 0, 6, .inl a3)), (ad 22, .inl (dA 0, 2880, .inl a4)), (ad 23, .inl (dA 0, 43200, .inl a5)), (ad 24, .inl (dA 0, 2880, .inl a50)), (ad 25, .inl (dA 2, 2880, .inl a6)), zr_o ad f_thrown f_taped f_at f_behind f_size f_kind f_number f_wrong f_wrongAt f_faultKind f_faultPlace f_reading f_toldWhy f_x v1 f_bestMany f_tail f_round1, (ad 2, .inl (dA 0, 2982, .inl b_all))] H := hP
      have hD : va_D A [(ad 17, .inl (dA 0, 900, .inl a2)), (ad 18, .inl (dA 0, 6, .inl a3)), (ad 22, .inl (dA 0, 2880, .inl a4)), (ad 23, .inl (dA 0, 43200, .inl a5)), (ad 24, .inl (dA 0, 2880, .inl a50)), (ad 25, .inl (dA 2, 2880, .inl a6)), zr_o ad f_thrown f_taped f_at f_behind f_size f_kind f_number f_wrong f_wrongAt f_faultKind f_faultPlace f_reading f_toldWhy f_x v1 f_bestMany f_tail f_round1, (ad 2, .inl (dA 0, 2982, .inl b_all))] := hD
      obtain ⟨v53, hv53, hf⟩ := zc_1 hf
      refine zw_iald (pc := 180) hx hb hK hP 4 0 rfl rfl hv53 dX11_laysFar_180 ?_
      obtain ⟨rfl, rfl, rfl, rfl, rfl, rfl, rfl, rfl⟩ := zi_8 hf
      exact W.iret (pc := 181) hx hb hr (fun t ht hW => ⟨⟨_, (), rfl, rfl, zz_Bi (by rw [ht]; exact hP.sub [6, 7, 0, 1, 2, 3, 4, 5] rfl) (va_K.moved hW.alike hK) (hD.sub [6, 7, 0, 1, 2, 3, 4, 5] (by decide) rfl)⟩, hS.F ht⟩) hS.2.2 dX11_laysFar_181
    clear hf
    refine zw_loop (pcH := 55) (X := fun v H locs ls => lv_has ls 6 [(0, .ref (ad 0)), (3, .int v.1)] ∧ va_P (dC, dI) zz_cls [zr_o ad f_thrown f_taped f_at f_behind f_size f_kind f_number f_wrong f_wrongAt f_faultKind f_faultPlace f_reading f_toldWhy f_x v1 f_bestMany f_tail f_round1, (ad 2, .inl (dA 0, 2982, .inl b_all)), (ad 17, .inl (dA 0, 900, .inl a2)), (ad 18, .inl (dA 0, 6, .inl a3)), (ad 22, .inl (dA 0, 2880, .inl a4)), (ad 23, .inl (dA 0, 43200, .inl a5)), (ad 24, .inl (dA 0, 2880, .inl v.2)), (ad 25, .inl (dA 2, 2880, .inl a6))] H ∧ va_D A [zr_o ad f_thrown f_taped f_at f_behind f_size f_kind f_number f_wrong f_wrongAt f_faultKind f_faultPlace f_reading f_toldWhy f_x v1 f_bestMany f_tail f_round1, (ad 2, .inl (dA 0, 2982, .inl b_all)), (ad 17, .inl (dA 0, 900, .inl a2)), (ad 18, .inl (dA 0, 6, .inl a3)), (ad 22, .inl (dA 0, 2880, .inl a4)), (ad 23, .inl (dA 0, 43200, .inl a5)), (ad 24, .inl (dA 0, 2880, .inl v.2)), (ad 25, .inl (dA 2, 2880, .inl a6))] ∧ va_S A s.heap H locs) hj (fun v w hf ih ex H locs ls hX => ?_) _ _ _ ⟨lv_sub hl [1, 0] rfl, hP, hD, hS⟩
    clear hj
    obtain ⟨v18, a19⟩ := v
    obtain ⟨hl, hP, hD, hS⟩ := hX
    have hl : lv_has ls 6 [(0, .ref (ad 0)), (3, .int v18)] := hl
    have hP : va_P (dC, dI) zz_cls [zr_o ad f_thrown f_taped f_at f_behind f_size f_kind f_number f_wrong f_wrongAt f_faultKind f_faultPlace f_reading f_toldWhy f_x v1 f_bestMany f_tail f_round1, (ad 2, .inl (dA 0, 2982, .inl b_all)), (ad 17, .inl (dA 0, 900, .inl a2)), (ad 18, .inl (dA 0, 6, .inl a3)), (ad 22, .inl (dA 0, 2880, .inl a4)), (ad 23, .inl (dA 0, 43200, .inl a5)), (ad 24, .inl (dA 0, 2880, .inl a19)), (ad 25, .inl (dA 2, 2880, .inl a6))] H := hP
    have hD : va_D A [zr_o ad f_thrown f_taped f_at f_behind f_size f_kind f_number f_wrong f_wrongAt f_faultKind f_faultPlace f_reading f_toldWhy f_x v1 f_bestMany f_tail f_round1, (ad 2, .inl (dA 0, 2982, .inl b_all)), (ad 17, .inl (dA 0, 900, .inl a2)), (ad 18, .inl (dA 0, 6, .inl a3)), (ad 22, .inl (dA 0, 2880, .inl a4)), (ad 23, .inl (dA 0, 43200, .inl a5)), (ad 24, .inl (dA 0, 2880, .inl a19)), (ad 25, .inl (dA 2, 2880, .inl a6))] := hD
    replace hf : zb_X11_laysFar_55 v1 a4 a5 n v18 a19 = some w := hf
    unfold zb_X11_laysFar_55 at hf
    refine lv_iload_n (pc := 55) hx hb dX11_laysFar_55 rfl (lv_at hl 1 rfl) ?_
    refine lv_if_eq (tgt := 172) (pc := 56) hx hb dX11_laysFar_56 rfl (fun hc => ?_) (fun hc => ?_)
    · have hf := za_t hf hc
      obtain rfl := Option.some.inj hf
      obtain ⟨rfl, rfl, rfl⟩ := zp_3 (ex (show ¬ (1 : Nat) = 0 by decide))
      exact E172 _ _ _ ⟨lv_sub hl [0] rfl, hP, hD, hS⟩
    · have hf := za_f hf hc
      refine lv_iconst (v := (0 : Int32)) (pc := 59) hx hb dX11_laysFar_59 (by decide) ?_
      refine lv_istore_n (lv' := [(3, .int (0 : Int32)), (0, .ref (ad 0))]) (pc := 60) hx hb dX11_laysFar_60 rfl hl (by decide) rfl (fun ls hl => ?_)
      refine lv_aload_n (pc := 61) hx hb dX11_laysFar_61 rfl (lv_at hl 1 rfl) ?_
      refine va_get (pc := 62) (D := (dC, dI)) (ci := 0) (v := .int v1) (C := RX11) (T := TX11) (N := 42) hx hb ht zr_lay hown hK hP 0 rfl rfl 25 (by decide) (ht _ zr_340) (fun _ h9 => h9) rfl dX11_laysFar_62 ?_
      refine lv_iconst (v := (1 : Int32)) (pc := 65) hx hb dX11_laysFar_65 (by decide) ?_
      refine lv_isub (pc := 66) hx hb dX11_laysFar_66 ?_
      obtain ⟨v20, hv20, hf⟩ := zc_1 hf
      refine zw_top (hv20) ?_
      refine lv_istore (lv' := [(4, .int v20), (3, .int (0 : Int32)), (0, .ref (ad 0))]) (pc := 67) hx hb dX11_laysFar_67 hl (by decide) rfl (fun ls hl => ?_)
      obtain ⟨g48, v45, v46, a47, hj, hf⟩ := zc_4 hf
      refine zj_join (pcJ := 169) (stk := []) (X := fun H locs ls => lv_has ls 6 [(0, .ref (ad 0)), (3, .int v45)] ∧ va_P (dC, dI) zz_cls [zr_o ad f_thrown f_taped f_at f_behind f_size f_kind f_number f_wrong f_wrongAt f_faultKind f_faultPlace f_reading f_toldWhy f_x v1 f_bestMany f_tail f_round1, (ad 2, .inl (dA 0, 2982, .inl b_all)), (ad 17, .inl (dA 0, 900, .inl a2)), (ad 18, .inl (dA 0, 6, .inl a3)), (ad 22, .inl (dA 0, 2880, .inl a4)), (ad 23, .inl (dA 0, 43200, .inl a5)), (ad 24, .inl (dA 0, 2880, .inl a47)), (ad 25, .inl (dA 2, 2880, .inl a6))] H ∧ va_D A [zr_o ad f_thrown f_taped f_at f_behind f_size f_kind f_number f_wrong f_wrongAt f_faultKind f_faultPlace f_reading f_toldWhy f_x v1 f_bestMany f_tail f_round1, (ad 2, .inl (dA 0, 2982, .inl b_all)), (ad 17, .inl (dA 0, 900, .inl a2)), (ad 18, .inl (dA 0, 6, .inl a3)), (ad 22, .inl (dA 0, 2880, .inl a4)), (ad 23, .inl (dA 0, 43200, .inl a5)), (ad 24, .inl (dA 0, 2880, .inl a47)), (ad 25, .inl (dA 2, 2880, .inl a6))] ∧ va_S A s.heap H locs) (fun H locs ls hX => ?_) (fun E169 => ?_)
      · obtain ⟨hl, hP, hD, hS⟩ := hX
        clear hj
        refine lv_goto (tgt := 55) (pc := 169) hx hb dX11_laysFar_169 rfl ?_
        obtain rfl := Option.some.inj hf
        exact ih rfl _ _ _ ⟨lv_sub hl [0, 1] rfl, hP, hD, hS⟩
      clear hf
      refine zw_loop (pcH := 69) (X := fun v H locs ls => lv_has ls 6 [(0, .ref (ad 0)), (3, .int v.1), (4, .int v.2.1)] ∧ va_P (dC, dI) zz_cls [zr_o ad f_thrown f_taped f_at f_behind f_size f_kind f_number f_wrong f_wrongAt f_faultKind f_faultPlace f_reading f_toldWhy f_x v1 f_bestMany f_tail f_round1, (ad 2, .inl (dA 0, 2982, .inl b_all)), (ad 17, .inl (dA 0, 900, .inl a2)), (ad 18, .inl (dA 0, 6, .inl a3)), (ad 22, .inl (dA 0, 2880, .inl a4)), (ad 23, .inl (dA 0, 43200, .inl a5)), (ad 24, .inl (dA 0, 2880, .inl v.2.2)), (ad 25, .inl (dA 2, 2880, .inl a6))] H ∧ va_D A [zr_o ad f_thrown f_taped f_at f_behind f_size f_kind f_number f_wrong f_wrongAt f_faultKind f_faultPlace f_reading f_toldWhy f_x v1 f_bestMany f_tail f_round1, (ad 2, .inl (dA 0, 2982, .inl b_all)), (ad 17, .inl (dA 0, 900, .inl a2)), (ad 18, .inl (dA 0, 6, .inl a3)), (ad 22, .inl (dA 0, 2880, .inl a4)), (ad 23, .inl (dA 0, 43200, .inl a5)), (ad 24, .inl (dA 0, 2880, .inl v.2.2)), (ad 25, .inl (dA 2, 2880, .inl a6))] ∧ va_S A s.heap H locs) hj (fun v w hf ih ex H locs ls hX => ?_) _ _ _ ⟨lv_sub hl [2, 1, 0] rfl, hP, hD, hS⟩
      clear hj
      obtain ⟨v21, v22, a23⟩ := v
      obtain ⟨hl, hP, hD, hS⟩ := hX
      have hl : lv_has ls 6 [(0, .ref (ad 0)), (3, .int v21), (4, .int v22)] := hl
      have hP : va_P (dC, dI) zz_cls [zr_o ad f_thrown f_taped f_at f_behind f_size f_kind f_number f_wrong f_wrongAt f_faultKind f_faultPlace f_reading f_toldWhy f_x v1 f_bestMany f_tail f_round1, (ad 2, .inl (dA 0, 2982, .inl b_all)), (ad 17, .inl (dA 0, 900, .inl a2)), (ad 18, .inl (dA 0, 6, .inl a3)), (ad 22, .inl (dA 0, 2880, .inl a4)), (ad 23, .inl (dA 0, 43200, .inl a5)), (ad 24, .inl (dA 0, 2880, .inl a23)), (ad 25, .inl (dA 2, 2880, .inl a6))] H := hP
      have hD : va_D A [zr_o ad f_thrown f_taped f_at f_behind f_size f_kind f_number f_wrong f_wrongAt f_faultKind f_faultPlace f_reading f_toldWhy f_x v1 f_bestMany f_tail f_round1, (ad 2, .inl (dA 0, 2982, .inl b_all)), (ad 17, .inl (dA 0, 900, .inl a2)), (ad 18, .inl (dA 0, 6, .inl a3)), (ad 22, .inl (dA 0, 2880, .inl a4)), (ad 23, .inl (dA 0, 43200, .inl a5)), (ad 24, .inl (dA 0, 2880, .inl a23)), (ad 25, .inl (dA 2, 2880, .inl a6))] := hD
      replace hf : zb_X11_laysFar_69 a4 a5 n v21 v22 a23 = some w := hf
      unfold zb_X11_laysFar_69 at hf
      refine lv_iload (pc := 69) hx hb dX11_laysFar_69 (lv_at hl 2 rfl) ?_
      refine lv_if_lt (tgt := 169) (pc := 71) hx hb dX11_laysFar_71 rfl (fun hc => ?_) (fun hc => ?_)
      · have hf := za_t hf hc
        obtain rfl := Option.some.inj hf
        obtain ⟨rfl, rfl, rfl, rfl⟩ := zp_4 (ex (show ¬ (1 : Nat) = 0 by decide))
        exact E169 _ _ _ ⟨lv_sub hl [0, 1] rfl, hP, hD, hS⟩
      · have hf := za_f hf hc
        refine lv_iconst (v := (0 : Int32)) (pc := 74) hx hb dX11_laysFar_74 (by decide) ?_
        refine lv_istore (lv' := [(5, .int (0 : Int32)), (0, .ref (ad 0)), (3, .int v21), (4, .int v22)]) (pc := 75) hx hb dX11_laysFar_75 hl (by decide) rfl (fun ls hl => ?_)
        obtain ⟨g43, v40, v41, a42, hj, hf⟩ := zc_4 hf
        refine zj_join (pcJ := 163) (stk := []) (X := fun H locs ls => lv_has ls 6 [(0, .ref (ad 0)), (3, .int v40), (4, .int v22)] ∧ va_P (dC, dI) zz_cls [zr_o ad f_thrown f_taped f_at f_behind f_size f_kind f_number f_wrong f_wrongAt f_faultKind f_faultPlace f_reading f_toldWhy f_x v1 f_bestMany f_tail f_round1, (ad 2, .inl (dA 0, 2982, .inl b_all)), (ad 17, .inl (dA 0, 900, .inl a2)), (ad 18, .inl (dA 0, 6, .inl a3)), (ad 22, .inl (dA 0, 2880, .inl a4)), (ad 23, .inl (dA 0, 43200, .inl a5)), (ad 24, .inl (dA 0, 2880, .inl a42)), (ad 25, .inl (dA 2, 2880, .inl a6))] H ∧ va_D A [zr_o ad f_thrown f_taped f_at f_behind f_size f_kind f_number f_wrong f_wrongAt f_faultKind f_faultPlace f_reading f_toldWhy f_x v1 f_bestMany f_tail f_round1, (ad 2, .inl (dA 0, 2982, .inl b_all)), (ad 17, .inl (dA 0, 900, .inl a2)), (ad 18, .inl (dA 0, 6, .inl a3)), (ad 22, .inl (dA 0, 2880, .inl a4)), (ad 23, .inl (dA 0, 43200, .inl a5)), (ad 24, .inl (dA 0, 2880, .inl a42)), (ad 25, .inl (dA 2, 2880, .inl a6))] ∧ va_S A s.heap H locs) (fun H locs ls hX => ?_) (fun E163 => ?_)
        · obtain ⟨hl, hP, hD, hS⟩ := hX
          clear hj
          obtain ⟨v44, hv44, hf⟩ := zc_1 hf
          refine lv_iinc (v := v44) (lv' := [(4, .int v44), (0, .ref (ad 0)), (3, .int v40)]) (k := 2) (pc := 163) hx hb dX11_laysFar_163 hl rfl (Option.some.inj hv44) (by decide) rfl (fun ls hl => ?_)
          refine lv_goto (tgt := 69) (pc := 166) hx hb dX11_laysFar_166 rfl ?_
          obtain rfl := Option.some.inj hf
          exact ih rfl _ _ _ ⟨lv_sub hl [1, 2, 0] rfl, hP, hD, hS⟩
        clear hf
        refine zw_loop (pcH := 77) (X := fun v H locs ls => lv_has ls 6 [(0, .ref (ad 0)), (3, .int v.1), (4, .int v22), (5, .int v.2.1)] ∧ va_P (dC, dI) zz_cls [zr_o ad f_thrown f_taped f_at f_behind f_size f_kind f_number f_wrong f_wrongAt f_faultKind f_faultPlace f_reading f_toldWhy f_x v1 f_bestMany f_tail f_round1, (ad 2, .inl (dA 0, 2982, .inl b_all)), (ad 17, .inl (dA 0, 900, .inl a2)), (ad 18, .inl (dA 0, 6, .inl a3)), (ad 22, .inl (dA 0, 2880, .inl a4)), (ad 23, .inl (dA 0, 43200, .inl a5)), (ad 24, .inl (dA 0, 2880, .inl v.2.2)), (ad 25, .inl (dA 2, 2880, .inl a6))] H ∧ va_D A [zr_o ad f_thrown f_taped f_at f_behind f_size f_kind f_number f_wrong f_wrongAt f_faultKind f_faultPlace f_reading f_toldWhy f_x v1 f_bestMany f_tail f_round1, (ad 2, .inl (dA 0, 2982, .inl b_all)), (ad 17, .inl (dA 0, 900, .inl a2)), (ad 18, .inl (dA 0, 6, .inl a3)), (ad 22, .inl (dA 0, 2880, .inl a4)), (ad 23, .inl (dA 0, 43200, .inl a5)), (ad 24, .inl (dA 0, 2880, .inl v.2.2)), (ad 25, .inl (dA 2, 2880, .inl a6))] ∧ va_S A s.heap H locs) hj (fun v w hf ih ex H locs ls hX => ?_) _ _ _ ⟨lv_sub hl [1, 2, 3, 0] rfl, hP, hD, hS⟩
        clear hj
        obtain ⟨v24, v25, a26⟩ := v
        obtain ⟨hl, hP, hD, hS⟩ := hX
        have hl : lv_has ls 6 [(0, .ref (ad 0)), (3, .int v24), (4, .int v22), (5, .int v25)] := hl
        have hP : va_P (dC, dI) zz_cls [zr_o ad f_thrown f_taped f_at f_behind f_size f_kind f_number f_wrong f_wrongAt f_faultKind f_faultPlace f_reading f_toldWhy f_x v1 f_bestMany f_tail f_round1, (ad 2, .inl (dA 0, 2982, .inl b_all)), (ad 17, .inl (dA 0, 900, .inl a2)), (ad 18, .inl (dA 0, 6, .inl a3)), (ad 22, .inl (dA 0, 2880, .inl a4)), (ad 23, .inl (dA 0, 43200, .inl a5)), (ad 24, .inl (dA 0, 2880, .inl a26)), (ad 25, .inl (dA 2, 2880, .inl a6))] H := hP
        have hD : va_D A [zr_o ad f_thrown f_taped f_at f_behind f_size f_kind f_number f_wrong f_wrongAt f_faultKind f_faultPlace f_reading f_toldWhy f_x v1 f_bestMany f_tail f_round1, (ad 2, .inl (dA 0, 2982, .inl b_all)), (ad 17, .inl (dA 0, 900, .inl a2)), (ad 18, .inl (dA 0, 6, .inl a3)), (ad 22, .inl (dA 0, 2880, .inl a4)), (ad 23, .inl (dA 0, 43200, .inl a5)), (ad 24, .inl (dA 0, 2880, .inl a26)), (ad 25, .inl (dA 2, 2880, .inl a6))] := hD
        replace hf : zb_X11_laysFar_77 a4 v22 a5 v24 v25 a26 = some w := hf
        unfold zb_X11_laysFar_77 at hf
        refine lv_iload (pc := 77) hx hb dX11_laysFar_77 (lv_at hl 3 rfl) ?_
        refine lv_bipush (v := (15 : Int32)) (pc := 79) hx hb dX11_laysFar_79 (by decide) ?_
        refine lv_icmp_ge (tgt := 163) (pc := 81) hx hb dX11_laysFar_81 rfl (fun hc => ?_) (fun hc => ?_)
        · have hf := za_t hf hc
          obtain rfl := Option.some.inj hf
          obtain ⟨rfl, rfl, rfl, rfl⟩ := zp_4 (ex (show ¬ (1 : Nat) = 0 by decide))
          exact E163 _ _ _ ⟨lv_sub hl [0, 1, 2] rfl, hP, hD, hS⟩
        · have hf := za_f hf hc
          refine lv_aload_n (pc := 84) hx hb dX11_laysFar_84 rfl (lv_at hl 0 rfl) ?_
          refine va_get (pc := 85) (D := (dC, dI)) (ci := 0) (v := .ref (ad 24)) (C := RX11) (T := TX11) (N := 42) hx hb ht zr_lay hown hK hP 0 rfl rfl 23 (by decide) (ht _ zr_18) (fun _ h9 => h9) rfl dX11_laysFar_85 ?_
          refine lv_aload_n (pc := 88) hx hb dX11_laysFar_88 rfl (lv_at hl 0 rfl) ?_
          refine va_get (pc := 89) (D := (dC, dI)) (ci := 0) (v := .ref (ad 22)) (C := RX11) (T := TX11) (N := 42) hx hb ht zr_lay hown hK hP 0 rfl rfl 21 (by decide) (ht _ zr_15) (fun _ h9 => h9) rfl dX11_laysFar_89 ?_
          refine lv_iload (pc := 92) hx hb dX11_laysFar_92 (lv_at hl 2 rfl) ?_
          obtain ⟨v27, hv27, hf⟩ := zc_1 hf
          refine zw_iald (pc := 94) hx hb hK hP 4 0 rfl rfl hv27 dX11_laysFar_94 ?_
          obtain ⟨v28, hv28, hf⟩ := zc_1 hf
          refine zw_iald (pc := 95) hx hb hK hP 6 0 rfl rfl hv28 dX11_laysFar_95 ?_
          refine lv_if_le (tgt := 163) (pc := 96) hx hb dX11_laysFar_96 rfl (fun hc => ?_) (fun hc => ?_)
          · have hf := za_t hf hc
            obtain rfl := Option.some.inj hf
            obtain ⟨rfl, rfl, rfl, rfl⟩ := zp_4 (ex (show ¬ (1 : Nat) = 0 by decide))
            exact E163 _ _ _ ⟨lv_sub hl [0, 1, 2] rfl, hP, hD, hS⟩
          · have hf := za_f hf hc
            refine lv_aload_n (pc := 99) hx hb dX11_laysFar_99 rfl (lv_at hl 0 rfl) ?_
            refine lv_aload_n (pc := 100) hx hb dX11_laysFar_100 rfl (lv_at hl 0 rfl) ?_
            refine va_get (pc := 101) (D := (dC, dI)) (ci := 0) (v := .ref (ad 22)) (C := RX11) (T := TX11) (N := 42) hx hb ht zr_lay hown hK hP 0 rfl rfl 21 (by decide) (ht _ zr_15) (fun _ h9 => h9) rfl dX11_laysFar_101 ?_
            refine lv_iload (pc := 104) hx hb dX11_laysFar_104 (lv_at hl 2 rfl) ?_
            obtain ⟨v29, hv29, hf⟩ := zc_1 hf
            refine zw_iald (pc := 106) hx hb hK hP 4 0 rfl rfl hv29 dX11_laysFar_106 ?_
            refine lv_iload (pc := 107) hx hb dX11_laysFar_107 (lv_at hl 3 rfl) ?_
            obtain ⟨v30, hv30, hf⟩ := zc_1 hf
            refine zw_Vi (pc := 109) (wc := [zr_o ad f_thrown f_taped f_at f_behind f_size f_kind f_number f_wrong f_wrongAt f_faultKind f_faultPlace f_reading f_toldWhy f_x v1 f_bestMany f_tail f_round1, (ad 23, .inl (dA 0, 43200, .inl a5)), (ad 24, .inl (dA 0, 2880, .inl a26))]) (wr := [(ad 2, .inl (dA 0, 2982, .inl b_all)), (ad 17, .inl (dA 0, 900, .inl a2)), (ad 18, .inl (dA 0, 6, .inl a3)), (ad 22, .inl (dA 0, 2880, .inl a4)), (ad 25, .inl (dA 2, 2880, .inl a6))]) (w1 := [zr_o ad f_thrown f_taped f_at f_behind f_size f_kind f_number f_wrong f_wrongAt f_faultKind f_faultPlace f_reading f_toldWhy f_x v1 f_bestMany f_tail f_round1, (ad 23, .inl (dA 0, 43200, .inl a5)), (ad 24, .inl (dA 0, 2880, .inl a26))]) (As := [.int v29, .int v25]) (rest := []) ⟨hx, hb, hml, hown, ht⟩ (zt_X11_farBy l dC dI dA ad _ f_thrown f_taped f_at f_behind f_size f_kind f_number f_wrong f_wrongAt f_faultKind f_faultPlace f_reading f_toldWhy f_x v1 f_bestMany f_tail f_round1 a5 a26 v29 v25 v30 hv30) (cwV 2 ht (zr_V zr_359 zr_360 zr_361 zr_36 zr_352) rfl rfl rfl zk_X11_farBy ⟨Nat.le_of_ble_eq_true rfl, Nat.le_of_ble_eq_true rfl⟩) rfl rfl hK hP hD hS hA [0, 5, 6] [1, 2, 3, 4, 7] (by decide) (by decide) (by decide) rfl rfl rfl hl.1 (Nat.le_of_ble_eq_true rfl) dX11_laysFar_109 ⟨Nat.zero_le _, Nat.zero_le _⟩ rfl (fun H locs hP hD hS => ?_)
            have hP : va_P (dC, dI) zz_cls [(ad 2, .inl (dA 0, 2982, .inl b_all)), (ad 17, .inl (dA 0, 900, .inl a2)), (ad 18, .inl (dA 0, 6, .inl a3)), (ad 22, .inl (dA 0, 2880, .inl a4)), (ad 25, .inl (dA 2, 2880, .inl a6)), zr_o ad f_thrown f_taped f_at f_behind f_size f_kind f_number f_wrong f_wrongAt f_faultKind f_faultPlace f_reading f_toldWhy f_x v1 f_bestMany f_tail f_round1, (ad 23, .inl (dA 0, 43200, .inl a5)), (ad 24, .inl (dA 0, 2880, .inl a26))] H := hP
            have hD : va_D A [(ad 2, .inl (dA 0, 2982, .inl b_all)), (ad 17, .inl (dA 0, 900, .inl a2)), (ad 18, .inl (dA 0, 6, .inl a3)), (ad 22, .inl (dA 0, 2880, .inl a4)), (ad 25, .inl (dA 2, 2880, .inl a6)), zr_o ad f_thrown f_taped f_at f_behind f_size f_kind f_number f_wrong f_wrongAt f_faultKind f_faultPlace f_reading f_toldWhy f_x v1 f_bestMany f_tail f_round1, (ad 23, .inl (dA 0, 43200, .inl a5)), (ad 24, .inl (dA 0, 2880, .inl a26))] := hD
            refine lv_aload_n (pc := 112) hx hb dX11_laysFar_112 rfl (lv_at hl 0 rfl) ?_
            refine va_get (pc := 113) (D := (dC, dI)) (ci := 0) (v := .ref (ad 24)) (C := RX11) (T := TX11) (N := 42) hx hb ht zr_lay hown hK hP 5 rfl rfl 23 (by decide) (ht _ zr_18) (fun _ h9 => h9) rfl dX11_laysFar_113 ?_
            refine lv_aload_n (pc := 116) hx hb dX11_laysFar_116 rfl (lv_at hl 0 rfl) ?_
            refine va_get (pc := 117) (D := (dC, dI)) (ci := 0) (v := .ref (ad 22)) (C := RX11) (T := TX11) (N := 42) hx hb ht zr_lay hown hK hP 5 rfl rfl 21 (by decide) (ht _ zr_15) (fun _ h9 => h9) rfl dX11_laysFar_117 ?_
            refine lv_iload (pc := 120) hx hb dX11_laysFar_120 (lv_at hl 2 rfl) ?_
            obtain ⟨v31, hv31, hf⟩ := zc_1 hf
            refine zw_iald (pc := 122) hx hb hK hP 3 0 rfl rfl hv31 dX11_laysFar_122 ?_
            obtain ⟨v32, hv32, hf⟩ := zc_1 hf
            refine zw_iald (pc := 123) hx hb hK hP 7 0 rfl rfl hv32 dX11_laysFar_123 ?_
            obtain ⟨v37, a38, hj, hf⟩ := zc_2 hf
            refine zj_join (pcJ := 157) (stk := []) (X := fun H locs ls => lv_has ls 6 [(0, .ref (ad 0)), (3, .int v37), (4, .int v22), (5, .int v25)] ∧ va_P (dC, dI) zz_cls [zr_o ad f_thrown f_taped f_at f_behind f_size f_kind f_number f_wrong f_wrongAt f_faultKind f_faultPlace f_reading f_toldWhy f_x v1 f_bestMany f_tail f_round1, (ad 2, .inl (dA 0, 2982, .inl b_all)), (ad 17, .inl (dA 0, 900, .inl a2)), (ad 18, .inl (dA 0, 6, .inl a3)), (ad 22, .inl (dA 0, 2880, .inl a4)), (ad 23, .inl (dA 0, 43200, .inl a5)), (ad 24, .inl (dA 0, 2880, .inl a38)), (ad 25, .inl (dA 2, 2880, .inl a6))] H ∧ va_D A [zr_o ad f_thrown f_taped f_at f_behind f_size f_kind f_number f_wrong f_wrongAt f_faultKind f_faultPlace f_reading f_toldWhy f_x v1 f_bestMany f_tail f_round1, (ad 2, .inl (dA 0, 2982, .inl b_all)), (ad 17, .inl (dA 0, 900, .inl a2)), (ad 18, .inl (dA 0, 6, .inl a3)), (ad 22, .inl (dA 0, 2880, .inl a4)), (ad 23, .inl (dA 0, 43200, .inl a5)), (ad 24, .inl (dA 0, 2880, .inl a38)), (ad 25, .inl (dA 2, 2880, .inl a6))] ∧ va_S A s.heap H locs) (fun H locs ls hX => ?_) (fun J157 => ?_)
            · obtain ⟨hl, hP, hD, hS⟩ := hX
              clear hj
              obtain ⟨v39, hv39, hf⟩ := zc_1 hf
              refine lv_iinc (v := v39) (lv' := [(5, .int v39), (0, .ref (ad 0)), (3, .int v37), (4, .int v22)]) (k := 3) (pc := 157) hx hb dX11_laysFar_157 hl rfl (Option.some.inj hv39) (by decide) rfl (fun ls hl => ?_)
              refine lv_goto (tgt := 77) (pc := 160) hx hb dX11_laysFar_160 rfl ?_
              obtain rfl := Option.some.inj hf
              exact ih rfl _ _ _ ⟨lv_sub hl [1, 2, 3, 0] rfl, hP, hD, hS⟩
            · clear hf
              have hf := hj
              clear hj
              refine lv_icmp_lt (tgt := 130) (pc := 124) hx hb dX11_laysFar_124 rfl (fun hc => ?_) (fun hc => ?_)
              · have hf := za_t hf hc
                refine lv_aload_n (pc := 130) hx hb dX11_laysFar_130 rfl (lv_at hl 0 rfl) ?_
                refine va_get (pc := 131) (D := (dC, dI)) (ci := 0) (v := .ref (ad 24)) (C := RX11) (T := TX11) (N := 42) hx hb ht zr_lay hown hK hP 5 rfl rfl 23 (by decide) (ht _ zr_18) (fun _ h9 => h9) rfl dX11_laysFar_131 ?_
                refine lv_aload_n (pc := 134) hx hb dX11_laysFar_134 rfl (lv_at hl 0 rfl) ?_
                refine va_get (pc := 135) (D := (dC, dI)) (ci := 0) (v := .ref (ad 22)) (C := RX11) (T := TX11) (N := 42) hx hb ht zr_lay hown hK hP 5 rfl rfl 21 (by decide) (ht _ zr_15) (fun _ h9 => h9) rfl dX11_laysFar_135 ?_
                refine lv_iload (pc := 138) hx hb dX11_laysFar_138 (lv_at hl 2 rfl) ?_
                obtain ⟨v33, hv33, hf⟩ := zc_1 hf
                refine zw_iald (pc := 140) hx hb hK hP 3 0 rfl rfl hv33 dX11_laysFar_140 ?_
                refine lv_aload_n (pc := 141) hx hb dX11_laysFar_141 rfl (lv_at hl 0 rfl) ?_
                refine lv_aload_n (pc := 142) hx hb dX11_laysFar_142 rfl (lv_at hl 0 rfl) ?_
                refine va_get (pc := 143) (D := (dC, dI)) (ci := 0) (v := .ref (ad 22)) (C := RX11) (T := TX11) (N := 42) hx hb ht zr_lay hown hK hP 5 rfl rfl 21 (by decide) (ht _ zr_15) (fun _ h9 => h9) rfl dX11_laysFar_143 ?_
                refine lv_iload (pc := 146) hx hb dX11_laysFar_146 (lv_at hl 2 rfl) ?_
                obtain ⟨v34, hv34, hf⟩ := zc_1 hf
                refine zw_iald (pc := 148) hx hb hK hP 3 0 rfl rfl hv34 dX11_laysFar_148 ?_
                refine lv_iload (pc := 149) hx hb dX11_laysFar_149 (lv_at hl 3 rfl) ?_
                obtain ⟨v35, hv35, hf⟩ := zc_1 hf
                refine zw_Vi (pc := 151) (wc := [zr_o ad f_thrown f_taped f_at f_behind f_size f_kind f_number f_wrong f_wrongAt f_faultKind f_faultPlace f_reading f_toldWhy f_x v1 f_bestMany f_tail f_round1, (ad 23, .inl (dA 0, 43200, .inl a5)), (ad 24, .inl (dA 0, 2880, .inl a26))]) (wr := [(ad 2, .inl (dA 0, 2982, .inl b_all)), (ad 17, .inl (dA 0, 900, .inl a2)), (ad 18, .inl (dA 0, 6, .inl a3)), (ad 22, .inl (dA 0, 2880, .inl a4)), (ad 25, .inl (dA 2, 2880, .inl a6))]) (w1 := [zr_o ad f_thrown f_taped f_at f_behind f_size f_kind f_number f_wrong f_wrongAt f_faultKind f_faultPlace f_reading f_toldWhy f_x v1 f_bestMany f_tail f_round1, (ad 23, .inl (dA 0, 43200, .inl a5)), (ad 24, .inl (dA 0, 2880, .inl a26))]) (As := [.int v34, .int v25]) (rest := [.int v33, .ref (ad 24)]) ⟨hx, hb, hml, hown, ht⟩ (zt_X11_farBy l dC dI dA ad _ f_thrown f_taped f_at f_behind f_size f_kind f_number f_wrong f_wrongAt f_faultKind f_faultPlace f_reading f_toldWhy f_x v1 f_bestMany f_tail f_round1 a5 a26 v34 v25 v35 hv35) (cwV 2 ht (zr_V zr_359 zr_360 zr_361 zr_36 zr_352) rfl rfl rfl zk_X11_farBy ⟨Nat.le_of_ble_eq_true rfl, Nat.le_of_ble_eq_true rfl⟩) rfl rfl hK hP hD hS hA [5, 6, 7] [0, 1, 2, 3, 4] (by decide) (by decide) (by decide) rfl rfl rfl hl.1 (Nat.le_of_ble_eq_true rfl) dX11_laysFar_151 ⟨Nat.zero_le _, Nat.zero_le _⟩ rfl (fun H locs hP hD hS => ?_)
                have hP : va_P (dC, dI) zz_cls [(ad 2, .inl (dA 0, 2982, .inl b_all)), (ad 17, .inl (dA 0, 900, .inl a2)), (ad 18, .inl (dA 0, 6, .inl a3)), (ad 22, .inl (dA 0, 2880, .inl a4)), (ad 25, .inl (dA 2, 2880, .inl a6)), zr_o ad f_thrown f_taped f_at f_behind f_size f_kind f_number f_wrong f_wrongAt f_faultKind f_faultPlace f_reading f_toldWhy f_x v1 f_bestMany f_tail f_round1, (ad 23, .inl (dA 0, 43200, .inl a5)), (ad 24, .inl (dA 0, 2880, .inl a26))] H := hP
                have hD : va_D A [(ad 2, .inl (dA 0, 2982, .inl b_all)), (ad 17, .inl (dA 0, 900, .inl a2)), (ad 18, .inl (dA 0, 6, .inl a3)), (ad 22, .inl (dA 0, 2880, .inl a4)), (ad 25, .inl (dA 2, 2880, .inl a6)), zr_o ad f_thrown f_taped f_at f_behind f_size f_kind f_number f_wrong f_wrongAt f_faultKind f_faultPlace f_reading f_toldWhy f_x v1 f_bestMany f_tail f_round1, (ad 23, .inl (dA 0, 43200, .inl a5)), (ad 24, .inl (dA 0, 2880, .inl a26))] := hD
                obtain ⟨a36, ha36, hf⟩ := zc_1 hf
                refine zw_iast (pc := 154) hx hb hK hP hD hS 7 0 rfl rfl ha36 dX11_laysFar_154 (fun H locs hP hD hS => ?_)
                have hP : va_P (dC, dI) zz_cls [(ad 2, .inl (dA 0, 2982, .inl b_all)), (ad 17, .inl (dA 0, 900, .inl a2)), (ad 18, .inl (dA 0, 6, .inl a3)), (ad 22, .inl (dA 0, 2880, .inl a4)), (ad 25, .inl (dA 2, 2880, .inl a6)), zr_o ad f_thrown f_taped f_at f_behind f_size f_kind f_number f_wrong f_wrongAt f_faultKind f_faultPlace f_reading f_toldWhy f_x v1 f_bestMany f_tail f_round1, (ad 23, .inl (dA 0, 43200, .inl a5)), (ad 24, .inl (dA 0, 2880, .inl a36))] H := hP
                have hD : va_D A [(ad 2, .inl (dA 0, 2982, .inl b_all)), (ad 17, .inl (dA 0, 900, .inl a2)), (ad 18, .inl (dA 0, 6, .inl a3)), (ad 22, .inl (dA 0, 2880, .inl a4)), (ad 25, .inl (dA 2, 2880, .inl a6)), zr_o ad f_thrown f_taped f_at f_behind f_size f_kind f_number f_wrong f_wrongAt f_faultKind f_faultPlace f_reading f_toldWhy f_x v1 f_bestMany f_tail f_round1, (ad 23, .inl (dA 0, 43200, .inl a5)), (ad 24, .inl (dA 0, 2880, .inl a36))] := hD
                refine lv_iconst (v := (1 : Int32)) (pc := 155) hx hb dX11_laysFar_155 (by decide) ?_
                refine lv_istore_n (lv' := [(3, .int (1 : Int32)), (0, .ref (ad 0)), (4, .int v22), (5, .int v25)]) (pc := 156) hx hb dX11_laysFar_156 rfl hl (by decide) rfl (fun ls hl => ?_)
                obtain ⟨rfl, rfl⟩ := zi_2 hf
                exact J157 _ _ _ ⟨lv_sub hl [1, 0, 2, 3] rfl, hP.sub [5, 0, 1, 2, 3, 6, 7, 4] rfl, hD.sub [5, 0, 1, 2, 3, 6, 7, 4] (by decide) rfl, hS⟩
              · have hf := za_f hf hc
                refine lv_goto (tgt := 157) (pc := 127) hx hb dX11_laysFar_127 rfl ?_
                obtain ⟨rfl, rfl⟩ := zi_2 hf
                exact J157 _ _ _ ⟨lv_sub hl [0, 1, 2, 3] rfl, hP.sub [5, 0, 1, 2, 3, 6, 7, 4] rfl, hD.sub [5, 0, 1, 2, 3, 6, 7, 4] (by decide) rfl, hS⟩
  clear hf
  refine zw_loop (pcH := 7) (X := fun v H locs ls => lv_has ls 6 [(0, .ref (ad 0)), (1, .int p1), (2, .int p2), (3, .int v.1)] ∧ va_P (dC, dI) zz_cls [zr_o ad f_thrown f_taped f_at f_behind f_size f_kind f_number f_wrong f_wrongAt f_faultKind f_faultPlace f_reading f_toldWhy f_x v1 f_bestMany f_tail f_round1, (ad 2, .inl (dA 0, 2982, .inl b_all)), (ad 17, .inl (dA 0, 900, .inl a2)), (ad 18, .inl (dA 0, 6, .inl a3)), (ad 22, .inl (dA 0, 2880, .inl a4)), (ad 23, .inl (dA 0, 43200, .inl a5)), (ad 24, .inl (dA 0, 2880, .inl v.2)), (ad 25, .inl (dA 2, 2880, .inl a6))] H ∧ va_D A [zr_o ad f_thrown f_taped f_at f_behind f_size f_kind f_number f_wrong f_wrongAt f_faultKind f_faultPlace f_reading f_toldWhy f_x v1 f_bestMany f_tail f_round1, (ad 2, .inl (dA 0, 2982, .inl b_all)), (ad 17, .inl (dA 0, 900, .inl a2)), (ad 18, .inl (dA 0, 6, .inl a3)), (ad 22, .inl (dA 0, 2880, .inl a4)), (ad 23, .inl (dA 0, 43200, .inl a5)), (ad 24, .inl (dA 0, 2880, .inl v.2)), (ad 25, .inl (dA 2, 2880, .inl a6))] ∧ va_S A s.heap H locs) hj (fun v w hf ih ex H locs ls hX => ?_) _ _ _ ⟨lv_sub hl [1, 2, 3, 0] rfl, hP.sub [1, 2, 3, 4, 5, 6, 0, 7] rfl, hD.sub [1, 2, 3, 4, 5, 6, 0, 7] (by decide) rfl, hS⟩
  clear hj
  obtain ⟨v7, a8⟩ := v
  obtain ⟨hl, hP, hD, hS⟩ := hX
  have hl : lv_has ls 6 [(0, .ref (ad 0)), (1, .int p1), (2, .int p2), (3, .int v7)] := hl
  have hP : va_P (dC, dI) zz_cls [zr_o ad f_thrown f_taped f_at f_behind f_size f_kind f_number f_wrong f_wrongAt f_faultKind f_faultPlace f_reading f_toldWhy f_x v1 f_bestMany f_tail f_round1, (ad 2, .inl (dA 0, 2982, .inl b_all)), (ad 17, .inl (dA 0, 900, .inl a2)), (ad 18, .inl (dA 0, 6, .inl a3)), (ad 22, .inl (dA 0, 2880, .inl a4)), (ad 23, .inl (dA 0, 43200, .inl a5)), (ad 24, .inl (dA 0, 2880, .inl a8)), (ad 25, .inl (dA 2, 2880, .inl a6))] H := hP
  have hD : va_D A [zr_o ad f_thrown f_taped f_at f_behind f_size f_kind f_number f_wrong f_wrongAt f_faultKind f_faultPlace f_reading f_toldWhy f_x v1 f_bestMany f_tail f_round1, (ad 2, .inl (dA 0, 2982, .inl b_all)), (ad 17, .inl (dA 0, 900, .inl a2)), (ad 18, .inl (dA 0, 6, .inl a3)), (ad 22, .inl (dA 0, 2880, .inl a4)), (ad 23, .inl (dA 0, 43200, .inl a5)), (ad 24, .inl (dA 0, 2880, .inl a8)), (ad 25, .inl (dA 2, 2880, .inl a6))] := hD
  replace hf : zb_X11_laysFar_7 v1 a4 p1 p2 v7 a8 = some w := hf
  unfold zb_X11_laysFar_7 at hf
  refine lv_iload_n (pc := 7) hx hb dX11_laysFar_7 rfl (lv_at hl 3 rfl) ?_
  refine lv_aload_n (pc := 8) hx hb dX11_laysFar_8 rfl (lv_at hl 0 rfl) ?_
  refine va_get (pc := 9) (D := (dC, dI)) (ci := 0) (v := .int v1) (C := RX11) (T := TX11) (N := 42) hx hb ht zr_lay hown hK hP 0 rfl rfl 25 (by decide) (ht _ zr_340) (fun _ h9 => h9) rfl dX11_laysFar_9 ?_
  refine lv_icmp_ge (tgt := 53) (pc := 12) hx hb dX11_laysFar_12 rfl (fun hc => ?_) (fun hc => ?_)
  · have hf := za_t hf hc
    obtain rfl := Option.some.inj hf
    obtain ⟨rfl, rfl, rfl⟩ := zp_3 (ex (show ¬ (1 : Nat) = 0 by decide))
    exact E53 _ _ _ ⟨lv_sub hl [0] rfl, hP, hD, hS⟩
  · have hf := za_f hf hc
    refine lv_aload_n (pc := 15) hx hb dX11_laysFar_15 rfl (lv_at hl 0 rfl) ?_
    refine va_get (pc := 16) (D := (dC, dI)) (ci := 0) (v := .ref (ad 24)) (C := RX11) (T := TX11) (N := 42) hx hb ht zr_lay hown hK hP 0 rfl rfl 23 (by decide) (ht _ zr_18) (fun _ h9 => h9) rfl dX11_laysFar_16 ?_
    refine lv_aload_n (pc := 19) hx hb dX11_laysFar_19 rfl (lv_at hl 0 rfl) ?_
    refine va_get (pc := 20) (D := (dC, dI)) (ci := 0) (v := .ref (ad 22)) (C := RX11) (T := TX11) (N := 42) hx hb ht zr_lay hown hK hP 0 rfl rfl 21 (by decide) (ht _ zr_15) (fun _ h9 => h9) rfl dX11_laysFar_20 ?_
    refine lv_iload_n (pc := 23) hx hb dX11_laysFar_23 rfl (lv_at hl 3 rfl) ?_
    obtain ⟨v9, hv9, hf⟩ := zc_1 hf
    refine zw_iald (pc := 24) hx hb hK hP 4 0 rfl rfl hv9 dX11_laysFar_24 ?_
    refine lv_aload_n (pc := 25) hx hb dX11_laysFar_25 rfl (lv_at hl 0 rfl) ?_
    refine va_get (pc := 26) (D := (dC, dI)) (ci := 0) (v := .ref (ad 22)) (C := RX11) (T := TX11) (N := 42) hx hb ht zr_lay hown hK hP 0 rfl rfl 21 (by decide) (ht _ zr_15) (fun _ h9 => h9) rfl dX11_laysFar_26 ?_
    refine lv_iload_n (pc := 29) hx hb dX11_laysFar_29 rfl (lv_at hl 3 rfl) ?_
    obtain ⟨v10, hv10, hf⟩ := zc_1 hf
    refine zw_iald (pc := 30) hx hb hK hP 4 0 rfl rfl hv10 dX11_laysFar_30 ?_
    refine lv_iload_n (pc := 31) hx hb dX11_laysFar_31 rfl (lv_at hl 1 rfl) ?_
    refine lv_iload_n (pc := 32) hx hb dX11_laysFar_32 rfl (lv_at hl 2 rfl) ?_
    obtain ⟨v11, hv11, hf⟩ := zc_1 hf
    refine zw_Si (pc := 33) (wc := []) (wr := [zr_o ad f_thrown f_taped f_at f_behind f_size f_kind f_number f_wrong f_wrongAt f_faultKind f_faultPlace f_reading f_toldWhy f_x v1 f_bestMany f_tail f_round1, (ad 2, .inl (dA 0, 2982, .inl b_all)), (ad 17, .inl (dA 0, 900, .inl a2)), (ad 18, .inl (dA 0, 6, .inl a3)), (ad 22, .inl (dA 0, 2880, .inl a4)), (ad 23, .inl (dA 0, 43200, .inl a5)), (ad 24, .inl (dA 0, 2880, .inl a8)), (ad 25, .inl (dA 2, 2880, .inl a6))]) (w1 := []) (As := [.int v10, .int p1, .int p2]) (rest := [.int v9, .ref (ad 24)]) ⟨hx, hb, hml, hown, ht⟩ (zt_X11_isGoal l dC dI dA ad _ v10 p1 p2 v11 hv11) (cwS 3 ht (zr_S zr_357 zr_358 zr_36 zr_351) rfl rfl rfl zk_X11_isGoal ⟨Nat.le_of_ble_eq_true rfl, Nat.le_of_ble_eq_true rfl⟩) hK hP hD hS hA [] [0, 1, 2, 3, 4, 5, 6, 7] (by decide) (by decide) (by decide) rfl rfl rfl hl.1 (Nat.le_of_ble_eq_true rfl) dX11_laysFar_33 ⟨Nat.zero_le _, Nat.zero_le _⟩ rfl (fun H locs hP hD hS => ?_)
    have hP : va_P (dC, dI) zz_cls [zr_o ad f_thrown f_taped f_at f_behind f_size f_kind f_number f_wrong f_wrongAt f_faultKind f_faultPlace f_reading f_toldWhy f_x v1 f_bestMany f_tail f_round1, (ad 2, .inl (dA 0, 2982, .inl b_all)), (ad 17, .inl (dA 0, 900, .inl a2)), (ad 18, .inl (dA 0, 6, .inl a3)), (ad 22, .inl (dA 0, 2880, .inl a4)), (ad 23, .inl (dA 0, 43200, .inl a5)), (ad 24, .inl (dA 0, 2880, .inl a8)), (ad 25, .inl (dA 2, 2880, .inl a6))] H := hP
    have hD : va_D A [zr_o ad f_thrown f_taped f_at f_behind f_size f_kind f_number f_wrong f_wrongAt f_faultKind f_faultPlace f_reading f_toldWhy f_x v1 f_bestMany f_tail f_round1, (ad 2, .inl (dA 0, 2982, .inl b_all)), (ad 17, .inl (dA 0, 900, .inl a2)), (ad 18, .inl (dA 0, 6, .inl a3)), (ad 22, .inl (dA 0, 2880, .inl a4)), (ad 23, .inl (dA 0, 43200, .inl a5)), (ad 24, .inl (dA 0, 2880, .inl a8)), (ad 25, .inl (dA 2, 2880, .inl a6))] := hD
    obtain ⟨v12, hj, hf⟩ := zc_1 hf
    refine zj_join (pcJ := 46) (stk := [.int v12, .int v9, .ref (ad 24)]) (X := fun H locs ls => lv_has ls 6 [(0, .ref (ad 0)), (1, .int p1), (2, .int p2), (3, .int v7)] ∧ va_P (dC, dI) zz_cls [zr_o ad f_thrown f_taped f_at f_behind f_size f_kind f_number f_wrong f_wrongAt f_faultKind f_faultPlace f_reading f_toldWhy f_x v1 f_bestMany f_tail f_round1, (ad 2, .inl (dA 0, 2982, .inl b_all)), (ad 17, .inl (dA 0, 900, .inl a2)), (ad 18, .inl (dA 0, 6, .inl a3)), (ad 22, .inl (dA 0, 2880, .inl a4)), (ad 23, .inl (dA 0, 43200, .inl a5)), (ad 24, .inl (dA 0, 2880, .inl a8)), (ad 25, .inl (dA 2, 2880, .inl a6))] H ∧ va_D A [zr_o ad f_thrown f_taped f_at f_behind f_size f_kind f_number f_wrong f_wrongAt f_faultKind f_faultPlace f_reading f_toldWhy f_x v1 f_bestMany f_tail f_round1, (ad 2, .inl (dA 0, 2982, .inl b_all)), (ad 17, .inl (dA 0, 900, .inl a2)), (ad 18, .inl (dA 0, 6, .inl a3)), (ad 22, .inl (dA 0, 2880, .inl a4)), (ad 23, .inl (dA 0, 43200, .inl a5)), (ad 24, .inl (dA 0, 2880, .inl a8)), (ad 25, .inl (dA 2, 2880, .inl a6))] ∧ va_S A s.heap H locs) (fun H locs ls hX => ?_) (fun J46 => ?_)
    · obtain ⟨hl, hP, hD, hS⟩ := hX
      clear hj
      obtain ⟨a13, ha13, hf⟩ := zc_1 hf
      refine zw_iast (pc := 46) hx hb hK hP hD hS 6 0 rfl rfl ha13 dX11_laysFar_46 (fun H locs hP hD hS => ?_)
      have hP : va_P (dC, dI) zz_cls [zr_o ad f_thrown f_taped f_at f_behind f_size f_kind f_number f_wrong f_wrongAt f_faultKind f_faultPlace f_reading f_toldWhy f_x v1 f_bestMany f_tail f_round1, (ad 2, .inl (dA 0, 2982, .inl b_all)), (ad 17, .inl (dA 0, 900, .inl a2)), (ad 18, .inl (dA 0, 6, .inl a3)), (ad 22, .inl (dA 0, 2880, .inl a4)), (ad 23, .inl (dA 0, 43200, .inl a5)), (ad 24, .inl (dA 0, 2880, .inl a13)), (ad 25, .inl (dA 2, 2880, .inl a6))] H := hP
      have hD : va_D A [zr_o ad f_thrown f_taped f_at f_behind f_size f_kind f_number f_wrong f_wrongAt f_faultKind f_faultPlace f_reading f_toldWhy f_x v1 f_bestMany f_tail f_round1, (ad 2, .inl (dA 0, 2982, .inl b_all)), (ad 17, .inl (dA 0, 900, .inl a2)), (ad 18, .inl (dA 0, 6, .inl a3)), (ad 22, .inl (dA 0, 2880, .inl a4)), (ad 23, .inl (dA 0, 43200, .inl a5)), (ad 24, .inl (dA 0, 2880, .inl a13)), (ad 25, .inl (dA 2, 2880, .inl a6))] := hD
      obtain ⟨v14, hv14, hf⟩ := zc_1 hf
      refine lv_iinc (v := v14) (lv' := [(3, .int v14), (0, .ref (ad 0)), (1, .int p1), (2, .int p2)]) (k := 3) (pc := 47) hx hb dX11_laysFar_47 hl rfl (Option.some.inj hv14) (by decide) rfl (fun ls hl => ?_)
      refine lv_goto (tgt := 7) (pc := 50) hx hb dX11_laysFar_50 rfl ?_
      obtain rfl := Option.some.inj hf
      exact ih rfl _ _ _ ⟨lv_sub hl [1, 2, 3, 0] rfl, hP, hD, hS⟩
    · clear hf
      have hf := hj
      clear hj
      refine lv_if_eq (tgt := 43) (pc := 36) hx hb dX11_laysFar_36 rfl (fun hc => ?_) (fun hc => ?_)
      · have hf := za_t hf hc
        refine lv_ldcw (v := (268435456 : Int32)) (pc := 43) hx hb hown (ht _ zr_353) dX11_laysFar_43 ?_
        obtain rfl := Option.some.inj hf
        exact J46 _ _ _ ⟨lv_sub hl [0, 1, 2, 3] rfl, hP, hD, hS⟩
      · have hf := za_f hf hc
        refine lv_iconst (v := (0 : Int32)) (pc := 39) hx hb dX11_laysFar_39 (by decide) ?_
        refine lv_goto (tgt := 46) (pc := 40) hx hb dX11_laysFar_40 rfl ?_
        obtain rfl := Option.some.inj hf
        exact J46 _ _ _ ⟨lv_sub hl [0, 1, 2, 3] rfl, hP, hD, hS⟩

def zf_X11_noComing (b_all : (Nat → Int32)) (p1 : Int32) (p2 : Int32) : Option (Int32) :=
  zd_1 (zf_X11_isRung b_all p1) (fun v1 =>
  if v1 = 0 then
    some (-2 : Int32)
  else
    zd_1 (zf_X11_isSet b_all p2) (fun v2 =>
    if v2 = 0 then
      some (-3 : Int32)
    else
      some (0 : Int32)))
theorem zk_X11_noComing : yX11_noComing.cls = RX11 ∧ yX11_noComing.cls ≠ "java/lang/invoke/MethodHandle" ∧ yX11_noComing.cls ≠ "java/lang/invoke/VarHandle" ∧ (parseMethodDescriptor yX11_noComing.desc).map (fun d => d.parameters.length) = some 2 := by decide +kernel
set_option maxHeartbeats 4000000 in
set_option maxRecDepth 100000 in
theorem zt_X11_noComing (l : Launch) (dC : Nat → ClassId) (dI : Nat → Nat → Nat) (dA : Nat → ClassId) (ad : Nat → Nat) (sz : Nat) (f_thrown f_taped f_at f_behind f_size f_kind f_number f_wrong f_wrongAt f_faultKind f_faultPlace f_reading f_toldWhy f_x f_standMany f_bestMany f_tail f_round1 : Int32) (b_all : (Nat → Int32)) (p1 : Int32) (p2 : Int32) (r0 : Int32) (hf : zf_X11_noComing b_all p1 p2 = some r0) : Met l yX11_noComing (.code yX11_noComing cX11_noComing 3 (some .int) :: zr_T) ({ frames := 2, cells := 0, slots := 0, locals := 46 }) (va_Pc [.ref (ad 0), .int p1, .int p2] (zz_M dC dI dA [zr_o ad f_thrown f_taped f_at f_behind f_size f_kind f_number f_wrong f_wrongAt f_faultKind f_faultPlace f_reading f_toldWhy f_x f_standMany f_bestMany f_tail f_round1, (ad 2, .inl (dA 0, 2982, .inl b_all))] sz)) (va_Qi (fun (r : Int32) (_ : Unit) => r = r0) (fun _ t => zz_B dC dI dA (va_A [zr_o ad f_thrown f_taped f_at f_behind f_size f_kind f_number f_wrong f_wrongAt f_faultKind f_faultPlace f_reading f_toldWhy f_x f_standMany f_bestMany f_tail f_round1, (ad 2, .inl (dA 0, 2982, .inl b_all))] sz) [zr_o ad f_thrown f_taped f_at f_behind f_size f_kind f_number f_wrong f_wrongAt f_faultKind f_faultPlace f_reading f_toldWhy f_x f_standMany f_bestMany f_tail f_round1, (ad 2, .inl (dA 0, 2982, .inl b_all))] t) (va_A [zr_o ad f_thrown f_taped f_at f_behind f_size f_kind f_number f_wrong f_wrongAt f_faultKind f_faultPlace f_reading f_toldWhy f_x f_standMany f_bestMany f_tail f_round1, (ad 2, .inl (dA 0, 2982, .inl b_all))] sz)) 0 0 (va_A [zr_o ad f_thrown f_taped f_at f_behind f_size f_kind f_number f_wrong f_wrongAt f_faultKind f_faultPlace f_reading f_toldWhy f_x f_standMany f_bestMany f_tail f_round1, (ad 2, .inl (dA 0, 2982, .inl b_all))] sz) := by
  unfold zf_X11_noComing at hf
  refine Met.ofW (cc := cX11_noComing) (maxL := 3) (ret := (some .int)) (by decide) rfl ?_
  intro p e s m args below meth c s₁ B hml hv
  obtain ⟨rfl, hsz, hP, hK, hD0⟩ := hv
  have hx := B.exec
  have hb := B.bytes
  have hr := B.returns
  have ht : ∀ w ∈ zr_T, w.before ([.ref (ad 0), .int p1, .int p2] : List Value).toArray s = true := fun w hw => atoms_spec (ws := .code yX11_noComing cX11_noComing 3 (some .int) :: zr_T) B.pre w (List.mem_cons_of_mem _ hw)
  have hown : s.vm.findClass RX11 = some m.cls := findClass_of_methodNamed B.named
  have hlocks := B.notSynchronized
  subst hsz
  have hD := hD0.self (sz := s.heap.size)
  generalize hAe : va_A [zr_o ad f_thrown f_taped f_at f_behind f_size f_kind f_number f_wrong f_wrongAt f_faultKind f_faultPlace f_reading f_toldWhy f_x f_standMany f_bestMany f_tail f_round1, (ad 2, .inl (dA 0, 2982, .inl b_all))] s.heap.size = A at hD ⊢
  have hA : ∀ q : Nat, s.heap.size ≤ q → A q := fun q h => by rw [← hAe]; exact Or.inr h
  clear hAe hD0
  have hS : va_S A s.heap s.heap [] := va_S.rf
  have hl := lv_entry ([.ref (ad 0), .int p1, .int p2]) (n := 3) (Nat.le_of_ble_eq_true rfl)
  rw [lg_entry_eq]
  generalize (lg_sl ([.ref (ad 0), .int p1, .int p2]) ++ List.replicate (3 - (lg_sl ([.ref (ad 0), .int p1, .int p2])).length) Slot.unset).toArray = ls at hl ⊢
  have hl : lv_has ls 3 [(0, .ref (ad 0)), (1, .int p1), (2, .int p2)] := hl
  refine lv_aload_n (pc := 0) hx hb dX11_noComing_0 rfl (lv_at hl 0 rfl) ?_
  refine lv_iload_n (pc := 1) hx hb dX11_noComing_1 rfl (lv_at hl 1 rfl) ?_
  obtain ⟨v1, hv1, hf⟩ := zc_1 hf
  refine zw_Vi (pc := 2) (wc := [zr_o ad f_thrown f_taped f_at f_behind f_size f_kind f_number f_wrong f_wrongAt f_faultKind f_faultPlace f_reading f_toldWhy f_x f_standMany f_bestMany f_tail f_round1, (ad 2, .inl (dA 0, 2982, .inl b_all))]) (wr := []) (w1 := [zr_o ad f_thrown f_taped f_at f_behind f_size f_kind f_number f_wrong f_wrongAt f_faultKind f_faultPlace f_reading f_toldWhy f_x f_standMany f_bestMany f_tail f_round1, (ad 2, .inl (dA 0, 2982, .inl b_all))]) (As := [.int p1]) (rest := []) ⟨hx, hb, hml, hown, ht⟩ (zt_X11_isRung l dC dI dA ad _ f_thrown f_taped f_at f_behind f_size f_kind f_number f_wrong f_wrongAt f_faultKind f_faultPlace f_reading f_toldWhy f_x f_standMany f_bestMany f_tail f_round1 b_all p1 v1 hv1) (cwV 1 ht (zr_V zr_255 zr_256 zr_257 zr_36 zr_206) rfl rfl rfl zk_X11_isRung ⟨Nat.le_of_ble_eq_true rfl, Nat.le_of_ble_eq_true rfl⟩) rfl rfl hK hP hD hS hA [0, 1] [] (by decide) (by decide) (by decide) rfl rfl rfl hl.1 (Nat.le_of_ble_eq_true rfl) dX11_noComing_2 ⟨Nat.zero_le _, Nat.zero_le _⟩ rfl (fun H locs hP hD hS => ?_)
  have hP : va_P (dC, dI) zz_cls [zr_o ad f_thrown f_taped f_at f_behind f_size f_kind f_number f_wrong f_wrongAt f_faultKind f_faultPlace f_reading f_toldWhy f_x f_standMany f_bestMany f_tail f_round1, (ad 2, .inl (dA 0, 2982, .inl b_all))] H := hP
  have hD : va_D A [zr_o ad f_thrown f_taped f_at f_behind f_size f_kind f_number f_wrong f_wrongAt f_faultKind f_faultPlace f_reading f_toldWhy f_x f_standMany f_bestMany f_tail f_round1, (ad 2, .inl (dA 0, 2982, .inl b_all))] := hD
  refine lv_if_ne (tgt := 13) (pc := 5) hx hb dX11_noComing_5 rfl (fun hc => ?_) (fun hc => ?_)
  · have hf := za_f hf hc
    refine lv_aload_n (pc := 13) hx hb dX11_noComing_13 rfl (lv_at hl 0 rfl) ?_
    refine lv_iload_n (pc := 14) hx hb dX11_noComing_14 rfl (lv_at hl 2 rfl) ?_
    obtain ⟨v2, hv2, hf⟩ := zc_1 hf
    refine zw_Vi (pc := 15) (wc := [zr_o ad f_thrown f_taped f_at f_behind f_size f_kind f_number f_wrong f_wrongAt f_faultKind f_faultPlace f_reading f_toldWhy f_x f_standMany f_bestMany f_tail f_round1, (ad 2, .inl (dA 0, 2982, .inl b_all))]) (wr := []) (w1 := [zr_o ad f_thrown f_taped f_at f_behind f_size f_kind f_number f_wrong f_wrongAt f_faultKind f_faultPlace f_reading f_toldWhy f_x f_standMany f_bestMany f_tail f_round1, (ad 2, .inl (dA 0, 2982, .inl b_all))]) (As := [.int p2]) (rest := []) ⟨hx, hb, hml, hown, ht⟩ (zt_X11_isSet l dC dI dA ad _ f_thrown f_taped f_at f_behind f_size f_kind f_number f_wrong f_wrongAt f_faultKind f_faultPlace f_reading f_toldWhy f_x f_standMany f_bestMany f_tail f_round1 b_all p2 v2 hv2) (cwV 1 ht (zr_V zr_364 zr_365 zr_366 zr_36 zr_208) rfl rfl rfl zk_X11_isSet ⟨Nat.le_of_ble_eq_true rfl, Nat.le_of_ble_eq_true rfl⟩) rfl rfl hK hP hD hS hA [0, 1] [] (by decide) (by decide) (by decide) rfl rfl rfl hl.1 (Nat.le_of_ble_eq_true rfl) dX11_noComing_15 ⟨Nat.zero_le _, Nat.zero_le _⟩ rfl (fun H locs hP hD hS => ?_)
    have hP : va_P (dC, dI) zz_cls [zr_o ad f_thrown f_taped f_at f_behind f_size f_kind f_number f_wrong f_wrongAt f_faultKind f_faultPlace f_reading f_toldWhy f_x f_standMany f_bestMany f_tail f_round1, (ad 2, .inl (dA 0, 2982, .inl b_all))] H := hP
    have hD : va_D A [zr_o ad f_thrown f_taped f_at f_behind f_size f_kind f_number f_wrong f_wrongAt f_faultKind f_faultPlace f_reading f_toldWhy f_x f_standMany f_bestMany f_tail f_round1, (ad 2, .inl (dA 0, 2982, .inl b_all))] := hD
    refine lv_if_eq (tgt := 25) (pc := 18) hx hb dX11_noComing_18 rfl (fun hc => ?_) (fun hc => ?_)
    · have hf := za_t hf hc
      refine lv_bipush (v := (-3 : Int32)) (pc := 25) hx hb dX11_noComing_25 (by decide) ?_
      obtain rfl := Option.some.inj hf
      exact W.iret (pc := 27) hx hb hr (fun t ht hW => ⟨⟨_, (), rfl, rfl, zz_Bi (by rw [ht]; exact hP) (va_K.moved hW.alike hK) (hD)⟩, hS.F ht⟩) hS.2.2 dX11_noComing_27
    · have hf := za_f hf hc
      refine lv_iconst (v := (0 : Int32)) (pc := 21) hx hb dX11_noComing_21 (by decide) ?_
      refine lv_goto (tgt := 27) (pc := 22) hx hb dX11_noComing_22 rfl ?_
      obtain rfl := Option.some.inj hf
      exact W.iret (pc := 27) hx hb hr (fun t ht hW => ⟨⟨_, (), rfl, rfl, zz_Bi (by rw [ht]; exact hP) (va_K.moved hW.alike hK) (hD)⟩, hS.F ht⟩) hS.2.2 dX11_noComing_27
  · have hf := za_t hf hc
    refine lv_bipush (v := (-2 : Int32)) (pc := 8) hx hb dX11_noComing_8 (by decide) ?_
    refine lv_goto (tgt := 27) (pc := 10) hx hb dX11_noComing_10 rfl ?_
    obtain rfl := Option.some.inj hf
    exact W.iret (pc := 27) hx hb hr (fun t ht hW => ⟨⟨_, (), rfl, rfl, zz_Bi (by rw [ht]; exact hP) (va_K.moved hW.alike hK) (hD)⟩, hS.F ht⟩) hS.2.2 dX11_noComing_27
