def zb_X11_image_20 (p1 : Int32) (v2 : Int32) (a3 : (Nat → Int32)) : Option (Nat × Int32 × (Nat → Int32)) :=
  if (994 : Int32) ≤ v2 then
    some (1, v2, a3)
  else
    zd_1 (za_ld a3 2982 v2) (fun v4 =>
    zd_1 (za_st a3 2982 (((994 : Int32) * (p1 + (1 : Int32))) + v2) v4) (fun a5 =>
    zd_1 (some (v2 + (1 : Int32))) (fun v6 =>
    some (0, v6, a5))))
def zf_X11_image (n : Nat) (f_thrown : Int32) (b_all : (Nat → Int32)) (b_hasImage : (Nat → Int32)) (p1 : Int32) : Option (Int32 × Int32 × (Nat → Int32) × (Nat → Int32)) :=
  zd_1 (zf_X11_within (Int32.toInt64 p1) (0 : Int64) (1 : Int64)) (fun v1 =>
  if v1 = 0 then
    some ((-2 : Int32), (0 : Int32), b_all, b_hasImage)
  else
    zd_3 (za_it (fun v => zb_X11_image_20 p1 v.1 v.2) n ((0 : Int32), b_all)) (fun g9 v7 a8 =>
    zd_1 (za_st b_hasImage 2 p1 (1 : Int32)) (fun a10 =>
    some ((0 : Int32), (0 : Int32), a8, a10))))
theorem zk_X11_image : yX11_image.cls = RX11 ∧ yX11_image.cls ≠ "java/lang/invoke/MethodHandle" ∧ yX11_image.cls ≠ "java/lang/invoke/VarHandle" ∧ (parseMethodDescriptor yX11_image.desc).map (fun d => d.parameters.length) = some 1 := by decide +kernel
set_option maxHeartbeats 4000000 in
set_option maxRecDepth 100000 in
theorem zt_X11_image (l : Launch) (dC : Nat → ClassId) (dI : Nat → Nat → Nat) (dA : Nat → ClassId) (ad : Nat → Nat) (sz : Nat) (n : Nat) (f_thrown f_taped f_at f_behind f_size f_kind f_number f_wrong f_wrongAt f_faultKind f_faultPlace f_reading f_toldWhy f_x f_standMany f_bestMany f_tail f_round1 : Int32) (b_all : (Nat → Int32)) (b_hasImage : (Nat → Int32)) (p1 : Int32) (r0 : Int32) (o1 : Int32) (o2 : (Nat → Int32)) (o3 : (Nat → Int32)) (hf : zf_X11_image n f_thrown b_all b_hasImage p1 = some (r0, o1, o2, o3)) : Met l yX11_image (.code yX11_image cX11_image 3 (some .int) :: zr_T) ({ frames := 1, cells := 0, slots := 0, locals := 25 }) (va_Pc [.ref (ad 0), .int p1] (zz_M dC dI dA [zr_o ad f_thrown f_taped f_at f_behind f_size f_kind f_number f_wrong f_wrongAt f_faultKind f_faultPlace f_reading f_toldWhy f_x f_standMany f_bestMany f_tail f_round1, (ad 2, .inl (dA 0, 2982, .inl b_all)), (ad 3, .inl (dA 2, 2, .inl b_hasImage))] sz)) (va_Qi (fun (r : Int32) (_ : Unit) => r = r0) (fun _ t => zz_B dC dI dA (va_A [zr_o ad f_thrown f_taped f_at f_behind f_size f_kind f_number f_wrong f_wrongAt f_faultKind f_faultPlace f_reading f_toldWhy f_x f_standMany f_bestMany f_tail f_round1, (ad 2, .inl (dA 0, 2982, .inl b_all)), (ad 3, .inl (dA 2, 2, .inl b_hasImage))] sz) [zr_o ad o1 f_taped f_at f_behind f_size f_kind f_number f_wrong f_wrongAt f_faultKind f_faultPlace f_reading f_toldWhy f_x f_standMany f_bestMany f_tail f_round1, (ad 2, .inl (dA 0, 2982, .inl o2)), (ad 3, .inl (dA 2, 2, .inl o3))] t) (va_A [zr_o ad f_thrown f_taped f_at f_behind f_size f_kind f_number f_wrong f_wrongAt f_faultKind f_faultPlace f_reading f_toldWhy f_x f_standMany f_bestMany f_tail f_round1, (ad 2, .inl (dA 0, 2982, .inl b_all)), (ad 3, .inl (dA 2, 2, .inl b_hasImage))] sz)) 0 0 (va_A [zr_o ad f_thrown f_taped f_at f_behind f_size f_kind f_number f_wrong f_wrongAt f_faultKind f_faultPlace f_reading f_toldWhy f_x f_standMany f_bestMany f_tail f_round1, (ad 2, .inl (dA 0, 2982, .inl b_all)), (ad 3, .inl (dA 2, 2, .inl b_hasImage))] sz) := by
  unfold zf_X11_image at hf
  refine Met.ofW (cc := cX11_image) (maxL := 3) (ret := (some .int)) (by decide) rfl ?_
  intro p e s m args below meth c s₁ B hml hv
  obtain ⟨rfl, hsz, hP, hK, hD0⟩ := hv
  have hx := B.exec
  have hb := B.bytes
  have hr := B.returns
  have ht : ∀ w ∈ zr_T, w.before ([.ref (ad 0), .int p1] : List Value).toArray s = true := fun w hw => atoms_spec (ws := .code yX11_image cX11_image 3 (some .int) :: zr_T) B.pre w (List.mem_cons_of_mem _ hw)
  have hown : s.vm.findClass RX11 = some m.cls := findClass_of_methodNamed B.named
  have hlocks := B.notSynchronized
  subst hsz
  have hD := hD0.self (sz := s.heap.size)
  generalize hAe : va_A [zr_o ad f_thrown f_taped f_at f_behind f_size f_kind f_number f_wrong f_wrongAt f_faultKind f_faultPlace f_reading f_toldWhy f_x f_standMany f_bestMany f_tail f_round1, (ad 2, .inl (dA 0, 2982, .inl b_all)), (ad 3, .inl (dA 2, 2, .inl b_hasImage))] s.heap.size = A at hD ⊢
  have hA : ∀ q : Nat, s.heap.size ≤ q → A q := fun q h => by rw [← hAe]; exact Or.inr h
  clear hAe hD0
  have hS : va_S A s.heap s.heap [] := va_S.rf
  have hl := lv_entry ([.ref (ad 0), .int p1]) (n := 3) (Nat.le_of_ble_eq_true rfl)
  rw [lg_entry_eq]
  generalize (lg_sl ([.ref (ad 0), .int p1]) ++ List.replicate (3 - (lg_sl ([.ref (ad 0), .int p1])).length) Slot.unset).toArray = ls at hl ⊢
  have hl : lv_has ls 3 [(0, .ref (ad 0)), (1, .int p1)] := hl
  refine lv_aload_n (pc := 0) hx hb dX11_image_0 rfl (lv_at hl 0 rfl) ?_
  refine lv_iconst (v := (0 : Int32)) (pc := 1) hx hb dX11_image_1 (by decide) ?_
  refine va_put (pc := 2) (D := (dC, dI)) (ci := 0) (v := .int (0 : Int32)) (ty := .int) (C := RX11) (T := TX11) (N := 42) hx hb ht zr_lay tyX11 tyX11_ok nmX11 hown hK hP hD hS 0 rfl rfl 0 (by decide) (ht _ zr_39) (fun _ h9 => h9) rfl (by decide +kernel) rfl rfl (Nat.le_of_ble_eq_true rfl) dX11_image_2 (fun H locs hP hD hS => ?_)
  have hP : va_P (dC, dI) zz_cls [zr_o ad (0 : Int32) f_taped f_at f_behind f_size f_kind f_number f_wrong f_wrongAt f_faultKind f_faultPlace f_reading f_toldWhy f_x f_standMany f_bestMany f_tail f_round1, (ad 2, .inl (dA 0, 2982, .inl b_all)), (ad 3, .inl (dA 2, 2, .inl b_hasImage))] H := hP
  have hD : va_D A [zr_o ad (0 : Int32) f_taped f_at f_behind f_size f_kind f_number f_wrong f_wrongAt f_faultKind f_faultPlace f_reading f_toldWhy f_x f_standMany f_bestMany f_tail f_round1, (ad 2, .inl (dA 0, 2982, .inl b_all)), (ad 3, .inl (dA 2, 2, .inl b_hasImage))] := hD
  refine lv_iload_n (pc := 5) hx hb dX11_image_5 rfl (lv_at hl 1 rfl) ?_
  refine lv_i2l (pc := 6) hx hb dX11_image_6 rfl ?_
  refine lv_lconst (v := (0 : Int64)) (pc := 7) hx hb dX11_image_7 (by decide) ?_
  refine lv_lconst (v := (1 : Int64)) (pc := 8) hx hb dX11_image_8 (by decide) ?_
  obtain ⟨v1, hv1, hf⟩ := zc_1 hf
  refine zw_Si (pc := 9) (wc := []) (wr := [zr_o ad (0 : Int32) f_taped f_at f_behind f_size f_kind f_number f_wrong f_wrongAt f_faultKind f_faultPlace f_reading f_toldWhy f_x f_standMany f_bestMany f_tail f_round1, (ad 2, .inl (dA 0, 2982, .inl b_all)), (ad 3, .inl (dA 2, 2, .inl b_hasImage))]) (w1 := []) (As := [.long (Int32.toInt64 p1), .long (0 : Int64), .long (1 : Int64)]) (rest := []) ⟨hx, hb, hml, hown, ht⟩ (zt_X11_within l dC dI dA ad _ (Int32.toInt64 p1) (0 : Int64) (1 : Int64) v1 hv1) (cwS 3 ht (zr_S zr_124 zr_125 zr_36 zr_0) rfl rfl rfl zk_X11_within ⟨Nat.le_of_ble_eq_true rfl, Nat.le_of_ble_eq_true rfl⟩) hK hP hD hS hA [] [0, 1, 2] (by decide) (by decide) (by decide) rfl rfl rfl hl.1 (Nat.le_of_ble_eq_true rfl) dX11_image_9 ⟨Nat.zero_le _, Nat.zero_le _⟩ rfl (fun H locs hP hD hS => ?_)
  have hP : va_P (dC, dI) zz_cls [zr_o ad (0 : Int32) f_taped f_at f_behind f_size f_kind f_number f_wrong f_wrongAt f_faultKind f_faultPlace f_reading f_toldWhy f_x f_standMany f_bestMany f_tail f_round1, (ad 2, .inl (dA 0, 2982, .inl b_all)), (ad 3, .inl (dA 2, 2, .inl b_hasImage))] H := hP
  have hD : va_D A [zr_o ad (0 : Int32) f_taped f_at f_behind f_size f_kind f_number f_wrong f_wrongAt f_faultKind f_faultPlace f_reading f_toldWhy f_x f_standMany f_bestMany f_tail f_round1, (ad 2, .inl (dA 0, 2982, .inl b_all)), (ad 3, .inl (dA 2, 2, .inl b_hasImage))] := hD
  refine lv_if_ne (tgt := 18) (pc := 12) hx hb dX11_image_12 rfl (fun hc => ?_) (fun hc => ?_)
  · have hf := za_f hf hc
    refine lv_iconst (v := (0 : Int32)) (pc := 18) hx hb dX11_image_18 (by decide) ?_
    refine lv_istore_n (lv' := [(2, .int (0 : Int32)), (0, .ref (ad 0)), (1, .int p1)]) (pc := 19) hx hb dX11_image_19 rfl hl (by decide) rfl (fun ls hl => ?_)
    obtain ⟨g9, v7, a8, hj, hf⟩ := zc_3 hf
    refine zj_join (pcJ := 53) (stk := []) (X := fun H locs ls => lv_has ls 3 [(0, .ref (ad 0)), (1, .int p1)] ∧ va_P (dC, dI) zz_cls [zr_o ad (0 : Int32) f_taped f_at f_behind f_size f_kind f_number f_wrong f_wrongAt f_faultKind f_faultPlace f_reading f_toldWhy f_x f_standMany f_bestMany f_tail f_round1, (ad 2, .inl (dA 0, 2982, .inl a8)), (ad 3, .inl (dA 2, 2, .inl b_hasImage))] H ∧ va_D A [zr_o ad (0 : Int32) f_taped f_at f_behind f_size f_kind f_number f_wrong f_wrongAt f_faultKind f_faultPlace f_reading f_toldWhy f_x f_standMany f_bestMany f_tail f_round1, (ad 2, .inl (dA 0, 2982, .inl a8)), (ad 3, .inl (dA 2, 2, .inl b_hasImage))] ∧ va_S A s.heap H locs) (fun H locs ls hX => ?_) (fun E53 => ?_)
    · obtain ⟨hl, hP, hD, hS⟩ := hX
      clear hj
      refine lv_aload_n (pc := 53) hx hb dX11_image_53 rfl (lv_at hl 0 rfl) ?_
      refine va_get (pc := 54) (D := (dC, dI)) (ci := 0) (v := .ref (ad 3)) (C := RX11) (T := TX11) (N := 42) hx hb ht zr_lay hown hK hP 0 rfl rfl 2 (by decide) (ht _ zr_8) (fun _ h9 => h9) rfl dX11_image_54 ?_
      refine lv_iload_n (pc := 57) hx hb dX11_image_57 rfl (lv_at hl 1 rfl) ?_
      refine lv_iconst (v := (1 : Int32)) (pc := 58) hx hb dX11_image_58 (by decide) ?_
      obtain ⟨a10, ha10, hf⟩ := zc_1 hf
      refine zw_zast (pc := 59) hx hb hK hP hD hS 2 2 rfl rfl rfl ha10 dX11_image_59 (fun H locs hP hD hS => ?_)
      have hP : va_P (dC, dI) zz_cls [zr_o ad (0 : Int32) f_taped f_at f_behind f_size f_kind f_number f_wrong f_wrongAt f_faultKind f_faultPlace f_reading f_toldWhy f_x f_standMany f_bestMany f_tail f_round1, (ad 2, .inl (dA 0, 2982, .inl a8)), (ad 3, .inl (dA 2, 2, .inl a10))] H := hP
      have hD : va_D A [zr_o ad (0 : Int32) f_taped f_at f_behind f_size f_kind f_number f_wrong f_wrongAt f_faultKind f_faultPlace f_reading f_toldWhy f_x f_standMany f_bestMany f_tail f_round1, (ad 2, .inl (dA 0, 2982, .inl a8)), (ad 3, .inl (dA 2, 2, .inl a10))] := hD
      refine lv_iconst (v := (0 : Int32)) (pc := 60) hx hb dX11_image_60 (by decide) ?_
      obtain ⟨rfl, rfl, rfl, rfl⟩ := zi_4 hf
      exact W.iret (pc := 61) hx hb hr (fun t ht hW => ⟨⟨_, (), rfl, rfl, zz_Bi (by rw [ht]; exact hP) (va_K.moved hW.alike hK) (hD)⟩, hS.F ht⟩) hS.2.2 dX11_image_61
    clear hf
    refine zw_loop (pcH := 20) (X := fun v H locs ls => lv_has ls 3 [(0, .ref (ad 0)), (1, .int p1), (2, .int v.1)] ∧ va_P (dC, dI) zz_cls [zr_o ad (0 : Int32) f_taped f_at f_behind f_size f_kind f_number f_wrong f_wrongAt f_faultKind f_faultPlace f_reading f_toldWhy f_x f_standMany f_bestMany f_tail f_round1, (ad 2, .inl (dA 0, 2982, .inl v.2)), (ad 3, .inl (dA 2, 2, .inl b_hasImage))] H ∧ va_D A [zr_o ad (0 : Int32) f_taped f_at f_behind f_size f_kind f_number f_wrong f_wrongAt f_faultKind f_faultPlace f_reading f_toldWhy f_x f_standMany f_bestMany f_tail f_round1, (ad 2, .inl (dA 0, 2982, .inl v.2)), (ad 3, .inl (dA 2, 2, .inl b_hasImage))] ∧ va_S A s.heap H locs) hj (fun v w hf ih ex H locs ls hX => ?_) _ _ _ ⟨lv_sub hl [1, 2, 0] rfl, hP, hD, hS⟩
    clear hj
    obtain ⟨v2, a3⟩ := v
    obtain ⟨hl, hP, hD, hS⟩ := hX
    have hl : lv_has ls 3 [(0, .ref (ad 0)), (1, .int p1), (2, .int v2)] := hl
    have hP : va_P (dC, dI) zz_cls [zr_o ad (0 : Int32) f_taped f_at f_behind f_size f_kind f_number f_wrong f_wrongAt f_faultKind f_faultPlace f_reading f_toldWhy f_x f_standMany f_bestMany f_tail f_round1, (ad 2, .inl (dA 0, 2982, .inl a3)), (ad 3, .inl (dA 2, 2, .inl b_hasImage))] H := hP
    have hD : va_D A [zr_o ad (0 : Int32) f_taped f_at f_behind f_size f_kind f_number f_wrong f_wrongAt f_faultKind f_faultPlace f_reading f_toldWhy f_x f_standMany f_bestMany f_tail f_round1, (ad 2, .inl (dA 0, 2982, .inl a3)), (ad 3, .inl (dA 2, 2, .inl b_hasImage))] := hD
    replace hf : zb_X11_image_20 p1 v2 a3 = some w := hf
    unfold zb_X11_image_20 at hf
    refine lv_iload_n (pc := 20) hx hb dX11_image_20 rfl (lv_at hl 2 rfl) ?_
    refine lv_sipush (v := (994 : Int32)) (pc := 21) hx hb dX11_image_21 (by decide) ?_
    refine lv_icmp_ge (tgt := 53) (pc := 24) hx hb dX11_image_24 rfl (fun hc => ?_) (fun hc => ?_)
    · have hf := za_t hf hc
      obtain rfl := Option.some.inj hf
      obtain ⟨rfl, rfl, rfl⟩ := zp_3 (ex (show ¬ (1 : Nat) = 0 by decide))
      exact E53 _ _ _ ⟨lv_sub hl [0, 1] rfl, hP, hD, hS⟩
    · have hf := za_f hf hc
      refine lv_aload_n (pc := 27) hx hb dX11_image_27 rfl (lv_at hl 0 rfl) ?_
      refine va_get (pc := 28) (D := (dC, dI)) (ci := 0) (v := .ref (ad 2)) (C := RX11) (T := TX11) (N := 42) hx hb ht zr_lay hown hK hP 0 rfl rfl 1 (by decide) (ht _ zr_6) (fun _ h9 => h9) rfl dX11_image_28 ?_
      refine lv_sipush (v := (994 : Int32)) (pc := 31) hx hb dX11_image_31 (by decide) ?_
      refine lv_iload_n (pc := 34) hx hb dX11_image_34 rfl (lv_at hl 1 rfl) ?_
      refine lv_iconst (v := (1 : Int32)) (pc := 35) hx hb dX11_image_35 (by decide) ?_
      refine lv_iadd (pc := 36) hx hb dX11_image_36 ?_
      refine lv_imul (pc := 37) hx hb dX11_image_37 ?_
      refine lv_iload_n (pc := 38) hx hb dX11_image_38 rfl (lv_at hl 2 rfl) ?_
      refine lv_iadd (pc := 39) hx hb dX11_image_39 ?_
      refine lv_aload_n (pc := 40) hx hb dX11_image_40 rfl (lv_at hl 0 rfl) ?_
      refine va_get (pc := 41) (D := (dC, dI)) (ci := 0) (v := .ref (ad 2)) (C := RX11) (T := TX11) (N := 42) hx hb ht zr_lay hown hK hP 0 rfl rfl 1 (by decide) (ht _ zr_6) (fun _ h9 => h9) rfl dX11_image_41 ?_
      refine lv_iload_n (pc := 44) hx hb dX11_image_44 rfl (lv_at hl 2 rfl) ?_
      obtain ⟨v4, hv4, hf⟩ := zc_1 hf
      refine zw_iald (pc := 45) hx hb hK hP 1 0 rfl rfl hv4 dX11_image_45 ?_
      obtain ⟨a5, ha5, hf⟩ := zc_1 hf
      refine zw_iast (pc := 46) hx hb hK hP hD hS 1 0 rfl rfl ha5 dX11_image_46 (fun H locs hP hD hS => ?_)
      have hP : va_P (dC, dI) zz_cls [zr_o ad (0 : Int32) f_taped f_at f_behind f_size f_kind f_number f_wrong f_wrongAt f_faultKind f_faultPlace f_reading f_toldWhy f_x f_standMany f_bestMany f_tail f_round1, (ad 2, .inl (dA 0, 2982, .inl a5)), (ad 3, .inl (dA 2, 2, .inl b_hasImage))] H := hP
      have hD : va_D A [zr_o ad (0 : Int32) f_taped f_at f_behind f_size f_kind f_number f_wrong f_wrongAt f_faultKind f_faultPlace f_reading f_toldWhy f_x f_standMany f_bestMany f_tail f_round1, (ad 2, .inl (dA 0, 2982, .inl a5)), (ad 3, .inl (dA 2, 2, .inl b_hasImage))] := hD
      obtain ⟨v6, hv6, hf⟩ := zc_1 hf
      refine lv_iinc (v := v6) (lv' := [(2, .int v6), (0, .ref (ad 0)), (1, .int p1)]) (k := 2) (pc := 47) hx hb dX11_image_47 hl rfl (Option.some.inj hv6) (by decide) rfl (fun ls hl => ?_)
      refine lv_goto (tgt := 20) (pc := 50) hx hb dX11_image_50 rfl ?_
      obtain rfl := Option.some.inj hf
      exact ih rfl _ _ _ ⟨lv_sub hl [1, 2, 0] rfl, hP, hD, hS⟩
  · have hf := za_t hf hc
    refine lv_bipush (v := (-2 : Int32)) (pc := 15) hx hb dX11_image_15 (by decide) ?_
    obtain ⟨rfl, rfl, rfl, rfl⟩ := zi_4 hf
    exact W.iret (pc := 17) hx hb hr (fun t ht hW => ⟨⟨_, (), rfl, rfl, zz_Bi (by rw [ht]; exact hP) (va_K.moved hW.alike hK) (hD)⟩, hS.F ht⟩) hS.2.2 dX11_image_17

def zb_X11_restore_32 (p1 : Int32) (v3 : Int32) (a4 : (Nat → Int32)) : Option (Nat × Int32 × (Nat → Int32)) :=
  if (994 : Int32) ≤ v3 then
    some (1, v3, a4)
  else
    zd_1 (za_ld a4 2982 (((994 : Int32) * (p1 + (1 : Int32))) + v3)) (fun v5 =>
    zd_1 (za_st a4 2982 v3 v5) (fun a6 =>
    zd_1 (some (v3 + (1 : Int32))) (fun v7 =>
    some (0, v7, a6))))
def zf_X11_restore (n : Nat) (f_thrown : Int32) (b_all : (Nat → Int32)) (b_hasImage : (Nat → Int32)) (p1 : Int32) : Option (Int32 × Int32 × (Nat → Int32)) :=
  zd_1 (zf_X11_within (Int32.toInt64 p1) (0 : Int64) (1 : Int64)) (fun v1 =>
  if v1 = 0 then
    some ((-2 : Int32), (0 : Int32), b_all)
  else
    zd_1 (za_ld b_hasImage 2 p1) (fun v2 =>
    if v2 = 0 then
      some ((-5 : Int32), (0 : Int32), b_all)
    else
      zd_3 (za_it (fun v => zb_X11_restore_32 p1 v.1 v.2) n ((0 : Int32), b_all)) (fun g10 v8 a9 =>
      zd_1 (za_st a9 2982 (42 : Int32) (0 : Int32)) (fun a11 =>
      some ((0 : Int32), (0 : Int32), a11)))))
theorem zk_X11_restore : yX11_restore.cls = RX11 ∧ yX11_restore.cls ≠ "java/lang/invoke/MethodHandle" ∧ yX11_restore.cls ≠ "java/lang/invoke/VarHandle" ∧ (parseMethodDescriptor yX11_restore.desc).map (fun d => d.parameters.length) = some 1 := by decide +kernel
set_option maxHeartbeats 4000000 in
set_option maxRecDepth 100000 in
theorem zt_X11_restore (l : Launch) (dC : Nat → ClassId) (dI : Nat → Nat → Nat) (dA : Nat → ClassId) (ad : Nat → Nat) (sz : Nat) (n : Nat) (f_thrown f_taped f_at f_behind f_size f_kind f_number f_wrong f_wrongAt f_faultKind f_faultPlace f_reading f_toldWhy f_x f_standMany f_bestMany f_tail f_round1 : Int32) (b_all : (Nat → Int32)) (b_hasImage : (Nat → Int32)) (p1 : Int32) (r0 : Int32) (o1 : Int32) (o2 : (Nat → Int32)) (hf : zf_X11_restore n f_thrown b_all b_hasImage p1 = some (r0, o1, o2)) : Met l yX11_restore (.code yX11_restore cX11_restore 3 (some .int) :: zr_T) ({ frames := 1, cells := 0, slots := 0, locals := 25 }) (va_Pc [.ref (ad 0), .int p1] (zz_M dC dI dA [zr_o ad f_thrown f_taped f_at f_behind f_size f_kind f_number f_wrong f_wrongAt f_faultKind f_faultPlace f_reading f_toldWhy f_x f_standMany f_bestMany f_tail f_round1, (ad 2, .inl (dA 0, 2982, .inl b_all)), (ad 3, .inl (dA 2, 2, .inl b_hasImage))] sz)) (va_Qi (fun (r : Int32) (_ : Unit) => r = r0) (fun _ t => zz_B dC dI dA (va_A [zr_o ad f_thrown f_taped f_at f_behind f_size f_kind f_number f_wrong f_wrongAt f_faultKind f_faultPlace f_reading f_toldWhy f_x f_standMany f_bestMany f_tail f_round1, (ad 2, .inl (dA 0, 2982, .inl b_all)), (ad 3, .inl (dA 2, 2, .inl b_hasImage))] sz) [zr_o ad o1 f_taped f_at f_behind f_size f_kind f_number f_wrong f_wrongAt f_faultKind f_faultPlace f_reading f_toldWhy f_x f_standMany f_bestMany f_tail f_round1, (ad 2, .inl (dA 0, 2982, .inl o2)), (ad 3, .inl (dA 2, 2, .inl b_hasImage))] t) (va_A [zr_o ad f_thrown f_taped f_at f_behind f_size f_kind f_number f_wrong f_wrongAt f_faultKind f_faultPlace f_reading f_toldWhy f_x f_standMany f_bestMany f_tail f_round1, (ad 2, .inl (dA 0, 2982, .inl b_all)), (ad 3, .inl (dA 2, 2, .inl b_hasImage))] sz)) 0 0 (va_A [zr_o ad f_thrown f_taped f_at f_behind f_size f_kind f_number f_wrong f_wrongAt f_faultKind f_faultPlace f_reading f_toldWhy f_x f_standMany f_bestMany f_tail f_round1, (ad 2, .inl (dA 0, 2982, .inl b_all)), (ad 3, .inl (dA 2, 2, .inl b_hasImage))] sz) := by
  unfold zf_X11_restore at hf
  refine Met.ofW (cc := cX11_restore) (maxL := 3) (ret := (some .int)) (by decide) rfl ?_
  intro p e s m args below meth c s₁ B hml hv
  obtain ⟨rfl, hsz, hP, hK, hD0⟩ := hv
  have hx := B.exec
  have hb := B.bytes
  have hr := B.returns
  have ht : ∀ w ∈ zr_T, w.before ([.ref (ad 0), .int p1] : List Value).toArray s = true := fun w hw => atoms_spec (ws := .code yX11_restore cX11_restore 3 (some .int) :: zr_T) B.pre w (List.mem_cons_of_mem _ hw)
  have hown : s.vm.findClass RX11 = some m.cls := findClass_of_methodNamed B.named
  have hlocks := B.notSynchronized
  subst hsz
  have hD := hD0.self (sz := s.heap.size)
  generalize hAe : va_A [zr_o ad f_thrown f_taped f_at f_behind f_size f_kind f_number f_wrong f_wrongAt f_faultKind f_faultPlace f_reading f_toldWhy f_x f_standMany f_bestMany f_tail f_round1, (ad 2, .inl (dA 0, 2982, .inl b_all)), (ad 3, .inl (dA 2, 2, .inl b_hasImage))] s.heap.size = A at hD ⊢
  have hA : ∀ q : Nat, s.heap.size ≤ q → A q := fun q h => by rw [← hAe]; exact Or.inr h
  clear hAe hD0
  have hS : va_S A s.heap s.heap [] := va_S.rf
  have hl := lv_entry ([.ref (ad 0), .int p1]) (n := 3) (Nat.le_of_ble_eq_true rfl)
  rw [lg_entry_eq]
  generalize (lg_sl ([.ref (ad 0), .int p1]) ++ List.replicate (3 - (lg_sl ([.ref (ad 0), .int p1])).length) Slot.unset).toArray = ls at hl ⊢
  have hl : lv_has ls 3 [(0, .ref (ad 0)), (1, .int p1)] := hl
  refine lv_aload_n (pc := 0) hx hb dX11_restore_0 rfl (lv_at hl 0 rfl) ?_
  refine lv_iconst (v := (0 : Int32)) (pc := 1) hx hb dX11_restore_1 (by decide) ?_
  refine va_put (pc := 2) (D := (dC, dI)) (ci := 0) (v := .int (0 : Int32)) (ty := .int) (C := RX11) (T := TX11) (N := 42) hx hb ht zr_lay tyX11 tyX11_ok nmX11 hown hK hP hD hS 0 rfl rfl 0 (by decide) (ht _ zr_39) (fun _ h9 => h9) rfl (by decide +kernel) rfl rfl (Nat.le_of_ble_eq_true rfl) dX11_restore_2 (fun H locs hP hD hS => ?_)
  have hP : va_P (dC, dI) zz_cls [zr_o ad (0 : Int32) f_taped f_at f_behind f_size f_kind f_number f_wrong f_wrongAt f_faultKind f_faultPlace f_reading f_toldWhy f_x f_standMany f_bestMany f_tail f_round1, (ad 2, .inl (dA 0, 2982, .inl b_all)), (ad 3, .inl (dA 2, 2, .inl b_hasImage))] H := hP
  have hD : va_D A [zr_o ad (0 : Int32) f_taped f_at f_behind f_size f_kind f_number f_wrong f_wrongAt f_faultKind f_faultPlace f_reading f_toldWhy f_x f_standMany f_bestMany f_tail f_round1, (ad 2, .inl (dA 0, 2982, .inl b_all)), (ad 3, .inl (dA 2, 2, .inl b_hasImage))] := hD
  refine lv_iload_n (pc := 5) hx hb dX11_restore_5 rfl (lv_at hl 1 rfl) ?_
  refine lv_i2l (pc := 6) hx hb dX11_restore_6 rfl ?_
  refine lv_lconst (v := (0 : Int64)) (pc := 7) hx hb dX11_restore_7 (by decide) ?_
  refine lv_lconst (v := (1 : Int64)) (pc := 8) hx hb dX11_restore_8 (by decide) ?_
  obtain ⟨v1, hv1, hf⟩ := zc_1 hf
  refine zw_Si (pc := 9) (wc := []) (wr := [zr_o ad (0 : Int32) f_taped f_at f_behind f_size f_kind f_number f_wrong f_wrongAt f_faultKind f_faultPlace f_reading f_toldWhy f_x f_standMany f_bestMany f_tail f_round1, (ad 2, .inl (dA 0, 2982, .inl b_all)), (ad 3, .inl (dA 2, 2, .inl b_hasImage))]) (w1 := []) (As := [.long (Int32.toInt64 p1), .long (0 : Int64), .long (1 : Int64)]) (rest := []) ⟨hx, hb, hml, hown, ht⟩ (zt_X11_within l dC dI dA ad _ (Int32.toInt64 p1) (0 : Int64) (1 : Int64) v1 hv1) (cwS 3 ht (zr_S zr_124 zr_125 zr_36 zr_0) rfl rfl rfl zk_X11_within ⟨Nat.le_of_ble_eq_true rfl, Nat.le_of_ble_eq_true rfl⟩) hK hP hD hS hA [] [0, 1, 2] (by decide) (by decide) (by decide) rfl rfl rfl hl.1 (Nat.le_of_ble_eq_true rfl) dX11_restore_9 ⟨Nat.zero_le _, Nat.zero_le _⟩ rfl (fun H locs hP hD hS => ?_)
  have hP : va_P (dC, dI) zz_cls [zr_o ad (0 : Int32) f_taped f_at f_behind f_size f_kind f_number f_wrong f_wrongAt f_faultKind f_faultPlace f_reading f_toldWhy f_x f_standMany f_bestMany f_tail f_round1, (ad 2, .inl (dA 0, 2982, .inl b_all)), (ad 3, .inl (dA 2, 2, .inl b_hasImage))] H := hP
  have hD : va_D A [zr_o ad (0 : Int32) f_taped f_at f_behind f_size f_kind f_number f_wrong f_wrongAt f_faultKind f_faultPlace f_reading f_toldWhy f_x f_standMany f_bestMany f_tail f_round1, (ad 2, .inl (dA 0, 2982, .inl b_all)), (ad 3, .inl (dA 2, 2, .inl b_hasImage))] := hD
  refine lv_if_ne (tgt := 18) (pc := 12) hx hb dX11_restore_12 rfl (fun hc => ?_) (fun hc => ?_)
  · have hf := za_f hf hc
    refine lv_aload_n (pc := 18) hx hb dX11_restore_18 rfl (lv_at hl 0 rfl) ?_
    refine va_get (pc := 19) (D := (dC, dI)) (ci := 0) (v := .ref (ad 3)) (C := RX11) (T := TX11) (N := 42) hx hb ht zr_lay hown hK hP 0 rfl rfl 2 (by decide) (ht _ zr_8) (fun _ h9 => h9) rfl dX11_restore_19 ?_
    refine lv_iload_n (pc := 22) hx hb dX11_restore_22 rfl (lv_at hl 1 rfl) ?_
    obtain ⟨v2, hv2, hf⟩ := zc_1 hf
    refine zw_zald (pc := 23) hx hb hK hP 2 2 rfl rfl hv2 dX11_restore_23 ?_
    refine lv_if_ne (tgt := 30) (pc := 24) hx hb dX11_restore_24 rfl (fun hc => ?_) (fun hc => ?_)
    · have hf := za_f hf hc
      refine lv_iconst (v := (0 : Int32)) (pc := 30) hx hb dX11_restore_30 (by decide) ?_
      refine lv_istore_n (lv' := [(2, .int (0 : Int32)), (0, .ref (ad 0)), (1, .int p1)]) (pc := 31) hx hb dX11_restore_31 rfl hl (by decide) rfl (fun ls hl => ?_)
      obtain ⟨g10, v8, a9, hj, hf⟩ := zc_3 hf
      refine zj_join (pcJ := 65) (stk := []) (X := fun H locs ls => lv_has ls 3 [(0, .ref (ad 0))] ∧ va_P (dC, dI) zz_cls [zr_o ad (0 : Int32) f_taped f_at f_behind f_size f_kind f_number f_wrong f_wrongAt f_faultKind f_faultPlace f_reading f_toldWhy f_x f_standMany f_bestMany f_tail f_round1, (ad 2, .inl (dA 0, 2982, .inl a9)), (ad 3, .inl (dA 2, 2, .inl b_hasImage))] H ∧ va_D A [zr_o ad (0 : Int32) f_taped f_at f_behind f_size f_kind f_number f_wrong f_wrongAt f_faultKind f_faultPlace f_reading f_toldWhy f_x f_standMany f_bestMany f_tail f_round1, (ad 2, .inl (dA 0, 2982, .inl a9)), (ad 3, .inl (dA 2, 2, .inl b_hasImage))] ∧ va_S A s.heap H locs) (fun H locs ls hX => ?_) (fun E65 => ?_)
      · obtain ⟨hl, hP, hD, hS⟩ := hX
        clear hj
        refine lv_aload_n (pc := 65) hx hb dX11_restore_65 rfl (lv_at hl 0 rfl) ?_
        refine va_get (pc := 66) (D := (dC, dI)) (ci := 0) (v := .ref (ad 2)) (C := RX11) (T := TX11) (N := 42) hx hb ht zr_lay hown hK hP 0 rfl rfl 1 (by decide) (ht _ zr_6) (fun _ h9 => h9) rfl dX11_restore_66 ?_
        refine lv_bipush (v := (42 : Int32)) (pc := 69) hx hb dX11_restore_69 (by decide) ?_
        refine lv_iconst (v := (0 : Int32)) (pc := 71) hx hb dX11_restore_71 (by decide) ?_
        obtain ⟨a11, ha11, hf⟩ := zc_1 hf
        refine zw_iast (pc := 72) hx hb hK hP hD hS 1 0 rfl rfl ha11 dX11_restore_72 (fun H locs hP hD hS => ?_)
        have hP : va_P (dC, dI) zz_cls [zr_o ad (0 : Int32) f_taped f_at f_behind f_size f_kind f_number f_wrong f_wrongAt f_faultKind f_faultPlace f_reading f_toldWhy f_x f_standMany f_bestMany f_tail f_round1, (ad 2, .inl (dA 0, 2982, .inl a11)), (ad 3, .inl (dA 2, 2, .inl b_hasImage))] H := hP
        have hD : va_D A [zr_o ad (0 : Int32) f_taped f_at f_behind f_size f_kind f_number f_wrong f_wrongAt f_faultKind f_faultPlace f_reading f_toldWhy f_x f_standMany f_bestMany f_tail f_round1, (ad 2, .inl (dA 0, 2982, .inl a11)), (ad 3, .inl (dA 2, 2, .inl b_hasImage))] := hD
        refine lv_iconst (v := (0 : Int32)) (pc := 73) hx hb dX11_restore_73 (by decide) ?_
        obtain ⟨rfl, rfl, rfl⟩ := zi_3 hf
        exact W.iret (pc := 74) hx hb hr (fun t ht hW => ⟨⟨_, (), rfl, rfl, zz_Bi (by rw [ht]; exact hP) (va_K.moved hW.alike hK) (hD)⟩, hS.F ht⟩) hS.2.2 dX11_restore_74
      clear hf
      refine zw_loop (pcH := 32) (X := fun v H locs ls => lv_has ls 3 [(0, .ref (ad 0)), (1, .int p1), (2, .int v.1)] ∧ va_P (dC, dI) zz_cls [zr_o ad (0 : Int32) f_taped f_at f_behind f_size f_kind f_number f_wrong f_wrongAt f_faultKind f_faultPlace f_reading f_toldWhy f_x f_standMany f_bestMany f_tail f_round1, (ad 2, .inl (dA 0, 2982, .inl v.2)), (ad 3, .inl (dA 2, 2, .inl b_hasImage))] H ∧ va_D A [zr_o ad (0 : Int32) f_taped f_at f_behind f_size f_kind f_number f_wrong f_wrongAt f_faultKind f_faultPlace f_reading f_toldWhy f_x f_standMany f_bestMany f_tail f_round1, (ad 2, .inl (dA 0, 2982, .inl v.2)), (ad 3, .inl (dA 2, 2, .inl b_hasImage))] ∧ va_S A s.heap H locs) hj (fun v w hf ih ex H locs ls hX => ?_) _ _ _ ⟨lv_sub hl [1, 2, 0] rfl, hP, hD, hS⟩
      clear hj
      obtain ⟨v3, a4⟩ := v
      obtain ⟨hl, hP, hD, hS⟩ := hX
      have hl : lv_has ls 3 [(0, .ref (ad 0)), (1, .int p1), (2, .int v3)] := hl
      have hP : va_P (dC, dI) zz_cls [zr_o ad (0 : Int32) f_taped f_at f_behind f_size f_kind f_number f_wrong f_wrongAt f_faultKind f_faultPlace f_reading f_toldWhy f_x f_standMany f_bestMany f_tail f_round1, (ad 2, .inl (dA 0, 2982, .inl a4)), (ad 3, .inl (dA 2, 2, .inl b_hasImage))] H := hP
      have hD : va_D A [zr_o ad (0 : Int32) f_taped f_at f_behind f_size f_kind f_number f_wrong f_wrongAt f_faultKind f_faultPlace f_reading f_toldWhy f_x f_standMany f_bestMany f_tail f_round1, (ad 2, .inl (dA 0, 2982, .inl a4)), (ad 3, .inl (dA 2, 2, .inl b_hasImage))] := hD
      replace hf : zb_X11_restore_32 p1 v3 a4 = some w := hf
      unfold zb_X11_restore_32 at hf
      refine lv_iload_n (pc := 32) hx hb dX11_restore_32 rfl (lv_at hl 2 rfl) ?_
      refine lv_sipush (v := (994 : Int32)) (pc := 33) hx hb dX11_restore_33 (by decide) ?_
      refine lv_icmp_ge (tgt := 65) (pc := 36) hx hb dX11_restore_36 rfl (fun hc => ?_) (fun hc => ?_)
      · have hf := za_t hf hc
        obtain rfl := Option.some.inj hf
        obtain ⟨rfl, rfl, rfl⟩ := zp_3 (ex (show ¬ (1 : Nat) = 0 by decide))
        exact E65 _ _ _ ⟨lv_sub hl [0] rfl, hP, hD, hS⟩
      · have hf := za_f hf hc
        refine lv_aload_n (pc := 39) hx hb dX11_restore_39 rfl (lv_at hl 0 rfl) ?_
        refine va_get (pc := 40) (D := (dC, dI)) (ci := 0) (v := .ref (ad 2)) (C := RX11) (T := TX11) (N := 42) hx hb ht zr_lay hown hK hP 0 rfl rfl 1 (by decide) (ht _ zr_6) (fun _ h9 => h9) rfl dX11_restore_40 ?_
        refine lv_iload_n (pc := 43) hx hb dX11_restore_43 rfl (lv_at hl 2 rfl) ?_
        refine lv_aload_n (pc := 44) hx hb dX11_restore_44 rfl (lv_at hl 0 rfl) ?_
        refine va_get (pc := 45) (D := (dC, dI)) (ci := 0) (v := .ref (ad 2)) (C := RX11) (T := TX11) (N := 42) hx hb ht zr_lay hown hK hP 0 rfl rfl 1 (by decide) (ht _ zr_6) (fun _ h9 => h9) rfl dX11_restore_45 ?_
        refine lv_sipush (v := (994 : Int32)) (pc := 48) hx hb dX11_restore_48 (by decide) ?_
        refine lv_iload_n (pc := 51) hx hb dX11_restore_51 rfl (lv_at hl 1 rfl) ?_
        refine lv_iconst (v := (1 : Int32)) (pc := 52) hx hb dX11_restore_52 (by decide) ?_
        refine lv_iadd (pc := 53) hx hb dX11_restore_53 ?_
        refine lv_imul (pc := 54) hx hb dX11_restore_54 ?_
        refine lv_iload_n (pc := 55) hx hb dX11_restore_55 rfl (lv_at hl 2 rfl) ?_
        refine lv_iadd (pc := 56) hx hb dX11_restore_56 ?_
        obtain ⟨v5, hv5, hf⟩ := zc_1 hf
        refine zw_iald (pc := 57) hx hb hK hP 1 0 rfl rfl hv5 dX11_restore_57 ?_
        obtain ⟨a6, ha6, hf⟩ := zc_1 hf
        refine zw_iast (pc := 58) hx hb hK hP hD hS 1 0 rfl rfl ha6 dX11_restore_58 (fun H locs hP hD hS => ?_)
        have hP : va_P (dC, dI) zz_cls [zr_o ad (0 : Int32) f_taped f_at f_behind f_size f_kind f_number f_wrong f_wrongAt f_faultKind f_faultPlace f_reading f_toldWhy f_x f_standMany f_bestMany f_tail f_round1, (ad 2, .inl (dA 0, 2982, .inl a6)), (ad 3, .inl (dA 2, 2, .inl b_hasImage))] H := hP
        have hD : va_D A [zr_o ad (0 : Int32) f_taped f_at f_behind f_size f_kind f_number f_wrong f_wrongAt f_faultKind f_faultPlace f_reading f_toldWhy f_x f_standMany f_bestMany f_tail f_round1, (ad 2, .inl (dA 0, 2982, .inl a6)), (ad 3, .inl (dA 2, 2, .inl b_hasImage))] := hD
        obtain ⟨v7, hv7, hf⟩ := zc_1 hf
        refine lv_iinc (v := v7) (lv' := [(2, .int v7), (0, .ref (ad 0)), (1, .int p1)]) (k := 2) (pc := 59) hx hb dX11_restore_59 hl rfl (Option.some.inj hv7) (by decide) rfl (fun ls hl => ?_)
        refine lv_goto (tgt := 32) (pc := 62) hx hb dX11_restore_62 rfl ?_
        obtain rfl := Option.some.inj hf
        exact ih rfl _ _ _ ⟨lv_sub hl [1, 2, 0] rfl, hP, hD, hS⟩
    · have hf := za_t hf hc
      refine lv_bipush (v := (-5 : Int32)) (pc := 27) hx hb dX11_restore_27 (by decide) ?_
      obtain ⟨rfl, rfl, rfl⟩ := zi_3 hf
      exact W.iret (pc := 29) hx hb hr (fun t ht hW => ⟨⟨_, (), rfl, rfl, zz_Bi (by rw [ht]; exact hP) (va_K.moved hW.alike hK) (hD)⟩, hS.F ht⟩) hS.2.2 dX11_restore_29
  · have hf := za_t hf hc
    refine lv_bipush (v := (-2 : Int32)) (pc := 15) hx hb dX11_restore_15 (by decide) ?_
    obtain ⟨rfl, rfl, rfl⟩ := zi_3 hf
    exact W.iret (pc := 17) hx hb hr (fun t ht hW => ⟨⟨_, (), rfl, rfl, zz_Bi (by rw [ht]; exact hP) (va_K.moved hW.alike hK) (hD)⟩, hS.F ht⟩) hS.2.2 dX11_restore_17

def zf_X11_count (f_thrown : Int32) (f_taped : Int32) (b_all : (Nat → Int32)) (p1 : Int32) : Option (Int32 × Int32) :=
  if p1 = (0 : Int32) then
    zd_1 (za_ld b_all 2982 (1 : Int32)) (fun v1 =>
    some (v1, (0 : Int32)))
  else if p1 = (1 : Int32) then
    zd_1 (za_ld b_all 2982 (2 : Int32)) (fun v2 =>
    some (v2, (0 : Int32)))
  else if p1 = (2 : Int32) then
    zd_1 (za_ld b_all 2982 (37 : Int32)) (fun v3 =>
    some (v3, (0 : Int32)))
  else if p1 = (3 : Int32) then
    zd_1 (za_ld b_all 2982 (38 : Int32)) (fun v4 =>
    some (v4, (0 : Int32)))
  else if p1 = (4 : Int32) then
    zd_1 (za_ld b_all 2982 (39 : Int32)) (fun v5 =>
    some (v5, (0 : Int32)))
  else if p1 = (5 : Int32) then
    zd_1 (za_ld b_all 2982 (40 : Int32)) (fun v6 =>
    some (v6, (0 : Int32)))
  else if p1 = (6 : Int32) then
    zd_1 (za_ld b_all 2982 (41 : Int32)) (fun v7 =>
    some (v7, (0 : Int32)))
  else if p1 = (7 : Int32) then
    zd_1 (za_ld b_all 2982 (42 : Int32)) (fun v8 =>
    some (v8, (0 : Int32)))
  else if p1 = (8 : Int32) then
    some (f_taped, (0 : Int32))
  else if p1 = (9 : Int32) then
    zd_1 (za_ld b_all 2982 (0 : Int32)) (fun v9 =>
    some (v9, (0 : Int32)))
  else
    some ((-1 : Int32), (0 : Int32))
theorem zk_X11_count : yX11_count.cls = RX11 ∧ yX11_count.cls ≠ "java/lang/invoke/MethodHandle" ∧ yX11_count.cls ≠ "java/lang/invoke/VarHandle" ∧ (parseMethodDescriptor yX11_count.desc).map (fun d => d.parameters.length) = some 1 := by decide +kernel
set_option maxHeartbeats 4000000 in
set_option maxRecDepth 100000 in
theorem zt_X11_count (l : Launch) (dC : Nat → ClassId) (dI : Nat → Nat → Nat) (dA : Nat → ClassId) (ad : Nat → Nat) (sz : Nat) (f_thrown f_taped f_at f_behind f_size f_kind f_number f_wrong f_wrongAt f_faultKind f_faultPlace f_reading f_toldWhy f_x f_standMany f_bestMany f_tail f_round1 : Int32) (b_all : (Nat → Int32)) (p1 : Int32) (r0 : Int32) (o1 : Int32) (hf : zf_X11_count f_thrown f_taped b_all p1 = some (r0, o1)) : Met l yX11_count (.code yX11_count cX11_count 2 (some .int) :: zr_T) ({ frames := 0, cells := 0, slots := 0, locals := 0 }) (va_Pc [.ref (ad 0), .int p1] (zz_M dC dI dA [zr_o ad f_thrown f_taped f_at f_behind f_size f_kind f_number f_wrong f_wrongAt f_faultKind f_faultPlace f_reading f_toldWhy f_x f_standMany f_bestMany f_tail f_round1, (ad 2, .inl (dA 0, 2982, .inl b_all))] sz)) (va_Qi (fun (r : Int32) (_ : Unit) => r = r0) (fun _ t => zz_B dC dI dA (va_A [zr_o ad f_thrown f_taped f_at f_behind f_size f_kind f_number f_wrong f_wrongAt f_faultKind f_faultPlace f_reading f_toldWhy f_x f_standMany f_bestMany f_tail f_round1, (ad 2, .inl (dA 0, 2982, .inl b_all))] sz) [zr_o ad o1 f_taped f_at f_behind f_size f_kind f_number f_wrong f_wrongAt f_faultKind f_faultPlace f_reading f_toldWhy f_x f_standMany f_bestMany f_tail f_round1, (ad 2, .inl (dA 0, 2982, .inl b_all))] t) (va_A [zr_o ad f_thrown f_taped f_at f_behind f_size f_kind f_number f_wrong f_wrongAt f_faultKind f_faultPlace f_reading f_toldWhy f_x f_standMany f_bestMany f_tail f_round1, (ad 2, .inl (dA 0, 2982, .inl b_all))] sz)) 0 0 (va_A [zr_o ad f_thrown f_taped f_at f_behind f_size f_kind f_number f_wrong f_wrongAt f_faultKind f_faultPlace f_reading f_toldWhy f_x f_standMany f_bestMany f_tail f_round1, (ad 2, .inl (dA 0, 2982, .inl b_all))] sz) := by
  unfold zf_X11_count at hf
  refine Met.ofW (cc := cX11_count) (maxL := 2) (ret := (some .int)) (by decide) rfl ?_
  intro p e s m args below meth c s₁ B hml hv
  obtain ⟨rfl, hsz, hP, hK, hD0⟩ := hv
  have hx := B.exec
  have hb := B.bytes
  have hr := B.returns
  have ht : ∀ w ∈ zr_T, w.before ([.ref (ad 0), .int p1] : List Value).toArray s = true := fun w hw => atoms_spec (ws := .code yX11_count cX11_count 2 (some .int) :: zr_T) B.pre w (List.mem_cons_of_mem _ hw)
  have hown : s.vm.findClass RX11 = some m.cls := findClass_of_methodNamed B.named
  have hlocks := B.notSynchronized
  subst hsz
  have hD := hD0.self (sz := s.heap.size)
  generalize hAe : va_A [zr_o ad f_thrown f_taped f_at f_behind f_size f_kind f_number f_wrong f_wrongAt f_faultKind f_faultPlace f_reading f_toldWhy f_x f_standMany f_bestMany f_tail f_round1, (ad 2, .inl (dA 0, 2982, .inl b_all))] s.heap.size = A at hD ⊢
  have hA : ∀ q : Nat, s.heap.size ≤ q → A q := fun q h => by rw [← hAe]; exact Or.inr h
  clear hAe hD0
  have hS : va_S A s.heap s.heap [] := va_S.rf
  have hl := lv_entry ([.ref (ad 0), .int p1]) (n := 2) (Nat.le_of_ble_eq_true rfl)
  rw [lg_entry_eq]
  generalize (lg_sl ([.ref (ad 0), .int p1]) ++ List.replicate (2 - (lg_sl ([.ref (ad 0), .int p1])).length) Slot.unset).toArray = ls at hl ⊢
  have hl : lv_has ls 2 [(0, .ref (ad 0)), (1, .int p1)] := hl
  refine lv_aload_n (pc := 0) hx hb dX11_count_0 rfl (lv_at hl 0 rfl) ?_
  refine lv_iconst (v := (0 : Int32)) (pc := 1) hx hb dX11_count_1 (by decide) ?_
  refine va_put (pc := 2) (D := (dC, dI)) (ci := 0) (v := .int (0 : Int32)) (ty := .int) (C := RX11) (T := TX11) (N := 42) hx hb ht zr_lay tyX11 tyX11_ok nmX11 hown hK hP hD hS 0 rfl rfl 0 (by decide) (ht _ zr_39) (fun _ h9 => h9) rfl (by decide +kernel) rfl rfl (Nat.le_of_ble_eq_true rfl) dX11_count_2 (fun H locs hP hD hS => ?_)
  have hP : va_P (dC, dI) zz_cls [zr_o ad (0 : Int32) f_taped f_at f_behind f_size f_kind f_number f_wrong f_wrongAt f_faultKind f_faultPlace f_reading f_toldWhy f_x f_standMany f_bestMany f_tail f_round1, (ad 2, .inl (dA 0, 2982, .inl b_all))] H := hP
  have hD : va_D A [zr_o ad (0 : Int32) f_taped f_at f_behind f_size f_kind f_number f_wrong f_wrongAt f_faultKind f_faultPlace f_reading f_toldWhy f_x f_standMany f_bestMany f_tail f_round1, (ad 2, .inl (dA 0, 2982, .inl b_all))] := hD
  refine lv_iload_n (pc := 5) hx hb dX11_count_5 rfl (lv_at hl 1 rfl) ?_
  by_cases hc0 : p1 = (0 : Int32)
  · have hf := za_t hf hc0
    refine lv_tableIn (tgt := 60) (off := 54) (pc := 6) hx hb dX11_count_6 (by rw [hc0]; decide) (by rw [hc0]; decide) (by rw [hc0]; decide) rfl ?_
    refine lv_aload_n (pc := 60) hx hb dX11_count_60 rfl (lv_at hl 0 rfl) ?_
    refine va_get (pc := 61) (D := (dC, dI)) (ci := 0) (v := .ref (ad 2)) (C := RX11) (T := TX11) (N := 42) hx hb ht zr_lay hown hK hP 0 rfl rfl 1 (by decide) (ht _ zr_6) (fun _ h9 => h9) rfl dX11_count_61 ?_
    refine lv_iconst (v := (1 : Int32)) (pc := 64) hx hb dX11_count_64 (by decide) ?_
    obtain ⟨v1, hv1, hf⟩ := zc_1 hf
    refine zw_iald (pc := 65) hx hb hK hP 1 0 rfl rfl hv1 dX11_count_65 ?_
    obtain ⟨rfl, rfl⟩ := zi_2 hf
    exact W.iret (pc := 66) hx hb hr (fun t ht hW => ⟨⟨_, (), rfl, rfl, zz_Bi (by rw [ht]; exact hP) (va_K.moved hW.alike hK) (hD)⟩, hS.F ht⟩) hS.2.2 dX11_count_66
  have hf := za_f hf hc0
  by_cases hc1 : p1 = (1 : Int32)
  · have hf := za_t hf hc1
    refine lv_tableIn (tgt := 67) (off := 61) (pc := 6) hx hb dX11_count_6 (by rw [hc1]; decide) (by rw [hc1]; decide) (by rw [hc1]; decide) rfl ?_
    refine lv_aload_n (pc := 67) hx hb dX11_count_67 rfl (lv_at hl 0 rfl) ?_
    refine va_get (pc := 68) (D := (dC, dI)) (ci := 0) (v := .ref (ad 2)) (C := RX11) (T := TX11) (N := 42) hx hb ht zr_lay hown hK hP 0 rfl rfl 1 (by decide) (ht _ zr_6) (fun _ h9 => h9) rfl dX11_count_68 ?_
    refine lv_iconst (v := (2 : Int32)) (pc := 71) hx hb dX11_count_71 (by decide) ?_
    obtain ⟨v2, hv2, hf⟩ := zc_1 hf
    refine zw_iald (pc := 72) hx hb hK hP 1 0 rfl rfl hv2 dX11_count_72 ?_
    obtain ⟨rfl, rfl⟩ := zi_2 hf
    exact W.iret (pc := 73) hx hb hr (fun t ht hW => ⟨⟨_, (), rfl, rfl, zz_Bi (by rw [ht]; exact hP) (va_K.moved hW.alike hK) (hD)⟩, hS.F ht⟩) hS.2.2 dX11_count_73
  have hf := za_f hf hc1
  by_cases hc2 : p1 = (2 : Int32)
  · have hf := za_t hf hc2
    refine lv_tableIn (tgt := 74) (off := 68) (pc := 6) hx hb dX11_count_6 (by rw [hc2]; decide) (by rw [hc2]; decide) (by rw [hc2]; decide) rfl ?_
    refine lv_aload_n (pc := 74) hx hb dX11_count_74 rfl (lv_at hl 0 rfl) ?_
    refine va_get (pc := 75) (D := (dC, dI)) (ci := 0) (v := .ref (ad 2)) (C := RX11) (T := TX11) (N := 42) hx hb ht zr_lay hown hK hP 0 rfl rfl 1 (by decide) (ht _ zr_6) (fun _ h9 => h9) rfl dX11_count_75 ?_
    refine lv_bipush (v := (37 : Int32)) (pc := 78) hx hb dX11_count_78 (by decide) ?_
    obtain ⟨v3, hv3, hf⟩ := zc_1 hf
    refine zw_iald (pc := 80) hx hb hK hP 1 0 rfl rfl hv3 dX11_count_80 ?_
    obtain ⟨rfl, rfl⟩ := zi_2 hf
    exact W.iret (pc := 81) hx hb hr (fun t ht hW => ⟨⟨_, (), rfl, rfl, zz_Bi (by rw [ht]; exact hP) (va_K.moved hW.alike hK) (hD)⟩, hS.F ht⟩) hS.2.2 dX11_count_81
  have hf := za_f hf hc2
  by_cases hc3 : p1 = (3 : Int32)
  · have hf := za_t hf hc3
    refine lv_tableIn (tgt := 82) (off := 76) (pc := 6) hx hb dX11_count_6 (by rw [hc3]; decide) (by rw [hc3]; decide) (by rw [hc3]; decide) rfl ?_
    refine lv_aload_n (pc := 82) hx hb dX11_count_82 rfl (lv_at hl 0 rfl) ?_
    refine va_get (pc := 83) (D := (dC, dI)) (ci := 0) (v := .ref (ad 2)) (C := RX11) (T := TX11) (N := 42) hx hb ht zr_lay hown hK hP 0 rfl rfl 1 (by decide) (ht _ zr_6) (fun _ h9 => h9) rfl dX11_count_83 ?_
    refine lv_bipush (v := (38 : Int32)) (pc := 86) hx hb dX11_count_86 (by decide) ?_
    obtain ⟨v4, hv4, hf⟩ := zc_1 hf
    refine zw_iald (pc := 88) hx hb hK hP 1 0 rfl rfl hv4 dX11_count_88 ?_
    obtain ⟨rfl, rfl⟩ := zi_2 hf
    exact W.iret (pc := 89) hx hb hr (fun t ht hW => ⟨⟨_, (), rfl, rfl, zz_Bi (by rw [ht]; exact hP) (va_K.moved hW.alike hK) (hD)⟩, hS.F ht⟩) hS.2.2 dX11_count_89
  have hf := za_f hf hc3
  by_cases hc4 : p1 = (4 : Int32)
  · have hf := za_t hf hc4
    refine lv_tableIn (tgt := 90) (off := 84) (pc := 6) hx hb dX11_count_6 (by rw [hc4]; decide) (by rw [hc4]; decide) (by rw [hc4]; decide) rfl ?_
    refine lv_aload_n (pc := 90) hx hb dX11_count_90 rfl (lv_at hl 0 rfl) ?_
    refine va_get (pc := 91) (D := (dC, dI)) (ci := 0) (v := .ref (ad 2)) (C := RX11) (T := TX11) (N := 42) hx hb ht zr_lay hown hK hP 0 rfl rfl 1 (by decide) (ht _ zr_6) (fun _ h9 => h9) rfl dX11_count_91 ?_
    refine lv_bipush (v := (39 : Int32)) (pc := 94) hx hb dX11_count_94 (by decide) ?_
    obtain ⟨v5, hv5, hf⟩ := zc_1 hf
    refine zw_iald (pc := 96) hx hb hK hP 1 0 rfl rfl hv5 dX11_count_96 ?_
    obtain ⟨rfl, rfl⟩ := zi_2 hf
    exact W.iret (pc := 97) hx hb hr (fun t ht hW => ⟨⟨_, (), rfl, rfl, zz_Bi (by rw [ht]; exact hP) (va_K.moved hW.alike hK) (hD)⟩, hS.F ht⟩) hS.2.2 dX11_count_97
  have hf := za_f hf hc4
  by_cases hc5 : p1 = (5 : Int32)
  · have hf := za_t hf hc5
    refine lv_tableIn (tgt := 98) (off := 92) (pc := 6) hx hb dX11_count_6 (by rw [hc5]; decide) (by rw [hc5]; decide) (by rw [hc5]; decide) rfl ?_
    refine lv_aload_n (pc := 98) hx hb dX11_count_98 rfl (lv_at hl 0 rfl) ?_
    refine va_get (pc := 99) (D := (dC, dI)) (ci := 0) (v := .ref (ad 2)) (C := RX11) (T := TX11) (N := 42) hx hb ht zr_lay hown hK hP 0 rfl rfl 1 (by decide) (ht _ zr_6) (fun _ h9 => h9) rfl dX11_count_99 ?_
    refine lv_bipush (v := (40 : Int32)) (pc := 102) hx hb dX11_count_102 (by decide) ?_
    obtain ⟨v6, hv6, hf⟩ := zc_1 hf
    refine zw_iald (pc := 104) hx hb hK hP 1 0 rfl rfl hv6 dX11_count_104 ?_
    obtain ⟨rfl, rfl⟩ := zi_2 hf
    exact W.iret (pc := 105) hx hb hr (fun t ht hW => ⟨⟨_, (), rfl, rfl, zz_Bi (by rw [ht]; exact hP) (va_K.moved hW.alike hK) (hD)⟩, hS.F ht⟩) hS.2.2 dX11_count_105
  have hf := za_f hf hc5
  by_cases hc6 : p1 = (6 : Int32)
  · have hf := za_t hf hc6
    refine lv_tableIn (tgt := 106) (off := 100) (pc := 6) hx hb dX11_count_6 (by rw [hc6]; decide) (by rw [hc6]; decide) (by rw [hc6]; decide) rfl ?_
    refine lv_aload_n (pc := 106) hx hb dX11_count_106 rfl (lv_at hl 0 rfl) ?_
    refine va_get (pc := 107) (D := (dC, dI)) (ci := 0) (v := .ref (ad 2)) (C := RX11) (T := TX11) (N := 42) hx hb ht zr_lay hown hK hP 0 rfl rfl 1 (by decide) (ht _ zr_6) (fun _ h9 => h9) rfl dX11_count_107 ?_
    refine lv_bipush (v := (41 : Int32)) (pc := 110) hx hb dX11_count_110 (by decide) ?_
    obtain ⟨v7, hv7, hf⟩ := zc_1 hf
    refine zw_iald (pc := 112) hx hb hK hP 1 0 rfl rfl hv7 dX11_count_112 ?_
    obtain ⟨rfl, rfl⟩ := zi_2 hf
    exact W.iret (pc := 113) hx hb hr (fun t ht hW => ⟨⟨_, (), rfl, rfl, zz_Bi (by rw [ht]; exact hP) (va_K.moved hW.alike hK) (hD)⟩, hS.F ht⟩) hS.2.2 dX11_count_113
  have hf := za_f hf hc6
  by_cases hc7 : p1 = (7 : Int32)
  · have hf := za_t hf hc7
    refine lv_tableIn (tgt := 114) (off := 108) (pc := 6) hx hb dX11_count_6 (by rw [hc7]; decide) (by rw [hc7]; decide) (by rw [hc7]; decide) rfl ?_
    refine lv_aload_n (pc := 114) hx hb dX11_count_114 rfl (lv_at hl 0 rfl) ?_
    refine va_get (pc := 115) (D := (dC, dI)) (ci := 0) (v := .ref (ad 2)) (C := RX11) (T := TX11) (N := 42) hx hb ht zr_lay hown hK hP 0 rfl rfl 1 (by decide) (ht _ zr_6) (fun _ h9 => h9) rfl dX11_count_115 ?_
    refine lv_bipush (v := (42 : Int32)) (pc := 118) hx hb dX11_count_118 (by decide) ?_
    obtain ⟨v8, hv8, hf⟩ := zc_1 hf
    refine zw_iald (pc := 120) hx hb hK hP 1 0 rfl rfl hv8 dX11_count_120 ?_
    obtain ⟨rfl, rfl⟩ := zi_2 hf
    exact W.iret (pc := 121) hx hb hr (fun t ht hW => ⟨⟨_, (), rfl, rfl, zz_Bi (by rw [ht]; exact hP) (va_K.moved hW.alike hK) (hD)⟩, hS.F ht⟩) hS.2.2 dX11_count_121
  have hf := za_f hf hc7
  by_cases hc8 : p1 = (8 : Int32)
  · have hf := za_t hf hc8
    refine lv_tableIn (tgt := 122) (off := 116) (pc := 6) hx hb dX11_count_6 (by rw [hc8]; decide) (by rw [hc8]; decide) (by rw [hc8]; decide) rfl ?_
    refine lv_aload_n (pc := 122) hx hb dX11_count_122 rfl (lv_at hl 0 rfl) ?_
    refine va_get (pc := 123) (D := (dC, dI)) (ci := 0) (v := .int f_taped) (C := RX11) (T := TX11) (N := 42) hx hb ht zr_lay hown hK hP 0 rfl rfl 5 (by decide) (ht _ zr_40) (fun _ h9 => h9) rfl dX11_count_123 ?_
    obtain ⟨rfl, rfl⟩ := zi_2 hf
    exact W.iret (pc := 126) hx hb hr (fun t ht hW => ⟨⟨_, (), rfl, rfl, zz_Bi (by rw [ht]; exact hP) (va_K.moved hW.alike hK) (hD)⟩, hS.F ht⟩) hS.2.2 dX11_count_126
  have hf := za_f hf hc8
  by_cases hc9 : p1 = (9 : Int32)
  · have hf := za_t hf hc9
    refine lv_tableIn (tgt := 127) (off := 121) (pc := 6) hx hb dX11_count_6 (by rw [hc9]; decide) (by rw [hc9]; decide) (by rw [hc9]; decide) rfl ?_
    refine lv_aload_n (pc := 127) hx hb dX11_count_127 rfl (lv_at hl 0 rfl) ?_
    refine va_get (pc := 128) (D := (dC, dI)) (ci := 0) (v := .ref (ad 2)) (C := RX11) (T := TX11) (N := 42) hx hb ht zr_lay hown hK hP 0 rfl rfl 1 (by decide) (ht _ zr_6) (fun _ h9 => h9) rfl dX11_count_128 ?_
    refine lv_iconst (v := (0 : Int32)) (pc := 131) hx hb dX11_count_131 (by decide) ?_
    obtain ⟨v9, hv9, hf⟩ := zc_1 hf
    refine zw_iald (pc := 132) hx hb hK hP 1 0 rfl rfl hv9 dX11_count_132 ?_
    obtain ⟨rfl, rfl⟩ := zi_2 hf
    exact W.iret (pc := 133) hx hb hr (fun t ht hW => ⟨⟨_, (), rfl, rfl, zz_Bi (by rw [ht]; exact hP) (va_K.moved hW.alike hK) (hD)⟩, hS.F ht⟩) hS.2.2 dX11_count_133
  have hf := za_f hf hc9
  refine lv_tableOut (tgt := 134) (pc := 6) hx hb dX11_count_6 (by have q0 := lv_neT (a := 0) hc0 (by decide); have q1 := lv_neT (a := 1) hc1 (by decide); have q2 := lv_neT (a := 2) hc2 (by decide); have q3 := lv_neT (a := 3) hc3 (by decide); have q4 := lv_neT (a := 4) hc4 (by decide); have q5 := lv_neT (a := 5) hc5 (by decide); have q6 := lv_neT (a := 6) hc6 (by decide); have q7 := lv_neT (a := 7) hc7 (by decide); have q8 := lv_neT (a := 8) hc8 (by decide); have q9 := lv_neT (a := 9) hc9 (by decide); omega) rfl ?_
  refine lv_iconst (v := (-1 : Int32)) (pc := 134) hx hb dX11_count_134 (by decide) ?_
  obtain ⟨rfl, rfl⟩ := zi_2 hf
  exact W.iret (pc := 135) hx hb hr (fun t ht hW => ⟨⟨_, (), rfl, rfl, zz_Bi (by rw [ht]; exact hP) (va_K.moved hW.alike hK) (hD)⟩, hS.F ht⟩) hS.2.2 dX11_count_135
