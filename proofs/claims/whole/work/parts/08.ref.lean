def zb_X11_deedAt_31 (b_then : (Nat → Int32)) (b_far : (Nat → Int32)) (v2 : Int32) (v7 : Int32) : Option (Nat × Int32) :=
  zd_1 (zf_X11_farBy b_then b_far v2 v7) (fun v8 =>
  zd_1 (za_ld b_far 2880 v2) (fun v9 =>
  if v8 = v9 then
    some (1, v7)
  else
    zd_1 (some (v7 + (1 : Int32))) (fun v10 =>
    some (0, v10))))
def zb_X11_deedAt_7 (b_far : (Nat → Int32)) (b_then : (Nat → Int32)) (n : Nat) (p1 : Int32) (v2 : Int32) (v3 : Int32) (v4 : Int32) : Option (Nat × Int32 × Int32 × Int32) :=
  zd_1 (za_ld b_far 2880 v2) (fun v5 =>
  if v5 ≤ 0 then
    some (2, v2, v3, (0 : Int32))
  else
    zd_1 (za_ld b_far 2880 v2) (fun v6 =>
    if (268435456 : Int32) ≤ v6 then
      some (2, v2, v3, (0 : Int32))
    else
      zd_2 (za_it (fun v => zb_X11_deedAt_31 b_then b_far v2 v) n (0 : Int32)) (fun g12 v11 =>
      if v3 = p1 then
        some (1, v2, v3, v11)
      else
        zd_1 (za_ld b_then 43200 (((15 : Int32) * v2) + v11)) (fun v13 =>
        zd_1 (some (v3 + (1 : Int32))) (fun v14 =>
        some (0, v13, v14, v11))))))
def zf_X11_deedAt (n : Nat) (b_all : (Nat → Int32)) (b_then : (Nat → Int32)) (b_far : (Nat → Int32)) (p1 : Int32) : Option (Int32) :=
  zd_1 (zf_X11_standNow b_all) (fun v1 =>
  zd_4 (za_it (fun v => zb_X11_deedAt_7 b_far b_then n p1 v.1 v.2.1 v.2.2) n (v1, (0 : Int32), (0 : Int32))) (fun g18 v15 v16 v17 =>
  if g18 = 1 then
    zd_1 (zf_X11_toldMove v17) (fun v19 =>
    some v19)
  else if g18 = 2 then
    some (-1 : Int32)
  else none))
theorem zk_X11_deedAt : yX11_deedAt.cls = RX11 ∧ yX11_deedAt.cls ≠ "java/lang/invoke/MethodHandle" ∧ yX11_deedAt.cls ≠ "java/lang/invoke/VarHandle" ∧ (parseMethodDescriptor yX11_deedAt.desc).map (fun d => d.parameters.length) = some 1 := by decide +kernel
set_option maxHeartbeats 4000000 in
set_option maxRecDepth 100000 in
theorem zt_X11_deedAt (l : Launch) (dC : Nat → ClassId) (dI : Nat → Nat → Nat) (dA : Nat → ClassId) (ad : Nat → Nat) (sz : Nat) (n : Nat) (f_thrown f_taped f_at f_behind f_size f_kind f_number f_wrong f_wrongAt f_faultKind f_faultPlace f_reading f_toldWhy f_x f_standMany f_bestMany f_tail f_round1 : Int32) (b_all : (Nat → Int32)) (b_then : (Nat → Int32)) (b_far : (Nat → Int32)) (p1 : Int32) (r0 : Int32) (hf : zf_X11_deedAt n b_all b_then b_far p1 = some r0) : Met l yX11_deedAt (.code yX11_deedAt cX11_deedAt 5 (some .int) :: zr_T) ({ frames := 2, cells := 0, slots := 0, locals := 42 }) (va_Pc [.ref (ad 0), .int p1] (zz_M dC dI dA [zr_o ad f_thrown f_taped f_at f_behind f_size f_kind f_number f_wrong f_wrongAt f_faultKind f_faultPlace f_reading f_toldWhy f_x f_standMany f_bestMany f_tail f_round1, (ad 2, .inl (dA 0, 2982, .inl b_all)), (ad 23, .inl (dA 0, 43200, .inl b_then)), (ad 24, .inl (dA 0, 2880, .inl b_far))] sz)) (va_Qi (fun (r : Int32) (_ : Unit) => r = r0) (fun _ t => zz_B dC dI dA (va_A [zr_o ad f_thrown f_taped f_at f_behind f_size f_kind f_number f_wrong f_wrongAt f_faultKind f_faultPlace f_reading f_toldWhy f_x f_standMany f_bestMany f_tail f_round1, (ad 2, .inl (dA 0, 2982, .inl b_all)), (ad 23, .inl (dA 0, 43200, .inl b_then)), (ad 24, .inl (dA 0, 2880, .inl b_far))] sz) [zr_o ad f_thrown f_taped f_at f_behind f_size f_kind f_number f_wrong f_wrongAt f_faultKind f_faultPlace f_reading f_toldWhy f_x f_standMany f_bestMany f_tail f_round1, (ad 2, .inl (dA 0, 2982, .inl b_all)), (ad 23, .inl (dA 0, 43200, .inl b_then)), (ad 24, .inl (dA 0, 2880, .inl b_far))] t) (va_A [zr_o ad f_thrown f_taped f_at f_behind f_size f_kind f_number f_wrong f_wrongAt f_faultKind f_faultPlace f_reading f_toldWhy f_x f_standMany f_bestMany f_tail f_round1, (ad 2, .inl (dA 0, 2982, .inl b_all)), (ad 23, .inl (dA 0, 43200, .inl b_then)), (ad 24, .inl (dA 0, 2880, .inl b_far))] sz)) 0 0 (va_A [zr_o ad f_thrown f_taped f_at f_behind f_size f_kind f_number f_wrong f_wrongAt f_faultKind f_faultPlace f_reading f_toldWhy f_x f_standMany f_bestMany f_tail f_round1, (ad 2, .inl (dA 0, 2982, .inl b_all)), (ad 23, .inl (dA 0, 43200, .inl b_then)), (ad 24, .inl (dA 0, 2880, .inl b_far))] sz) := by
  unfold zf_X11_deedAt at hf
  refine Met.ofW (cc := cX11_deedAt) (maxL := 5) (ret := (some .int)) (by decide) rfl ?_
  intro p e s m args below meth c s₁ B hml hv
  obtain ⟨rfl, hsz, hP, hK, hD0⟩ := hv
  have hx := B.exec
  have hb := B.bytes
  have hr := B.returns
  have ht : ∀ w ∈ zr_T, w.before ([.ref (ad 0), .int p1] : List Value).toArray s = true := fun w hw => atoms_spec (ws := .code yX11_deedAt cX11_deedAt 5 (some .int) :: zr_T) B.pre w (List.mem_cons_of_mem _ hw)
  have hown : s.vm.findClass RX11 = some m.cls := findClass_of_methodNamed B.named
  have hlocks := B.notSynchronized
  subst hsz
  have hD := hD0.self (sz := s.heap.size)
  generalize hAe : va_A [zr_o ad f_thrown f_taped f_at f_behind f_size f_kind f_number f_wrong f_wrongAt f_faultKind f_faultPlace f_reading f_toldWhy f_x f_standMany f_bestMany f_tail f_round1, (ad 2, .inl (dA 0, 2982, .inl b_all)), (ad 23, .inl (dA 0, 43200, .inl b_then)), (ad 24, .inl (dA 0, 2880, .inl b_far))] s.heap.size = A at hD ⊢
  have hA : ∀ q : Nat, s.heap.size ≤ q → A q := fun q h => by rw [← hAe]; exact Or.inr h
  clear hAe hD0
  have hS : va_S A s.heap s.heap [] := va_S.rf
  have hl := lv_entry ([.ref (ad 0), .int p1]) (n := 5) (Nat.le_of_ble_eq_true rfl)
  rw [lg_entry_eq]
  generalize (lg_sl ([.ref (ad 0), .int p1]) ++ List.replicate (5 - (lg_sl ([.ref (ad 0), .int p1])).length) Slot.unset).toArray = ls at hl ⊢
  have hl : lv_has ls 5 [(0, .ref (ad 0)), (1, .int p1)] := hl
  refine lv_aload_n (pc := 0) hx hb dX11_deedAt_0 rfl (lv_at hl 0 rfl) ?_
  obtain ⟨v1, hv1, hf⟩ := zc_1 hf
  refine zw_Vi (pc := 1) (wc := [zr_o ad f_thrown f_taped f_at f_behind f_size f_kind f_number f_wrong f_wrongAt f_faultKind f_faultPlace f_reading f_toldWhy f_x f_standMany f_bestMany f_tail f_round1, (ad 2, .inl (dA 0, 2982, .inl b_all))]) (wr := [(ad 23, .inl (dA 0, 43200, .inl b_then)), (ad 24, .inl (dA 0, 2880, .inl b_far))]) (w1 := [zr_o ad f_thrown f_taped f_at f_behind f_size f_kind f_number f_wrong f_wrongAt f_faultKind f_faultPlace f_reading f_toldWhy f_x f_standMany f_bestMany f_tail f_round1, (ad 2, .inl (dA 0, 2982, .inl b_all))]) (As := []) (rest := []) ⟨hx, hb, hml, hown, ht⟩ (zt_X11_standNow l dC dI dA ad _ f_thrown f_taped f_at f_behind f_size f_kind f_number f_wrong f_wrongAt f_faultKind f_faultPlace f_reading f_toldWhy f_x f_standMany f_bestMany f_tail f_round1 b_all v1 hv1) (cwV 0 ht (zr_V zr_261 zr_262 zr_263 zr_36 zr_213) rfl rfl rfl zk_X11_standNow ⟨Nat.le_of_ble_eq_true rfl, Nat.le_of_ble_eq_true rfl⟩) rfl rfl hK hP hD hS hA [0, 1] [2, 3] (by decide) (by decide) (by decide) rfl rfl rfl hl.1 (Nat.le_of_ble_eq_true rfl) dX11_deedAt_1 ⟨Nat.zero_le _, Nat.zero_le _⟩ rfl (fun H locs hP hD hS => ?_)
  have hP : va_P (dC, dI) zz_cls [(ad 23, .inl (dA 0, 43200, .inl b_then)), (ad 24, .inl (dA 0, 2880, .inl b_far)), zr_o ad f_thrown f_taped f_at f_behind f_size f_kind f_number f_wrong f_wrongAt f_faultKind f_faultPlace f_reading f_toldWhy f_x f_standMany f_bestMany f_tail f_round1, (ad 2, .inl (dA 0, 2982, .inl b_all))] H := hP
  have hD : va_D A [(ad 23, .inl (dA 0, 43200, .inl b_then)), (ad 24, .inl (dA 0, 2880, .inl b_far)), zr_o ad f_thrown f_taped f_at f_behind f_size f_kind f_number f_wrong f_wrongAt f_faultKind f_faultPlace f_reading f_toldWhy f_x f_standMany f_bestMany f_tail f_round1, (ad 2, .inl (dA 0, 2982, .inl b_all))] := hD
  refine lv_istore_n (lv' := [(2, .int v1), (0, .ref (ad 0)), (1, .int p1)]) (pc := 4) hx hb dX11_deedAt_4 rfl hl (by decide) rfl (fun ls hl => ?_)
  refine lv_iconst (v := (0 : Int32)) (pc := 5) hx hb dX11_deedAt_5 (by decide) ?_
  refine lv_istore_n (lv' := [(3, .int (0 : Int32)), (2, .int v1), (0, .ref (ad 0)), (1, .int p1)]) (pc := 6) hx hb dX11_deedAt_6 rfl hl (by decide) rfl (fun ls hl => ?_)
  obtain ⟨g18, v15, v16, v17, hj, hf⟩ := zc_4 hf
  refine zj_join (pcJ := 58) (stk := []) (X := fun H locs ls => g18 = 1 ∧ lv_has ls 5 [(4, .int v17)] ∧ va_P (dC, dI) zz_cls [zr_o ad f_thrown f_taped f_at f_behind f_size f_kind f_number f_wrong f_wrongAt f_faultKind f_faultPlace f_reading f_toldWhy f_x f_standMany f_bestMany f_tail f_round1, (ad 2, .inl (dA 0, 2982, .inl b_all)), (ad 23, .inl (dA 0, 43200, .inl b_then)), (ad 24, .inl (dA 0, 2880, .inl b_far))] H ∧ va_D A [zr_o ad f_thrown f_taped f_at f_behind f_size f_kind f_number f_wrong f_wrongAt f_faultKind f_faultPlace f_reading f_toldWhy f_x f_standMany f_bestMany f_tail f_round1, (ad 2, .inl (dA 0, 2982, .inl b_all)), (ad 23, .inl (dA 0, 43200, .inl b_then)), (ad 24, .inl (dA 0, 2880, .inl b_far))] ∧ va_S A s.heap H locs) (fun H locs ls hX => ?_) (fun E58 => ?_)
  · obtain ⟨htg, hl, hP, hD, hS⟩ := hX
    clear hj
    have hf := za_t hf htg
    refine lv_iload (pc := 58) hx hb dX11_deedAt_58 (lv_at hl 0 rfl) ?_
    obtain ⟨v19, hv19, hf⟩ := zc_1 hf
    refine zw_Si (pc := 60) (wc := []) (wr := [zr_o ad f_thrown f_taped f_at f_behind f_size f_kind f_number f_wrong f_wrongAt f_faultKind f_faultPlace f_reading f_toldWhy f_x f_standMany f_bestMany f_tail f_round1, (ad 2, .inl (dA 0, 2982, .inl b_all)), (ad 23, .inl (dA 0, 43200, .inl b_then)), (ad 24, .inl (dA 0, 2880, .inl b_far))]) (w1 := []) (As := [.int v17]) (rest := []) ⟨hx, hb, hml, hown, ht⟩ (zt_X11_toldMove l dC dI dA ad _ v17 v19 hv19) (cwS 1 ht (zr_S zr_368 zr_369 zr_36 zr_229) rfl rfl rfl zk_X11_toldMove ⟨Nat.le_of_ble_eq_true rfl, Nat.le_of_ble_eq_true rfl⟩) hK hP hD hS hA [] [0, 1, 2, 3] (by decide) (by decide) (by decide) rfl rfl rfl hl.1 (Nat.le_of_ble_eq_true rfl) dX11_deedAt_60 ⟨Nat.zero_le _, Nat.zero_le _⟩ rfl (fun H locs hP hD hS => ?_)
    have hP : va_P (dC, dI) zz_cls [zr_o ad f_thrown f_taped f_at f_behind f_size f_kind f_number f_wrong f_wrongAt f_faultKind f_faultPlace f_reading f_toldWhy f_x f_standMany f_bestMany f_tail f_round1, (ad 2, .inl (dA 0, 2982, .inl b_all)), (ad 23, .inl (dA 0, 43200, .inl b_then)), (ad 24, .inl (dA 0, 2880, .inl b_far))] H := hP
    have hD : va_D A [zr_o ad f_thrown f_taped f_at f_behind f_size f_kind f_number f_wrong f_wrongAt f_faultKind f_faultPlace f_reading f_toldWhy f_x f_standMany f_bestMany f_tail f_round1, (ad 2, .inl (dA 0, 2982, .inl b_all)), (ad 23, .inl (dA 0, 43200, .inl b_then)), (ad 24, .inl (dA 0, 2880, .inl b_far))] := hD
    obtain rfl := Option.some.inj hf
    exact W.iret (pc := 63) hx hb hr (fun t ht hW => ⟨⟨_, (), rfl, rfl, zz_Bi (by rw [ht]; exact hP) (va_K.moved hW.alike hK) (hD)⟩, hS.F ht⟩) hS.2.2 dX11_deedAt_63
  refine zj_join (pcJ := 83) (stk := []) (X := fun H locs ls => g18 = 2 ∧ lv_has ls 5 [] ∧ va_P (dC, dI) zz_cls [zr_o ad f_thrown f_taped f_at f_behind f_size f_kind f_number f_wrong f_wrongAt f_faultKind f_faultPlace f_reading f_toldWhy f_x f_standMany f_bestMany f_tail f_round1, (ad 2, .inl (dA 0, 2982, .inl b_all)), (ad 23, .inl (dA 0, 43200, .inl b_then)), (ad 24, .inl (dA 0, 2880, .inl b_far))] H ∧ va_D A [zr_o ad f_thrown f_taped f_at f_behind f_size f_kind f_number f_wrong f_wrongAt f_faultKind f_faultPlace f_reading f_toldWhy f_x f_standMany f_bestMany f_tail f_round1, (ad 2, .inl (dA 0, 2982, .inl b_all)), (ad 23, .inl (dA 0, 43200, .inl b_then)), (ad 24, .inl (dA 0, 2880, .inl b_far))] ∧ va_S A s.heap H locs) (fun H locs ls hX => ?_) (fun E83 => ?_)
  · obtain ⟨htg, hl, hP, hD, hS⟩ := hX
    clear hj
    have hf := za_f hf (by rw [htg]; decide)
    have hf := za_t hf htg
    refine lv_iconst (v := (-1 : Int32)) (pc := 83) hx hb dX11_deedAt_83 (by decide) ?_
    obtain rfl := Option.some.inj hf
    exact W.iret (pc := 84) hx hb hr (fun t ht hW => ⟨⟨_, (), rfl, rfl, zz_Bi (by rw [ht]; exact hP) (va_K.moved hW.alike hK) (hD)⟩, hS.F ht⟩) hS.2.2 dX11_deedAt_84
  clear hf
  refine zw_loop (pcH := 7) (X := fun v H locs ls => lv_has ls 5 [(0, .ref (ad 0)), (1, .int p1), (2, .int v.1), (3, .int v.2.1)] ∧ va_P (dC, dI) zz_cls [zr_o ad f_thrown f_taped f_at f_behind f_size f_kind f_number f_wrong f_wrongAt f_faultKind f_faultPlace f_reading f_toldWhy f_x f_standMany f_bestMany f_tail f_round1, (ad 2, .inl (dA 0, 2982, .inl b_all)), (ad 23, .inl (dA 0, 43200, .inl b_then)), (ad 24, .inl (dA 0, 2880, .inl b_far))] H ∧ va_D A [zr_o ad f_thrown f_taped f_at f_behind f_size f_kind f_number f_wrong f_wrongAt f_faultKind f_faultPlace f_reading f_toldWhy f_x f_standMany f_bestMany f_tail f_round1, (ad 2, .inl (dA 0, 2982, .inl b_all)), (ad 23, .inl (dA 0, 43200, .inl b_then)), (ad 24, .inl (dA 0, 2880, .inl b_far))] ∧ va_S A s.heap H locs) hj (fun v w hf ih ex H locs ls hX => ?_) _ _ _ ⟨lv_sub hl [2, 3, 1, 0] rfl, hP.sub [2, 3, 0, 1] rfl, hD.sub [2, 3, 0, 1] (by decide) rfl, hS⟩
  clear hj
  obtain ⟨v2, v3, v4⟩ := v
  obtain ⟨hl, hP, hD, hS⟩ := hX
  have hl : lv_has ls 5 [(0, .ref (ad 0)), (1, .int p1), (2, .int v2), (3, .int v3)] := hl
  have hP : va_P (dC, dI) zz_cls [zr_o ad f_thrown f_taped f_at f_behind f_size f_kind f_number f_wrong f_wrongAt f_faultKind f_faultPlace f_reading f_toldWhy f_x f_standMany f_bestMany f_tail f_round1, (ad 2, .inl (dA 0, 2982, .inl b_all)), (ad 23, .inl (dA 0, 43200, .inl b_then)), (ad 24, .inl (dA 0, 2880, .inl b_far))] H := hP
  have hD : va_D A [zr_o ad f_thrown f_taped f_at f_behind f_size f_kind f_number f_wrong f_wrongAt f_faultKind f_faultPlace f_reading f_toldWhy f_x f_standMany f_bestMany f_tail f_round1, (ad 2, .inl (dA 0, 2982, .inl b_all)), (ad 23, .inl (dA 0, 43200, .inl b_then)), (ad 24, .inl (dA 0, 2880, .inl b_far))] := hD
  replace hf : zb_X11_deedAt_7 b_far b_then n p1 v2 v3 v4 = some w := hf
  unfold zb_X11_deedAt_7 at hf
  refine lv_aload_n (pc := 7) hx hb dX11_deedAt_7 rfl (lv_at hl 0 rfl) ?_
  refine va_get (pc := 8) (D := (dC, dI)) (ci := 0) (v := .ref (ad 24)) (C := RX11) (T := TX11) (N := 42) hx hb ht zr_lay hown hK hP 0 rfl rfl 23 (by decide) (ht _ zr_18) (fun _ h9 => h9) rfl dX11_deedAt_8 ?_
  refine lv_iload_n (pc := 11) hx hb dX11_deedAt_11 rfl (lv_at hl 2 rfl) ?_
  obtain ⟨v5, hv5, hf⟩ := zc_1 hf
  refine zw_iald (pc := 12) hx hb hK hP 3 0 rfl rfl hv5 dX11_deedAt_12 ?_
  refine lv_if_le (tgt := 83) (pc := 13) hx hb dX11_deedAt_13 rfl (fun hc => ?_) (fun hc => ?_)
  · have hf := za_t hf hc
    obtain rfl := Option.some.inj hf
    obtain ⟨rfl, rfl, rfl, rfl⟩ := zp_4 (ex (show ¬ (2 : Nat) = 0 by decide))
    exact E83 _ _ _ ⟨rfl, lv_sub hl [] rfl, hP, hD, hS⟩
  · have hf := za_f hf hc
    refine lv_aload_n (pc := 16) hx hb dX11_deedAt_16 rfl (lv_at hl 0 rfl) ?_
    refine va_get (pc := 17) (D := (dC, dI)) (ci := 0) (v := .ref (ad 24)) (C := RX11) (T := TX11) (N := 42) hx hb ht zr_lay hown hK hP 0 rfl rfl 23 (by decide) (ht _ zr_18) (fun _ h9 => h9) rfl dX11_deedAt_17 ?_
    refine lv_iload_n (pc := 20) hx hb dX11_deedAt_20 rfl (lv_at hl 2 rfl) ?_
    obtain ⟨v6, hv6, hf⟩ := zc_1 hf
    refine zw_iald (pc := 21) hx hb hK hP 3 0 rfl rfl hv6 dX11_deedAt_21 ?_
    refine lv_ldcw (v := (268435456 : Int32)) (pc := 22) hx hb hown (ht _ zr_353) dX11_deedAt_22 ?_
    refine lv_icmp_ge (tgt := 83) (pc := 25) hx hb dX11_deedAt_25 rfl (fun hc => ?_) (fun hc => ?_)
    · have hf := za_t hf hc
      obtain rfl := Option.some.inj hf
      obtain ⟨rfl, rfl, rfl, rfl⟩ := zp_4 (ex (show ¬ (2 : Nat) = 0 by decide))
      exact E83 _ _ _ ⟨rfl, lv_sub hl [] rfl, hP, hD, hS⟩
    · have hf := za_f hf hc
      refine lv_iconst (v := (0 : Int32)) (pc := 28) hx hb dX11_deedAt_28 (by decide) ?_
      refine lv_istore (lv' := [(4, .int (0 : Int32)), (0, .ref (ad 0)), (1, .int p1), (2, .int v2), (3, .int v3)]) (pc := 29) hx hb dX11_deedAt_29 hl (by decide) rfl (fun ls hl => ?_)
      obtain ⟨g12, v11, hj, hf⟩ := zc_2 hf
      refine zj_join (pcJ := 53) (stk := []) (X := fun H locs ls => lv_has ls 5 [(0, .ref (ad 0)), (1, .int p1), (2, .int v2), (3, .int v3), (4, .int v11)] ∧ va_P (dC, dI) zz_cls [zr_o ad f_thrown f_taped f_at f_behind f_size f_kind f_number f_wrong f_wrongAt f_faultKind f_faultPlace f_reading f_toldWhy f_x f_standMany f_bestMany f_tail f_round1, (ad 2, .inl (dA 0, 2982, .inl b_all)), (ad 23, .inl (dA 0, 43200, .inl b_then)), (ad 24, .inl (dA 0, 2880, .inl b_far))] H ∧ va_D A [zr_o ad f_thrown f_taped f_at f_behind f_size f_kind f_number f_wrong f_wrongAt f_faultKind f_faultPlace f_reading f_toldWhy f_x f_standMany f_bestMany f_tail f_round1, (ad 2, .inl (dA 0, 2982, .inl b_all)), (ad 23, .inl (dA 0, 43200, .inl b_then)), (ad 24, .inl (dA 0, 2880, .inl b_far))] ∧ va_S A s.heap H locs) (fun H locs ls hX => ?_) (fun E53 => ?_)
      · obtain ⟨hl, hP, hD, hS⟩ := hX
        clear hj
        refine lv_iload_n (pc := 53) hx hb dX11_deedAt_53 rfl (lv_at hl 3 rfl) ?_
        refine lv_iload_n (pc := 54) hx hb dX11_deedAt_54 rfl (lv_at hl 1 rfl) ?_
        refine lv_icmp_ne (tgt := 64) (pc := 55) hx hb dX11_deedAt_55 rfl (fun hc => ?_) (fun hc => ?_)
        · have hf := za_f hf hc
          refine lv_aload_n (pc := 64) hx hb dX11_deedAt_64 rfl (lv_at hl 0 rfl) ?_
          refine va_get (pc := 65) (D := (dC, dI)) (ci := 0) (v := .ref (ad 23)) (C := RX11) (T := TX11) (N := 42) hx hb ht zr_lay hown hK hP 0 rfl rfl 22 (by decide) (ht _ zr_17) (fun _ h9 => h9) rfl dX11_deedAt_65 ?_
          refine lv_bipush (v := (15 : Int32)) (pc := 68) hx hb dX11_deedAt_68 (by decide) ?_
          refine lv_iload_n (pc := 70) hx hb dX11_deedAt_70 rfl (lv_at hl 2 rfl) ?_
          refine lv_imul (pc := 71) hx hb dX11_deedAt_71 ?_
          refine lv_iload (pc := 72) hx hb dX11_deedAt_72 (lv_at hl 4 rfl) ?_
          refine lv_iadd (pc := 74) hx hb dX11_deedAt_74 ?_
          obtain ⟨v13, hv13, hf⟩ := zc_1 hf
          refine zw_iald (pc := 75) hx hb hK hP 2 0 rfl rfl hv13 dX11_deedAt_75 ?_
          refine lv_istore_n (lv' := [(2, .int v13), (0, .ref (ad 0)), (1, .int p1), (3, .int v3), (4, .int v11)]) (pc := 76) hx hb dX11_deedAt_76 rfl hl (by decide) rfl (fun ls hl => ?_)
          obtain ⟨v14, hv14, hf⟩ := zc_1 hf
          refine lv_iinc (v := v14) (lv' := [(3, .int v14), (2, .int v13), (0, .ref (ad 0)), (1, .int p1), (4, .int v11)]) (k := 3) (pc := 77) hx hb dX11_deedAt_77 hl rfl (Option.some.inj hv14) (by decide) rfl (fun ls hl => ?_)
          refine lv_goto (tgt := 7) (pc := 80) hx hb dX11_deedAt_80 rfl ?_
          obtain rfl := Option.some.inj hf
          exact ih rfl _ _ _ ⟨lv_sub hl [2, 3, 1, 0] rfl, hP, hD, hS⟩
        · have hf := za_t hf hc
          obtain rfl := Option.some.inj hf
          obtain ⟨rfl, rfl, rfl, rfl⟩ := zp_4 (ex (show ¬ (1 : Nat) = 0 by decide))
          exact E58 _ _ _ ⟨rfl, lv_sub hl [4] rfl, hP, hD, hS⟩
      clear hf
      refine zw_loop (pcH := 31) (X := fun v H locs ls => lv_has ls 5 [(0, .ref (ad 0)), (1, .int p1), (2, .int v2), (3, .int v3), (4, .int v)] ∧ va_P (dC, dI) zz_cls [zr_o ad f_thrown f_taped f_at f_behind f_size f_kind f_number f_wrong f_wrongAt f_faultKind f_faultPlace f_reading f_toldWhy f_x f_standMany f_bestMany f_tail f_round1, (ad 2, .inl (dA 0, 2982, .inl b_all)), (ad 23, .inl (dA 0, 43200, .inl b_then)), (ad 24, .inl (dA 0, 2880, .inl b_far))] H ∧ va_D A [zr_o ad f_thrown f_taped f_at f_behind f_size f_kind f_number f_wrong f_wrongAt f_faultKind f_faultPlace f_reading f_toldWhy f_x f_standMany f_bestMany f_tail f_round1, (ad 2, .inl (dA 0, 2982, .inl b_all)), (ad 23, .inl (dA 0, 43200, .inl b_then)), (ad 24, .inl (dA 0, 2880, .inl b_far))] ∧ va_S A s.heap H locs) hj (fun v w hf ih ex H locs ls hX => ?_) _ _ _ ⟨lv_sub hl [1, 2, 3, 4, 0] rfl, hP, hD, hS⟩
      clear hj
      generalize v = v7 at hf hX
      obtain ⟨hl, hP, hD, hS⟩ := hX
      have hl : lv_has ls 5 [(0, .ref (ad 0)), (1, .int p1), (2, .int v2), (3, .int v3), (4, .int v7)] := hl
      have hP : va_P (dC, dI) zz_cls [zr_o ad f_thrown f_taped f_at f_behind f_size f_kind f_number f_wrong f_wrongAt f_faultKind f_faultPlace f_reading f_toldWhy f_x f_standMany f_bestMany f_tail f_round1, (ad 2, .inl (dA 0, 2982, .inl b_all)), (ad 23, .inl (dA 0, 43200, .inl b_then)), (ad 24, .inl (dA 0, 2880, .inl b_far))] H := hP
      have hD : va_D A [zr_o ad f_thrown f_taped f_at f_behind f_size f_kind f_number f_wrong f_wrongAt f_faultKind f_faultPlace f_reading f_toldWhy f_x f_standMany f_bestMany f_tail f_round1, (ad 2, .inl (dA 0, 2982, .inl b_all)), (ad 23, .inl (dA 0, 43200, .inl b_then)), (ad 24, .inl (dA 0, 2880, .inl b_far))] := hD
      replace hf : zb_X11_deedAt_31 b_then b_far v2 v7 = some w := hf
      unfold zb_X11_deedAt_31 at hf
      refine lv_aload_n (pc := 31) hx hb dX11_deedAt_31 rfl (lv_at hl 0 rfl) ?_
      refine lv_iload_n (pc := 32) hx hb dX11_deedAt_32 rfl (lv_at hl 2 rfl) ?_
      refine lv_iload (pc := 33) hx hb dX11_deedAt_33 (lv_at hl 4 rfl) ?_
      obtain ⟨v8, hv8, hf⟩ := zc_1 hf
      refine zw_Vi (pc := 35) (wc := [zr_o ad f_thrown f_taped f_at f_behind f_size f_kind f_number f_wrong f_wrongAt f_faultKind f_faultPlace f_reading f_toldWhy f_x f_standMany f_bestMany f_tail f_round1, (ad 23, .inl (dA 0, 43200, .inl b_then)), (ad 24, .inl (dA 0, 2880, .inl b_far))]) (wr := [(ad 2, .inl (dA 0, 2982, .inl b_all))]) (w1 := [zr_o ad f_thrown f_taped f_at f_behind f_size f_kind f_number f_wrong f_wrongAt f_faultKind f_faultPlace f_reading f_toldWhy f_x f_standMany f_bestMany f_tail f_round1, (ad 23, .inl (dA 0, 43200, .inl b_then)), (ad 24, .inl (dA 0, 2880, .inl b_far))]) (As := [.int v2, .int v7]) (rest := []) ⟨hx, hb, hml, hown, ht⟩ (zt_X11_farBy l dC dI dA ad _ f_thrown f_taped f_at f_behind f_size f_kind f_number f_wrong f_wrongAt f_faultKind f_faultPlace f_reading f_toldWhy f_x f_standMany f_bestMany f_tail f_round1 b_then b_far v2 v7 v8 hv8) (cwV 2 ht (zr_V zr_359 zr_360 zr_361 zr_36 zr_352) rfl rfl rfl zk_X11_farBy ⟨Nat.le_of_ble_eq_true rfl, Nat.le_of_ble_eq_true rfl⟩) rfl rfl hK hP hD hS hA [0, 2, 3] [1] (by decide) (by decide) (by decide) rfl rfl rfl hl.1 (Nat.le_of_ble_eq_true rfl) dX11_deedAt_35 ⟨Nat.zero_le _, Nat.zero_le _⟩ rfl (fun H locs hP hD hS => ?_)
      have hP : va_P (dC, dI) zz_cls [(ad 2, .inl (dA 0, 2982, .inl b_all)), zr_o ad f_thrown f_taped f_at f_behind f_size f_kind f_number f_wrong f_wrongAt f_faultKind f_faultPlace f_reading f_toldWhy f_x f_standMany f_bestMany f_tail f_round1, (ad 23, .inl (dA 0, 43200, .inl b_then)), (ad 24, .inl (dA 0, 2880, .inl b_far))] H := hP
      have hD : va_D A [(ad 2, .inl (dA 0, 2982, .inl b_all)), zr_o ad f_thrown f_taped f_at f_behind f_size f_kind f_number f_wrong f_wrongAt f_faultKind f_faultPlace f_reading f_toldWhy f_x f_standMany f_bestMany f_tail f_round1, (ad 23, .inl (dA 0, 43200, .inl b_then)), (ad 24, .inl (dA 0, 2880, .inl b_far))] := hD
      refine lv_aload_n (pc := 38) hx hb dX11_deedAt_38 rfl (lv_at hl 0 rfl) ?_
      refine va_get (pc := 39) (D := (dC, dI)) (ci := 0) (v := .ref (ad 24)) (C := RX11) (T := TX11) (N := 42) hx hb ht zr_lay hown hK hP 1 rfl rfl 23 (by decide) (ht _ zr_18) (fun _ h9 => h9) rfl dX11_deedAt_39 ?_
      refine lv_iload_n (pc := 42) hx hb dX11_deedAt_42 rfl (lv_at hl 2 rfl) ?_
      obtain ⟨v9, hv9, hf⟩ := zc_1 hf
      refine zw_iald (pc := 43) hx hb hK hP 3 0 rfl rfl hv9 dX11_deedAt_43 ?_
      refine lv_icmp_eq (tgt := 53) (pc := 44) hx hb dX11_deedAt_44 rfl (fun hc => ?_) (fun hc => ?_)
      · have hf := za_t hf hc
        obtain rfl := Option.some.inj hf
        obtain ⟨rfl, rfl⟩ := zp_2 (ex (show ¬ (1 : Nat) = 0 by decide))
        exact E53 _ _ _ ⟨lv_sub hl [0, 1, 2, 3, 4] rfl, hP.sub [1, 0, 2, 3] rfl, hD.sub [1, 0, 2, 3] (by decide) rfl, hS⟩
      · have hf := za_f hf hc
        obtain ⟨v10, hv10, hf⟩ := zc_1 hf
        refine lv_iinc (v := v10) (lv' := [(4, .int v10), (0, .ref (ad 0)), (1, .int p1), (2, .int v2), (3, .int v3)]) (k := 4) (pc := 47) hx hb dX11_deedAt_47 hl rfl (Option.some.inj hv10) (by decide) rfl (fun ls hl => ?_)
        refine lv_goto (tgt := 31) (pc := 50) hx hb dX11_deedAt_50 rfl ?_
        obtain rfl := Option.some.inj hf
        exact ih rfl _ _ _ ⟨lv_sub hl [1, 2, 3, 4, 0] rfl, hP.sub [1, 0, 2, 3] rfl, hD.sub [1, 0, 2, 3] (by decide) rfl, hS⟩

def zf_X11_soonest (n : Nat) (f_thrown : Int32) (f_standMany : Int32) (b_all : (Nat → Int32)) (b_reckoned : (Nat → Int32)) (b_words : (Nat → Int32)) (b_stand : (Nat → Int32)) (b_then : (Nat → Int32)) (b_far : (Nat → Int32)) (b_known : (Nat → Int32)) (p1 : Int32) (p2 : Int32) : Option (Int32 × Int32 × Int32 × (Nat → Int32) × (Nat → Int32) × (Nat → Int32) × (Nat → Int32) × (Nat → Int32) × (Nat → Int32)) :=
  zd_1 (zf_X11_noComing b_all p1 p2) (fun v1 =>
  if v1 = 0 then
    zd_8 (zf_X11_laysFar n f_standMany b_all b_reckoned b_words b_stand b_then b_far b_known p1 p2) (fun v2 v3 a4 a5 a6 a7 a8 a9 =>
    if v2 = (268435456 : Int32) then
      some ((-1 : Int32), (0 : Int32), v3, a4, a5, a6, a7, a8, a9)
    else
      some (v2, (0 : Int32), v3, a4, a5, a6, a7, a8, a9))
  else
    some (v1, (0 : Int32), f_standMany, b_reckoned, b_words, b_stand, b_then, b_far, b_known))
theorem zk_X11_soonest : yX11_soonest.cls = RX11 ∧ yX11_soonest.cls ≠ "java/lang/invoke/MethodHandle" ∧ yX11_soonest.cls ≠ "java/lang/invoke/VarHandle" ∧ (parseMethodDescriptor yX11_soonest.desc).map (fun d => d.parameters.length) = some 2 := by decide +kernel
set_option maxHeartbeats 4000000 in
set_option maxRecDepth 100000 in
theorem zt_X11_soonest (l : Launch) (dC : Nat → ClassId) (dI : Nat → Nat → Nat) (dA : Nat → ClassId) (ad : Nat → Nat) (sz : Nat) (n : Nat) (f_thrown f_taped f_at f_behind f_size f_kind f_number f_wrong f_wrongAt f_faultKind f_faultPlace f_reading f_toldWhy f_x f_standMany f_bestMany f_tail f_round1 : Int32) (b_all : (Nat → Int32)) (b_reckoned : (Nat → Int32)) (b_words : (Nat → Int32)) (b_stand : (Nat → Int32)) (b_then : (Nat → Int32)) (b_far : (Nat → Int32)) (b_known : (Nat → Int32)) (p1 : Int32) (p2 : Int32) (r0 : Int32) (o1 : Int32) (o2 : Int32) (o3 : (Nat → Int32)) (o4 : (Nat → Int32)) (o5 : (Nat → Int32)) (o6 : (Nat → Int32)) (o7 : (Nat → Int32)) (o8 : (Nat → Int32)) (hf : zf_X11_soonest n f_thrown f_standMany b_all b_reckoned b_words b_stand b_then b_far b_known p1 p2 = some (r0, o1, o2, o3, o4, o5, o6, o7, o8)) : Met l yX11_soonest (.code yX11_soonest cX11_soonest 5 (some .int) :: zr_T) ({ frames := 6, cells := 0, slots := 0, locals := 148 }) (va_Pc [.ref (ad 0), .int p1, .int p2] (zz_M dC dI dA [zr_o ad f_thrown f_taped f_at f_behind f_size f_kind f_number f_wrong f_wrongAt f_faultKind f_faultPlace f_reading f_toldWhy f_x f_standMany f_bestMany f_tail f_round1, (ad 2, .inl (dA 0, 2982, .inl b_all)), (ad 17, .inl (dA 0, 900, .inl b_reckoned)), (ad 18, .inl (dA 0, 6, .inl b_words)), (ad 22, .inl (dA 0, 2880, .inl b_stand)), (ad 23, .inl (dA 0, 43200, .inl b_then)), (ad 24, .inl (dA 0, 2880, .inl b_far)), (ad 25, .inl (dA 2, 2880, .inl b_known))] sz)) (va_Qi (fun (r : Int32) (_ : Unit) => r = r0) (fun _ t => zz_B dC dI dA (va_A [zr_o ad f_thrown f_taped f_at f_behind f_size f_kind f_number f_wrong f_wrongAt f_faultKind f_faultPlace f_reading f_toldWhy f_x f_standMany f_bestMany f_tail f_round1, (ad 2, .inl (dA 0, 2982, .inl b_all)), (ad 17, .inl (dA 0, 900, .inl b_reckoned)), (ad 18, .inl (dA 0, 6, .inl b_words)), (ad 22, .inl (dA 0, 2880, .inl b_stand)), (ad 23, .inl (dA 0, 43200, .inl b_then)), (ad 24, .inl (dA 0, 2880, .inl b_far)), (ad 25, .inl (dA 2, 2880, .inl b_known))] sz) [zr_o ad o1 f_taped f_at f_behind f_size f_kind f_number f_wrong f_wrongAt f_faultKind f_faultPlace f_reading f_toldWhy f_x o2 f_bestMany f_tail f_round1, (ad 2, .inl (dA 0, 2982, .inl b_all)), (ad 17, .inl (dA 0, 900, .inl o3)), (ad 18, .inl (dA 0, 6, .inl o4)), (ad 22, .inl (dA 0, 2880, .inl o5)), (ad 23, .inl (dA 0, 43200, .inl o6)), (ad 24, .inl (dA 0, 2880, .inl o7)), (ad 25, .inl (dA 2, 2880, .inl o8))] t) (va_A [zr_o ad f_thrown f_taped f_at f_behind f_size f_kind f_number f_wrong f_wrongAt f_faultKind f_faultPlace f_reading f_toldWhy f_x f_standMany f_bestMany f_tail f_round1, (ad 2, .inl (dA 0, 2982, .inl b_all)), (ad 17, .inl (dA 0, 900, .inl b_reckoned)), (ad 18, .inl (dA 0, 6, .inl b_words)), (ad 22, .inl (dA 0, 2880, .inl b_stand)), (ad 23, .inl (dA 0, 43200, .inl b_then)), (ad 24, .inl (dA 0, 2880, .inl b_far)), (ad 25, .inl (dA 2, 2880, .inl b_known))] sz)) 0 0 (va_A [zr_o ad f_thrown f_taped f_at f_behind f_size f_kind f_number f_wrong f_wrongAt f_faultKind f_faultPlace f_reading f_toldWhy f_x f_standMany f_bestMany f_tail f_round1, (ad 2, .inl (dA 0, 2982, .inl b_all)), (ad 17, .inl (dA 0, 900, .inl b_reckoned)), (ad 18, .inl (dA 0, 6, .inl b_words)), (ad 22, .inl (dA 0, 2880, .inl b_stand)), (ad 23, .inl (dA 0, 43200, .inl b_then)), (ad 24, .inl (dA 0, 2880, .inl b_far)), (ad 25, .inl (dA 2, 2880, .inl b_known))] sz) := by
  unfold zf_X11_soonest at hf
  refine Met.ofW (cc := cX11_soonest) (maxL := 5) (ret := (some .int)) (by decide) rfl ?_
  intro p e s m args below meth c s₁ B hml hv
  obtain ⟨rfl, hsz, hP, hK, hD0⟩ := hv
  have hx := B.exec
  have hb := B.bytes
  have hr := B.returns
  have ht : ∀ w ∈ zr_T, w.before ([.ref (ad 0), .int p1, .int p2] : List Value).toArray s = true := fun w hw => atoms_spec (ws := .code yX11_soonest cX11_soonest 5 (some .int) :: zr_T) B.pre w (List.mem_cons_of_mem _ hw)
  have hown : s.vm.findClass RX11 = some m.cls := findClass_of_methodNamed B.named
  have hlocks := B.notSynchronized
  subst hsz
  have hD := hD0.self (sz := s.heap.size)
  generalize hAe : va_A [zr_o ad f_thrown f_taped f_at f_behind f_size f_kind f_number f_wrong f_wrongAt f_faultKind f_faultPlace f_reading f_toldWhy f_x f_standMany f_bestMany f_tail f_round1, (ad 2, .inl (dA 0, 2982, .inl b_all)), (ad 17, .inl (dA 0, 900, .inl b_reckoned)), (ad 18, .inl (dA 0, 6, .inl b_words)), (ad 22, .inl (dA 0, 2880, .inl b_stand)), (ad 23, .inl (dA 0, 43200, .inl b_then)), (ad 24, .inl (dA 0, 2880, .inl b_far)), (ad 25, .inl (dA 2, 2880, .inl b_known))] s.heap.size = A at hD ⊢
  have hA : ∀ q : Nat, s.heap.size ≤ q → A q := fun q h => by rw [← hAe]; exact Or.inr h
  clear hAe hD0
  have hS : va_S A s.heap s.heap [] := va_S.rf
  have hl := lv_entry ([.ref (ad 0), .int p1, .int p2]) (n := 5) (Nat.le_of_ble_eq_true rfl)
  rw [lg_entry_eq]
  generalize (lg_sl ([.ref (ad 0), .int p1, .int p2]) ++ List.replicate (5 - (lg_sl ([.ref (ad 0), .int p1, .int p2])).length) Slot.unset).toArray = ls at hl ⊢
  have hl : lv_has ls 5 [(0, .ref (ad 0)), (1, .int p1), (2, .int p2)] := hl
  refine lv_aload_n (pc := 0) hx hb dX11_soonest_0 rfl (lv_at hl 0 rfl) ?_
  refine lv_iconst (v := (0 : Int32)) (pc := 1) hx hb dX11_soonest_1 (by decide) ?_
  refine va_put (pc := 2) (D := (dC, dI)) (ci := 0) (v := .int (0 : Int32)) (ty := .int) (C := RX11) (T := TX11) (N := 42) hx hb ht zr_lay tyX11 tyX11_ok nmX11 hown hK hP hD hS 0 rfl rfl 0 (by decide) (ht _ zr_39) (fun _ h9 => h9) rfl (by decide +kernel) rfl rfl (Nat.le_of_ble_eq_true rfl) dX11_soonest_2 (fun H locs hP hD hS => ?_)
  have hP : va_P (dC, dI) zz_cls [zr_o ad (0 : Int32) f_taped f_at f_behind f_size f_kind f_number f_wrong f_wrongAt f_faultKind f_faultPlace f_reading f_toldWhy f_x f_standMany f_bestMany f_tail f_round1, (ad 2, .inl (dA 0, 2982, .inl b_all)), (ad 17, .inl (dA 0, 900, .inl b_reckoned)), (ad 18, .inl (dA 0, 6, .inl b_words)), (ad 22, .inl (dA 0, 2880, .inl b_stand)), (ad 23, .inl (dA 0, 43200, .inl b_then)), (ad 24, .inl (dA 0, 2880, .inl b_far)), (ad 25, .inl (dA 2, 2880, .inl b_known))] H := hP
  have hD : va_D A [zr_o ad (0 : Int32) f_taped f_at f_behind f_size f_kind f_number f_wrong f_wrongAt f_faultKind f_faultPlace f_reading f_toldWhy f_x f_standMany f_bestMany f_tail f_round1, (ad 2, .inl (dA 0, 2982, .inl b_all)), (ad 17, .inl (dA 0, 900, .inl b_reckoned)), (ad 18, .inl (dA 0, 6, .inl b_words)), (ad 22, .inl (dA 0, 2880, .inl b_stand)), (ad 23, .inl (dA 0, 43200, .inl b_then)), (ad 24, .inl (dA 0, 2880, .inl b_far)), (ad 25, .inl (dA 2, 2880, .inl b_known))] := hD
  refine lv_aload_n (pc := 5) hx hb dX11_soonest_5 rfl (lv_at hl 0 rfl) ?_
  refine lv_iload_n (pc := 6) hx hb dX11_soonest_6 rfl (lv_at hl 1 rfl) ?_
  refine lv_iload_n (pc := 7) hx hb dX11_soonest_7 rfl (lv_at hl 2 rfl) ?_
  obtain ⟨v1, hv1, hf⟩ := zc_1 hf
  refine zw_Vi (pc := 8) (wc := [zr_o ad (0 : Int32) f_taped f_at f_behind f_size f_kind f_number f_wrong f_wrongAt f_faultKind f_faultPlace f_reading f_toldWhy f_x f_standMany f_bestMany f_tail f_round1, (ad 2, .inl (dA 0, 2982, .inl b_all))]) (wr := [(ad 17, .inl (dA 0, 900, .inl b_reckoned)), (ad 18, .inl (dA 0, 6, .inl b_words)), (ad 22, .inl (dA 0, 2880, .inl b_stand)), (ad 23, .inl (dA 0, 43200, .inl b_then)), (ad 24, .inl (dA 0, 2880, .inl b_far)), (ad 25, .inl (dA 2, 2880, .inl b_known))]) (w1 := [zr_o ad (0 : Int32) f_taped f_at f_behind f_size f_kind f_number f_wrong f_wrongAt f_faultKind f_faultPlace f_reading f_toldWhy f_x f_standMany f_bestMany f_tail f_round1, (ad 2, .inl (dA 0, 2982, .inl b_all))]) (As := [.int p1, .int p2]) (rest := []) ⟨hx, hb, hml, hown, ht⟩ (zt_X11_noComing l dC dI dA ad _ (0 : Int32) f_taped f_at f_behind f_size f_kind f_number f_wrong f_wrongAt f_faultKind f_faultPlace f_reading f_toldWhy f_x f_standMany f_bestMany f_tail f_round1 b_all p1 p2 v1 hv1) (cwV 2 ht (zr_V zr_370 zr_371 zr_372 zr_36 zr_363) rfl rfl rfl zk_X11_noComing ⟨Nat.le_of_ble_eq_true rfl, Nat.le_of_ble_eq_true rfl⟩) rfl rfl hK hP hD hS hA [0, 1] [2, 3, 4, 5, 6, 7] (by decide) (by decide) (by decide) rfl rfl rfl hl.1 (Nat.le_of_ble_eq_true rfl) dX11_soonest_8 ⟨Nat.zero_le _, Nat.zero_le _⟩ rfl (fun H locs hP hD hS => ?_)
  have hP : va_P (dC, dI) zz_cls [(ad 17, .inl (dA 0, 900, .inl b_reckoned)), (ad 18, .inl (dA 0, 6, .inl b_words)), (ad 22, .inl (dA 0, 2880, .inl b_stand)), (ad 23, .inl (dA 0, 43200, .inl b_then)), (ad 24, .inl (dA 0, 2880, .inl b_far)), (ad 25, .inl (dA 2, 2880, .inl b_known)), zr_o ad (0 : Int32) f_taped f_at f_behind f_size f_kind f_number f_wrong f_wrongAt f_faultKind f_faultPlace f_reading f_toldWhy f_x f_standMany f_bestMany f_tail f_round1, (ad 2, .inl (dA 0, 2982, .inl b_all))] H := hP
  have hD : va_D A [(ad 17, .inl (dA 0, 900, .inl b_reckoned)), (ad 18, .inl (dA 0, 6, .inl b_words)), (ad 22, .inl (dA 0, 2880, .inl b_stand)), (ad 23, .inl (dA 0, 43200, .inl b_then)), (ad 24, .inl (dA 0, 2880, .inl b_far)), (ad 25, .inl (dA 2, 2880, .inl b_known)), zr_o ad (0 : Int32) f_taped f_at f_behind f_size f_kind f_number f_wrong f_wrongAt f_faultKind f_faultPlace f_reading f_toldWhy f_x f_standMany f_bestMany f_tail f_round1, (ad 2, .inl (dA 0, 2982, .inl b_all))] := hD
  refine lv_istore_n (lv' := [(3, .int v1), (0, .ref (ad 0)), (1, .int p1), (2, .int p2)]) (pc := 11) hx hb dX11_soonest_11 rfl hl (by decide) rfl (fun ls hl => ?_)
  refine lv_iload_n (pc := 12) hx hb dX11_soonest_12 rfl (lv_at hl 0 rfl) ?_
  refine lv_if_eq (tgt := 18) (pc := 13) hx hb dX11_soonest_13 rfl (fun hc => ?_) (fun hc => ?_)
  · have hf := za_t hf hc
    refine lv_aload_n (pc := 18) hx hb dX11_soonest_18 rfl (lv_at hl 1 rfl) ?_
    refine lv_iload_n (pc := 19) hx hb dX11_soonest_19 rfl (lv_at hl 2 rfl) ?_
    refine lv_iload_n (pc := 20) hx hb dX11_soonest_20 rfl (lv_at hl 3 rfl) ?_
    obtain ⟨v2, v3, a4, a5, a6, a7, a8, a9, hv2, hf⟩ := zc_8 hf
    refine zw_Vi (pc := 21) (wc := [zr_o ad (0 : Int32) f_taped f_at f_behind f_size f_kind f_number f_wrong f_wrongAt f_faultKind f_faultPlace f_reading f_toldWhy f_x f_standMany f_bestMany f_tail f_round1, (ad 2, .inl (dA 0, 2982, .inl b_all)), (ad 17, .inl (dA 0, 900, .inl b_reckoned)), (ad 18, .inl (dA 0, 6, .inl b_words)), (ad 22, .inl (dA 0, 2880, .inl b_stand)), (ad 23, .inl (dA 0, 43200, .inl b_then)), (ad 24, .inl (dA 0, 2880, .inl b_far)), (ad 25, .inl (dA 2, 2880, .inl b_known))]) (wr := []) (w1 := [zr_o ad (0 : Int32) f_taped f_at f_behind f_size f_kind f_number f_wrong f_wrongAt f_faultKind f_faultPlace f_reading f_toldWhy f_x v3 f_bestMany f_tail f_round1, (ad 2, .inl (dA 0, 2982, .inl b_all)), (ad 17, .inl (dA 0, 900, .inl a4)), (ad 18, .inl (dA 0, 6, .inl a5)), (ad 22, .inl (dA 0, 2880, .inl a6)), (ad 23, .inl (dA 0, 43200, .inl a7)), (ad 24, .inl (dA 0, 2880, .inl a8)), (ad 25, .inl (dA 2, 2880, .inl a9))]) (As := [.int p1, .int p2]) (rest := []) ⟨hx, hb, hml, hown, ht⟩ (zt_X11_laysFar l dC dI dA ad _ n (0 : Int32) f_taped f_at f_behind f_size f_kind f_number f_wrong f_wrongAt f_faultKind f_faultPlace f_reading f_toldWhy f_x f_standMany f_bestMany f_tail f_round1 b_all b_reckoned b_words b_stand b_then b_far b_known p1 p2 v2 v3 a4 a5 a6 a7 a8 a9 hv2) (cwV 2 ht (zr_V zr_373 zr_374 zr_375 zr_36 zr_362) rfl rfl rfl zk_X11_laysFar ⟨Nat.le_of_ble_eq_true rfl, Nat.le_of_ble_eq_true rfl⟩) rfl rfl hK hP hD hS hA [6, 7, 0, 1, 2, 3, 4, 5] [] (by decide) (by decide) (by decide) rfl rfl rfl hl.1 (Nat.le_of_ble_eq_true rfl) dX11_soonest_21 ⟨Nat.zero_le _, Nat.zero_le _⟩ rfl (fun H locs hP hD hS => ?_)
    have hP : va_P (dC, dI) zz_cls [zr_o ad (0 : Int32) f_taped f_at f_behind f_size f_kind f_number f_wrong f_wrongAt f_faultKind f_faultPlace f_reading f_toldWhy f_x v3 f_bestMany f_tail f_round1, (ad 2, .inl (dA 0, 2982, .inl b_all)), (ad 17, .inl (dA 0, 900, .inl a4)), (ad 18, .inl (dA 0, 6, .inl a5)), (ad 22, .inl (dA 0, 2880, .inl a6)), (ad 23, .inl (dA 0, 43200, .inl a7)), (ad 24, .inl (dA 0, 2880, .inl a8)), (ad 25, .inl (dA 2, 2880, .inl a9))] H := hP
    have hD : va_D A [zr_o ad (0 : Int32) f_taped f_at f_behind f_size f_kind f_number f_wrong f_wrongAt f_faultKind f_faultPlace f_reading f_toldWhy f_x v3 f_bestMany f_tail f_round1, (ad 2, .inl (dA 0, 2982, .inl b_all)), (ad 17, .inl (dA 0, 900, .inl a4)), (ad 18, .inl (dA 0, 6, .inl a5)), (ad 22, .inl (dA 0, 2880, .inl a6)), (ad 23, .inl (dA 0, 43200, .inl a7)), (ad 24, .inl (dA 0, 2880, .inl a8)), (ad 25, .inl (dA 2, 2880, .inl a9))] := hD
    refine lv_istore (lv' := [(4, .int v2), (3, .int v1), (0, .ref (ad 0)), (1, .int p1), (2, .int p2)]) (pc := 24) hx hb dX11_soonest_24 hl (by decide) rfl (fun ls hl => ?_)
    refine lv_iload (pc := 26) hx hb dX11_soonest_26 (lv_at hl 0 rfl) ?_
    refine lv_ldcw (v := (268435456 : Int32)) (pc := 28) hx hb hown (ht _ zr_353) dX11_soonest_28 ?_
    refine lv_icmp_ne (tgt := 38) (pc := 31) hx hb dX11_soonest_31 rfl (fun hc => ?_) (fun hc => ?_)
    · have hf := za_f hf hc
      refine lv_iload (pc := 38) hx hb dX11_soonest_38 (lv_at hl 0 rfl) ?_
      obtain ⟨rfl, rfl, rfl, rfl, rfl, rfl, rfl, rfl, rfl⟩ := zi_9 hf
      exact W.iret (pc := 40) hx hb hr (fun t ht hW => ⟨⟨_, (), rfl, rfl, zz_Bi (by rw [ht]; exact hP) (va_K.moved hW.alike hK) (hD)⟩, hS.F ht⟩) hS.2.2 dX11_soonest_40
    · have hf := za_t hf hc
      refine lv_iconst (v := (-1 : Int32)) (pc := 34) hx hb dX11_soonest_34 (by decide) ?_
      refine lv_goto (tgt := 40) (pc := 35) hx hb dX11_soonest_35 rfl ?_
      obtain ⟨rfl, rfl, rfl, rfl, rfl, rfl, rfl, rfl, rfl⟩ := zi_9 hf
      exact W.iret (pc := 40) hx hb hr (fun t ht hW => ⟨⟨_, (), rfl, rfl, zz_Bi (by rw [ht]; exact hP) (va_K.moved hW.alike hK) (hD)⟩, hS.F ht⟩) hS.2.2 dX11_soonest_40
  · have hf := za_f hf hc
    refine lv_iload_n (pc := 16) hx hb dX11_soonest_16 rfl (lv_at hl 0 rfl) ?_
    obtain ⟨rfl, rfl, rfl, rfl, rfl, rfl, rfl, rfl, rfl⟩ := zi_9 hf
    exact W.iret (pc := 17) hx hb hr (fun t ht hW => ⟨⟨_, (), rfl, rfl, zz_Bi (by rw [ht]; exact hP.sub [6, 7, 0, 1, 2, 3, 4, 5] rfl) (va_K.moved hW.alike hK) (hD.sub [6, 7, 0, 1, 2, 3, 4, 5] (by decide) rfl)⟩, hS.F ht⟩) hS.2.2 dX11_soonest_17

def zf_X11_way (n : Nat) (f_thrown : Int32) (f_standMany : Int32) (b_all : (Nat → Int32)) (b_reckoned : (Nat → Int32)) (b_words : (Nat → Int32)) (b_stand : (Nat → Int32)) (b_then : (Nat → Int32)) (b_far : (Nat → Int32)) (b_known : (Nat → Int32)) (p1 : Int32) (p2 : Int32) (p3 : Int32) : Option (Int32 × Int32 × Int32 × (Nat → Int32) × (Nat → Int32) × (Nat → Int32) × (Nat → Int32) × (Nat → Int32) × (Nat → Int32)) :=
  zd_1 (zf_X11_noComing b_all p1 p2) (fun v1 =>
  if v1 = 0 then
    if 0 ≤ p3 then
      zd_8 (zf_X11_laysFar n f_standMany b_all b_reckoned b_words b_stand b_then b_far b_known p1 p2) (fun v2 v3 a4 a5 a6 a7 a8 a9 =>
      zd_1 (zf_X11_deedAt n b_all a7 a8 p3) (fun v10 =>
      some (v10, (0 : Int32), v3, a4, a5, a6, a7, a8, a9)))
    else
      some ((-3 : Int32), (0 : Int32), f_standMany, b_reckoned, b_words, b_stand, b_then, b_far, b_known)
  else
    some (v1, (0 : Int32), f_standMany, b_reckoned, b_words, b_stand, b_then, b_far, b_known))
theorem zk_X11_way : yX11_way.cls = RX11 ∧ yX11_way.cls ≠ "java/lang/invoke/MethodHandle" ∧ yX11_way.cls ≠ "java/lang/invoke/VarHandle" ∧ (parseMethodDescriptor yX11_way.desc).map (fun d => d.parameters.length) = some 3 := by decide +kernel
set_option maxHeartbeats 4000000 in
set_option maxRecDepth 100000 in
theorem zt_X11_way (l : Launch) (dC : Nat → ClassId) (dI : Nat → Nat → Nat) (dA : Nat → ClassId) (ad : Nat → Nat) (sz : Nat) (n : Nat) (f_thrown f_taped f_at f_behind f_size f_kind f_number f_wrong f_wrongAt f_faultKind f_faultPlace f_reading f_toldWhy f_x f_standMany f_bestMany f_tail f_round1 : Int32) (b_all : (Nat → Int32)) (b_reckoned : (Nat → Int32)) (b_words : (Nat → Int32)) (b_stand : (Nat → Int32)) (b_then : (Nat → Int32)) (b_far : (Nat → Int32)) (b_known : (Nat → Int32)) (p1 : Int32) (p2 : Int32) (p3 : Int32) (r0 : Int32) (o1 : Int32) (o2 : Int32) (o3 : (Nat → Int32)) (o4 : (Nat → Int32)) (o5 : (Nat → Int32)) (o6 : (Nat → Int32)) (o7 : (Nat → Int32)) (o8 : (Nat → Int32)) (hf : zf_X11_way n f_thrown f_standMany b_all b_reckoned b_words b_stand b_then b_far b_known p1 p2 p3 = some (r0, o1, o2, o3, o4, o5, o6, o7, o8)) : Met l yX11_way (.code yX11_way cX11_way 5 (some .int) :: zr_T) ({ frames := 6, cells := 0, slots := 0, locals := 148 }) (va_Pc [.ref (ad 0), .int p1, .int p2, .int p3] (zz_M dC dI dA [zr_o ad f_thrown f_taped f_at f_behind f_size f_kind f_number f_wrong f_wrongAt f_faultKind f_faultPlace f_reading f_toldWhy f_x f_standMany f_bestMany f_tail f_round1, (ad 2, .inl (dA 0, 2982, .inl b_all)), (ad 17, .inl (dA 0, 900, .inl b_reckoned)), (ad 18, .inl (dA 0, 6, .inl b_words)), (ad 22, .inl (dA 0, 2880, .inl b_stand)), (ad 23, .inl (dA 0, 43200, .inl b_then)), (ad 24, .inl (dA 0, 2880, .inl b_far)), (ad 25, .inl (dA 2, 2880, .inl b_known))] sz)) (va_Qi (fun (r : Int32) (_ : Unit) => r = r0) (fun _ t => zz_B dC dI dA (va_A [zr_o ad f_thrown f_taped f_at f_behind f_size f_kind f_number f_wrong f_wrongAt f_faultKind f_faultPlace f_reading f_toldWhy f_x f_standMany f_bestMany f_tail f_round1, (ad 2, .inl (dA 0, 2982, .inl b_all)), (ad 17, .inl (dA 0, 900, .inl b_reckoned)), (ad 18, .inl (dA 0, 6, .inl b_words)), (ad 22, .inl (dA 0, 2880, .inl b_stand)), (ad 23, .inl (dA 0, 43200, .inl b_then)), (ad 24, .inl (dA 0, 2880, .inl b_far)), (ad 25, .inl (dA 2, 2880, .inl b_known))] sz) [zr_o ad o1 f_taped f_at f_behind f_size f_kind f_number f_wrong f_wrongAt f_faultKind f_faultPlace f_reading f_toldWhy f_x o2 f_bestMany f_tail f_round1, (ad 2, .inl (dA 0, 2982, .inl b_all)), (ad 17, .inl (dA 0, 900, .inl o3)), (ad 18, .inl (dA 0, 6, .inl o4)), (ad 22, .inl (dA 0, 2880, .inl o5)), (ad 23, .inl (dA 0, 43200, .inl o6)), (ad 24, .inl (dA 0, 2880, .inl o7)), (ad 25, .inl (dA 2, 2880, .inl o8))] t) (va_A [zr_o ad f_thrown f_taped f_at f_behind f_size f_kind f_number f_wrong f_wrongAt f_faultKind f_faultPlace f_reading f_toldWhy f_x f_standMany f_bestMany f_tail f_round1, (ad 2, .inl (dA 0, 2982, .inl b_all)), (ad 17, .inl (dA 0, 900, .inl b_reckoned)), (ad 18, .inl (dA 0, 6, .inl b_words)), (ad 22, .inl (dA 0, 2880, .inl b_stand)), (ad 23, .inl (dA 0, 43200, .inl b_then)), (ad 24, .inl (dA 0, 2880, .inl b_far)), (ad 25, .inl (dA 2, 2880, .inl b_known))] sz)) 0 0 (va_A [zr_o ad f_thrown f_taped f_at f_behind f_size f_kind f_number f_wrong f_wrongAt f_faultKind f_faultPlace f_reading f_toldWhy f_x f_standMany f_bestMany f_tail f_round1, (ad 2, .inl (dA 0, 2982, .inl b_all)), (ad 17, .inl (dA 0, 900, .inl b_reckoned)), (ad 18, .inl (dA 0, 6, .inl b_words)), (ad 22, .inl (dA 0, 2880, .inl b_stand)), (ad 23, .inl (dA 0, 43200, .inl b_then)), (ad 24, .inl (dA 0, 2880, .inl b_far)), (ad 25, .inl (dA 2, 2880, .inl b_known))] sz) := by
  unfold zf_X11_way at hf
  refine Met.ofW (cc := cX11_way) (maxL := 5) (ret := (some .int)) (by decide) rfl ?_
  intro p e s m args below meth c s₁ B hml hv
  obtain ⟨rfl, hsz, hP, hK, hD0⟩ := hv
  have hx := B.exec
  have hb := B.bytes
  have hr := B.returns
  have ht : ∀ w ∈ zr_T, w.before ([.ref (ad 0), .int p1, .int p2, .int p3] : List Value).toArray s = true := fun w hw => atoms_spec (ws := .code yX11_way cX11_way 5 (some .int) :: zr_T) B.pre w (List.mem_cons_of_mem _ hw)
  have hown : s.vm.findClass RX11 = some m.cls := findClass_of_methodNamed B.named
  have hlocks := B.notSynchronized
  subst hsz
  have hD := hD0.self (sz := s.heap.size)
  generalize hAe : va_A [zr_o ad f_thrown f_taped f_at f_behind f_size f_kind f_number f_wrong f_wrongAt f_faultKind f_faultPlace f_reading f_toldWhy f_x f_standMany f_bestMany f_tail f_round1, (ad 2, .inl (dA 0, 2982, .inl b_all)), (ad 17, .inl (dA 0, 900, .inl b_reckoned)), (ad 18, .inl (dA 0, 6, .inl b_words)), (ad 22, .inl (dA 0, 2880, .inl b_stand)), (ad 23, .inl (dA 0, 43200, .inl b_then)), (ad 24, .inl (dA 0, 2880, .inl b_far)), (ad 25, .inl (dA 2, 2880, .inl b_known))] s.heap.size = A at hD ⊢
  have hA : ∀ q : Nat, s.heap.size ≤ q → A q := fun q h => by rw [← hAe]; exact Or.inr h
  clear hAe hD0
  have hS : va_S A s.heap s.heap [] := va_S.rf
  have hl := lv_entry ([.ref (ad 0), .int p1, .int p2, .int p3]) (n := 5) (Nat.le_of_ble_eq_true rfl)
  rw [lg_entry_eq]
  generalize (lg_sl ([.ref (ad 0), .int p1, .int p2, .int p3]) ++ List.replicate (5 - (lg_sl ([.ref (ad 0), .int p1, .int p2, .int p3])).length) Slot.unset).toArray = ls at hl ⊢
  have hl : lv_has ls 5 [(0, .ref (ad 0)), (1, .int p1), (2, .int p2), (3, .int p3)] := hl
  refine lv_aload_n (pc := 0) hx hb dX11_way_0 rfl (lv_at hl 0 rfl) ?_
  refine lv_iconst (v := (0 : Int32)) (pc := 1) hx hb dX11_way_1 (by decide) ?_
  refine va_put (pc := 2) (D := (dC, dI)) (ci := 0) (v := .int (0 : Int32)) (ty := .int) (C := RX11) (T := TX11) (N := 42) hx hb ht zr_lay tyX11 tyX11_ok nmX11 hown hK hP hD hS 0 rfl rfl 0 (by decide) (ht _ zr_39) (fun _ h9 => h9) rfl (by decide +kernel) rfl rfl (Nat.le_of_ble_eq_true rfl) dX11_way_2 (fun H locs hP hD hS => ?_)
  have hP : va_P (dC, dI) zz_cls [zr_o ad (0 : Int32) f_taped f_at f_behind f_size f_kind f_number f_wrong f_wrongAt f_faultKind f_faultPlace f_reading f_toldWhy f_x f_standMany f_bestMany f_tail f_round1, (ad 2, .inl (dA 0, 2982, .inl b_all)), (ad 17, .inl (dA 0, 900, .inl b_reckoned)), (ad 18, .inl (dA 0, 6, .inl b_words)), (ad 22, .inl (dA 0, 2880, .inl b_stand)), (ad 23, .inl (dA 0, 43200, .inl b_then)), (ad 24, .inl (dA 0, 2880, .inl b_far)), (ad 25, .inl (dA 2, 2880, .inl b_known))] H := hP
  have hD : va_D A [zr_o ad (0 : Int32) f_taped f_at f_behind f_size f_kind f_number f_wrong f_wrongAt f_faultKind f_faultPlace f_reading f_toldWhy f_x f_standMany f_bestMany f_tail f_round1, (ad 2, .inl (dA 0, 2982, .inl b_all)), (ad 17, .inl (dA 0, 900, .inl b_reckoned)), (ad 18, .inl (dA 0, 6, .inl b_words)), (ad 22, .inl (dA 0, 2880, .inl b_stand)), (ad 23, .inl (dA 0, 43200, .inl b_then)), (ad 24, .inl (dA 0, 2880, .inl b_far)), (ad 25, .inl (dA 2, 2880, .inl b_known))] := hD
  refine lv_aload_n (pc := 5) hx hb dX11_way_5 rfl (lv_at hl 0 rfl) ?_
  refine lv_iload_n (pc := 6) hx hb dX11_way_6 rfl (lv_at hl 1 rfl) ?_
  refine lv_iload_n (pc := 7) hx hb dX11_way_7 rfl (lv_at hl 2 rfl) ?_
  obtain ⟨v1, hv1, hf⟩ := zc_1 hf
  refine zw_Vi (pc := 8) (wc := [zr_o ad (0 : Int32) f_taped f_at f_behind f_size f_kind f_number f_wrong f_wrongAt f_faultKind f_faultPlace f_reading f_toldWhy f_x f_standMany f_bestMany f_tail f_round1, (ad 2, .inl (dA 0, 2982, .inl b_all))]) (wr := [(ad 17, .inl (dA 0, 900, .inl b_reckoned)), (ad 18, .inl (dA 0, 6, .inl b_words)), (ad 22, .inl (dA 0, 2880, .inl b_stand)), (ad 23, .inl (dA 0, 43200, .inl b_then)), (ad 24, .inl (dA 0, 2880, .inl b_far)), (ad 25, .inl (dA 2, 2880, .inl b_known))]) (w1 := [zr_o ad (0 : Int32) f_taped f_at f_behind f_size f_kind f_number f_wrong f_wrongAt f_faultKind f_faultPlace f_reading f_toldWhy f_x f_standMany f_bestMany f_tail f_round1, (ad 2, .inl (dA 0, 2982, .inl b_all))]) (As := [.int p1, .int p2]) (rest := []) ⟨hx, hb, hml, hown, ht⟩ (zt_X11_noComing l dC dI dA ad _ (0 : Int32) f_taped f_at f_behind f_size f_kind f_number f_wrong f_wrongAt f_faultKind f_faultPlace f_reading f_toldWhy f_x f_standMany f_bestMany f_tail f_round1 b_all p1 p2 v1 hv1) (cwV 2 ht (zr_V zr_370 zr_371 zr_372 zr_36 zr_363) rfl rfl rfl zk_X11_noComing ⟨Nat.le_of_ble_eq_true rfl, Nat.le_of_ble_eq_true rfl⟩) rfl rfl hK hP hD hS hA [0, 1] [2, 3, 4, 5, 6, 7] (by decide) (by decide) (by decide) rfl rfl rfl hl.1 (Nat.le_of_ble_eq_true rfl) dX11_way_8 ⟨Nat.zero_le _, Nat.zero_le _⟩ rfl (fun H locs hP hD hS => ?_)
  have hP : va_P (dC, dI) zz_cls [(ad 17, .inl (dA 0, 900, .inl b_reckoned)), (ad 18, .inl (dA 0, 6, .inl b_words)), (ad 22, .inl (dA 0, 2880, .inl b_stand)), (ad 23, .inl (dA 0, 43200, .inl b_then)), (ad 24, .inl (dA 0, 2880, .inl b_far)), (ad 25, .inl (dA 2, 2880, .inl b_known)), zr_o ad (0 : Int32) f_taped f_at f_behind f_size f_kind f_number f_wrong f_wrongAt f_faultKind f_faultPlace f_reading f_toldWhy f_x f_standMany f_bestMany f_tail f_round1, (ad 2, .inl (dA 0, 2982, .inl b_all))] H := hP
  have hD : va_D A [(ad 17, .inl (dA 0, 900, .inl b_reckoned)), (ad 18, .inl (dA 0, 6, .inl b_words)), (ad 22, .inl (dA 0, 2880, .inl b_stand)), (ad 23, .inl (dA 0, 43200, .inl b_then)), (ad 24, .inl (dA 0, 2880, .inl b_far)), (ad 25, .inl (dA 2, 2880, .inl b_known)), zr_o ad (0 : Int32) f_taped f_at f_behind f_size f_kind f_number f_wrong f_wrongAt f_faultKind f_faultPlace f_reading f_toldWhy f_x f_standMany f_bestMany f_tail f_round1, (ad 2, .inl (dA 0, 2982, .inl b_all))] := hD
  refine lv_istore (lv' := [(4, .int v1), (0, .ref (ad 0)), (1, .int p1), (2, .int p2), (3, .int p3)]) (pc := 11) hx hb dX11_way_11 hl (by decide) rfl (fun ls hl => ?_)
  refine lv_iload (pc := 13) hx hb dX11_way_13 (lv_at hl 0 rfl) ?_
  refine lv_if_eq (tgt := 21) (pc := 15) hx hb dX11_way_15 rfl (fun hc => ?_) (fun hc => ?_)
  · have hf := za_t hf hc
    refine lv_iload_n (pc := 21) hx hb dX11_way_21 rfl (lv_at hl 4 rfl) ?_
    refine lv_if_ge (tgt := 28) (pc := 22) hx hb dX11_way_22 rfl (fun hc => ?_) (fun hc => ?_)
    · have hf := za_t hf hc
      refine lv_aload_n (pc := 28) hx hb dX11_way_28 rfl (lv_at hl 1 rfl) ?_
      refine lv_iload_n (pc := 29) hx hb dX11_way_29 rfl (lv_at hl 2 rfl) ?_
      refine lv_iload_n (pc := 30) hx hb dX11_way_30 rfl (lv_at hl 3 rfl) ?_
      obtain ⟨v2, v3, a4, a5, a6, a7, a8, a9, hv2, hf⟩ := zc_8 hf
      refine zw_Vi (pc := 31) (wc := [zr_o ad (0 : Int32) f_taped f_at f_behind f_size f_kind f_number f_wrong f_wrongAt f_faultKind f_faultPlace f_reading f_toldWhy f_x f_standMany f_bestMany f_tail f_round1, (ad 2, .inl (dA 0, 2982, .inl b_all)), (ad 17, .inl (dA 0, 900, .inl b_reckoned)), (ad 18, .inl (dA 0, 6, .inl b_words)), (ad 22, .inl (dA 0, 2880, .inl b_stand)), (ad 23, .inl (dA 0, 43200, .inl b_then)), (ad 24, .inl (dA 0, 2880, .inl b_far)), (ad 25, .inl (dA 2, 2880, .inl b_known))]) (wr := []) (w1 := [zr_o ad (0 : Int32) f_taped f_at f_behind f_size f_kind f_number f_wrong f_wrongAt f_faultKind f_faultPlace f_reading f_toldWhy f_x v3 f_bestMany f_tail f_round1, (ad 2, .inl (dA 0, 2982, .inl b_all)), (ad 17, .inl (dA 0, 900, .inl a4)), (ad 18, .inl (dA 0, 6, .inl a5)), (ad 22, .inl (dA 0, 2880, .inl a6)), (ad 23, .inl (dA 0, 43200, .inl a7)), (ad 24, .inl (dA 0, 2880, .inl a8)), (ad 25, .inl (dA 2, 2880, .inl a9))]) (As := [.int p1, .int p2]) (rest := []) ⟨hx, hb, hml, hown, ht⟩ (zt_X11_laysFar l dC dI dA ad _ n (0 : Int32) f_taped f_at f_behind f_size f_kind f_number f_wrong f_wrongAt f_faultKind f_faultPlace f_reading f_toldWhy f_x f_standMany f_bestMany f_tail f_round1 b_all b_reckoned b_words b_stand b_then b_far b_known p1 p2 v2 v3 a4 a5 a6 a7 a8 a9 hv2) (cwV 2 ht (zr_V zr_373 zr_374 zr_375 zr_36 zr_362) rfl rfl rfl zk_X11_laysFar ⟨Nat.le_of_ble_eq_true rfl, Nat.le_of_ble_eq_true rfl⟩) rfl rfl hK hP hD hS hA [6, 7, 0, 1, 2, 3, 4, 5] [] (by decide) (by decide) (by decide) rfl rfl rfl hl.1 (Nat.le_of_ble_eq_true rfl) dX11_way_31 ⟨Nat.zero_le _, Nat.zero_le _⟩ rfl (fun H locs hP hD hS => ?_)
      have hP : va_P (dC, dI) zz_cls [zr_o ad (0 : Int32) f_taped f_at f_behind f_size f_kind f_number f_wrong f_wrongAt f_faultKind f_faultPlace f_reading f_toldWhy f_x v3 f_bestMany f_tail f_round1, (ad 2, .inl (dA 0, 2982, .inl b_all)), (ad 17, .inl (dA 0, 900, .inl a4)), (ad 18, .inl (dA 0, 6, .inl a5)), (ad 22, .inl (dA 0, 2880, .inl a6)), (ad 23, .inl (dA 0, 43200, .inl a7)), (ad 24, .inl (dA 0, 2880, .inl a8)), (ad 25, .inl (dA 2, 2880, .inl a9))] H := hP
      have hD : va_D A [zr_o ad (0 : Int32) f_taped f_at f_behind f_size f_kind f_number f_wrong f_wrongAt f_faultKind f_faultPlace f_reading f_toldWhy f_x v3 f_bestMany f_tail f_round1, (ad 2, .inl (dA 0, 2982, .inl b_all)), (ad 17, .inl (dA 0, 900, .inl a4)), (ad 18, .inl (dA 0, 6, .inl a5)), (ad 22, .inl (dA 0, 2880, .inl a6)), (ad 23, .inl (dA 0, 43200, .inl a7)), (ad 24, .inl (dA 0, 2880, .inl a8)), (ad 25, .inl (dA 2, 2880, .inl a9))] := hD
      refine lv_pop (pc := 34) hx hb dX11_way_34 rfl ?_
      refine lv_aload_n (pc := 35) hx hb dX11_way_35 rfl (lv_at hl 1 rfl) ?_
      refine lv_iload_n (pc := 36) hx hb dX11_way_36 rfl (lv_at hl 4 rfl) ?_
      obtain ⟨v10, hv10, hf⟩ := zc_1 hf
      refine zw_Vi (pc := 37) (wc := [zr_o ad (0 : Int32) f_taped f_at f_behind f_size f_kind f_number f_wrong f_wrongAt f_faultKind f_faultPlace f_reading f_toldWhy f_x v3 f_bestMany f_tail f_round1, (ad 2, .inl (dA 0, 2982, .inl b_all)), (ad 23, .inl (dA 0, 43200, .inl a7)), (ad 24, .inl (dA 0, 2880, .inl a8))]) (wr := [(ad 17, .inl (dA 0, 900, .inl a4)), (ad 18, .inl (dA 0, 6, .inl a5)), (ad 22, .inl (dA 0, 2880, .inl a6)), (ad 25, .inl (dA 2, 2880, .inl a9))]) (w1 := [zr_o ad (0 : Int32) f_taped f_at f_behind f_size f_kind f_number f_wrong f_wrongAt f_faultKind f_faultPlace f_reading f_toldWhy f_x v3 f_bestMany f_tail f_round1, (ad 2, .inl (dA 0, 2982, .inl b_all)), (ad 23, .inl (dA 0, 43200, .inl a7)), (ad 24, .inl (dA 0, 2880, .inl a8))]) (As := [.int p3]) (rest := []) ⟨hx, hb, hml, hown, ht⟩ (zt_X11_deedAt l dC dI dA ad _ n (0 : Int32) f_taped f_at f_behind f_size f_kind f_number f_wrong f_wrongAt f_faultKind f_faultPlace f_reading f_toldWhy f_x v3 f_bestMany f_tail f_round1 b_all a7 a8 p3 v10 hv10) (cwV 1 ht (zr_V zr_377 zr_378 zr_379 zr_36 zr_367) rfl rfl rfl zk_X11_deedAt ⟨Nat.le_of_ble_eq_true rfl, Nat.le_of_ble_eq_true rfl⟩) rfl rfl hK hP hD hS hA [0, 1, 5, 6] [2, 3, 4, 7] (by decide) (by decide) (by decide) rfl rfl rfl hl.1 (Nat.le_of_ble_eq_true rfl) dX11_way_37 ⟨Nat.zero_le _, Nat.zero_le _⟩ rfl (fun H locs hP hD hS => ?_)
      have hP : va_P (dC, dI) zz_cls [(ad 17, .inl (dA 0, 900, .inl a4)), (ad 18, .inl (dA 0, 6, .inl a5)), (ad 22, .inl (dA 0, 2880, .inl a6)), (ad 25, .inl (dA 2, 2880, .inl a9)), zr_o ad (0 : Int32) f_taped f_at f_behind f_size f_kind f_number f_wrong f_wrongAt f_faultKind f_faultPlace f_reading f_toldWhy f_x v3 f_bestMany f_tail f_round1, (ad 2, .inl (dA 0, 2982, .inl b_all)), (ad 23, .inl (dA 0, 43200, .inl a7)), (ad 24, .inl (dA 0, 2880, .inl a8))] H := hP
      have hD : va_D A [(ad 17, .inl (dA 0, 900, .inl a4)), (ad 18, .inl (dA 0, 6, .inl a5)), (ad 22, .inl (dA 0, 2880, .inl a6)), (ad 25, .inl (dA 2, 2880, .inl a9)), zr_o ad (0 : Int32) f_taped f_at f_behind f_size f_kind f_number f_wrong f_wrongAt f_faultKind f_faultPlace f_reading f_toldWhy f_x v3 f_bestMany f_tail f_round1, (ad 2, .inl (dA 0, 2982, .inl b_all)), (ad 23, .inl (dA 0, 43200, .inl a7)), (ad 24, .inl (dA 0, 2880, .inl a8))] := hD
      obtain ⟨rfl, rfl, rfl, rfl, rfl, rfl, rfl, rfl, rfl⟩ := zi_9 hf
      exact W.iret (pc := 40) hx hb hr (fun t ht hW => ⟨⟨_, (), rfl, rfl, zz_Bi (by rw [ht]; exact hP.sub [4, 5, 0, 1, 2, 6, 7, 3] rfl) (va_K.moved hW.alike hK) (hD.sub [4, 5, 0, 1, 2, 6, 7, 3] (by decide) rfl)⟩, hS.F ht⟩) hS.2.2 dX11_way_40
    · have hf := za_f hf hc
      refine lv_bipush (v := (-3 : Int32)) (pc := 25) hx hb dX11_way_25 (by decide) ?_
      obtain ⟨rfl, rfl, rfl, rfl, rfl, rfl, rfl, rfl, rfl⟩ := zi_9 hf
      exact W.iret (pc := 27) hx hb hr (fun t ht hW => ⟨⟨_, (), rfl, rfl, zz_Bi (by rw [ht]; exact hP.sub [6, 7, 0, 1, 2, 3, 4, 5] rfl) (va_K.moved hW.alike hK) (hD.sub [6, 7, 0, 1, 2, 3, 4, 5] (by decide) rfl)⟩, hS.F ht⟩) hS.2.2 dX11_way_27
  · have hf := za_f hf hc
    refine lv_iload (pc := 18) hx hb dX11_way_18 (lv_at hl 0 rfl) ?_
    obtain ⟨rfl, rfl, rfl, rfl, rfl, rfl, rfl, rfl, rfl⟩ := zi_9 hf
    exact W.iret (pc := 20) hx hb hr (fun t ht hW => ⟨⟨_, (), rfl, rfl, zz_Bi (by rw [ht]; exact hP.sub [6, 7, 0, 1, 2, 3, 4, 5] rfl) (va_K.moved hW.alike hK) (hD.sub [6, 7, 0, 1, 2, 3, 4, 5] (by decide) rfl)⟩, hS.F ht⟩) hS.2.2 dX11_way_20

def zb_X11_rows_46 (v3 : Int32) (a6 : (Nat → Int32)) (v9 : Int32) (a10 : (Nat → Int64)) (a11 : (Nat → Int64)) : Option (Nat × Int32 × (Nat → Int64) × (Nat → Int64)) :=
  if v3 ≤ v9 then
    some (1, v9, a10, a11)
  else
    zd_1 (za_ld a6 2880 v9) (fun v12 =>
    zd_1 (
      if v9 = 0 then
        some (1 : Int64)
      else
        some (0 : Int64)) (fun v13 =>
    zd_1 (za_st a10 2880 v12 v13) (fun a14 =>
    zd_1 (za_ld a6 2880 v9) (fun v15 =>
    zd_1 (za_st a11 2880 v15 (0 : Int64)) (fun a16 =>
    zd_1 (some (v9 + (1 : Int32))) (fun v17 =>
    some (0, v17, a14, a16)))))))
def zb_X11_rows_129 (a23 : (Nat → Int64)) (v27 : Int32) (a7 : (Nat → Int32)) (v28 : Int32) (a29 : (Nat → Int64)) : Option (Nat × Int32 × (Nat → Int64)) :=
  if (15 : Int32) ≤ v28 then
    some (1, v28, a29)
  else
    zd_1 (za_ld a23 2880 v27) (fun v30 =>
    if (lg_cmp v30 (0 : Int64)) ≤ 0 then
      some (1, v28, a29)
    else
      zd_1 (za_ld a7 43200 (((15 : Int32) * v27) + v28)) (fun v31 =>
      zd_1 (
        if v31 = (-1 : Int32) then
          some a29
        else
          zd_1 (za_ld a7 43200 (((15 : Int32) * v27) + v28)) (fun v32 =>
          zd_1 (za_ld a29 2880 v32) (fun v33 =>
          zd_1 (za_ld a23 2880 v27) (fun v34 =>
          zd_1 (za_st a29 2880 v32 (v33 + v34)) (fun a35 =>
          some a35))))) (fun a36 =>
      zd_1 (some (v28 + (1 : Int32))) (fun v37 =>
      some (0, v37, a36)))))
def zb_X11_rows_108 (v3 : Int32) (a6 : (Nat → Int32)) (a23 : (Nat → Int64)) (a7 : (Nat → Int32)) (n : Nat) (v25 : Int32) (a26 : (Nat → Int64)) : Option (Nat × Int32 × (Nat → Int64)) :=
  if v3 ≤ v25 then
    some (1, v25, a26)
  else
    zd_1 (za_ld a6 2880 v25) (fun v27 =>
    zd_3 (za_it (fun v => zb_X11_rows_129 a23 v27 a7 v.1 v.2) n ((0 : Int32), a26)) (fun g40 v38 a39 =>
    zd_1 (some (v25 + (1 : Int32))) (fun v41 =>
    some (0, v41, a39))))
def zb_X11_rows_208 (v3 : Int32) (a6 : (Nat → Int32)) (v45 : Int32) (a46 : (Nat → Int64)) (a47 : (Nat → Int64)) : Option (Nat × Int32 × (Nat → Int64) × (Nat → Int64)) :=
  if v3 ≤ v45 then
    some (1, v45, a46, a47)
  else
    zd_1 (za_ld a6 2880 v45) (fun v48 =>
    zd_1 (za_ld a6 2880 v45) (fun v49 =>
    zd_1 (za_ld a47 2880 v49) (fun v50 =>
    zd_1 (za_st a46 2880 v48 v50) (fun a51 =>
    zd_1 (za_ld a6 2880 v45) (fun v52 =>
    zd_1 (za_st a47 2880 v52 (0 : Int64)) (fun a53 =>
    zd_1 (some (v45 + (1 : Int32))) (fun v54 =>
    some (0, v54, a51, a53))))))))
def zb_X11_rows_99 (p3 : Int32) (v3 : Int32) (a6 : (Nat → Int32)) (a7 : (Nat → Int32)) (n : Nat) (v22 : Int32) (a23 : (Nat → Int64)) (a24 : (Nat → Int64)) : Option (Nat × Int32 × (Nat → Int64) × (Nat → Int64)) :=
  if p3 ≤ v22 then
    some (1, v22, a23, a24)
  else
    zd_3 (za_it (fun v => zb_X11_rows_108 v3 a6 a23 a7 n v.1 v.2) n ((0 : Int32), a24)) (fun g44 v42 a43 =>
    zd_4 (za_it (fun v => zb_X11_rows_208 v3 a6 v.1 v.2.1 v.2.2) n ((0 : Int32), a23, a43)) (fun g58 v55 a56 a57 =>
    zd_1 (some (v22 + (1 : Int32))) (fun v59 =>
    some (0, v59, a56, a57))))
def zb_X11_rows_272 (v3 : Int32) (a6 : (Nat → Int32)) (p1 : Int32) (p2 : Int32) (a61 : (Nat → Int64)) (v64 : Int64) (v65 : Int32) : Option (Nat × Int64 × Int32) :=
  if v3 ≤ v65 then
    some (1, v64, v65)
  else
    zd_1 (za_ld a6 2880 v65) (fun v66 =>
    zd_1 (zf_X11_isGoal v66 p1 p2) (fun v67 =>
    zd_1 (
      if v67 = 0 then
        some (0 : Int64)
      else
        zd_1 (za_ld a6 2880 v65) (fun v68 =>
        zd_1 (za_ld a61 2880 v68) (fun v69 =>
        some v69))) (fun v70 =>
    zd_1 (some ((v64 + v70))) (fun v71 =>
    zd_1 (some (v65 + (1 : Int32))) (fun v72 =>
    some (0, v71, v72))))))
def zf_X11_rows (n : Nat) (f_thrown : Int32) (f_standMany : Int32) (b_all : (Nat → Int32)) (b_reckoned : (Nat → Int32)) (b_words : (Nat → Int32)) (b_stand : (Nat → Int32)) (b_then : (Nat → Int32)) (b_known : (Nat → Int32)) (b_many : (Nat → Int64)) (b_manyThen : (Nat → Int64)) (p1 : Int32) (p2 : Int32) (p3 : Int32) : Option (Int64 × Int32 × Int32 × (Nat → Int32) × (Nat → Int32) × (Nat → Int32) × (Nat → Int32) × (Nat → Int32) × (Nat → Int64) × (Nat → Int64)) :=
  zd_1 (zf_X11_noComing b_all p1 p2) (fun v1 =>
  if v1 = 0 then
    zd_1 (zf_X11_within (Int32.toInt64 p3) (0 : Int64) (10 : Int64)) (fun v2 =>
    if v2 = 0 then
      some ((-3 : Int64), (0 : Int32), f_standMany, b_reckoned, b_words, b_stand, b_then, b_known, b_many, b_manyThen)
    else
      zd_6 (zf_X11_laysStands n f_standMany b_all b_reckoned b_words b_stand b_then b_known (0 : Int32)) (fun v3 a4 a5 a6 a7 a8 =>
      zd_4 (za_it (fun v => zb_X11_rows_46 v3 a6 v.1 v.2.1 v.2.2) n ((0 : Int32), b_many, b_manyThen)) (fun g21 v18 a19 a20 =>
      zd_4 (za_it (fun v => zb_X11_rows_99 p3 v3 a6 a7 n v.1 v.2.1 v.2.2) n ((0 : Int32), a19, a20)) (fun g63 v60 a61 a62 =>
      zd_3 (za_it (fun v => zb_X11_rows_272 v3 a6 p1 p2 a61 v.1 v.2) n ((0 : Int64), (0 : Int32))) (fun g75 v73 v74 =>
      some (v73, (0 : Int32), v3, a4, a5, a6, a7, a8, a61, a62))))))
  else
    some ((Int32.toInt64 v1), (0 : Int32), f_standMany, b_reckoned, b_words, b_stand, b_then, b_known, b_many, b_manyThen))
theorem zk_X11_rows : yX11_rows.cls = RX11 ∧ yX11_rows.cls ≠ "java/lang/invoke/MethodHandle" ∧ yX11_rows.cls ≠ "java/lang/invoke/VarHandle" ∧ (parseMethodDescriptor yX11_rows.desc).map (fun d => d.parameters.length) = some 3 := by decide +kernel
set_option maxHeartbeats 4000000 in
set_option maxRecDepth 100000 in
theorem zt_X11_rows (l : Launch) (dC : Nat → ClassId) (dI : Nat → Nat → Nat) (dA : Nat → ClassId) (ad : Nat → Nat) (sz : Nat) (n : Nat) (f_thrown f_taped f_at f_behind f_size f_kind f_number f_wrong f_wrongAt f_faultKind f_faultPlace f_reading f_toldWhy f_x f_standMany f_bestMany f_tail f_round1 : Int32) (b_all : (Nat → Int32)) (b_reckoned : (Nat → Int32)) (b_words : (Nat → Int32)) (b_stand : (Nat → Int32)) (b_then : (Nat → Int32)) (b_known : (Nat → Int32)) (b_many : (Nat → Int64)) (b_manyThen : (Nat → Int64)) (p1 : Int32) (p2 : Int32) (p3 : Int32) (r0 : Int64) (o1 : Int32) (o2 : Int32) (o3 : (Nat → Int32)) (o4 : (Nat → Int32)) (o5 : (Nat → Int32)) (o6 : (Nat → Int32)) (o7 : (Nat → Int32)) (o8 : (Nat → Int64)) (o9 : (Nat → Int64)) (hf : zf_X11_rows n f_thrown f_standMany b_all b_reckoned b_words b_stand b_then b_known b_many b_manyThen p1 p2 p3 = some (r0, o1, o2, o3, o4, o5, o6, o7, o8, o9)) : Met l yX11_rows (.code yX11_rows cX11_rows 9 (some .long) :: zr_T) ({ frames := 5, cells := 0, slots := 0, locals := 123 }) (va_Pc [.ref (ad 0), .int p1, .int p2, .int p3] (zz_M dC dI dA [zr_o ad f_thrown f_taped f_at f_behind f_size f_kind f_number f_wrong f_wrongAt f_faultKind f_faultPlace f_reading f_toldWhy f_x f_standMany f_bestMany f_tail f_round1, (ad 2, .inl (dA 0, 2982, .inl b_all)), (ad 17, .inl (dA 0, 900, .inl b_reckoned)), (ad 18, .inl (dA 0, 6, .inl b_words)), (ad 22, .inl (dA 0, 2880, .inl b_stand)), (ad 23, .inl (dA 0, 43200, .inl b_then)), (ad 25, .inl (dA 2, 2880, .inl b_known)), (ad 27, .inl (dA 1, 2880, .inr (.inl b_many))), (ad 28, .inl (dA 1, 2880, .inr (.inl b_manyThen)))] sz)) (va_Ql (fun (r : Int64) (_ : Unit) => r = r0) (fun _ t => zz_B dC dI dA (va_A [zr_o ad f_thrown f_taped f_at f_behind f_size f_kind f_number f_wrong f_wrongAt f_faultKind f_faultPlace f_reading f_toldWhy f_x f_standMany f_bestMany f_tail f_round1, (ad 2, .inl (dA 0, 2982, .inl b_all)), (ad 17, .inl (dA 0, 900, .inl b_reckoned)), (ad 18, .inl (dA 0, 6, .inl b_words)), (ad 22, .inl (dA 0, 2880, .inl b_stand)), (ad 23, .inl (dA 0, 43200, .inl b_then)), (ad 25, .inl (dA 2, 2880, .inl b_known)), (ad 27, .inl (dA 1, 2880, .inr (.inl b_many))), (ad 28, .inl (dA 1, 2880, .inr (.inl b_manyThen)))] sz) [zr_o ad o1 f_taped f_at f_behind f_size f_kind f_number f_wrong f_wrongAt f_faultKind f_faultPlace f_reading f_toldWhy f_x o2 f_bestMany f_tail f_round1, (ad 2, .inl (dA 0, 2982, .inl b_all)), (ad 17, .inl (dA 0, 900, .inl o3)), (ad 18, .inl (dA 0, 6, .inl o4)), (ad 22, .inl (dA 0, 2880, .inl o5)), (ad 23, .inl (dA 0, 43200, .inl o6)), (ad 25, .inl (dA 2, 2880, .inl o7)), (ad 27, .inl (dA 1, 2880, .inr (.inl o8))), (ad 28, .inl (dA 1, 2880, .inr (.inl o9)))] t) (va_A [zr_o ad f_thrown f_taped f_at f_behind f_size f_kind f_number f_wrong f_wrongAt f_faultKind f_faultPlace f_reading f_toldWhy f_x f_standMany f_bestMany f_tail f_round1, (ad 2, .inl (dA 0, 2982, .inl b_all)), (ad 17, .inl (dA 0, 900, .inl b_reckoned)), (ad 18, .inl (dA 0, 6, .inl b_words)), (ad 22, .inl (dA 0, 2880, .inl b_stand)), (ad 23, .inl (dA 0, 43200, .inl b_then)), (ad 25, .inl (dA 2, 2880, .inl b_known)), (ad 27, .inl (dA 1, 2880, .inr (.inl b_many))), (ad 28, .inl (dA 1, 2880, .inr (.inl b_manyThen)))] sz)) 0 0 (va_A [zr_o ad f_thrown f_taped f_at f_behind f_size f_kind f_number f_wrong f_wrongAt f_faultKind f_faultPlace f_reading f_toldWhy f_x f_standMany f_bestMany f_tail f_round1, (ad 2, .inl (dA 0, 2982, .inl b_all)), (ad 17, .inl (dA 0, 900, .inl b_reckoned)), (ad 18, .inl (dA 0, 6, .inl b_words)), (ad 22, .inl (dA 0, 2880, .inl b_stand)), (ad 23, .inl (dA 0, 43200, .inl b_then)), (ad 25, .inl (dA 2, 2880, .inl b_known)), (ad 27, .inl (dA 1, 2880, .inr (.inl b_many))), (ad 28, .inl (dA 1, 2880, .inr (.inl b_manyThen)))] sz) := by
  unfold zf_X11_rows at hf
  refine Met.ofW (cc := cX11_rows) (maxL := 9) (ret := (some .long)) (by decide) rfl ?_
  intro p e s m args below meth c s₁ B hml hv
  obtain ⟨rfl, hsz, hP, hK, hD0⟩ := hv
  have hx := B.exec
  have hb := B.bytes
  have hr := B.returns
  have ht : ∀ w ∈ zr_T, w.before ([.ref (ad 0), .int p1, .int p2, .int p3] : List Value).toArray s = true := fun w hw => atoms_spec (ws := .code yX11_rows cX11_rows 9 (some .long) :: zr_T) B.pre w (List.mem_cons_of_mem _ hw)
  have hown : s.vm.findClass RX11 = some m.cls := findClass_of_methodNamed B.named
  have hlocks := B.notSynchronized
  subst hsz
  have hD := hD0.self (sz := s.heap.size)
  generalize hAe : va_A [zr_o ad f_thrown f_taped f_at f_behind f_size f_kind f_number f_wrong f_wrongAt f_faultKind f_faultPlace f_reading f_toldWhy f_x f_standMany f_bestMany f_tail f_round1, (ad 2, .inl (dA 0, 2982, .inl b_all)), (ad 17, .inl (dA 0, 900, .inl b_reckoned)), (ad 18, .inl (dA 0, 6, .inl b_words)), (ad 22, .inl (dA 0, 2880, .inl b_stand)), (ad 23, .inl (dA 0, 43200, .inl b_then)), (ad 25, .inl (dA 2, 2880, .inl b_known)), (ad 27, .inl (dA 1, 2880, .inr (.inl b_many))), (ad 28, .inl (dA 1, 2880, .inr (.inl b_manyThen)))] s.heap.size = A at hD ⊢
  have hA : ∀ q : Nat, s.heap.size ≤ q → A q := fun q h => by rw [← hAe]; exact Or.inr h
  clear hAe hD0
  have hS : va_S A s.heap s.heap [] := va_S.rf
  have hl := lv_entry ([.ref (ad 0), .int p1, .int p2, .int p3]) (n := 9) (Nat.le_of_ble_eq_true rfl)
  rw [lg_entry_eq]
  generalize (lg_sl ([.ref (ad 0), .int p1, .int p2, .int p3]) ++ List.replicate (9 - (lg_sl ([.ref (ad 0), .int p1, .int p2, .int p3])).length) Slot.unset).toArray = ls at hl ⊢
  have hl : lv_has ls 9 [(0, .ref (ad 0)), (1, .int p1), (2, .int p2), (3, .int p3)] := hl
  refine lv_aload_n (pc := 0) hx hb dX11_rows_0 rfl (lv_at hl 0 rfl) ?_
  refine lv_iconst (v := (0 : Int32)) (pc := 1) hx hb dX11_rows_1 (by decide) ?_
  refine va_put (pc := 2) (D := (dC, dI)) (ci := 0) (v := .int (0 : Int32)) (ty := .int) (C := RX11) (T := TX11) (N := 42) hx hb ht zr_lay tyX11 tyX11_ok nmX11 hown hK hP hD hS 0 rfl rfl 0 (by decide) (ht _ zr_39) (fun _ h9 => h9) rfl (by decide +kernel) rfl rfl (Nat.le_of_ble_eq_true rfl) dX11_rows_2 (fun H locs hP hD hS => ?_)
  have hP : va_P (dC, dI) zz_cls [zr_o ad (0 : Int32) f_taped f_at f_behind f_size f_kind f_number f_wrong f_wrongAt f_faultKind f_faultPlace f_reading f_toldWhy f_x f_standMany f_bestMany f_tail f_round1, (ad 2, .inl (dA 0, 2982, .inl b_all)), (ad 17, .inl (dA 0, 900, .inl b_reckoned)), (ad 18, .inl (dA 0, 6, .inl b_words)), (ad 22, .inl (dA 0, 2880, .inl b_stand)), (ad 23, .inl (dA 0, 43200, .inl b_then)), (ad 25, .inl (dA 2, 2880, .inl b_known)), (ad 27, .inl (dA 1, 2880, .inr (.inl b_many))), (ad 28, .inl (dA 1, 2880, .inr (.inl b_manyThen)))] H := hP
  have hD : va_D A [zr_o ad (0 : Int32) f_taped f_at f_behind f_size f_kind f_number f_wrong f_wrongAt f_faultKind f_faultPlace f_reading f_toldWhy f_x f_standMany f_bestMany f_tail f_round1, (ad 2, .inl (dA 0, 2982, .inl b_all)), (ad 17, .inl (dA 0, 900, .inl b_reckoned)), (ad 18, .inl (dA 0, 6, .inl b_words)), (ad 22, .inl (dA 0, 2880, .inl b_stand)), (ad 23, .inl (dA 0, 43200, .inl b_then)), (ad 25, .inl (dA 2, 2880, .inl b_known)), (ad 27, .inl (dA 1, 2880, .inr (.inl b_many))), (ad 28, .inl (dA 1, 2880, .inr (.inl b_manyThen)))] := hD
  refine lv_aload_n (pc := 5) hx hb dX11_rows_5 rfl (lv_at hl 0 rfl) ?_
  refine lv_iload_n (pc := 6) hx hb dX11_rows_6 rfl (lv_at hl 1 rfl) ?_
  refine lv_iload_n (pc := 7) hx hb dX11_rows_7 rfl (lv_at hl 2 rfl) ?_
  obtain ⟨v1, hv1, hf⟩ := zc_1 hf
  refine zw_Vi (pc := 8) (wc := [zr_o ad (0 : Int32) f_taped f_at f_behind f_size f_kind f_number f_wrong f_wrongAt f_faultKind f_faultPlace f_reading f_toldWhy f_x f_standMany f_bestMany f_tail f_round1, (ad 2, .inl (dA 0, 2982, .inl b_all))]) (wr := [(ad 17, .inl (dA 0, 900, .inl b_reckoned)), (ad 18, .inl (dA 0, 6, .inl b_words)), (ad 22, .inl (dA 0, 2880, .inl b_stand)), (ad 23, .inl (dA 0, 43200, .inl b_then)), (ad 25, .inl (dA 2, 2880, .inl b_known)), (ad 27, .inl (dA 1, 2880, .inr (.inl b_many))), (ad 28, .inl (dA 1, 2880, .inr (.inl b_manyThen)))]) (w1 := [zr_o ad (0 : Int32) f_taped f_at f_behind f_size f_kind f_number f_wrong f_wrongAt f_faultKind f_faultPlace f_reading f_toldWhy f_x f_standMany f_bestMany f_tail f_round1, (ad 2, .inl (dA 0, 2982, .inl b_all))]) (As := [.int p1, .int p2]) (rest := []) ⟨hx, hb, hml, hown, ht⟩ (zt_X11_noComing l dC dI dA ad _ (0 : Int32) f_taped f_at f_behind f_size f_kind f_number f_wrong f_wrongAt f_faultKind f_faultPlace f_reading f_toldWhy f_x f_standMany f_bestMany f_tail f_round1 b_all p1 p2 v1 hv1) (cwV 2 ht (zr_V zr_370 zr_371 zr_372 zr_36 zr_363) rfl rfl rfl zk_X11_noComing ⟨Nat.le_of_ble_eq_true rfl, Nat.le_of_ble_eq_true rfl⟩) rfl rfl hK hP hD hS hA [0, 1] [2, 3, 4, 5, 6, 7, 8] (by decide) (by decide) (by decide) rfl rfl rfl hl.1 (Nat.le_of_ble_eq_true rfl) dX11_rows_8 ⟨Nat.zero_le _, Nat.zero_le _⟩ rfl (fun H locs hP hD hS => ?_)
  have hP : va_P (dC, dI) zz_cls [(ad 17, .inl (dA 0, 900, .inl b_reckoned)), (ad 18, .inl (dA 0, 6, .inl b_words)), (ad 22, .inl (dA 0, 2880, .inl b_stand)), (ad 23, .inl (dA 0, 43200, .inl b_then)), (ad 25, .inl (dA 2, 2880, .inl b_known)), (ad 27, .inl (dA 1, 2880, .inr (.inl b_many))), (ad 28, .inl (dA 1, 2880, .inr (.inl b_manyThen))), zr_o ad (0 : Int32) f_taped f_at f_behind f_size f_kind f_number f_wrong f_wrongAt f_faultKind f_faultPlace f_reading f_toldWhy f_x f_standMany f_bestMany f_tail f_round1, (ad 2, .inl (dA 0, 2982, .inl b_all))] H := hP
  have hD : va_D A [(ad 17, .inl (dA 0, 900, .inl b_reckoned)), (ad 18, .inl (dA 0, 6, .inl b_words)), (ad 22, .inl (dA 0, 2880, .inl b_stand)), (ad 23, .inl (dA 0, 43200, .inl b_then)), (ad 25, .inl (dA 2, 2880, .inl b_known)), (ad 27, .inl (dA 1, 2880, .inr (.inl b_many))), (ad 28, .inl (dA 1, 2880, .inr (.inl b_manyThen))), zr_o ad (0 : Int32) f_taped f_at f_behind f_size f_kind f_number f_wrong f_wrongAt f_faultKind f_faultPlace f_reading f_toldWhy f_x f_standMany f_bestMany f_tail f_round1, (ad 2, .inl (dA 0, 2982, .inl b_all))] := hD
  refine lv_istore (lv' := [(4, .int v1), (0, .ref (ad 0)), (1, .int p1), (2, .int p2), (3, .int p3)]) (pc := 11) hx hb dX11_rows_11 hl (by decide) rfl (fun ls hl => ?_)
  refine lv_iload (pc := 13) hx hb dX11_rows_13 (lv_at hl 0 rfl) ?_
  refine lv_if_eq (tgt := 22) (pc := 15) hx hb dX11_rows_15 rfl (fun hc => ?_) (fun hc => ?_)
  · have hf := za_t hf hc
    refine lv_iload_n (pc := 22) hx hb dX11_rows_22 rfl (lv_at hl 4 rfl) ?_
    refine lv_i2l (pc := 23) hx hb dX11_rows_23 rfl ?_
    refine lv_lconst (v := (0 : Int64)) (pc := 24) hx hb dX11_rows_24 (by decide) ?_
    refine lv_ldc2 (v := (10 : Int64)) (pc := 25) hx hb hown (ht _ zr_232) dX11_rows_25 ?_
    obtain ⟨v2, hv2, hf⟩ := zc_1 hf
    refine zw_Si (pc := 28) (wc := []) (wr := [(ad 17, .inl (dA 0, 900, .inl b_reckoned)), (ad 18, .inl (dA 0, 6, .inl b_words)), (ad 22, .inl (dA 0, 2880, .inl b_stand)), (ad 23, .inl (dA 0, 43200, .inl b_then)), (ad 25, .inl (dA 2, 2880, .inl b_known)), (ad 27, .inl (dA 1, 2880, .inr (.inl b_many))), (ad 28, .inl (dA 1, 2880, .inr (.inl b_manyThen))), zr_o ad (0 : Int32) f_taped f_at f_behind f_size f_kind f_number f_wrong f_wrongAt f_faultKind f_faultPlace f_reading f_toldWhy f_x f_standMany f_bestMany f_tail f_round1, (ad 2, .inl (dA 0, 2982, .inl b_all))]) (w1 := []) (As := [.long (Int32.toInt64 p3), .long (0 : Int64), .long (10 : Int64)]) (rest := []) ⟨hx, hb, hml, hown, ht⟩ (zt_X11_within l dC dI dA ad _ (Int32.toInt64 p3) (0 : Int64) (10 : Int64) v2 hv2) (cwS 3 ht (zr_S zr_124 zr_125 zr_36 zr_0) rfl rfl rfl zk_X11_within ⟨Nat.le_of_ble_eq_true rfl, Nat.le_of_ble_eq_true rfl⟩) hK hP hD hS hA [] [0, 1, 2, 3, 4, 5, 6, 7, 8] (by decide) (by decide) (by decide) rfl rfl rfl hl.1 (Nat.le_of_ble_eq_true rfl) dX11_rows_28 ⟨Nat.zero_le _, Nat.zero_le _⟩ rfl (fun H locs hP hD hS => ?_)
    have hP : va_P (dC, dI) zz_cls [(ad 17, .inl (dA 0, 900, .inl b_reckoned)), (ad 18, .inl (dA 0, 6, .inl b_words)), (ad 22, .inl (dA 0, 2880, .inl b_stand)), (ad 23, .inl (dA 0, 43200, .inl b_then)), (ad 25, .inl (dA 2, 2880, .inl b_known)), (ad 27, .inl (dA 1, 2880, .inr (.inl b_many))), (ad 28, .inl (dA 1, 2880, .inr (.inl b_manyThen))), zr_o ad (0 : Int32) f_taped f_at f_behind f_size f_kind f_number f_wrong f_wrongAt f_faultKind f_faultPlace f_reading f_toldWhy f_x f_standMany f_bestMany f_tail f_round1, (ad 2, .inl (dA 0, 2982, .inl b_all))] H := hP
    have hD : va_D A [(ad 17, .inl (dA 0, 900, .inl b_reckoned)), (ad 18, .inl (dA 0, 6, .inl b_words)), (ad 22, .inl (dA 0, 2880, .inl b_stand)), (ad 23, .inl (dA 0, 43200, .inl b_then)), (ad 25, .inl (dA 2, 2880, .inl b_known)), (ad 27, .inl (dA 1, 2880, .inr (.inl b_many))), (ad 28, .inl (dA 1, 2880, .inr (.inl b_manyThen))), zr_o ad (0 : Int32) f_taped f_at f_behind f_size f_kind f_number f_wrong f_wrongAt f_faultKind f_faultPlace f_reading f_toldWhy f_x f_standMany f_bestMany f_tail f_round1, (ad 2, .inl (dA 0, 2982, .inl b_all))] := hD
    refine lv_if_ne (tgt := 38) (pc := 31) hx hb dX11_rows_31 rfl (fun hc => ?_) (fun hc => ?_)
    · have hf := za_f hf hc
      refine lv_aload_n (pc := 38) hx hb dX11_rows_38 rfl (lv_at hl 1 rfl) ?_
      refine lv_iconst (v := (0 : Int32)) (pc := 39) hx hb dX11_rows_39 (by decide) ?_
      obtain ⟨v3, a4, a5, a6, a7, a8, hv3, hf⟩ := zc_6 hf
      refine zw_Vv (pc := 40) (wc := [zr_o ad (0 : Int32) f_taped f_at f_behind f_size f_kind f_number f_wrong f_wrongAt f_faultKind f_faultPlace f_reading f_toldWhy f_x f_standMany f_bestMany f_tail f_round1, (ad 2, .inl (dA 0, 2982, .inl b_all)), (ad 17, .inl (dA 0, 900, .inl b_reckoned)), (ad 18, .inl (dA 0, 6, .inl b_words)), (ad 22, .inl (dA 0, 2880, .inl b_stand)), (ad 23, .inl (dA 0, 43200, .inl b_then)), (ad 25, .inl (dA 2, 2880, .inl b_known))]) (wr := [(ad 27, .inl (dA 1, 2880, .inr (.inl b_many))), (ad 28, .inl (dA 1, 2880, .inr (.inl b_manyThen)))]) (w1 := [zr_o ad (0 : Int32) f_taped f_at f_behind f_size f_kind f_number f_wrong f_wrongAt f_faultKind f_faultPlace f_reading f_toldWhy f_x v3 f_bestMany f_tail f_round1, (ad 2, .inl (dA 0, 2982, .inl b_all)), (ad 17, .inl (dA 0, 900, .inl a4)), (ad 18, .inl (dA 0, 6, .inl a5)), (ad 22, .inl (dA 0, 2880, .inl a6)), (ad 23, .inl (dA 0, 43200, .inl a7)), (ad 25, .inl (dA 2, 2880, .inl a8))]) (As := [.int (0 : Int32)]) (rest := []) ⟨hx, hb, hml, hown, ht⟩ (zt_X11_laysStands l dC dI dA ad _ n (0 : Int32) f_taped f_at f_behind f_size f_kind f_number f_wrong f_wrongAt f_faultKind f_faultPlace f_reading f_toldWhy f_x f_standMany f_bestMany f_tail f_round1 b_all b_reckoned b_words b_stand b_then b_known (0 : Int32) v3 a4 a5 a6 a7 a8 hv3) (cwV 1 ht (zr_V zr_354 zr_355 zr_356 zr_36 zr_350) rfl rfl rfl zk_X11_laysStands ⟨Nat.le_of_ble_eq_true rfl, Nat.le_of_ble_eq_true rfl⟩) rfl rfl hK hP hD hS hA [7, 8, 0, 1, 2, 3, 4] [5, 6] (by decide) (by decide) (by decide) rfl rfl rfl hl.1 (Nat.le_of_ble_eq_true rfl) dX11_rows_40 ⟨Nat.zero_le _, Nat.zero_le _⟩ rfl (fun H locs hP hD hS => ?_)
      have hP : va_P (dC, dI) zz_cls [(ad 27, .inl (dA 1, 2880, .inr (.inl b_many))), (ad 28, .inl (dA 1, 2880, .inr (.inl b_manyThen))), zr_o ad (0 : Int32) f_taped f_at f_behind f_size f_kind f_number f_wrong f_wrongAt f_faultKind f_faultPlace f_reading f_toldWhy f_x v3 f_bestMany f_tail f_round1, (ad 2, .inl (dA 0, 2982, .inl b_all)), (ad 17, .inl (dA 0, 900, .inl a4)), (ad 18, .inl (dA 0, 6, .inl a5)), (ad 22, .inl (dA 0, 2880, .inl a6)), (ad 23, .inl (dA 0, 43200, .inl a7)), (ad 25, .inl (dA 2, 2880, .inl a8))] H := hP
      have hD : va_D A [(ad 27, .inl (dA 1, 2880, .inr (.inl b_many))), (ad 28, .inl (dA 1, 2880, .inr (.inl b_manyThen))), zr_o ad (0 : Int32) f_taped f_at f_behind f_size f_kind f_number f_wrong f_wrongAt f_faultKind f_faultPlace f_reading f_toldWhy f_x v3 f_bestMany f_tail f_round1, (ad 2, .inl (dA 0, 2982, .inl b_all)), (ad 17, .inl (dA 0, 900, .inl a4)), (ad 18, .inl (dA 0, 6, .inl a5)), (ad 22, .inl (dA 0, 2880, .inl a6)), (ad 23, .inl (dA 0, 43200, .inl a7)), (ad 25, .inl (dA 2, 2880, .inl a8))] := hD
      refine lv_iconst (v := (0 : Int32)) (pc := 43) hx hb dX11_rows_43 (by decide) ?_
      refine lv_istore (lv' := [(5, .int (0 : Int32)), (4, .int v1), (0, .ref (ad 0)), (1, .int p1), (2, .int p2), (3, .int p3)]) (pc := 44) hx hb dX11_rows_44 hl (by decide) rfl (fun ls hl => ?_)
      obtain ⟨g21, v18, a19, a20, hj, hf⟩ := zc_4 hf
      refine zj_join (pcJ := 96) (stk := []) (X := fun H locs ls => lv_has ls 9 [(0, .ref (ad 0)), (1, .int p1), (2, .int p2), (3, .int p3)] ∧ va_P (dC, dI) zz_cls [zr_o ad (0 : Int32) f_taped f_at f_behind f_size f_kind f_number f_wrong f_wrongAt f_faultKind f_faultPlace f_reading f_toldWhy f_x v3 f_bestMany f_tail f_round1, (ad 2, .inl (dA 0, 2982, .inl b_all)), (ad 17, .inl (dA 0, 900, .inl a4)), (ad 18, .inl (dA 0, 6, .inl a5)), (ad 22, .inl (dA 0, 2880, .inl a6)), (ad 23, .inl (dA 0, 43200, .inl a7)), (ad 25, .inl (dA 2, 2880, .inl a8)), (ad 27, .inl (dA 1, 2880, .inr (.inl a19))), (ad 28, .inl (dA 1, 2880, .inr (.inl a20)))] H ∧ va_D A [zr_o ad (0 : Int32) f_taped f_at f_behind f_size f_kind f_number f_wrong f_wrongAt f_faultKind f_faultPlace f_reading f_toldWhy f_x v3 f_bestMany f_tail f_round1, (ad 2, .inl (dA 0, 2982, .inl b_all)), (ad 17, .inl (dA 0, 900, .inl a4)), (ad 18, .inl (dA 0, 6, .inl a5)), (ad 22, .inl (dA 0, 2880, .inl a6)), (ad 23, .inl (dA 0, 43200, .inl a7)), (ad 25, .inl (dA 2, 2880, .inl a8)), (ad 27, .inl (dA 1, 2880, .inr (.inl a19))), (ad 28, .inl (dA 1, 2880, .inr (.inl a20)))] ∧ va_S A s.heap H locs) (fun H locs ls hX => ?_) (fun E96 => ?_)
      · obtain ⟨hl, hP, hD, hS⟩ := hX
        clear hj
        refine lv_iconst (v := (0 : Int32)) (pc := 96) hx hb dX11_rows_96 (by decide) ?_
        refine lv_istore (lv' := [(5, .int (0 : Int32)), (0, .ref (ad 0)), (1, .int p1), (2, .int p2), (3, .int p3)]) (pc := 97) hx hb dX11_rows_97 hl (by decide) rfl (fun ls hl => ?_)
        obtain ⟨g63, v60, a61, a62, hj, hf⟩ := zc_4 hf
        refine zj_join (pcJ := 266) (stk := []) (X := fun H locs ls => lv_has ls 9 [(0, .ref (ad 0)), (1, .int p1), (2, .int p2)] ∧ va_P (dC, dI) zz_cls [zr_o ad (0 : Int32) f_taped f_at f_behind f_size f_kind f_number f_wrong f_wrongAt f_faultKind f_faultPlace f_reading f_toldWhy f_x v3 f_bestMany f_tail f_round1, (ad 2, .inl (dA 0, 2982, .inl b_all)), (ad 17, .inl (dA 0, 900, .inl a4)), (ad 18, .inl (dA 0, 6, .inl a5)), (ad 22, .inl (dA 0, 2880, .inl a6)), (ad 23, .inl (dA 0, 43200, .inl a7)), (ad 25, .inl (dA 2, 2880, .inl a8)), (ad 27, .inl (dA 1, 2880, .inr (.inl a61))), (ad 28, .inl (dA 1, 2880, .inr (.inl a62)))] H ∧ va_D A [zr_o ad (0 : Int32) f_taped f_at f_behind f_size f_kind f_number f_wrong f_wrongAt f_faultKind f_faultPlace f_reading f_toldWhy f_x v3 f_bestMany f_tail f_round1, (ad 2, .inl (dA 0, 2982, .inl b_all)), (ad 17, .inl (dA 0, 900, .inl a4)), (ad 18, .inl (dA 0, 6, .inl a5)), (ad 22, .inl (dA 0, 2880, .inl a6)), (ad 23, .inl (dA 0, 43200, .inl a7)), (ad 25, .inl (dA 2, 2880, .inl a8)), (ad 27, .inl (dA 1, 2880, .inr (.inl a61))), (ad 28, .inl (dA 1, 2880, .inr (.inl a62)))] ∧ va_S A s.heap H locs) (fun H locs ls hX => ?_) (fun E266 => ?_)
        · obtain ⟨hl, hP, hD, hS⟩ := hX
          clear hj
          refine lv_lconst (v := (0 : Int64)) (pc := 266) hx hb dX11_rows_266 (by decide) ?_
          refine lv_lstore (lv' := [(5, .long (0 : Int64)), (0, .ref (ad 0)), (1, .int p1), (2, .int p2)]) (pc := 267) hx hb dX11_rows_267 hl (by decide) rfl (fun ls hl => ?_)
          refine lv_iconst (v := (0 : Int32)) (pc := 269) hx hb dX11_rows_269 (by decide) ?_
          refine lv_istore (lv' := [(7, .int (0 : Int32)), (5, .long (0 : Int64)), (0, .ref (ad 0)), (1, .int p1), (2, .int p2)]) (pc := 270) hx hb dX11_rows_270 hl (by decide) rfl (fun ls hl => ?_)
          obtain ⟨g75, v73, v74, hj, hf⟩ := zc_3 hf
          refine zj_join (pcJ := 323) (stk := []) (X := fun H locs ls => lv_has ls 9 [(5, .long v73)] ∧ va_P (dC, dI) zz_cls [zr_o ad (0 : Int32) f_taped f_at f_behind f_size f_kind f_number f_wrong f_wrongAt f_faultKind f_faultPlace f_reading f_toldWhy f_x v3 f_bestMany f_tail f_round1, (ad 2, .inl (dA 0, 2982, .inl b_all)), (ad 17, .inl (dA 0, 900, .inl a4)), (ad 18, .inl (dA 0, 6, .inl a5)), (ad 22, .inl (dA 0, 2880, .inl a6)), (ad 23, .inl (dA 0, 43200, .inl a7)), (ad 25, .inl (dA 2, 2880, .inl a8)), (ad 27, .inl (dA 1, 2880, .inr (.inl a61))), (ad 28, .inl (dA 1, 2880, .inr (.inl a62)))] H ∧ va_D A [zr_o ad (0 : Int32) f_taped f_at f_behind f_size f_kind f_number f_wrong f_wrongAt f_faultKind f_faultPlace f_reading f_toldWhy f_x v3 f_bestMany f_tail f_round1, (ad 2, .inl (dA 0, 2982, .inl b_all)), (ad 17, .inl (dA 0, 900, .inl a4)), (ad 18, .inl (dA 0, 6, .inl a5)), (ad 22, .inl (dA 0, 2880, .inl a6)), (ad 23, .inl (dA 0, 43200, .inl a7)), (ad 25, .inl (dA 2, 2880, .inl a8)), (ad 27, .inl (dA 1, 2880, .inr (.inl a61))), (ad 28, .inl (dA 1, 2880, .inr (.inl a62)))] ∧ va_S A s.heap H locs) (fun H locs ls hX => ?_) (fun E323 => ?_)
          · obtain ⟨hl, hP, hD, hS⟩ := hX
            clear hj
            refine lv_lload (pc := 323) hx hb dX11_rows_323 (lv_at hl 0 rfl) ?_
            obtain ⟨rfl, rfl, rfl, rfl, rfl, rfl, rfl, rfl, rfl, rfl⟩ := zi_10 hf
            exact W.lret (pc := 325) hx hb hr (fun t ht hW => ⟨⟨_, (), rfl, rfl, zz_Bi (by rw [ht]; exact hP) (va_K.moved hW.alike hK) (hD)⟩, hS.F ht⟩) hS.2.2 dX11_rows_325
          clear hf
          refine zw_loop (pcH := 272) (X := fun v H locs ls => lv_has ls 9 [(0, .ref (ad 0)), (1, .int p1), (2, .int p2), (5, .long v.1), (7, .int v.2)] ∧ va_P (dC, dI) zz_cls [zr_o ad (0 : Int32) f_taped f_at f_behind f_size f_kind f_number f_wrong f_wrongAt f_faultKind f_faultPlace f_reading f_toldWhy f_x v3 f_bestMany f_tail f_round1, (ad 2, .inl (dA 0, 2982, .inl b_all)), (ad 17, .inl (dA 0, 900, .inl a4)), (ad 18, .inl (dA 0, 6, .inl a5)), (ad 22, .inl (dA 0, 2880, .inl a6)), (ad 23, .inl (dA 0, 43200, .inl a7)), (ad 25, .inl (dA 2, 2880, .inl a8)), (ad 27, .inl (dA 1, 2880, .inr (.inl a61))), (ad 28, .inl (dA 1, 2880, .inr (.inl a62)))] H ∧ va_D A [zr_o ad (0 : Int32) f_taped f_at f_behind f_size f_kind f_number f_wrong f_wrongAt f_faultKind f_faultPlace f_reading f_toldWhy f_x v3 f_bestMany f_tail f_round1, (ad 2, .inl (dA 0, 2982, .inl b_all)), (ad 17, .inl (dA 0, 900, .inl a4)), (ad 18, .inl (dA 0, 6, .inl a5)), (ad 22, .inl (dA 0, 2880, .inl a6)), (ad 23, .inl (dA 0, 43200, .inl a7)), (ad 25, .inl (dA 2, 2880, .inl a8)), (ad 27, .inl (dA 1, 2880, .inr (.inl a61))), (ad 28, .inl (dA 1, 2880, .inr (.inl a62)))] ∧ va_S A s.heap H locs) hj (fun v w hf ih ex H locs ls hX => ?_) _ _ _ ⟨lv_sub hl [2, 3, 4, 1, 0] rfl, hP, hD, hS⟩
          clear hj
          obtain ⟨v64, v65⟩ := v
          obtain ⟨hl, hP, hD, hS⟩ := hX
          have hl : lv_has ls 9 [(0, .ref (ad 0)), (1, .int p1), (2, .int p2), (5, .long v64), (7, .int v65)] := hl
          have hP : va_P (dC, dI) zz_cls [zr_o ad (0 : Int32) f_taped f_at f_behind f_size f_kind f_number f_wrong f_wrongAt f_faultKind f_faultPlace f_reading f_toldWhy f_x v3 f_bestMany f_tail f_round1, (ad 2, .inl (dA 0, 2982, .inl b_all)), (ad 17, .inl (dA 0, 900, .inl a4)), (ad 18, .inl (dA 0, 6, .inl a5)), (ad 22, .inl (dA 0, 2880, .inl a6)), (ad 23, .inl (dA 0, 43200, .inl a7)), (ad 25, .inl (dA 2, 2880, .inl a8)), (ad 27, .inl (dA 1, 2880, .inr (.inl a61))), (ad 28, .inl (dA 1, 2880, .inr (.inl a62)))] H := hP
          have hD : va_D A [zr_o ad (0 : Int32) f_taped f_at f_behind f_size f_kind f_number f_wrong f_wrongAt f_faultKind f_faultPlace f_reading f_toldWhy f_x v3 f_bestMany f_tail f_round1, (ad 2, .inl (dA 0, 2982, .inl b_all)), (ad 17, .inl (dA 0, 900, .inl a4)), (ad 18, .inl (dA 0, 6, .inl a5)), (ad 22, .inl (dA 0, 2880, .inl a6)), (ad 23, .inl (dA 0, 43200, .inl a7)), (ad 25, .inl (dA 2, 2880, .inl a8)), (ad 27, .inl (dA 1, 2880, .inr (.inl a61))), (ad 28, .inl (dA 1, 2880, .inr (.inl a62)))] := hD
          replace hf : zb_X11_rows_272 v3 a6 p1 p2 a61 v64 v65 = some w := hf
          unfold zb_X11_rows_272 at hf
          refine lv_iload (pc := 272) hx hb dX11_rows_272 (lv_at hl 4 rfl) ?_
          refine lv_aload_n (pc := 274) hx hb dX11_rows_274 rfl (lv_at hl 0 rfl) ?_
          refine va_get (pc := 275) (D := (dC, dI)) (ci := 0) (v := .int v3) (C := RX11) (T := TX11) (N := 42) hx hb ht zr_lay hown hK hP 0 rfl rfl 25 (by decide) (ht _ zr_340) (fun _ h9 => h9) rfl dX11_rows_275 ?_
          refine lv_icmp_ge (tgt := 323) (pc := 278) hx hb dX11_rows_278 rfl (fun hc => ?_) (fun hc => ?_)
          · have hf := za_t hf hc
            obtain rfl := Option.some.inj hf
            obtain ⟨rfl, rfl, rfl⟩ := zp_3 (ex (show ¬ (1 : Nat) = 0 by decide))
            exact E323 _ _ _ ⟨lv_sub hl [3] rfl, hP, hD, hS⟩
          · have hf := za_f hf hc
            refine lv_lload (pc := 281) hx hb dX11_rows_281 (lv_at hl 3 rfl) ?_
            refine lv_aload_n (pc := 283) hx hb dX11_rows_283 rfl (lv_at hl 0 rfl) ?_
            refine va_get (pc := 284) (D := (dC, dI)) (ci := 0) (v := .ref (ad 22)) (C := RX11) (T := TX11) (N := 42) hx hb ht zr_lay hown hK hP 0 rfl rfl 21 (by decide) (ht _ zr_15) (fun _ h9 => h9) rfl dX11_rows_284 ?_
            refine lv_iload (pc := 287) hx hb dX11_rows_287 (lv_at hl 4 rfl) ?_
            obtain ⟨v66, hv66, hf⟩ := zc_1 hf
            refine zw_iald (pc := 289) hx hb hK hP 4 0 rfl rfl hv66 dX11_rows_289 ?_
            refine lv_iload_n (pc := 290) hx hb dX11_rows_290 rfl (lv_at hl 1 rfl) ?_
            refine lv_iload_n (pc := 291) hx hb dX11_rows_291 rfl (lv_at hl 2 rfl) ?_
            obtain ⟨v67, hv67, hf⟩ := zc_1 hf
            refine zw_Si (pc := 292) (wc := []) (wr := [zr_o ad (0 : Int32) f_taped f_at f_behind f_size f_kind f_number f_wrong f_wrongAt f_faultKind f_faultPlace f_reading f_toldWhy f_x v3 f_bestMany f_tail f_round1, (ad 2, .inl (dA 0, 2982, .inl b_all)), (ad 17, .inl (dA 0, 900, .inl a4)), (ad 18, .inl (dA 0, 6, .inl a5)), (ad 22, .inl (dA 0, 2880, .inl a6)), (ad 23, .inl (dA 0, 43200, .inl a7)), (ad 25, .inl (dA 2, 2880, .inl a8)), (ad 27, .inl (dA 1, 2880, .inr (.inl a61))), (ad 28, .inl (dA 1, 2880, .inr (.inl a62)))]) (w1 := []) (As := [.int v66, .int p1, .int p2]) (rest := [.long v64]) ⟨hx, hb, hml, hown, ht⟩ (zt_X11_isGoal l dC dI dA ad _ v66 p1 p2 v67 hv67) (cwS 3 ht (zr_S zr_357 zr_358 zr_36 zr_351) rfl rfl rfl zk_X11_isGoal ⟨Nat.le_of_ble_eq_true rfl, Nat.le_of_ble_eq_true rfl⟩) hK hP hD hS hA [] [0, 1, 2, 3, 4, 5, 6, 7, 8] (by decide) (by decide) (by decide) rfl rfl rfl hl.1 (Nat.le_of_ble_eq_true rfl) dX11_rows_292 ⟨Nat.zero_le _, Nat.zero_le _⟩ rfl (fun H locs hP hD hS => ?_)
            have hP : va_P (dC, dI) zz_cls [zr_o ad (0 : Int32) f_taped f_at f_behind f_size f_kind f_number f_wrong f_wrongAt f_faultKind f_faultPlace f_reading f_toldWhy f_x v3 f_bestMany f_tail f_round1, (ad 2, .inl (dA 0, 2982, .inl b_all)), (ad 17, .inl (dA 0, 900, .inl a4)), (ad 18, .inl (dA 0, 6, .inl a5)), (ad 22, .inl (dA 0, 2880, .inl a6)), (ad 23, .inl (dA 0, 43200, .inl a7)), (ad 25, .inl (dA 2, 2880, .inl a8)), (ad 27, .inl (dA 1, 2880, .inr (.inl a61))), (ad 28, .inl (dA 1, 2880, .inr (.inl a62)))] H := hP
            have hD : va_D A [zr_o ad (0 : Int32) f_taped f_at f_behind f_size f_kind f_number f_wrong f_wrongAt f_faultKind f_faultPlace f_reading f_toldWhy f_x v3 f_bestMany f_tail f_round1, (ad 2, .inl (dA 0, 2982, .inl b_all)), (ad 17, .inl (dA 0, 900, .inl a4)), (ad 18, .inl (dA 0, 6, .inl a5)), (ad 22, .inl (dA 0, 2880, .inl a6)), (ad 23, .inl (dA 0, 43200, .inl a7)), (ad 25, .inl (dA 2, 2880, .inl a8)), (ad 27, .inl (dA 1, 2880, .inr (.inl a61))), (ad 28, .inl (dA 1, 2880, .inr (.inl a62)))] := hD
            obtain ⟨v70, hj, hf⟩ := zc_1 hf
            refine zj_join (pcJ := 314) (stk := [.long v70, .long v64]) (X := fun H locs ls => lv_has ls 9 [(0, .ref (ad 0)), (1, .int p1), (2, .int p2), (7, .int v65)] ∧ va_P (dC, dI) zz_cls [zr_o ad (0 : Int32) f_taped f_at f_behind f_size f_kind f_number f_wrong f_wrongAt f_faultKind f_faultPlace f_reading f_toldWhy f_x v3 f_bestMany f_tail f_round1, (ad 2, .inl (dA 0, 2982, .inl b_all)), (ad 17, .inl (dA 0, 900, .inl a4)), (ad 18, .inl (dA 0, 6, .inl a5)), (ad 22, .inl (dA 0, 2880, .inl a6)), (ad 23, .inl (dA 0, 43200, .inl a7)), (ad 25, .inl (dA 2, 2880, .inl a8)), (ad 27, .inl (dA 1, 2880, .inr (.inl a61))), (ad 28, .inl (dA 1, 2880, .inr (.inl a62)))] H ∧ va_D A [zr_o ad (0 : Int32) f_taped f_at f_behind f_size f_kind f_number f_wrong f_wrongAt f_faultKind f_faultPlace f_reading f_toldWhy f_x v3 f_bestMany f_tail f_round1, (ad 2, .inl (dA 0, 2982, .inl b_all)), (ad 17, .inl (dA 0, 900, .inl a4)), (ad 18, .inl (dA 0, 6, .inl a5)), (ad 22, .inl (dA 0, 2880, .inl a6)), (ad 23, .inl (dA 0, 43200, .inl a7)), (ad 25, .inl (dA 2, 2880, .inl a8)), (ad 27, .inl (dA 1, 2880, .inr (.inl a61))), (ad 28, .inl (dA 1, 2880, .inr (.inl a62)))] ∧ va_S A s.heap H locs) (fun H locs ls hX => ?_) (fun J314 => ?_)
            · obtain ⟨hl, hP, hD, hS⟩ := hX
              clear hj
              refine lv_ladd (pc := 314) hx hb dX11_rows_314 ?_
              obtain ⟨v71, hv71, hf⟩ := zc_1 hf
              refine zw_topl (hv71) ?_
              refine lv_lstore (lv' := [(5, .long v71), (0, .ref (ad 0)), (1, .int p1), (2, .int p2), (7, .int v65)]) (pc := 315) hx hb dX11_rows_315 hl (by decide) rfl (fun ls hl => ?_)
              obtain ⟨v72, hv72, hf⟩ := zc_1 hf
              refine lv_iinc (v := v72) (lv' := [(7, .int v72), (5, .long v71), (0, .ref (ad 0)), (1, .int p1), (2, .int p2)]) (k := 4) (pc := 317) hx hb dX11_rows_317 hl rfl (Option.some.inj hv72) (by decide) rfl (fun ls hl => ?_)
              refine lv_goto (tgt := 272) (pc := 320) hx hb dX11_rows_320 rfl ?_
              obtain rfl := Option.some.inj hf
              exact ih rfl _ _ _ ⟨lv_sub hl [2, 3, 4, 1, 0] rfl, hP, hD, hS⟩
            · clear hf
              have hf := hj
              clear hj
              refine lv_if_eq (tgt := 313) (pc := 295) hx hb dX11_rows_295 rfl (fun hc => ?_) (fun hc => ?_)
              · have hf := za_t hf hc
                refine lv_lconst (v := (0 : Int64)) (pc := 313) hx hb dX11_rows_313 (by decide) ?_
                obtain rfl := Option.some.inj hf
                exact J314 _ _ _ ⟨lv_sub hl [0, 1, 2, 4] rfl, hP, hD, hS⟩
              · have hf := za_f hf hc
                refine lv_aload_n (pc := 298) hx hb dX11_rows_298 rfl (lv_at hl 0 rfl) ?_
                refine va_get (pc := 299) (D := (dC, dI)) (ci := 0) (v := .ref (ad 27)) (C := RX11) (T := TX11) (N := 42) hx hb ht zr_lay hown hK hP 0 rfl rfl 26 (by decide) (ht _ zr_21) (fun _ h9 => h9) rfl dX11_rows_299 ?_
                refine lv_aload_n (pc := 302) hx hb dX11_rows_302 rfl (lv_at hl 0 rfl) ?_
                refine va_get (pc := 303) (D := (dC, dI)) (ci := 0) (v := .ref (ad 22)) (C := RX11) (T := TX11) (N := 42) hx hb ht zr_lay hown hK hP 0 rfl rfl 21 (by decide) (ht _ zr_15) (fun _ h9 => h9) rfl dX11_rows_303 ?_
                refine lv_iload (pc := 306) hx hb dX11_rows_306 (lv_at hl 4 rfl) ?_
                obtain ⟨v68, hv68, hf⟩ := zc_1 hf
                refine zw_iald (pc := 308) hx hb hK hP 4 0 rfl rfl hv68 dX11_rows_308 ?_
                obtain ⟨v69, hv69, hf⟩ := zc_1 hf
                refine zw_lald (pc := 309) hx hb hK hP 7 1 rfl rfl hv69 dX11_rows_309 ?_
                refine lv_goto (tgt := 314) (pc := 310) hx hb dX11_rows_310 rfl ?_
                obtain rfl := Option.some.inj hf
                exact J314 _ _ _ ⟨lv_sub hl [0, 1, 2, 4] rfl, hP, hD, hS⟩
        clear hf
        refine zw_loop (pcH := 99) (X := fun v H locs ls => lv_has ls 9 [(0, .ref (ad 0)), (1, .int p1), (2, .int p2), (3, .int p3), (5, .int v.1)] ∧ va_P (dC, dI) zz_cls [zr_o ad (0 : Int32) f_taped f_at f_behind f_size f_kind f_number f_wrong f_wrongAt f_faultKind f_faultPlace f_reading f_toldWhy f_x v3 f_bestMany f_tail f_round1, (ad 2, .inl (dA 0, 2982, .inl b_all)), (ad 17, .inl (dA 0, 900, .inl a4)), (ad 18, .inl (dA 0, 6, .inl a5)), (ad 22, .inl (dA 0, 2880, .inl a6)), (ad 23, .inl (dA 0, 43200, .inl a7)), (ad 25, .inl (dA 2, 2880, .inl a8)), (ad 27, .inl (dA 1, 2880, .inr (.inl v.2.1))), (ad 28, .inl (dA 1, 2880, .inr (.inl v.2.2)))] H ∧ va_D A [zr_o ad (0 : Int32) f_taped f_at f_behind f_size f_kind f_number f_wrong f_wrongAt f_faultKind f_faultPlace f_reading f_toldWhy f_x v3 f_bestMany f_tail f_round1, (ad 2, .inl (dA 0, 2982, .inl b_all)), (ad 17, .inl (dA 0, 900, .inl a4)), (ad 18, .inl (dA 0, 6, .inl a5)), (ad 22, .inl (dA 0, 2880, .inl a6)), (ad 23, .inl (dA 0, 43200, .inl a7)), (ad 25, .inl (dA 2, 2880, .inl a8)), (ad 27, .inl (dA 1, 2880, .inr (.inl v.2.1))), (ad 28, .inl (dA 1, 2880, .inr (.inl v.2.2)))] ∧ va_S A s.heap H locs) hj (fun v w hf ih ex H locs ls hX => ?_) _ _ _ ⟨lv_sub hl [1, 2, 3, 4, 0] rfl, hP, hD, hS⟩
        clear hj
        obtain ⟨v22, a23, a24⟩ := v
        obtain ⟨hl, hP, hD, hS⟩ := hX
        have hl : lv_has ls 9 [(0, .ref (ad 0)), (1, .int p1), (2, .int p2), (3, .int p3), (5, .int v22)] := hl
        have hP : va_P (dC, dI) zz_cls [zr_o ad (0 : Int32) f_taped f_at f_behind f_size f_kind f_number f_wrong f_wrongAt f_faultKind f_faultPlace f_reading f_toldWhy f_x v3 f_bestMany f_tail f_round1, (ad 2, .inl (dA 0, 2982, .inl b_all)), (ad 17, .inl (dA 0, 900, .inl a4)), (ad 18, .inl (dA 0, 6, .inl a5)), (ad 22, .inl (dA 0, 2880, .inl a6)), (ad 23, .inl (dA 0, 43200, .inl a7)), (ad 25, .inl (dA 2, 2880, .inl a8)), (ad 27, .inl (dA 1, 2880, .inr (.inl a23))), (ad 28, .inl (dA 1, 2880, .inr (.inl a24)))] H := hP
        have hD : va_D A [zr_o ad (0 : Int32) f_taped f_at f_behind f_size f_kind f_number f_wrong f_wrongAt f_faultKind f_faultPlace f_reading f_toldWhy f_x v3 f_bestMany f_tail f_round1, (ad 2, .inl (dA 0, 2982, .inl b_all)), (ad 17, .inl (dA 0, 900, .inl a4)), (ad 18, .inl (dA 0, 6, .inl a5)), (ad 22, .inl (dA 0, 2880, .inl a6)), (ad 23, .inl (dA 0, 43200, .inl a7)), (ad 25, .inl (dA 2, 2880, .inl a8)), (ad 27, .inl (dA 1, 2880, .inr (.inl a23))), (ad 28, .inl (dA 1, 2880, .inr (.inl a24)))] := hD
        replace hf : zb_X11_rows_99 p3 v3 a6 a7 n v22 a23 a24 = some w := hf
        unfold zb_X11_rows_99 at hf
        refine lv_iload (pc := 99) hx hb dX11_rows_99 (lv_at hl 4 rfl) ?_
        refine lv_iload_n (pc := 101) hx hb dX11_rows_101 rfl (lv_at hl 3 rfl) ?_
        refine lv_icmp_ge (tgt := 266) (pc := 102) hx hb dX11_rows_102 rfl (fun hc => ?_) (fun hc => ?_)
        · have hf := za_t hf hc
          obtain rfl := Option.some.inj hf
          obtain ⟨rfl, rfl, rfl, rfl⟩ := zp_4 (ex (show ¬ (1 : Nat) = 0 by decide))
          exact E266 _ _ _ ⟨lv_sub hl [0, 1, 2] rfl, hP, hD, hS⟩
        · have hf := za_f hf hc
          refine lv_iconst (v := (0 : Int32)) (pc := 105) hx hb dX11_rows_105 (by decide) ?_
          refine lv_istore (lv' := [(6, .int (0 : Int32)), (0, .ref (ad 0)), (1, .int p1), (2, .int p2), (3, .int p3), (5, .int v22)]) (pc := 106) hx hb dX11_rows_106 hl (by decide) rfl (fun ls hl => ?_)
          obtain ⟨g44, v42, a43, hj, hf⟩ := zc_3 hf
          refine zj_join (pcJ := 205) (stk := []) (X := fun H locs ls => lv_has ls 9 [(0, .ref (ad 0)), (1, .int p1), (2, .int p2), (3, .int p3), (5, .int v22)] ∧ va_P (dC, dI) zz_cls [zr_o ad (0 : Int32) f_taped f_at f_behind f_size f_kind f_number f_wrong f_wrongAt f_faultKind f_faultPlace f_reading f_toldWhy f_x v3 f_bestMany f_tail f_round1, (ad 2, .inl (dA 0, 2982, .inl b_all)), (ad 17, .inl (dA 0, 900, .inl a4)), (ad 18, .inl (dA 0, 6, .inl a5)), (ad 22, .inl (dA 0, 2880, .inl a6)), (ad 23, .inl (dA 0, 43200, .inl a7)), (ad 25, .inl (dA 2, 2880, .inl a8)), (ad 27, .inl (dA 1, 2880, .inr (.inl a23))), (ad 28, .inl (dA 1, 2880, .inr (.inl a43)))] H ∧ va_D A [zr_o ad (0 : Int32) f_taped f_at f_behind f_size f_kind f_number f_wrong f_wrongAt f_faultKind f_faultPlace f_reading f_toldWhy f_x v3 f_bestMany f_tail f_round1, (ad 2, .inl (dA 0, 2982, .inl b_all)), (ad 17, .inl (dA 0, 900, .inl a4)), (ad 18, .inl (dA 0, 6, .inl a5)), (ad 22, .inl (dA 0, 2880, .inl a6)), (ad 23, .inl (dA 0, 43200, .inl a7)), (ad 25, .inl (dA 2, 2880, .inl a8)), (ad 27, .inl (dA 1, 2880, .inr (.inl a23))), (ad 28, .inl (dA 1, 2880, .inr (.inl a43)))] ∧ va_S A s.heap H locs) (fun H locs ls hX => ?_) (fun E205 => ?_)
          · obtain ⟨hl, hP, hD, hS⟩ := hX
            clear hj
            refine lv_iconst (v := (0 : Int32)) (pc := 205) hx hb dX11_rows_205 (by decide) ?_
            refine lv_istore (lv' := [(6, .int (0 : Int32)), (0, .ref (ad 0)), (1, .int p1), (2, .int p2), (3, .int p3), (5, .int v22)]) (pc := 206) hx hb dX11_rows_206 hl (by decide) rfl (fun ls hl => ?_)
            obtain ⟨g58, v55, a56, a57, hj, hf⟩ := zc_4 hf
            refine zj_join (pcJ := 260) (stk := []) (X := fun H locs ls => lv_has ls 9 [(0, .ref (ad 0)), (1, .int p1), (2, .int p2), (3, .int p3), (5, .int v22)] ∧ va_P (dC, dI) zz_cls [zr_o ad (0 : Int32) f_taped f_at f_behind f_size f_kind f_number f_wrong f_wrongAt f_faultKind f_faultPlace f_reading f_toldWhy f_x v3 f_bestMany f_tail f_round1, (ad 2, .inl (dA 0, 2982, .inl b_all)), (ad 17, .inl (dA 0, 900, .inl a4)), (ad 18, .inl (dA 0, 6, .inl a5)), (ad 22, .inl (dA 0, 2880, .inl a6)), (ad 23, .inl (dA 0, 43200, .inl a7)), (ad 25, .inl (dA 2, 2880, .inl a8)), (ad 27, .inl (dA 1, 2880, .inr (.inl a56))), (ad 28, .inl (dA 1, 2880, .inr (.inl a57)))] H ∧ va_D A [zr_o ad (0 : Int32) f_taped f_at f_behind f_size f_kind f_number f_wrong f_wrongAt f_faultKind f_faultPlace f_reading f_toldWhy f_x v3 f_bestMany f_tail f_round1, (ad 2, .inl (dA 0, 2982, .inl b_all)), (ad 17, .inl (dA 0, 900, .inl a4)), (ad 18, .inl (dA 0, 6, .inl a5)), (ad 22, .inl (dA 0, 2880, .inl a6)), (ad 23, .inl (dA 0, 43200, .inl a7)), (ad 25, .inl (dA 2, 2880, .inl a8)), (ad 27, .inl (dA 1, 2880, .inr (.inl a56))), (ad 28, .inl (dA 1, 2880, .inr (.inl a57)))] ∧ va_S A s.heap H locs) (fun H locs ls hX => ?_) (fun E260 => ?_)
            · obtain ⟨hl, hP, hD, hS⟩ := hX
              clear hj
              obtain ⟨v59, hv59, hf⟩ := zc_1 hf
              refine lv_iinc (v := v59) (lv' := [(5, .int v59), (0, .ref (ad 0)), (1, .int p1), (2, .int p2), (3, .int p3)]) (k := 4) (pc := 260) hx hb dX11_rows_260 hl rfl (Option.some.inj hv59) (by decide) rfl (fun ls hl => ?_)
              refine lv_goto (tgt := 99) (pc := 263) hx hb dX11_rows_263 rfl ?_
              obtain rfl := Option.some.inj hf
              exact ih rfl _ _ _ ⟨lv_sub hl [1, 2, 3, 4, 0] rfl, hP, hD, hS⟩
            clear hf
            refine zw_loop (pcH := 208) (X := fun v H locs ls => lv_has ls 9 [(0, .ref (ad 0)), (1, .int p1), (2, .int p2), (3, .int p3), (5, .int v22), (6, .int v.1)] ∧ va_P (dC, dI) zz_cls [zr_o ad (0 : Int32) f_taped f_at f_behind f_size f_kind f_number f_wrong f_wrongAt f_faultKind f_faultPlace f_reading f_toldWhy f_x v3 f_bestMany f_tail f_round1, (ad 2, .inl (dA 0, 2982, .inl b_all)), (ad 17, .inl (dA 0, 900, .inl a4)), (ad 18, .inl (dA 0, 6, .inl a5)), (ad 22, .inl (dA 0, 2880, .inl a6)), (ad 23, .inl (dA 0, 43200, .inl a7)), (ad 25, .inl (dA 2, 2880, .inl a8)), (ad 27, .inl (dA 1, 2880, .inr (.inl v.2.1))), (ad 28, .inl (dA 1, 2880, .inr (.inl v.2.2)))] H ∧ va_D A [zr_o ad (0 : Int32) f_taped f_at f_behind f_size f_kind f_number f_wrong f_wrongAt f_faultKind f_faultPlace f_reading f_toldWhy f_x v3 f_bestMany f_tail f_round1, (ad 2, .inl (dA 0, 2982, .inl b_all)), (ad 17, .inl (dA 0, 900, .inl a4)), (ad 18, .inl (dA 0, 6, .inl a5)), (ad 22, .inl (dA 0, 2880, .inl a6)), (ad 23, .inl (dA 0, 43200, .inl a7)), (ad 25, .inl (dA 2, 2880, .inl a8)), (ad 27, .inl (dA 1, 2880, .inr (.inl v.2.1))), (ad 28, .inl (dA 1, 2880, .inr (.inl v.2.2)))] ∧ va_S A s.heap H locs) hj (fun v w hf ih ex H locs ls hX => ?_) _ _ _ ⟨lv_sub hl [1, 2, 3, 4, 5, 0] rfl, hP, hD, hS⟩
            clear hj
            obtain ⟨v45, a46, a47⟩ := v
            obtain ⟨hl, hP, hD, hS⟩ := hX
            have hl : lv_has ls 9 [(0, .ref (ad 0)), (1, .int p1), (2, .int p2), (3, .int p3), (5, .int v22), (6, .int v45)] := hl
            have hP : va_P (dC, dI) zz_cls [zr_o ad (0 : Int32) f_taped f_at f_behind f_size f_kind f_number f_wrong f_wrongAt f_faultKind f_faultPlace f_reading f_toldWhy f_x v3 f_bestMany f_tail f_round1, (ad 2, .inl (dA 0, 2982, .inl b_all)), (ad 17, .inl (dA 0, 900, .inl a4)), (ad 18, .inl (dA 0, 6, .inl a5)), (ad 22, .inl (dA 0, 2880, .inl a6)), (ad 23, .inl (dA 0, 43200, .inl a7)), (ad 25, .inl (dA 2, 2880, .inl a8)), (ad 27, .inl (dA 1, 2880, .inr (.inl a46))), (ad 28, .inl (dA 1, 2880, .inr (.inl a47)))] H := hP
            have hD : va_D A [zr_o ad (0 : Int32) f_taped f_at f_behind f_size f_kind f_number f_wrong f_wrongAt f_faultKind f_faultPlace f_reading f_toldWhy f_x v3 f_bestMany f_tail f_round1, (ad 2, .inl (dA 0, 2982, .inl b_all)), (ad 17, .inl (dA 0, 900, .inl a4)), (ad 18, .inl (dA 0, 6, .inl a5)), (ad 22, .inl (dA 0, 2880, .inl a6)), (ad 23, .inl (dA 0, 43200, .inl a7)), (ad 25, .inl (dA 2, 2880, .inl a8)), (ad 27, .inl (dA 1, 2880, .inr (.inl a46))), (ad 28, .inl (dA 1, 2880, .inr (.inl a47)))] := hD
            replace hf : zb_X11_rows_208 v3 a6 v45 a46 a47 = some w := hf
            unfold zb_X11_rows_208 at hf
            refine lv_iload (pc := 208) hx hb dX11_rows_208 (lv_at hl 5 rfl) ?_
            refine lv_aload_n (pc := 210) hx hb dX11_rows_210 rfl (lv_at hl 0 rfl) ?_
            refine va_get (pc := 211) (D := (dC, dI)) (ci := 0) (v := .int v3) (C := RX11) (T := TX11) (N := 42) hx hb ht zr_lay hown hK hP 0 rfl rfl 25 (by decide) (ht _ zr_340) (fun _ h9 => h9) rfl dX11_rows_211 ?_
            refine lv_icmp_ge (tgt := 260) (pc := 214) hx hb dX11_rows_214 rfl (fun hc => ?_) (fun hc => ?_)
            · have hf := za_t hf hc
              obtain rfl := Option.some.inj hf
              obtain ⟨rfl, rfl, rfl, rfl⟩ := zp_4 (ex (show ¬ (1 : Nat) = 0 by decide))
              exact E260 _ _ _ ⟨lv_sub hl [0, 1, 2, 3, 4] rfl, hP, hD, hS⟩
            · have hf := za_f hf hc
              refine lv_aload_n (pc := 217) hx hb dX11_rows_217 rfl (lv_at hl 0 rfl) ?_
              refine va_get (pc := 218) (D := (dC, dI)) (ci := 0) (v := .ref (ad 27)) (C := RX11) (T := TX11) (N := 42) hx hb ht zr_lay hown hK hP 0 rfl rfl 26 (by decide) (ht _ zr_21) (fun _ h9 => h9) rfl dX11_rows_218 ?_
              refine lv_aload_n (pc := 221) hx hb dX11_rows_221 rfl (lv_at hl 0 rfl) ?_
              refine va_get (pc := 222) (D := (dC, dI)) (ci := 0) (v := .ref (ad 22)) (C := RX11) (T := TX11) (N := 42) hx hb ht zr_lay hown hK hP 0 rfl rfl 21 (by decide) (ht _ zr_15) (fun _ h9 => h9) rfl dX11_rows_222 ?_
              refine lv_iload (pc := 225) hx hb dX11_rows_225 (lv_at hl 5 rfl) ?_
              obtain ⟨v48, hv48, hf⟩ := zc_1 hf
              refine zw_iald (pc := 227) hx hb hK hP 4 0 rfl rfl hv48 dX11_rows_227 ?_
              refine lv_aload_n (pc := 228) hx hb dX11_rows_228 rfl (lv_at hl 0 rfl) ?_
              refine va_get (pc := 229) (D := (dC, dI)) (ci := 0) (v := .ref (ad 28)) (C := RX11) (T := TX11) (N := 42) hx hb ht zr_lay hown hK hP 0 rfl rfl 27 (by decide) (ht _ zr_22) (fun _ h9 => h9) rfl dX11_rows_229 ?_
              refine lv_aload_n (pc := 232) hx hb dX11_rows_232 rfl (lv_at hl 0 rfl) ?_
              refine va_get (pc := 233) (D := (dC, dI)) (ci := 0) (v := .ref (ad 22)) (C := RX11) (T := TX11) (N := 42) hx hb ht zr_lay hown hK hP 0 rfl rfl 21 (by decide) (ht _ zr_15) (fun _ h9 => h9) rfl dX11_rows_233 ?_
              refine lv_iload (pc := 236) hx hb dX11_rows_236 (lv_at hl 5 rfl) ?_
              obtain ⟨v49, hv49, hf⟩ := zc_1 hf
              refine zw_iald (pc := 238) hx hb hK hP 4 0 rfl rfl hv49 dX11_rows_238 ?_
              obtain ⟨v50, hv50, hf⟩ := zc_1 hf
              refine zw_lald (pc := 239) hx hb hK hP 8 1 rfl rfl hv50 dX11_rows_239 ?_
              obtain ⟨a51, ha51, hf⟩ := zc_1 hf
              refine zw_last (pc := 240) hx hb hK hP hD hS 7 1 rfl rfl ha51 dX11_rows_240 (fun H locs hP hD hS => ?_)
              have hP : va_P (dC, dI) zz_cls [zr_o ad (0 : Int32) f_taped f_at f_behind f_size f_kind f_number f_wrong f_wrongAt f_faultKind f_faultPlace f_reading f_toldWhy f_x v3 f_bestMany f_tail f_round1, (ad 2, .inl (dA 0, 2982, .inl b_all)), (ad 17, .inl (dA 0, 900, .inl a4)), (ad 18, .inl (dA 0, 6, .inl a5)), (ad 22, .inl (dA 0, 2880, .inl a6)), (ad 23, .inl (dA 0, 43200, .inl a7)), (ad 25, .inl (dA 2, 2880, .inl a8)), (ad 27, .inl (dA 1, 2880, .inr (.inl a51))), (ad 28, .inl (dA 1, 2880, .inr (.inl a47)))] H := hP
              have hD : va_D A [zr_o ad (0 : Int32) f_taped f_at f_behind f_size f_kind f_number f_wrong f_wrongAt f_faultKind f_faultPlace f_reading f_toldWhy f_x v3 f_bestMany f_tail f_round1, (ad 2, .inl (dA 0, 2982, .inl b_all)), (ad 17, .inl (dA 0, 900, .inl a4)), (ad 18, .inl (dA 0, 6, .inl a5)), (ad 22, .inl (dA 0, 2880, .inl a6)), (ad 23, .inl (dA 0, 43200, .inl a7)), (ad 25, .inl (dA 2, 2880, .inl a8)), (ad 27, .inl (dA 1, 2880, .inr (.inl a51))), (ad 28, .inl (dA 1, 2880, .inr (.inl a47)))] := hD
              refine lv_aload_n (pc := 241) hx hb dX11_rows_241 rfl (lv_at hl 0 rfl) ?_
              refine va_get (pc := 242) (D := (dC, dI)) (ci := 0) (v := .ref (ad 28)) (C := RX11) (T := TX11) (N := 42) hx hb ht zr_lay hown hK hP 0 rfl rfl 27 (by decide) (ht _ zr_22) (fun _ h9 => h9) rfl dX11_rows_242 ?_
              refine lv_aload_n (pc := 245) hx hb dX11_rows_245 rfl (lv_at hl 0 rfl) ?_
              refine va_get (pc := 246) (D := (dC, dI)) (ci := 0) (v := .ref (ad 22)) (C := RX11) (T := TX11) (N := 42) hx hb ht zr_lay hown hK hP 0 rfl rfl 21 (by decide) (ht _ zr_15) (fun _ h9 => h9) rfl dX11_rows_246 ?_
              refine lv_iload (pc := 249) hx hb dX11_rows_249 (lv_at hl 5 rfl) ?_
              obtain ⟨v52, hv52, hf⟩ := zc_1 hf
              refine zw_iald (pc := 251) hx hb hK hP 4 0 rfl rfl hv52 dX11_rows_251 ?_
              refine lv_lconst (v := (0 : Int64)) (pc := 252) hx hb dX11_rows_252 (by decide) ?_
              obtain ⟨a53, ha53, hf⟩ := zc_1 hf
              refine zw_last (pc := 253) hx hb hK hP hD hS 8 1 rfl rfl ha53 dX11_rows_253 (fun H locs hP hD hS => ?_)
              have hP : va_P (dC, dI) zz_cls [zr_o ad (0 : Int32) f_taped f_at f_behind f_size f_kind f_number f_wrong f_wrongAt f_faultKind f_faultPlace f_reading f_toldWhy f_x v3 f_bestMany f_tail f_round1, (ad 2, .inl (dA 0, 2982, .inl b_all)), (ad 17, .inl (dA 0, 900, .inl a4)), (ad 18, .inl (dA 0, 6, .inl a5)), (ad 22, .inl (dA 0, 2880, .inl a6)), (ad 23, .inl (dA 0, 43200, .inl a7)), (ad 25, .inl (dA 2, 2880, .inl a8)), (ad 27, .inl (dA 1, 2880, .inr (.inl a51))), (ad 28, .inl (dA 1, 2880, .inr (.inl a53)))] H := hP
              have hD : va_D A [zr_o ad (0 : Int32) f_taped f_at f_behind f_size f_kind f_number f_wrong f_wrongAt f_faultKind f_faultPlace f_reading f_toldWhy f_x v3 f_bestMany f_tail f_round1, (ad 2, .inl (dA 0, 2982, .inl b_all)), (ad 17, .inl (dA 0, 900, .inl a4)), (ad 18, .inl (dA 0, 6, .inl a5)), (ad 22, .inl (dA 0, 2880, .inl a6)), (ad 23, .inl (dA 0, 43200, .inl a7)), (ad 25, .inl (dA 2, 2880, .inl a8)), (ad 27, .inl (dA 1, 2880, .inr (.inl a51))), (ad 28, .inl (dA 1, 2880, .inr (.inl a53)))] := hD
              obtain ⟨v54, hv54, hf⟩ := zc_1 hf
              refine lv_iinc (v := v54) (lv' := [(6, .int v54), (0, .ref (ad 0)), (1, .int p1), (2, .int p2), (3, .int p3), (5, .int v22)]) (k := 5) (pc := 254) hx hb dX11_rows_254 hl rfl (Option.some.inj hv54) (by decide) rfl (fun ls hl => ?_)
              refine lv_goto (tgt := 208) (pc := 257) hx hb dX11_rows_257 rfl ?_
              obtain rfl := Option.some.inj hf
              exact ih rfl _ _ _ ⟨lv_sub hl [1, 2, 3, 4, 5, 0] rfl, hP, hD, hS⟩
          clear hf
          refine zw_loop (pcH := 108) (X := fun v H locs ls => lv_has ls 9 [(0, .ref (ad 0)), (1, .int p1), (2, .int p2), (3, .int p3), (5, .int v22), (6, .int v.1)] ∧ va_P (dC, dI) zz_cls [zr_o ad (0 : Int32) f_taped f_at f_behind f_size f_kind f_number f_wrong f_wrongAt f_faultKind f_faultPlace f_reading f_toldWhy f_x v3 f_bestMany f_tail f_round1, (ad 2, .inl (dA 0, 2982, .inl b_all)), (ad 17, .inl (dA 0, 900, .inl a4)), (ad 18, .inl (dA 0, 6, .inl a5)), (ad 22, .inl (dA 0, 2880, .inl a6)), (ad 23, .inl (dA 0, 43200, .inl a7)), (ad 25, .inl (dA 2, 2880, .inl a8)), (ad 27, .inl (dA 1, 2880, .inr (.inl a23))), (ad 28, .inl (dA 1, 2880, .inr (.inl v.2)))] H ∧ va_D A [zr_o ad (0 : Int32) f_taped f_at f_behind f_size f_kind f_number f_wrong f_wrongAt f_faultKind f_faultPlace f_reading f_toldWhy f_x v3 f_bestMany f_tail f_round1, (ad 2, .inl (dA 0, 2982, .inl b_all)), (ad 17, .inl (dA 0, 900, .inl a4)), (ad 18, .inl (dA 0, 6, .inl a5)), (ad 22, .inl (dA 0, 2880, .inl a6)), (ad 23, .inl (dA 0, 43200, .inl a7)), (ad 25, .inl (dA 2, 2880, .inl a8)), (ad 27, .inl (dA 1, 2880, .inr (.inl a23))), (ad 28, .inl (dA 1, 2880, .inr (.inl v.2)))] ∧ va_S A s.heap H locs) hj (fun v w hf ih ex H locs ls hX => ?_) _ _ _ ⟨lv_sub hl [1, 2, 3, 4, 5, 0] rfl, hP, hD, hS⟩
          clear hj
          obtain ⟨v25, a26⟩ := v
          obtain ⟨hl, hP, hD, hS⟩ := hX
          have hl : lv_has ls 9 [(0, .ref (ad 0)), (1, .int p1), (2, .int p2), (3, .int p3), (5, .int v22), (6, .int v25)] := hl
          have hP : va_P (dC, dI) zz_cls [zr_o ad (0 : Int32) f_taped f_at f_behind f_size f_kind f_number f_wrong f_wrongAt f_faultKind f_faultPlace f_reading f_toldWhy f_x v3 f_bestMany f_tail f_round1, (ad 2, .inl (dA 0, 2982, .inl b_all)), (ad 17, .inl (dA 0, 900, .inl a4)), (ad 18, .inl (dA 0, 6, .inl a5)), (ad 22, .inl (dA 0, 2880, .inl a6)), (ad 23, .inl (dA 0, 43200, .inl a7)), (ad 25, .inl (dA 2, 2880, .inl a8)), (ad 27, .inl (dA 1, 2880, .inr (.inl a23))), (ad 28, .inl (dA 1, 2880, .inr (.inl a26)))] H := hP
          have hD : va_D A [zr_o ad (0 : Int32) f_taped f_at f_behind f_size f_kind f_number f_wrong f_wrongAt f_faultKind f_faultPlace f_reading f_toldWhy f_x v3 f_bestMany f_tail f_round1, (ad 2, .inl (dA 0, 2982, .inl b_all)), (ad 17, .inl (dA 0, 900, .inl a4)), (ad 18, .inl (dA 0, 6, .inl a5)), (ad 22, .inl (dA 0, 2880, .inl a6)), (ad 23, .inl (dA 0, 43200, .inl a7)), (ad 25, .inl (dA 2, 2880, .inl a8)), (ad 27, .inl (dA 1, 2880, .inr (.inl a23))), (ad 28, .inl (dA 1, 2880, .inr (.inl a26)))] := hD
          replace hf : zb_X11_rows_108 v3 a6 a23 a7 n v25 a26 = some w := hf
          unfold zb_X11_rows_108 at hf
          refine lv_iload (pc := 108) hx hb dX11_rows_108 (lv_at hl 5 rfl) ?_
          refine lv_aload_n (pc := 110) hx hb dX11_rows_110 rfl (lv_at hl 0 rfl) ?_
          refine va_get (pc := 111) (D := (dC, dI)) (ci := 0) (v := .int v3) (C := RX11) (T := TX11) (N := 42) hx hb ht zr_lay hown hK hP 0 rfl rfl 25 (by decide) (ht _ zr_340) (fun _ h9 => h9) rfl dX11_rows_111 ?_
          refine lv_icmp_ge (tgt := 205) (pc := 114) hx hb dX11_rows_114 rfl (fun hc => ?_) (fun hc => ?_)
          · have hf := za_t hf hc
            obtain rfl := Option.some.inj hf
            obtain ⟨rfl, rfl, rfl⟩ := zp_3 (ex (show ¬ (1 : Nat) = 0 by decide))
            exact E205 _ _ _ ⟨lv_sub hl [0, 1, 2, 3, 4] rfl, hP, hD, hS⟩
          · have hf := za_f hf hc
            refine lv_aload_n (pc := 117) hx hb dX11_rows_117 rfl (lv_at hl 0 rfl) ?_
            refine va_get (pc := 118) (D := (dC, dI)) (ci := 0) (v := .ref (ad 22)) (C := RX11) (T := TX11) (N := 42) hx hb ht zr_lay hown hK hP 0 rfl rfl 21 (by decide) (ht _ zr_15) (fun _ h9 => h9) rfl dX11_rows_118 ?_
            refine lv_iload (pc := 121) hx hb dX11_rows_121 (lv_at hl 5 rfl) ?_
            obtain ⟨v27, hv27, hf⟩ := zc_1 hf
            refine zw_iald (pc := 123) hx hb hK hP 4 0 rfl rfl hv27 dX11_rows_123 ?_
            refine lv_istore (lv' := [(7, .int v27), (0, .ref (ad 0)), (1, .int p1), (2, .int p2), (3, .int p3), (5, .int v22), (6, .int v25)]) (pc := 124) hx hb dX11_rows_124 hl (by decide) rfl (fun ls hl => ?_)
            refine lv_iconst (v := (0 : Int32)) (pc := 126) hx hb dX11_rows_126 (by decide) ?_
            refine lv_istore (lv' := [(8, .int (0 : Int32)), (7, .int v27), (0, .ref (ad 0)), (1, .int p1), (2, .int p2), (3, .int p3), (5, .int v22), (6, .int v25)]) (pc := 127) hx hb dX11_rows_127 hl (by decide) rfl (fun ls hl => ?_)
            obtain ⟨g40, v38, a39, hj, hf⟩ := zc_3 hf
            refine zj_join (pcJ := 199) (stk := []) (X := fun H locs ls => lv_has ls 9 [(0, .ref (ad 0)), (1, .int p1), (2, .int p2), (3, .int p3), (5, .int v22), (6, .int v25)] ∧ va_P (dC, dI) zz_cls [zr_o ad (0 : Int32) f_taped f_at f_behind f_size f_kind f_number f_wrong f_wrongAt f_faultKind f_faultPlace f_reading f_toldWhy f_x v3 f_bestMany f_tail f_round1, (ad 2, .inl (dA 0, 2982, .inl b_all)), (ad 17, .inl (dA 0, 900, .inl a4)), (ad 18, .inl (dA 0, 6, .inl a5)), (ad 22, .inl (dA 0, 2880, .inl a6)), (ad 23, .inl (dA 0, 43200, .inl a7)), (ad 25, .inl (dA 2, 2880, .inl a8)), (ad 27, .inl (dA 1, 2880, .inr (.inl a23))), (ad 28, .inl (dA 1, 2880, .inr (.inl a39)))] H ∧ va_D A [zr_o ad (0 : Int32) f_taped f_at f_behind f_size f_kind f_number f_wrong f_wrongAt f_faultKind f_faultPlace f_reading f_toldWhy f_x v3 f_bestMany f_tail f_round1, (ad 2, .inl (dA 0, 2982, .inl b_all)), (ad 17, .inl (dA 0, 900, .inl a4)), (ad 18, .inl (dA 0, 6, .inl a5)), (ad 22, .inl (dA 0, 2880, .inl a6)), (ad 23, .inl (dA 0, 43200, .inl a7)), (ad 25, .inl (dA 2, 2880, .inl a8)), (ad 27, .inl (dA 1, 2880, .inr (.inl a23))), (ad 28, .inl (dA 1, 2880, .inr (.inl a39)))] ∧ va_S A s.heap H locs) (fun H locs ls hX => ?_) (fun E199 => ?_)
            · obtain ⟨hl, hP, hD, hS⟩ := hX
              clear hj
              obtain ⟨v41, hv41, hf⟩ := zc_1 hf
              refine lv_iinc (v := v41) (lv' := [(6, .int v41), (0, .ref (ad 0)), (1, .int p1), (2, .int p2), (3, .int p3), (5, .int v22)]) (k := 5) (pc := 199) hx hb dX11_rows_199 hl rfl (Option.some.inj hv41) (by decide) rfl (fun ls hl => ?_)
              refine lv_goto (tgt := 108) (pc := 202) hx hb dX11_rows_202 rfl ?_
              obtain rfl := Option.some.inj hf
              exact ih rfl _ _ _ ⟨lv_sub hl [1, 2, 3, 4, 5, 0] rfl, hP, hD, hS⟩
            clear hf
            refine zw_loop (pcH := 129) (X := fun v H locs ls => lv_has ls 9 [(0, .ref (ad 0)), (1, .int p1), (2, .int p2), (3, .int p3), (5, .int v22), (6, .int v25), (7, .int v27), (8, .int v.1)] ∧ va_P (dC, dI) zz_cls [zr_o ad (0 : Int32) f_taped f_at f_behind f_size f_kind f_number f_wrong f_wrongAt f_faultKind f_faultPlace f_reading f_toldWhy f_x v3 f_bestMany f_tail f_round1, (ad 2, .inl (dA 0, 2982, .inl b_all)), (ad 17, .inl (dA 0, 900, .inl a4)), (ad 18, .inl (dA 0, 6, .inl a5)), (ad 22, .inl (dA 0, 2880, .inl a6)), (ad 23, .inl (dA 0, 43200, .inl a7)), (ad 25, .inl (dA 2, 2880, .inl a8)), (ad 27, .inl (dA 1, 2880, .inr (.inl a23))), (ad 28, .inl (dA 1, 2880, .inr (.inl v.2)))] H ∧ va_D A [zr_o ad (0 : Int32) f_taped f_at f_behind f_size f_kind f_number f_wrong f_wrongAt f_faultKind f_faultPlace f_reading f_toldWhy f_x v3 f_bestMany f_tail f_round1, (ad 2, .inl (dA 0, 2982, .inl b_all)), (ad 17, .inl (dA 0, 900, .inl a4)), (ad 18, .inl (dA 0, 6, .inl a5)), (ad 22, .inl (dA 0, 2880, .inl a6)), (ad 23, .inl (dA 0, 43200, .inl a7)), (ad 25, .inl (dA 2, 2880, .inl a8)), (ad 27, .inl (dA 1, 2880, .inr (.inl a23))), (ad 28, .inl (dA 1, 2880, .inr (.inl v.2)))] ∧ va_S A s.heap H locs) hj (fun v w hf ih ex H locs ls hX => ?_) _ _ _ ⟨lv_sub hl [2, 3, 4, 5, 6, 7, 1, 0] rfl, hP, hD, hS⟩
            clear hj
            obtain ⟨v28, a29⟩ := v
            obtain ⟨hl, hP, hD, hS⟩ := hX
            have hl : lv_has ls 9 [(0, .ref (ad 0)), (1, .int p1), (2, .int p2), (3, .int p3), (5, .int v22), (6, .int v25), (7, .int v27), (8, .int v28)] := hl
            have hP : va_P (dC, dI) zz_cls [zr_o ad (0 : Int32) f_taped f_at f_behind f_size f_kind f_number f_wrong f_wrongAt f_faultKind f_faultPlace f_reading f_toldWhy f_x v3 f_bestMany f_tail f_round1, (ad 2, .inl (dA 0, 2982, .inl b_all)), (ad 17, .inl (dA 0, 900, .inl a4)), (ad 18, .inl (dA 0, 6, .inl a5)), (ad 22, .inl (dA 0, 2880, .inl a6)), (ad 23, .inl (dA 0, 43200, .inl a7)), (ad 25, .inl (dA 2, 2880, .inl a8)), (ad 27, .inl (dA 1, 2880, .inr (.inl a23))), (ad 28, .inl (dA 1, 2880, .inr (.inl a29)))] H := hP
            have hD : va_D A [zr_o ad (0 : Int32) f_taped f_at f_behind f_size f_kind f_number f_wrong f_wrongAt f_faultKind f_faultPlace f_reading f_toldWhy f_x v3 f_bestMany f_tail f_round1, (ad 2, .inl (dA 0, 2982, .inl b_all)), (ad 17, .inl (dA 0, 900, .inl a4)), (ad 18, .inl (dA 0, 6, .inl a5)), (ad 22, .inl (dA 0, 2880, .inl a6)), (ad 23, .inl (dA 0, 43200, .inl a7)), (ad 25, .inl (dA 2, 2880, .inl a8)), (ad 27, .inl (dA 1, 2880, .inr (.inl a23))), (ad 28, .inl (dA 1, 2880, .inr (.inl a29)))] := hD
            replace hf : zb_X11_rows_129 a23 v27 a7 v28 a29 = some w := hf
            unfold zb_X11_rows_129 at hf
            refine lv_iload (pc := 129) hx hb dX11_rows_129 (lv_at hl 7 rfl) ?_
            refine lv_bipush (v := (15 : Int32)) (pc := 131) hx hb dX11_rows_131 (by decide) ?_
            refine lv_icmp_ge (tgt := 199) (pc := 133) hx hb dX11_rows_133 rfl (fun hc => ?_) (fun hc => ?_)
            · have hf := za_t hf hc
              obtain rfl := Option.some.inj hf
              obtain ⟨rfl, rfl, rfl⟩ := zp_3 (ex (show ¬ (1 : Nat) = 0 by decide))
              exact E199 _ _ _ ⟨lv_sub hl [0, 1, 2, 3, 4, 5] rfl, hP, hD, hS⟩
            · have hf := za_f hf hc
              refine lv_aload_n (pc := 136) hx hb dX11_rows_136 rfl (lv_at hl 0 rfl) ?_
              refine va_get (pc := 137) (D := (dC, dI)) (ci := 0) (v := .ref (ad 27)) (C := RX11) (T := TX11) (N := 42) hx hb ht zr_lay hown hK hP 0 rfl rfl 26 (by decide) (ht _ zr_21) (fun _ h9 => h9) rfl dX11_rows_137 ?_
              refine lv_iload (pc := 140) hx hb dX11_rows_140 (lv_at hl 6 rfl) ?_
              obtain ⟨v30, hv30, hf⟩ := zc_1 hf
              refine zw_lald (pc := 142) hx hb hK hP 7 1 rfl rfl hv30 dX11_rows_142 ?_
              refine lv_lconst (v := (0 : Int64)) (pc := 143) hx hb dX11_rows_143 (by decide) ?_
              refine W.lcmp (pc := 144) hx hb dX11_rows_144 ?_
              refine lv_if_le (tgt := 199) (pc := 145) hx hb dX11_rows_145 rfl (fun hc => ?_) (fun hc => ?_)
              · have hf := za_t hf hc
                obtain rfl := Option.some.inj hf
                obtain ⟨rfl, rfl, rfl⟩ := zp_3 (ex (show ¬ (1 : Nat) = 0 by decide))
                exact E199 _ _ _ ⟨lv_sub hl [0, 1, 2, 3, 4, 5] rfl, hP, hD, hS⟩
              · have hf := za_f hf hc
                refine lv_aload_n (pc := 148) hx hb dX11_rows_148 rfl (lv_at hl 0 rfl) ?_
                refine va_get (pc := 149) (D := (dC, dI)) (ci := 0) (v := .ref (ad 23)) (C := RX11) (T := TX11) (N := 42) hx hb ht zr_lay hown hK hP 0 rfl rfl 22 (by decide) (ht _ zr_17) (fun _ h9 => h9) rfl dX11_rows_149 ?_
                refine lv_bipush (v := (15 : Int32)) (pc := 152) hx hb dX11_rows_152 (by decide) ?_
                refine lv_iload (pc := 154) hx hb dX11_rows_154 (lv_at hl 6 rfl) ?_
                refine lv_imul (pc := 156) hx hb dX11_rows_156 ?_
                refine lv_iload (pc := 157) hx hb dX11_rows_157 (lv_at hl 7 rfl) ?_
                refine lv_iadd (pc := 159) hx hb dX11_rows_159 ?_
                obtain ⟨v31, hv31, hf⟩ := zc_1 hf
                refine zw_iald (pc := 160) hx hb hK hP 5 0 rfl rfl hv31 dX11_rows_160 ?_
                refine lv_iconst (v := (-1 : Int32)) (pc := 161) hx hb dX11_rows_161 (by decide) ?_
                obtain ⟨a36, hj, hf⟩ := zc_1 hf
                refine zj_join (pcJ := 193) (stk := []) (X := fun H locs ls => lv_has ls 9 [(0, .ref (ad 0)), (1, .int p1), (2, .int p2), (3, .int p3), (5, .int v22), (6, .int v25), (7, .int v27), (8, .int v28)] ∧ va_P (dC, dI) zz_cls [zr_o ad (0 : Int32) f_taped f_at f_behind f_size f_kind f_number f_wrong f_wrongAt f_faultKind f_faultPlace f_reading f_toldWhy f_x v3 f_bestMany f_tail f_round1, (ad 2, .inl (dA 0, 2982, .inl b_all)), (ad 17, .inl (dA 0, 900, .inl a4)), (ad 18, .inl (dA 0, 6, .inl a5)), (ad 22, .inl (dA 0, 2880, .inl a6)), (ad 23, .inl (dA 0, 43200, .inl a7)), (ad 25, .inl (dA 2, 2880, .inl a8)), (ad 27, .inl (dA 1, 2880, .inr (.inl a23))), (ad 28, .inl (dA 1, 2880, .inr (.inl a36)))] H ∧ va_D A [zr_o ad (0 : Int32) f_taped f_at f_behind f_size f_kind f_number f_wrong f_wrongAt f_faultKind f_faultPlace f_reading f_toldWhy f_x v3 f_bestMany f_tail f_round1, (ad 2, .inl (dA 0, 2982, .inl b_all)), (ad 17, .inl (dA 0, 900, .inl a4)), (ad 18, .inl (dA 0, 6, .inl a5)), (ad 22, .inl (dA 0, 2880, .inl a6)), (ad 23, .inl (dA 0, 43200, .inl a7)), (ad 25, .inl (dA 2, 2880, .inl a8)), (ad 27, .inl (dA 1, 2880, .inr (.inl a23))), (ad 28, .inl (dA 1, 2880, .inr (.inl a36)))] ∧ va_S A s.heap H locs) (fun H locs ls hX => ?_) (fun J193 => ?_)
                · obtain ⟨hl, hP, hD, hS⟩ := hX
                  clear hj
                  obtain ⟨v37, hv37, hf⟩ := zc_1 hf
                  refine lv_iinc (v := v37) (lv' := [(8, .int v37), (0, .ref (ad 0)), (1, .int p1), (2, .int p2), (3, .int p3), (5, .int v22), (6, .int v25), (7, .int v27)]) (k := 7) (pc := 193) hx hb dX11_rows_193 hl rfl (Option.some.inj hv37) (by decide) rfl (fun ls hl => ?_)
                  refine lv_goto (tgt := 129) (pc := 196) hx hb dX11_rows_196 rfl ?_
                  obtain rfl := Option.some.inj hf
                  exact ih rfl _ _ _ ⟨lv_sub hl [1, 2, 3, 4, 5, 6, 7, 0] rfl, hP, hD, hS⟩
                · clear hf
                  have hf := hj
                  clear hj
                  refine lv_icmp_eq (tgt := 193) (pc := 162) hx hb dX11_rows_162 rfl (fun hc => ?_) (fun hc => ?_)
                  · have hf := za_t hf hc
                    obtain rfl := Option.some.inj hf
                    exact J193 _ _ _ ⟨lv_sub hl [0, 1, 2, 3, 4, 5, 6, 7] rfl, hP, hD, hS⟩
                  · have hf := za_f hf hc
                    refine lv_aload_n (pc := 165) hx hb dX11_rows_165 rfl (lv_at hl 0 rfl) ?_
                    refine va_get (pc := 166) (D := (dC, dI)) (ci := 0) (v := .ref (ad 28)) (C := RX11) (T := TX11) (N := 42) hx hb ht zr_lay hown hK hP 0 rfl rfl 27 (by decide) (ht _ zr_22) (fun _ h9 => h9) rfl dX11_rows_166 ?_
                    refine lv_aload_n (pc := 169) hx hb dX11_rows_169 rfl (lv_at hl 0 rfl) ?_
                    refine va_get (pc := 170) (D := (dC, dI)) (ci := 0) (v := .ref (ad 23)) (C := RX11) (T := TX11) (N := 42) hx hb ht zr_lay hown hK hP 0 rfl rfl 22 (by decide) (ht _ zr_17) (fun _ h9 => h9) rfl dX11_rows_170 ?_
                    refine lv_bipush (v := (15 : Int32)) (pc := 173) hx hb dX11_rows_173 (by decide) ?_
                    refine lv_iload (pc := 175) hx hb dX11_rows_175 (lv_at hl 6 rfl) ?_
                    refine lv_imul (pc := 177) hx hb dX11_rows_177 ?_
                    refine lv_iload (pc := 178) hx hb dX11_rows_178 (lv_at hl 7 rfl) ?_
                    refine lv_iadd (pc := 180) hx hb dX11_rows_180 ?_
                    obtain ⟨v32, hv32, hf⟩ := zc_1 hf
                    refine zw_iald (pc := 181) hx hb hK hP 5 0 rfl rfl hv32 dX11_rows_181 ?_
                    refine lv_dup2_11 (pc := 182) hx hb dX11_rows_182 rfl rfl ?_
                    obtain ⟨v33, hv33, hf⟩ := zc_1 hf
                    refine zw_lald (pc := 183) hx hb hK hP 8 1 rfl rfl hv33 dX11_rows_183 ?_
                    refine lv_aload_n (pc := 184) hx hb dX11_rows_184 rfl (lv_at hl 0 rfl) ?_
                    refine va_get (pc := 185) (D := (dC, dI)) (ci := 0) (v := .ref (ad 27)) (C := RX11) (T := TX11) (N := 42) hx hb ht zr_lay hown hK hP 0 rfl rfl 26 (by decide) (ht _ zr_21) (fun _ h9 => h9) rfl dX11_rows_185 ?_
                    refine lv_iload (pc := 188) hx hb dX11_rows_188 (lv_at hl 6 rfl) ?_
                    obtain ⟨v34, hv34, hf⟩ := zc_1 hf
                    refine zw_lald (pc := 190) hx hb hK hP 7 1 rfl rfl hv34 dX11_rows_190 ?_
                    refine lv_ladd (pc := 191) hx hb dX11_rows_191 ?_
                    obtain ⟨a35, ha35, hf⟩ := zc_1 hf
                    refine zw_last (pc := 192) hx hb hK hP hD hS 8 1 rfl rfl ha35 dX11_rows_192 (fun H locs hP hD hS => ?_)
                    have hP : va_P (dC, dI) zz_cls [zr_o ad (0 : Int32) f_taped f_at f_behind f_size f_kind f_number f_wrong f_wrongAt f_faultKind f_faultPlace f_reading f_toldWhy f_x v3 f_bestMany f_tail f_round1, (ad 2, .inl (dA 0, 2982, .inl b_all)), (ad 17, .inl (dA 0, 900, .inl a4)), (ad 18, .inl (dA 0, 6, .inl a5)), (ad 22, .inl (dA 0, 2880, .inl a6)), (ad 23, .inl (dA 0, 43200, .inl a7)), (ad 25, .inl (dA 2, 2880, .inl a8)), (ad 27, .inl (dA 1, 2880, .inr (.inl a23))), (ad 28, .inl (dA 1, 2880, .inr (.inl a35)))] H := hP
                    have hD : va_D A [zr_o ad (0 : Int32) f_taped f_at f_behind f_size f_kind f_number f_wrong f_wrongAt f_faultKind f_faultPlace f_reading f_toldWhy f_x v3 f_bestMany f_tail f_round1, (ad 2, .inl (dA 0, 2982, .inl b_all)), (ad 17, .inl (dA 0, 900, .inl a4)), (ad 18, .inl (dA 0, 6, .inl a5)), (ad 22, .inl (dA 0, 2880, .inl a6)), (ad 23, .inl (dA 0, 43200, .inl a7)), (ad 25, .inl (dA 2, 2880, .inl a8)), (ad 27, .inl (dA 1, 2880, .inr (.inl a23))), (ad 28, .inl (dA 1, 2880, .inr (.inl a35)))] := hD
                    obtain rfl := Option.some.inj hf
                    exact J193 _ _ _ ⟨lv_sub hl [0, 1, 2, 3, 4, 5, 6, 7] rfl, hP, hD, hS⟩
      clear hf
      refine zw_loop (pcH := 46) (X := fun v H locs ls => lv_has ls 9 [(0, .ref (ad 0)), (1, .int p1), (2, .int p2), (3, .int p3), (5, .int v.1)] ∧ va_P (dC, dI) zz_cls [zr_o ad (0 : Int32) f_taped f_at f_behind f_size f_kind f_number f_wrong f_wrongAt f_faultKind f_faultPlace f_reading f_toldWhy f_x v3 f_bestMany f_tail f_round1, (ad 2, .inl (dA 0, 2982, .inl b_all)), (ad 17, .inl (dA 0, 900, .inl a4)), (ad 18, .inl (dA 0, 6, .inl a5)), (ad 22, .inl (dA 0, 2880, .inl a6)), (ad 23, .inl (dA 0, 43200, .inl a7)), (ad 25, .inl (dA 2, 2880, .inl a8)), (ad 27, .inl (dA 1, 2880, .inr (.inl v.2.1))), (ad 28, .inl (dA 1, 2880, .inr (.inl v.2.2)))] H ∧ va_D A [zr_o ad (0 : Int32) f_taped f_at f_behind f_size f_kind f_number f_wrong f_wrongAt f_faultKind f_faultPlace f_reading f_toldWhy f_x v3 f_bestMany f_tail f_round1, (ad 2, .inl (dA 0, 2982, .inl b_all)), (ad 17, .inl (dA 0, 900, .inl a4)), (ad 18, .inl (dA 0, 6, .inl a5)), (ad 22, .inl (dA 0, 2880, .inl a6)), (ad 23, .inl (dA 0, 43200, .inl a7)), (ad 25, .inl (dA 2, 2880, .inl a8)), (ad 27, .inl (dA 1, 2880, .inr (.inl v.2.1))), (ad 28, .inl (dA 1, 2880, .inr (.inl v.2.2)))] ∧ va_S A s.heap H locs) hj (fun v w hf ih ex H locs ls hX => ?_) _ _ _ ⟨lv_sub hl [2, 3, 4, 5, 0] rfl, hP.sub [2, 3, 4, 5, 6, 7, 8, 0, 1] rfl, hD.sub [2, 3, 4, 5, 6, 7, 8, 0, 1] (by decide) rfl, hS⟩
      clear hj
      obtain ⟨v9, a10, a11⟩ := v
      obtain ⟨hl, hP, hD, hS⟩ := hX
      have hl : lv_has ls 9 [(0, .ref (ad 0)), (1, .int p1), (2, .int p2), (3, .int p3), (5, .int v9)] := hl
      have hP : va_P (dC, dI) zz_cls [zr_o ad (0 : Int32) f_taped f_at f_behind f_size f_kind f_number f_wrong f_wrongAt f_faultKind f_faultPlace f_reading f_toldWhy f_x v3 f_bestMany f_tail f_round1, (ad 2, .inl (dA 0, 2982, .inl b_all)), (ad 17, .inl (dA 0, 900, .inl a4)), (ad 18, .inl (dA 0, 6, .inl a5)), (ad 22, .inl (dA 0, 2880, .inl a6)), (ad 23, .inl (dA 0, 43200, .inl a7)), (ad 25, .inl (dA 2, 2880, .inl a8)), (ad 27, .inl (dA 1, 2880, .inr (.inl a10))), (ad 28, .inl (dA 1, 2880, .inr (.inl a11)))] H := hP
      have hD : va_D A [zr_o ad (0 : Int32) f_taped f_at f_behind f_size f_kind f_number f_wrong f_wrongAt f_faultKind f_faultPlace f_reading f_toldWhy f_x v3 f_bestMany f_tail f_round1, (ad 2, .inl (dA 0, 2982, .inl b_all)), (ad 17, .inl (dA 0, 900, .inl a4)), (ad 18, .inl (dA 0, 6, .inl a5)), (ad 22, .inl (dA 0, 2880, .inl a6)), (ad 23, .inl (dA 0, 43200, .inl a7)), (ad 25, .inl (dA 2, 2880, .inl a8)), (ad 27, .inl (dA 1, 2880, .inr (.inl a10))), (ad 28, .inl (dA 1, 2880, .inr (.inl a11)))] := hD
      replace hf : zb_X11_rows_46 v3 a6 v9 a10 a11 = some w := hf
      unfold zb_X11_rows_46 at hf
      refine lv_iload (pc := 46) hx hb dX11_rows_46 (lv_at hl 4 rfl) ?_
      refine lv_aload_n (pc := 48) hx hb dX11_rows_48 rfl (lv_at hl 0 rfl) ?_
      refine va_get (pc := 49) (D := (dC, dI)) (ci := 0) (v := .int v3) (C := RX11) (T := TX11) (N := 42) hx hb ht zr_lay hown hK hP 0 rfl rfl 25 (by decide) (ht _ zr_340) (fun _ h9 => h9) rfl dX11_rows_49 ?_
      refine lv_icmp_ge (tgt := 96) (pc := 52) hx hb dX11_rows_52 rfl (fun hc => ?_) (fun hc => ?_)
      · have hf := za_t hf hc
        obtain rfl := Option.some.inj hf
        obtain ⟨rfl, rfl, rfl, rfl⟩ := zp_4 (ex (show ¬ (1 : Nat) = 0 by decide))
        exact E96 _ _ _ ⟨lv_sub hl [0, 1, 2, 3] rfl, hP, hD, hS⟩
      · have hf := za_f hf hc
        refine lv_aload_n (pc := 55) hx hb dX11_rows_55 rfl (lv_at hl 0 rfl) ?_
        refine va_get (pc := 56) (D := (dC, dI)) (ci := 0) (v := .ref (ad 27)) (C := RX11) (T := TX11) (N := 42) hx hb ht zr_lay hown hK hP 0 rfl rfl 26 (by decide) (ht _ zr_21) (fun _ h9 => h9) rfl dX11_rows_56 ?_
        refine lv_aload_n (pc := 59) hx hb dX11_rows_59 rfl (lv_at hl 0 rfl) ?_
        refine va_get (pc := 60) (D := (dC, dI)) (ci := 0) (v := .ref (ad 22)) (C := RX11) (T := TX11) (N := 42) hx hb ht zr_lay hown hK hP 0 rfl rfl 21 (by decide) (ht _ zr_15) (fun _ h9 => h9) rfl dX11_rows_60 ?_
        refine lv_iload (pc := 63) hx hb dX11_rows_63 (lv_at hl 4 rfl) ?_
        obtain ⟨v12, hv12, hf⟩ := zc_1 hf
        refine zw_iald (pc := 65) hx hb hK hP 4 0 rfl rfl hv12 dX11_rows_65 ?_
        refine lv_iload (pc := 66) hx hb dX11_rows_66 (lv_at hl 4 rfl) ?_
        obtain ⟨v13, hj, hf⟩ := zc_1 hf
        refine zj_join (pcJ := 76) (stk := [.long v13, .int v12, .ref (ad 27)]) (X := fun H locs ls => lv_has ls 9 [(0, .ref (ad 0)), (1, .int p1), (2, .int p2), (3, .int p3), (5, .int v9)] ∧ va_P (dC, dI) zz_cls [zr_o ad (0 : Int32) f_taped f_at f_behind f_size f_kind f_number f_wrong f_wrongAt f_faultKind f_faultPlace f_reading f_toldWhy f_x v3 f_bestMany f_tail f_round1, (ad 2, .inl (dA 0, 2982, .inl b_all)), (ad 17, .inl (dA 0, 900, .inl a4)), (ad 18, .inl (dA 0, 6, .inl a5)), (ad 22, .inl (dA 0, 2880, .inl a6)), (ad 23, .inl (dA 0, 43200, .inl a7)), (ad 25, .inl (dA 2, 2880, .inl a8)), (ad 27, .inl (dA 1, 2880, .inr (.inl a10))), (ad 28, .inl (dA 1, 2880, .inr (.inl a11)))] H ∧ va_D A [zr_o ad (0 : Int32) f_taped f_at f_behind f_size f_kind f_number f_wrong f_wrongAt f_faultKind f_faultPlace f_reading f_toldWhy f_x v3 f_bestMany f_tail f_round1, (ad 2, .inl (dA 0, 2982, .inl b_all)), (ad 17, .inl (dA 0, 900, .inl a4)), (ad 18, .inl (dA 0, 6, .inl a5)), (ad 22, .inl (dA 0, 2880, .inl a6)), (ad 23, .inl (dA 0, 43200, .inl a7)), (ad 25, .inl (dA 2, 2880, .inl a8)), (ad 27, .inl (dA 1, 2880, .inr (.inl a10))), (ad 28, .inl (dA 1, 2880, .inr (.inl a11)))] ∧ va_S A s.heap H locs) (fun H locs ls hX => ?_) (fun J76 => ?_)
        · obtain ⟨hl, hP, hD, hS⟩ := hX
          clear hj
          obtain ⟨a14, ha14, hf⟩ := zc_1 hf
          refine zw_last (pc := 76) hx hb hK hP hD hS 7 1 rfl rfl ha14 dX11_rows_76 (fun H locs hP hD hS => ?_)
          have hP : va_P (dC, dI) zz_cls [zr_o ad (0 : Int32) f_taped f_at f_behind f_size f_kind f_number f_wrong f_wrongAt f_faultKind f_faultPlace f_reading f_toldWhy f_x v3 f_bestMany f_tail f_round1, (ad 2, .inl (dA 0, 2982, .inl b_all)), (ad 17, .inl (dA 0, 900, .inl a4)), (ad 18, .inl (dA 0, 6, .inl a5)), (ad 22, .inl (dA 0, 2880, .inl a6)), (ad 23, .inl (dA 0, 43200, .inl a7)), (ad 25, .inl (dA 2, 2880, .inl a8)), (ad 27, .inl (dA 1, 2880, .inr (.inl a14))), (ad 28, .inl (dA 1, 2880, .inr (.inl a11)))] H := hP
          have hD : va_D A [zr_o ad (0 : Int32) f_taped f_at f_behind f_size f_kind f_number f_wrong f_wrongAt f_faultKind f_faultPlace f_reading f_toldWhy f_x v3 f_bestMany f_tail f_round1, (ad 2, .inl (dA 0, 2982, .inl b_all)), (ad 17, .inl (dA 0, 900, .inl a4)), (ad 18, .inl (dA 0, 6, .inl a5)), (ad 22, .inl (dA 0, 2880, .inl a6)), (ad 23, .inl (dA 0, 43200, .inl a7)), (ad 25, .inl (dA 2, 2880, .inl a8)), (ad 27, .inl (dA 1, 2880, .inr (.inl a14))), (ad 28, .inl (dA 1, 2880, .inr (.inl a11)))] := hD
          refine lv_aload_n (pc := 77) hx hb dX11_rows_77 rfl (lv_at hl 0 rfl) ?_
          refine va_get (pc := 78) (D := (dC, dI)) (ci := 0) (v := .ref (ad 28)) (C := RX11) (T := TX11) (N := 42) hx hb ht zr_lay hown hK hP 0 rfl rfl 27 (by decide) (ht _ zr_22) (fun _ h9 => h9) rfl dX11_rows_78 ?_
          refine lv_aload_n (pc := 81) hx hb dX11_rows_81 rfl (lv_at hl 0 rfl) ?_
          refine va_get (pc := 82) (D := (dC, dI)) (ci := 0) (v := .ref (ad 22)) (C := RX11) (T := TX11) (N := 42) hx hb ht zr_lay hown hK hP 0 rfl rfl 21 (by decide) (ht _ zr_15) (fun _ h9 => h9) rfl dX11_rows_82 ?_
          refine lv_iload (pc := 85) hx hb dX11_rows_85 (lv_at hl 4 rfl) ?_
          obtain ⟨v15, hv15, hf⟩ := zc_1 hf
          refine zw_iald (pc := 87) hx hb hK hP 4 0 rfl rfl hv15 dX11_rows_87 ?_
          refine lv_lconst (v := (0 : Int64)) (pc := 88) hx hb dX11_rows_88 (by decide) ?_
          obtain ⟨a16, ha16, hf⟩ := zc_1 hf
          refine zw_last (pc := 89) hx hb hK hP hD hS 8 1 rfl rfl ha16 dX11_rows_89 (fun H locs hP hD hS => ?_)
          have hP : va_P (dC, dI) zz_cls [zr_o ad (0 : Int32) f_taped f_at f_behind f_size f_kind f_number f_wrong f_wrongAt f_faultKind f_faultPlace f_reading f_toldWhy f_x v3 f_bestMany f_tail f_round1, (ad 2, .inl (dA 0, 2982, .inl b_all)), (ad 17, .inl (dA 0, 900, .inl a4)), (ad 18, .inl (dA 0, 6, .inl a5)), (ad 22, .inl (dA 0, 2880, .inl a6)), (ad 23, .inl (dA 0, 43200, .inl a7)), (ad 25, .inl (dA 2, 2880, .inl a8)), (ad 27, .inl (dA 1, 2880, .inr (.inl a14))), (ad 28, .inl (dA 1, 2880, .inr (.inl a16)))] H := hP
          have hD : va_D A [zr_o ad (0 : Int32) f_taped f_at f_behind f_size f_kind f_number f_wrong f_wrongAt f_faultKind f_faultPlace f_reading f_toldWhy f_x v3 f_bestMany f_tail f_round1, (ad 2, .inl (dA 0, 2982, .inl b_all)), (ad 17, .inl (dA 0, 900, .inl a4)), (ad 18, .inl (dA 0, 6, .inl a5)), (ad 22, .inl (dA 0, 2880, .inl a6)), (ad 23, .inl (dA 0, 43200, .inl a7)), (ad 25, .inl (dA 2, 2880, .inl a8)), (ad 27, .inl (dA 1, 2880, .inr (.inl a14))), (ad 28, .inl (dA 1, 2880, .inr (.inl a16)))] := hD
          obtain ⟨v17, hv17, hf⟩ := zc_1 hf
          refine lv_iinc (v := v17) (lv' := [(5, .int v17), (0, .ref (ad 0)), (1, .int p1), (2, .int p2), (3, .int p3)]) (k := 4) (pc := 90) hx hb dX11_rows_90 hl rfl (Option.some.inj hv17) (by decide) rfl (fun ls hl => ?_)
          refine lv_goto (tgt := 46) (pc := 93) hx hb dX11_rows_93 rfl ?_
          obtain rfl := Option.some.inj hf
          exact ih rfl _ _ _ ⟨lv_sub hl [1, 2, 3, 4, 0] rfl, hP, hD, hS⟩
        · clear hf
          have hf := hj
          clear hj
          refine lv_if_ne (tgt := 75) (pc := 68) hx hb dX11_rows_68 rfl (fun hc => ?_) (fun hc => ?_)
          · have hf := za_f hf hc
            refine lv_lconst (v := (0 : Int64)) (pc := 75) hx hb dX11_rows_75 (by decide) ?_
            obtain rfl := Option.some.inj hf
            exact J76 _ _ _ ⟨lv_sub hl [0, 1, 2, 3, 4] rfl, hP, hD, hS⟩
          · have hf := za_t hf hc
            refine lv_lconst (v := (1 : Int64)) (pc := 71) hx hb dX11_rows_71 (by decide) ?_
            refine lv_goto (tgt := 76) (pc := 72) hx hb dX11_rows_72 rfl ?_
            obtain rfl := Option.some.inj hf
            exact J76 _ _ _ ⟨lv_sub hl [0, 1, 2, 3, 4] rfl, hP, hD, hS⟩
    · have hf := za_t hf hc
      refine lv_ldc2 (v := (-3 : Int64)) (pc := 34) hx hb hown (ht _ zr_381) dX11_rows_34 ?_
      obtain ⟨rfl, rfl, rfl, rfl, rfl, rfl, rfl, rfl, rfl, rfl⟩ := zi_10 hf
      exact W.lret (pc := 37) hx hb hr (fun t ht hW => ⟨⟨_, (), rfl, rfl, zz_Bi (by rw [ht]; exact hP.sub [7, 8, 0, 1, 2, 3, 4, 5, 6] rfl) (va_K.moved hW.alike hK) (hD.sub [7, 8, 0, 1, 2, 3, 4, 5, 6] (by decide) rfl)⟩, hS.F ht⟩) hS.2.2 dX11_rows_37
  · have hf := za_f hf hc
    refine lv_iload (pc := 18) hx hb dX11_rows_18 (lv_at hl 0 rfl) ?_
    refine lv_i2l (pc := 20) hx hb dX11_rows_20 rfl ?_
    obtain ⟨rfl, rfl, rfl, rfl, rfl, rfl, rfl, rfl, rfl, rfl⟩ := zi_10 hf
    exact W.lret (pc := 21) hx hb hr (fun t ht hW => ⟨⟨_, (), rfl, rfl, zz_Bi (by rw [ht]; exact hP.sub [7, 8, 0, 1, 2, 3, 4, 5, 6] rfl) (va_K.moved hW.alike hK) (hD.sub [7, 8, 0, 1, 2, 3, 4, 5, 6] (by decide) rfl)⟩, hS.F ht⟩) hS.2.2 dX11_rows_21

def zb_X11_highest_25 (v2 : Int32) (a5 : (Nat → Int32)) (p1 : Int32) (v8 : Int32) (v9 : Int32) : Option (Nat × Int32 × Int32) :=
  if v2 ≤ v9 then
    some (1, v8, v9)
  else
    zd_1 (za_ld a5 2880 v9) (fun v10 =>
    zd_1 (zf_X11_hasIn v10) (fun v11 =>
    zd_1 (
      if (v11 &&& p1) = p1 then
        zd_1 (za_ld a5 2880 v9) (fun v12 =>
        zd_1 (zf_X11_rungIn v12) (fun v13 =>
        if v13 ≤ v8 then
          some v8
        else
          zd_1 (za_ld a5 2880 v9) (fun v14 =>
          zd_1 (zf_X11_rungIn v14) (fun v15 =>
          some v15))))
      else
        some v8) (fun v16 =>
    zd_1 (some (v9 + (1 : Int32))) (fun v17 =>
    some (0, v16, v17)))))
def zf_X11_highest (n : Nat) (f_thrown : Int32) (f_standMany : Int32) (b_all : (Nat → Int32)) (b_reckoned : (Nat → Int32)) (b_words : (Nat → Int32)) (b_stand : (Nat → Int32)) (b_then : (Nat → Int32)) (b_known : (Nat → Int32)) (p1 : Int32) : Option (Int32 × Int32 × Int32 × (Nat → Int32) × (Nat → Int32) × (Nat → Int32) × (Nat → Int32) × (Nat → Int32)) :=
  zd_1 (zf_X11_isSet b_all p1) (fun v1 =>
  if v1 = 0 then
    some ((-3 : Int32), (0 : Int32), f_standMany, b_reckoned, b_words, b_stand, b_then, b_known)
  else
    zd_6 (zf_X11_laysStands n f_standMany b_all b_reckoned b_words b_stand b_then b_known (0 : Int32)) (fun v2 a3 a4 a5 a6 a7 =>
    zd_3 (za_it (fun v => zb_X11_highest_25 v2 a5 p1 v.1 v.2) n ((-1 : Int32), (0 : Int32))) (fun g20 v18 v19 =>
    some (v18, (0 : Int32), v2, a3, a4, a5, a6, a7))))
theorem zk_X11_highest : yX11_highest.cls = RX11 ∧ yX11_highest.cls ≠ "java/lang/invoke/MethodHandle" ∧ yX11_highest.cls ≠ "java/lang/invoke/VarHandle" ∧ (parseMethodDescriptor yX11_highest.desc).map (fun d => d.parameters.length) = some 1 := by decide +kernel
set_option maxHeartbeats 4000000 in
set_option maxRecDepth 100000 in
theorem zt_X11_highest (l : Launch) (dC : Nat → ClassId) (dI : Nat → Nat → Nat) (dA : Nat → ClassId) (ad : Nat → Nat) (sz : Nat) (n : Nat) (f_thrown f_taped f_at f_behind f_size f_kind f_number f_wrong f_wrongAt f_faultKind f_faultPlace f_reading f_toldWhy f_x f_standMany f_bestMany f_tail f_round1 : Int32) (b_all : (Nat → Int32)) (b_reckoned : (Nat → Int32)) (b_words : (Nat → Int32)) (b_stand : (Nat → Int32)) (b_then : (Nat → Int32)) (b_known : (Nat → Int32)) (p1 : Int32) (r0 : Int32) (o1 : Int32) (o2 : Int32) (o3 : (Nat → Int32)) (o4 : (Nat → Int32)) (o5 : (Nat → Int32)) (o6 : (Nat → Int32)) (o7 : (Nat → Int32)) (hf : zf_X11_highest n f_thrown f_standMany b_all b_reckoned b_words b_stand b_then b_known p1 = some (r0, o1, o2, o3, o4, o5, o6, o7)) : Met l yX11_highest (.code yX11_highest cX11_highest 4 (some .int) :: zr_T) ({ frames := 5, cells := 0, slots := 0, locals := 123 }) (va_Pc [.ref (ad 0), .int p1] (zz_M dC dI dA [zr_o ad f_thrown f_taped f_at f_behind f_size f_kind f_number f_wrong f_wrongAt f_faultKind f_faultPlace f_reading f_toldWhy f_x f_standMany f_bestMany f_tail f_round1, (ad 2, .inl (dA 0, 2982, .inl b_all)), (ad 17, .inl (dA 0, 900, .inl b_reckoned)), (ad 18, .inl (dA 0, 6, .inl b_words)), (ad 22, .inl (dA 0, 2880, .inl b_stand)), (ad 23, .inl (dA 0, 43200, .inl b_then)), (ad 25, .inl (dA 2, 2880, .inl b_known))] sz)) (va_Qi (fun (r : Int32) (_ : Unit) => r = r0) (fun _ t => zz_B dC dI dA (va_A [zr_o ad f_thrown f_taped f_at f_behind f_size f_kind f_number f_wrong f_wrongAt f_faultKind f_faultPlace f_reading f_toldWhy f_x f_standMany f_bestMany f_tail f_round1, (ad 2, .inl (dA 0, 2982, .inl b_all)), (ad 17, .inl (dA 0, 900, .inl b_reckoned)), (ad 18, .inl (dA 0, 6, .inl b_words)), (ad 22, .inl (dA 0, 2880, .inl b_stand)), (ad 23, .inl (dA 0, 43200, .inl b_then)), (ad 25, .inl (dA 2, 2880, .inl b_known))] sz) [zr_o ad o1 f_taped f_at f_behind f_size f_kind f_number f_wrong f_wrongAt f_faultKind f_faultPlace f_reading f_toldWhy f_x o2 f_bestMany f_tail f_round1, (ad 2, .inl (dA 0, 2982, .inl b_all)), (ad 17, .inl (dA 0, 900, .inl o3)), (ad 18, .inl (dA 0, 6, .inl o4)), (ad 22, .inl (dA 0, 2880, .inl o5)), (ad 23, .inl (dA 0, 43200, .inl o6)), (ad 25, .inl (dA 2, 2880, .inl o7))] t) (va_A [zr_o ad f_thrown f_taped f_at f_behind f_size f_kind f_number f_wrong f_wrongAt f_faultKind f_faultPlace f_reading f_toldWhy f_x f_standMany f_bestMany f_tail f_round1, (ad 2, .inl (dA 0, 2982, .inl b_all)), (ad 17, .inl (dA 0, 900, .inl b_reckoned)), (ad 18, .inl (dA 0, 6, .inl b_words)), (ad 22, .inl (dA 0, 2880, .inl b_stand)), (ad 23, .inl (dA 0, 43200, .inl b_then)), (ad 25, .inl (dA 2, 2880, .inl b_known))] sz)) 0 0 (va_A [zr_o ad f_thrown f_taped f_at f_behind f_size f_kind f_number f_wrong f_wrongAt f_faultKind f_faultPlace f_reading f_toldWhy f_x f_standMany f_bestMany f_tail f_round1, (ad 2, .inl (dA 0, 2982, .inl b_all)), (ad 17, .inl (dA 0, 900, .inl b_reckoned)), (ad 18, .inl (dA 0, 6, .inl b_words)), (ad 22, .inl (dA 0, 2880, .inl b_stand)), (ad 23, .inl (dA 0, 43200, .inl b_then)), (ad 25, .inl (dA 2, 2880, .inl b_known))] sz) := by
  unfold zf_X11_highest at hf
  refine Met.ofW (cc := cX11_highest) (maxL := 4) (ret := (some .int)) (by decide) rfl ?_
  intro p e s m args below meth c s₁ B hml hv
  obtain ⟨rfl, hsz, hP, hK, hD0⟩ := hv
  have hx := B.exec
  have hb := B.bytes
  have hr := B.returns
  have ht : ∀ w ∈ zr_T, w.before ([.ref (ad 0), .int p1] : List Value).toArray s = true := fun w hw => atoms_spec (ws := .code yX11_highest cX11_highest 4 (some .int) :: zr_T) B.pre w (List.mem_cons_of_mem _ hw)
  have hown : s.vm.findClass RX11 = some m.cls := findClass_of_methodNamed B.named
  have hlocks := B.notSynchronized
  subst hsz
  have hD := hD0.self (sz := s.heap.size)
  generalize hAe : va_A [zr_o ad f_thrown f_taped f_at f_behind f_size f_kind f_number f_wrong f_wrongAt f_faultKind f_faultPlace f_reading f_toldWhy f_x f_standMany f_bestMany f_tail f_round1, (ad 2, .inl (dA 0, 2982, .inl b_all)), (ad 17, .inl (dA 0, 900, .inl b_reckoned)), (ad 18, .inl (dA 0, 6, .inl b_words)), (ad 22, .inl (dA 0, 2880, .inl b_stand)), (ad 23, .inl (dA 0, 43200, .inl b_then)), (ad 25, .inl (dA 2, 2880, .inl b_known))] s.heap.size = A at hD ⊢
  have hA : ∀ q : Nat, s.heap.size ≤ q → A q := fun q h => by rw [← hAe]; exact Or.inr h
  clear hAe hD0
  have hS : va_S A s.heap s.heap [] := va_S.rf
  have hl := lv_entry ([.ref (ad 0), .int p1]) (n := 4) (Nat.le_of_ble_eq_true rfl)
  rw [lg_entry_eq]
  generalize (lg_sl ([.ref (ad 0), .int p1]) ++ List.replicate (4 - (lg_sl ([.ref (ad 0), .int p1])).length) Slot.unset).toArray = ls at hl ⊢
  have hl : lv_has ls 4 [(0, .ref (ad 0)), (1, .int p1)] := hl
  refine lv_aload_n (pc := 0) hx hb dX11_highest_0 rfl (lv_at hl 0 rfl) ?_
  refine lv_iconst (v := (0 : Int32)) (pc := 1) hx hb dX11_highest_1 (by decide) ?_
  refine va_put (pc := 2) (D := (dC, dI)) (ci := 0) (v := .int (0 : Int32)) (ty := .int) (C := RX11) (T := TX11) (N := 42) hx hb ht zr_lay tyX11 tyX11_ok nmX11 hown hK hP hD hS 0 rfl rfl 0 (by decide) (ht _ zr_39) (fun _ h9 => h9) rfl (by decide +kernel) rfl rfl (Nat.le_of_ble_eq_true rfl) dX11_highest_2 (fun H locs hP hD hS => ?_)
  have hP : va_P (dC, dI) zz_cls [zr_o ad (0 : Int32) f_taped f_at f_behind f_size f_kind f_number f_wrong f_wrongAt f_faultKind f_faultPlace f_reading f_toldWhy f_x f_standMany f_bestMany f_tail f_round1, (ad 2, .inl (dA 0, 2982, .inl b_all)), (ad 17, .inl (dA 0, 900, .inl b_reckoned)), (ad 18, .inl (dA 0, 6, .inl b_words)), (ad 22, .inl (dA 0, 2880, .inl b_stand)), (ad 23, .inl (dA 0, 43200, .inl b_then)), (ad 25, .inl (dA 2, 2880, .inl b_known))] H := hP
  have hD : va_D A [zr_o ad (0 : Int32) f_taped f_at f_behind f_size f_kind f_number f_wrong f_wrongAt f_faultKind f_faultPlace f_reading f_toldWhy f_x f_standMany f_bestMany f_tail f_round1, (ad 2, .inl (dA 0, 2982, .inl b_all)), (ad 17, .inl (dA 0, 900, .inl b_reckoned)), (ad 18, .inl (dA 0, 6, .inl b_words)), (ad 22, .inl (dA 0, 2880, .inl b_stand)), (ad 23, .inl (dA 0, 43200, .inl b_then)), (ad 25, .inl (dA 2, 2880, .inl b_known))] := hD
  refine lv_aload_n (pc := 5) hx hb dX11_highest_5 rfl (lv_at hl 0 rfl) ?_
  refine lv_iload_n (pc := 6) hx hb dX11_highest_6 rfl (lv_at hl 1 rfl) ?_
  obtain ⟨v1, hv1, hf⟩ := zc_1 hf
  refine zw_Vi (pc := 7) (wc := [zr_o ad (0 : Int32) f_taped f_at f_behind f_size f_kind f_number f_wrong f_wrongAt f_faultKind f_faultPlace f_reading f_toldWhy f_x f_standMany f_bestMany f_tail f_round1, (ad 2, .inl (dA 0, 2982, .inl b_all))]) (wr := [(ad 17, .inl (dA 0, 900, .inl b_reckoned)), (ad 18, .inl (dA 0, 6, .inl b_words)), (ad 22, .inl (dA 0, 2880, .inl b_stand)), (ad 23, .inl (dA 0, 43200, .inl b_then)), (ad 25, .inl (dA 2, 2880, .inl b_known))]) (w1 := [zr_o ad (0 : Int32) f_taped f_at f_behind f_size f_kind f_number f_wrong f_wrongAt f_faultKind f_faultPlace f_reading f_toldWhy f_x f_standMany f_bestMany f_tail f_round1, (ad 2, .inl (dA 0, 2982, .inl b_all))]) (As := [.int p1]) (rest := []) ⟨hx, hb, hml, hown, ht⟩ (zt_X11_isSet l dC dI dA ad _ (0 : Int32) f_taped f_at f_behind f_size f_kind f_number f_wrong f_wrongAt f_faultKind f_faultPlace f_reading f_toldWhy f_x f_standMany f_bestMany f_tail f_round1 b_all p1 v1 hv1) (cwV 1 ht (zr_V zr_364 zr_365 zr_366 zr_36 zr_208) rfl rfl rfl zk_X11_isSet ⟨Nat.le_of_ble_eq_true rfl, Nat.le_of_ble_eq_true rfl⟩) rfl rfl hK hP hD hS hA [0, 1] [2, 3, 4, 5, 6] (by decide) (by decide) (by decide) rfl rfl rfl hl.1 (Nat.le_of_ble_eq_true rfl) dX11_highest_7 ⟨Nat.zero_le _, Nat.zero_le _⟩ rfl (fun H locs hP hD hS => ?_)
  have hP : va_P (dC, dI) zz_cls [(ad 17, .inl (dA 0, 900, .inl b_reckoned)), (ad 18, .inl (dA 0, 6, .inl b_words)), (ad 22, .inl (dA 0, 2880, .inl b_stand)), (ad 23, .inl (dA 0, 43200, .inl b_then)), (ad 25, .inl (dA 2, 2880, .inl b_known)), zr_o ad (0 : Int32) f_taped f_at f_behind f_size f_kind f_number f_wrong f_wrongAt f_faultKind f_faultPlace f_reading f_toldWhy f_x f_standMany f_bestMany f_tail f_round1, (ad 2, .inl (dA 0, 2982, .inl b_all))] H := hP
  have hD : va_D A [(ad 17, .inl (dA 0, 900, .inl b_reckoned)), (ad 18, .inl (dA 0, 6, .inl b_words)), (ad 22, .inl (dA 0, 2880, .inl b_stand)), (ad 23, .inl (dA 0, 43200, .inl b_then)), (ad 25, .inl (dA 2, 2880, .inl b_known)), zr_o ad (0 : Int32) f_taped f_at f_behind f_size f_kind f_number f_wrong f_wrongAt f_faultKind f_faultPlace f_reading f_toldWhy f_x f_standMany f_bestMany f_tail f_round1, (ad 2, .inl (dA 0, 2982, .inl b_all))] := hD
  refine lv_if_ne (tgt := 16) (pc := 10) hx hb dX11_highest_10 rfl (fun hc => ?_) (fun hc => ?_)
  · have hf := za_f hf hc
    refine lv_aload_n (pc := 16) hx hb dX11_highest_16 rfl (lv_at hl 0 rfl) ?_
    refine lv_iconst (v := (0 : Int32)) (pc := 17) hx hb dX11_highest_17 (by decide) ?_
    obtain ⟨v2, a3, a4, a5, a6, a7, hv2, hf⟩ := zc_6 hf
    refine zw_Vv (pc := 18) (wc := [zr_o ad (0 : Int32) f_taped f_at f_behind f_size f_kind f_number f_wrong f_wrongAt f_faultKind f_faultPlace f_reading f_toldWhy f_x f_standMany f_bestMany f_tail f_round1, (ad 2, .inl (dA 0, 2982, .inl b_all)), (ad 17, .inl (dA 0, 900, .inl b_reckoned)), (ad 18, .inl (dA 0, 6, .inl b_words)), (ad 22, .inl (dA 0, 2880, .inl b_stand)), (ad 23, .inl (dA 0, 43200, .inl b_then)), (ad 25, .inl (dA 2, 2880, .inl b_known))]) (wr := []) (w1 := [zr_o ad (0 : Int32) f_taped f_at f_behind f_size f_kind f_number f_wrong f_wrongAt f_faultKind f_faultPlace f_reading f_toldWhy f_x v2 f_bestMany f_tail f_round1, (ad 2, .inl (dA 0, 2982, .inl b_all)), (ad 17, .inl (dA 0, 900, .inl a3)), (ad 18, .inl (dA 0, 6, .inl a4)), (ad 22, .inl (dA 0, 2880, .inl a5)), (ad 23, .inl (dA 0, 43200, .inl a6)), (ad 25, .inl (dA 2, 2880, .inl a7))]) (As := [.int (0 : Int32)]) (rest := []) ⟨hx, hb, hml, hown, ht⟩ (zt_X11_laysStands l dC dI dA ad _ n (0 : Int32) f_taped f_at f_behind f_size f_kind f_number f_wrong f_wrongAt f_faultKind f_faultPlace f_reading f_toldWhy f_x f_standMany f_bestMany f_tail f_round1 b_all b_reckoned b_words b_stand b_then b_known (0 : Int32) v2 a3 a4 a5 a6 a7 hv2) (cwV 1 ht (zr_V zr_354 zr_355 zr_356 zr_36 zr_350) rfl rfl rfl zk_X11_laysStands ⟨Nat.le_of_ble_eq_true rfl, Nat.le_of_ble_eq_true rfl⟩) rfl rfl hK hP hD hS hA [5, 6, 0, 1, 2, 3, 4] [] (by decide) (by decide) (by decide) rfl rfl rfl hl.1 (Nat.le_of_ble_eq_true rfl) dX11_highest_18 ⟨Nat.zero_le _, Nat.zero_le _⟩ rfl (fun H locs hP hD hS => ?_)
    have hP : va_P (dC, dI) zz_cls [zr_o ad (0 : Int32) f_taped f_at f_behind f_size f_kind f_number f_wrong f_wrongAt f_faultKind f_faultPlace f_reading f_toldWhy f_x v2 f_bestMany f_tail f_round1, (ad 2, .inl (dA 0, 2982, .inl b_all)), (ad 17, .inl (dA 0, 900, .inl a3)), (ad 18, .inl (dA 0, 6, .inl a4)), (ad 22, .inl (dA 0, 2880, .inl a5)), (ad 23, .inl (dA 0, 43200, .inl a6)), (ad 25, .inl (dA 2, 2880, .inl a7))] H := hP
    have hD : va_D A [zr_o ad (0 : Int32) f_taped f_at f_behind f_size f_kind f_number f_wrong f_wrongAt f_faultKind f_faultPlace f_reading f_toldWhy f_x v2 f_bestMany f_tail f_round1, (ad 2, .inl (dA 0, 2982, .inl b_all)), (ad 17, .inl (dA 0, 900, .inl a3)), (ad 18, .inl (dA 0, 6, .inl a4)), (ad 22, .inl (dA 0, 2880, .inl a5)), (ad 23, .inl (dA 0, 43200, .inl a6)), (ad 25, .inl (dA 2, 2880, .inl a7))] := hD
    refine lv_iconst (v := (-1 : Int32)) (pc := 21) hx hb dX11_highest_21 (by decide) ?_
    refine lv_istore_n (lv' := [(2, .int (-1 : Int32)), (0, .ref (ad 0)), (1, .int p1)]) (pc := 22) hx hb dX11_highest_22 rfl hl (by decide) rfl (fun ls hl => ?_)
    refine lv_iconst (v := (0 : Int32)) (pc := 23) hx hb dX11_highest_23 (by decide) ?_
    refine lv_istore_n (lv' := [(3, .int (0 : Int32)), (2, .int (-1 : Int32)), (0, .ref (ad 0)), (1, .int p1)]) (pc := 24) hx hb dX11_highest_24 rfl hl (by decide) rfl (fun ls hl => ?_)
    obtain ⟨g20, v18, v19, hj, hf⟩ := zc_3 hf
    refine zj_join (pcJ := 77) (stk := []) (X := fun H locs ls => lv_has ls 4 [(2, .int v18)] ∧ va_P (dC, dI) zz_cls [zr_o ad (0 : Int32) f_taped f_at f_behind f_size f_kind f_number f_wrong f_wrongAt f_faultKind f_faultPlace f_reading f_toldWhy f_x v2 f_bestMany f_tail f_round1, (ad 2, .inl (dA 0, 2982, .inl b_all)), (ad 17, .inl (dA 0, 900, .inl a3)), (ad 18, .inl (dA 0, 6, .inl a4)), (ad 22, .inl (dA 0, 2880, .inl a5)), (ad 23, .inl (dA 0, 43200, .inl a6)), (ad 25, .inl (dA 2, 2880, .inl a7))] H ∧ va_D A [zr_o ad (0 : Int32) f_taped f_at f_behind f_size f_kind f_number f_wrong f_wrongAt f_faultKind f_faultPlace f_reading f_toldWhy f_x v2 f_bestMany f_tail f_round1, (ad 2, .inl (dA 0, 2982, .inl b_all)), (ad 17, .inl (dA 0, 900, .inl a3)), (ad 18, .inl (dA 0, 6, .inl a4)), (ad 22, .inl (dA 0, 2880, .inl a5)), (ad 23, .inl (dA 0, 43200, .inl a6)), (ad 25, .inl (dA 2, 2880, .inl a7))] ∧ va_S A s.heap H locs) (fun H locs ls hX => ?_) (fun E77 => ?_)
    · obtain ⟨hl, hP, hD, hS⟩ := hX
      clear hj
      refine lv_iload_n (pc := 77) hx hb dX11_highest_77 rfl (lv_at hl 0 rfl) ?_
      obtain ⟨rfl, rfl, rfl, rfl, rfl, rfl, rfl, rfl⟩ := zi_8 hf
      exact W.iret (pc := 78) hx hb hr (fun t ht hW => ⟨⟨_, (), rfl, rfl, zz_Bi (by rw [ht]; exact hP) (va_K.moved hW.alike hK) (hD)⟩, hS.F ht⟩) hS.2.2 dX11_highest_78
    clear hf
    refine zw_loop (pcH := 25) (X := fun v H locs ls => lv_has ls 4 [(0, .ref (ad 0)), (1, .int p1), (2, .int v.1), (3, .int v.2)] ∧ va_P (dC, dI) zz_cls [zr_o ad (0 : Int32) f_taped f_at f_behind f_size f_kind f_number f_wrong f_wrongAt f_faultKind f_faultPlace f_reading f_toldWhy f_x v2 f_bestMany f_tail f_round1, (ad 2, .inl (dA 0, 2982, .inl b_all)), (ad 17, .inl (dA 0, 900, .inl a3)), (ad 18, .inl (dA 0, 6, .inl a4)), (ad 22, .inl (dA 0, 2880, .inl a5)), (ad 23, .inl (dA 0, 43200, .inl a6)), (ad 25, .inl (dA 2, 2880, .inl a7))] H ∧ va_D A [zr_o ad (0 : Int32) f_taped f_at f_behind f_size f_kind f_number f_wrong f_wrongAt f_faultKind f_faultPlace f_reading f_toldWhy f_x v2 f_bestMany f_tail f_round1, (ad 2, .inl (dA 0, 2982, .inl b_all)), (ad 17, .inl (dA 0, 900, .inl a3)), (ad 18, .inl (dA 0, 6, .inl a4)), (ad 22, .inl (dA 0, 2880, .inl a5)), (ad 23, .inl (dA 0, 43200, .inl a6)), (ad 25, .inl (dA 2, 2880, .inl a7))] ∧ va_S A s.heap H locs) hj (fun v w hf ih ex H locs ls hX => ?_) _ _ _ ⟨lv_sub hl [2, 3, 1, 0] rfl, hP, hD, hS⟩
    clear hj
    obtain ⟨v8, v9⟩ := v
    obtain ⟨hl, hP, hD, hS⟩ := hX
    have hl : lv_has ls 4 [(0, .ref (ad 0)), (1, .int p1), (2, .int v8), (3, .int v9)] := hl
    have hP : va_P (dC, dI) zz_cls [zr_o ad (0 : Int32) f_taped f_at f_behind f_size f_kind f_number f_wrong f_wrongAt f_faultKind f_faultPlace f_reading f_toldWhy f_x v2 f_bestMany f_tail f_round1, (ad 2, .inl (dA 0, 2982, .inl b_all)), (ad 17, .inl (dA 0, 900, .inl a3)), (ad 18, .inl (dA 0, 6, .inl a4)), (ad 22, .inl (dA 0, 2880, .inl a5)), (ad 23, .inl (dA 0, 43200, .inl a6)), (ad 25, .inl (dA 2, 2880, .inl a7))] H := hP
    have hD : va_D A [zr_o ad (0 : Int32) f_taped f_at f_behind f_size f_kind f_number f_wrong f_wrongAt f_faultKind f_faultPlace f_reading f_toldWhy f_x v2 f_bestMany f_tail f_round1, (ad 2, .inl (dA 0, 2982, .inl b_all)), (ad 17, .inl (dA 0, 900, .inl a3)), (ad 18, .inl (dA 0, 6, .inl a4)), (ad 22, .inl (dA 0, 2880, .inl a5)), (ad 23, .inl (dA 0, 43200, .inl a6)), (ad 25, .inl (dA 2, 2880, .inl a7))] := hD
    replace hf : zb_X11_highest_25 v2 a5 p1 v8 v9 = some w := hf
    unfold zb_X11_highest_25 at hf
    refine lv_iload_n (pc := 25) hx hb dX11_highest_25 rfl (lv_at hl 3 rfl) ?_
    refine lv_aload_n (pc := 26) hx hb dX11_highest_26 rfl (lv_at hl 0 rfl) ?_
    refine va_get (pc := 27) (D := (dC, dI)) (ci := 0) (v := .int v2) (C := RX11) (T := TX11) (N := 42) hx hb ht zr_lay hown hK hP 0 rfl rfl 25 (by decide) (ht _ zr_340) (fun _ h9 => h9) rfl dX11_highest_27 ?_
    refine lv_icmp_ge (tgt := 77) (pc := 30) hx hb dX11_highest_30 rfl (fun hc => ?_) (fun hc => ?_)
    · have hf := za_t hf hc
      obtain rfl := Option.some.inj hf
      obtain ⟨rfl, rfl, rfl⟩ := zp_3 (ex (show ¬ (1 : Nat) = 0 by decide))
      exact E77 _ _ _ ⟨lv_sub hl [2] rfl, hP, hD, hS⟩
    · have hf := za_f hf hc
      refine lv_aload_n (pc := 33) hx hb dX11_highest_33 rfl (lv_at hl 0 rfl) ?_
      refine va_get (pc := 34) (D := (dC, dI)) (ci := 0) (v := .ref (ad 22)) (C := RX11) (T := TX11) (N := 42) hx hb ht zr_lay hown hK hP 0 rfl rfl 21 (by decide) (ht _ zr_15) (fun _ h9 => h9) rfl dX11_highest_34 ?_
      refine lv_iload_n (pc := 37) hx hb dX11_highest_37 rfl (lv_at hl 3 rfl) ?_
      obtain ⟨v10, hv10, hf⟩ := zc_1 hf
      refine zw_iald (pc := 38) hx hb hK hP 4 0 rfl rfl hv10 dX11_highest_38 ?_
      obtain ⟨v11, hv11, hf⟩ := zc_1 hf
      refine zw_Si (pc := 39) (wc := []) (wr := [zr_o ad (0 : Int32) f_taped f_at f_behind f_size f_kind f_number f_wrong f_wrongAt f_faultKind f_faultPlace f_reading f_toldWhy f_x v2 f_bestMany f_tail f_round1, (ad 2, .inl (dA 0, 2982, .inl b_all)), (ad 17, .inl (dA 0, 900, .inl a3)), (ad 18, .inl (dA 0, 6, .inl a4)), (ad 22, .inl (dA 0, 2880, .inl a5)), (ad 23, .inl (dA 0, 43200, .inl a6)), (ad 25, .inl (dA 2, 2880, .inl a7))]) (w1 := []) (As := [.int v10]) (rest := []) ⟨hx, hb, hml, hown, ht⟩ (zt_X11_hasIn l dC dI dA ad _ v10 v11 hv11) (cwS 1 ht (zr_S zr_219 zr_220 zr_36 zr_211) rfl rfl rfl zk_X11_hasIn ⟨Nat.le_of_ble_eq_true rfl, Nat.le_of_ble_eq_true rfl⟩) hK hP hD hS hA [] [0, 1, 2, 3, 4, 5, 6] (by decide) (by decide) (by decide) rfl rfl rfl hl.1 (Nat.le_of_ble_eq_true rfl) dX11_highest_39 ⟨Nat.zero_le _, Nat.zero_le _⟩ rfl (fun H locs hP hD hS => ?_)
      have hP : va_P (dC, dI) zz_cls [zr_o ad (0 : Int32) f_taped f_at f_behind f_size f_kind f_number f_wrong f_wrongAt f_faultKind f_faultPlace f_reading f_toldWhy f_x v2 f_bestMany f_tail f_round1, (ad 2, .inl (dA 0, 2982, .inl b_all)), (ad 17, .inl (dA 0, 900, .inl a3)), (ad 18, .inl (dA 0, 6, .inl a4)), (ad 22, .inl (dA 0, 2880, .inl a5)), (ad 23, .inl (dA 0, 43200, .inl a6)), (ad 25, .inl (dA 2, 2880, .inl a7))] H := hP
      have hD : va_D A [zr_o ad (0 : Int32) f_taped f_at f_behind f_size f_kind f_number f_wrong f_wrongAt f_faultKind f_faultPlace f_reading f_toldWhy f_x v2 f_bestMany f_tail f_round1, (ad 2, .inl (dA 0, 2982, .inl b_all)), (ad 17, .inl (dA 0, 900, .inl a3)), (ad 18, .inl (dA 0, 6, .inl a4)), (ad 22, .inl (dA 0, 2880, .inl a5)), (ad 23, .inl (dA 0, 43200, .inl a6)), (ad 25, .inl (dA 2, 2880, .inl a7))] := hD
      refine lv_iload_n (pc := 42) hx hb dX11_highest_42 rfl (lv_at hl 1 rfl) ?_
      refine lv_iand (pc := 43) hx hb dX11_highest_43 ?_
      refine lv_iload_n (pc := 44) hx hb dX11_highest_44 rfl (lv_at hl 1 rfl) ?_
      obtain ⟨v16, hj, hf⟩ := zc_1 hf
      refine zj_join (pcJ := 71) (stk := []) (X := fun H locs ls => lv_has ls 4 [(0, .ref (ad 0)), (1, .int p1), (2, .int v16), (3, .int v9)] ∧ va_P (dC, dI) zz_cls [zr_o ad (0 : Int32) f_taped f_at f_behind f_size f_kind f_number f_wrong f_wrongAt f_faultKind f_faultPlace f_reading f_toldWhy f_x v2 f_bestMany f_tail f_round1, (ad 2, .inl (dA 0, 2982, .inl b_all)), (ad 17, .inl (dA 0, 900, .inl a3)), (ad 18, .inl (dA 0, 6, .inl a4)), (ad 22, .inl (dA 0, 2880, .inl a5)), (ad 23, .inl (dA 0, 43200, .inl a6)), (ad 25, .inl (dA 2, 2880, .inl a7))] H ∧ va_D A [zr_o ad (0 : Int32) f_taped f_at f_behind f_size f_kind f_number f_wrong f_wrongAt f_faultKind f_faultPlace f_reading f_toldWhy f_x v2 f_bestMany f_tail f_round1, (ad 2, .inl (dA 0, 2982, .inl b_all)), (ad 17, .inl (dA 0, 900, .inl a3)), (ad 18, .inl (dA 0, 6, .inl a4)), (ad 22, .inl (dA 0, 2880, .inl a5)), (ad 23, .inl (dA 0, 43200, .inl a6)), (ad 25, .inl (dA 2, 2880, .inl a7))] ∧ va_S A s.heap H locs) (fun H locs ls hX => ?_) (fun J71 => ?_)
      · obtain ⟨hl, hP, hD, hS⟩ := hX
        clear hj
        obtain ⟨v17, hv17, hf⟩ := zc_1 hf
        refine lv_iinc (v := v17) (lv' := [(3, .int v17), (0, .ref (ad 0)), (1, .int p1), (2, .int v16)]) (k := 3) (pc := 71) hx hb dX11_highest_71 hl rfl (Option.some.inj hv17) (by decide) rfl (fun ls hl => ?_)
        refine lv_goto (tgt := 25) (pc := 74) hx hb dX11_highest_74 rfl ?_
        obtain rfl := Option.some.inj hf
        exact ih rfl _ _ _ ⟨lv_sub hl [1, 2, 3, 0] rfl, hP, hD, hS⟩
      · clear hf
        have hf := hj
        clear hj
        refine lv_icmp_ne (tgt := 71) (pc := 45) hx hb dX11_highest_45 rfl (fun hc => ?_) (fun hc => ?_)
        · have hf := za_f hf hc
          obtain rfl := Option.some.inj hf
          exact J71 _ _ _ ⟨lv_sub hl [0, 1, 2, 3] rfl, hP, hD, hS⟩
        · have hf := za_t hf hc
          refine lv_aload_n (pc := 48) hx hb dX11_highest_48 rfl (lv_at hl 0 rfl) ?_
          refine va_get (pc := 49) (D := (dC, dI)) (ci := 0) (v := .ref (ad 22)) (C := RX11) (T := TX11) (N := 42) hx hb ht zr_lay hown hK hP 0 rfl rfl 21 (by decide) (ht _ zr_15) (fun _ h9 => h9) rfl dX11_highest_49 ?_
          refine lv_iload_n (pc := 52) hx hb dX11_highest_52 rfl (lv_at hl 3 rfl) ?_
          obtain ⟨v12, hv12, hf⟩ := zc_1 hf
          refine zw_iald (pc := 53) hx hb hK hP 4 0 rfl rfl hv12 dX11_highest_53 ?_
          obtain ⟨v13, hv13, hf⟩ := zc_1 hf
          refine zw_Si (pc := 54) (wc := []) (wr := [zr_o ad (0 : Int32) f_taped f_at f_behind f_size f_kind f_number f_wrong f_wrongAt f_faultKind f_faultPlace f_reading f_toldWhy f_x v2 f_bestMany f_tail f_round1, (ad 2, .inl (dA 0, 2982, .inl b_all)), (ad 17, .inl (dA 0, 900, .inl a3)), (ad 18, .inl (dA 0, 6, .inl a4)), (ad 22, .inl (dA 0, 2880, .inl a5)), (ad 23, .inl (dA 0, 43200, .inl a6)), (ad 25, .inl (dA 2, 2880, .inl a7))]) (w1 := []) (As := [.int v12]) (rest := []) ⟨hx, hb, hml, hown, ht⟩ (zt_X11_rungIn l dC dI dA ad _ v12 v13 hv13) (cwS 1 ht (zr_S zr_217 zr_218 zr_36 zr_210) rfl rfl rfl zk_X11_rungIn ⟨Nat.le_of_ble_eq_true rfl, Nat.le_of_ble_eq_true rfl⟩) hK hP hD hS hA [] [0, 1, 2, 3, 4, 5, 6] (by decide) (by decide) (by decide) rfl rfl rfl hl.1 (Nat.le_of_ble_eq_true rfl) dX11_highest_54 ⟨Nat.zero_le _, Nat.zero_le _⟩ rfl (fun H locs hP hD hS => ?_)
          have hP : va_P (dC, dI) zz_cls [zr_o ad (0 : Int32) f_taped f_at f_behind f_size f_kind f_number f_wrong f_wrongAt f_faultKind f_faultPlace f_reading f_toldWhy f_x v2 f_bestMany f_tail f_round1, (ad 2, .inl (dA 0, 2982, .inl b_all)), (ad 17, .inl (dA 0, 900, .inl a3)), (ad 18, .inl (dA 0, 6, .inl a4)), (ad 22, .inl (dA 0, 2880, .inl a5)), (ad 23, .inl (dA 0, 43200, .inl a6)), (ad 25, .inl (dA 2, 2880, .inl a7))] H := hP
          have hD : va_D A [zr_o ad (0 : Int32) f_taped f_at f_behind f_size f_kind f_number f_wrong f_wrongAt f_faultKind f_faultPlace f_reading f_toldWhy f_x v2 f_bestMany f_tail f_round1, (ad 2, .inl (dA 0, 2982, .inl b_all)), (ad 17, .inl (dA 0, 900, .inl a3)), (ad 18, .inl (dA 0, 6, .inl a4)), (ad 22, .inl (dA 0, 2880, .inl a5)), (ad 23, .inl (dA 0, 43200, .inl a6)), (ad 25, .inl (dA 2, 2880, .inl a7))] := hD
          refine lv_iload_n (pc := 57) hx hb dX11_highest_57 rfl (lv_at hl 2 rfl) ?_
          refine lv_icmp_le (tgt := 71) (pc := 58) hx hb dX11_highest_58 rfl (fun hc => ?_) (fun hc => ?_)
          · have hf := za_t hf hc
            obtain rfl := Option.some.inj hf
            exact J71 _ _ _ ⟨lv_sub hl [0, 1, 2, 3] rfl, hP, hD, hS⟩
          · have hf := za_f hf hc
            refine lv_aload_n (pc := 61) hx hb dX11_highest_61 rfl (lv_at hl 0 rfl) ?_
            refine va_get (pc := 62) (D := (dC, dI)) (ci := 0) (v := .ref (ad 22)) (C := RX11) (T := TX11) (N := 42) hx hb ht zr_lay hown hK hP 0 rfl rfl 21 (by decide) (ht _ zr_15) (fun _ h9 => h9) rfl dX11_highest_62 ?_
            refine lv_iload_n (pc := 65) hx hb dX11_highest_65 rfl (lv_at hl 3 rfl) ?_
            obtain ⟨v14, hv14, hf⟩ := zc_1 hf
            refine zw_iald (pc := 66) hx hb hK hP 4 0 rfl rfl hv14 dX11_highest_66 ?_
            obtain ⟨v15, hv15, hf⟩ := zc_1 hf
            refine zw_Si (pc := 67) (wc := []) (wr := [zr_o ad (0 : Int32) f_taped f_at f_behind f_size f_kind f_number f_wrong f_wrongAt f_faultKind f_faultPlace f_reading f_toldWhy f_x v2 f_bestMany f_tail f_round1, (ad 2, .inl (dA 0, 2982, .inl b_all)), (ad 17, .inl (dA 0, 900, .inl a3)), (ad 18, .inl (dA 0, 6, .inl a4)), (ad 22, .inl (dA 0, 2880, .inl a5)), (ad 23, .inl (dA 0, 43200, .inl a6)), (ad 25, .inl (dA 2, 2880, .inl a7))]) (w1 := []) (As := [.int v14]) (rest := []) ⟨hx, hb, hml, hown, ht⟩ (zt_X11_rungIn l dC dI dA ad _ v14 v15 hv15) (cwS 1 ht (zr_S zr_217 zr_218 zr_36 zr_210) rfl rfl rfl zk_X11_rungIn ⟨Nat.le_of_ble_eq_true rfl, Nat.le_of_ble_eq_true rfl⟩) hK hP hD hS hA [] [0, 1, 2, 3, 4, 5, 6] (by decide) (by decide) (by decide) rfl rfl rfl hl.1 (Nat.le_of_ble_eq_true rfl) dX11_highest_67 ⟨Nat.zero_le _, Nat.zero_le _⟩ rfl (fun H locs hP hD hS => ?_)
            have hP : va_P (dC, dI) zz_cls [zr_o ad (0 : Int32) f_taped f_at f_behind f_size f_kind f_number f_wrong f_wrongAt f_faultKind f_faultPlace f_reading f_toldWhy f_x v2 f_bestMany f_tail f_round1, (ad 2, .inl (dA 0, 2982, .inl b_all)), (ad 17, .inl (dA 0, 900, .inl a3)), (ad 18, .inl (dA 0, 6, .inl a4)), (ad 22, .inl (dA 0, 2880, .inl a5)), (ad 23, .inl (dA 0, 43200, .inl a6)), (ad 25, .inl (dA 2, 2880, .inl a7))] H := hP
            have hD : va_D A [zr_o ad (0 : Int32) f_taped f_at f_behind f_size f_kind f_number f_wrong f_wrongAt f_faultKind f_faultPlace f_reading f_toldWhy f_x v2 f_bestMany f_tail f_round1, (ad 2, .inl (dA 0, 2982, .inl b_all)), (ad 17, .inl (dA 0, 900, .inl a3)), (ad 18, .inl (dA 0, 6, .inl a4)), (ad 22, .inl (dA 0, 2880, .inl a5)), (ad 23, .inl (dA 0, 43200, .inl a6)), (ad 25, .inl (dA 2, 2880, .inl a7))] := hD
            refine lv_istore_n (lv' := [(2, .int v15), (0, .ref (ad 0)), (1, .int p1), (3, .int v9)]) (pc := 70) hx hb dX11_highest_70 rfl hl (by decide) rfl (fun ls hl => ?_)
            obtain rfl := Option.some.inj hf
            exact J71 _ _ _ ⟨lv_sub hl [1, 2, 0, 3] rfl, hP, hD, hS⟩
  · have hf := za_t hf hc
    refine lv_bipush (v := (-3 : Int32)) (pc := 13) hx hb dX11_highest_13 (by decide) ?_
    obtain ⟨rfl, rfl, rfl, rfl, rfl, rfl, rfl, rfl⟩ := zi_8 hf
    exact W.iret (pc := 15) hx hb hr (fun t ht hW => ⟨⟨_, (), rfl, rfl, zz_Bi (by rw [ht]; exact hP.sub [5, 6, 0, 1, 2, 3, 4] rfl) (va_K.moved hW.alike hK) (hD.sub [5, 6, 0, 1, 2, 3, 4] (by decide) rfl)⟩, hS.F ht⟩) hS.2.2 dX11_highest_15

def zb_X11_most_36 (v3 : Int32) (a6 : (Nat → Int32)) (p1 : Int32) (n : Nat) (v9 : Int32) (v10 : Int32) : Option (Nat × Int32 × Int32) :=
  if v3 ≤ v10 then
    some (1, v9, v10)
  else
    zd_1 (za_ld a6 2880 v10) (fun v11 =>
    zd_1 (zf_X11_rungIn v11) (fun v12 =>
    zd_1 (
      if v12 = p1 then
        zd_1 (za_ld a6 2880 v10) (fun v13 =>
        zd_1 (zf_X11_hasIn v13) (fun v14 =>
        if v9 = (-1 : Int32) then
          some v14
        else
          zd_1 (zf_X11_bitsOf n v14) (fun v15 =>
          zd_1 (zf_X11_bitsOf n v9) (fun v16 =>
          if v16 < v15 then
            some v14
          else
            zd_1 (zf_X11_bitsOf n v14) (fun v17 =>
            zd_1 (zf_X11_bitsOf n v9) (fun v18 =>
            if v17 = v18 then
              if v9 ≤ v14 then
                some v9
              else
                some v14
            else
              some v9))))))
      else
        some v9) (fun v19 =>
    zd_1 (some (v10 + (1 : Int32))) (fun v20 =>
    some (0, v19, v20)))))
def zf_X11_most (n : Nat) (f_thrown : Int32) (f_standMany : Int32) (b_all : (Nat → Int32)) (b_reckoned : (Nat → Int32)) (b_words : (Nat → Int32)) (b_stand : (Nat → Int32)) (b_then : (Nat → Int32)) (b_known : (Nat → Int32)) (p1 : Int32) (p2 : Int32) : Option (Int32 × Int32 × Int32 × (Nat → Int32) × (Nat → Int32) × (Nat → Int32) × (Nat → Int32) × (Nat → Int32)) :=
  zd_1 (zf_X11_isRung b_all p1) (fun v1 =>
  if v1 = 0 then
    some ((-2 : Int32), (0 : Int32), f_standMany, b_reckoned, b_words, b_stand, b_then, b_known)
  else
    zd_1 (zf_X11_within (Int32.toInt64 p2) (0 : Int64) (1 : Int64)) (fun v2 =>
    if v2 = 0 then
      some ((-2 : Int32), (0 : Int32), f_standMany, b_reckoned, b_words, b_stand, b_then, b_known)
    else
      zd_6 (zf_X11_laysStands n f_standMany b_all b_reckoned b_words b_stand b_then b_known (0 : Int32)) (fun v3 a4 a5 a6 a7 a8 =>
      zd_3 (za_it (fun v => zb_X11_most_36 v3 a6 p1 n v.1 v.2) n ((-1 : Int32), (0 : Int32))) (fun g23 v21 v22 =>
      if v21 = (-1 : Int32) then
        some (v21, (0 : Int32), v3, a4, a5, a6, a7, a8)
      else
        if p2 = (1 : Int32) then
          some (v21, (0 : Int32), v3, a4, a5, a6, a7, a8)
        else
          zd_1 (zf_X11_bitsOf n v21) (fun v24 =>
          some (v24, (0 : Int32), v3, a4, a5, a6, a7, a8))))))
theorem zk_X11_most : yX11_most.cls = RX11 ∧ yX11_most.cls ≠ "java/lang/invoke/MethodHandle" ∧ yX11_most.cls ≠ "java/lang/invoke/VarHandle" ∧ (parseMethodDescriptor yX11_most.desc).map (fun d => d.parameters.length) = some 2 := by decide +kernel
set_option maxHeartbeats 4000000 in
set_option maxRecDepth 100000 in
theorem zt_X11_most (l : Launch) (dC : Nat → ClassId) (dI : Nat → Nat → Nat) (dA : Nat → ClassId) (ad : Nat → Nat) (sz : Nat) (n : Nat) (f_thrown f_taped f_at f_behind f_size f_kind f_number f_wrong f_wrongAt f_faultKind f_faultPlace f_reading f_toldWhy f_x f_standMany f_bestMany f_tail f_round1 : Int32) (b_all : (Nat → Int32)) (b_reckoned : (Nat → Int32)) (b_words : (Nat → Int32)) (b_stand : (Nat → Int32)) (b_then : (Nat → Int32)) (b_known : (Nat → Int32)) (p1 : Int32) (p2 : Int32) (r0 : Int32) (o1 : Int32) (o2 : Int32) (o3 : (Nat → Int32)) (o4 : (Nat → Int32)) (o5 : (Nat → Int32)) (o6 : (Nat → Int32)) (o7 : (Nat → Int32)) (hf : zf_X11_most n f_thrown f_standMany b_all b_reckoned b_words b_stand b_then b_known p1 p2 = some (r0, o1, o2, o3, o4, o5, o6, o7)) : Met l yX11_most (.code yX11_most cX11_most 6 (some .int) :: zr_T) ({ frames := 5, cells := 0, slots := 0, locals := 123 }) (va_Pc [.ref (ad 0), .int p1, .int p2] (zz_M dC dI dA [zr_o ad f_thrown f_taped f_at f_behind f_size f_kind f_number f_wrong f_wrongAt f_faultKind f_faultPlace f_reading f_toldWhy f_x f_standMany f_bestMany f_tail f_round1, (ad 2, .inl (dA 0, 2982, .inl b_all)), (ad 17, .inl (dA 0, 900, .inl b_reckoned)), (ad 18, .inl (dA 0, 6, .inl b_words)), (ad 22, .inl (dA 0, 2880, .inl b_stand)), (ad 23, .inl (dA 0, 43200, .inl b_then)), (ad 25, .inl (dA 2, 2880, .inl b_known))] sz)) (va_Qi (fun (r : Int32) (_ : Unit) => r = r0) (fun _ t => zz_B dC dI dA (va_A [zr_o ad f_thrown f_taped f_at f_behind f_size f_kind f_number f_wrong f_wrongAt f_faultKind f_faultPlace f_reading f_toldWhy f_x f_standMany f_bestMany f_tail f_round1, (ad 2, .inl (dA 0, 2982, .inl b_all)), (ad 17, .inl (dA 0, 900, .inl b_reckoned)), (ad 18, .inl (dA 0, 6, .inl b_words)), (ad 22, .inl (dA 0, 2880, .inl b_stand)), (ad 23, .inl (dA 0, 43200, .inl b_then)), (ad 25, .inl (dA 2, 2880, .inl b_known))] sz) [zr_o ad o1 f_taped f_at f_behind f_size f_kind f_number f_wrong f_wrongAt f_faultKind f_faultPlace f_reading f_toldWhy f_x o2 f_bestMany f_tail f_round1, (ad 2, .inl (dA 0, 2982, .inl b_all)), (ad 17, .inl (dA 0, 900, .inl o3)), (ad 18, .inl (dA 0, 6, .inl o4)), (ad 22, .inl (dA 0, 2880, .inl o5)), (ad 23, .inl (dA 0, 43200, .inl o6)), (ad 25, .inl (dA 2, 2880, .inl o7))] t) (va_A [zr_o ad f_thrown f_taped f_at f_behind f_size f_kind f_number f_wrong f_wrongAt f_faultKind f_faultPlace f_reading f_toldWhy f_x f_standMany f_bestMany f_tail f_round1, (ad 2, .inl (dA 0, 2982, .inl b_all)), (ad 17, .inl (dA 0, 900, .inl b_reckoned)), (ad 18, .inl (dA 0, 6, .inl b_words)), (ad 22, .inl (dA 0, 2880, .inl b_stand)), (ad 23, .inl (dA 0, 43200, .inl b_then)), (ad 25, .inl (dA 2, 2880, .inl b_known))] sz)) 0 0 (va_A [zr_o ad f_thrown f_taped f_at f_behind f_size f_kind f_number f_wrong f_wrongAt f_faultKind f_faultPlace f_reading f_toldWhy f_x f_standMany f_bestMany f_tail f_round1, (ad 2, .inl (dA 0, 2982, .inl b_all)), (ad 17, .inl (dA 0, 900, .inl b_reckoned)), (ad 18, .inl (dA 0, 6, .inl b_words)), (ad 22, .inl (dA 0, 2880, .inl b_stand)), (ad 23, .inl (dA 0, 43200, .inl b_then)), (ad 25, .inl (dA 2, 2880, .inl b_known))] sz) := by
  unfold zf_X11_most at hf
  refine Met.ofW (cc := cX11_most) (maxL := 6) (ret := (some .int)) (by decide) rfl ?_
  intro p e s m args below meth c s₁ B hml hv
  obtain ⟨rfl, hsz, hP, hK, hD0⟩ := hv
  have hx := B.exec
  have hb := B.bytes
  have hr := B.returns
  have ht : ∀ w ∈ zr_T, w.before ([.ref (ad 0), .int p1, .int p2] : List Value).toArray s = true := fun w hw => atoms_spec (ws := .code yX11_most cX11_most 6 (some .int) :: zr_T) B.pre w (List.mem_cons_of_mem _ hw)
  have hown : s.vm.findClass RX11 = some m.cls := findClass_of_methodNamed B.named
  have hlocks := B.notSynchronized
  subst hsz
  have hD := hD0.self (sz := s.heap.size)
  generalize hAe : va_A [zr_o ad f_thrown f_taped f_at f_behind f_size f_kind f_number f_wrong f_wrongAt f_faultKind f_faultPlace f_reading f_toldWhy f_x f_standMany f_bestMany f_tail f_round1, (ad 2, .inl (dA 0, 2982, .inl b_all)), (ad 17, .inl (dA 0, 900, .inl b_reckoned)), (ad 18, .inl (dA 0, 6, .inl b_words)), (ad 22, .inl (dA 0, 2880, .inl b_stand)), (ad 23, .inl (dA 0, 43200, .inl b_then)), (ad 25, .inl (dA 2, 2880, .inl b_known))] s.heap.size = A at hD ⊢
  have hA : ∀ q : Nat, s.heap.size ≤ q → A q := fun q h => by rw [← hAe]; exact Or.inr h
  clear hAe hD0
  have hS : va_S A s.heap s.heap [] := va_S.rf
  have hl := lv_entry ([.ref (ad 0), .int p1, .int p2]) (n := 6) (Nat.le_of_ble_eq_true rfl)
  rw [lg_entry_eq]
  generalize (lg_sl ([.ref (ad 0), .int p1, .int p2]) ++ List.replicate (6 - (lg_sl ([.ref (ad 0), .int p1, .int p2])).length) Slot.unset).toArray = ls at hl ⊢
  have hl : lv_has ls 6 [(0, .ref (ad 0)), (1, .int p1), (2, .int p2)] := hl
  refine lv_aload_n (pc := 0) hx hb dX11_most_0 rfl (lv_at hl 0 rfl) ?_
  refine lv_iconst (v := (0 : Int32)) (pc := 1) hx hb dX11_most_1 (by decide) ?_
  refine va_put (pc := 2) (D := (dC, dI)) (ci := 0) (v := .int (0 : Int32)) (ty := .int) (C := RX11) (T := TX11) (N := 42) hx hb ht zr_lay tyX11 tyX11_ok nmX11 hown hK hP hD hS 0 rfl rfl 0 (by decide) (ht _ zr_39) (fun _ h9 => h9) rfl (by decide +kernel) rfl rfl (Nat.le_of_ble_eq_true rfl) dX11_most_2 (fun H locs hP hD hS => ?_)
  have hP : va_P (dC, dI) zz_cls [zr_o ad (0 : Int32) f_taped f_at f_behind f_size f_kind f_number f_wrong f_wrongAt f_faultKind f_faultPlace f_reading f_toldWhy f_x f_standMany f_bestMany f_tail f_round1, (ad 2, .inl (dA 0, 2982, .inl b_all)), (ad 17, .inl (dA 0, 900, .inl b_reckoned)), (ad 18, .inl (dA 0, 6, .inl b_words)), (ad 22, .inl (dA 0, 2880, .inl b_stand)), (ad 23, .inl (dA 0, 43200, .inl b_then)), (ad 25, .inl (dA 2, 2880, .inl b_known))] H := hP
  have hD : va_D A [zr_o ad (0 : Int32) f_taped f_at f_behind f_size f_kind f_number f_wrong f_wrongAt f_faultKind f_faultPlace f_reading f_toldWhy f_x f_standMany f_bestMany f_tail f_round1, (ad 2, .inl (dA 0, 2982, .inl b_all)), (ad 17, .inl (dA 0, 900, .inl b_reckoned)), (ad 18, .inl (dA 0, 6, .inl b_words)), (ad 22, .inl (dA 0, 2880, .inl b_stand)), (ad 23, .inl (dA 0, 43200, .inl b_then)), (ad 25, .inl (dA 2, 2880, .inl b_known))] := hD
  refine lv_aload_n (pc := 5) hx hb dX11_most_5 rfl (lv_at hl 0 rfl) ?_
  refine lv_iload_n (pc := 6) hx hb dX11_most_6 rfl (lv_at hl 1 rfl) ?_
  obtain ⟨v1, hv1, hf⟩ := zc_1 hf
  refine zw_Vi (pc := 7) (wc := [zr_o ad (0 : Int32) f_taped f_at f_behind f_size f_kind f_number f_wrong f_wrongAt f_faultKind f_faultPlace f_reading f_toldWhy f_x f_standMany f_bestMany f_tail f_round1, (ad 2, .inl (dA 0, 2982, .inl b_all))]) (wr := [(ad 17, .inl (dA 0, 900, .inl b_reckoned)), (ad 18, .inl (dA 0, 6, .inl b_words)), (ad 22, .inl (dA 0, 2880, .inl b_stand)), (ad 23, .inl (dA 0, 43200, .inl b_then)), (ad 25, .inl (dA 2, 2880, .inl b_known))]) (w1 := [zr_o ad (0 : Int32) f_taped f_at f_behind f_size f_kind f_number f_wrong f_wrongAt f_faultKind f_faultPlace f_reading f_toldWhy f_x f_standMany f_bestMany f_tail f_round1, (ad 2, .inl (dA 0, 2982, .inl b_all))]) (As := [.int p1]) (rest := []) ⟨hx, hb, hml, hown, ht⟩ (zt_X11_isRung l dC dI dA ad _ (0 : Int32) f_taped f_at f_behind f_size f_kind f_number f_wrong f_wrongAt f_faultKind f_faultPlace f_reading f_toldWhy f_x f_standMany f_bestMany f_tail f_round1 b_all p1 v1 hv1) (cwV 1 ht (zr_V zr_255 zr_256 zr_257 zr_36 zr_206) rfl rfl rfl zk_X11_isRung ⟨Nat.le_of_ble_eq_true rfl, Nat.le_of_ble_eq_true rfl⟩) rfl rfl hK hP hD hS hA [0, 1] [2, 3, 4, 5, 6] (by decide) (by decide) (by decide) rfl rfl rfl hl.1 (Nat.le_of_ble_eq_true rfl) dX11_most_7 ⟨Nat.zero_le _, Nat.zero_le _⟩ rfl (fun H locs hP hD hS => ?_)
  have hP : va_P (dC, dI) zz_cls [(ad 17, .inl (dA 0, 900, .inl b_reckoned)), (ad 18, .inl (dA 0, 6, .inl b_words)), (ad 22, .inl (dA 0, 2880, .inl b_stand)), (ad 23, .inl (dA 0, 43200, .inl b_then)), (ad 25, .inl (dA 2, 2880, .inl b_known)), zr_o ad (0 : Int32) f_taped f_at f_behind f_size f_kind f_number f_wrong f_wrongAt f_faultKind f_faultPlace f_reading f_toldWhy f_x f_standMany f_bestMany f_tail f_round1, (ad 2, .inl (dA 0, 2982, .inl b_all))] H := hP
  have hD : va_D A [(ad 17, .inl (dA 0, 900, .inl b_reckoned)), (ad 18, .inl (dA 0, 6, .inl b_words)), (ad 22, .inl (dA 0, 2880, .inl b_stand)), (ad 23, .inl (dA 0, 43200, .inl b_then)), (ad 25, .inl (dA 2, 2880, .inl b_known)), zr_o ad (0 : Int32) f_taped f_at f_behind f_size f_kind f_number f_wrong f_wrongAt f_faultKind f_faultPlace f_reading f_toldWhy f_x f_standMany f_bestMany f_tail f_round1, (ad 2, .inl (dA 0, 2982, .inl b_all))] := hD
  refine lv_if_eq (tgt := 23) (pc := 10) hx hb dX11_most_10 rfl (fun hc => ?_) (fun hc => ?_)
  · have hf := za_t hf hc
    refine lv_bipush (v := (-2 : Int32)) (pc := 23) hx hb dX11_most_23 (by decide) ?_
    obtain ⟨rfl, rfl, rfl, rfl, rfl, rfl, rfl, rfl⟩ := zi_8 hf
    exact W.iret (pc := 25) hx hb hr (fun t ht hW => ⟨⟨_, (), rfl, rfl, zz_Bi (by rw [ht]; exact hP.sub [5, 6, 0, 1, 2, 3, 4] rfl) (va_K.moved hW.alike hK) (hD.sub [5, 6, 0, 1, 2, 3, 4] (by decide) rfl)⟩, hS.F ht⟩) hS.2.2 dX11_most_25
  · have hf := za_f hf hc
    refine lv_iload_n (pc := 13) hx hb dX11_most_13 rfl (lv_at hl 2 rfl) ?_
    refine lv_i2l (pc := 14) hx hb dX11_most_14 rfl ?_
    refine lv_lconst (v := (0 : Int64)) (pc := 15) hx hb dX11_most_15 (by decide) ?_
    refine lv_lconst (v := (1 : Int64)) (pc := 16) hx hb dX11_most_16 (by decide) ?_
    obtain ⟨v2, hv2, hf⟩ := zc_1 hf
    refine zw_Si (pc := 17) (wc := []) (wr := [(ad 17, .inl (dA 0, 900, .inl b_reckoned)), (ad 18, .inl (dA 0, 6, .inl b_words)), (ad 22, .inl (dA 0, 2880, .inl b_stand)), (ad 23, .inl (dA 0, 43200, .inl b_then)), (ad 25, .inl (dA 2, 2880, .inl b_known)), zr_o ad (0 : Int32) f_taped f_at f_behind f_size f_kind f_number f_wrong f_wrongAt f_faultKind f_faultPlace f_reading f_toldWhy f_x f_standMany f_bestMany f_tail f_round1, (ad 2, .inl (dA 0, 2982, .inl b_all))]) (w1 := []) (As := [.long (Int32.toInt64 p2), .long (0 : Int64), .long (1 : Int64)]) (rest := []) ⟨hx, hb, hml, hown, ht⟩ (zt_X11_within l dC dI dA ad _ (Int32.toInt64 p2) (0 : Int64) (1 : Int64) v2 hv2) (cwS 3 ht (zr_S zr_124 zr_125 zr_36 zr_0) rfl rfl rfl zk_X11_within ⟨Nat.le_of_ble_eq_true rfl, Nat.le_of_ble_eq_true rfl⟩) hK hP hD hS hA [] [0, 1, 2, 3, 4, 5, 6] (by decide) (by decide) (by decide) rfl rfl rfl hl.1 (Nat.le_of_ble_eq_true rfl) dX11_most_17 ⟨Nat.zero_le _, Nat.zero_le _⟩ rfl (fun H locs hP hD hS => ?_)
    have hP : va_P (dC, dI) zz_cls [(ad 17, .inl (dA 0, 900, .inl b_reckoned)), (ad 18, .inl (dA 0, 6, .inl b_words)), (ad 22, .inl (dA 0, 2880, .inl b_stand)), (ad 23, .inl (dA 0, 43200, .inl b_then)), (ad 25, .inl (dA 2, 2880, .inl b_known)), zr_o ad (0 : Int32) f_taped f_at f_behind f_size f_kind f_number f_wrong f_wrongAt f_faultKind f_faultPlace f_reading f_toldWhy f_x f_standMany f_bestMany f_tail f_round1, (ad 2, .inl (dA 0, 2982, .inl b_all))] H := hP
    have hD : va_D A [(ad 17, .inl (dA 0, 900, .inl b_reckoned)), (ad 18, .inl (dA 0, 6, .inl b_words)), (ad 22, .inl (dA 0, 2880, .inl b_stand)), (ad 23, .inl (dA 0, 43200, .inl b_then)), (ad 25, .inl (dA 2, 2880, .inl b_known)), zr_o ad (0 : Int32) f_taped f_at f_behind f_size f_kind f_number f_wrong f_wrongAt f_faultKind f_faultPlace f_reading f_toldWhy f_x f_standMany f_bestMany f_tail f_round1, (ad 2, .inl (dA 0, 2982, .inl b_all))] := hD
    refine lv_if_ne (tgt := 26) (pc := 20) hx hb dX11_most_20 rfl (fun hc => ?_) (fun hc => ?_)
    · have hf := za_f hf hc
      refine lv_aload_n (pc := 26) hx hb dX11_most_26 rfl (lv_at hl 0 rfl) ?_
      refine lv_iconst (v := (0 : Int32)) (pc := 27) hx hb dX11_most_27 (by decide) ?_
      obtain ⟨v3, a4, a5, a6, a7, a8, hv3, hf⟩ := zc_6 hf
      refine zw_Vv (pc := 28) (wc := [zr_o ad (0 : Int32) f_taped f_at f_behind f_size f_kind f_number f_wrong f_wrongAt f_faultKind f_faultPlace f_reading f_toldWhy f_x f_standMany f_bestMany f_tail f_round1, (ad 2, .inl (dA 0, 2982, .inl b_all)), (ad 17, .inl (dA 0, 900, .inl b_reckoned)), (ad 18, .inl (dA 0, 6, .inl b_words)), (ad 22, .inl (dA 0, 2880, .inl b_stand)), (ad 23, .inl (dA 0, 43200, .inl b_then)), (ad 25, .inl (dA 2, 2880, .inl b_known))]) (wr := []) (w1 := [zr_o ad (0 : Int32) f_taped f_at f_behind f_size f_kind f_number f_wrong f_wrongAt f_faultKind f_faultPlace f_reading f_toldWhy f_x v3 f_bestMany f_tail f_round1, (ad 2, .inl (dA 0, 2982, .inl b_all)), (ad 17, .inl (dA 0, 900, .inl a4)), (ad 18, .inl (dA 0, 6, .inl a5)), (ad 22, .inl (dA 0, 2880, .inl a6)), (ad 23, .inl (dA 0, 43200, .inl a7)), (ad 25, .inl (dA 2, 2880, .inl a8))]) (As := [.int (0 : Int32)]) (rest := []) ⟨hx, hb, hml, hown, ht⟩ (zt_X11_laysStands l dC dI dA ad _ n (0 : Int32) f_taped f_at f_behind f_size f_kind f_number f_wrong f_wrongAt f_faultKind f_faultPlace f_reading f_toldWhy f_x f_standMany f_bestMany f_tail f_round1 b_all b_reckoned b_words b_stand b_then b_known (0 : Int32) v3 a4 a5 a6 a7 a8 hv3) (cwV 1 ht (zr_V zr_354 zr_355 zr_356 zr_36 zr_350) rfl rfl rfl zk_X11_laysStands ⟨Nat.le_of_ble_eq_true rfl, Nat.le_of_ble_eq_true rfl⟩) rfl rfl hK hP hD hS hA [5, 6, 0, 1, 2, 3, 4] [] (by decide) (by decide) (by decide) rfl rfl rfl hl.1 (Nat.le_of_ble_eq_true rfl) dX11_most_28 ⟨Nat.zero_le _, Nat.zero_le _⟩ rfl (fun H locs hP hD hS => ?_)
      have hP : va_P (dC, dI) zz_cls [zr_o ad (0 : Int32) f_taped f_at f_behind f_size f_kind f_number f_wrong f_wrongAt f_faultKind f_faultPlace f_reading f_toldWhy f_x v3 f_bestMany f_tail f_round1, (ad 2, .inl (dA 0, 2982, .inl b_all)), (ad 17, .inl (dA 0, 900, .inl a4)), (ad 18, .inl (dA 0, 6, .inl a5)), (ad 22, .inl (dA 0, 2880, .inl a6)), (ad 23, .inl (dA 0, 43200, .inl a7)), (ad 25, .inl (dA 2, 2880, .inl a8))] H := hP
      have hD : va_D A [zr_o ad (0 : Int32) f_taped f_at f_behind f_size f_kind f_number f_wrong f_wrongAt f_faultKind f_faultPlace f_reading f_toldWhy f_x v3 f_bestMany f_tail f_round1, (ad 2, .inl (dA 0, 2982, .inl b_all)), (ad 17, .inl (dA 0, 900, .inl a4)), (ad 18, .inl (dA 0, 6, .inl a5)), (ad 22, .inl (dA 0, 2880, .inl a6)), (ad 23, .inl (dA 0, 43200, .inl a7)), (ad 25, .inl (dA 2, 2880, .inl a8))] := hD
      refine lv_iconst (v := (-1 : Int32)) (pc := 31) hx hb dX11_most_31 (by decide) ?_
      refine lv_istore_n (lv' := [(3, .int (-1 : Int32)), (0, .ref (ad 0)), (1, .int p1), (2, .int p2)]) (pc := 32) hx hb dX11_most_32 rfl hl (by decide) rfl (fun ls hl => ?_)
      refine lv_iconst (v := (0 : Int32)) (pc := 33) hx hb dX11_most_33 (by decide) ?_
      refine lv_istore (lv' := [(4, .int (0 : Int32)), (3, .int (-1 : Int32)), (0, .ref (ad 0)), (1, .int p1), (2, .int p2)]) (pc := 34) hx hb dX11_most_34 hl (by decide) rfl (fun ls hl => ?_)
      obtain ⟨g23, v21, v22, hj, hf⟩ := zc_3 hf
      refine zj_join (pcJ := 118) (stk := []) (X := fun H locs ls => lv_has ls 6 [(2, .int p2), (3, .int v21)] ∧ va_P (dC, dI) zz_cls [zr_o ad (0 : Int32) f_taped f_at f_behind f_size f_kind f_number f_wrong f_wrongAt f_faultKind f_faultPlace f_reading f_toldWhy f_x v3 f_bestMany f_tail f_round1, (ad 2, .inl (dA 0, 2982, .inl b_all)), (ad 17, .inl (dA 0, 900, .inl a4)), (ad 18, .inl (dA 0, 6, .inl a5)), (ad 22, .inl (dA 0, 2880, .inl a6)), (ad 23, .inl (dA 0, 43200, .inl a7)), (ad 25, .inl (dA 2, 2880, .inl a8))] H ∧ va_D A [zr_o ad (0 : Int32) f_taped f_at f_behind f_size f_kind f_number f_wrong f_wrongAt f_faultKind f_faultPlace f_reading f_toldWhy f_x v3 f_bestMany f_tail f_round1, (ad 2, .inl (dA 0, 2982, .inl b_all)), (ad 17, .inl (dA 0, 900, .inl a4)), (ad 18, .inl (dA 0, 6, .inl a5)), (ad 22, .inl (dA 0, 2880, .inl a6)), (ad 23, .inl (dA 0, 43200, .inl a7)), (ad 25, .inl (dA 2, 2880, .inl a8))] ∧ va_S A s.heap H locs) (fun H locs ls hX => ?_) (fun E118 => ?_)
      · obtain ⟨hl, hP, hD, hS⟩ := hX
        clear hj
        refine lv_iload_n (pc := 118) hx hb dX11_most_118 rfl (lv_at hl 1 rfl) ?_
        refine lv_iconst (v := (-1 : Int32)) (pc := 119) hx hb dX11_most_119 (by decide) ?_
        refine lv_icmp_eq (tgt := 128) (pc := 120) hx hb dX11_most_120 rfl (fun hc => ?_) (fun hc => ?_)
        · have hf := za_t hf hc
          refine lv_iload_n (pc := 128) hx hb dX11_most_128 rfl (lv_at hl 1 rfl) ?_
          refine lv_goto (tgt := 136) (pc := 129) hx hb dX11_most_129 rfl ?_
          obtain ⟨rfl, rfl, rfl, rfl, rfl, rfl, rfl, rfl⟩ := zi_8 hf
          exact W.iret (pc := 136) hx hb hr (fun t ht hW => ⟨⟨_, (), rfl, rfl, zz_Bi (by rw [ht]; exact hP) (va_K.moved hW.alike hK) (hD)⟩, hS.F ht⟩) hS.2.2 dX11_most_136
        · have hf := za_f hf hc
          refine lv_iload_n (pc := 123) hx hb dX11_most_123 rfl (lv_at hl 0 rfl) ?_
          refine lv_iconst (v := (1 : Int32)) (pc := 124) hx hb dX11_most_124 (by decide) ?_
          refine lv_icmp_ne (tgt := 132) (pc := 125) hx hb dX11_most_125 rfl (fun hc => ?_) (fun hc => ?_)
          · have hf := za_f hf hc
            refine lv_iload_n (pc := 132) hx hb dX11_most_132 rfl (lv_at hl 1 rfl) ?_
            obtain ⟨v24, hv24, hf⟩ := zc_1 hf
            refine zw_Si (pc := 133) (wc := []) (wr := [zr_o ad (0 : Int32) f_taped f_at f_behind f_size f_kind f_number f_wrong f_wrongAt f_faultKind f_faultPlace f_reading f_toldWhy f_x v3 f_bestMany f_tail f_round1, (ad 2, .inl (dA 0, 2982, .inl b_all)), (ad 17, .inl (dA 0, 900, .inl a4)), (ad 18, .inl (dA 0, 6, .inl a5)), (ad 22, .inl (dA 0, 2880, .inl a6)), (ad 23, .inl (dA 0, 43200, .inl a7)), (ad 25, .inl (dA 2, 2880, .inl a8))]) (w1 := []) (As := [.int v21]) (rest := []) ⟨hx, hb, hml, hown, ht⟩ (zt_X11_bitsOf l dC dI dA ad _ n v21 v24 hv24) (cwS 1 ht (zr_S zr_225 zr_226 zr_36 zr_209) rfl rfl rfl zk_X11_bitsOf ⟨Nat.le_of_ble_eq_true rfl, Nat.le_of_ble_eq_true rfl⟩) hK hP hD hS hA [] [0, 1, 2, 3, 4, 5, 6] (by decide) (by decide) (by decide) rfl rfl rfl hl.1 (Nat.le_of_ble_eq_true rfl) dX11_most_133 ⟨Nat.zero_le _, Nat.zero_le _⟩ rfl (fun H locs hP hD hS => ?_)
            have hP : va_P (dC, dI) zz_cls [zr_o ad (0 : Int32) f_taped f_at f_behind f_size f_kind f_number f_wrong f_wrongAt f_faultKind f_faultPlace f_reading f_toldWhy f_x v3 f_bestMany f_tail f_round1, (ad 2, .inl (dA 0, 2982, .inl b_all)), (ad 17, .inl (dA 0, 900, .inl a4)), (ad 18, .inl (dA 0, 6, .inl a5)), (ad 22, .inl (dA 0, 2880, .inl a6)), (ad 23, .inl (dA 0, 43200, .inl a7)), (ad 25, .inl (dA 2, 2880, .inl a8))] H := hP
            have hD : va_D A [zr_o ad (0 : Int32) f_taped f_at f_behind f_size f_kind f_number f_wrong f_wrongAt f_faultKind f_faultPlace f_reading f_toldWhy f_x v3 f_bestMany f_tail f_round1, (ad 2, .inl (dA 0, 2982, .inl b_all)), (ad 17, .inl (dA 0, 900, .inl a4)), (ad 18, .inl (dA 0, 6, .inl a5)), (ad 22, .inl (dA 0, 2880, .inl a6)), (ad 23, .inl (dA 0, 43200, .inl a7)), (ad 25, .inl (dA 2, 2880, .inl a8))] := hD
            obtain ⟨rfl, rfl, rfl, rfl, rfl, rfl, rfl, rfl⟩ := zi_8 hf
            exact W.iret (pc := 136) hx hb hr (fun t ht hW => ⟨⟨_, (), rfl, rfl, zz_Bi (by rw [ht]; exact hP) (va_K.moved hW.alike hK) (hD)⟩, hS.F ht⟩) hS.2.2 dX11_most_136
          · have hf := za_t hf hc
            refine lv_iload_n (pc := 128) hx hb dX11_most_128 rfl (lv_at hl 1 rfl) ?_
            refine lv_goto (tgt := 136) (pc := 129) hx hb dX11_most_129 rfl ?_
            obtain ⟨rfl, rfl, rfl, rfl, rfl, rfl, rfl, rfl⟩ := zi_8 hf
            exact W.iret (pc := 136) hx hb hr (fun t ht hW => ⟨⟨_, (), rfl, rfl, zz_Bi (by rw [ht]; exact hP) (va_K.moved hW.alike hK) (hD)⟩, hS.F ht⟩) hS.2.2 dX11_most_136
      clear hf
      refine zw_loop (pcH := 36) (X := fun v H locs ls => lv_has ls 6 [(0, .ref (ad 0)), (1, .int p1), (2, .int p2), (3, .int v.1), (4, .int v.2)] ∧ va_P (dC, dI) zz_cls [zr_o ad (0 : Int32) f_taped f_at f_behind f_size f_kind f_number f_wrong f_wrongAt f_faultKind f_faultPlace f_reading f_toldWhy f_x v3 f_bestMany f_tail f_round1, (ad 2, .inl (dA 0, 2982, .inl b_all)), (ad 17, .inl (dA 0, 900, .inl a4)), (ad 18, .inl (dA 0, 6, .inl a5)), (ad 22, .inl (dA 0, 2880, .inl a6)), (ad 23, .inl (dA 0, 43200, .inl a7)), (ad 25, .inl (dA 2, 2880, .inl a8))] H ∧ va_D A [zr_o ad (0 : Int32) f_taped f_at f_behind f_size f_kind f_number f_wrong f_wrongAt f_faultKind f_faultPlace f_reading f_toldWhy f_x v3 f_bestMany f_tail f_round1, (ad 2, .inl (dA 0, 2982, .inl b_all)), (ad 17, .inl (dA 0, 900, .inl a4)), (ad 18, .inl (dA 0, 6, .inl a5)), (ad 22, .inl (dA 0, 2880, .inl a6)), (ad 23, .inl (dA 0, 43200, .inl a7)), (ad 25, .inl (dA 2, 2880, .inl a8))] ∧ va_S A s.heap H locs) hj (fun v w hf ih ex H locs ls hX => ?_) _ _ _ ⟨lv_sub hl [2, 3, 4, 1, 0] rfl, hP, hD, hS⟩
      clear hj
      obtain ⟨v9, v10⟩ := v
      obtain ⟨hl, hP, hD, hS⟩ := hX
      have hl : lv_has ls 6 [(0, .ref (ad 0)), (1, .int p1), (2, .int p2), (3, .int v9), (4, .int v10)] := hl
      have hP : va_P (dC, dI) zz_cls [zr_o ad (0 : Int32) f_taped f_at f_behind f_size f_kind f_number f_wrong f_wrongAt f_faultKind f_faultPlace f_reading f_toldWhy f_x v3 f_bestMany f_tail f_round1, (ad 2, .inl (dA 0, 2982, .inl b_all)), (ad 17, .inl (dA 0, 900, .inl a4)), (ad 18, .inl (dA 0, 6, .inl a5)), (ad 22, .inl (dA 0, 2880, .inl a6)), (ad 23, .inl (dA 0, 43200, .inl a7)), (ad 25, .inl (dA 2, 2880, .inl a8))] H := hP
      have hD : va_D A [zr_o ad (0 : Int32) f_taped f_at f_behind f_size f_kind f_number f_wrong f_wrongAt f_faultKind f_faultPlace f_reading f_toldWhy f_x v3 f_bestMany f_tail f_round1, (ad 2, .inl (dA 0, 2982, .inl b_all)), (ad 17, .inl (dA 0, 900, .inl a4)), (ad 18, .inl (dA 0, 6, .inl a5)), (ad 22, .inl (dA 0, 2880, .inl a6)), (ad 23, .inl (dA 0, 43200, .inl a7)), (ad 25, .inl (dA 2, 2880, .inl a8))] := hD
      replace hf : zb_X11_most_36 v3 a6 p1 n v9 v10 = some w := hf
      unfold zb_X11_most_36 at hf
      refine lv_iload (pc := 36) hx hb dX11_most_36 (lv_at hl 4 rfl) ?_
      refine lv_aload_n (pc := 38) hx hb dX11_most_38 rfl (lv_at hl 0 rfl) ?_
      refine va_get (pc := 39) (D := (dC, dI)) (ci := 0) (v := .int v3) (C := RX11) (T := TX11) (N := 42) hx hb ht zr_lay hown hK hP 0 rfl rfl 25 (by decide) (ht _ zr_340) (fun _ h9 => h9) rfl dX11_most_39 ?_
      refine lv_icmp_ge (tgt := 118) (pc := 42) hx hb dX11_most_42 rfl (fun hc => ?_) (fun hc => ?_)
      · have hf := za_t hf hc
        obtain rfl := Option.some.inj hf
        obtain ⟨rfl, rfl, rfl⟩ := zp_3 (ex (show ¬ (1 : Nat) = 0 by decide))
        exact E118 _ _ _ ⟨lv_sub hl [2, 3] rfl, hP, hD, hS⟩
      · have hf := za_f hf hc
        refine lv_aload_n (pc := 45) hx hb dX11_most_45 rfl (lv_at hl 0 rfl) ?_
        refine va_get (pc := 46) (D := (dC, dI)) (ci := 0) (v := .ref (ad 22)) (C := RX11) (T := TX11) (N := 42) hx hb ht zr_lay hown hK hP 0 rfl rfl 21 (by decide) (ht _ zr_15) (fun _ h9 => h9) rfl dX11_most_46 ?_
        refine lv_iload (pc := 49) hx hb dX11_most_49 (lv_at hl 4 rfl) ?_
        obtain ⟨v11, hv11, hf⟩ := zc_1 hf
        refine zw_iald (pc := 51) hx hb hK hP 4 0 rfl rfl hv11 dX11_most_51 ?_
        obtain ⟨v12, hv12, hf⟩ := zc_1 hf
        refine zw_Si (pc := 52) (wc := []) (wr := [zr_o ad (0 : Int32) f_taped f_at f_behind f_size f_kind f_number f_wrong f_wrongAt f_faultKind f_faultPlace f_reading f_toldWhy f_x v3 f_bestMany f_tail f_round1, (ad 2, .inl (dA 0, 2982, .inl b_all)), (ad 17, .inl (dA 0, 900, .inl a4)), (ad 18, .inl (dA 0, 6, .inl a5)), (ad 22, .inl (dA 0, 2880, .inl a6)), (ad 23, .inl (dA 0, 43200, .inl a7)), (ad 25, .inl (dA 2, 2880, .inl a8))]) (w1 := []) (As := [.int v11]) (rest := []) ⟨hx, hb, hml, hown, ht⟩ (zt_X11_rungIn l dC dI dA ad _ v11 v12 hv12) (cwS 1 ht (zr_S zr_217 zr_218 zr_36 zr_210) rfl rfl rfl zk_X11_rungIn ⟨Nat.le_of_ble_eq_true rfl, Nat.le_of_ble_eq_true rfl⟩) hK hP hD hS hA [] [0, 1, 2, 3, 4, 5, 6] (by decide) (by decide) (by decide) rfl rfl rfl hl.1 (Nat.le_of_ble_eq_true rfl) dX11_most_52 ⟨Nat.zero_le _, Nat.zero_le _⟩ rfl (fun H locs hP hD hS => ?_)
        have hP : va_P (dC, dI) zz_cls [zr_o ad (0 : Int32) f_taped f_at f_behind f_size f_kind f_number f_wrong f_wrongAt f_faultKind f_faultPlace f_reading f_toldWhy f_x v3 f_bestMany f_tail f_round1, (ad 2, .inl (dA 0, 2982, .inl b_all)), (ad 17, .inl (dA 0, 900, .inl a4)), (ad 18, .inl (dA 0, 6, .inl a5)), (ad 22, .inl (dA 0, 2880, .inl a6)), (ad 23, .inl (dA 0, 43200, .inl a7)), (ad 25, .inl (dA 2, 2880, .inl a8))] H := hP
        have hD : va_D A [zr_o ad (0 : Int32) f_taped f_at f_behind f_size f_kind f_number f_wrong f_wrongAt f_faultKind f_faultPlace f_reading f_toldWhy f_x v3 f_bestMany f_tail f_round1, (ad 2, .inl (dA 0, 2982, .inl b_all)), (ad 17, .inl (dA 0, 900, .inl a4)), (ad 18, .inl (dA 0, 6, .inl a5)), (ad 22, .inl (dA 0, 2880, .inl a6)), (ad 23, .inl (dA 0, 43200, .inl a7)), (ad 25, .inl (dA 2, 2880, .inl a8))] := hD
        refine lv_iload_n (pc := 55) hx hb dX11_most_55 rfl (lv_at hl 1 rfl) ?_
        obtain ⟨v19, hj, hf⟩ := zc_1 hf
        refine zj_join (pcJ := 112) (stk := []) (X := fun H locs ls => lv_has ls 6 [(0, .ref (ad 0)), (1, .int p1), (2, .int p2), (3, .int v19), (4, .int v10)] ∧ va_P (dC, dI) zz_cls [zr_o ad (0 : Int32) f_taped f_at f_behind f_size f_kind f_number f_wrong f_wrongAt f_faultKind f_faultPlace f_reading f_toldWhy f_x v3 f_bestMany f_tail f_round1, (ad 2, .inl (dA 0, 2982, .inl b_all)), (ad 17, .inl (dA 0, 900, .inl a4)), (ad 18, .inl (dA 0, 6, .inl a5)), (ad 22, .inl (dA 0, 2880, .inl a6)), (ad 23, .inl (dA 0, 43200, .inl a7)), (ad 25, .inl (dA 2, 2880, .inl a8))] H ∧ va_D A [zr_o ad (0 : Int32) f_taped f_at f_behind f_size f_kind f_number f_wrong f_wrongAt f_faultKind f_faultPlace f_reading f_toldWhy f_x v3 f_bestMany f_tail f_round1, (ad 2, .inl (dA 0, 2982, .inl b_all)), (ad 17, .inl (dA 0, 900, .inl a4)), (ad 18, .inl (dA 0, 6, .inl a5)), (ad 22, .inl (dA 0, 2880, .inl a6)), (ad 23, .inl (dA 0, 43200, .inl a7)), (ad 25, .inl (dA 2, 2880, .inl a8))] ∧ va_S A s.heap H locs) (fun H locs ls hX => ?_) (fun J112 => ?_)
        · obtain ⟨hl, hP, hD, hS⟩ := hX
          clear hj
          obtain ⟨v20, hv20, hf⟩ := zc_1 hf
          refine lv_iinc (v := v20) (lv' := [(4, .int v20), (0, .ref (ad 0)), (1, .int p1), (2, .int p2), (3, .int v19)]) (k := 4) (pc := 112) hx hb dX11_most_112 hl rfl (Option.some.inj hv20) (by decide) rfl (fun ls hl => ?_)
          refine lv_goto (tgt := 36) (pc := 115) hx hb dX11_most_115 rfl ?_
          obtain rfl := Option.some.inj hf
          exact ih rfl _ _ _ ⟨lv_sub hl [1, 2, 3, 4, 0] rfl, hP, hD, hS⟩
        · clear hf
          have hf := hj
          clear hj
          refine lv_icmp_eq (tgt := 62) (pc := 56) hx hb dX11_most_56 rfl (fun hc => ?_) (fun hc => ?_)
          · have hf := za_t hf hc
            refine lv_aload_n (pc := 62) hx hb dX11_most_62 rfl (lv_at hl 0 rfl) ?_
            refine va_get (pc := 63) (D := (dC, dI)) (ci := 0) (v := .ref (ad 22)) (C := RX11) (T := TX11) (N := 42) hx hb ht zr_lay hown hK hP 0 rfl rfl 21 (by decide) (ht _ zr_15) (fun _ h9 => h9) rfl dX11_most_63 ?_
            refine lv_iload (pc := 66) hx hb dX11_most_66 (lv_at hl 4 rfl) ?_
            obtain ⟨v13, hv13, hf⟩ := zc_1 hf
            refine zw_iald (pc := 68) hx hb hK hP 4 0 rfl rfl hv13 dX11_most_68 ?_
            obtain ⟨v14, hv14, hf⟩ := zc_1 hf
            refine zw_Si (pc := 69) (wc := []) (wr := [zr_o ad (0 : Int32) f_taped f_at f_behind f_size f_kind f_number f_wrong f_wrongAt f_faultKind f_faultPlace f_reading f_toldWhy f_x v3 f_bestMany f_tail f_round1, (ad 2, .inl (dA 0, 2982, .inl b_all)), (ad 17, .inl (dA 0, 900, .inl a4)), (ad 18, .inl (dA 0, 6, .inl a5)), (ad 22, .inl (dA 0, 2880, .inl a6)), (ad 23, .inl (dA 0, 43200, .inl a7)), (ad 25, .inl (dA 2, 2880, .inl a8))]) (w1 := []) (As := [.int v13]) (rest := []) ⟨hx, hb, hml, hown, ht⟩ (zt_X11_hasIn l dC dI dA ad _ v13 v14 hv14) (cwS 1 ht (zr_S zr_219 zr_220 zr_36 zr_211) rfl rfl rfl zk_X11_hasIn ⟨Nat.le_of_ble_eq_true rfl, Nat.le_of_ble_eq_true rfl⟩) hK hP hD hS hA [] [0, 1, 2, 3, 4, 5, 6] (by decide) (by decide) (by decide) rfl rfl rfl hl.1 (Nat.le_of_ble_eq_true rfl) dX11_most_69 ⟨Nat.zero_le _, Nat.zero_le _⟩ rfl (fun H locs hP hD hS => ?_)
            have hP : va_P (dC, dI) zz_cls [zr_o ad (0 : Int32) f_taped f_at f_behind f_size f_kind f_number f_wrong f_wrongAt f_faultKind f_faultPlace f_reading f_toldWhy f_x v3 f_bestMany f_tail f_round1, (ad 2, .inl (dA 0, 2982, .inl b_all)), (ad 17, .inl (dA 0, 900, .inl a4)), (ad 18, .inl (dA 0, 6, .inl a5)), (ad 22, .inl (dA 0, 2880, .inl a6)), (ad 23, .inl (dA 0, 43200, .inl a7)), (ad 25, .inl (dA 2, 2880, .inl a8))] H := hP
            have hD : va_D A [zr_o ad (0 : Int32) f_taped f_at f_behind f_size f_kind f_number f_wrong f_wrongAt f_faultKind f_faultPlace f_reading f_toldWhy f_x v3 f_bestMany f_tail f_round1, (ad 2, .inl (dA 0, 2982, .inl b_all)), (ad 17, .inl (dA 0, 900, .inl a4)), (ad 18, .inl (dA 0, 6, .inl a5)), (ad 22, .inl (dA 0, 2880, .inl a6)), (ad 23, .inl (dA 0, 43200, .inl a7)), (ad 25, .inl (dA 2, 2880, .inl a8))] := hD
            refine lv_istore (lv' := [(5, .int v14), (0, .ref (ad 0)), (1, .int p1), (2, .int p2), (3, .int v9), (4, .int v10)]) (pc := 72) hx hb dX11_most_72 hl (by decide) rfl (fun ls hl => ?_)
            refine lv_iload_n (pc := 74) hx hb dX11_most_74 rfl (lv_at hl 4 rfl) ?_
            refine lv_iconst (v := (-1 : Int32)) (pc := 75) hx hb dX11_most_75 (by decide) ?_
            refine lv_icmp_eq (tgt := 109) (pc := 76) hx hb dX11_most_76 rfl (fun hc => ?_) (fun hc => ?_)
            · have hf := za_t hf hc
              refine lv_iload (pc := 109) hx hb dX11_most_109 (lv_at hl 0 rfl) ?_
              refine lv_istore_n (lv' := [(3, .int v14), (5, .int v14), (0, .ref (ad 0)), (1, .int p1), (2, .int p2), (4, .int v10)]) (pc := 111) hx hb dX11_most_111 rfl hl (by decide) rfl (fun ls hl => ?_)
              obtain rfl := Option.some.inj hf
              exact J112 _ _ _ ⟨lv_sub hl [2, 3, 4, 0, 5] rfl, hP, hD, hS⟩
            · have hf := za_f hf hc
              refine lv_iload (pc := 79) hx hb dX11_most_79 (lv_at hl 0 rfl) ?_
              obtain ⟨v15, hv15, hf⟩ := zc_1 hf
              refine zw_Si (pc := 81) (wc := []) (wr := [zr_o ad (0 : Int32) f_taped f_at f_behind f_size f_kind f_number f_wrong f_wrongAt f_faultKind f_faultPlace f_reading f_toldWhy f_x v3 f_bestMany f_tail f_round1, (ad 2, .inl (dA 0, 2982, .inl b_all)), (ad 17, .inl (dA 0, 900, .inl a4)), (ad 18, .inl (dA 0, 6, .inl a5)), (ad 22, .inl (dA 0, 2880, .inl a6)), (ad 23, .inl (dA 0, 43200, .inl a7)), (ad 25, .inl (dA 2, 2880, .inl a8))]) (w1 := []) (As := [.int v14]) (rest := []) ⟨hx, hb, hml, hown, ht⟩ (zt_X11_bitsOf l dC dI dA ad _ n v14 v15 hv15) (cwS 1 ht (zr_S zr_225 zr_226 zr_36 zr_209) rfl rfl rfl zk_X11_bitsOf ⟨Nat.le_of_ble_eq_true rfl, Nat.le_of_ble_eq_true rfl⟩) hK hP hD hS hA [] [0, 1, 2, 3, 4, 5, 6] (by decide) (by decide) (by decide) rfl rfl rfl hl.1 (Nat.le_of_ble_eq_true rfl) dX11_most_81 ⟨Nat.zero_le _, Nat.zero_le _⟩ rfl (fun H locs hP hD hS => ?_)
              have hP : va_P (dC, dI) zz_cls [zr_o ad (0 : Int32) f_taped f_at f_behind f_size f_kind f_number f_wrong f_wrongAt f_faultKind f_faultPlace f_reading f_toldWhy f_x v3 f_bestMany f_tail f_round1, (ad 2, .inl (dA 0, 2982, .inl b_all)), (ad 17, .inl (dA 0, 900, .inl a4)), (ad 18, .inl (dA 0, 6, .inl a5)), (ad 22, .inl (dA 0, 2880, .inl a6)), (ad 23, .inl (dA 0, 43200, .inl a7)), (ad 25, .inl (dA 2, 2880, .inl a8))] H := hP
              have hD : va_D A [zr_o ad (0 : Int32) f_taped f_at f_behind f_size f_kind f_number f_wrong f_wrongAt f_faultKind f_faultPlace f_reading f_toldWhy f_x v3 f_bestMany f_tail f_round1, (ad 2, .inl (dA 0, 2982, .inl b_all)), (ad 17, .inl (dA 0, 900, .inl a4)), (ad 18, .inl (dA 0, 6, .inl a5)), (ad 22, .inl (dA 0, 2880, .inl a6)), (ad 23, .inl (dA 0, 43200, .inl a7)), (ad 25, .inl (dA 2, 2880, .inl a8))] := hD
              refine lv_iload_n (pc := 84) hx hb dX11_most_84 rfl (lv_at hl 4 rfl) ?_
              obtain ⟨v16, hv16, hf⟩ := zc_1 hf
              refine zw_Si (pc := 85) (wc := []) (wr := [zr_o ad (0 : Int32) f_taped f_at f_behind f_size f_kind f_number f_wrong f_wrongAt f_faultKind f_faultPlace f_reading f_toldWhy f_x v3 f_bestMany f_tail f_round1, (ad 2, .inl (dA 0, 2982, .inl b_all)), (ad 17, .inl (dA 0, 900, .inl a4)), (ad 18, .inl (dA 0, 6, .inl a5)), (ad 22, .inl (dA 0, 2880, .inl a6)), (ad 23, .inl (dA 0, 43200, .inl a7)), (ad 25, .inl (dA 2, 2880, .inl a8))]) (w1 := []) (As := [.int v9]) (rest := [.int v15]) ⟨hx, hb, hml, hown, ht⟩ (zt_X11_bitsOf l dC dI dA ad _ n v9 v16 hv16) (cwS 1 ht (zr_S zr_225 zr_226 zr_36 zr_209) rfl rfl rfl zk_X11_bitsOf ⟨Nat.le_of_ble_eq_true rfl, Nat.le_of_ble_eq_true rfl⟩) hK hP hD hS hA [] [0, 1, 2, 3, 4, 5, 6] (by decide) (by decide) (by decide) rfl rfl rfl hl.1 (Nat.le_of_ble_eq_true rfl) dX11_most_85 ⟨Nat.zero_le _, Nat.zero_le _⟩ rfl (fun H locs hP hD hS => ?_)
              have hP : va_P (dC, dI) zz_cls [zr_o ad (0 : Int32) f_taped f_at f_behind f_size f_kind f_number f_wrong f_wrongAt f_faultKind f_faultPlace f_reading f_toldWhy f_x v3 f_bestMany f_tail f_round1, (ad 2, .inl (dA 0, 2982, .inl b_all)), (ad 17, .inl (dA 0, 900, .inl a4)), (ad 18, .inl (dA 0, 6, .inl a5)), (ad 22, .inl (dA 0, 2880, .inl a6)), (ad 23, .inl (dA 0, 43200, .inl a7)), (ad 25, .inl (dA 2, 2880, .inl a8))] H := hP
              have hD : va_D A [zr_o ad (0 : Int32) f_taped f_at f_behind f_size f_kind f_number f_wrong f_wrongAt f_faultKind f_faultPlace f_reading f_toldWhy f_x v3 f_bestMany f_tail f_round1, (ad 2, .inl (dA 0, 2982, .inl b_all)), (ad 17, .inl (dA 0, 900, .inl a4)), (ad 18, .inl (dA 0, 6, .inl a5)), (ad 22, .inl (dA 0, 2880, .inl a6)), (ad 23, .inl (dA 0, 43200, .inl a7)), (ad 25, .inl (dA 2, 2880, .inl a8))] := hD
              refine lv_icmp_gt (tgt := 109) (pc := 88) hx hb dX11_most_88 rfl (fun hc => ?_) (fun hc => ?_)
              · have hf := za_t hf hc
                refine lv_iload (pc := 109) hx hb dX11_most_109 (lv_at hl 0 rfl) ?_
                refine lv_istore_n (lv' := [(3, .int v14), (5, .int v14), (0, .ref (ad 0)), (1, .int p1), (2, .int p2), (4, .int v10)]) (pc := 111) hx hb dX11_most_111 rfl hl (by decide) rfl (fun ls hl => ?_)
                obtain rfl := Option.some.inj hf
                exact J112 _ _ _ ⟨lv_sub hl [2, 3, 4, 0, 5] rfl, hP, hD, hS⟩
              · have hf := za_f hf hc
                refine lv_iload (pc := 91) hx hb dX11_most_91 (lv_at hl 0 rfl) ?_
                obtain ⟨v17, hv17, hf⟩ := zc_1 hf
                refine zw_Si (pc := 93) (wc := []) (wr := [zr_o ad (0 : Int32) f_taped f_at f_behind f_size f_kind f_number f_wrong f_wrongAt f_faultKind f_faultPlace f_reading f_toldWhy f_x v3 f_bestMany f_tail f_round1, (ad 2, .inl (dA 0, 2982, .inl b_all)), (ad 17, .inl (dA 0, 900, .inl a4)), (ad 18, .inl (dA 0, 6, .inl a5)), (ad 22, .inl (dA 0, 2880, .inl a6)), (ad 23, .inl (dA 0, 43200, .inl a7)), (ad 25, .inl (dA 2, 2880, .inl a8))]) (w1 := []) (As := [.int v14]) (rest := []) ⟨hx, hb, hml, hown, ht⟩ (zt_X11_bitsOf l dC dI dA ad _ n v14 v17 hv17) (cwS 1 ht (zr_S zr_225 zr_226 zr_36 zr_209) rfl rfl rfl zk_X11_bitsOf ⟨Nat.le_of_ble_eq_true rfl, Nat.le_of_ble_eq_true rfl⟩) hK hP hD hS hA [] [0, 1, 2, 3, 4, 5, 6] (by decide) (by decide) (by decide) rfl rfl rfl hl.1 (Nat.le_of_ble_eq_true rfl) dX11_most_93 ⟨Nat.zero_le _, Nat.zero_le _⟩ rfl (fun H locs hP hD hS => ?_)
                have hP : va_P (dC, dI) zz_cls [zr_o ad (0 : Int32) f_taped f_at f_behind f_size f_kind f_number f_wrong f_wrongAt f_faultKind f_faultPlace f_reading f_toldWhy f_x v3 f_bestMany f_tail f_round1, (ad 2, .inl (dA 0, 2982, .inl b_all)), (ad 17, .inl (dA 0, 900, .inl a4)), (ad 18, .inl (dA 0, 6, .inl a5)), (ad 22, .inl (dA 0, 2880, .inl a6)), (ad 23, .inl (dA 0, 43200, .inl a7)), (ad 25, .inl (dA 2, 2880, .inl a8))] H := hP
                have hD : va_D A [zr_o ad (0 : Int32) f_taped f_at f_behind f_size f_kind f_number f_wrong f_wrongAt f_faultKind f_faultPlace f_reading f_toldWhy f_x v3 f_bestMany f_tail f_round1, (ad 2, .inl (dA 0, 2982, .inl b_all)), (ad 17, .inl (dA 0, 900, .inl a4)), (ad 18, .inl (dA 0, 6, .inl a5)), (ad 22, .inl (dA 0, 2880, .inl a6)), (ad 23, .inl (dA 0, 43200, .inl a7)), (ad 25, .inl (dA 2, 2880, .inl a8))] := hD
                refine lv_iload_n (pc := 96) hx hb dX11_most_96 rfl (lv_at hl 4 rfl) ?_
                obtain ⟨v18, hv18, hf⟩ := zc_1 hf
                refine zw_Si (pc := 97) (wc := []) (wr := [zr_o ad (0 : Int32) f_taped f_at f_behind f_size f_kind f_number f_wrong f_wrongAt f_faultKind f_faultPlace f_reading f_toldWhy f_x v3 f_bestMany f_tail f_round1, (ad 2, .inl (dA 0, 2982, .inl b_all)), (ad 17, .inl (dA 0, 900, .inl a4)), (ad 18, .inl (dA 0, 6, .inl a5)), (ad 22, .inl (dA 0, 2880, .inl a6)), (ad 23, .inl (dA 0, 43200, .inl a7)), (ad 25, .inl (dA 2, 2880, .inl a8))]) (w1 := []) (As := [.int v9]) (rest := [.int v17]) ⟨hx, hb, hml, hown, ht⟩ (zt_X11_bitsOf l dC dI dA ad _ n v9 v18 hv18) (cwS 1 ht (zr_S zr_225 zr_226 zr_36 zr_209) rfl rfl rfl zk_X11_bitsOf ⟨Nat.le_of_ble_eq_true rfl, Nat.le_of_ble_eq_true rfl⟩) hK hP hD hS hA [] [0, 1, 2, 3, 4, 5, 6] (by decide) (by decide) (by decide) rfl rfl rfl hl.1 (Nat.le_of_ble_eq_true rfl) dX11_most_97 ⟨Nat.zero_le _, Nat.zero_le _⟩ rfl (fun H locs hP hD hS => ?_)
                have hP : va_P (dC, dI) zz_cls [zr_o ad (0 : Int32) f_taped f_at f_behind f_size f_kind f_number f_wrong f_wrongAt f_faultKind f_faultPlace f_reading f_toldWhy f_x v3 f_bestMany f_tail f_round1, (ad 2, .inl (dA 0, 2982, .inl b_all)), (ad 17, .inl (dA 0, 900, .inl a4)), (ad 18, .inl (dA 0, 6, .inl a5)), (ad 22, .inl (dA 0, 2880, .inl a6)), (ad 23, .inl (dA 0, 43200, .inl a7)), (ad 25, .inl (dA 2, 2880, .inl a8))] H := hP
                have hD : va_D A [zr_o ad (0 : Int32) f_taped f_at f_behind f_size f_kind f_number f_wrong f_wrongAt f_faultKind f_faultPlace f_reading f_toldWhy f_x v3 f_bestMany f_tail f_round1, (ad 2, .inl (dA 0, 2982, .inl b_all)), (ad 17, .inl (dA 0, 900, .inl a4)), (ad 18, .inl (dA 0, 6, .inl a5)), (ad 22, .inl (dA 0, 2880, .inl a6)), (ad 23, .inl (dA 0, 43200, .inl a7)), (ad 25, .inl (dA 2, 2880, .inl a8))] := hD
                refine lv_icmp_ne (tgt := 112) (pc := 100) hx hb dX11_most_100 rfl (fun hc => ?_) (fun hc => ?_)
                · have hf := za_f hf hc
                  obtain rfl := Option.some.inj hf
                  exact J112 _ _ _ ⟨lv_sub hl [1, 2, 3, 4, 5] rfl, hP, hD, hS⟩
                · have hf := za_t hf hc
                  refine lv_iload (pc := 103) hx hb dX11_most_103 (lv_at hl 0 rfl) ?_
                  refine lv_iload_n (pc := 105) hx hb dX11_most_105 rfl (lv_at hl 4 rfl) ?_
                  refine lv_icmp_ge (tgt := 112) (pc := 106) hx hb dX11_most_106 rfl (fun hc => ?_) (fun hc => ?_)
                  · have hf := za_t hf hc
                    obtain rfl := Option.some.inj hf
                    exact J112 _ _ _ ⟨lv_sub hl [1, 2, 3, 4, 5] rfl, hP, hD, hS⟩
                  · have hf := za_f hf hc
                    refine lv_iload (pc := 109) hx hb dX11_most_109 (lv_at hl 0 rfl) ?_
                    refine lv_istore_n (lv' := [(3, .int v14), (5, .int v14), (0, .ref (ad 0)), (1, .int p1), (2, .int p2), (4, .int v10)]) (pc := 111) hx hb dX11_most_111 rfl hl (by decide) rfl (fun ls hl => ?_)
                    obtain rfl := Option.some.inj hf
                    exact J112 _ _ _ ⟨lv_sub hl [2, 3, 4, 0, 5] rfl, hP, hD, hS⟩
          · have hf := za_f hf hc
            refine lv_goto (tgt := 112) (pc := 59) hx hb dX11_most_59 rfl ?_
            obtain rfl := Option.some.inj hf
            exact J112 _ _ _ ⟨lv_sub hl [0, 1, 2, 3, 4] rfl, hP, hD, hS⟩
    · have hf := za_t hf hc
      refine lv_bipush (v := (-2 : Int32)) (pc := 23) hx hb dX11_most_23 (by decide) ?_
      obtain ⟨rfl, rfl, rfl, rfl, rfl, rfl, rfl, rfl⟩ := zi_8 hf
      exact W.iret (pc := 25) hx hb hr (fun t ht hW => ⟨⟨_, (), rfl, rfl, zz_Bi (by rw [ht]; exact hP.sub [5, 6, 0, 1, 2, 3, 4] rfl) (va_K.moved hW.alike hK) (hD.sub [5, 6, 0, 1, 2, 3, 4] (by decide) rfl)⟩, hS.F ht⟩) hS.2.2 dX11_most_25

def zb_X11_loses_28 (v2 : Int32) (a5 : (Nat → Int32)) (p1 : Int32) (v8 : Int32) (v9 : Int32) (v10 : Int32) : Option (Nat × Int32 × Int32 × Int32) :=
  if v2 ≤ v10 then
    some (1, v8, v9, v10)
  else
    zd_1 (za_ld a5 2880 v10) (fun v11 =>
    zd_1 (zf_X11_rungIn v11) (fun v12 =>
    zd_2 (
      if v12 = p1 then
        zd_1 (za_ld a5 2880 v10) (fun v13 =>
        zd_1 (zf_X11_hasIn v13) (fun v14 =>
        zd_1 (some ((v8 ||| v14))) (fun v15 =>
        some (v15, (1 : Int32)))))
      else
        some (v8, v9)) (fun v16 v17 =>
    zd_1 (some (v10 + (1 : Int32))) (fun v18 =>
    some (0, v16, v17, v18)))))
def zf_X11_loses (n : Nat) (f_thrown : Int32) (f_standMany : Int32) (b_all : (Nat → Int32)) (b_reckoned : (Nat → Int32)) (b_words : (Nat → Int32)) (b_stand : (Nat → Int32)) (b_then : (Nat → Int32)) (b_known : (Nat → Int32)) (p1 : Int32) : Option (Int32 × Int32 × Int32 × (Nat → Int32) × (Nat → Int32) × (Nat → Int32) × (Nat → Int32) × (Nat → Int32)) :=
  zd_1 (zf_X11_isRung b_all p1) (fun v1 =>
  if v1 = 0 then
    some ((-2 : Int32), (0 : Int32), f_standMany, b_reckoned, b_words, b_stand, b_then, b_known)
  else
    zd_6 (zf_X11_laysStands n f_standMany b_all b_reckoned b_words b_stand b_then b_known (0 : Int32)) (fun v2 a3 a4 a5 a6 a7 =>
    zd_4 (za_it (fun v => zb_X11_loses_28 v2 a5 p1 v.1 v.2.1 v.2.2) n ((0 : Int32), (0 : Int32), (0 : Int32))) (fun g22 v19 v20 v21 =>
    if v20 = 0 then
      some ((0 : Int32), (0 : Int32), v2, a3, a4, a5, a6, a7)
    else
      zd_1 (za_ld b_all 2982 (38 : Int32)) (fun v23 =>
      some ((v23 &&& (v19 ^^^ (-1 : Int32))), (0 : Int32), v2, a3, a4, a5, a6, a7)))))
theorem zk_X11_loses : yX11_loses.cls = RX11 ∧ yX11_loses.cls ≠ "java/lang/invoke/MethodHandle" ∧ yX11_loses.cls ≠ "java/lang/invoke/VarHandle" ∧ (parseMethodDescriptor yX11_loses.desc).map (fun d => d.parameters.length) = some 1 := by decide +kernel
set_option maxHeartbeats 4000000 in
set_option maxRecDepth 100000 in
theorem zt_X11_loses (l : Launch) (dC : Nat → ClassId) (dI : Nat → Nat → Nat) (dA : Nat → ClassId) (ad : Nat → Nat) (sz : Nat) (n : Nat) (f_thrown f_taped f_at f_behind f_size f_kind f_number f_wrong f_wrongAt f_faultKind f_faultPlace f_reading f_toldWhy f_x f_standMany f_bestMany f_tail f_round1 : Int32) (b_all : (Nat → Int32)) (b_reckoned : (Nat → Int32)) (b_words : (Nat → Int32)) (b_stand : (Nat → Int32)) (b_then : (Nat → Int32)) (b_known : (Nat → Int32)) (p1 : Int32) (r0 : Int32) (o1 : Int32) (o2 : Int32) (o3 : (Nat → Int32)) (o4 : (Nat → Int32)) (o5 : (Nat → Int32)) (o6 : (Nat → Int32)) (o7 : (Nat → Int32)) (hf : zf_X11_loses n f_thrown f_standMany b_all b_reckoned b_words b_stand b_then b_known p1 = some (r0, o1, o2, o3, o4, o5, o6, o7)) : Met l yX11_loses (.code yX11_loses cX11_loses 5 (some .int) :: zr_T) ({ frames := 5, cells := 0, slots := 0, locals := 123 }) (va_Pc [.ref (ad 0), .int p1] (zz_M dC dI dA [zr_o ad f_thrown f_taped f_at f_behind f_size f_kind f_number f_wrong f_wrongAt f_faultKind f_faultPlace f_reading f_toldWhy f_x f_standMany f_bestMany f_tail f_round1, (ad 2, .inl (dA 0, 2982, .inl b_all)), (ad 17, .inl (dA 0, 900, .inl b_reckoned)), (ad 18, .inl (dA 0, 6, .inl b_words)), (ad 22, .inl (dA 0, 2880, .inl b_stand)), (ad 23, .inl (dA 0, 43200, .inl b_then)), (ad 25, .inl (dA 2, 2880, .inl b_known))] sz)) (va_Qi (fun (r : Int32) (_ : Unit) => r = r0) (fun _ t => zz_B dC dI dA (va_A [zr_o ad f_thrown f_taped f_at f_behind f_size f_kind f_number f_wrong f_wrongAt f_faultKind f_faultPlace f_reading f_toldWhy f_x f_standMany f_bestMany f_tail f_round1, (ad 2, .inl (dA 0, 2982, .inl b_all)), (ad 17, .inl (dA 0, 900, .inl b_reckoned)), (ad 18, .inl (dA 0, 6, .inl b_words)), (ad 22, .inl (dA 0, 2880, .inl b_stand)), (ad 23, .inl (dA 0, 43200, .inl b_then)), (ad 25, .inl (dA 2, 2880, .inl b_known))] sz) [zr_o ad o1 f_taped f_at f_behind f_size f_kind f_number f_wrong f_wrongAt f_faultKind f_faultPlace f_reading f_toldWhy f_x o2 f_bestMany f_tail f_round1, (ad 2, .inl (dA 0, 2982, .inl b_all)), (ad 17, .inl (dA 0, 900, .inl o3)), (ad 18, .inl (dA 0, 6, .inl o4)), (ad 22, .inl (dA 0, 2880, .inl o5)), (ad 23, .inl (dA 0, 43200, .inl o6)), (ad 25, .inl (dA 2, 2880, .inl o7))] t) (va_A [zr_o ad f_thrown f_taped f_at f_behind f_size f_kind f_number f_wrong f_wrongAt f_faultKind f_faultPlace f_reading f_toldWhy f_x f_standMany f_bestMany f_tail f_round1, (ad 2, .inl (dA 0, 2982, .inl b_all)), (ad 17, .inl (dA 0, 900, .inl b_reckoned)), (ad 18, .inl (dA 0, 6, .inl b_words)), (ad 22, .inl (dA 0, 2880, .inl b_stand)), (ad 23, .inl (dA 0, 43200, .inl b_then)), (ad 25, .inl (dA 2, 2880, .inl b_known))] sz)) 0 0 (va_A [zr_o ad f_thrown f_taped f_at f_behind f_size f_kind f_number f_wrong f_wrongAt f_faultKind f_faultPlace f_reading f_toldWhy f_x f_standMany f_bestMany f_tail f_round1, (ad 2, .inl (dA 0, 2982, .inl b_all)), (ad 17, .inl (dA 0, 900, .inl b_reckoned)), (ad 18, .inl (dA 0, 6, .inl b_words)), (ad 22, .inl (dA 0, 2880, .inl b_stand)), (ad 23, .inl (dA 0, 43200, .inl b_then)), (ad 25, .inl (dA 2, 2880, .inl b_known))] sz) := by
  unfold zf_X11_loses at hf
  refine Met.ofW (cc := cX11_loses) (maxL := 5) (ret := (some .int)) (by decide) rfl ?_
  intro p e s m args below meth c s₁ B hml hv
  obtain ⟨rfl, hsz, hP, hK, hD0⟩ := hv
  have hx := B.exec
  have hb := B.bytes
  have hr := B.returns
  have ht : ∀ w ∈ zr_T, w.before ([.ref (ad 0), .int p1] : List Value).toArray s = true := fun w hw => atoms_spec (ws := .code yX11_loses cX11_loses 5 (some .int) :: zr_T) B.pre w (List.mem_cons_of_mem _ hw)
  have hown : s.vm.findClass RX11 = some m.cls := findClass_of_methodNamed B.named
  have hlocks := B.notSynchronized
  subst hsz
  have hD := hD0.self (sz := s.heap.size)
  generalize hAe : va_A [zr_o ad f_thrown f_taped f_at f_behind f_size f_kind f_number f_wrong f_wrongAt f_faultKind f_faultPlace f_reading f_toldWhy f_x f_standMany f_bestMany f_tail f_round1, (ad 2, .inl (dA 0, 2982, .inl b_all)), (ad 17, .inl (dA 0, 900, .inl b_reckoned)), (ad 18, .inl (dA 0, 6, .inl b_words)), (ad 22, .inl (dA 0, 2880, .inl b_stand)), (ad 23, .inl (dA 0, 43200, .inl b_then)), (ad 25, .inl (dA 2, 2880, .inl b_known))] s.heap.size = A at hD ⊢
  have hA : ∀ q : Nat, s.heap.size ≤ q → A q := fun q h => by rw [← hAe]; exact Or.inr h
  clear hAe hD0
  have hS : va_S A s.heap s.heap [] := va_S.rf
  have hl := lv_entry ([.ref (ad 0), .int p1]) (n := 5) (Nat.le_of_ble_eq_true rfl)
  rw [lg_entry_eq]
  generalize (lg_sl ([.ref (ad 0), .int p1]) ++ List.replicate (5 - (lg_sl ([.ref (ad 0), .int p1])).length) Slot.unset).toArray = ls at hl ⊢
  have hl : lv_has ls 5 [(0, .ref (ad 0)), (1, .int p1)] := hl
  refine lv_aload_n (pc := 0) hx hb dX11_loses_0 rfl (lv_at hl 0 rfl) ?_
  refine lv_iconst (v := (0 : Int32)) (pc := 1) hx hb dX11_loses_1 (by decide) ?_
  refine va_put (pc := 2) (D := (dC, dI)) (ci := 0) (v := .int (0 : Int32)) (ty := .int) (C := RX11) (T := TX11) (N := 42) hx hb ht zr_lay tyX11 tyX11_ok nmX11 hown hK hP hD hS 0 rfl rfl 0 (by decide) (ht _ zr_39) (fun _ h9 => h9) rfl (by decide +kernel) rfl rfl (Nat.le_of_ble_eq_true rfl) dX11_loses_2 (fun H locs hP hD hS => ?_)
  have hP : va_P (dC, dI) zz_cls [zr_o ad (0 : Int32) f_taped f_at f_behind f_size f_kind f_number f_wrong f_wrongAt f_faultKind f_faultPlace f_reading f_toldWhy f_x f_standMany f_bestMany f_tail f_round1, (ad 2, .inl (dA 0, 2982, .inl b_all)), (ad 17, .inl (dA 0, 900, .inl b_reckoned)), (ad 18, .inl (dA 0, 6, .inl b_words)), (ad 22, .inl (dA 0, 2880, .inl b_stand)), (ad 23, .inl (dA 0, 43200, .inl b_then)), (ad 25, .inl (dA 2, 2880, .inl b_known))] H := hP
  have hD : va_D A [zr_o ad (0 : Int32) f_taped f_at f_behind f_size f_kind f_number f_wrong f_wrongAt f_faultKind f_faultPlace f_reading f_toldWhy f_x f_standMany f_bestMany f_tail f_round1, (ad 2, .inl (dA 0, 2982, .inl b_all)), (ad 17, .inl (dA 0, 900, .inl b_reckoned)), (ad 18, .inl (dA 0, 6, .inl b_words)), (ad 22, .inl (dA 0, 2880, .inl b_stand)), (ad 23, .inl (dA 0, 43200, .inl b_then)), (ad 25, .inl (dA 2, 2880, .inl b_known))] := hD
  refine lv_aload_n (pc := 5) hx hb dX11_loses_5 rfl (lv_at hl 0 rfl) ?_
  refine lv_iload_n (pc := 6) hx hb dX11_loses_6 rfl (lv_at hl 1 rfl) ?_
  obtain ⟨v1, hv1, hf⟩ := zc_1 hf
  refine zw_Vi (pc := 7) (wc := [zr_o ad (0 : Int32) f_taped f_at f_behind f_size f_kind f_number f_wrong f_wrongAt f_faultKind f_faultPlace f_reading f_toldWhy f_x f_standMany f_bestMany f_tail f_round1, (ad 2, .inl (dA 0, 2982, .inl b_all))]) (wr := [(ad 17, .inl (dA 0, 900, .inl b_reckoned)), (ad 18, .inl (dA 0, 6, .inl b_words)), (ad 22, .inl (dA 0, 2880, .inl b_stand)), (ad 23, .inl (dA 0, 43200, .inl b_then)), (ad 25, .inl (dA 2, 2880, .inl b_known))]) (w1 := [zr_o ad (0 : Int32) f_taped f_at f_behind f_size f_kind f_number f_wrong f_wrongAt f_faultKind f_faultPlace f_reading f_toldWhy f_x f_standMany f_bestMany f_tail f_round1, (ad 2, .inl (dA 0, 2982, .inl b_all))]) (As := [.int p1]) (rest := []) ⟨hx, hb, hml, hown, ht⟩ (zt_X11_isRung l dC dI dA ad _ (0 : Int32) f_taped f_at f_behind f_size f_kind f_number f_wrong f_wrongAt f_faultKind f_faultPlace f_reading f_toldWhy f_x f_standMany f_bestMany f_tail f_round1 b_all p1 v1 hv1) (cwV 1 ht (zr_V zr_255 zr_256 zr_257 zr_36 zr_206) rfl rfl rfl zk_X11_isRung ⟨Nat.le_of_ble_eq_true rfl, Nat.le_of_ble_eq_true rfl⟩) rfl rfl hK hP hD hS hA [0, 1] [2, 3, 4, 5, 6] (by decide) (by decide) (by decide) rfl rfl rfl hl.1 (Nat.le_of_ble_eq_true rfl) dX11_loses_7 ⟨Nat.zero_le _, Nat.zero_le _⟩ rfl (fun H locs hP hD hS => ?_)
  have hP : va_P (dC, dI) zz_cls [(ad 17, .inl (dA 0, 900, .inl b_reckoned)), (ad 18, .inl (dA 0, 6, .inl b_words)), (ad 22, .inl (dA 0, 2880, .inl b_stand)), (ad 23, .inl (dA 0, 43200, .inl b_then)), (ad 25, .inl (dA 2, 2880, .inl b_known)), zr_o ad (0 : Int32) f_taped f_at f_behind f_size f_kind f_number f_wrong f_wrongAt f_faultKind f_faultPlace f_reading f_toldWhy f_x f_standMany f_bestMany f_tail f_round1, (ad 2, .inl (dA 0, 2982, .inl b_all))] H := hP
  have hD : va_D A [(ad 17, .inl (dA 0, 900, .inl b_reckoned)), (ad 18, .inl (dA 0, 6, .inl b_words)), (ad 22, .inl (dA 0, 2880, .inl b_stand)), (ad 23, .inl (dA 0, 43200, .inl b_then)), (ad 25, .inl (dA 2, 2880, .inl b_known)), zr_o ad (0 : Int32) f_taped f_at f_behind f_size f_kind f_number f_wrong f_wrongAt f_faultKind f_faultPlace f_reading f_toldWhy f_x f_standMany f_bestMany f_tail f_round1, (ad 2, .inl (dA 0, 2982, .inl b_all))] := hD
  refine lv_if_ne (tgt := 16) (pc := 10) hx hb dX11_loses_10 rfl (fun hc => ?_) (fun hc => ?_)
  · have hf := za_f hf hc
    refine lv_aload_n (pc := 16) hx hb dX11_loses_16 rfl (lv_at hl 0 rfl) ?_
    refine lv_iconst (v := (0 : Int32)) (pc := 17) hx hb dX11_loses_17 (by decide) ?_
    obtain ⟨v2, a3, a4, a5, a6, a7, hv2, hf⟩ := zc_6 hf
    refine zw_Vv (pc := 18) (wc := [zr_o ad (0 : Int32) f_taped f_at f_behind f_size f_kind f_number f_wrong f_wrongAt f_faultKind f_faultPlace f_reading f_toldWhy f_x f_standMany f_bestMany f_tail f_round1, (ad 2, .inl (dA 0, 2982, .inl b_all)), (ad 17, .inl (dA 0, 900, .inl b_reckoned)), (ad 18, .inl (dA 0, 6, .inl b_words)), (ad 22, .inl (dA 0, 2880, .inl b_stand)), (ad 23, .inl (dA 0, 43200, .inl b_then)), (ad 25, .inl (dA 2, 2880, .inl b_known))]) (wr := []) (w1 := [zr_o ad (0 : Int32) f_taped f_at f_behind f_size f_kind f_number f_wrong f_wrongAt f_faultKind f_faultPlace f_reading f_toldWhy f_x v2 f_bestMany f_tail f_round1, (ad 2, .inl (dA 0, 2982, .inl b_all)), (ad 17, .inl (dA 0, 900, .inl a3)), (ad 18, .inl (dA 0, 6, .inl a4)), (ad 22, .inl (dA 0, 2880, .inl a5)), (ad 23, .inl (dA 0, 43200, .inl a6)), (ad 25, .inl (dA 2, 2880, .inl a7))]) (As := [.int (0 : Int32)]) (rest := []) ⟨hx, hb, hml, hown, ht⟩ (zt_X11_laysStands l dC dI dA ad _ n (0 : Int32) f_taped f_at f_behind f_size f_kind f_number f_wrong f_wrongAt f_faultKind f_faultPlace f_reading f_toldWhy f_x f_standMany f_bestMany f_tail f_round1 b_all b_reckoned b_words b_stand b_then b_known (0 : Int32) v2 a3 a4 a5 a6 a7 hv2) (cwV 1 ht (zr_V zr_354 zr_355 zr_356 zr_36 zr_350) rfl rfl rfl zk_X11_laysStands ⟨Nat.le_of_ble_eq_true rfl, Nat.le_of_ble_eq_true rfl⟩) rfl rfl hK hP hD hS hA [5, 6, 0, 1, 2, 3, 4] [] (by decide) (by decide) (by decide) rfl rfl rfl hl.1 (Nat.le_of_ble_eq_true rfl) dX11_loses_18 ⟨Nat.zero_le _, Nat.zero_le _⟩ rfl (fun H locs hP hD hS => ?_)
    have hP : va_P (dC, dI) zz_cls [zr_o ad (0 : Int32) f_taped f_at f_behind f_size f_kind f_number f_wrong f_wrongAt f_faultKind f_faultPlace f_reading f_toldWhy f_x v2 f_bestMany f_tail f_round1, (ad 2, .inl (dA 0, 2982, .inl b_all)), (ad 17, .inl (dA 0, 900, .inl a3)), (ad 18, .inl (dA 0, 6, .inl a4)), (ad 22, .inl (dA 0, 2880, .inl a5)), (ad 23, .inl (dA 0, 43200, .inl a6)), (ad 25, .inl (dA 2, 2880, .inl a7))] H := hP
    have hD : va_D A [zr_o ad (0 : Int32) f_taped f_at f_behind f_size f_kind f_number f_wrong f_wrongAt f_faultKind f_faultPlace f_reading f_toldWhy f_x v2 f_bestMany f_tail f_round1, (ad 2, .inl (dA 0, 2982, .inl b_all)), (ad 17, .inl (dA 0, 900, .inl a3)), (ad 18, .inl (dA 0, 6, .inl a4)), (ad 22, .inl (dA 0, 2880, .inl a5)), (ad 23, .inl (dA 0, 43200, .inl a6)), (ad 25, .inl (dA 2, 2880, .inl a7))] := hD
    refine lv_iconst (v := (0 : Int32)) (pc := 21) hx hb dX11_loses_21 (by decide) ?_
    refine lv_istore_n (lv' := [(2, .int (0 : Int32)), (0, .ref (ad 0)), (1, .int p1)]) (pc := 22) hx hb dX11_loses_22 rfl hl (by decide) rfl (fun ls hl => ?_)
    refine lv_iconst (v := (0 : Int32)) (pc := 23) hx hb dX11_loses_23 (by decide) ?_
    refine lv_istore_n (lv' := [(3, .int (0 : Int32)), (2, .int (0 : Int32)), (0, .ref (ad 0)), (1, .int p1)]) (pc := 24) hx hb dX11_loses_24 rfl hl (by decide) rfl (fun ls hl => ?_)
    refine lv_iconst (v := (0 : Int32)) (pc := 25) hx hb dX11_loses_25 (by decide) ?_
    refine lv_istore (lv' := [(4, .int (0 : Int32)), (3, .int (0 : Int32)), (2, .int (0 : Int32)), (0, .ref (ad 0)), (1, .int p1)]) (pc := 26) hx hb dX11_loses_26 hl (by decide) rfl (fun ls hl => ?_)
    obtain ⟨g22, v19, v20, v21, hj, hf⟩ := zc_4 hf
    refine zj_join (pcJ := 75) (stk := []) (X := fun H locs ls => lv_has ls 5 [(0, .ref (ad 0)), (2, .int v19), (3, .int v20)] ∧ va_P (dC, dI) zz_cls [zr_o ad (0 : Int32) f_taped f_at f_behind f_size f_kind f_number f_wrong f_wrongAt f_faultKind f_faultPlace f_reading f_toldWhy f_x v2 f_bestMany f_tail f_round1, (ad 2, .inl (dA 0, 2982, .inl b_all)), (ad 17, .inl (dA 0, 900, .inl a3)), (ad 18, .inl (dA 0, 6, .inl a4)), (ad 22, .inl (dA 0, 2880, .inl a5)), (ad 23, .inl (dA 0, 43200, .inl a6)), (ad 25, .inl (dA 2, 2880, .inl a7))] H ∧ va_D A [zr_o ad (0 : Int32) f_taped f_at f_behind f_size f_kind f_number f_wrong f_wrongAt f_faultKind f_faultPlace f_reading f_toldWhy f_x v2 f_bestMany f_tail f_round1, (ad 2, .inl (dA 0, 2982, .inl b_all)), (ad 17, .inl (dA 0, 900, .inl a3)), (ad 18, .inl (dA 0, 6, .inl a4)), (ad 22, .inl (dA 0, 2880, .inl a5)), (ad 23, .inl (dA 0, 43200, .inl a6)), (ad 25, .inl (dA 2, 2880, .inl a7))] ∧ va_S A s.heap H locs) (fun H locs ls hX => ?_) (fun E75 => ?_)
    · obtain ⟨hl, hP, hD, hS⟩ := hX
      clear hj
      refine lv_iload_n (pc := 75) hx hb dX11_loses_75 rfl (lv_at hl 2 rfl) ?_
      refine lv_if_eq (tgt := 93) (pc := 76) hx hb dX11_loses_76 rfl (fun hc => ?_) (fun hc => ?_)
      · have hf := za_t hf hc
        refine lv_iconst (v := (0 : Int32)) (pc := 93) hx hb dX11_loses_93 (by decide) ?_
        obtain ⟨rfl, rfl, rfl, rfl, rfl, rfl, rfl, rfl⟩ := zi_8 hf
        exact W.iret (pc := 94) hx hb hr (fun t ht hW => ⟨⟨_, (), rfl, rfl, zz_Bi (by rw [ht]; exact hP) (va_K.moved hW.alike hK) (hD)⟩, hS.F ht⟩) hS.2.2 dX11_loses_94
      · have hf := za_f hf hc
        refine lv_aload_n (pc := 79) hx hb dX11_loses_79 rfl (lv_at hl 0 rfl) ?_
        refine va_get (pc := 80) (D := (dC, dI)) (ci := 0) (v := .ref (ad 2)) (C := RX11) (T := TX11) (N := 42) hx hb ht zr_lay hown hK hP 0 rfl rfl 1 (by decide) (ht _ zr_6) (fun _ h9 => h9) rfl dX11_loses_80 ?_
        refine lv_bipush (v := (38 : Int32)) (pc := 83) hx hb dX11_loses_83 (by decide) ?_
        obtain ⟨v23, hv23, hf⟩ := zc_1 hf
        refine zw_iald (pc := 85) hx hb hK hP 1 0 rfl rfl hv23 dX11_loses_85 ?_
        refine lv_iload_n (pc := 86) hx hb dX11_loses_86 rfl (lv_at hl 1 rfl) ?_
        refine lv_iconst (v := (-1 : Int32)) (pc := 87) hx hb dX11_loses_87 (by decide) ?_
        refine lv_ixor (pc := 88) hx hb dX11_loses_88 ?_
        refine lv_iand (pc := 89) hx hb dX11_loses_89 ?_
        refine lv_goto (tgt := 94) (pc := 90) hx hb dX11_loses_90 rfl ?_
        obtain ⟨rfl, rfl, rfl, rfl, rfl, rfl, rfl, rfl⟩ := zi_8 hf
        exact W.iret (pc := 94) hx hb hr (fun t ht hW => ⟨⟨_, (), rfl, rfl, zz_Bi (by rw [ht]; exact hP) (va_K.moved hW.alike hK) (hD)⟩, hS.F ht⟩) hS.2.2 dX11_loses_94
    clear hf
    refine zw_loop (pcH := 28) (X := fun v H locs ls => lv_has ls 5 [(0, .ref (ad 0)), (1, .int p1), (2, .int v.1), (3, .int v.2.1), (4, .int v.2.2)] ∧ va_P (dC, dI) zz_cls [zr_o ad (0 : Int32) f_taped f_at f_behind f_size f_kind f_number f_wrong f_wrongAt f_faultKind f_faultPlace f_reading f_toldWhy f_x v2 f_bestMany f_tail f_round1, (ad 2, .inl (dA 0, 2982, .inl b_all)), (ad 17, .inl (dA 0, 900, .inl a3)), (ad 18, .inl (dA 0, 6, .inl a4)), (ad 22, .inl (dA 0, 2880, .inl a5)), (ad 23, .inl (dA 0, 43200, .inl a6)), (ad 25, .inl (dA 2, 2880, .inl a7))] H ∧ va_D A [zr_o ad (0 : Int32) f_taped f_at f_behind f_size f_kind f_number f_wrong f_wrongAt f_faultKind f_faultPlace f_reading f_toldWhy f_x v2 f_bestMany f_tail f_round1, (ad 2, .inl (dA 0, 2982, .inl b_all)), (ad 17, .inl (dA 0, 900, .inl a3)), (ad 18, .inl (dA 0, 6, .inl a4)), (ad 22, .inl (dA 0, 2880, .inl a5)), (ad 23, .inl (dA 0, 43200, .inl a6)), (ad 25, .inl (dA 2, 2880, .inl a7))] ∧ va_S A s.heap H locs) hj (fun v w hf ih ex H locs ls hX => ?_) _ _ _ ⟨lv_sub hl [3, 4, 2, 1, 0] rfl, hP, hD, hS⟩
    clear hj
    obtain ⟨v8, v9, v10⟩ := v
    obtain ⟨hl, hP, hD, hS⟩ := hX
    have hl : lv_has ls 5 [(0, .ref (ad 0)), (1, .int p1), (2, .int v8), (3, .int v9), (4, .int v10)] := hl
    have hP : va_P (dC, dI) zz_cls [zr_o ad (0 : Int32) f_taped f_at f_behind f_size f_kind f_number f_wrong f_wrongAt f_faultKind f_faultPlace f_reading f_toldWhy f_x v2 f_bestMany f_tail f_round1, (ad 2, .inl (dA 0, 2982, .inl b_all)), (ad 17, .inl (dA 0, 900, .inl a3)), (ad 18, .inl (dA 0, 6, .inl a4)), (ad 22, .inl (dA 0, 2880, .inl a5)), (ad 23, .inl (dA 0, 43200, .inl a6)), (ad 25, .inl (dA 2, 2880, .inl a7))] H := hP
    have hD : va_D A [zr_o ad (0 : Int32) f_taped f_at f_behind f_size f_kind f_number f_wrong f_wrongAt f_faultKind f_faultPlace f_reading f_toldWhy f_x v2 f_bestMany f_tail f_round1, (ad 2, .inl (dA 0, 2982, .inl b_all)), (ad 17, .inl (dA 0, 900, .inl a3)), (ad 18, .inl (dA 0, 6, .inl a4)), (ad 22, .inl (dA 0, 2880, .inl a5)), (ad 23, .inl (dA 0, 43200, .inl a6)), (ad 25, .inl (dA 2, 2880, .inl a7))] := hD
    replace hf : zb_X11_loses_28 v2 a5 p1 v8 v9 v10 = some w := hf
    unfold zb_X11_loses_28 at hf
    refine lv_iload (pc := 28) hx hb dX11_loses_28 (lv_at hl 4 rfl) ?_
    refine lv_aload_n (pc := 30) hx hb dX11_loses_30 rfl (lv_at hl 0 rfl) ?_
    refine va_get (pc := 31) (D := (dC, dI)) (ci := 0) (v := .int v2) (C := RX11) (T := TX11) (N := 42) hx hb ht zr_lay hown hK hP 0 rfl rfl 25 (by decide) (ht _ zr_340) (fun _ h9 => h9) rfl dX11_loses_31 ?_
    refine lv_icmp_ge (tgt := 75) (pc := 34) hx hb dX11_loses_34 rfl (fun hc => ?_) (fun hc => ?_)
    · have hf := za_t hf hc
      obtain rfl := Option.some.inj hf
      obtain ⟨rfl, rfl, rfl, rfl⟩ := zp_4 (ex (show ¬ (1 : Nat) = 0 by decide))
      exact E75 _ _ _ ⟨lv_sub hl [0, 2, 3] rfl, hP, hD, hS⟩
    · have hf := za_f hf hc
      refine lv_aload_n (pc := 37) hx hb dX11_loses_37 rfl (lv_at hl 0 rfl) ?_
      refine va_get (pc := 38) (D := (dC, dI)) (ci := 0) (v := .ref (ad 22)) (C := RX11) (T := TX11) (N := 42) hx hb ht zr_lay hown hK hP 0 rfl rfl 21 (by decide) (ht _ zr_15) (fun _ h9 => h9) rfl dX11_loses_38 ?_
      refine lv_iload (pc := 41) hx hb dX11_loses_41 (lv_at hl 4 rfl) ?_
      obtain ⟨v11, hv11, hf⟩ := zc_1 hf
      refine zw_iald (pc := 43) hx hb hK hP 4 0 rfl rfl hv11 dX11_loses_43 ?_
      obtain ⟨v12, hv12, hf⟩ := zc_1 hf
      refine zw_Si (pc := 44) (wc := []) (wr := [zr_o ad (0 : Int32) f_taped f_at f_behind f_size f_kind f_number f_wrong f_wrongAt f_faultKind f_faultPlace f_reading f_toldWhy f_x v2 f_bestMany f_tail f_round1, (ad 2, .inl (dA 0, 2982, .inl b_all)), (ad 17, .inl (dA 0, 900, .inl a3)), (ad 18, .inl (dA 0, 6, .inl a4)), (ad 22, .inl (dA 0, 2880, .inl a5)), (ad 23, .inl (dA 0, 43200, .inl a6)), (ad 25, .inl (dA 2, 2880, .inl a7))]) (w1 := []) (As := [.int v11]) (rest := []) ⟨hx, hb, hml, hown, ht⟩ (zt_X11_rungIn l dC dI dA ad _ v11 v12 hv12) (cwS 1 ht (zr_S zr_217 zr_218 zr_36 zr_210) rfl rfl rfl zk_X11_rungIn ⟨Nat.le_of_ble_eq_true rfl, Nat.le_of_ble_eq_true rfl⟩) hK hP hD hS hA [] [0, 1, 2, 3, 4, 5, 6] (by decide) (by decide) (by decide) rfl rfl rfl hl.1 (Nat.le_of_ble_eq_true rfl) dX11_loses_44 ⟨Nat.zero_le _, Nat.zero_le _⟩ rfl (fun H locs hP hD hS => ?_)
      have hP : va_P (dC, dI) zz_cls [zr_o ad (0 : Int32) f_taped f_at f_behind f_size f_kind f_number f_wrong f_wrongAt f_faultKind f_faultPlace f_reading f_toldWhy f_x v2 f_bestMany f_tail f_round1, (ad 2, .inl (dA 0, 2982, .inl b_all)), (ad 17, .inl (dA 0, 900, .inl a3)), (ad 18, .inl (dA 0, 6, .inl a4)), (ad 22, .inl (dA 0, 2880, .inl a5)), (ad 23, .inl (dA 0, 43200, .inl a6)), (ad 25, .inl (dA 2, 2880, .inl a7))] H := hP
      have hD : va_D A [zr_o ad (0 : Int32) f_taped f_at f_behind f_size f_kind f_number f_wrong f_wrongAt f_faultKind f_faultPlace f_reading f_toldWhy f_x v2 f_bestMany f_tail f_round1, (ad 2, .inl (dA 0, 2982, .inl b_all)), (ad 17, .inl (dA 0, 900, .inl a3)), (ad 18, .inl (dA 0, 6, .inl a4)), (ad 22, .inl (dA 0, 2880, .inl a5)), (ad 23, .inl (dA 0, 43200, .inl a6)), (ad 25, .inl (dA 2, 2880, .inl a7))] := hD
      refine lv_iload_n (pc := 47) hx hb dX11_loses_47 rfl (lv_at hl 1 rfl) ?_
      obtain ⟨v16, v17, hj, hf⟩ := zc_2 hf
      refine zj_join (pcJ := 69) (stk := []) (X := fun H locs ls => lv_has ls 5 [(0, .ref (ad 0)), (1, .int p1), (2, .int v16), (3, .int v17), (4, .int v10)] ∧ va_P (dC, dI) zz_cls [zr_o ad (0 : Int32) f_taped f_at f_behind f_size f_kind f_number f_wrong f_wrongAt f_faultKind f_faultPlace f_reading f_toldWhy f_x v2 f_bestMany f_tail f_round1, (ad 2, .inl (dA 0, 2982, .inl b_all)), (ad 17, .inl (dA 0, 900, .inl a3)), (ad 18, .inl (dA 0, 6, .inl a4)), (ad 22, .inl (dA 0, 2880, .inl a5)), (ad 23, .inl (dA 0, 43200, .inl a6)), (ad 25, .inl (dA 2, 2880, .inl a7))] H ∧ va_D A [zr_o ad (0 : Int32) f_taped f_at f_behind f_size f_kind f_number f_wrong f_wrongAt f_faultKind f_faultPlace f_reading f_toldWhy f_x v2 f_bestMany f_tail f_round1, (ad 2, .inl (dA 0, 2982, .inl b_all)), (ad 17, .inl (dA 0, 900, .inl a3)), (ad 18, .inl (dA 0, 6, .inl a4)), (ad 22, .inl (dA 0, 2880, .inl a5)), (ad 23, .inl (dA 0, 43200, .inl a6)), (ad 25, .inl (dA 2, 2880, .inl a7))] ∧ va_S A s.heap H locs) (fun H locs ls hX => ?_) (fun J69 => ?_)
      · obtain ⟨hl, hP, hD, hS⟩ := hX
        clear hj
        obtain ⟨v18, hv18, hf⟩ := zc_1 hf
        refine lv_iinc (v := v18) (lv' := [(4, .int v18), (0, .ref (ad 0)), (1, .int p1), (2, .int v16), (3, .int v17)]) (k := 4) (pc := 69) hx hb dX11_loses_69 hl rfl (Option.some.inj hv18) (by decide) rfl (fun ls hl => ?_)
        refine lv_goto (tgt := 28) (pc := 72) hx hb dX11_loses_72 rfl ?_
        obtain rfl := Option.some.inj hf
        exact ih rfl _ _ _ ⟨lv_sub hl [1, 2, 3, 4, 0] rfl, hP, hD, hS⟩
      · clear hf
        have hf := hj
        clear hj
        refine lv_icmp_eq (tgt := 54) (pc := 48) hx hb dX11_loses_48 rfl (fun hc => ?_) (fun hc => ?_)
        · have hf := za_t hf hc
          refine lv_iload_n (pc := 54) hx hb dX11_loses_54 rfl (lv_at hl 2 rfl) ?_
          refine lv_aload_n (pc := 55) hx hb dX11_loses_55 rfl (lv_at hl 0 rfl) ?_
          refine va_get (pc := 56) (D := (dC, dI)) (ci := 0) (v := .ref (ad 22)) (C := RX11) (T := TX11) (N := 42) hx hb ht zr_lay hown hK hP 0 rfl rfl 21 (by decide) (ht _ zr_15) (fun _ h9 => h9) rfl dX11_loses_56 ?_
          refine lv_iload (pc := 59) hx hb dX11_loses_59 (lv_at hl 4 rfl) ?_
          obtain ⟨v13, hv13, hf⟩ := zc_1 hf
          refine zw_iald (pc := 61) hx hb hK hP 4 0 rfl rfl hv13 dX11_loses_61 ?_
          obtain ⟨v14, hv14, hf⟩ := zc_1 hf
          refine zw_Si (pc := 62) (wc := []) (wr := [zr_o ad (0 : Int32) f_taped f_at f_behind f_size f_kind f_number f_wrong f_wrongAt f_faultKind f_faultPlace f_reading f_toldWhy f_x v2 f_bestMany f_tail f_round1, (ad 2, .inl (dA 0, 2982, .inl b_all)), (ad 17, .inl (dA 0, 900, .inl a3)), (ad 18, .inl (dA 0, 6, .inl a4)), (ad 22, .inl (dA 0, 2880, .inl a5)), (ad 23, .inl (dA 0, 43200, .inl a6)), (ad 25, .inl (dA 2, 2880, .inl a7))]) (w1 := []) (As := [.int v13]) (rest := [.int v8]) ⟨hx, hb, hml, hown, ht⟩ (zt_X11_hasIn l dC dI dA ad _ v13 v14 hv14) (cwS 1 ht (zr_S zr_219 zr_220 zr_36 zr_211) rfl rfl rfl zk_X11_hasIn ⟨Nat.le_of_ble_eq_true rfl, Nat.le_of_ble_eq_true rfl⟩) hK hP hD hS hA [] [0, 1, 2, 3, 4, 5, 6] (by decide) (by decide) (by decide) rfl rfl rfl hl.1 (Nat.le_of_ble_eq_true rfl) dX11_loses_62 ⟨Nat.zero_le _, Nat.zero_le _⟩ rfl (fun H locs hP hD hS => ?_)
          have hP : va_P (dC, dI) zz_cls [zr_o ad (0 : Int32) f_taped f_at f_behind f_size f_kind f_number f_wrong f_wrongAt f_faultKind f_faultPlace f_reading f_toldWhy f_x v2 f_bestMany f_tail f_round1, (ad 2, .inl (dA 0, 2982, .inl b_all)), (ad 17, .inl (dA 0, 900, .inl a3)), (ad 18, .inl (dA 0, 6, .inl a4)), (ad 22, .inl (dA 0, 2880, .inl a5)), (ad 23, .inl (dA 0, 43200, .inl a6)), (ad 25, .inl (dA 2, 2880, .inl a7))] H := hP
          have hD : va_D A [zr_o ad (0 : Int32) f_taped f_at f_behind f_size f_kind f_number f_wrong f_wrongAt f_faultKind f_faultPlace f_reading f_toldWhy f_x v2 f_bestMany f_tail f_round1, (ad 2, .inl (dA 0, 2982, .inl b_all)), (ad 17, .inl (dA 0, 900, .inl a3)), (ad 18, .inl (dA 0, 6, .inl a4)), (ad 22, .inl (dA 0, 2880, .inl a5)), (ad 23, .inl (dA 0, 43200, .inl a6)), (ad 25, .inl (dA 2, 2880, .inl a7))] := hD
          refine lv_ior (pc := 65) hx hb dX11_loses_65 ?_
          obtain ⟨v15, hv15, hf⟩ := zc_1 hf
          refine zw_top (hv15) ?_
          refine lv_istore_n (lv' := [(2, .int v15), (0, .ref (ad 0)), (1, .int p1), (3, .int v9), (4, .int v10)]) (pc := 66) hx hb dX11_loses_66 rfl hl (by decide) rfl (fun ls hl => ?_)
          refine lv_iconst (v := (1 : Int32)) (pc := 67) hx hb dX11_loses_67 (by decide) ?_
          refine lv_istore_n (lv' := [(3, .int (1 : Int32)), (2, .int v15), (0, .ref (ad 0)), (1, .int p1), (4, .int v10)]) (pc := 68) hx hb dX11_loses_68 rfl hl (by decide) rfl (fun ls hl => ?_)
          obtain ⟨rfl, rfl⟩ := zi_2 hf
          exact J69 _ _ _ ⟨lv_sub hl [2, 3, 1, 0, 4] rfl, hP, hD, hS⟩
        · have hf := za_f hf hc
          refine lv_goto (tgt := 69) (pc := 51) hx hb dX11_loses_51 rfl ?_
          obtain ⟨rfl, rfl⟩ := zi_2 hf
          exact J69 _ _ _ ⟨lv_sub hl [0, 1, 2, 3, 4] rfl, hP, hD, hS⟩
  · have hf := za_t hf hc
    refine lv_bipush (v := (-2 : Int32)) (pc := 13) hx hb dX11_loses_13 (by decide) ?_
    obtain ⟨rfl, rfl, rfl, rfl, rfl, rfl, rfl, rfl⟩ := zi_8 hf
    exact W.iret (pc := 15) hx hb hr (fun t ht hW => ⟨⟨_, (), rfl, rfl, zz_Bi (by rw [ht]; exact hP.sub [5, 6, 0, 1, 2, 3, 4] rfl) (va_K.moved hW.alike hK) (hD.sub [5, 6, 0, 1, 2, 3, 4] (by decide) rfl)⟩, hS.F ht⟩) hS.2.2 dX11_loses_15

def zf_X11_stands (n : Nat) (f_thrown : Int32) (f_standMany : Int32) (b_all : (Nat → Int32)) (b_reckoned : (Nat → Int32)) (b_words : (Nat → Int32)) (b_stand : (Nat → Int32)) (b_then : (Nat → Int32)) (b_known : (Nat → Int32)) : Option (Int32 × Int32 × Int32 × (Nat → Int32) × (Nat → Int32) × (Nat → Int32) × (Nat → Int32) × (Nat → Int32)) :=
  zd_6 (zf_X11_laysStands n f_standMany b_all b_reckoned b_words b_stand b_then b_known (0 : Int32)) (fun v1 a2 a3 a4 a5 a6 =>
  some (v1, (0 : Int32), v1, a2, a3, a4, a5, a6))
theorem zk_X11_stands : yX11_stands.cls = RX11 ∧ yX11_stands.cls ≠ "java/lang/invoke/MethodHandle" ∧ yX11_stands.cls ≠ "java/lang/invoke/VarHandle" ∧ (parseMethodDescriptor yX11_stands.desc).map (fun d => d.parameters.length) = some 0 := by decide +kernel
set_option maxHeartbeats 4000000 in
set_option maxRecDepth 100000 in
theorem zt_X11_stands (l : Launch) (dC : Nat → ClassId) (dI : Nat → Nat → Nat) (dA : Nat → ClassId) (ad : Nat → Nat) (sz : Nat) (n : Nat) (f_thrown f_taped f_at f_behind f_size f_kind f_number f_wrong f_wrongAt f_faultKind f_faultPlace f_reading f_toldWhy f_x f_standMany f_bestMany f_tail f_round1 : Int32) (b_all : (Nat → Int32)) (b_reckoned : (Nat → Int32)) (b_words : (Nat → Int32)) (b_stand : (Nat → Int32)) (b_then : (Nat → Int32)) (b_known : (Nat → Int32)) (r0 : Int32) (o1 : Int32) (o2 : Int32) (o3 : (Nat → Int32)) (o4 : (Nat → Int32)) (o5 : (Nat → Int32)) (o6 : (Nat → Int32)) (o7 : (Nat → Int32)) (hf : zf_X11_stands n f_thrown f_standMany b_all b_reckoned b_words b_stand b_then b_known = some (r0, o1, o2, o3, o4, o5, o6, o7)) : Met l yX11_stands (.code yX11_stands cX11_stands 1 (some .int) :: zr_T) ({ frames := 5, cells := 0, slots := 0, locals := 123 }) (va_Pc [.ref (ad 0)] (zz_M dC dI dA [zr_o ad f_thrown f_taped f_at f_behind f_size f_kind f_number f_wrong f_wrongAt f_faultKind f_faultPlace f_reading f_toldWhy f_x f_standMany f_bestMany f_tail f_round1, (ad 2, .inl (dA 0, 2982, .inl b_all)), (ad 17, .inl (dA 0, 900, .inl b_reckoned)), (ad 18, .inl (dA 0, 6, .inl b_words)), (ad 22, .inl (dA 0, 2880, .inl b_stand)), (ad 23, .inl (dA 0, 43200, .inl b_then)), (ad 25, .inl (dA 2, 2880, .inl b_known))] sz)) (va_Qi (fun (r : Int32) (_ : Unit) => r = r0) (fun _ t => zz_B dC dI dA (va_A [zr_o ad f_thrown f_taped f_at f_behind f_size f_kind f_number f_wrong f_wrongAt f_faultKind f_faultPlace f_reading f_toldWhy f_x f_standMany f_bestMany f_tail f_round1, (ad 2, .inl (dA 0, 2982, .inl b_all)), (ad 17, .inl (dA 0, 900, .inl b_reckoned)), (ad 18, .inl (dA 0, 6, .inl b_words)), (ad 22, .inl (dA 0, 2880, .inl b_stand)), (ad 23, .inl (dA 0, 43200, .inl b_then)), (ad 25, .inl (dA 2, 2880, .inl b_known))] sz) [zr_o ad o1 f_taped f_at f_behind f_size f_kind f_number f_wrong f_wrongAt f_faultKind f_faultPlace f_reading f_toldWhy f_x o2 f_bestMany f_tail f_round1, (ad 2, .inl (dA 0, 2982, .inl b_all)), (ad 17, .inl (dA 0, 900, .inl o3)), (ad 18, .inl (dA 0, 6, .inl o4)), (ad 22, .inl (dA 0, 2880, .inl o5)), (ad 23, .inl (dA 0, 43200, .inl o6)), (ad 25, .inl (dA 2, 2880, .inl o7))] t) (va_A [zr_o ad f_thrown f_taped f_at f_behind f_size f_kind f_number f_wrong f_wrongAt f_faultKind f_faultPlace f_reading f_toldWhy f_x f_standMany f_bestMany f_tail f_round1, (ad 2, .inl (dA 0, 2982, .inl b_all)), (ad 17, .inl (dA 0, 900, .inl b_reckoned)), (ad 18, .inl (dA 0, 6, .inl b_words)), (ad 22, .inl (dA 0, 2880, .inl b_stand)), (ad 23, .inl (dA 0, 43200, .inl b_then)), (ad 25, .inl (dA 2, 2880, .inl b_known))] sz)) 0 0 (va_A [zr_o ad f_thrown f_taped f_at f_behind f_size f_kind f_number f_wrong f_wrongAt f_faultKind f_faultPlace f_reading f_toldWhy f_x f_standMany f_bestMany f_tail f_round1, (ad 2, .inl (dA 0, 2982, .inl b_all)), (ad 17, .inl (dA 0, 900, .inl b_reckoned)), (ad 18, .inl (dA 0, 6, .inl b_words)), (ad 22, .inl (dA 0, 2880, .inl b_stand)), (ad 23, .inl (dA 0, 43200, .inl b_then)), (ad 25, .inl (dA 2, 2880, .inl b_known))] sz) := by
  unfold zf_X11_stands at hf
  refine Met.ofW (cc := cX11_stands) (maxL := 1) (ret := (some .int)) (by decide) rfl ?_
  intro p e s m args below meth c s₁ B hml hv
  obtain ⟨rfl, hsz, hP, hK, hD0⟩ := hv
  have hx := B.exec
  have hb := B.bytes
  have hr := B.returns
  have ht : ∀ w ∈ zr_T, w.before ([.ref (ad 0)] : List Value).toArray s = true := fun w hw => atoms_spec (ws := .code yX11_stands cX11_stands 1 (some .int) :: zr_T) B.pre w (List.mem_cons_of_mem _ hw)
  have hown : s.vm.findClass RX11 = some m.cls := findClass_of_methodNamed B.named
  have hlocks := B.notSynchronized
  subst hsz
  have hD := hD0.self (sz := s.heap.size)
  generalize hAe : va_A [zr_o ad f_thrown f_taped f_at f_behind f_size f_kind f_number f_wrong f_wrongAt f_faultKind f_faultPlace f_reading f_toldWhy f_x f_standMany f_bestMany f_tail f_round1, (ad 2, .inl (dA 0, 2982, .inl b_all)), (ad 17, .inl (dA 0, 900, .inl b_reckoned)), (ad 18, .inl (dA 0, 6, .inl b_words)), (ad 22, .inl (dA 0, 2880, .inl b_stand)), (ad 23, .inl (dA 0, 43200, .inl b_then)), (ad 25, .inl (dA 2, 2880, .inl b_known))] s.heap.size = A at hD ⊢
  have hA : ∀ q : Nat, s.heap.size ≤ q → A q := fun q h => by rw [← hAe]; exact Or.inr h
  clear hAe hD0
  have hS : va_S A s.heap s.heap [] := va_S.rf
  have hl := lv_entry ([.ref (ad 0)]) (n := 1) (Nat.le_of_ble_eq_true rfl)
  rw [lg_entry_eq]
  generalize (lg_sl ([.ref (ad 0)]) ++ List.replicate (1 - (lg_sl ([.ref (ad 0)])).length) Slot.unset).toArray = ls at hl ⊢
  have hl : lv_has ls 1 [(0, .ref (ad 0))] := hl
  refine lv_aload_n (pc := 0) hx hb dX11_stands_0 rfl (lv_at hl 0 rfl) ?_
  refine lv_iconst (v := (0 : Int32)) (pc := 1) hx hb dX11_stands_1 (by decide) ?_
  refine va_put (pc := 2) (D := (dC, dI)) (ci := 0) (v := .int (0 : Int32)) (ty := .int) (C := RX11) (T := TX11) (N := 42) hx hb ht zr_lay tyX11 tyX11_ok nmX11 hown hK hP hD hS 0 rfl rfl 0 (by decide) (ht _ zr_39) (fun _ h9 => h9) rfl (by decide +kernel) rfl rfl (Nat.le_of_ble_eq_true rfl) dX11_stands_2 (fun H locs hP hD hS => ?_)
  have hP : va_P (dC, dI) zz_cls [zr_o ad (0 : Int32) f_taped f_at f_behind f_size f_kind f_number f_wrong f_wrongAt f_faultKind f_faultPlace f_reading f_toldWhy f_x f_standMany f_bestMany f_tail f_round1, (ad 2, .inl (dA 0, 2982, .inl b_all)), (ad 17, .inl (dA 0, 900, .inl b_reckoned)), (ad 18, .inl (dA 0, 6, .inl b_words)), (ad 22, .inl (dA 0, 2880, .inl b_stand)), (ad 23, .inl (dA 0, 43200, .inl b_then)), (ad 25, .inl (dA 2, 2880, .inl b_known))] H := hP
  have hD : va_D A [zr_o ad (0 : Int32) f_taped f_at f_behind f_size f_kind f_number f_wrong f_wrongAt f_faultKind f_faultPlace f_reading f_toldWhy f_x f_standMany f_bestMany f_tail f_round1, (ad 2, .inl (dA 0, 2982, .inl b_all)), (ad 17, .inl (dA 0, 900, .inl b_reckoned)), (ad 18, .inl (dA 0, 6, .inl b_words)), (ad 22, .inl (dA 0, 2880, .inl b_stand)), (ad 23, .inl (dA 0, 43200, .inl b_then)), (ad 25, .inl (dA 2, 2880, .inl b_known))] := hD
  refine lv_aload_n (pc := 5) hx hb dX11_stands_5 rfl (lv_at hl 0 rfl) ?_
  refine lv_iconst (v := (0 : Int32)) (pc := 6) hx hb dX11_stands_6 (by decide) ?_
  obtain ⟨v1, a2, a3, a4, a5, a6, hv1, hf⟩ := zc_6 hf
  refine zw_Vv (pc := 7) (wc := [zr_o ad (0 : Int32) f_taped f_at f_behind f_size f_kind f_number f_wrong f_wrongAt f_faultKind f_faultPlace f_reading f_toldWhy f_x f_standMany f_bestMany f_tail f_round1, (ad 2, .inl (dA 0, 2982, .inl b_all)), (ad 17, .inl (dA 0, 900, .inl b_reckoned)), (ad 18, .inl (dA 0, 6, .inl b_words)), (ad 22, .inl (dA 0, 2880, .inl b_stand)), (ad 23, .inl (dA 0, 43200, .inl b_then)), (ad 25, .inl (dA 2, 2880, .inl b_known))]) (wr := []) (w1 := [zr_o ad (0 : Int32) f_taped f_at f_behind f_size f_kind f_number f_wrong f_wrongAt f_faultKind f_faultPlace f_reading f_toldWhy f_x v1 f_bestMany f_tail f_round1, (ad 2, .inl (dA 0, 2982, .inl b_all)), (ad 17, .inl (dA 0, 900, .inl a2)), (ad 18, .inl (dA 0, 6, .inl a3)), (ad 22, .inl (dA 0, 2880, .inl a4)), (ad 23, .inl (dA 0, 43200, .inl a5)), (ad 25, .inl (dA 2, 2880, .inl a6))]) (As := [.int (0 : Int32)]) (rest := []) ⟨hx, hb, hml, hown, ht⟩ (zt_X11_laysStands l dC dI dA ad _ n (0 : Int32) f_taped f_at f_behind f_size f_kind f_number f_wrong f_wrongAt f_faultKind f_faultPlace f_reading f_toldWhy f_x f_standMany f_bestMany f_tail f_round1 b_all b_reckoned b_words b_stand b_then b_known (0 : Int32) v1 a2 a3 a4 a5 a6 hv1) (cwV 1 ht (zr_V zr_354 zr_355 zr_356 zr_36 zr_350) rfl rfl rfl zk_X11_laysStands ⟨Nat.le_of_ble_eq_true rfl, Nat.le_of_ble_eq_true rfl⟩) rfl rfl hK hP hD hS hA [0, 1, 2, 3, 4, 5, 6] [] (by decide) (by decide) (by decide) rfl rfl rfl hl.1 (Nat.le_of_ble_eq_true rfl) dX11_stands_7 ⟨Nat.zero_le _, Nat.zero_le _⟩ rfl (fun H locs hP hD hS => ?_)
  have hP : va_P (dC, dI) zz_cls [zr_o ad (0 : Int32) f_taped f_at f_behind f_size f_kind f_number f_wrong f_wrongAt f_faultKind f_faultPlace f_reading f_toldWhy f_x v1 f_bestMany f_tail f_round1, (ad 2, .inl (dA 0, 2982, .inl b_all)), (ad 17, .inl (dA 0, 900, .inl a2)), (ad 18, .inl (dA 0, 6, .inl a3)), (ad 22, .inl (dA 0, 2880, .inl a4)), (ad 23, .inl (dA 0, 43200, .inl a5)), (ad 25, .inl (dA 2, 2880, .inl a6))] H := hP
  have hD : va_D A [zr_o ad (0 : Int32) f_taped f_at f_behind f_size f_kind f_number f_wrong f_wrongAt f_faultKind f_faultPlace f_reading f_toldWhy f_x v1 f_bestMany f_tail f_round1, (ad 2, .inl (dA 0, 2982, .inl b_all)), (ad 17, .inl (dA 0, 900, .inl a2)), (ad 18, .inl (dA 0, 6, .inl a3)), (ad 22, .inl (dA 0, 2880, .inl a4)), (ad 23, .inl (dA 0, 43200, .inl a5)), (ad 25, .inl (dA 2, 2880, .inl a6))] := hD
  refine lv_aload_n (pc := 10) hx hb dX11_stands_10 rfl (lv_at hl 0 rfl) ?_
  refine va_get (pc := 11) (D := (dC, dI)) (ci := 0) (v := .int v1) (C := RX11) (T := TX11) (N := 42) hx hb ht zr_lay hown hK hP 0 rfl rfl 25 (by decide) (ht _ zr_340) (fun _ h9 => h9) rfl dX11_stands_11 ?_
  obtain ⟨rfl, rfl, rfl, rfl, rfl, rfl, rfl, rfl⟩ := zi_8 hf
  exact W.iret (pc := 14) hx hb hr (fun t ht hW => ⟨⟨_, (), rfl, rfl, zz_Bi (by rw [ht]; exact hP) (va_K.moved hW.alike hK) (hD)⟩, hS.F ht⟩) hS.2.2 dX11_stands_14

def zf_X11_isLanding (b_all : (Nat → Int32)) (p1 : Int32) (p2 : Int32) : Option (Int32) :=
  zd_1 (za_ld b_all 2982 ((10 : Int32) + p1)) (fun v1 =>
  zd_1 (za_ld b_all 2982 ((19 : Int32) + p1)) (fun v2 =>
  zd_1 (zf_X11_isIn (Int32.toInt64 (v1 ||| v2)) p2) (fun v3 =>
  if v3 = 0 then
    some (1 : Int32)
  else
    some (0 : Int32))))
theorem zk_X11_isLanding : yX11_isLanding.cls = RX11 ∧ yX11_isLanding.cls ≠ "java/lang/invoke/MethodHandle" ∧ yX11_isLanding.cls ≠ "java/lang/invoke/VarHandle" ∧ (parseMethodDescriptor yX11_isLanding.desc).map (fun d => d.parameters.length) = some 2 := by decide +kernel
set_option maxHeartbeats 4000000 in
set_option maxRecDepth 100000 in
theorem zt_X11_isLanding (l : Launch) (dC : Nat → ClassId) (dI : Nat → Nat → Nat) (dA : Nat → ClassId) (ad : Nat → Nat) (sz : Nat) (f_thrown f_taped f_at f_behind f_size f_kind f_number f_wrong f_wrongAt f_faultKind f_faultPlace f_reading f_toldWhy f_x f_standMany f_bestMany f_tail f_round1 : Int32) (b_all : (Nat → Int32)) (p1 : Int32) (p2 : Int32) (r0 : Int32) (hf : zf_X11_isLanding b_all p1 p2 = some r0) : Met l yX11_isLanding (.code yX11_isLanding cX11_isLanding 3 (some .boolean) :: zr_T) ({ frames := 1, cells := 0, slots := 0, locals := 22 }) (va_Pc [.ref (ad 0), .int p1, .int p2] (zz_M dC dI dA [zr_o ad f_thrown f_taped f_at f_behind f_size f_kind f_number f_wrong f_wrongAt f_faultKind f_faultPlace f_reading f_toldWhy f_x f_standMany f_bestMany f_tail f_round1, (ad 2, .inl (dA 0, 2982, .inl b_all))] sz)) (va_Qi (fun (r : Int32) (_ : Unit) => r = r0) (fun _ t => zz_B dC dI dA (va_A [zr_o ad f_thrown f_taped f_at f_behind f_size f_kind f_number f_wrong f_wrongAt f_faultKind f_faultPlace f_reading f_toldWhy f_x f_standMany f_bestMany f_tail f_round1, (ad 2, .inl (dA 0, 2982, .inl b_all))] sz) [zr_o ad f_thrown f_taped f_at f_behind f_size f_kind f_number f_wrong f_wrongAt f_faultKind f_faultPlace f_reading f_toldWhy f_x f_standMany f_bestMany f_tail f_round1, (ad 2, .inl (dA 0, 2982, .inl b_all))] t) (va_A [zr_o ad f_thrown f_taped f_at f_behind f_size f_kind f_number f_wrong f_wrongAt f_faultKind f_faultPlace f_reading f_toldWhy f_x f_standMany f_bestMany f_tail f_round1, (ad 2, .inl (dA 0, 2982, .inl b_all))] sz)) 0 0 (va_A [zr_o ad f_thrown f_taped f_at f_behind f_size f_kind f_number f_wrong f_wrongAt f_faultKind f_faultPlace f_reading f_toldWhy f_x f_standMany f_bestMany f_tail f_round1, (ad 2, .inl (dA 0, 2982, .inl b_all))] sz) := by
  unfold zf_X11_isLanding at hf
  refine Met.ofW (cc := cX11_isLanding) (maxL := 3) (ret := (some .boolean)) (by decide) rfl ?_
  intro p e s m args below meth c s₁ B hml hv
  obtain ⟨rfl, hsz, hP, hK, hD0⟩ := hv
  have hx := B.exec
  have hb := B.bytes
  have hr := B.returns
  have ht : ∀ w ∈ zr_T, w.before ([.ref (ad 0), .int p1, .int p2] : List Value).toArray s = true := fun w hw => atoms_spec (ws := .code yX11_isLanding cX11_isLanding 3 (some .boolean) :: zr_T) B.pre w (List.mem_cons_of_mem _ hw)
  have hown : s.vm.findClass RX11 = some m.cls := findClass_of_methodNamed B.named
  have hlocks := B.notSynchronized
  subst hsz
  have hD := hD0.self (sz := s.heap.size)
  generalize hAe : va_A [zr_o ad f_thrown f_taped f_at f_behind f_size f_kind f_number f_wrong f_wrongAt f_faultKind f_faultPlace f_reading f_toldWhy f_x f_standMany f_bestMany f_tail f_round1, (ad 2, .inl (dA 0, 2982, .inl b_all))] s.heap.size = A at hD ⊢
  have hA : ∀ q : Nat, s.heap.size ≤ q → A q := fun q h => by rw [← hAe]; exact Or.inr h
  clear hAe hD0
  have hS : va_S A s.heap s.heap [] := va_S.rf
  have hl := lv_entry ([.ref (ad 0), .int p1, .int p2]) (n := 3) (Nat.le_of_ble_eq_true rfl)
  rw [lg_entry_eq]
  generalize (lg_sl ([.ref (ad 0), .int p1, .int p2]) ++ List.replicate (3 - (lg_sl ([.ref (ad 0), .int p1, .int p2])).length) Slot.unset).toArray = ls at hl ⊢
  have hl : lv_has ls 3 [(0, .ref (ad 0)), (1, .int p1), (2, .int p2)] := hl
  refine lv_aload_n (pc := 0) hx hb dX11_isLanding_0 rfl (lv_at hl 0 rfl) ?_
  refine va_get (pc := 1) (D := (dC, dI)) (ci := 0) (v := .ref (ad 2)) (C := RX11) (T := TX11) (N := 42) hx hb ht zr_lay hown hK hP 0 rfl rfl 1 (by decide) (ht _ zr_6) (fun _ h9 => h9) rfl dX11_isLanding_1 ?_
  refine lv_bipush (v := (10 : Int32)) (pc := 4) hx hb dX11_isLanding_4 (by decide) ?_
  refine lv_iload_n (pc := 6) hx hb dX11_isLanding_6 rfl (lv_at hl 1 rfl) ?_
  refine lv_iadd (pc := 7) hx hb dX11_isLanding_7 ?_
  obtain ⟨v1, hv1, hf⟩ := zc_1 hf
  refine zw_iald (pc := 8) hx hb hK hP 1 0 rfl rfl hv1 dX11_isLanding_8 ?_
  refine lv_aload_n (pc := 9) hx hb dX11_isLanding_9 rfl (lv_at hl 0 rfl) ?_
  refine va_get (pc := 10) (D := (dC, dI)) (ci := 0) (v := .ref (ad 2)) (C := RX11) (T := TX11) (N := 42) hx hb ht zr_lay hown hK hP 0 rfl rfl 1 (by decide) (ht _ zr_6) (fun _ h9 => h9) rfl dX11_isLanding_10 ?_
  refine lv_bipush (v := (19 : Int32)) (pc := 13) hx hb dX11_isLanding_13 (by decide) ?_
  refine lv_iload_n (pc := 15) hx hb dX11_isLanding_15 rfl (lv_at hl 1 rfl) ?_
  refine lv_iadd (pc := 16) hx hb dX11_isLanding_16 ?_
  obtain ⟨v2, hv2, hf⟩ := zc_1 hf
  refine zw_iald (pc := 17) hx hb hK hP 1 0 rfl rfl hv2 dX11_isLanding_17 ?_
  refine lv_ior (pc := 18) hx hb dX11_isLanding_18 ?_
  refine lv_i2l (pc := 19) hx hb dX11_isLanding_19 rfl ?_
  refine lv_iload_n (pc := 20) hx hb dX11_isLanding_20 rfl (lv_at hl 2 rfl) ?_
  obtain ⟨v3, hv3, hf⟩ := zc_1 hf
  refine zw_Si (pc := 21) (wc := []) (wr := [zr_o ad f_thrown f_taped f_at f_behind f_size f_kind f_number f_wrong f_wrongAt f_faultKind f_faultPlace f_reading f_toldWhy f_x f_standMany f_bestMany f_tail f_round1, (ad 2, .inl (dA 0, 2982, .inl b_all))]) (w1 := []) (As := [.long (Int32.toInt64 (v1 ||| v2)), .int p2]) (rest := []) ⟨hx, hb, hml, hown, ht⟩ (zt_X11_isIn l dC dI dA ad _ (Int32.toInt64 (v1 ||| v2)) p2 v3 hv3) (cwS 2 ht (zr_S zr_246 zr_247 zr_36 zr_127) rfl rfl rfl zk_X11_isIn ⟨Nat.le_of_ble_eq_true rfl, Nat.le_of_ble_eq_true rfl⟩) hK hP hD hS hA [] [0, 1] (by decide) (by decide) (by decide) rfl rfl rfl hl.1 (Nat.le_of_ble_eq_true rfl) dX11_isLanding_21 ⟨Nat.zero_le _, Nat.zero_le _⟩ rfl (fun H locs hP hD hS => ?_)
  have hP : va_P (dC, dI) zz_cls [zr_o ad f_thrown f_taped f_at f_behind f_size f_kind f_number f_wrong f_wrongAt f_faultKind f_faultPlace f_reading f_toldWhy f_x f_standMany f_bestMany f_tail f_round1, (ad 2, .inl (dA 0, 2982, .inl b_all))] H := hP
  have hD : va_D A [zr_o ad f_thrown f_taped f_at f_behind f_size f_kind f_number f_wrong f_wrongAt f_faultKind f_faultPlace f_reading f_toldWhy f_x f_standMany f_bestMany f_tail f_round1, (ad 2, .inl (dA 0, 2982, .inl b_all))] := hD
  refine lv_if_ne (tgt := 31) (pc := 24) hx hb dX11_isLanding_24 rfl (fun hc => ?_) (fun hc => ?_)
  · have hf := za_f hf hc
    refine lv_iconst (v := (0 : Int32)) (pc := 31) hx hb dX11_isLanding_31 (by decide) ?_
    obtain rfl := Option.some.inj hf
    exact W.zret (pc := 32) hx hb hr rfl (fun t ht hW => ⟨⟨_, (), rfl, rfl, zz_Bi (by rw [ht]; exact hP) (va_K.moved hW.alike hK) (hD)⟩, hS.F ht⟩) hS.2.2 dX11_isLanding_32
  · have hf := za_t hf hc
    refine lv_iconst (v := (1 : Int32)) (pc := 27) hx hb dX11_isLanding_27 (by decide) ?_
    refine lv_goto (tgt := 32) (pc := 28) hx hb dX11_isLanding_28 rfl ?_
    obtain rfl := Option.some.inj hf
    exact W.zret (pc := 32) hx hb hr rfl (fun t ht hW => ⟨⟨_, (), rfl, rfl, zz_Bi (by rw [ht]; exact hP) (va_K.moved hW.alike hK) (hD)⟩, hS.F ht⟩) hS.2.2 dX11_isLanding_32

def zb_X11_lands_29 (b_all : (Nat → Int32)) (p2 : Int32) (v4 : Int32) : Option (Nat × Int32) :=
  if v4 < 0 then
    some (2, v4)
  else
    zd_1 (zf_X11_isLanding b_all v4 p2) (fun v5 =>
    if v5 = 0 then
      zd_1 (some (v4 + (-1 : Int32))) (fun v6 =>
      some (0, v6))
    else
      some (1, v4))
def zf_X11_lands (n : Nat) (f_thrown : Int32) (b_all : (Nat → Int32)) (p1 : Int32) (p2 : Int32) : Option (Int32 × Int32) :=
  zd_1 (zf_X11_isRung b_all p1) (fun v1 =>
  if v1 = 0 then
    some ((-2 : Int32), (0 : Int32))
  else
    zd_1 (zf_X11_isThing b_all (Int32.toInt64 p2)) (fun v2 =>
    if v2 = 0 then
      some ((-2 : Int32), (0 : Int32))
    else
      zd_1 (some ((p1 - (1 : Int32)))) (fun v3 =>
      zd_2 (za_it (fun v => zb_X11_lands_29 b_all p2 v) n v3) (fun g8 v7 =>
      if g8 = 1 then
        some (v7, (0 : Int32))
      else if g8 = 2 then
        some ((-1 : Int32), (0 : Int32))
      else none))))
theorem zk_X11_lands : yX11_lands.cls = RX11 ∧ yX11_lands.cls ≠ "java/lang/invoke/MethodHandle" ∧ yX11_lands.cls ≠ "java/lang/invoke/VarHandle" ∧ (parseMethodDescriptor yX11_lands.desc).map (fun d => d.parameters.length) = some 2 := by decide +kernel
set_option maxHeartbeats 4000000 in
set_option maxRecDepth 100000 in
theorem zt_X11_lands (l : Launch) (dC : Nat → ClassId) (dI : Nat → Nat → Nat) (dA : Nat → ClassId) (ad : Nat → Nat) (sz : Nat) (n : Nat) (f_thrown f_taped f_at f_behind f_size f_kind f_number f_wrong f_wrongAt f_faultKind f_faultPlace f_reading f_toldWhy f_x f_standMany f_bestMany f_tail f_round1 : Int32) (b_all : (Nat → Int32)) (p1 : Int32) (p2 : Int32) (r0 : Int32) (o1 : Int32) (hf : zf_X11_lands n f_thrown b_all p1 p2 = some (r0, o1)) : Met l yX11_lands (.code yX11_lands cX11_lands 4 (some .int) :: zr_T) ({ frames := 2, cells := 0, slots := 0, locals := 47 }) (va_Pc [.ref (ad 0), .int p1, .int p2] (zz_M dC dI dA [zr_o ad f_thrown f_taped f_at f_behind f_size f_kind f_number f_wrong f_wrongAt f_faultKind f_faultPlace f_reading f_toldWhy f_x f_standMany f_bestMany f_tail f_round1, (ad 2, .inl (dA 0, 2982, .inl b_all))] sz)) (va_Qi (fun (r : Int32) (_ : Unit) => r = r0) (fun _ t => zz_B dC dI dA (va_A [zr_o ad f_thrown f_taped f_at f_behind f_size f_kind f_number f_wrong f_wrongAt f_faultKind f_faultPlace f_reading f_toldWhy f_x f_standMany f_bestMany f_tail f_round1, (ad 2, .inl (dA 0, 2982, .inl b_all))] sz) [zr_o ad o1 f_taped f_at f_behind f_size f_kind f_number f_wrong f_wrongAt f_faultKind f_faultPlace f_reading f_toldWhy f_x f_standMany f_bestMany f_tail f_round1, (ad 2, .inl (dA 0, 2982, .inl b_all))] t) (va_A [zr_o ad f_thrown f_taped f_at f_behind f_size f_kind f_number f_wrong f_wrongAt f_faultKind f_faultPlace f_reading f_toldWhy f_x f_standMany f_bestMany f_tail f_round1, (ad 2, .inl (dA 0, 2982, .inl b_all))] sz)) 0 0 (va_A [zr_o ad f_thrown f_taped f_at f_behind f_size f_kind f_number f_wrong f_wrongAt f_faultKind f_faultPlace f_reading f_toldWhy f_x f_standMany f_bestMany f_tail f_round1, (ad 2, .inl (dA 0, 2982, .inl b_all))] sz) := by
  unfold zf_X11_lands at hf
  refine Met.ofW (cc := cX11_lands) (maxL := 4) (ret := (some .int)) (by decide) rfl ?_
  intro p e s m args below meth c s₁ B hml hv
  obtain ⟨rfl, hsz, hP, hK, hD0⟩ := hv
  have hx := B.exec
  have hb := B.bytes
  have hr := B.returns
  have ht : ∀ w ∈ zr_T, w.before ([.ref (ad 0), .int p1, .int p2] : List Value).toArray s = true := fun w hw => atoms_spec (ws := .code yX11_lands cX11_lands 4 (some .int) :: zr_T) B.pre w (List.mem_cons_of_mem _ hw)
  have hown : s.vm.findClass RX11 = some m.cls := findClass_of_methodNamed B.named
  have hlocks := B.notSynchronized
  subst hsz
  have hD := hD0.self (sz := s.heap.size)
  generalize hAe : va_A [zr_o ad f_thrown f_taped f_at f_behind f_size f_kind f_number f_wrong f_wrongAt f_faultKind f_faultPlace f_reading f_toldWhy f_x f_standMany f_bestMany f_tail f_round1, (ad 2, .inl (dA 0, 2982, .inl b_all))] s.heap.size = A at hD ⊢
  have hA : ∀ q : Nat, s.heap.size ≤ q → A q := fun q h => by rw [← hAe]; exact Or.inr h
  clear hAe hD0
  have hS : va_S A s.heap s.heap [] := va_S.rf
  have hl := lv_entry ([.ref (ad 0), .int p1, .int p2]) (n := 4) (Nat.le_of_ble_eq_true rfl)
  rw [lg_entry_eq]
  generalize (lg_sl ([.ref (ad 0), .int p1, .int p2]) ++ List.replicate (4 - (lg_sl ([.ref (ad 0), .int p1, .int p2])).length) Slot.unset).toArray = ls at hl ⊢
  have hl : lv_has ls 4 [(0, .ref (ad 0)), (1, .int p1), (2, .int p2)] := hl
  refine lv_aload_n (pc := 0) hx hb dX11_lands_0 rfl (lv_at hl 0 rfl) ?_
  refine lv_iconst (v := (0 : Int32)) (pc := 1) hx hb dX11_lands_1 (by decide) ?_
  refine va_put (pc := 2) (D := (dC, dI)) (ci := 0) (v := .int (0 : Int32)) (ty := .int) (C := RX11) (T := TX11) (N := 42) hx hb ht zr_lay tyX11 tyX11_ok nmX11 hown hK hP hD hS 0 rfl rfl 0 (by decide) (ht _ zr_39) (fun _ h9 => h9) rfl (by decide +kernel) rfl rfl (Nat.le_of_ble_eq_true rfl) dX11_lands_2 (fun H locs hP hD hS => ?_)
  have hP : va_P (dC, dI) zz_cls [zr_o ad (0 : Int32) f_taped f_at f_behind f_size f_kind f_number f_wrong f_wrongAt f_faultKind f_faultPlace f_reading f_toldWhy f_x f_standMany f_bestMany f_tail f_round1, (ad 2, .inl (dA 0, 2982, .inl b_all))] H := hP
  have hD : va_D A [zr_o ad (0 : Int32) f_taped f_at f_behind f_size f_kind f_number f_wrong f_wrongAt f_faultKind f_faultPlace f_reading f_toldWhy f_x f_standMany f_bestMany f_tail f_round1, (ad 2, .inl (dA 0, 2982, .inl b_all))] := hD
  refine lv_aload_n (pc := 5) hx hb dX11_lands_5 rfl (lv_at hl 0 rfl) ?_
  refine lv_iload_n (pc := 6) hx hb dX11_lands_6 rfl (lv_at hl 1 rfl) ?_
  obtain ⟨v1, hv1, hf⟩ := zc_1 hf
  refine zw_Vi (pc := 7) (wc := [zr_o ad (0 : Int32) f_taped f_at f_behind f_size f_kind f_number f_wrong f_wrongAt f_faultKind f_faultPlace f_reading f_toldWhy f_x f_standMany f_bestMany f_tail f_round1, (ad 2, .inl (dA 0, 2982, .inl b_all))]) (wr := []) (w1 := [zr_o ad (0 : Int32) f_taped f_at f_behind f_size f_kind f_number f_wrong f_wrongAt f_faultKind f_faultPlace f_reading f_toldWhy f_x f_standMany f_bestMany f_tail f_round1, (ad 2, .inl (dA 0, 2982, .inl b_all))]) (As := [.int p1]) (rest := []) ⟨hx, hb, hml, hown, ht⟩ (zt_X11_isRung l dC dI dA ad _ (0 : Int32) f_taped f_at f_behind f_size f_kind f_number f_wrong f_wrongAt f_faultKind f_faultPlace f_reading f_toldWhy f_x f_standMany f_bestMany f_tail f_round1 b_all p1 v1 hv1) (cwV 1 ht (zr_V zr_255 zr_256 zr_257 zr_36 zr_206) rfl rfl rfl zk_X11_isRung ⟨Nat.le_of_ble_eq_true rfl, Nat.le_of_ble_eq_true rfl⟩) rfl rfl hK hP hD hS hA [0, 1] [] (by decide) (by decide) (by decide) rfl rfl rfl hl.1 (Nat.le_of_ble_eq_true rfl) dX11_lands_7 ⟨Nat.zero_le _, Nat.zero_le _⟩ rfl (fun H locs hP hD hS => ?_)
  have hP : va_P (dC, dI) zz_cls [zr_o ad (0 : Int32) f_taped f_at f_behind f_size f_kind f_number f_wrong f_wrongAt f_faultKind f_faultPlace f_reading f_toldWhy f_x f_standMany f_bestMany f_tail f_round1, (ad 2, .inl (dA 0, 2982, .inl b_all))] H := hP
  have hD : va_D A [zr_o ad (0 : Int32) f_taped f_at f_behind f_size f_kind f_number f_wrong f_wrongAt f_faultKind f_faultPlace f_reading f_toldWhy f_x f_standMany f_bestMany f_tail f_round1, (ad 2, .inl (dA 0, 2982, .inl b_all))] := hD
  refine lv_if_eq (tgt := 22) (pc := 10) hx hb dX11_lands_10 rfl (fun hc => ?_) (fun hc => ?_)
  · have hf := za_t hf hc
    refine lv_bipush (v := (-2 : Int32)) (pc := 22) hx hb dX11_lands_22 (by decide) ?_
    obtain ⟨rfl, rfl⟩ := zi_2 hf
    exact W.iret (pc := 24) hx hb hr (fun t ht hW => ⟨⟨_, (), rfl, rfl, zz_Bi (by rw [ht]; exact hP) (va_K.moved hW.alike hK) (hD)⟩, hS.F ht⟩) hS.2.2 dX11_lands_24
  · have hf := za_f hf hc
    refine lv_aload_n (pc := 13) hx hb dX11_lands_13 rfl (lv_at hl 0 rfl) ?_
    refine lv_iload_n (pc := 14) hx hb dX11_lands_14 rfl (lv_at hl 2 rfl) ?_
    refine lv_i2l (pc := 15) hx hb dX11_lands_15 rfl ?_
    obtain ⟨v2, hv2, hf⟩ := zc_1 hf
    refine zw_Vi (pc := 16) (wc := [zr_o ad (0 : Int32) f_taped f_at f_behind f_size f_kind f_number f_wrong f_wrongAt f_faultKind f_faultPlace f_reading f_toldWhy f_x f_standMany f_bestMany f_tail f_round1, (ad 2, .inl (dA 0, 2982, .inl b_all))]) (wr := []) (w1 := [zr_o ad (0 : Int32) f_taped f_at f_behind f_size f_kind f_number f_wrong f_wrongAt f_faultKind f_faultPlace f_reading f_toldWhy f_x f_standMany f_bestMany f_tail f_round1, (ad 2, .inl (dA 0, 2982, .inl b_all))]) (As := [.long (Int32.toInt64 p2)]) (rest := []) ⟨hx, hb, hml, hown, ht⟩ (zt_X11_isThing l dC dI dA ad _ (0 : Int32) f_taped f_at f_behind f_size f_kind f_number f_wrong f_wrongAt f_faultKind f_faultPlace f_reading f_toldWhy f_x f_standMany f_bestMany f_tail f_round1 b_all (Int32.toInt64 p2) v2 hv2) (cwV 1 ht (zr_V zr_235 zr_236 zr_237 zr_36 zr_207) rfl rfl rfl zk_X11_isThing ⟨Nat.le_of_ble_eq_true rfl, Nat.le_of_ble_eq_true rfl⟩) rfl rfl hK hP hD hS hA [0, 1] [] (by decide) (by decide) (by decide) rfl rfl rfl hl.1 (Nat.le_of_ble_eq_true rfl) dX11_lands_16 ⟨Nat.zero_le _, Nat.zero_le _⟩ rfl (fun H locs hP hD hS => ?_)
    have hP : va_P (dC, dI) zz_cls [zr_o ad (0 : Int32) f_taped f_at f_behind f_size f_kind f_number f_wrong f_wrongAt f_faultKind f_faultPlace f_reading f_toldWhy f_x f_standMany f_bestMany f_tail f_round1, (ad 2, .inl (dA 0, 2982, .inl b_all))] H := hP
    have hD : va_D A [zr_o ad (0 : Int32) f_taped f_at f_behind f_size f_kind f_number f_wrong f_wrongAt f_faultKind f_faultPlace f_reading f_toldWhy f_x f_standMany f_bestMany f_tail f_round1, (ad 2, .inl (dA 0, 2982, .inl b_all))] := hD
    refine lv_if_ne (tgt := 25) (pc := 19) hx hb dX11_lands_19 rfl (fun hc => ?_) (fun hc => ?_)
    · have hf := za_f hf hc
      refine lv_iload_n (pc := 25) hx hb dX11_lands_25 rfl (lv_at hl 1 rfl) ?_
      refine lv_iconst (v := (1 : Int32)) (pc := 26) hx hb dX11_lands_26 (by decide) ?_
      refine lv_isub (pc := 27) hx hb dX11_lands_27 ?_
      obtain ⟨v3, hv3, hf⟩ := zc_1 hf
      refine zw_top (hv3) ?_
      refine lv_istore_n (lv' := [(3, .int v3), (0, .ref (ad 0)), (1, .int p1), (2, .int p2)]) (pc := 28) hx hb dX11_lands_28 rfl hl (by decide) rfl (fun ls hl => ?_)
      obtain ⟨g8, v7, hj, hf⟩ := zc_2 hf
      refine zj_join (pcJ := 42) (stk := []) (X := fun H locs ls => g8 = 1 ∧ lv_has ls 4 [(3, .int v7)] ∧ va_P (dC, dI) zz_cls [zr_o ad (0 : Int32) f_taped f_at f_behind f_size f_kind f_number f_wrong f_wrongAt f_faultKind f_faultPlace f_reading f_toldWhy f_x f_standMany f_bestMany f_tail f_round1, (ad 2, .inl (dA 0, 2982, .inl b_all))] H ∧ va_D A [zr_o ad (0 : Int32) f_taped f_at f_behind f_size f_kind f_number f_wrong f_wrongAt f_faultKind f_faultPlace f_reading f_toldWhy f_x f_standMany f_bestMany f_tail f_round1, (ad 2, .inl (dA 0, 2982, .inl b_all))] ∧ va_S A s.heap H locs) (fun H locs ls hX => ?_) (fun E42 => ?_)
      · obtain ⟨htg, hl, hP, hD, hS⟩ := hX
        clear hj
        have hf := za_t hf htg
        refine lv_iload_n (pc := 42) hx hb dX11_lands_42 rfl (lv_at hl 0 rfl) ?_
        obtain ⟨rfl, rfl⟩ := zi_2 hf
        exact W.iret (pc := 43) hx hb hr (fun t ht hW => ⟨⟨_, (), rfl, rfl, zz_Bi (by rw [ht]; exact hP) (va_K.moved hW.alike hK) (hD)⟩, hS.F ht⟩) hS.2.2 dX11_lands_43
      refine zj_join (pcJ := 50) (stk := []) (X := fun H locs ls => g8 = 2 ∧ lv_has ls 4 [] ∧ va_P (dC, dI) zz_cls [zr_o ad (0 : Int32) f_taped f_at f_behind f_size f_kind f_number f_wrong f_wrongAt f_faultKind f_faultPlace f_reading f_toldWhy f_x f_standMany f_bestMany f_tail f_round1, (ad 2, .inl (dA 0, 2982, .inl b_all))] H ∧ va_D A [zr_o ad (0 : Int32) f_taped f_at f_behind f_size f_kind f_number f_wrong f_wrongAt f_faultKind f_faultPlace f_reading f_toldWhy f_x f_standMany f_bestMany f_tail f_round1, (ad 2, .inl (dA 0, 2982, .inl b_all))] ∧ va_S A s.heap H locs) (fun H locs ls hX => ?_) (fun E50 => ?_)
      · obtain ⟨htg, hl, hP, hD, hS⟩ := hX
        clear hj
        have hf := za_f hf (by rw [htg]; decide)
        have hf := za_t hf htg
        refine lv_iconst (v := (-1 : Int32)) (pc := 50) hx hb dX11_lands_50 (by decide) ?_
        obtain ⟨rfl, rfl⟩ := zi_2 hf
        exact W.iret (pc := 51) hx hb hr (fun t ht hW => ⟨⟨_, (), rfl, rfl, zz_Bi (by rw [ht]; exact hP) (va_K.moved hW.alike hK) (hD)⟩, hS.F ht⟩) hS.2.2 dX11_lands_51
      clear hf
      refine zw_loop (pcH := 29) (X := fun v H locs ls => lv_has ls 4 [(0, .ref (ad 0)), (2, .int p2), (3, .int v)] ∧ va_P (dC, dI) zz_cls [zr_o ad (0 : Int32) f_taped f_at f_behind f_size f_kind f_number f_wrong f_wrongAt f_faultKind f_faultPlace f_reading f_toldWhy f_x f_standMany f_bestMany f_tail f_round1, (ad 2, .inl (dA 0, 2982, .inl b_all))] H ∧ va_D A [zr_o ad (0 : Int32) f_taped f_at f_behind f_size f_kind f_number f_wrong f_wrongAt f_faultKind f_faultPlace f_reading f_toldWhy f_x f_standMany f_bestMany f_tail f_round1, (ad 2, .inl (dA 0, 2982, .inl b_all))] ∧ va_S A s.heap H locs) hj (fun v w hf ih ex H locs ls hX => ?_) _ _ _ ⟨lv_sub hl [1, 3, 0] rfl, hP, hD, hS⟩
      clear hj
      generalize v = v4 at hf hX
      obtain ⟨hl, hP, hD, hS⟩ := hX
      have hl : lv_has ls 4 [(0, .ref (ad 0)), (2, .int p2), (3, .int v4)] := hl
      have hP : va_P (dC, dI) zz_cls [zr_o ad (0 : Int32) f_taped f_at f_behind f_size f_kind f_number f_wrong f_wrongAt f_faultKind f_faultPlace f_reading f_toldWhy f_x f_standMany f_bestMany f_tail f_round1, (ad 2, .inl (dA 0, 2982, .inl b_all))] H := hP
      have hD : va_D A [zr_o ad (0 : Int32) f_taped f_at f_behind f_size f_kind f_number f_wrong f_wrongAt f_faultKind f_faultPlace f_reading f_toldWhy f_x f_standMany f_bestMany f_tail f_round1, (ad 2, .inl (dA 0, 2982, .inl b_all))] := hD
      replace hf : zb_X11_lands_29 b_all p2 v4 = some w := hf
      unfold zb_X11_lands_29 at hf
      refine lv_iload_n (pc := 29) hx hb dX11_lands_29 rfl (lv_at hl 2 rfl) ?_
      refine lv_if_lt (tgt := 50) (pc := 30) hx hb dX11_lands_30 rfl (fun hc => ?_) (fun hc => ?_)
      · have hf := za_t hf hc
        obtain rfl := Option.some.inj hf
        obtain ⟨rfl, rfl⟩ := zp_2 (ex (show ¬ (2 : Nat) = 0 by decide))
        exact E50 _ _ _ ⟨rfl, lv_sub hl [] rfl, hP, hD, hS⟩
      · have hf := za_f hf hc
        refine lv_aload_n (pc := 33) hx hb dX11_lands_33 rfl (lv_at hl 0 rfl) ?_
        refine lv_iload_n (pc := 34) hx hb dX11_lands_34 rfl (lv_at hl 2 rfl) ?_
        refine lv_iload_n (pc := 35) hx hb dX11_lands_35 rfl (lv_at hl 1 rfl) ?_
        obtain ⟨v5, hv5, hf⟩ := zc_1 hf
        refine zw_Vi (pc := 36) (wc := [zr_o ad (0 : Int32) f_taped f_at f_behind f_size f_kind f_number f_wrong f_wrongAt f_faultKind f_faultPlace f_reading f_toldWhy f_x f_standMany f_bestMany f_tail f_round1, (ad 2, .inl (dA 0, 2982, .inl b_all))]) (wr := []) (w1 := [zr_o ad (0 : Int32) f_taped f_at f_behind f_size f_kind f_number f_wrong f_wrongAt f_faultKind f_faultPlace f_reading f_toldWhy f_x f_standMany f_bestMany f_tail f_round1, (ad 2, .inl (dA 0, 2982, .inl b_all))]) (As := [.int v4, .int p2]) (rest := []) ⟨hx, hb, hml, hown, ht⟩ (zt_X11_isLanding l dC dI dA ad _ (0 : Int32) f_taped f_at f_behind f_size f_kind f_number f_wrong f_wrongAt f_faultKind f_faultPlace f_reading f_toldWhy f_x f_standMany f_bestMany f_tail f_round1 b_all v4 p2 v5 hv5) (cwV 2 ht (zr_V zr_389 zr_390 zr_391 zr_36 zr_387) rfl rfl rfl zk_X11_isLanding ⟨Nat.le_of_ble_eq_true rfl, Nat.le_of_ble_eq_true rfl⟩) rfl rfl hK hP hD hS hA [0, 1] [] (by decide) (by decide) (by decide) rfl rfl rfl hl.1 (Nat.le_of_ble_eq_true rfl) dX11_lands_36 ⟨Nat.zero_le _, Nat.zero_le _⟩ rfl (fun H locs hP hD hS => ?_)
        have hP : va_P (dC, dI) zz_cls [zr_o ad (0 : Int32) f_taped f_at f_behind f_size f_kind f_number f_wrong f_wrongAt f_faultKind f_faultPlace f_reading f_toldWhy f_x f_standMany f_bestMany f_tail f_round1, (ad 2, .inl (dA 0, 2982, .inl b_all))] H := hP
        have hD : va_D A [zr_o ad (0 : Int32) f_taped f_at f_behind f_size f_kind f_number f_wrong f_wrongAt f_faultKind f_faultPlace f_reading f_toldWhy f_x f_standMany f_bestMany f_tail f_round1, (ad 2, .inl (dA 0, 2982, .inl b_all))] := hD
        refine lv_if_eq (tgt := 44) (pc := 39) hx hb dX11_lands_39 rfl (fun hc => ?_) (fun hc => ?_)
        · have hf := za_t hf hc
          obtain ⟨v6, hv6, hf⟩ := zc_1 hf
          refine lv_iinc (v := v6) (lv' := [(3, .int v6), (0, .ref (ad 0)), (2, .int p2)]) (k := 2) (pc := 44) hx hb dX11_lands_44 hl rfl (Option.some.inj hv6) (by decide) rfl (fun ls hl => ?_)
          refine lv_goto (tgt := 29) (pc := 47) hx hb dX11_lands_47 rfl ?_
          obtain rfl := Option.some.inj hf
          exact ih rfl _ _ _ ⟨lv_sub hl [1, 2, 0] rfl, hP, hD, hS⟩
        · have hf := za_f hf hc
          obtain rfl := Option.some.inj hf
          obtain ⟨rfl, rfl⟩ := zp_2 (ex (show ¬ (1 : Nat) = 0 by decide))
          exact E42 _ _ _ ⟨rfl, lv_sub hl [2] rfl, hP, hD, hS⟩
    · have hf := za_t hf hc
      refine lv_bipush (v := (-2 : Int32)) (pc := 22) hx hb dX11_lands_22 (by decide) ?_
      obtain ⟨rfl, rfl⟩ := zi_2 hf
      exact W.iret (pc := 24) hx hb hr (fun t ht hW => ⟨⟨_, (), rfl, rfl, zz_Bi (by rw [ht]; exact hP) (va_K.moved hW.alike hK) (hD)⟩, hS.F ht⟩) hS.2.2 dX11_lands_24

def zb_X11_laysRow_2 (v1 : Int32) (a2 : (Nat → Int32)) : Option (Nat × Int32 × (Nat → Int32)) :=
  if (2880 : Int32) ≤ v1 then
    some (1, v1, a2)
  else
    zd_1 (za_st a2 2880 v1 (-1 : Int32)) (fun a3 =>
    zd_1 (some (v1 + (1 : Int32))) (fun v4 =>
    some (0, v4, a3)))
def zb_X11_laysRow_29 (n : Nat) (b_all : (Nat → Int32)) (v9 : Int32) (v10 : Int32) (a11 : (Nat → Int32)) (a12 : (Nat → Int32)) (a13 : (Nat → Int32)) (a14 : (Nat → Int32)) : Option (Nat × Int32 × Int32 × (Nat → Int32) × (Nat → Int32) × (Nat → Int32) × (Nat → Int32)) :=
  zd_1 (za_ld a14 2880 v9) (fun v15 =>
  if v15 = (-1 : Int32) then
    zd_1 (za_st a14 2880 v9 v10) (fun a16 =>
    zd_1 (za_st a13 2881 v10 v9) (fun a17 =>
    zd_1 (some (v10 + (1 : Int32))) (fun v18 =>
    zd_3 (zf_X11_habitOf n b_all a11 a12 v9) (fun v19 a20 a21 =>
    zd_1 (za_ld b_all 2982 (40 : Int32)) (fun v22 =>
    zd_3 (zf_X11_actedTo n b_all a20 a21 v9 v19 v22) (fun v23 a24 a25 =>
    some (0, v23, v18, a24, a25, a17, a16)))))))
  else
    some (1, v9, v10, a11, a12, a13, a14))
def zf_X11_laysRow (n : Nat) (f_tail : Int32) (f_round1 : Int32) (b_all : (Nat → Int32)) (b_reckoned : (Nat → Int32)) (b_words : (Nat → Int32)) (b_row : (Nat → Int32)) (b_first : (Nat → Int32)) : Option (Int32 × Int32 × (Nat → Int32) × (Nat → Int32) × (Nat → Int32) × (Nat → Int32)) :=
  zd_3 (za_it (fun v => zb_X11_laysRow_2 v.1 v.2) n ((0 : Int32), b_first)) (fun g7 v5 a6 =>
  zd_1 (zf_X11_standNow b_all) (fun v8 =>
  zd_7 (za_it (fun v => zb_X11_laysRow_29 n b_all v.1 v.2.1 v.2.2.1 v.2.2.2.1 v.2.2.2.2.1 v.2.2.2.2.2) n (v8, (0 : Int32), b_reckoned, b_words, b_row, a6)) (fun g32 v26 v27 a28 a29 a30 a31 =>
  zd_1 (za_ld a31 2880 v26) (fun v33 =>
  zd_1 (some ((v27 - v33))) (fun v34 =>
  some (v33, v34, a28, a29, a30, a31))))))
theorem zk_X11_laysRow : yX11_laysRow.cls = RX11 ∧ yX11_laysRow.cls ≠ "java/lang/invoke/MethodHandle" ∧ yX11_laysRow.cls ≠ "java/lang/invoke/VarHandle" ∧ (parseMethodDescriptor yX11_laysRow.desc).map (fun d => d.parameters.length) = some 0 := by decide +kernel
set_option maxHeartbeats 4000000 in
set_option maxRecDepth 100000 in
theorem zt_X11_laysRow (l : Launch) (dC : Nat → ClassId) (dI : Nat → Nat → Nat) (dA : Nat → ClassId) (ad : Nat → Nat) (sz : Nat) (n : Nat) (f_thrown f_taped f_at f_behind f_size f_kind f_number f_wrong f_wrongAt f_faultKind f_faultPlace f_reading f_toldWhy f_x f_standMany f_bestMany f_tail f_round1 : Int32) (b_all : (Nat → Int32)) (b_reckoned : (Nat → Int32)) (b_words : (Nat → Int32)) (b_row : (Nat → Int32)) (b_first : (Nat → Int32)) (o1 : Int32) (o2 : Int32) (o3 : (Nat → Int32)) (o4 : (Nat → Int32)) (o5 : (Nat → Int32)) (o6 : (Nat → Int32)) (hf : zf_X11_laysRow n f_tail f_round1 b_all b_reckoned b_words b_row b_first = some (o1, o2, o3, o4, o5, o6)) : Met l yX11_laysRow (.code yX11_laysRow cX11_laysRow 3 none :: zr_T) ({ frames := 4, cells := 0, slots := 0, locals := 100 }) (va_Pc [.ref (ad 0)] (zz_M dC dI dA [zr_o ad f_thrown f_taped f_at f_behind f_size f_kind f_number f_wrong f_wrongAt f_faultKind f_faultPlace f_reading f_toldWhy f_x f_standMany f_bestMany f_tail f_round1, (ad 2, .inl (dA 0, 2982, .inl b_all)), (ad 17, .inl (dA 0, 900, .inl b_reckoned)), (ad 18, .inl (dA 0, 6, .inl b_words)), (ad 32, .inl (dA 0, 2881, .inl b_row)), (ad 33, .inl (dA 0, 2880, .inl b_first))] sz)) (va_Qv (fun _ : Unit => True) (fun _ t => zz_B dC dI dA (va_A [zr_o ad f_thrown f_taped f_at f_behind f_size f_kind f_number f_wrong f_wrongAt f_faultKind f_faultPlace f_reading f_toldWhy f_x f_standMany f_bestMany f_tail f_round1, (ad 2, .inl (dA 0, 2982, .inl b_all)), (ad 17, .inl (dA 0, 900, .inl b_reckoned)), (ad 18, .inl (dA 0, 6, .inl b_words)), (ad 32, .inl (dA 0, 2881, .inl b_row)), (ad 33, .inl (dA 0, 2880, .inl b_first))] sz) [zr_o ad f_thrown f_taped f_at f_behind f_size f_kind f_number f_wrong f_wrongAt f_faultKind f_faultPlace f_reading f_toldWhy f_x f_standMany f_bestMany o1 o2, (ad 2, .inl (dA 0, 2982, .inl b_all)), (ad 17, .inl (dA 0, 900, .inl o3)), (ad 18, .inl (dA 0, 6, .inl o4)), (ad 32, .inl (dA 0, 2881, .inl o5)), (ad 33, .inl (dA 0, 2880, .inl o6))] t) (va_A [zr_o ad f_thrown f_taped f_at f_behind f_size f_kind f_number f_wrong f_wrongAt f_faultKind f_faultPlace f_reading f_toldWhy f_x f_standMany f_bestMany f_tail f_round1, (ad 2, .inl (dA 0, 2982, .inl b_all)), (ad 17, .inl (dA 0, 900, .inl b_reckoned)), (ad 18, .inl (dA 0, 6, .inl b_words)), (ad 32, .inl (dA 0, 2881, .inl b_row)), (ad 33, .inl (dA 0, 2880, .inl b_first))] sz)) 0 0 (va_A [zr_o ad f_thrown f_taped f_at f_behind f_size f_kind f_number f_wrong f_wrongAt f_faultKind f_faultPlace f_reading f_toldWhy f_x f_standMany f_bestMany f_tail f_round1, (ad 2, .inl (dA 0, 2982, .inl b_all)), (ad 17, .inl (dA 0, 900, .inl b_reckoned)), (ad 18, .inl (dA 0, 6, .inl b_words)), (ad 32, .inl (dA 0, 2881, .inl b_row)), (ad 33, .inl (dA 0, 2880, .inl b_first))] sz) := by
  unfold zf_X11_laysRow at hf
  refine Met.ofW (cc := cX11_laysRow) (maxL := 3) (ret := none) (by decide) rfl ?_
  intro p e s m args below meth c s₁ B hml hv
  obtain ⟨rfl, hsz, hP, hK, hD0⟩ := hv
  have hx := B.exec
  have hb := B.bytes
  have hr := B.returns
  have ht : ∀ w ∈ zr_T, w.before ([.ref (ad 0)] : List Value).toArray s = true := fun w hw => atoms_spec (ws := .code yX11_laysRow cX11_laysRow 3 none :: zr_T) B.pre w (List.mem_cons_of_mem _ hw)
  have hown : s.vm.findClass RX11 = some m.cls := findClass_of_methodNamed B.named
  have hlocks := B.notSynchronized
  subst hsz
  have hD := hD0.self (sz := s.heap.size)
  generalize hAe : va_A [zr_o ad f_thrown f_taped f_at f_behind f_size f_kind f_number f_wrong f_wrongAt f_faultKind f_faultPlace f_reading f_toldWhy f_x f_standMany f_bestMany f_tail f_round1, (ad 2, .inl (dA 0, 2982, .inl b_all)), (ad 17, .inl (dA 0, 900, .inl b_reckoned)), (ad 18, .inl (dA 0, 6, .inl b_words)), (ad 32, .inl (dA 0, 2881, .inl b_row)), (ad 33, .inl (dA 0, 2880, .inl b_first))] s.heap.size = A at hD ⊢
  have hA : ∀ q : Nat, s.heap.size ≤ q → A q := fun q h => by rw [← hAe]; exact Or.inr h
  clear hAe hD0
  have hS : va_S A s.heap s.heap [] := va_S.rf
  have hl := lv_entry ([.ref (ad 0)]) (n := 3) (Nat.le_of_ble_eq_true rfl)
  rw [lg_entry_eq]
  generalize (lg_sl ([.ref (ad 0)]) ++ List.replicate (3 - (lg_sl ([.ref (ad 0)])).length) Slot.unset).toArray = ls at hl ⊢
  have hl : lv_has ls 3 [(0, .ref (ad 0))] := hl
  refine lv_iconst (v := (0 : Int32)) (pc := 0) hx hb dX11_laysRow_0 (by decide) ?_
  refine lv_istore_n (lv' := [(1, .int (0 : Int32)), (0, .ref (ad 0))]) (pc := 1) hx hb dX11_laysRow_1 rfl hl (by decide) rfl (fun ls hl => ?_)
  obtain ⟨g7, v5, a6, hj, hf⟩ := zc_3 hf
  refine zj_join (pcJ := 22) (stk := []) (X := fun H locs ls => lv_has ls 3 [(0, .ref (ad 0))] ∧ va_P (dC, dI) zz_cls [zr_o ad f_thrown f_taped f_at f_behind f_size f_kind f_number f_wrong f_wrongAt f_faultKind f_faultPlace f_reading f_toldWhy f_x f_standMany f_bestMany f_tail f_round1, (ad 2, .inl (dA 0, 2982, .inl b_all)), (ad 17, .inl (dA 0, 900, .inl b_reckoned)), (ad 18, .inl (dA 0, 6, .inl b_words)), (ad 32, .inl (dA 0, 2881, .inl b_row)), (ad 33, .inl (dA 0, 2880, .inl a6))] H ∧ va_D A [zr_o ad f_thrown f_taped f_at f_behind f_size f_kind f_number f_wrong f_wrongAt f_faultKind f_faultPlace f_reading f_toldWhy f_x f_standMany f_bestMany f_tail f_round1, (ad 2, .inl (dA 0, 2982, .inl b_all)), (ad 17, .inl (dA 0, 900, .inl b_reckoned)), (ad 18, .inl (dA 0, 6, .inl b_words)), (ad 32, .inl (dA 0, 2881, .inl b_row)), (ad 33, .inl (dA 0, 2880, .inl a6))] ∧ va_S A s.heap H locs) (fun H locs ls hX => ?_) (fun E22 => ?_)
  · obtain ⟨hl, hP, hD, hS⟩ := hX
    clear hj
    refine lv_aload_n (pc := 22) hx hb dX11_laysRow_22 rfl (lv_at hl 0 rfl) ?_
    obtain ⟨v8, hv8, hf⟩ := zc_1 hf
    refine zw_Vi (pc := 23) (wc := [zr_o ad f_thrown f_taped f_at f_behind f_size f_kind f_number f_wrong f_wrongAt f_faultKind f_faultPlace f_reading f_toldWhy f_x f_standMany f_bestMany f_tail f_round1, (ad 2, .inl (dA 0, 2982, .inl b_all))]) (wr := [(ad 17, .inl (dA 0, 900, .inl b_reckoned)), (ad 18, .inl (dA 0, 6, .inl b_words)), (ad 32, .inl (dA 0, 2881, .inl b_row)), (ad 33, .inl (dA 0, 2880, .inl a6))]) (w1 := [zr_o ad f_thrown f_taped f_at f_behind f_size f_kind f_number f_wrong f_wrongAt f_faultKind f_faultPlace f_reading f_toldWhy f_x f_standMany f_bestMany f_tail f_round1, (ad 2, .inl (dA 0, 2982, .inl b_all))]) (As := []) (rest := []) ⟨hx, hb, hml, hown, ht⟩ (zt_X11_standNow l dC dI dA ad _ f_thrown f_taped f_at f_behind f_size f_kind f_number f_wrong f_wrongAt f_faultKind f_faultPlace f_reading f_toldWhy f_x f_standMany f_bestMany f_tail f_round1 b_all v8 hv8) (cwV 0 ht (zr_V zr_261 zr_262 zr_263 zr_36 zr_213) rfl rfl rfl zk_X11_standNow ⟨Nat.le_of_ble_eq_true rfl, Nat.le_of_ble_eq_true rfl⟩) rfl rfl hK hP hD hS hA [0, 1] [2, 3, 4, 5] (by decide) (by decide) (by decide) rfl rfl rfl hl.1 (Nat.le_of_ble_eq_true rfl) dX11_laysRow_23 ⟨Nat.zero_le _, Nat.zero_le _⟩ rfl (fun H locs hP hD hS => ?_)
    have hP : va_P (dC, dI) zz_cls [(ad 17, .inl (dA 0, 900, .inl b_reckoned)), (ad 18, .inl (dA 0, 6, .inl b_words)), (ad 32, .inl (dA 0, 2881, .inl b_row)), (ad 33, .inl (dA 0, 2880, .inl a6)), zr_o ad f_thrown f_taped f_at f_behind f_size f_kind f_number f_wrong f_wrongAt f_faultKind f_faultPlace f_reading f_toldWhy f_x f_standMany f_bestMany f_tail f_round1, (ad 2, .inl (dA 0, 2982, .inl b_all))] H := hP
    have hD : va_D A [(ad 17, .inl (dA 0, 900, .inl b_reckoned)), (ad 18, .inl (dA 0, 6, .inl b_words)), (ad 32, .inl (dA 0, 2881, .inl b_row)), (ad 33, .inl (dA 0, 2880, .inl a6)), zr_o ad f_thrown f_taped f_at f_behind f_size f_kind f_number f_wrong f_wrongAt f_faultKind f_faultPlace f_reading f_toldWhy f_x f_standMany f_bestMany f_tail f_round1, (ad 2, .inl (dA 0, 2982, .inl b_all))] := hD
    refine lv_istore_n (lv' := [(1, .int v8), (0, .ref (ad 0))]) (pc := 26) hx hb dX11_laysRow_26 rfl hl (by decide) rfl (fun ls hl => ?_)
    refine lv_iconst (v := (0 : Int32)) (pc := 27) hx hb dX11_laysRow_27 (by decide) ?_
    refine lv_istore_n (lv' := [(2, .int (0 : Int32)), (1, .int v8), (0, .ref (ad 0))]) (pc := 28) hx hb dX11_laysRow_28 rfl hl (by decide) rfl (fun ls hl => ?_)
    obtain ⟨g32, v26, v27, a28, a29, a30, a31, hj, hf⟩ := zc_7 hf
    refine zj_join (pcJ := 77) (stk := []) (X := fun H locs ls => lv_has ls 3 [(0, .ref (ad 0)), (1, .int v26), (2, .int v27)] ∧ va_P (dC, dI) zz_cls [zr_o ad f_thrown f_taped f_at f_behind f_size f_kind f_number f_wrong f_wrongAt f_faultKind f_faultPlace f_reading f_toldWhy f_x f_standMany f_bestMany f_tail f_round1, (ad 2, .inl (dA 0, 2982, .inl b_all)), (ad 17, .inl (dA 0, 900, .inl a28)), (ad 18, .inl (dA 0, 6, .inl a29)), (ad 32, .inl (dA 0, 2881, .inl a30)), (ad 33, .inl (dA 0, 2880, .inl a31))] H ∧ va_D A [zr_o ad f_thrown f_taped f_at f_behind f_size f_kind f_number f_wrong f_wrongAt f_faultKind f_faultPlace f_reading f_toldWhy f_x f_standMany f_bestMany f_tail f_round1, (ad 2, .inl (dA 0, 2982, .inl b_all)), (ad 17, .inl (dA 0, 900, .inl a28)), (ad 18, .inl (dA 0, 6, .inl a29)), (ad 32, .inl (dA 0, 2881, .inl a30)), (ad 33, .inl (dA 0, 2880, .inl a31))] ∧ va_S A s.heap H locs) (fun H locs ls hX => ?_) (fun E77 => ?_)
    · obtain ⟨hl, hP, hD, hS⟩ := hX
      clear hj
      refine lv_aload_n (pc := 77) hx hb dX11_laysRow_77 rfl (lv_at hl 0 rfl) ?_
      refine lv_aload_n (pc := 78) hx hb dX11_laysRow_78 rfl (lv_at hl 0 rfl) ?_
      refine va_get (pc := 79) (D := (dC, dI)) (ci := 0) (v := .ref (ad 33)) (C := RX11) (T := TX11) (N := 42) hx hb ht zr_lay hown hK hP 0 rfl rfl 32 (by decide) (ht _ zr_26) (fun _ h9 => h9) rfl dX11_laysRow_79 ?_
      refine lv_iload_n (pc := 82) hx hb dX11_laysRow_82 rfl (lv_at hl 1 rfl) ?_
      obtain ⟨v33, hv33, hf⟩ := zc_1 hf
      refine zw_iald (pc := 83) hx hb hK hP 5 0 rfl rfl hv33 dX11_laysRow_83 ?_
      refine va_put (pc := 84) (D := (dC, dI)) (ci := 0) (v := .int v33) (ty := .int) (C := RX11) (T := TX11) (N := 42) hx hb ht zr_lay tyX11 tyX11_ok nmX11 hown hK hP hD hS 0 rfl rfl 33 (by decide) (ht _ zr_398) (fun _ h9 => h9) rfl (by decide +kernel) rfl rfl (Nat.le_of_ble_eq_true rfl) dX11_laysRow_84 (fun H locs hP hD hS => ?_)
      have hP : va_P (dC, dI) zz_cls [zr_o ad f_thrown f_taped f_at f_behind f_size f_kind f_number f_wrong f_wrongAt f_faultKind f_faultPlace f_reading f_toldWhy f_x f_standMany f_bestMany v33 f_round1, (ad 2, .inl (dA 0, 2982, .inl b_all)), (ad 17, .inl (dA 0, 900, .inl a28)), (ad 18, .inl (dA 0, 6, .inl a29)), (ad 32, .inl (dA 0, 2881, .inl a30)), (ad 33, .inl (dA 0, 2880, .inl a31))] H := hP
      have hD : va_D A [zr_o ad f_thrown f_taped f_at f_behind f_size f_kind f_number f_wrong f_wrongAt f_faultKind f_faultPlace f_reading f_toldWhy f_x f_standMany f_bestMany v33 f_round1, (ad 2, .inl (dA 0, 2982, .inl b_all)), (ad 17, .inl (dA 0, 900, .inl a28)), (ad 18, .inl (dA 0, 6, .inl a29)), (ad 32, .inl (dA 0, 2881, .inl a30)), (ad 33, .inl (dA 0, 2880, .inl a31))] := hD
      refine lv_aload_n (pc := 87) hx hb dX11_laysRow_87 rfl (lv_at hl 0 rfl) ?_
      refine lv_iload_n (pc := 88) hx hb dX11_laysRow_88 rfl (lv_at hl 2 rfl) ?_
      refine lv_aload_n (pc := 89) hx hb dX11_laysRow_89 rfl (lv_at hl 0 rfl) ?_
      refine va_get (pc := 90) (D := (dC, dI)) (ci := 0) (v := .int v33) (C := RX11) (T := TX11) (N := 42) hx hb ht zr_lay hown hK hP 0 rfl rfl 33 (by decide) (ht _ zr_398) (fun _ h9 => h9) rfl dX11_laysRow_90 ?_
      refine lv_isub (pc := 93) hx hb dX11_laysRow_93 ?_
      obtain ⟨v34, hv34, hf⟩ := zc_1 hf
      refine zw_top (hv34) ?_
      refine va_put (pc := 94) (D := (dC, dI)) (ci := 0) (v := .int v34) (ty := .int) (C := RX11) (T := TX11) (N := 42) hx hb ht zr_lay tyX11 tyX11_ok nmX11 hown hK hP hD hS 0 rfl rfl 34 (by decide) (ht _ zr_399) (fun _ h9 => h9) rfl (by decide +kernel) rfl rfl (Nat.le_of_ble_eq_true rfl) dX11_laysRow_94 (fun H locs hP hD hS => ?_)
      have hP : va_P (dC, dI) zz_cls [zr_o ad f_thrown f_taped f_at f_behind f_size f_kind f_number f_wrong f_wrongAt f_faultKind f_faultPlace f_reading f_toldWhy f_x f_standMany f_bestMany v33 v34, (ad 2, .inl (dA 0, 2982, .inl b_all)), (ad 17, .inl (dA 0, 900, .inl a28)), (ad 18, .inl (dA 0, 6, .inl a29)), (ad 32, .inl (dA 0, 2881, .inl a30)), (ad 33, .inl (dA 0, 2880, .inl a31))] H := hP
      have hD : va_D A [zr_o ad f_thrown f_taped f_at f_behind f_size f_kind f_number f_wrong f_wrongAt f_faultKind f_faultPlace f_reading f_toldWhy f_x f_standMany f_bestMany v33 v34, (ad 2, .inl (dA 0, 2982, .inl b_all)), (ad 17, .inl (dA 0, 900, .inl a28)), (ad 18, .inl (dA 0, 6, .inl a29)), (ad 32, .inl (dA 0, 2881, .inl a30)), (ad 33, .inl (dA 0, 2880, .inl a31))] := hD
      obtain ⟨rfl, rfl, rfl, rfl, rfl, rfl⟩ := zi_6 hf
      exact W.vret (pc := 97) hx hb hr (fun t ht hW => ⟨⟨(), rfl, trivial, zz_Bi (by rw [ht]; exact hP) (va_K.moved hW.alike hK) (hD)⟩, hS.F ht⟩) hS.2.2 dX11_laysRow_97
    clear hf
    refine zw_loop (pcH := 29) (X := fun v H locs ls => lv_has ls 3 [(0, .ref (ad 0)), (1, .int v.1), (2, .int v.2.1)] ∧ va_P (dC, dI) zz_cls [zr_o ad f_thrown f_taped f_at f_behind f_size f_kind f_number f_wrong f_wrongAt f_faultKind f_faultPlace f_reading f_toldWhy f_x f_standMany f_bestMany f_tail f_round1, (ad 2, .inl (dA 0, 2982, .inl b_all)), (ad 17, .inl (dA 0, 900, .inl v.2.2.1)), (ad 18, .inl (dA 0, 6, .inl v.2.2.2.1)), (ad 32, .inl (dA 0, 2881, .inl v.2.2.2.2.1)), (ad 33, .inl (dA 0, 2880, .inl v.2.2.2.2.2))] H ∧ va_D A [zr_o ad f_thrown f_taped f_at f_behind f_size f_kind f_number f_wrong f_wrongAt f_faultKind f_faultPlace f_reading f_toldWhy f_x f_standMany f_bestMany f_tail f_round1, (ad 2, .inl (dA 0, 2982, .inl b_all)), (ad 17, .inl (dA 0, 900, .inl v.2.2.1)), (ad 18, .inl (dA 0, 6, .inl v.2.2.2.1)), (ad 32, .inl (dA 0, 2881, .inl v.2.2.2.2.1)), (ad 33, .inl (dA 0, 2880, .inl v.2.2.2.2.2))] ∧ va_S A s.heap H locs) hj (fun v w hf ih ex H locs ls hX => ?_) _ _ _ ⟨lv_sub hl [2, 1, 0] rfl, hP.sub [4, 5, 0, 1, 2, 3] rfl, hD.sub [4, 5, 0, 1, 2, 3] (by decide) rfl, hS⟩
    clear hj
    obtain ⟨v9, v10, a11, a12, a13, a14⟩ := v
    obtain ⟨hl, hP, hD, hS⟩ := hX
    have hl : lv_has ls 3 [(0, .ref (ad 0)), (1, .int v9), (2, .int v10)] := hl
    have hP : va_P (dC, dI) zz_cls [zr_o ad f_thrown f_taped f_at f_behind f_size f_kind f_number f_wrong f_wrongAt f_faultKind f_faultPlace f_reading f_toldWhy f_x f_standMany f_bestMany f_tail f_round1, (ad 2, .inl (dA 0, 2982, .inl b_all)), (ad 17, .inl (dA 0, 900, .inl a11)), (ad 18, .inl (dA 0, 6, .inl a12)), (ad 32, .inl (dA 0, 2881, .inl a13)), (ad 33, .inl (dA 0, 2880, .inl a14))] H := hP
    have hD : va_D A [zr_o ad f_thrown f_taped f_at f_behind f_size f_kind f_number f_wrong f_wrongAt f_faultKind f_faultPlace f_reading f_toldWhy f_x f_standMany f_bestMany f_tail f_round1, (ad 2, .inl (dA 0, 2982, .inl b_all)), (ad 17, .inl (dA 0, 900, .inl a11)), (ad 18, .inl (dA 0, 6, .inl a12)), (ad 32, .inl (dA 0, 2881, .inl a13)), (ad 33, .inl (dA 0, 2880, .inl a14))] := hD
    replace hf : zb_X11_laysRow_29 n b_all v9 v10 a11 a12 a13 a14 = some w := hf
    unfold zb_X11_laysRow_29 at hf
    refine lv_aload_n (pc := 29) hx hb dX11_laysRow_29 rfl (lv_at hl 0 rfl) ?_
    refine va_get (pc := 30) (D := (dC, dI)) (ci := 0) (v := .ref (ad 33)) (C := RX11) (T := TX11) (N := 42) hx hb ht zr_lay hown hK hP 0 rfl rfl 32 (by decide) (ht _ zr_26) (fun _ h9 => h9) rfl dX11_laysRow_30 ?_
    refine lv_iload_n (pc := 33) hx hb dX11_laysRow_33 rfl (lv_at hl 1 rfl) ?_
    obtain ⟨v15, hv15, hf⟩ := zc_1 hf
    refine zw_iald (pc := 34) hx hb hK hP 5 0 rfl rfl hv15 dX11_laysRow_34 ?_
    refine lv_iconst (v := (-1 : Int32)) (pc := 35) hx hb dX11_laysRow_35 (by decide) ?_
    refine lv_icmp_ne (tgt := 77) (pc := 36) hx hb dX11_laysRow_36 rfl (fun hc => ?_) (fun hc => ?_)
    · have hf := za_f hf hc
      obtain rfl := Option.some.inj hf
      obtain ⟨rfl, rfl, rfl, rfl, rfl, rfl, rfl⟩ := zp_7 (ex (show ¬ (1 : Nat) = 0 by decide))
      exact E77 _ _ _ ⟨lv_sub hl [0, 1, 2] rfl, hP, hD, hS⟩
    · have hf := za_t hf hc
      refine lv_aload_n (pc := 39) hx hb dX11_laysRow_39 rfl (lv_at hl 0 rfl) ?_
      refine va_get (pc := 40) (D := (dC, dI)) (ci := 0) (v := .ref (ad 33)) (C := RX11) (T := TX11) (N := 42) hx hb ht zr_lay hown hK hP 0 rfl rfl 32 (by decide) (ht _ zr_26) (fun _ h9 => h9) rfl dX11_laysRow_40 ?_
      refine lv_iload_n (pc := 43) hx hb dX11_laysRow_43 rfl (lv_at hl 1 rfl) ?_
      refine lv_iload_n (pc := 44) hx hb dX11_laysRow_44 rfl (lv_at hl 2 rfl) ?_
      obtain ⟨a16, ha16, hf⟩ := zc_1 hf
      refine zw_iast (pc := 45) hx hb hK hP hD hS 5 0 rfl rfl ha16 dX11_laysRow_45 (fun H locs hP hD hS => ?_)
      have hP : va_P (dC, dI) zz_cls [zr_o ad f_thrown f_taped f_at f_behind f_size f_kind f_number f_wrong f_wrongAt f_faultKind f_faultPlace f_reading f_toldWhy f_x f_standMany f_bestMany f_tail f_round1, (ad 2, .inl (dA 0, 2982, .inl b_all)), (ad 17, .inl (dA 0, 900, .inl a11)), (ad 18, .inl (dA 0, 6, .inl a12)), (ad 32, .inl (dA 0, 2881, .inl a13)), (ad 33, .inl (dA 0, 2880, .inl a16))] H := hP
      have hD : va_D A [zr_o ad f_thrown f_taped f_at f_behind f_size f_kind f_number f_wrong f_wrongAt f_faultKind f_faultPlace f_reading f_toldWhy f_x f_standMany f_bestMany f_tail f_round1, (ad 2, .inl (dA 0, 2982, .inl b_all)), (ad 17, .inl (dA 0, 900, .inl a11)), (ad 18, .inl (dA 0, 6, .inl a12)), (ad 32, .inl (dA 0, 2881, .inl a13)), (ad 33, .inl (dA 0, 2880, .inl a16))] := hD
      refine lv_aload_n (pc := 46) hx hb dX11_laysRow_46 rfl (lv_at hl 0 rfl) ?_
      refine va_get (pc := 47) (D := (dC, dI)) (ci := 0) (v := .ref (ad 32)) (C := RX11) (T := TX11) (N := 42) hx hb ht zr_lay hown hK hP 0 rfl rfl 31 (by decide) (ht _ zr_25) (fun _ h9 => h9) rfl dX11_laysRow_47 ?_
      refine lv_iload_n (pc := 50) hx hb dX11_laysRow_50 rfl (lv_at hl 2 rfl) ?_
      refine lv_iload_n (pc := 51) hx hb dX11_laysRow_51 rfl (lv_at hl 1 rfl) ?_
      obtain ⟨a17, ha17, hf⟩ := zc_1 hf
      refine zw_iast (pc := 52) hx hb hK hP hD hS 4 0 rfl rfl ha17 dX11_laysRow_52 (fun H locs hP hD hS => ?_)
      have hP : va_P (dC, dI) zz_cls [zr_o ad f_thrown f_taped f_at f_behind f_size f_kind f_number f_wrong f_wrongAt f_faultKind f_faultPlace f_reading f_toldWhy f_x f_standMany f_bestMany f_tail f_round1, (ad 2, .inl (dA 0, 2982, .inl b_all)), (ad 17, .inl (dA 0, 900, .inl a11)), (ad 18, .inl (dA 0, 6, .inl a12)), (ad 32, .inl (dA 0, 2881, .inl a17)), (ad 33, .inl (dA 0, 2880, .inl a16))] H := hP
      have hD : va_D A [zr_o ad f_thrown f_taped f_at f_behind f_size f_kind f_number f_wrong f_wrongAt f_faultKind f_faultPlace f_reading f_toldWhy f_x f_standMany f_bestMany f_tail f_round1, (ad 2, .inl (dA 0, 2982, .inl b_all)), (ad 17, .inl (dA 0, 900, .inl a11)), (ad 18, .inl (dA 0, 6, .inl a12)), (ad 32, .inl (dA 0, 2881, .inl a17)), (ad 33, .inl (dA 0, 2880, .inl a16))] := hD
      obtain ⟨v18, hv18, hf⟩ := zc_1 hf
      refine lv_iinc (v := v18) (lv' := [(2, .int v18), (0, .ref (ad 0)), (1, .int v9)]) (k := 2) (pc := 53) hx hb dX11_laysRow_53 hl rfl (Option.some.inj hv18) (by decide) rfl (fun ls hl => ?_)
      refine lv_aload_n (pc := 56) hx hb dX11_laysRow_56 rfl (lv_at hl 1 rfl) ?_
      refine lv_iload_n (pc := 57) hx hb dX11_laysRow_57 rfl (lv_at hl 2 rfl) ?_
      refine lv_aload_n (pc := 58) hx hb dX11_laysRow_58 rfl (lv_at hl 1 rfl) ?_
      refine lv_iload_n (pc := 59) hx hb dX11_laysRow_59 rfl (lv_at hl 2 rfl) ?_
      obtain ⟨v19, a20, a21, hv19, hf⟩ := zc_3 hf
      refine zw_Vi (pc := 60) (wc := [zr_o ad f_thrown f_taped f_at f_behind f_size f_kind f_number f_wrong f_wrongAt f_faultKind f_faultPlace f_reading f_toldWhy f_x f_standMany f_bestMany f_tail f_round1, (ad 2, .inl (dA 0, 2982, .inl b_all)), (ad 17, .inl (dA 0, 900, .inl a11)), (ad 18, .inl (dA 0, 6, .inl a12))]) (wr := [(ad 32, .inl (dA 0, 2881, .inl a17)), (ad 33, .inl (dA 0, 2880, .inl a16))]) (w1 := [zr_o ad f_thrown f_taped f_at f_behind f_size f_kind f_number f_wrong f_wrongAt f_faultKind f_faultPlace f_reading f_toldWhy f_x f_standMany f_bestMany f_tail f_round1, (ad 2, .inl (dA 0, 2982, .inl b_all)), (ad 17, .inl (dA 0, 900, .inl a20)), (ad 18, .inl (dA 0, 6, .inl a21))]) (As := [.int v9]) (rest := [.int v9, .ref (ad 0)]) ⟨hx, hb, hml, hown, ht⟩ (zt_X11_habitOf l dC dI dA ad _ n f_thrown f_taped f_at f_behind f_size f_kind f_number f_wrong f_wrongAt f_faultKind f_faultPlace f_reading f_toldWhy f_x f_standMany f_bestMany f_tail f_round1 b_all a11 a12 v9 v19 a20 a21 hv19) (cwV 1 ht (zr_V zr_297 zr_298 zr_299 zr_36 zr_295) rfl rfl rfl zk_X11_habitOf ⟨Nat.le_of_ble_eq_true rfl, Nat.le_of_ble_eq_true rfl⟩) rfl rfl hK hP hD hS hA [0, 1, 2, 3] [4, 5] (by decide) (by decide) (by decide) rfl rfl rfl hl.1 (Nat.le_of_ble_eq_true rfl) dX11_laysRow_60 ⟨Nat.zero_le _, Nat.zero_le _⟩ rfl (fun H locs hP hD hS => ?_)
      have hP : va_P (dC, dI) zz_cls [(ad 32, .inl (dA 0, 2881, .inl a17)), (ad 33, .inl (dA 0, 2880, .inl a16)), zr_o ad f_thrown f_taped f_at f_behind f_size f_kind f_number f_wrong f_wrongAt f_faultKind f_faultPlace f_reading f_toldWhy f_x f_standMany f_bestMany f_tail f_round1, (ad 2, .inl (dA 0, 2982, .inl b_all)), (ad 17, .inl (dA 0, 900, .inl a20)), (ad 18, .inl (dA 0, 6, .inl a21))] H := hP
      have hD : va_D A [(ad 32, .inl (dA 0, 2881, .inl a17)), (ad 33, .inl (dA 0, 2880, .inl a16)), zr_o ad f_thrown f_taped f_at f_behind f_size f_kind f_number f_wrong f_wrongAt f_faultKind f_faultPlace f_reading f_toldWhy f_x f_standMany f_bestMany f_tail f_round1, (ad 2, .inl (dA 0, 2982, .inl b_all)), (ad 17, .inl (dA 0, 900, .inl a20)), (ad 18, .inl (dA 0, 6, .inl a21))] := hD
      refine lv_aload_n (pc := 63) hx hb dX11_laysRow_63 rfl (lv_at hl 1 rfl) ?_
      refine va_get (pc := 64) (D := (dC, dI)) (ci := 0) (v := .ref (ad 2)) (C := RX11) (T := TX11) (N := 42) hx hb ht zr_lay hown hK hP 2 rfl rfl 1 (by decide) (ht _ zr_6) (fun _ h9 => h9) rfl dX11_laysRow_64 ?_
      refine lv_bipush (v := (40 : Int32)) (pc := 67) hx hb dX11_laysRow_67 (by decide) ?_
      obtain ⟨v22, hv22, hf⟩ := zc_1 hf
      refine zw_iald (pc := 69) hx hb hK hP 3 0 rfl rfl hv22 dX11_laysRow_69 ?_
      obtain ⟨v23, a24, a25, hv23, hf⟩ := zc_3 hf
      refine zw_Vi (pc := 70) (wc := [zr_o ad f_thrown f_taped f_at f_behind f_size f_kind f_number f_wrong f_wrongAt f_faultKind f_faultPlace f_reading f_toldWhy f_x f_standMany f_bestMany f_tail f_round1, (ad 2, .inl (dA 0, 2982, .inl b_all)), (ad 17, .inl (dA 0, 900, .inl a20)), (ad 18, .inl (dA 0, 6, .inl a21))]) (wr := [(ad 32, .inl (dA 0, 2881, .inl a17)), (ad 33, .inl (dA 0, 2880, .inl a16))]) (w1 := [zr_o ad f_thrown f_taped f_at f_behind f_size f_kind f_number f_wrong f_wrongAt f_faultKind f_faultPlace f_reading f_toldWhy f_x f_standMany f_bestMany f_tail f_round1, (ad 2, .inl (dA 0, 2982, .inl b_all)), (ad 17, .inl (dA 0, 900, .inl a24)), (ad 18, .inl (dA 0, 6, .inl a25))]) (As := [.int v9, .int v19, .int v22]) (rest := []) ⟨hx, hb, hml, hown, ht⟩ (zt_X11_actedTo l dC dI dA ad _ n f_thrown f_taped f_at f_behind f_size f_kind f_number f_wrong f_wrongAt f_faultKind f_faultPlace f_reading f_toldWhy f_x f_standMany f_bestMany f_tail f_round1 b_all a20 a21 v9 v19 v22 v23 a24 a25 hv23) (cwV 3 ht (zr_V zr_272 zr_273 zr_274 zr_36 zr_253) rfl rfl rfl zk_X11_actedTo ⟨Nat.le_of_ble_eq_true rfl, Nat.le_of_ble_eq_true rfl⟩) rfl rfl hK hP hD hS hA [2, 3, 4, 5] [0, 1] (by decide) (by decide) (by decide) rfl rfl rfl hl.1 (Nat.le_of_ble_eq_true rfl) dX11_laysRow_70 ⟨Nat.zero_le _, Nat.zero_le _⟩ rfl (fun H locs hP hD hS => ?_)
      have hP : va_P (dC, dI) zz_cls [(ad 32, .inl (dA 0, 2881, .inl a17)), (ad 33, .inl (dA 0, 2880, .inl a16)), zr_o ad f_thrown f_taped f_at f_behind f_size f_kind f_number f_wrong f_wrongAt f_faultKind f_faultPlace f_reading f_toldWhy f_x f_standMany f_bestMany f_tail f_round1, (ad 2, .inl (dA 0, 2982, .inl b_all)), (ad 17, .inl (dA 0, 900, .inl a24)), (ad 18, .inl (dA 0, 6, .inl a25))] H := hP
      have hD : va_D A [(ad 32, .inl (dA 0, 2881, .inl a17)), (ad 33, .inl (dA 0, 2880, .inl a16)), zr_o ad f_thrown f_taped f_at f_behind f_size f_kind f_number f_wrong f_wrongAt f_faultKind f_faultPlace f_reading f_toldWhy f_x f_standMany f_bestMany f_tail f_round1, (ad 2, .inl (dA 0, 2982, .inl b_all)), (ad 17, .inl (dA 0, 900, .inl a24)), (ad 18, .inl (dA 0, 6, .inl a25))] := hD
      refine lv_istore_n (lv' := [(1, .int v23), (2, .int v18), (0, .ref (ad 0))]) (pc := 73) hx hb dX11_laysRow_73 rfl hl (by decide) rfl (fun ls hl => ?_)
      refine lv_goto (tgt := 29) (pc := 74) hx hb dX11_laysRow_74 rfl ?_
      obtain rfl := Option.some.inj hf
      exact ih rfl _ _ _ ⟨lv_sub hl [2, 0, 1] rfl, hP.sub [2, 3, 4, 5, 0, 1] rfl, hD.sub [2, 3, 4, 5, 0, 1] (by decide) rfl, hS⟩
  clear hf
  refine zw_loop (pcH := 2) (X := fun v H locs ls => lv_has ls 3 [(0, .ref (ad 0)), (1, .int v.1)] ∧ va_P (dC, dI) zz_cls [zr_o ad f_thrown f_taped f_at f_behind f_size f_kind f_number f_wrong f_wrongAt f_faultKind f_faultPlace f_reading f_toldWhy f_x f_standMany f_bestMany f_tail f_round1, (ad 2, .inl (dA 0, 2982, .inl b_all)), (ad 17, .inl (dA 0, 900, .inl b_reckoned)), (ad 18, .inl (dA 0, 6, .inl b_words)), (ad 32, .inl (dA 0, 2881, .inl b_row)), (ad 33, .inl (dA 0, 2880, .inl v.2))] H ∧ va_D A [zr_o ad f_thrown f_taped f_at f_behind f_size f_kind f_number f_wrong f_wrongAt f_faultKind f_faultPlace f_reading f_toldWhy f_x f_standMany f_bestMany f_tail f_round1, (ad 2, .inl (dA 0, 2982, .inl b_all)), (ad 17, .inl (dA 0, 900, .inl b_reckoned)), (ad 18, .inl (dA 0, 6, .inl b_words)), (ad 32, .inl (dA 0, 2881, .inl b_row)), (ad 33, .inl (dA 0, 2880, .inl v.2))] ∧ va_S A s.heap H locs) hj (fun v w hf ih ex H locs ls hX => ?_) _ _ _ ⟨lv_sub hl [1, 0] rfl, hP, hD, hS⟩
  clear hj
  obtain ⟨v1, a2⟩ := v
  obtain ⟨hl, hP, hD, hS⟩ := hX
  have hl : lv_has ls 3 [(0, .ref (ad 0)), (1, .int v1)] := hl
  have hP : va_P (dC, dI) zz_cls [zr_o ad f_thrown f_taped f_at f_behind f_size f_kind f_number f_wrong f_wrongAt f_faultKind f_faultPlace f_reading f_toldWhy f_x f_standMany f_bestMany f_tail f_round1, (ad 2, .inl (dA 0, 2982, .inl b_all)), (ad 17, .inl (dA 0, 900, .inl b_reckoned)), (ad 18, .inl (dA 0, 6, .inl b_words)), (ad 32, .inl (dA 0, 2881, .inl b_row)), (ad 33, .inl (dA 0, 2880, .inl a2))] H := hP
  have hD : va_D A [zr_o ad f_thrown f_taped f_at f_behind f_size f_kind f_number f_wrong f_wrongAt f_faultKind f_faultPlace f_reading f_toldWhy f_x f_standMany f_bestMany f_tail f_round1, (ad 2, .inl (dA 0, 2982, .inl b_all)), (ad 17, .inl (dA 0, 900, .inl b_reckoned)), (ad 18, .inl (dA 0, 6, .inl b_words)), (ad 32, .inl (dA 0, 2881, .inl b_row)), (ad 33, .inl (dA 0, 2880, .inl a2))] := hD
  replace hf : zb_X11_laysRow_2 v1 a2 = some w := hf
  unfold zb_X11_laysRow_2 at hf
  refine lv_iload_n (pc := 2) hx hb dX11_laysRow_2 rfl (lv_at hl 1 rfl) ?_
  refine lv_sipush (v := (2880 : Int32)) (pc := 3) hx hb dX11_laysRow_3 (by decide) ?_
  refine lv_icmp_ge (tgt := 22) (pc := 6) hx hb dX11_laysRow_6 rfl (fun hc => ?_) (fun hc => ?_)
  · have hf := za_t hf hc
    obtain rfl := Option.some.inj hf
    obtain ⟨rfl, rfl, rfl⟩ := zp_3 (ex (show ¬ (1 : Nat) = 0 by decide))
    exact E22 _ _ _ ⟨lv_sub hl [0] rfl, hP, hD, hS⟩
  · have hf := za_f hf hc
    refine lv_aload_n (pc := 9) hx hb dX11_laysRow_9 rfl (lv_at hl 0 rfl) ?_
    refine va_get (pc := 10) (D := (dC, dI)) (ci := 0) (v := .ref (ad 33)) (C := RX11) (T := TX11) (N := 42) hx hb ht zr_lay hown hK hP 0 rfl rfl 32 (by decide) (ht _ zr_26) (fun _ h9 => h9) rfl dX11_laysRow_10 ?_
    refine lv_iload_n (pc := 13) hx hb dX11_laysRow_13 rfl (lv_at hl 1 rfl) ?_
    refine lv_iconst (v := (-1 : Int32)) (pc := 14) hx hb dX11_laysRow_14 (by decide) ?_
    obtain ⟨a3, ha3, hf⟩ := zc_1 hf
    refine zw_iast (pc := 15) hx hb hK hP hD hS 5 0 rfl rfl ha3 dX11_laysRow_15 (fun H locs hP hD hS => ?_)
    have hP : va_P (dC, dI) zz_cls [zr_o ad f_thrown f_taped f_at f_behind f_size f_kind f_number f_wrong f_wrongAt f_faultKind f_faultPlace f_reading f_toldWhy f_x f_standMany f_bestMany f_tail f_round1, (ad 2, .inl (dA 0, 2982, .inl b_all)), (ad 17, .inl (dA 0, 900, .inl b_reckoned)), (ad 18, .inl (dA 0, 6, .inl b_words)), (ad 32, .inl (dA 0, 2881, .inl b_row)), (ad 33, .inl (dA 0, 2880, .inl a3))] H := hP
    have hD : va_D A [zr_o ad f_thrown f_taped f_at f_behind f_size f_kind f_number f_wrong f_wrongAt f_faultKind f_faultPlace f_reading f_toldWhy f_x f_standMany f_bestMany f_tail f_round1, (ad 2, .inl (dA 0, 2982, .inl b_all)), (ad 17, .inl (dA 0, 900, .inl b_reckoned)), (ad 18, .inl (dA 0, 6, .inl b_words)), (ad 32, .inl (dA 0, 2881, .inl b_row)), (ad 33, .inl (dA 0, 2880, .inl a3))] := hD
    obtain ⟨v4, hv4, hf⟩ := zc_1 hf
    refine lv_iinc (v := v4) (lv' := [(1, .int v4), (0, .ref (ad 0))]) (k := 1) (pc := 16) hx hb dX11_laysRow_16 hl rfl (Option.some.inj hv4) (by decide) rfl (fun ls hl => ?_)
    refine lv_goto (tgt := 2) (pc := 19) hx hb dX11_laysRow_19 rfl ?_
    obtain rfl := Option.some.inj hf
    exact ih rfl _ _ _ ⟨lv_sub hl [1, 0] rfl, hP, hD, hS⟩

def zf_X11_lies (n : Nat) (f_thrown : Int32) (f_tail : Int32) (f_round1 : Int32) (b_all : (Nat → Int32)) (b_reckoned : (Nat → Int32)) (b_words : (Nat → Int32)) (b_row : (Nat → Int32)) (b_first : (Nat → Int32)) (p1 : Int32) : Option (Int32 × Int32 × Int32 × Int32 × (Nat → Int32) × (Nat → Int32) × (Nat → Int32) × (Nat → Int32)) :=
  zd_1 (zf_X11_within (Int32.toInt64 p1) (0 : Int64) (99999 : Int64)) (fun v1 =>
  if v1 = 0 then
    some ((-3 : Int32), (0 : Int32), f_tail, f_round1, b_reckoned, b_words, b_row, b_first)
  else
    zd_6 (zf_X11_laysRow n f_tail f_round1 b_all b_reckoned b_words b_row b_first) (fun v2 v3 a4 a5 a6 a7 =>
    zd_1 (
      if v2 ≤ p1 then
        zd_1 (za_nz v3) (fun v8 =>
        some (v2 + (za_rem (p1 - v2) v3)))
      else
        some p1) (fun v9 =>
    zd_1 (za_ld a6 2881 v9) (fun v10 =>
    zd_1 (zf_X11_rungIn v10) (fun v11 =>
    some (v11, (0 : Int32), v2, v3, a4, a5, a6, a7))))))
theorem zk_X11_lies : yX11_lies.cls = RX11 ∧ yX11_lies.cls ≠ "java/lang/invoke/MethodHandle" ∧ yX11_lies.cls ≠ "java/lang/invoke/VarHandle" ∧ (parseMethodDescriptor yX11_lies.desc).map (fun d => d.parameters.length) = some 1 := by decide +kernel
set_option maxHeartbeats 4000000 in
set_option maxRecDepth 100000 in
theorem zt_X11_lies (l : Launch) (dC : Nat → ClassId) (dI : Nat → Nat → Nat) (dA : Nat → ClassId) (ad : Nat → Nat) (sz : Nat) (n : Nat) (f_thrown f_taped f_at f_behind f_size f_kind f_number f_wrong f_wrongAt f_faultKind f_faultPlace f_reading f_toldWhy f_x f_standMany f_bestMany f_tail f_round1 : Int32) (b_all : (Nat → Int32)) (b_reckoned : (Nat → Int32)) (b_words : (Nat → Int32)) (b_row : (Nat → Int32)) (b_first : (Nat → Int32)) (p1 : Int32) (r0 : Int32) (o1 : Int32) (o2 : Int32) (o3 : Int32) (o4 : (Nat → Int32)) (o5 : (Nat → Int32)) (o6 : (Nat → Int32)) (o7 : (Nat → Int32)) (hf : zf_X11_lies n f_thrown f_tail f_round1 b_all b_reckoned b_words b_row b_first p1 = some (r0, o1, o2, o3, o4, o5, o6, o7)) : Met l yX11_lies (.code yX11_lies cX11_lies 2 (some .int) :: zr_T) ({ frames := 5, cells := 0, slots := 0, locals := 122 }) (va_Pc [.ref (ad 0), .int p1] (zz_M dC dI dA [zr_o ad f_thrown f_taped f_at f_behind f_size f_kind f_number f_wrong f_wrongAt f_faultKind f_faultPlace f_reading f_toldWhy f_x f_standMany f_bestMany f_tail f_round1, (ad 2, .inl (dA 0, 2982, .inl b_all)), (ad 17, .inl (dA 0, 900, .inl b_reckoned)), (ad 18, .inl (dA 0, 6, .inl b_words)), (ad 32, .inl (dA 0, 2881, .inl b_row)), (ad 33, .inl (dA 0, 2880, .inl b_first))] sz)) (va_Qi (fun (r : Int32) (_ : Unit) => r = r0) (fun _ t => zz_B dC dI dA (va_A [zr_o ad f_thrown f_taped f_at f_behind f_size f_kind f_number f_wrong f_wrongAt f_faultKind f_faultPlace f_reading f_toldWhy f_x f_standMany f_bestMany f_tail f_round1, (ad 2, .inl (dA 0, 2982, .inl b_all)), (ad 17, .inl (dA 0, 900, .inl b_reckoned)), (ad 18, .inl (dA 0, 6, .inl b_words)), (ad 32, .inl (dA 0, 2881, .inl b_row)), (ad 33, .inl (dA 0, 2880, .inl b_first))] sz) [zr_o ad o1 f_taped f_at f_behind f_size f_kind f_number f_wrong f_wrongAt f_faultKind f_faultPlace f_reading f_toldWhy f_x f_standMany f_bestMany o2 o3, (ad 2, .inl (dA 0, 2982, .inl b_all)), (ad 17, .inl (dA 0, 900, .inl o4)), (ad 18, .inl (dA 0, 6, .inl o5)), (ad 32, .inl (dA 0, 2881, .inl o6)), (ad 33, .inl (dA 0, 2880, .inl o7))] t) (va_A [zr_o ad f_thrown f_taped f_at f_behind f_size f_kind f_number f_wrong f_wrongAt f_faultKind f_faultPlace f_reading f_toldWhy f_x f_standMany f_bestMany f_tail f_round1, (ad 2, .inl (dA 0, 2982, .inl b_all)), (ad 17, .inl (dA 0, 900, .inl b_reckoned)), (ad 18, .inl (dA 0, 6, .inl b_words)), (ad 32, .inl (dA 0, 2881, .inl b_row)), (ad 33, .inl (dA 0, 2880, .inl b_first))] sz)) 0 0 (va_A [zr_o ad f_thrown f_taped f_at f_behind f_size f_kind f_number f_wrong f_wrongAt f_faultKind f_faultPlace f_reading f_toldWhy f_x f_standMany f_bestMany f_tail f_round1, (ad 2, .inl (dA 0, 2982, .inl b_all)), (ad 17, .inl (dA 0, 900, .inl b_reckoned)), (ad 18, .inl (dA 0, 6, .inl b_words)), (ad 32, .inl (dA 0, 2881, .inl b_row)), (ad 33, .inl (dA 0, 2880, .inl b_first))] sz) := by
  unfold zf_X11_lies at hf
  refine Met.ofW (cc := cX11_lies) (maxL := 2) (ret := (some .int)) (by decide) rfl ?_
  intro p e s m args below meth c s₁ B hml hv
  obtain ⟨rfl, hsz, hP, hK, hD0⟩ := hv
  have hx := B.exec
  have hb := B.bytes
  have hr := B.returns
  have ht : ∀ w ∈ zr_T, w.before ([.ref (ad 0), .int p1] : List Value).toArray s = true := fun w hw => atoms_spec (ws := .code yX11_lies cX11_lies 2 (some .int) :: zr_T) B.pre w (List.mem_cons_of_mem _ hw)
  have hown : s.vm.findClass RX11 = some m.cls := findClass_of_methodNamed B.named
  have hlocks := B.notSynchronized
  subst hsz
  have hD := hD0.self (sz := s.heap.size)
  generalize hAe : va_A [zr_o ad f_thrown f_taped f_at f_behind f_size f_kind f_number f_wrong f_wrongAt f_faultKind f_faultPlace f_reading f_toldWhy f_x f_standMany f_bestMany f_tail f_round1, (ad 2, .inl (dA 0, 2982, .inl b_all)), (ad 17, .inl (dA 0, 900, .inl b_reckoned)), (ad 18, .inl (dA 0, 6, .inl b_words)), (ad 32, .inl (dA 0, 2881, .inl b_row)), (ad 33, .inl (dA 0, 2880, .inl b_first))] s.heap.size = A at hD ⊢
  have hA : ∀ q : Nat, s.heap.size ≤ q → A q := fun q h => by rw [← hAe]; exact Or.inr h
  clear hAe hD0
  have hS : va_S A s.heap s.heap [] := va_S.rf
  have hl := lv_entry ([.ref (ad 0), .int p1]) (n := 2) (Nat.le_of_ble_eq_true rfl)
  rw [lg_entry_eq]
  generalize (lg_sl ([.ref (ad 0), .int p1]) ++ List.replicate (2 - (lg_sl ([.ref (ad 0), .int p1])).length) Slot.unset).toArray = ls at hl ⊢
  have hl : lv_has ls 2 [(0, .ref (ad 0)), (1, .int p1)] := hl
  refine lv_aload_n (pc := 0) hx hb dX11_lies_0 rfl (lv_at hl 0 rfl) ?_
  refine lv_iconst (v := (0 : Int32)) (pc := 1) hx hb dX11_lies_1 (by decide) ?_
  refine va_put (pc := 2) (D := (dC, dI)) (ci := 0) (v := .int (0 : Int32)) (ty := .int) (C := RX11) (T := TX11) (N := 42) hx hb ht zr_lay tyX11 tyX11_ok nmX11 hown hK hP hD hS 0 rfl rfl 0 (by decide) (ht _ zr_39) (fun _ h9 => h9) rfl (by decide +kernel) rfl rfl (Nat.le_of_ble_eq_true rfl) dX11_lies_2 (fun H locs hP hD hS => ?_)
  have hP : va_P (dC, dI) zz_cls [zr_o ad (0 : Int32) f_taped f_at f_behind f_size f_kind f_number f_wrong f_wrongAt f_faultKind f_faultPlace f_reading f_toldWhy f_x f_standMany f_bestMany f_tail f_round1, (ad 2, .inl (dA 0, 2982, .inl b_all)), (ad 17, .inl (dA 0, 900, .inl b_reckoned)), (ad 18, .inl (dA 0, 6, .inl b_words)), (ad 32, .inl (dA 0, 2881, .inl b_row)), (ad 33, .inl (dA 0, 2880, .inl b_first))] H := hP
  have hD : va_D A [zr_o ad (0 : Int32) f_taped f_at f_behind f_size f_kind f_number f_wrong f_wrongAt f_faultKind f_faultPlace f_reading f_toldWhy f_x f_standMany f_bestMany f_tail f_round1, (ad 2, .inl (dA 0, 2982, .inl b_all)), (ad 17, .inl (dA 0, 900, .inl b_reckoned)), (ad 18, .inl (dA 0, 6, .inl b_words)), (ad 32, .inl (dA 0, 2881, .inl b_row)), (ad 33, .inl (dA 0, 2880, .inl b_first))] := hD
  refine lv_iload_n (pc := 5) hx hb dX11_lies_5 rfl (lv_at hl 1 rfl) ?_
  refine lv_i2l (pc := 6) hx hb dX11_lies_6 rfl ?_
  refine lv_lconst (v := (0 : Int64)) (pc := 7) hx hb dX11_lies_7 (by decide) ?_
  refine lv_ldc2 (v := (99999 : Int64)) (pc := 8) hx hb hown (ht _ zr_401) dX11_lies_8 ?_
  obtain ⟨v1, hv1, hf⟩ := zc_1 hf
  refine zw_Si (pc := 11) (wc := []) (wr := [zr_o ad (0 : Int32) f_taped f_at f_behind f_size f_kind f_number f_wrong f_wrongAt f_faultKind f_faultPlace f_reading f_toldWhy f_x f_standMany f_bestMany f_tail f_round1, (ad 2, .inl (dA 0, 2982, .inl b_all)), (ad 17, .inl (dA 0, 900, .inl b_reckoned)), (ad 18, .inl (dA 0, 6, .inl b_words)), (ad 32, .inl (dA 0, 2881, .inl b_row)), (ad 33, .inl (dA 0, 2880, .inl b_first))]) (w1 := []) (As := [.long (Int32.toInt64 p1), .long (0 : Int64), .long (99999 : Int64)]) (rest := []) ⟨hx, hb, hml, hown, ht⟩ (zt_X11_within l dC dI dA ad _ (Int32.toInt64 p1) (0 : Int64) (99999 : Int64) v1 hv1) (cwS 3 ht (zr_S zr_124 zr_125 zr_36 zr_0) rfl rfl rfl zk_X11_within ⟨Nat.le_of_ble_eq_true rfl, Nat.le_of_ble_eq_true rfl⟩) hK hP hD hS hA [] [0, 1, 2, 3, 4, 5] (by decide) (by decide) (by decide) rfl rfl rfl hl.1 (Nat.le_of_ble_eq_true rfl) dX11_lies_11 ⟨Nat.zero_le _, Nat.zero_le _⟩ rfl (fun H locs hP hD hS => ?_)
  have hP : va_P (dC, dI) zz_cls [zr_o ad (0 : Int32) f_taped f_at f_behind f_size f_kind f_number f_wrong f_wrongAt f_faultKind f_faultPlace f_reading f_toldWhy f_x f_standMany f_bestMany f_tail f_round1, (ad 2, .inl (dA 0, 2982, .inl b_all)), (ad 17, .inl (dA 0, 900, .inl b_reckoned)), (ad 18, .inl (dA 0, 6, .inl b_words)), (ad 32, .inl (dA 0, 2881, .inl b_row)), (ad 33, .inl (dA 0, 2880, .inl b_first))] H := hP
  have hD : va_D A [zr_o ad (0 : Int32) f_taped f_at f_behind f_size f_kind f_number f_wrong f_wrongAt f_faultKind f_faultPlace f_reading f_toldWhy f_x f_standMany f_bestMany f_tail f_round1, (ad 2, .inl (dA 0, 2982, .inl b_all)), (ad 17, .inl (dA 0, 900, .inl b_reckoned)), (ad 18, .inl (dA 0, 6, .inl b_words)), (ad 32, .inl (dA 0, 2881, .inl b_row)), (ad 33, .inl (dA 0, 2880, .inl b_first))] := hD
  refine lv_if_ne (tgt := 20) (pc := 14) hx hb dX11_lies_14 rfl (fun hc => ?_) (fun hc => ?_)
  · have hf := za_f hf hc
    refine lv_aload_n (pc := 20) hx hb dX11_lies_20 rfl (lv_at hl 0 rfl) ?_
    obtain ⟨v2, v3, a4, a5, a6, a7, hv2, hf⟩ := zc_6 hf
    refine zw_Vv (pc := 21) (wc := [zr_o ad (0 : Int32) f_taped f_at f_behind f_size f_kind f_number f_wrong f_wrongAt f_faultKind f_faultPlace f_reading f_toldWhy f_x f_standMany f_bestMany f_tail f_round1, (ad 2, .inl (dA 0, 2982, .inl b_all)), (ad 17, .inl (dA 0, 900, .inl b_reckoned)), (ad 18, .inl (dA 0, 6, .inl b_words)), (ad 32, .inl (dA 0, 2881, .inl b_row)), (ad 33, .inl (dA 0, 2880, .inl b_first))]) (wr := []) (w1 := [zr_o ad (0 : Int32) f_taped f_at f_behind f_size f_kind f_number f_wrong f_wrongAt f_faultKind f_faultPlace f_reading f_toldWhy f_x f_standMany f_bestMany v2 v3, (ad 2, .inl (dA 0, 2982, .inl b_all)), (ad 17, .inl (dA 0, 900, .inl a4)), (ad 18, .inl (dA 0, 6, .inl a5)), (ad 32, .inl (dA 0, 2881, .inl a6)), (ad 33, .inl (dA 0, 2880, .inl a7))]) (As := []) (rest := []) ⟨hx, hb, hml, hown, ht⟩ (zt_X11_laysRow l dC dI dA ad _ n (0 : Int32) f_taped f_at f_behind f_size f_kind f_number f_wrong f_wrongAt f_faultKind f_faultPlace f_reading f_toldWhy f_x f_standMany f_bestMany f_tail f_round1 b_all b_reckoned b_words b_row b_first v2 v3 a4 a5 a6 a7 hv2) (cwV 0 ht (zr_V zr_402 zr_403 zr_404 zr_36 zr_400) rfl rfl rfl zk_X11_laysRow ⟨Nat.le_of_ble_eq_true rfl, Nat.le_of_ble_eq_true rfl⟩) rfl rfl hK hP hD hS hA [0, 1, 2, 3, 4, 5] [] (by decide) (by decide) (by decide) rfl rfl rfl hl.1 (Nat.le_of_ble_eq_true rfl) dX11_lies_21 ⟨Nat.zero_le _, Nat.zero_le _⟩ rfl (fun H locs hP hD hS => ?_)
    have hP : va_P (dC, dI) zz_cls [zr_o ad (0 : Int32) f_taped f_at f_behind f_size f_kind f_number f_wrong f_wrongAt f_faultKind f_faultPlace f_reading f_toldWhy f_x f_standMany f_bestMany v2 v3, (ad 2, .inl (dA 0, 2982, .inl b_all)), (ad 17, .inl (dA 0, 900, .inl a4)), (ad 18, .inl (dA 0, 6, .inl a5)), (ad 32, .inl (dA 0, 2881, .inl a6)), (ad 33, .inl (dA 0, 2880, .inl a7))] H := hP
    have hD : va_D A [zr_o ad (0 : Int32) f_taped f_at f_behind f_size f_kind f_number f_wrong f_wrongAt f_faultKind f_faultPlace f_reading f_toldWhy f_x f_standMany f_bestMany v2 v3, (ad 2, .inl (dA 0, 2982, .inl b_all)), (ad 17, .inl (dA 0, 900, .inl a4)), (ad 18, .inl (dA 0, 6, .inl a5)), (ad 32, .inl (dA 0, 2881, .inl a6)), (ad 33, .inl (dA 0, 2880, .inl a7))] := hD
    refine lv_aload_n (pc := 24) hx hb dX11_lies_24 rfl (lv_at hl 0 rfl) ?_
    refine va_get (pc := 25) (D := (dC, dI)) (ci := 0) (v := .ref (ad 32)) (C := RX11) (T := TX11) (N := 42) hx hb ht zr_lay hown hK hP 0 rfl rfl 31 (by decide) (ht _ zr_25) (fun _ h9 => h9) rfl dX11_lies_25 ?_
    refine lv_iload_n (pc := 28) hx hb dX11_lies_28 rfl (lv_at hl 1 rfl) ?_
    refine lv_aload_n (pc := 29) hx hb dX11_lies_29 rfl (lv_at hl 0 rfl) ?_
    refine va_get (pc := 30) (D := (dC, dI)) (ci := 0) (v := .int v2) (C := RX11) (T := TX11) (N := 42) hx hb ht zr_lay hown hK hP 0 rfl rfl 33 (by decide) (ht _ zr_398) (fun _ h9 => h9) rfl dX11_lies_30 ?_
    obtain ⟨v9, hj, hf⟩ := zc_1 hf
    refine zj_join (pcJ := 56) (stk := [.int v9, .ref (ad 32)]) (X := fun H locs ls => lv_has ls 2 [] ∧ va_P (dC, dI) zz_cls [zr_o ad (0 : Int32) f_taped f_at f_behind f_size f_kind f_number f_wrong f_wrongAt f_faultKind f_faultPlace f_reading f_toldWhy f_x f_standMany f_bestMany v2 v3, (ad 2, .inl (dA 0, 2982, .inl b_all)), (ad 17, .inl (dA 0, 900, .inl a4)), (ad 18, .inl (dA 0, 6, .inl a5)), (ad 32, .inl (dA 0, 2881, .inl a6)), (ad 33, .inl (dA 0, 2880, .inl a7))] H ∧ va_D A [zr_o ad (0 : Int32) f_taped f_at f_behind f_size f_kind f_number f_wrong f_wrongAt f_faultKind f_faultPlace f_reading f_toldWhy f_x f_standMany f_bestMany v2 v3, (ad 2, .inl (dA 0, 2982, .inl b_all)), (ad 17, .inl (dA 0, 900, .inl a4)), (ad 18, .inl (dA 0, 6, .inl a5)), (ad 32, .inl (dA 0, 2881, .inl a6)), (ad 33, .inl (dA 0, 2880, .inl a7))] ∧ va_S A s.heap H locs) (fun H locs ls hX => ?_) (fun J56 => ?_)
    · obtain ⟨hl, hP, hD, hS⟩ := hX
      clear hj
      obtain ⟨v10, hv10, hf⟩ := zc_1 hf
      refine zw_iald (pc := 56) hx hb hK hP 4 0 rfl rfl hv10 dX11_lies_56 ?_
      obtain ⟨v11, hv11, hf⟩ := zc_1 hf
      refine zw_Si (pc := 57) (wc := []) (wr := [zr_o ad (0 : Int32) f_taped f_at f_behind f_size f_kind f_number f_wrong f_wrongAt f_faultKind f_faultPlace f_reading f_toldWhy f_x f_standMany f_bestMany v2 v3, (ad 2, .inl (dA 0, 2982, .inl b_all)), (ad 17, .inl (dA 0, 900, .inl a4)), (ad 18, .inl (dA 0, 6, .inl a5)), (ad 32, .inl (dA 0, 2881, .inl a6)), (ad 33, .inl (dA 0, 2880, .inl a7))]) (w1 := []) (As := [.int v10]) (rest := []) ⟨hx, hb, hml, hown, ht⟩ (zt_X11_rungIn l dC dI dA ad _ v10 v11 hv11) (cwS 1 ht (zr_S zr_217 zr_218 zr_36 zr_210) rfl rfl rfl zk_X11_rungIn ⟨Nat.le_of_ble_eq_true rfl, Nat.le_of_ble_eq_true rfl⟩) hK hP hD hS hA [] [0, 1, 2, 3, 4, 5] (by decide) (by decide) (by decide) rfl rfl rfl hl.1 (Nat.le_of_ble_eq_true rfl) dX11_lies_57 ⟨Nat.zero_le _, Nat.zero_le _⟩ rfl (fun H locs hP hD hS => ?_)
      have hP : va_P (dC, dI) zz_cls [zr_o ad (0 : Int32) f_taped f_at f_behind f_size f_kind f_number f_wrong f_wrongAt f_faultKind f_faultPlace f_reading f_toldWhy f_x f_standMany f_bestMany v2 v3, (ad 2, .inl (dA 0, 2982, .inl b_all)), (ad 17, .inl (dA 0, 900, .inl a4)), (ad 18, .inl (dA 0, 6, .inl a5)), (ad 32, .inl (dA 0, 2881, .inl a6)), (ad 33, .inl (dA 0, 2880, .inl a7))] H := hP
      have hD : va_D A [zr_o ad (0 : Int32) f_taped f_at f_behind f_size f_kind f_number f_wrong f_wrongAt f_faultKind f_faultPlace f_reading f_toldWhy f_x f_standMany f_bestMany v2 v3, (ad 2, .inl (dA 0, 2982, .inl b_all)), (ad 17, .inl (dA 0, 900, .inl a4)), (ad 18, .inl (dA 0, 6, .inl a5)), (ad 32, .inl (dA 0, 2881, .inl a6)), (ad 33, .inl (dA 0, 2880, .inl a7))] := hD
      obtain ⟨rfl, rfl, rfl, rfl, rfl, rfl, rfl, rfl⟩ := zi_8 hf
      exact W.iret (pc := 60) hx hb hr (fun t ht hW => ⟨⟨_, (), rfl, rfl, zz_Bi (by rw [ht]; exact hP) (va_K.moved hW.alike hK) (hD)⟩, hS.F ht⟩) hS.2.2 dX11_lies_60
    · clear hf
      have hf := hj
      clear hj
      refine lv_icmp_ge (tgt := 40) (pc := 33) hx hb dX11_lies_33 rfl (fun hc => ?_) (fun hc => ?_)
      · have hf := za_t hf hc
        refine lv_aload_n (pc := 40) hx hb dX11_lies_40 rfl (lv_at hl 0 rfl) ?_
        refine va_get (pc := 41) (D := (dC, dI)) (ci := 0) (v := .int v2) (C := RX11) (T := TX11) (N := 42) hx hb ht zr_lay hown hK hP 0 rfl rfl 33 (by decide) (ht _ zr_398) (fun _ h9 => h9) rfl dX11_lies_41 ?_
        refine lv_iload_n (pc := 44) hx hb dX11_lies_44 rfl (lv_at hl 1 rfl) ?_
        refine lv_aload_n (pc := 45) hx hb dX11_lies_45 rfl (lv_at hl 0 rfl) ?_
        refine va_get (pc := 46) (D := (dC, dI)) (ci := 0) (v := .int v2) (C := RX11) (T := TX11) (N := 42) hx hb ht zr_lay hown hK hP 0 rfl rfl 33 (by decide) (ht _ zr_398) (fun _ h9 => h9) rfl dX11_lies_46 ?_
        refine lv_isub (pc := 49) hx hb dX11_lies_49 ?_
        refine lv_aload_n (pc := 50) hx hb dX11_lies_50 rfl (lv_at hl 0 rfl) ?_
        refine va_get (pc := 51) (D := (dC, dI)) (ci := 0) (v := .int v3) (C := RX11) (T := TX11) (N := 42) hx hb ht zr_lay hown hK hP 0 rfl rfl 34 (by decide) (ht _ zr_399) (fun _ h9 => h9) rfl dX11_lies_51 ?_
        obtain ⟨v8, hv8, hf⟩ := zc_1 hf
        refine lv_irem (pc := 54) hx hb dX11_lies_54 (za_nzs hv8).2 ?_
        refine lv_iadd (pc := 55) hx hb dX11_lies_55 ?_
        obtain rfl := Option.some.inj hf
        exact J56 _ _ _ ⟨lv_sub hl [] rfl, hP, hD, hS⟩
      · have hf := za_f hf hc
        refine lv_iload_n (pc := 36) hx hb dX11_lies_36 rfl (lv_at hl 1 rfl) ?_
        refine lv_goto (tgt := 56) (pc := 37) hx hb dX11_lies_37 rfl ?_
        obtain rfl := Option.some.inj hf
        exact J56 _ _ _ ⟨lv_sub hl [] rfl, hP, hD, hS⟩
  · have hf := za_t hf hc
    refine lv_bipush (v := (-3 : Int32)) (pc := 17) hx hb dX11_lies_17 (by decide) ?_
    obtain ⟨rfl, rfl, rfl, rfl, rfl, rfl, rfl, rfl⟩ := zi_8 hf
    exact W.iret (pc := 19) hx hb hr (fun t ht hW => ⟨⟨_, (), rfl, rfl, zz_Bi (by rw [ht]; exact hP) (va_K.moved hW.alike hK) (hD)⟩, hS.F ht⟩) hS.2.2 dX11_lies_19

def zf_X11_round (n : Nat) (f_thrown : Int32) (f_tail : Int32) (f_round1 : Int32) (b_all : (Nat → Int32)) (b_reckoned : (Nat → Int32)) (b_words : (Nat → Int32)) (b_row : (Nat → Int32)) (b_first : (Nat → Int32)) (p1 : Int32) : Option (Int32 × Int32 × Int32 × Int32 × (Nat → Int32) × (Nat → Int32) × (Nat → Int32) × (Nat → Int32)) :=
  zd_1 (zf_X11_within (Int32.toInt64 p1) (0 : Int64) (1 : Int64)) (fun v1 =>
  if v1 = 0 then
    some ((-2 : Int32), (0 : Int32), f_tail, f_round1, b_reckoned, b_words, b_row, b_first)
  else
    zd_6 (zf_X11_laysRow n f_tail f_round1 b_all b_reckoned b_words b_row b_first) (fun v2 v3 a4 a5 a6 a7 =>
    if p1 = 0 then
      some (v2, (0 : Int32), v2, v3, a4, a5, a6, a7)
    else
      some (v3, (0 : Int32), v2, v3, a4, a5, a6, a7)))
theorem zk_X11_round : yX11_round.cls = RX11 ∧ yX11_round.cls ≠ "java/lang/invoke/MethodHandle" ∧ yX11_round.cls ≠ "java/lang/invoke/VarHandle" ∧ (parseMethodDescriptor yX11_round.desc).map (fun d => d.parameters.length) = some 1 := by decide +kernel
set_option maxHeartbeats 4000000 in
set_option maxRecDepth 100000 in
theorem zt_X11_round (l : Launch) (dC : Nat → ClassId) (dI : Nat → Nat → Nat) (dA : Nat → ClassId) (ad : Nat → Nat) (sz : Nat) (n : Nat) (f_thrown f_taped f_at f_behind f_size f_kind f_number f_wrong f_wrongAt f_faultKind f_faultPlace f_reading f_toldWhy f_x f_standMany f_bestMany f_tail f_round1 : Int32) (b_all : (Nat → Int32)) (b_reckoned : (Nat → Int32)) (b_words : (Nat → Int32)) (b_row : (Nat → Int32)) (b_first : (Nat → Int32)) (p1 : Int32) (r0 : Int32) (o1 : Int32) (o2 : Int32) (o3 : Int32) (o4 : (Nat → Int32)) (o5 : (Nat → Int32)) (o6 : (Nat → Int32)) (o7 : (Nat → Int32)) (hf : zf_X11_round n f_thrown f_tail f_round1 b_all b_reckoned b_words b_row b_first p1 = some (r0, o1, o2, o3, o4, o5, o6, o7)) : Met l yX11_round (.code yX11_round cX11_round 2 (some .int) :: zr_T) ({ frames := 5, cells := 0, slots := 0, locals := 122 }) (va_Pc [.ref (ad 0), .int p1] (zz_M dC dI dA [zr_o ad f_thrown f_taped f_at f_behind f_size f_kind f_number f_wrong f_wrongAt f_faultKind f_faultPlace f_reading f_toldWhy f_x f_standMany f_bestMany f_tail f_round1, (ad 2, .inl (dA 0, 2982, .inl b_all)), (ad 17, .inl (dA 0, 900, .inl b_reckoned)), (ad 18, .inl (dA 0, 6, .inl b_words)), (ad 32, .inl (dA 0, 2881, .inl b_row)), (ad 33, .inl (dA 0, 2880, .inl b_first))] sz)) (va_Qi (fun (r : Int32) (_ : Unit) => r = r0) (fun _ t => zz_B dC dI dA (va_A [zr_o ad f_thrown f_taped f_at f_behind f_size f_kind f_number f_wrong f_wrongAt f_faultKind f_faultPlace f_reading f_toldWhy f_x f_standMany f_bestMany f_tail f_round1, (ad 2, .inl (dA 0, 2982, .inl b_all)), (ad 17, .inl (dA 0, 900, .inl b_reckoned)), (ad 18, .inl (dA 0, 6, .inl b_words)), (ad 32, .inl (dA 0, 2881, .inl b_row)), (ad 33, .inl (dA 0, 2880, .inl b_first))] sz) [zr_o ad o1 f_taped f_at f_behind f_size f_kind f_number f_wrong f_wrongAt f_faultKind f_faultPlace f_reading f_toldWhy f_x f_standMany f_bestMany o2 o3, (ad 2, .inl (dA 0, 2982, .inl b_all)), (ad 17, .inl (dA 0, 900, .inl o4)), (ad 18, .inl (dA 0, 6, .inl o5)), (ad 32, .inl (dA 0, 2881, .inl o6)), (ad 33, .inl (dA 0, 2880, .inl o7))] t) (va_A [zr_o ad f_thrown f_taped f_at f_behind f_size f_kind f_number f_wrong f_wrongAt f_faultKind f_faultPlace f_reading f_toldWhy f_x f_standMany f_bestMany f_tail f_round1, (ad 2, .inl (dA 0, 2982, .inl b_all)), (ad 17, .inl (dA 0, 900, .inl b_reckoned)), (ad 18, .inl (dA 0, 6, .inl b_words)), (ad 32, .inl (dA 0, 2881, .inl b_row)), (ad 33, .inl (dA 0, 2880, .inl b_first))] sz)) 0 0 (va_A [zr_o ad f_thrown f_taped f_at f_behind f_size f_kind f_number f_wrong f_wrongAt f_faultKind f_faultPlace f_reading f_toldWhy f_x f_standMany f_bestMany f_tail f_round1, (ad 2, .inl (dA 0, 2982, .inl b_all)), (ad 17, .inl (dA 0, 900, .inl b_reckoned)), (ad 18, .inl (dA 0, 6, .inl b_words)), (ad 32, .inl (dA 0, 2881, .inl b_row)), (ad 33, .inl (dA 0, 2880, .inl b_first))] sz) := by
  unfold zf_X11_round at hf
  refine Met.ofW (cc := cX11_round) (maxL := 2) (ret := (some .int)) (by decide) rfl ?_
  intro p e s m args below meth c s₁ B hml hv
  obtain ⟨rfl, hsz, hP, hK, hD0⟩ := hv
  have hx := B.exec
  have hb := B.bytes
  have hr := B.returns
  have ht : ∀ w ∈ zr_T, w.before ([.ref (ad 0), .int p1] : List Value).toArray s = true := fun w hw => atoms_spec (ws := .code yX11_round cX11_round 2 (some .int) :: zr_T) B.pre w (List.mem_cons_of_mem _ hw)
  have hown : s.vm.findClass RX11 = some m.cls := findClass_of_methodNamed B.named
  have hlocks := B.notSynchronized
  subst hsz
  have hD := hD0.self (sz := s.heap.size)
  generalize hAe : va_A [zr_o ad f_thrown f_taped f_at f_behind f_size f_kind f_number f_wrong f_wrongAt f_faultKind f_faultPlace f_reading f_toldWhy f_x f_standMany f_bestMany f_tail f_round1, (ad 2, .inl (dA 0, 2982, .inl b_all)), (ad 17, .inl (dA 0, 900, .inl b_reckoned)), (ad 18, .inl (dA 0, 6, .inl b_words)), (ad 32, .inl (dA 0, 2881, .inl b_row)), (ad 33, .inl (dA 0, 2880, .inl b_first))] s.heap.size = A at hD ⊢
  have hA : ∀ q : Nat, s.heap.size ≤ q → A q := fun q h => by rw [← hAe]; exact Or.inr h
  clear hAe hD0
  have hS : va_S A s.heap s.heap [] := va_S.rf
  have hl := lv_entry ([.ref (ad 0), .int p1]) (n := 2) (Nat.le_of_ble_eq_true rfl)
  rw [lg_entry_eq]
  generalize (lg_sl ([.ref (ad 0), .int p1]) ++ List.replicate (2 - (lg_sl ([.ref (ad 0), .int p1])).length) Slot.unset).toArray = ls at hl ⊢
  have hl : lv_has ls 2 [(0, .ref (ad 0)), (1, .int p1)] := hl
  refine lv_aload_n (pc := 0) hx hb dX11_round_0 rfl (lv_at hl 0 rfl) ?_
  refine lv_iconst (v := (0 : Int32)) (pc := 1) hx hb dX11_round_1 (by decide) ?_
  refine va_put (pc := 2) (D := (dC, dI)) (ci := 0) (v := .int (0 : Int32)) (ty := .int) (C := RX11) (T := TX11) (N := 42) hx hb ht zr_lay tyX11 tyX11_ok nmX11 hown hK hP hD hS 0 rfl rfl 0 (by decide) (ht _ zr_39) (fun _ h9 => h9) rfl (by decide +kernel) rfl rfl (Nat.le_of_ble_eq_true rfl) dX11_round_2 (fun H locs hP hD hS => ?_)
  have hP : va_P (dC, dI) zz_cls [zr_o ad (0 : Int32) f_taped f_at f_behind f_size f_kind f_number f_wrong f_wrongAt f_faultKind f_faultPlace f_reading f_toldWhy f_x f_standMany f_bestMany f_tail f_round1, (ad 2, .inl (dA 0, 2982, .inl b_all)), (ad 17, .inl (dA 0, 900, .inl b_reckoned)), (ad 18, .inl (dA 0, 6, .inl b_words)), (ad 32, .inl (dA 0, 2881, .inl b_row)), (ad 33, .inl (dA 0, 2880, .inl b_first))] H := hP
  have hD : va_D A [zr_o ad (0 : Int32) f_taped f_at f_behind f_size f_kind f_number f_wrong f_wrongAt f_faultKind f_faultPlace f_reading f_toldWhy f_x f_standMany f_bestMany f_tail f_round1, (ad 2, .inl (dA 0, 2982, .inl b_all)), (ad 17, .inl (dA 0, 900, .inl b_reckoned)), (ad 18, .inl (dA 0, 6, .inl b_words)), (ad 32, .inl (dA 0, 2881, .inl b_row)), (ad 33, .inl (dA 0, 2880, .inl b_first))] := hD
  refine lv_iload_n (pc := 5) hx hb dX11_round_5 rfl (lv_at hl 1 rfl) ?_
  refine lv_i2l (pc := 6) hx hb dX11_round_6 rfl ?_
  refine lv_lconst (v := (0 : Int64)) (pc := 7) hx hb dX11_round_7 (by decide) ?_
  refine lv_lconst (v := (1 : Int64)) (pc := 8) hx hb dX11_round_8 (by decide) ?_
  obtain ⟨v1, hv1, hf⟩ := zc_1 hf
  refine zw_Si (pc := 9) (wc := []) (wr := [zr_o ad (0 : Int32) f_taped f_at f_behind f_size f_kind f_number f_wrong f_wrongAt f_faultKind f_faultPlace f_reading f_toldWhy f_x f_standMany f_bestMany f_tail f_round1, (ad 2, .inl (dA 0, 2982, .inl b_all)), (ad 17, .inl (dA 0, 900, .inl b_reckoned)), (ad 18, .inl (dA 0, 6, .inl b_words)), (ad 32, .inl (dA 0, 2881, .inl b_row)), (ad 33, .inl (dA 0, 2880, .inl b_first))]) (w1 := []) (As := [.long (Int32.toInt64 p1), .long (0 : Int64), .long (1 : Int64)]) (rest := []) ⟨hx, hb, hml, hown, ht⟩ (zt_X11_within l dC dI dA ad _ (Int32.toInt64 p1) (0 : Int64) (1 : Int64) v1 hv1) (cwS 3 ht (zr_S zr_124 zr_125 zr_36 zr_0) rfl rfl rfl zk_X11_within ⟨Nat.le_of_ble_eq_true rfl, Nat.le_of_ble_eq_true rfl⟩) hK hP hD hS hA [] [0, 1, 2, 3, 4, 5] (by decide) (by decide) (by decide) rfl rfl rfl hl.1 (Nat.le_of_ble_eq_true rfl) dX11_round_9 ⟨Nat.zero_le _, Nat.zero_le _⟩ rfl (fun H locs hP hD hS => ?_)
  have hP : va_P (dC, dI) zz_cls [zr_o ad (0 : Int32) f_taped f_at f_behind f_size f_kind f_number f_wrong f_wrongAt f_faultKind f_faultPlace f_reading f_toldWhy f_x f_standMany f_bestMany f_tail f_round1, (ad 2, .inl (dA 0, 2982, .inl b_all)), (ad 17, .inl (dA 0, 900, .inl b_reckoned)), (ad 18, .inl (dA 0, 6, .inl b_words)), (ad 32, .inl (dA 0, 2881, .inl b_row)), (ad 33, .inl (dA 0, 2880, .inl b_first))] H := hP
  have hD : va_D A [zr_o ad (0 : Int32) f_taped f_at f_behind f_size f_kind f_number f_wrong f_wrongAt f_faultKind f_faultPlace f_reading f_toldWhy f_x f_standMany f_bestMany f_tail f_round1, (ad 2, .inl (dA 0, 2982, .inl b_all)), (ad 17, .inl (dA 0, 900, .inl b_reckoned)), (ad 18, .inl (dA 0, 6, .inl b_words)), (ad 32, .inl (dA 0, 2881, .inl b_row)), (ad 33, .inl (dA 0, 2880, .inl b_first))] := hD
  refine lv_if_ne (tgt := 18) (pc := 12) hx hb dX11_round_12 rfl (fun hc => ?_) (fun hc => ?_)
  · have hf := za_f hf hc
    refine lv_aload_n (pc := 18) hx hb dX11_round_18 rfl (lv_at hl 0 rfl) ?_
    obtain ⟨v2, v3, a4, a5, a6, a7, hv2, hf⟩ := zc_6 hf
    refine zw_Vv (pc := 19) (wc := [zr_o ad (0 : Int32) f_taped f_at f_behind f_size f_kind f_number f_wrong f_wrongAt f_faultKind f_faultPlace f_reading f_toldWhy f_x f_standMany f_bestMany f_tail f_round1, (ad 2, .inl (dA 0, 2982, .inl b_all)), (ad 17, .inl (dA 0, 900, .inl b_reckoned)), (ad 18, .inl (dA 0, 6, .inl b_words)), (ad 32, .inl (dA 0, 2881, .inl b_row)), (ad 33, .inl (dA 0, 2880, .inl b_first))]) (wr := []) (w1 := [zr_o ad (0 : Int32) f_taped f_at f_behind f_size f_kind f_number f_wrong f_wrongAt f_faultKind f_faultPlace f_reading f_toldWhy f_x f_standMany f_bestMany v2 v3, (ad 2, .inl (dA 0, 2982, .inl b_all)), (ad 17, .inl (dA 0, 900, .inl a4)), (ad 18, .inl (dA 0, 6, .inl a5)), (ad 32, .inl (dA 0, 2881, .inl a6)), (ad 33, .inl (dA 0, 2880, .inl a7))]) (As := []) (rest := []) ⟨hx, hb, hml, hown, ht⟩ (zt_X11_laysRow l dC dI dA ad _ n (0 : Int32) f_taped f_at f_behind f_size f_kind f_number f_wrong f_wrongAt f_faultKind f_faultPlace f_reading f_toldWhy f_x f_standMany f_bestMany f_tail f_round1 b_all b_reckoned b_words b_row b_first v2 v3 a4 a5 a6 a7 hv2) (cwV 0 ht (zr_V zr_402 zr_403 zr_404 zr_36 zr_400) rfl rfl rfl zk_X11_laysRow ⟨Nat.le_of_ble_eq_true rfl, Nat.le_of_ble_eq_true rfl⟩) rfl rfl hK hP hD hS hA [0, 1, 2, 3, 4, 5] [] (by decide) (by decide) (by decide) rfl rfl rfl hl.1 (Nat.le_of_ble_eq_true rfl) dX11_round_19 ⟨Nat.zero_le _, Nat.zero_le _⟩ rfl (fun H locs hP hD hS => ?_)
    have hP : va_P (dC, dI) zz_cls [zr_o ad (0 : Int32) f_taped f_at f_behind f_size f_kind f_number f_wrong f_wrongAt f_faultKind f_faultPlace f_reading f_toldWhy f_x f_standMany f_bestMany v2 v3, (ad 2, .inl (dA 0, 2982, .inl b_all)), (ad 17, .inl (dA 0, 900, .inl a4)), (ad 18, .inl (dA 0, 6, .inl a5)), (ad 32, .inl (dA 0, 2881, .inl a6)), (ad 33, .inl (dA 0, 2880, .inl a7))] H := hP
    have hD : va_D A [zr_o ad (0 : Int32) f_taped f_at f_behind f_size f_kind f_number f_wrong f_wrongAt f_faultKind f_faultPlace f_reading f_toldWhy f_x f_standMany f_bestMany v2 v3, (ad 2, .inl (dA 0, 2982, .inl b_all)), (ad 17, .inl (dA 0, 900, .inl a4)), (ad 18, .inl (dA 0, 6, .inl a5)), (ad 32, .inl (dA 0, 2881, .inl a6)), (ad 33, .inl (dA 0, 2880, .inl a7))] := hD
    refine lv_iload_n (pc := 22) hx hb dX11_round_22 rfl (lv_at hl 1 rfl) ?_
    refine lv_if_ne (tgt := 33) (pc := 23) hx hb dX11_round_23 rfl (fun hc => ?_) (fun hc => ?_)
    · have hf := za_f hf hc
      refine lv_aload_n (pc := 33) hx hb dX11_round_33 rfl (lv_at hl 0 rfl) ?_
      refine va_get (pc := 34) (D := (dC, dI)) (ci := 0) (v := .int v3) (C := RX11) (T := TX11) (N := 42) hx hb ht zr_lay hown hK hP 0 rfl rfl 34 (by decide) (ht _ zr_399) (fun _ h9 => h9) rfl dX11_round_34 ?_
      obtain ⟨rfl, rfl, rfl, rfl, rfl, rfl, rfl, rfl⟩ := zi_8 hf
      exact W.iret (pc := 37) hx hb hr (fun t ht hW => ⟨⟨_, (), rfl, rfl, zz_Bi (by rw [ht]; exact hP) (va_K.moved hW.alike hK) (hD)⟩, hS.F ht⟩) hS.2.2 dX11_round_37
    · have hf := za_t hf hc
      refine lv_aload_n (pc := 26) hx hb dX11_round_26 rfl (lv_at hl 0 rfl) ?_
      refine va_get (pc := 27) (D := (dC, dI)) (ci := 0) (v := .int v2) (C := RX11) (T := TX11) (N := 42) hx hb ht zr_lay hown hK hP 0 rfl rfl 33 (by decide) (ht _ zr_398) (fun _ h9 => h9) rfl dX11_round_27 ?_
      refine lv_goto (tgt := 37) (pc := 30) hx hb dX11_round_30 rfl ?_
      obtain ⟨rfl, rfl, rfl, rfl, rfl, rfl, rfl, rfl⟩ := zi_8 hf
      exact W.iret (pc := 37) hx hb hr (fun t ht hW => ⟨⟨_, (), rfl, rfl, zz_Bi (by rw [ht]; exact hP) (va_K.moved hW.alike hK) (hD)⟩, hS.F ht⟩) hS.2.2 dX11_round_37
  · have hf := za_t hf hc
    refine lv_bipush (v := (-2 : Int32)) (pc := 15) hx hb dX11_round_15 (by decide) ?_
    obtain ⟨rfl, rfl, rfl, rfl, rfl, rfl, rfl, rfl⟩ := zi_8 hf
    exact W.iret (pc := 17) hx hb hr (fun t ht hW => ⟨⟨_, (), rfl, rfl, zz_Bi (by rw [ht]; exact hP) (va_K.moved hW.alike hK) (hD)⟩, hS.F ht⟩) hS.2.2 dX11_round_17
