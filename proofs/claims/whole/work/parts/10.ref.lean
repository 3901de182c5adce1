def zb_X11_attempt_34 (v2 : Int32) (n : Nat) (b_all : (Nat → Int32)) (v5 : Int32) (v6 : Int32) (v7 : Int32) (a8 : (Nat → Int32)) (a9 : (Nat → Int32)) (a10 : (Nat → Int32)) : Option (Nat × Int32 × Int32 × Int32 × (Nat → Int32) × (Nat → Int32) × (Nat → Int32)) :=
  if (3 : Int32) ≤ v7 then
    some (1, v5, v6, v7, a8, a9, a10)
  else
    if v2 = 0 then
      some (1, v5, v6, v7, a8, a9, a10)
    else
      zd_4 (zf_X11_mostAlike n b_all a8 a9 a10 v7 v2) (fun v11 a12 a13 a14 =>
      zd_2 (
        if v11 < v6 then
          some (v7, v11)
        else
          some (v5, v6)) (fun v15 v16 =>
      zd_1 (some (v7 + (1 : Int32))) (fun v17 =>
      some (0, v15, v16, v17, a12, a13, a14))))
def zf_X11_attempt (n : Nat) (f_thrown : Int32) (b_all : (Nat → Int32)) (b_reckoned : (Nat → Int32)) (b_words : (Nat → Int32)) (b_standBy : (Nat → Int32)) (b_rowSort : (Nat → Int32)) (b_rowMany : (Nat → Int32)) (b_numbers : (Nat → Int64)) (p1 : Int32) : Option (Int32 × Int32 × (Nat → Int32) × (Nat → Int32) × (Nat → Int32)) :=
  zd_1 (zf_X11_noTired n b_rowSort b_rowMany b_numbers p1) (fun v1 =>
  if v1 = 0 then
    zd_3 (zf_X11_windsOf n b_all b_reckoned b_words b_rowMany b_numbers p1) (fun v2 a3 a4 =>
    zd_7 (za_it (fun v => zb_X11_attempt_34 v2 n b_all v.1 v.2.1 v.2.2.1 v.2.2.2.1 v.2.2.2.2.1 v.2.2.2.2.2) n ((-1 : Int32), (268435456 : Int32), (0 : Int32), a3, a4, b_standBy)) (fun g24 v18 v19 v20 a21 a22 a23 =>
    some (v18, (0 : Int32), a21, a22, a23)))
  else
    some (v1, (0 : Int32), b_reckoned, b_words, b_standBy))
theorem zk_X11_attempt : yX11_attempt.cls = RX11 ∧ yX11_attempt.cls ≠ "java/lang/invoke/MethodHandle" ∧ yX11_attempt.cls ≠ "java/lang/invoke/VarHandle" ∧ (parseMethodDescriptor yX11_attempt.desc).map (fun d => d.parameters.length) = some 1 := by decide +kernel
set_option maxHeartbeats 4000000 in
set_option maxRecDepth 100000 in
theorem zt_X11_attempt (l : Launch) (dC : Nat → ClassId) (dI : Nat → Nat → Nat) (dA : Nat → ClassId) (ad : Nat → Nat) (sz : Nat) (n : Nat) (f_thrown f_taped f_at f_behind f_size f_kind f_number f_wrong f_wrongAt f_faultKind f_faultPlace f_reading f_toldWhy f_x f_standMany f_bestMany f_tail f_round1 : Int32) (b_all : (Nat → Int32)) (b_reckoned : (Nat → Int32)) (b_words : (Nat → Int32)) (b_standBy : (Nat → Int32)) (b_rowSort : (Nat → Int32)) (b_rowMany : (Nat → Int32)) (b_numbers : (Nat → Int64)) (p1 : Int32) (r0 : Int32) (o1 : Int32) (o2 : (Nat → Int32)) (o3 : (Nat → Int32)) (o4 : (Nat → Int32)) (hf : zf_X11_attempt n f_thrown b_all b_reckoned b_words b_standBy b_rowSort b_rowMany b_numbers p1 = some (r0, o1, o2, o3, o4)) : Met l yX11_attempt (.code yX11_attempt cX11_attempt 8 (some .int) :: zr_T) ({ frames := 5, cells := 0, slots := 0, locals := 125 }) (va_Pc [.ref (ad 0), .int p1] (zz_M dC dI dA [zr_o ad f_thrown f_taped f_at f_behind f_size f_kind f_number f_wrong f_wrongAt f_faultKind f_faultPlace f_reading f_toldWhy f_x f_standMany f_bestMany f_tail f_round1, (ad 2, .inl (dA 0, 2982, .inl b_all)), (ad 17, .inl (dA 0, 900, .inl b_reckoned)), (ad 18, .inl (dA 0, 6, .inl b_words)), (ad 37, .inl (dA 0, 10, .inl b_standBy)), (ad 40, .inl (dA 0, 4, .inl b_rowSort)), (ad 41, .inl (dA 0, 4, .inl b_rowMany)), (ad 42, .inl (dA 1, 160, .inr (.inl b_numbers)))] sz)) (va_Qi (fun (r : Int32) (_ : Unit) => r = r0) (fun _ t => zz_B dC dI dA (va_A [zr_o ad f_thrown f_taped f_at f_behind f_size f_kind f_number f_wrong f_wrongAt f_faultKind f_faultPlace f_reading f_toldWhy f_x f_standMany f_bestMany f_tail f_round1, (ad 2, .inl (dA 0, 2982, .inl b_all)), (ad 17, .inl (dA 0, 900, .inl b_reckoned)), (ad 18, .inl (dA 0, 6, .inl b_words)), (ad 37, .inl (dA 0, 10, .inl b_standBy)), (ad 40, .inl (dA 0, 4, .inl b_rowSort)), (ad 41, .inl (dA 0, 4, .inl b_rowMany)), (ad 42, .inl (dA 1, 160, .inr (.inl b_numbers)))] sz) [zr_o ad o1 f_taped f_at f_behind f_size f_kind f_number f_wrong f_wrongAt f_faultKind f_faultPlace f_reading f_toldWhy f_x f_standMany f_bestMany f_tail f_round1, (ad 2, .inl (dA 0, 2982, .inl b_all)), (ad 17, .inl (dA 0, 900, .inl o2)), (ad 18, .inl (dA 0, 6, .inl o3)), (ad 37, .inl (dA 0, 10, .inl o4)), (ad 40, .inl (dA 0, 4, .inl b_rowSort)), (ad 41, .inl (dA 0, 4, .inl b_rowMany)), (ad 42, .inl (dA 1, 160, .inr (.inl b_numbers)))] t) (va_A [zr_o ad f_thrown f_taped f_at f_behind f_size f_kind f_number f_wrong f_wrongAt f_faultKind f_faultPlace f_reading f_toldWhy f_x f_standMany f_bestMany f_tail f_round1, (ad 2, .inl (dA 0, 2982, .inl b_all)), (ad 17, .inl (dA 0, 900, .inl b_reckoned)), (ad 18, .inl (dA 0, 6, .inl b_words)), (ad 37, .inl (dA 0, 10, .inl b_standBy)), (ad 40, .inl (dA 0, 4, .inl b_rowSort)), (ad 41, .inl (dA 0, 4, .inl b_rowMany)), (ad 42, .inl (dA 1, 160, .inr (.inl b_numbers)))] sz)) 0 0 (va_A [zr_o ad f_thrown f_taped f_at f_behind f_size f_kind f_number f_wrong f_wrongAt f_faultKind f_faultPlace f_reading f_toldWhy f_x f_standMany f_bestMany f_tail f_round1, (ad 2, .inl (dA 0, 2982, .inl b_all)), (ad 17, .inl (dA 0, 900, .inl b_reckoned)), (ad 18, .inl (dA 0, 6, .inl b_words)), (ad 37, .inl (dA 0, 10, .inl b_standBy)), (ad 40, .inl (dA 0, 4, .inl b_rowSort)), (ad 41, .inl (dA 0, 4, .inl b_rowMany)), (ad 42, .inl (dA 1, 160, .inr (.inl b_numbers)))] sz) := by
  unfold zf_X11_attempt at hf
  refine Met.ofW (cc := cX11_attempt) (maxL := 8) (ret := (some .int)) (by decide) rfl ?_
  intro p e s m args below meth c s₁ B hml hv
  obtain ⟨rfl, hsz, hP, hK, hD0⟩ := hv
  have hx := B.exec
  have hb := B.bytes
  have hr := B.returns
  have ht : ∀ w ∈ zr_T, w.before ([.ref (ad 0), .int p1] : List Value).toArray s = true := fun w hw => atoms_spec (ws := .code yX11_attempt cX11_attempt 8 (some .int) :: zr_T) B.pre w (List.mem_cons_of_mem _ hw)
  have hown : s.vm.findClass RX11 = some m.cls := findClass_of_methodNamed B.named
  have hlocks := B.notSynchronized
  subst hsz
  have hD := hD0.self (sz := s.heap.size)
  generalize hAe : va_A [zr_o ad f_thrown f_taped f_at f_behind f_size f_kind f_number f_wrong f_wrongAt f_faultKind f_faultPlace f_reading f_toldWhy f_x f_standMany f_bestMany f_tail f_round1, (ad 2, .inl (dA 0, 2982, .inl b_all)), (ad 17, .inl (dA 0, 900, .inl b_reckoned)), (ad 18, .inl (dA 0, 6, .inl b_words)), (ad 37, .inl (dA 0, 10, .inl b_standBy)), (ad 40, .inl (dA 0, 4, .inl b_rowSort)), (ad 41, .inl (dA 0, 4, .inl b_rowMany)), (ad 42, .inl (dA 1, 160, .inr (.inl b_numbers)))] s.heap.size = A at hD ⊢
  have hA : ∀ q : Nat, s.heap.size ≤ q → A q := fun q h => by rw [← hAe]; exact Or.inr h
  clear hAe hD0
  have hS : va_S A s.heap s.heap [] := va_S.rf
  have hl := lv_entry ([.ref (ad 0), .int p1]) (n := 8) (Nat.le_of_ble_eq_true rfl)
  rw [lg_entry_eq]
  generalize (lg_sl ([.ref (ad 0), .int p1]) ++ List.replicate (8 - (lg_sl ([.ref (ad 0), .int p1])).length) Slot.unset).toArray = ls at hl ⊢
  have hl : lv_has ls 8 [(0, .ref (ad 0)), (1, .int p1)] := hl
  refine lv_aload_n (pc := 0) hx hb dX11_attempt_0 rfl (lv_at hl 0 rfl) ?_
  refine lv_iconst (v := (0 : Int32)) (pc := 1) hx hb dX11_attempt_1 (by decide) ?_
  refine va_put (pc := 2) (D := (dC, dI)) (ci := 0) (v := .int (0 : Int32)) (ty := .int) (C := RX11) (T := TX11) (N := 42) hx hb ht zr_lay tyX11 tyX11_ok nmX11 hown hK hP hD hS 0 rfl rfl 0 (by decide) (ht _ zr_39) (fun _ h9 => h9) rfl (by decide +kernel) rfl rfl (Nat.le_of_ble_eq_true rfl) dX11_attempt_2 (fun H locs hP hD hS => ?_)
  have hP : va_P (dC, dI) zz_cls [zr_o ad (0 : Int32) f_taped f_at f_behind f_size f_kind f_number f_wrong f_wrongAt f_faultKind f_faultPlace f_reading f_toldWhy f_x f_standMany f_bestMany f_tail f_round1, (ad 2, .inl (dA 0, 2982, .inl b_all)), (ad 17, .inl (dA 0, 900, .inl b_reckoned)), (ad 18, .inl (dA 0, 6, .inl b_words)), (ad 37, .inl (dA 0, 10, .inl b_standBy)), (ad 40, .inl (dA 0, 4, .inl b_rowSort)), (ad 41, .inl (dA 0, 4, .inl b_rowMany)), (ad 42, .inl (dA 1, 160, .inr (.inl b_numbers)))] H := hP
  have hD : va_D A [zr_o ad (0 : Int32) f_taped f_at f_behind f_size f_kind f_number f_wrong f_wrongAt f_faultKind f_faultPlace f_reading f_toldWhy f_x f_standMany f_bestMany f_tail f_round1, (ad 2, .inl (dA 0, 2982, .inl b_all)), (ad 17, .inl (dA 0, 900, .inl b_reckoned)), (ad 18, .inl (dA 0, 6, .inl b_words)), (ad 37, .inl (dA 0, 10, .inl b_standBy)), (ad 40, .inl (dA 0, 4, .inl b_rowSort)), (ad 41, .inl (dA 0, 4, .inl b_rowMany)), (ad 42, .inl (dA 1, 160, .inr (.inl b_numbers)))] := hD
  refine lv_aload_n (pc := 5) hx hb dX11_attempt_5 rfl (lv_at hl 0 rfl) ?_
  refine lv_iload_n (pc := 6) hx hb dX11_attempt_6 rfl (lv_at hl 1 rfl) ?_
  obtain ⟨v1, hv1, hf⟩ := zc_1 hf
  refine zw_Vi (pc := 7) (wc := [zr_o ad (0 : Int32) f_taped f_at f_behind f_size f_kind f_number f_wrong f_wrongAt f_faultKind f_faultPlace f_reading f_toldWhy f_x f_standMany f_bestMany f_tail f_round1, (ad 40, .inl (dA 0, 4, .inl b_rowSort)), (ad 41, .inl (dA 0, 4, .inl b_rowMany)), (ad 42, .inl (dA 1, 160, .inr (.inl b_numbers)))]) (wr := [(ad 2, .inl (dA 0, 2982, .inl b_all)), (ad 17, .inl (dA 0, 900, .inl b_reckoned)), (ad 18, .inl (dA 0, 6, .inl b_words)), (ad 37, .inl (dA 0, 10, .inl b_standBy))]) (w1 := [zr_o ad (0 : Int32) f_taped f_at f_behind f_size f_kind f_number f_wrong f_wrongAt f_faultKind f_faultPlace f_reading f_toldWhy f_x f_standMany f_bestMany f_tail f_round1, (ad 40, .inl (dA 0, 4, .inl b_rowSort)), (ad 41, .inl (dA 0, 4, .inl b_rowMany)), (ad 42, .inl (dA 1, 160, .inr (.inl b_numbers)))]) (As := [.int p1]) (rest := []) ⟨hx, hb, hml, hown, ht⟩ (zt_X11_noTired l dC dI dA ad _ n (0 : Int32) f_taped f_at f_behind f_size f_kind f_number f_wrong f_wrongAt f_faultKind f_faultPlace f_reading f_toldWhy f_x f_standMany f_bestMany f_tail f_round1 b_rowSort b_rowMany b_numbers p1 v1 hv1) (cwV 1 ht (zr_V zr_429 zr_430 zr_431 zr_36 zr_425) rfl rfl rfl zk_X11_noTired ⟨Nat.le_of_ble_eq_true rfl, Nat.le_of_ble_eq_true rfl⟩) rfl rfl hK hP hD hS hA [0, 5, 6, 7] [1, 2, 3, 4] (by decide) (by decide) (by decide) rfl rfl rfl hl.1 (Nat.le_of_ble_eq_true rfl) dX11_attempt_7 ⟨Nat.zero_le _, Nat.zero_le _⟩ rfl (fun H locs hP hD hS => ?_)
  have hP : va_P (dC, dI) zz_cls [(ad 2, .inl (dA 0, 2982, .inl b_all)), (ad 17, .inl (dA 0, 900, .inl b_reckoned)), (ad 18, .inl (dA 0, 6, .inl b_words)), (ad 37, .inl (dA 0, 10, .inl b_standBy)), zr_o ad (0 : Int32) f_taped f_at f_behind f_size f_kind f_number f_wrong f_wrongAt f_faultKind f_faultPlace f_reading f_toldWhy f_x f_standMany f_bestMany f_tail f_round1, (ad 40, .inl (dA 0, 4, .inl b_rowSort)), (ad 41, .inl (dA 0, 4, .inl b_rowMany)), (ad 42, .inl (dA 1, 160, .inr (.inl b_numbers)))] H := hP
  have hD : va_D A [(ad 2, .inl (dA 0, 2982, .inl b_all)), (ad 17, .inl (dA 0, 900, .inl b_reckoned)), (ad 18, .inl (dA 0, 6, .inl b_words)), (ad 37, .inl (dA 0, 10, .inl b_standBy)), zr_o ad (0 : Int32) f_taped f_at f_behind f_size f_kind f_number f_wrong f_wrongAt f_faultKind f_faultPlace f_reading f_toldWhy f_x f_standMany f_bestMany f_tail f_round1, (ad 40, .inl (dA 0, 4, .inl b_rowSort)), (ad 41, .inl (dA 0, 4, .inl b_rowMany)), (ad 42, .inl (dA 1, 160, .inr (.inl b_numbers)))] := hD
  refine lv_istore_n (lv' := [(2, .int v1), (0, .ref (ad 0)), (1, .int p1)]) (pc := 10) hx hb dX11_attempt_10 rfl hl (by decide) rfl (fun ls hl => ?_)
  refine lv_iload_n (pc := 11) hx hb dX11_attempt_11 rfl (lv_at hl 0 rfl) ?_
  refine lv_if_eq (tgt := 17) (pc := 12) hx hb dX11_attempt_12 rfl (fun hc => ?_) (fun hc => ?_)
  · have hf := za_t hf hc
    refine lv_aload_n (pc := 17) hx hb dX11_attempt_17 rfl (lv_at hl 1 rfl) ?_
    refine lv_iload_n (pc := 18) hx hb dX11_attempt_18 rfl (lv_at hl 2 rfl) ?_
    obtain ⟨v2, a3, a4, hv2, hf⟩ := zc_3 hf
    refine zw_Vi (pc := 19) (wc := [zr_o ad (0 : Int32) f_taped f_at f_behind f_size f_kind f_number f_wrong f_wrongAt f_faultKind f_faultPlace f_reading f_toldWhy f_x f_standMany f_bestMany f_tail f_round1, (ad 2, .inl (dA 0, 2982, .inl b_all)), (ad 17, .inl (dA 0, 900, .inl b_reckoned)), (ad 18, .inl (dA 0, 6, .inl b_words)), (ad 41, .inl (dA 0, 4, .inl b_rowMany)), (ad 42, .inl (dA 1, 160, .inr (.inl b_numbers)))]) (wr := [(ad 37, .inl (dA 0, 10, .inl b_standBy)), (ad 40, .inl (dA 0, 4, .inl b_rowSort))]) (w1 := [zr_o ad (0 : Int32) f_taped f_at f_behind f_size f_kind f_number f_wrong f_wrongAt f_faultKind f_faultPlace f_reading f_toldWhy f_x f_standMany f_bestMany f_tail f_round1, (ad 2, .inl (dA 0, 2982, .inl b_all)), (ad 17, .inl (dA 0, 900, .inl a3)), (ad 18, .inl (dA 0, 6, .inl a4)), (ad 41, .inl (dA 0, 4, .inl b_rowMany)), (ad 42, .inl (dA 1, 160, .inr (.inl b_numbers)))]) (As := [.int p1]) (rest := []) ⟨hx, hb, hml, hown, ht⟩ (zt_X11_windsOf l dC dI dA ad _ n (0 : Int32) f_taped f_at f_behind f_size f_kind f_number f_wrong f_wrongAt f_faultKind f_faultPlace f_reading f_toldWhy f_x f_standMany f_bestMany f_tail f_round1 b_all b_reckoned b_words b_rowMany b_numbers p1 v2 a3 a4 hv2) (cwV 1 ht (zr_V zr_432 zr_433 zr_434 zr_36 zr_428) rfl rfl rfl zk_X11_windsOf ⟨Nat.le_of_ble_eq_true rfl, Nat.le_of_ble_eq_true rfl⟩) rfl rfl hK hP hD hS hA [4, 0, 1, 2, 6, 7] [3, 5] (by decide) (by decide) (by decide) rfl rfl rfl hl.1 (Nat.le_of_ble_eq_true rfl) dX11_attempt_19 ⟨Nat.zero_le _, Nat.zero_le _⟩ rfl (fun H locs hP hD hS => ?_)
    have hP : va_P (dC, dI) zz_cls [(ad 37, .inl (dA 0, 10, .inl b_standBy)), (ad 40, .inl (dA 0, 4, .inl b_rowSort)), zr_o ad (0 : Int32) f_taped f_at f_behind f_size f_kind f_number f_wrong f_wrongAt f_faultKind f_faultPlace f_reading f_toldWhy f_x f_standMany f_bestMany f_tail f_round1, (ad 2, .inl (dA 0, 2982, .inl b_all)), (ad 17, .inl (dA 0, 900, .inl a3)), (ad 18, .inl (dA 0, 6, .inl a4)), (ad 41, .inl (dA 0, 4, .inl b_rowMany)), (ad 42, .inl (dA 1, 160, .inr (.inl b_numbers)))] H := hP
    have hD : va_D A [(ad 37, .inl (dA 0, 10, .inl b_standBy)), (ad 40, .inl (dA 0, 4, .inl b_rowSort)), zr_o ad (0 : Int32) f_taped f_at f_behind f_size f_kind f_number f_wrong f_wrongAt f_faultKind f_faultPlace f_reading f_toldWhy f_x f_standMany f_bestMany f_tail f_round1, (ad 2, .inl (dA 0, 2982, .inl b_all)), (ad 17, .inl (dA 0, 900, .inl a3)), (ad 18, .inl (dA 0, 6, .inl a4)), (ad 41, .inl (dA 0, 4, .inl b_rowMany)), (ad 42, .inl (dA 1, 160, .inr (.inl b_numbers)))] := hD
    refine lv_istore_n (lv' := [(3, .int v2), (2, .int v1), (0, .ref (ad 0)), (1, .int p1)]) (pc := 22) hx hb dX11_attempt_22 rfl hl (by decide) rfl (fun ls hl => ?_)
    refine lv_iconst (v := (-1 : Int32)) (pc := 23) hx hb dX11_attempt_23 (by decide) ?_
    refine lv_istore (lv' := [(4, .int (-1 : Int32)), (3, .int v2), (2, .int v1), (0, .ref (ad 0)), (1, .int p1)]) (pc := 24) hx hb dX11_attempt_24 hl (by decide) rfl (fun ls hl => ?_)
    refine lv_ldcw (v := (268435456 : Int32)) (pc := 26) hx hb hown (ht _ zr_353) dX11_attempt_26 ?_
    refine lv_istore (lv' := [(5, .int (268435456 : Int32)), (4, .int (-1 : Int32)), (3, .int v2), (2, .int v1), (0, .ref (ad 0)), (1, .int p1)]) (pc := 29) hx hb dX11_attempt_29 hl (by decide) rfl (fun ls hl => ?_)
    refine lv_iconst (v := (0 : Int32)) (pc := 31) hx hb dX11_attempt_31 (by decide) ?_
    refine lv_istore (lv' := [(6, .int (0 : Int32)), (5, .int (268435456 : Int32)), (4, .int (-1 : Int32)), (3, .int v2), (2, .int v1), (0, .ref (ad 0)), (1, .int p1)]) (pc := 32) hx hb dX11_attempt_32 hl (by decide) rfl (fun ls hl => ?_)
    obtain ⟨g24, v18, v19, v20, a21, a22, a23, hj, hf⟩ := zc_7 hf
    refine zj_join (pcJ := 77) (stk := []) (X := fun H locs ls => lv_has ls 8 [(4, .int v18)] ∧ va_P (dC, dI) zz_cls [zr_o ad (0 : Int32) f_taped f_at f_behind f_size f_kind f_number f_wrong f_wrongAt f_faultKind f_faultPlace f_reading f_toldWhy f_x f_standMany f_bestMany f_tail f_round1, (ad 2, .inl (dA 0, 2982, .inl b_all)), (ad 17, .inl (dA 0, 900, .inl a21)), (ad 18, .inl (dA 0, 6, .inl a22)), (ad 37, .inl (dA 0, 10, .inl a23)), (ad 40, .inl (dA 0, 4, .inl b_rowSort)), (ad 41, .inl (dA 0, 4, .inl b_rowMany)), (ad 42, .inl (dA 1, 160, .inr (.inl b_numbers)))] H ∧ va_D A [zr_o ad (0 : Int32) f_taped f_at f_behind f_size f_kind f_number f_wrong f_wrongAt f_faultKind f_faultPlace f_reading f_toldWhy f_x f_standMany f_bestMany f_tail f_round1, (ad 2, .inl (dA 0, 2982, .inl b_all)), (ad 17, .inl (dA 0, 900, .inl a21)), (ad 18, .inl (dA 0, 6, .inl a22)), (ad 37, .inl (dA 0, 10, .inl a23)), (ad 40, .inl (dA 0, 4, .inl b_rowSort)), (ad 41, .inl (dA 0, 4, .inl b_rowMany)), (ad 42, .inl (dA 1, 160, .inr (.inl b_numbers)))] ∧ va_S A s.heap H locs) (fun H locs ls hX => ?_) (fun E77 => ?_)
    · obtain ⟨hl, hP, hD, hS⟩ := hX
      clear hj
      refine lv_iload (pc := 77) hx hb dX11_attempt_77 (lv_at hl 0 rfl) ?_
      obtain ⟨rfl, rfl, rfl, rfl, rfl⟩ := zi_5 hf
      exact W.iret (pc := 79) hx hb hr (fun t ht hW => ⟨⟨_, (), rfl, rfl, zz_Bi (by rw [ht]; exact hP) (va_K.moved hW.alike hK) (hD)⟩, hS.F ht⟩) hS.2.2 dX11_attempt_79
    clear hf
    refine zw_loop (pcH := 34) (X := fun v H locs ls => lv_has ls 8 [(0, .ref (ad 0)), (3, .int v2), (4, .int v.1), (5, .int v.2.1), (6, .int v.2.2.1)] ∧ va_P (dC, dI) zz_cls [zr_o ad (0 : Int32) f_taped f_at f_behind f_size f_kind f_number f_wrong f_wrongAt f_faultKind f_faultPlace f_reading f_toldWhy f_x f_standMany f_bestMany f_tail f_round1, (ad 2, .inl (dA 0, 2982, .inl b_all)), (ad 17, .inl (dA 0, 900, .inl v.2.2.2.1)), (ad 18, .inl (dA 0, 6, .inl v.2.2.2.2.1)), (ad 37, .inl (dA 0, 10, .inl v.2.2.2.2.2)), (ad 40, .inl (dA 0, 4, .inl b_rowSort)), (ad 41, .inl (dA 0, 4, .inl b_rowMany)), (ad 42, .inl (dA 1, 160, .inr (.inl b_numbers)))] H ∧ va_D A [zr_o ad (0 : Int32) f_taped f_at f_behind f_size f_kind f_number f_wrong f_wrongAt f_faultKind f_faultPlace f_reading f_toldWhy f_x f_standMany f_bestMany f_tail f_round1, (ad 2, .inl (dA 0, 2982, .inl b_all)), (ad 17, .inl (dA 0, 900, .inl v.2.2.2.1)), (ad 18, .inl (dA 0, 6, .inl v.2.2.2.2.1)), (ad 37, .inl (dA 0, 10, .inl v.2.2.2.2.2)), (ad 40, .inl (dA 0, 4, .inl b_rowSort)), (ad 41, .inl (dA 0, 4, .inl b_rowMany)), (ad 42, .inl (dA 1, 160, .inr (.inl b_numbers)))] ∧ va_S A s.heap H locs) hj (fun v w hf ih ex H locs ls hX => ?_) _ _ _ ⟨lv_sub hl [5, 3, 2, 1, 0] rfl, hP.sub [2, 3, 4, 5, 0, 1, 6, 7] rfl, hD.sub [2, 3, 4, 5, 0, 1, 6, 7] (by decide) rfl, hS⟩
    clear hj
    obtain ⟨v5, v6, v7, a8, a9, a10⟩ := v
    obtain ⟨hl, hP, hD, hS⟩ := hX
    have hl : lv_has ls 8 [(0, .ref (ad 0)), (3, .int v2), (4, .int v5), (5, .int v6), (6, .int v7)] := hl
    have hP : va_P (dC, dI) zz_cls [zr_o ad (0 : Int32) f_taped f_at f_behind f_size f_kind f_number f_wrong f_wrongAt f_faultKind f_faultPlace f_reading f_toldWhy f_x f_standMany f_bestMany f_tail f_round1, (ad 2, .inl (dA 0, 2982, .inl b_all)), (ad 17, .inl (dA 0, 900, .inl a8)), (ad 18, .inl (dA 0, 6, .inl a9)), (ad 37, .inl (dA 0, 10, .inl a10)), (ad 40, .inl (dA 0, 4, .inl b_rowSort)), (ad 41, .inl (dA 0, 4, .inl b_rowMany)), (ad 42, .inl (dA 1, 160, .inr (.inl b_numbers)))] H := hP
    have hD : va_D A [zr_o ad (0 : Int32) f_taped f_at f_behind f_size f_kind f_number f_wrong f_wrongAt f_faultKind f_faultPlace f_reading f_toldWhy f_x f_standMany f_bestMany f_tail f_round1, (ad 2, .inl (dA 0, 2982, .inl b_all)), (ad 17, .inl (dA 0, 900, .inl a8)), (ad 18, .inl (dA 0, 6, .inl a9)), (ad 37, .inl (dA 0, 10, .inl a10)), (ad 40, .inl (dA 0, 4, .inl b_rowSort)), (ad 41, .inl (dA 0, 4, .inl b_rowMany)), (ad 42, .inl (dA 1, 160, .inr (.inl b_numbers)))] := hD
    replace hf : zb_X11_attempt_34 v2 n b_all v5 v6 v7 a8 a9 a10 = some w := hf
    unfold zb_X11_attempt_34 at hf
    refine lv_iload (pc := 34) hx hb dX11_attempt_34 (lv_at hl 4 rfl) ?_
    refine lv_iconst (v := (3 : Int32)) (pc := 36) hx hb dX11_attempt_36 (by decide) ?_
    refine lv_icmp_ge (tgt := 77) (pc := 37) hx hb dX11_attempt_37 rfl (fun hc => ?_) (fun hc => ?_)
    · have hf := za_t hf hc
      obtain rfl := Option.some.inj hf
      obtain ⟨rfl, rfl, rfl, rfl, rfl, rfl, rfl⟩ := zp_7 (ex (show ¬ (1 : Nat) = 0 by decide))
      exact E77 _ _ _ ⟨lv_sub hl [2] rfl, hP, hD, hS⟩
    · have hf := za_f hf hc
      refine lv_iload_n (pc := 40) hx hb dX11_attempt_40 rfl (lv_at hl 1 rfl) ?_
      refine lv_if_eq (tgt := 77) (pc := 41) hx hb dX11_attempt_41 rfl (fun hc => ?_) (fun hc => ?_)
      · have hf := za_t hf hc
        obtain rfl := Option.some.inj hf
        obtain ⟨rfl, rfl, rfl, rfl, rfl, rfl, rfl⟩ := zp_7 (ex (show ¬ (1 : Nat) = 0 by decide))
        exact E77 _ _ _ ⟨lv_sub hl [2] rfl, hP, hD, hS⟩
      · have hf := za_f hf hc
        refine lv_aload_n (pc := 44) hx hb dX11_attempt_44 rfl (lv_at hl 0 rfl) ?_
        refine lv_iload (pc := 45) hx hb dX11_attempt_45 (lv_at hl 4 rfl) ?_
        refine lv_iload_n (pc := 47) hx hb dX11_attempt_47 rfl (lv_at hl 1 rfl) ?_
        obtain ⟨v11, a12, a13, a14, hv11, hf⟩ := zc_4 hf
        refine zw_Vi (pc := 48) (wc := [zr_o ad (0 : Int32) f_taped f_at f_behind f_size f_kind f_number f_wrong f_wrongAt f_faultKind f_faultPlace f_reading f_toldWhy f_x f_standMany f_bestMany f_tail f_round1, (ad 2, .inl (dA 0, 2982, .inl b_all)), (ad 17, .inl (dA 0, 900, .inl a8)), (ad 18, .inl (dA 0, 6, .inl a9)), (ad 37, .inl (dA 0, 10, .inl a10))]) (wr := [(ad 40, .inl (dA 0, 4, .inl b_rowSort)), (ad 41, .inl (dA 0, 4, .inl b_rowMany)), (ad 42, .inl (dA 1, 160, .inr (.inl b_numbers)))]) (w1 := [zr_o ad (0 : Int32) f_taped f_at f_behind f_size f_kind f_number f_wrong f_wrongAt f_faultKind f_faultPlace f_reading f_toldWhy f_x f_standMany f_bestMany f_tail f_round1, (ad 2, .inl (dA 0, 2982, .inl b_all)), (ad 17, .inl (dA 0, 900, .inl a12)), (ad 18, .inl (dA 0, 6, .inl a13)), (ad 37, .inl (dA 0, 10, .inl a14))]) (As := [.int v7, .int v2]) (rest := []) ⟨hx, hb, hml, hown, ht⟩ (zt_X11_mostAlike l dC dI dA ad _ n (0 : Int32) f_taped f_at f_behind f_size f_kind f_number f_wrong f_wrongAt f_faultKind f_faultPlace f_reading f_toldWhy f_x f_standMany f_bestMany f_tail f_round1 b_all a8 a9 a10 v7 v2 v11 a12 a13 a14 hv11) (cwV 2 ht (zr_V zr_437 zr_438 zr_439 zr_36 zr_436) rfl rfl rfl zk_X11_mostAlike ⟨Nat.le_of_ble_eq_true rfl, Nat.le_of_ble_eq_true rfl⟩) rfl rfl hK hP hD hS hA [0, 1, 2, 3, 4] [5, 6, 7] (by decide) (by decide) (by decide) rfl rfl rfl hl.1 (Nat.le_of_ble_eq_true rfl) dX11_attempt_48 ⟨Nat.zero_le _, Nat.zero_le _⟩ rfl (fun H locs hP hD hS => ?_)
        have hP : va_P (dC, dI) zz_cls [(ad 40, .inl (dA 0, 4, .inl b_rowSort)), (ad 41, .inl (dA 0, 4, .inl b_rowMany)), (ad 42, .inl (dA 1, 160, .inr (.inl b_numbers))), zr_o ad (0 : Int32) f_taped f_at f_behind f_size f_kind f_number f_wrong f_wrongAt f_faultKind f_faultPlace f_reading f_toldWhy f_x f_standMany f_bestMany f_tail f_round1, (ad 2, .inl (dA 0, 2982, .inl b_all)), (ad 17, .inl (dA 0, 900, .inl a12)), (ad 18, .inl (dA 0, 6, .inl a13)), (ad 37, .inl (dA 0, 10, .inl a14))] H := hP
        have hD : va_D A [(ad 40, .inl (dA 0, 4, .inl b_rowSort)), (ad 41, .inl (dA 0, 4, .inl b_rowMany)), (ad 42, .inl (dA 1, 160, .inr (.inl b_numbers))), zr_o ad (0 : Int32) f_taped f_at f_behind f_size f_kind f_number f_wrong f_wrongAt f_faultKind f_faultPlace f_reading f_toldWhy f_x f_standMany f_bestMany f_tail f_round1, (ad 2, .inl (dA 0, 2982, .inl b_all)), (ad 17, .inl (dA 0, 900, .inl a12)), (ad 18, .inl (dA 0, 6, .inl a13)), (ad 37, .inl (dA 0, 10, .inl a14))] := hD
        refine lv_istore (lv' := [(7, .int v11), (0, .ref (ad 0)), (3, .int v2), (4, .int v5), (5, .int v6), (6, .int v7)]) (pc := 51) hx hb dX11_attempt_51 hl (by decide) rfl (fun ls hl => ?_)
        refine lv_iload (pc := 53) hx hb dX11_attempt_53 (lv_at hl 0 rfl) ?_
        refine lv_iload (pc := 55) hx hb dX11_attempt_55 (lv_at hl 4 rfl) ?_
        obtain ⟨v15, v16, hj, hf⟩ := zc_2 hf
        refine zj_join (pcJ := 71) (stk := []) (X := fun H locs ls => lv_has ls 8 [(0, .ref (ad 0)), (3, .int v2), (4, .int v15), (5, .int v16), (6, .int v7)] ∧ va_P (dC, dI) zz_cls [zr_o ad (0 : Int32) f_taped f_at f_behind f_size f_kind f_number f_wrong f_wrongAt f_faultKind f_faultPlace f_reading f_toldWhy f_x f_standMany f_bestMany f_tail f_round1, (ad 2, .inl (dA 0, 2982, .inl b_all)), (ad 17, .inl (dA 0, 900, .inl a12)), (ad 18, .inl (dA 0, 6, .inl a13)), (ad 37, .inl (dA 0, 10, .inl a14)), (ad 40, .inl (dA 0, 4, .inl b_rowSort)), (ad 41, .inl (dA 0, 4, .inl b_rowMany)), (ad 42, .inl (dA 1, 160, .inr (.inl b_numbers)))] H ∧ va_D A [zr_o ad (0 : Int32) f_taped f_at f_behind f_size f_kind f_number f_wrong f_wrongAt f_faultKind f_faultPlace f_reading f_toldWhy f_x f_standMany f_bestMany f_tail f_round1, (ad 2, .inl (dA 0, 2982, .inl b_all)), (ad 17, .inl (dA 0, 900, .inl a12)), (ad 18, .inl (dA 0, 6, .inl a13)), (ad 37, .inl (dA 0, 10, .inl a14)), (ad 40, .inl (dA 0, 4, .inl b_rowSort)), (ad 41, .inl (dA 0, 4, .inl b_rowMany)), (ad 42, .inl (dA 1, 160, .inr (.inl b_numbers)))] ∧ va_S A s.heap H locs) (fun H locs ls hX => ?_) (fun J71 => ?_)
        · obtain ⟨hl, hP, hD, hS⟩ := hX
          clear hj
          obtain ⟨v17, hv17, hf⟩ := zc_1 hf
          refine lv_iinc (v := v17) (lv' := [(6, .int v17), (0, .ref (ad 0)), (3, .int v2), (4, .int v15), (5, .int v16)]) (k := 4) (pc := 71) hx hb dX11_attempt_71 hl rfl (Option.some.inj hv17) (by decide) rfl (fun ls hl => ?_)
          refine lv_goto (tgt := 34) (pc := 74) hx hb dX11_attempt_74 rfl ?_
          obtain rfl := Option.some.inj hf
          exact ih rfl _ _ _ ⟨lv_sub hl [1, 2, 3, 4, 0] rfl, hP, hD, hS⟩
        · clear hf
          have hf := hj
          clear hj
          refine lv_icmp_lt (tgt := 63) (pc := 57) hx hb dX11_attempt_57 rfl (fun hc => ?_) (fun hc => ?_)
          · have hf := za_t hf hc
            refine lv_iload (pc := 63) hx hb dX11_attempt_63 (lv_at hl 5 rfl) ?_
            refine lv_istore (lv' := [(4, .int v7), (7, .int v11), (0, .ref (ad 0)), (3, .int v2), (5, .int v6), (6, .int v7)]) (pc := 65) hx hb dX11_attempt_65 hl (by decide) rfl (fun ls hl => ?_)
            refine lv_iload (pc := 67) hx hb dX11_attempt_67 (lv_at hl 1 rfl) ?_
            refine lv_istore (lv' := [(5, .int v11), (4, .int v7), (7, .int v11), (0, .ref (ad 0)), (3, .int v2), (6, .int v7)]) (pc := 69) hx hb dX11_attempt_69 hl (by decide) rfl (fun ls hl => ?_)
            obtain ⟨rfl, rfl⟩ := zi_2 hf
            exact J71 _ _ _ ⟨lv_sub hl [3, 4, 1, 0, 5] rfl, hP.sub [3, 4, 5, 6, 7, 0, 1, 2] rfl, hD.sub [3, 4, 5, 6, 7, 0, 1, 2] (by decide) rfl, hS⟩
          · have hf := za_f hf hc
            refine lv_goto (tgt := 71) (pc := 60) hx hb dX11_attempt_60 rfl ?_
            obtain ⟨rfl, rfl⟩ := zi_2 hf
            exact J71 _ _ _ ⟨lv_sub hl [1, 2, 3, 4, 5] rfl, hP.sub [3, 4, 5, 6, 7, 0, 1, 2] rfl, hD.sub [3, 4, 5, 6, 7, 0, 1, 2] (by decide) rfl, hS⟩
  · have hf := za_f hf hc
    refine lv_iload_n (pc := 15) hx hb dX11_attempt_15 rfl (lv_at hl 0 rfl) ?_
    obtain ⟨rfl, rfl, rfl, rfl, rfl⟩ := zi_5 hf
    exact W.iret (pc := 16) hx hb hr (fun t ht hW => ⟨⟨_, (), rfl, rfl, zz_Bi (by rw [ht]; exact hP.sub [4, 0, 1, 2, 3, 5, 6, 7] rfl) (va_K.moved hW.alike hK) (hD.sub [4, 0, 1, 2, 3, 5, 6, 7] (by decide) rfl)⟩, hS.F ht⟩) hS.2.2 dX11_attempt_16

def zf_X11_standsBy (b_then : (Nat → Int32)) (b_stood : (Nat → Int32)) (p1 : Int32) (p2 : Int32) (p3 : Int32) : Option (Int32) :=
  zd_1 (za_ld b_then 43200 (((15 : Int32) * p1) + p2)) (fun v1 =>
  if v1 = (-1 : Int32) then
    some (0 : Int32)
  else
    zd_1 (za_ld b_stood 28800 (((2880 : Int32) * p3) + v1)) (fun v2 =>
    if v2 = 0 then
      some (0 : Int32)
    else
      if p2 = (1 : Int32) then
        if p3 = 0 then
          some (1 : Int32)
        else
          zd_1 (zf_X11_gust v1) (fun v3 =>
          zd_1 (za_ld b_stood 28800 (((2880 : Int32) * (p3 - (1 : Int32))) + v3)) (fun v4 =>
          if v4 = 0 then
            some (0 : Int32)
          else
            some (1 : Int32)))
      else
        some (1 : Int32)))
theorem zk_X11_standsBy : yX11_standsBy.cls = RX11 ∧ yX11_standsBy.cls ≠ "java/lang/invoke/MethodHandle" ∧ yX11_standsBy.cls ≠ "java/lang/invoke/VarHandle" ∧ (parseMethodDescriptor yX11_standsBy.desc).map (fun d => d.parameters.length) = some 3 := by decide +kernel
set_option maxHeartbeats 4000000 in
set_option maxRecDepth 100000 in
theorem zt_X11_standsBy (l : Launch) (dC : Nat → ClassId) (dI : Nat → Nat → Nat) (dA : Nat → ClassId) (ad : Nat → Nat) (sz : Nat) (f_thrown f_taped f_at f_behind f_size f_kind f_number f_wrong f_wrongAt f_faultKind f_faultPlace f_reading f_toldWhy f_x f_standMany f_bestMany f_tail f_round1 : Int32) (b_then : (Nat → Int32)) (b_stood : (Nat → Int32)) (p1 : Int32) (p2 : Int32) (p3 : Int32) (r0 : Int32) (hf : zf_X11_standsBy b_then b_stood p1 p2 p3 = some r0) : Met l yX11_standsBy (.code yX11_standsBy cX11_standsBy 5 (some .boolean) :: zr_T) ({ frames := 1, cells := 0, slots := 0, locals := 20 }) (va_Pc [.ref (ad 0), .int p1, .int p2, .int p3] (zz_M dC dI dA [zr_o ad f_thrown f_taped f_at f_behind f_size f_kind f_number f_wrong f_wrongAt f_faultKind f_faultPlace f_reading f_toldWhy f_x f_standMany f_bestMany f_tail f_round1, (ad 23, .inl (dA 0, 43200, .inl b_then)), (ad 38, .inl (dA 2, 28800, .inl b_stood))] sz)) (va_Qi (fun (r : Int32) (_ : Unit) => r = r0) (fun _ t => zz_B dC dI dA (va_A [zr_o ad f_thrown f_taped f_at f_behind f_size f_kind f_number f_wrong f_wrongAt f_faultKind f_faultPlace f_reading f_toldWhy f_x f_standMany f_bestMany f_tail f_round1, (ad 23, .inl (dA 0, 43200, .inl b_then)), (ad 38, .inl (dA 2, 28800, .inl b_stood))] sz) [zr_o ad f_thrown f_taped f_at f_behind f_size f_kind f_number f_wrong f_wrongAt f_faultKind f_faultPlace f_reading f_toldWhy f_x f_standMany f_bestMany f_tail f_round1, (ad 23, .inl (dA 0, 43200, .inl b_then)), (ad 38, .inl (dA 2, 28800, .inl b_stood))] t) (va_A [zr_o ad f_thrown f_taped f_at f_behind f_size f_kind f_number f_wrong f_wrongAt f_faultKind f_faultPlace f_reading f_toldWhy f_x f_standMany f_bestMany f_tail f_round1, (ad 23, .inl (dA 0, 43200, .inl b_then)), (ad 38, .inl (dA 2, 28800, .inl b_stood))] sz)) 0 0 (va_A [zr_o ad f_thrown f_taped f_at f_behind f_size f_kind f_number f_wrong f_wrongAt f_faultKind f_faultPlace f_reading f_toldWhy f_x f_standMany f_bestMany f_tail f_round1, (ad 23, .inl (dA 0, 43200, .inl b_then)), (ad 38, .inl (dA 2, 28800, .inl b_stood))] sz) := by
  unfold zf_X11_standsBy at hf
  refine Met.ofW (cc := cX11_standsBy) (maxL := 5) (ret := (some .boolean)) (by decide) rfl ?_
  intro p e s m args below meth c s₁ B hml hv
  obtain ⟨rfl, hsz, hP, hK, hD0⟩ := hv
  have hx := B.exec
  have hb := B.bytes
  have hr := B.returns
  have ht : ∀ w ∈ zr_T, w.before ([.ref (ad 0), .int p1, .int p2, .int p3] : List Value).toArray s = true := fun w hw => atoms_spec (ws := .code yX11_standsBy cX11_standsBy 5 (some .boolean) :: zr_T) B.pre w (List.mem_cons_of_mem _ hw)
  have hown : s.vm.findClass RX11 = some m.cls := findClass_of_methodNamed B.named
  have hlocks := B.notSynchronized
  subst hsz
  have hD := hD0.self (sz := s.heap.size)
  generalize hAe : va_A [zr_o ad f_thrown f_taped f_at f_behind f_size f_kind f_number f_wrong f_wrongAt f_faultKind f_faultPlace f_reading f_toldWhy f_x f_standMany f_bestMany f_tail f_round1, (ad 23, .inl (dA 0, 43200, .inl b_then)), (ad 38, .inl (dA 2, 28800, .inl b_stood))] s.heap.size = A at hD ⊢
  have hA : ∀ q : Nat, s.heap.size ≤ q → A q := fun q h => by rw [← hAe]; exact Or.inr h
  clear hAe hD0
  have hS : va_S A s.heap s.heap [] := va_S.rf
  have hl := lv_entry ([.ref (ad 0), .int p1, .int p2, .int p3]) (n := 5) (Nat.le_of_ble_eq_true rfl)
  rw [lg_entry_eq]
  generalize (lg_sl ([.ref (ad 0), .int p1, .int p2, .int p3]) ++ List.replicate (5 - (lg_sl ([.ref (ad 0), .int p1, .int p2, .int p3])).length) Slot.unset).toArray = ls at hl ⊢
  have hl : lv_has ls 5 [(0, .ref (ad 0)), (1, .int p1), (2, .int p2), (3, .int p3)] := hl
  refine lv_aload_n (pc := 0) hx hb dX11_standsBy_0 rfl (lv_at hl 0 rfl) ?_
  refine va_get (pc := 1) (D := (dC, dI)) (ci := 0) (v := .ref (ad 23)) (C := RX11) (T := TX11) (N := 42) hx hb ht zr_lay hown hK hP 0 rfl rfl 22 (by decide) (ht _ zr_17) (fun _ h9 => h9) rfl dX11_standsBy_1 ?_
  refine lv_bipush (v := (15 : Int32)) (pc := 4) hx hb dX11_standsBy_4 (by decide) ?_
  refine lv_iload_n (pc := 6) hx hb dX11_standsBy_6 rfl (lv_at hl 1 rfl) ?_
  refine lv_imul (pc := 7) hx hb dX11_standsBy_7 ?_
  refine lv_iload_n (pc := 8) hx hb dX11_standsBy_8 rfl (lv_at hl 2 rfl) ?_
  refine lv_iadd (pc := 9) hx hb dX11_standsBy_9 ?_
  obtain ⟨v1, hv1, hf⟩ := zc_1 hf
  refine zw_iald (pc := 10) hx hb hK hP 1 0 rfl rfl hv1 dX11_standsBy_10 ?_
  refine lv_istore (lv' := [(4, .int v1), (0, .ref (ad 0)), (1, .int p1), (2, .int p2), (3, .int p3)]) (pc := 11) hx hb dX11_standsBy_11 hl (by decide) rfl (fun ls hl => ?_)
  refine lv_iload (pc := 13) hx hb dX11_standsBy_13 (lv_at hl 0 rfl) ?_
  refine lv_iconst (v := (-1 : Int32)) (pc := 15) hx hb dX11_standsBy_15 (by decide) ?_
  refine lv_icmp_eq (tgt := 35) (pc := 16) hx hb dX11_standsBy_16 rfl (fun hc => ?_) (fun hc => ?_)
  · have hf := za_t hf hc
    refine lv_iconst (v := (0 : Int32)) (pc := 35) hx hb dX11_standsBy_35 (by decide) ?_
    obtain rfl := Option.some.inj hf
    exact W.zret (pc := 36) hx hb hr rfl (fun t ht hW => ⟨⟨_, (), rfl, rfl, zz_Bi (by rw [ht]; exact hP) (va_K.moved hW.alike hK) (hD)⟩, hS.F ht⟩) hS.2.2 dX11_standsBy_36
  · have hf := za_f hf hc
    refine lv_aload_n (pc := 19) hx hb dX11_standsBy_19 rfl (lv_at hl 1 rfl) ?_
    refine va_get (pc := 20) (D := (dC, dI)) (ci := 0) (v := .ref (ad 38)) (C := RX11) (T := TX11) (N := 42) hx hb ht zr_lay hown hK hP 0 rfl rfl 37 (by decide) (ht _ zr_29) (fun _ h9 => h9) rfl dX11_standsBy_20 ?_
    refine lv_sipush (v := (2880 : Int32)) (pc := 23) hx hb dX11_standsBy_23 (by decide) ?_
    refine lv_iload_n (pc := 26) hx hb dX11_standsBy_26 rfl (lv_at hl 4 rfl) ?_
    refine lv_imul (pc := 27) hx hb dX11_standsBy_27 ?_
    refine lv_iload (pc := 28) hx hb dX11_standsBy_28 (lv_at hl 0 rfl) ?_
    refine lv_iadd (pc := 30) hx hb dX11_standsBy_30 ?_
    obtain ⟨v2, hv2, hf⟩ := zc_1 hf
    refine zw_zald (pc := 31) hx hb hK hP 2 2 rfl rfl hv2 dX11_standsBy_31 ?_
    refine lv_if_ne (tgt := 37) (pc := 32) hx hb dX11_standsBy_32 rfl (fun hc => ?_) (fun hc => ?_)
    · have hf := za_f hf hc
      refine lv_iload_n (pc := 37) hx hb dX11_standsBy_37 rfl (lv_at hl 3 rfl) ?_
      refine lv_iconst (v := (1 : Int32)) (pc := 38) hx hb dX11_standsBy_38 (by decide) ?_
      refine lv_icmp_ne (tgt := 67) (pc := 39) hx hb dX11_standsBy_39 rfl (fun hc => ?_) (fun hc => ?_)
      · have hf := za_f hf hc
        refine lv_iconst (v := (1 : Int32)) (pc := 67) hx hb dX11_standsBy_67 (by decide) ?_
        refine lv_goto (tgt := 72) (pc := 68) hx hb dX11_standsBy_68 rfl ?_
        obtain rfl := Option.some.inj hf
        exact W.zret (pc := 72) hx hb hr rfl (fun t ht hW => ⟨⟨_, (), rfl, rfl, zz_Bi (by rw [ht]; exact hP) (va_K.moved hW.alike hK) (hD)⟩, hS.F ht⟩) hS.2.2 dX11_standsBy_72
      · have hf := za_t hf hc
        refine lv_iload_n (pc := 42) hx hb dX11_standsBy_42 rfl (lv_at hl 4 rfl) ?_
        refine lv_if_eq (tgt := 67) (pc := 43) hx hb dX11_standsBy_43 rfl (fun hc => ?_) (fun hc => ?_)
        · have hf := za_t hf hc
          refine lv_iconst (v := (1 : Int32)) (pc := 67) hx hb dX11_standsBy_67 (by decide) ?_
          refine lv_goto (tgt := 72) (pc := 68) hx hb dX11_standsBy_68 rfl ?_
          obtain rfl := Option.some.inj hf
          exact W.zret (pc := 72) hx hb hr rfl (fun t ht hW => ⟨⟨_, (), rfl, rfl, zz_Bi (by rw [ht]; exact hP) (va_K.moved hW.alike hK) (hD)⟩, hS.F ht⟩) hS.2.2 dX11_standsBy_72
        · have hf := za_f hf hc
          refine lv_aload_n (pc := 46) hx hb dX11_standsBy_46 rfl (lv_at hl 1 rfl) ?_
          refine va_get (pc := 47) (D := (dC, dI)) (ci := 0) (v := .ref (ad 38)) (C := RX11) (T := TX11) (N := 42) hx hb ht zr_lay hown hK hP 0 rfl rfl 37 (by decide) (ht _ zr_29) (fun _ h9 => h9) rfl dX11_standsBy_47 ?_
          refine lv_sipush (v := (2880 : Int32)) (pc := 50) hx hb dX11_standsBy_50 (by decide) ?_
          refine lv_iload_n (pc := 53) hx hb dX11_standsBy_53 rfl (lv_at hl 4 rfl) ?_
          refine lv_iconst (v := (1 : Int32)) (pc := 54) hx hb dX11_standsBy_54 (by decide) ?_
          refine lv_isub (pc := 55) hx hb dX11_standsBy_55 ?_
          refine lv_imul (pc := 56) hx hb dX11_standsBy_56 ?_
          refine lv_iload (pc := 57) hx hb dX11_standsBy_57 (lv_at hl 0 rfl) ?_
          obtain ⟨v3, hv3, hf⟩ := zc_1 hf
          refine zw_Si (pc := 59) (wc := []) (wr := [zr_o ad f_thrown f_taped f_at f_behind f_size f_kind f_number f_wrong f_wrongAt f_faultKind f_faultPlace f_reading f_toldWhy f_x f_standMany f_bestMany f_tail f_round1, (ad 23, .inl (dA 0, 43200, .inl b_then)), (ad 38, .inl (dA 2, 28800, .inl b_stood))]) (w1 := []) (As := [.int v1]) (rest := [.int ((2880 : Int32) * (p3 - (1 : Int32))), .ref (ad 38)]) ⟨hx, hb, hml, hown, ht⟩ (zt_X11_gust l dC dI dA ad _ v1 v3 hv3) (cwS 1 ht (zr_S zr_348 zr_349 zr_36 zr_341) rfl rfl rfl zk_X11_gust ⟨Nat.le_of_ble_eq_true rfl, Nat.le_of_ble_eq_true rfl⟩) hK hP hD hS hA [] [0, 1, 2] (by decide) (by decide) (by decide) rfl rfl rfl hl.1 (Nat.le_of_ble_eq_true rfl) dX11_standsBy_59 ⟨Nat.zero_le _, Nat.zero_le _⟩ rfl (fun H locs hP hD hS => ?_)
          have hP : va_P (dC, dI) zz_cls [zr_o ad f_thrown f_taped f_at f_behind f_size f_kind f_number f_wrong f_wrongAt f_faultKind f_faultPlace f_reading f_toldWhy f_x f_standMany f_bestMany f_tail f_round1, (ad 23, .inl (dA 0, 43200, .inl b_then)), (ad 38, .inl (dA 2, 28800, .inl b_stood))] H := hP
          have hD : va_D A [zr_o ad f_thrown f_taped f_at f_behind f_size f_kind f_number f_wrong f_wrongAt f_faultKind f_faultPlace f_reading f_toldWhy f_x f_standMany f_bestMany f_tail f_round1, (ad 23, .inl (dA 0, 43200, .inl b_then)), (ad 38, .inl (dA 2, 28800, .inl b_stood))] := hD
          refine lv_iadd (pc := 62) hx hb dX11_standsBy_62 ?_
          obtain ⟨v4, hv4, hf⟩ := zc_1 hf
          refine zw_zald (pc := 63) hx hb hK hP 2 2 rfl rfl hv4 dX11_standsBy_63 ?_
          refine lv_if_eq (tgt := 71) (pc := 64) hx hb dX11_standsBy_64 rfl (fun hc => ?_) (fun hc => ?_)
          · have hf := za_t hf hc
            refine lv_iconst (v := (0 : Int32)) (pc := 71) hx hb dX11_standsBy_71 (by decide) ?_
            obtain rfl := Option.some.inj hf
            exact W.zret (pc := 72) hx hb hr rfl (fun t ht hW => ⟨⟨_, (), rfl, rfl, zz_Bi (by rw [ht]; exact hP) (va_K.moved hW.alike hK) (hD)⟩, hS.F ht⟩) hS.2.2 dX11_standsBy_72
          · have hf := za_f hf hc
            refine lv_iconst (v := (1 : Int32)) (pc := 67) hx hb dX11_standsBy_67 (by decide) ?_
            refine lv_goto (tgt := 72) (pc := 68) hx hb dX11_standsBy_68 rfl ?_
            obtain rfl := Option.some.inj hf
            exact W.zret (pc := 72) hx hb hr rfl (fun t ht hW => ⟨⟨_, (), rfl, rfl, zz_Bi (by rw [ht]; exact hP) (va_K.moved hW.alike hK) (hD)⟩, hS.F ht⟩) hS.2.2 dX11_standsBy_72
    · have hf := za_t hf hc
      refine lv_iconst (v := (0 : Int32)) (pc := 35) hx hb dX11_standsBy_35 (by decide) ?_
      obtain rfl := Option.some.inj hf
      exact W.zret (pc := 36) hx hb hr rfl (fun t ht hW => ⟨⟨_, (), rfl, rfl, zz_Bi (by rw [ht]; exact hP) (va_K.moved hW.alike hK) (hD)⟩, hS.F ht⟩) hS.2.2 dX11_standsBy_36

def zb_X11_laysStood_2 (f_standMany : Int32) (b_stand : (Nat → Int32)) (p1 : Int32) (p2 : Int32) (v1 : Int32) (a2 : (Nat → Int32)) : Option (Nat × Int32 × (Nat → Int32)) :=
  if f_standMany ≤ v1 then
    some (1, v1, a2)
  else
    zd_1 (za_ld b_stand 2880 v1) (fun v3 =>
    zd_1 (za_ld b_stand 2880 v1) (fun v4 =>
    zd_1 (zf_X11_rungIn v4) (fun v5 =>
    zd_1 (
      if v5 = p1 then
        some (1 : Int32)
      else
        some (0 : Int32)) (fun v6 =>
    zd_1 (za_zb v6) (fun v7 =>
    zd_1 (za_st a2 28800 (((2880 : Int32) * p2) + v3) v7) (fun a8 =>
    zd_1 (some (v1 + (1 : Int32))) (fun v9 =>
    some (0, v9, a8))))))))
def zb_X11_laysStood_75 (b_stand : (Nat → Int32)) (v17 : Int32) (p2 : Int32) (b_then : (Nat → Int32)) (v19 : Int32) (v20 : Int32) (a21 : (Nat → Int32)) : Option (Nat × Int32 × Int32 × (Nat → Int32)) :=
  if (15 : Int32) ≤ v20 then
    some (1, v19, v20, a21)
  else
    zd_1 (za_ld b_stand 2880 v17) (fun v22 =>
    zd_1 (za_ld a21 28800 (((2880 : Int32) * p2) + v22)) (fun v23 =>
    if v23 = 0 then
      zd_1 (za_ld b_stand 2880 v17) (fun v24 =>
      zd_1 (zf_X11_standsBy b_then a21 v24 v20 p2) (fun v25 =>
      zd_2 (
        if v25 = 0 then
          some (v19, a21)
        else
          zd_1 (za_ld b_stand 2880 v17) (fun v26 =>
          zd_1 (za_st a21 28800 (((2880 : Int32) * p2) + v26) (1 : Int32)) (fun a27 =>
          some ((1 : Int32), a27)))) (fun v28 a29 =>
      zd_1 (some (v20 + (1 : Int32))) (fun v30 =>
      some (0, v28, v30, a29)))))
    else
      some (1, v19, v20, a21)))
def zb_X11_laysStood_67 (b_stand : (Nat → Int32)) (p2 : Int32) (b_then : (Nat → Int32)) (n : Nat) (v16 : Int32) (v17 : Int32) (a18 : (Nat → Int32)) : Option (Nat × Int32 × Int32 × (Nat → Int32)) :=
  if v17 < 0 then
    some (1, v16, v17, a18)
  else
    zd_4 (za_it (fun v => zb_X11_laysStood_75 b_stand v17 p2 b_then v.1 v.2.1 v.2.2) n (v16, (0 : Int32), a18)) (fun g34 v31 v32 a33 =>
    zd_1 (some (v17 + (-1 : Int32))) (fun v35 =>
    some (0, v31, v35, a33)))
def zb_X11_laysStood_53 (f_standMany : Int32) (b_stand : (Nat → Int32)) (p2 : Int32) (b_then : (Nat → Int32)) (n : Nat) (v13 : Int32) (a14 : (Nat → Int32)) : Option (Nat × Int32 × (Nat → Int32)) :=
  if v13 = 0 then
    some (1, v13, a14)
  else
    zd_1 (some ((f_standMany - (1 : Int32)))) (fun v15 =>
    zd_4 (za_it (fun v => zb_X11_laysStood_67 b_stand p2 b_then n v.1 v.2.1 v.2.2) n ((0 : Int32), v15, a14)) (fun g39 v36 v37 a38 =>
    some (0, v36, a38)))
def zf_X11_laysStood (n : Nat) (f_standMany : Int32) (b_stand : (Nat → Int32)) (b_then : (Nat → Int32)) (b_stood : (Nat → Int32)) (p1 : Int32) (p2 : Int32) : Option ((Nat → Int32)) :=
  zd_3 (za_it (fun v => zb_X11_laysStood_2 f_standMany b_stand p1 p2 v.1 v.2) n ((0 : Int32), b_stood)) (fun g12 v10 a11 =>
  zd_3 (za_it (fun v => zb_X11_laysStood_53 f_standMany b_stand p2 b_then n v.1 v.2) n ((1 : Int32), a11)) (fun g42 v40 a41 =>
  some a41))
theorem zk_X11_laysStood : yX11_laysStood.cls = RX11 ∧ yX11_laysStood.cls ≠ "java/lang/invoke/MethodHandle" ∧ yX11_laysStood.cls ≠ "java/lang/invoke/VarHandle" ∧ (parseMethodDescriptor yX11_laysStood.desc).map (fun d => d.parameters.length) = some 2 := by decide +kernel
set_option maxHeartbeats 4000000 in
set_option maxRecDepth 100000 in
theorem zt_X11_laysStood (l : Launch) (dC : Nat → ClassId) (dI : Nat → Nat → Nat) (dA : Nat → ClassId) (ad : Nat → Nat) (sz : Nat) (n : Nat) (f_thrown f_taped f_at f_behind f_size f_kind f_number f_wrong f_wrongAt f_faultKind f_faultPlace f_reading f_toldWhy f_x f_standMany f_bestMany f_tail f_round1 : Int32) (b_stand : (Nat → Int32)) (b_then : (Nat → Int32)) (b_stood : (Nat → Int32)) (p1 : Int32) (p2 : Int32) (o1 : (Nat → Int32)) (hf : zf_X11_laysStood n f_standMany b_stand b_then b_stood p1 p2 = some o1) : Met l yX11_laysStood (.code yX11_laysStood cX11_laysStood 6 none :: zr_T) ({ frames := 2, cells := 0, slots := 0, locals := 44 }) (va_Pc [.ref (ad 0), .int p1, .int p2] (zz_M dC dI dA [zr_o ad f_thrown f_taped f_at f_behind f_size f_kind f_number f_wrong f_wrongAt f_faultKind f_faultPlace f_reading f_toldWhy f_x f_standMany f_bestMany f_tail f_round1, (ad 22, .inl (dA 0, 2880, .inl b_stand)), (ad 23, .inl (dA 0, 43200, .inl b_then)), (ad 38, .inl (dA 2, 28800, .inl b_stood))] sz)) (va_Qv (fun _ : Unit => True) (fun _ t => zz_B dC dI dA (va_A [zr_o ad f_thrown f_taped f_at f_behind f_size f_kind f_number f_wrong f_wrongAt f_faultKind f_faultPlace f_reading f_toldWhy f_x f_standMany f_bestMany f_tail f_round1, (ad 22, .inl (dA 0, 2880, .inl b_stand)), (ad 23, .inl (dA 0, 43200, .inl b_then)), (ad 38, .inl (dA 2, 28800, .inl b_stood))] sz) [zr_o ad f_thrown f_taped f_at f_behind f_size f_kind f_number f_wrong f_wrongAt f_faultKind f_faultPlace f_reading f_toldWhy f_x f_standMany f_bestMany f_tail f_round1, (ad 22, .inl (dA 0, 2880, .inl b_stand)), (ad 23, .inl (dA 0, 43200, .inl b_then)), (ad 38, .inl (dA 2, 28800, .inl o1))] t) (va_A [zr_o ad f_thrown f_taped f_at f_behind f_size f_kind f_number f_wrong f_wrongAt f_faultKind f_faultPlace f_reading f_toldWhy f_x f_standMany f_bestMany f_tail f_round1, (ad 22, .inl (dA 0, 2880, .inl b_stand)), (ad 23, .inl (dA 0, 43200, .inl b_then)), (ad 38, .inl (dA 2, 28800, .inl b_stood))] sz)) 0 0 (va_A [zr_o ad f_thrown f_taped f_at f_behind f_size f_kind f_number f_wrong f_wrongAt f_faultKind f_faultPlace f_reading f_toldWhy f_x f_standMany f_bestMany f_tail f_round1, (ad 22, .inl (dA 0, 2880, .inl b_stand)), (ad 23, .inl (dA 0, 43200, .inl b_then)), (ad 38, .inl (dA 2, 28800, .inl b_stood))] sz) := by
  unfold zf_X11_laysStood at hf
  refine Met.ofW (cc := cX11_laysStood) (maxL := 6) (ret := none) (by decide) rfl ?_
  intro p e s m args below meth c s₁ B hml hv
  obtain ⟨rfl, hsz, hP, hK, hD0⟩ := hv
  have hx := B.exec
  have hb := B.bytes
  have hr := B.returns
  have ht : ∀ w ∈ zr_T, w.before ([.ref (ad 0), .int p1, .int p2] : List Value).toArray s = true := fun w hw => atoms_spec (ws := .code yX11_laysStood cX11_laysStood 6 none :: zr_T) B.pre w (List.mem_cons_of_mem _ hw)
  have hown : s.vm.findClass RX11 = some m.cls := findClass_of_methodNamed B.named
  have hlocks := B.notSynchronized
  subst hsz
  have hD := hD0.self (sz := s.heap.size)
  generalize hAe : va_A [zr_o ad f_thrown f_taped f_at f_behind f_size f_kind f_number f_wrong f_wrongAt f_faultKind f_faultPlace f_reading f_toldWhy f_x f_standMany f_bestMany f_tail f_round1, (ad 22, .inl (dA 0, 2880, .inl b_stand)), (ad 23, .inl (dA 0, 43200, .inl b_then)), (ad 38, .inl (dA 2, 28800, .inl b_stood))] s.heap.size = A at hD ⊢
  have hA : ∀ q : Nat, s.heap.size ≤ q → A q := fun q h => by rw [← hAe]; exact Or.inr h
  clear hAe hD0
  have hS : va_S A s.heap s.heap [] := va_S.rf
  have hl := lv_entry ([.ref (ad 0), .int p1, .int p2]) (n := 6) (Nat.le_of_ble_eq_true rfl)
  rw [lg_entry_eq]
  generalize (lg_sl ([.ref (ad 0), .int p1, .int p2]) ++ List.replicate (6 - (lg_sl ([.ref (ad 0), .int p1, .int p2])).length) Slot.unset).toArray = ls at hl ⊢
  have hl : lv_has ls 6 [(0, .ref (ad 0)), (1, .int p1), (2, .int p2)] := hl
  refine lv_iconst (v := (0 : Int32)) (pc := 0) hx hb dX11_laysStood_0 (by decide) ?_
  refine lv_istore_n (lv' := [(3, .int (0 : Int32)), (0, .ref (ad 0)), (1, .int p1), (2, .int p2)]) (pc := 1) hx hb dX11_laysStood_1 rfl hl (by decide) rfl (fun ls hl => ?_)
  obtain ⟨g12, v10, a11, hj, hf⟩ := zc_3 hf
  refine zj_join (pcJ := 51) (stk := []) (X := fun H locs ls => lv_has ls 6 [(0, .ref (ad 0)), (2, .int p2)] ∧ va_P (dC, dI) zz_cls [zr_o ad f_thrown f_taped f_at f_behind f_size f_kind f_number f_wrong f_wrongAt f_faultKind f_faultPlace f_reading f_toldWhy f_x f_standMany f_bestMany f_tail f_round1, (ad 22, .inl (dA 0, 2880, .inl b_stand)), (ad 23, .inl (dA 0, 43200, .inl b_then)), (ad 38, .inl (dA 2, 28800, .inl a11))] H ∧ va_D A [zr_o ad f_thrown f_taped f_at f_behind f_size f_kind f_number f_wrong f_wrongAt f_faultKind f_faultPlace f_reading f_toldWhy f_x f_standMany f_bestMany f_tail f_round1, (ad 22, .inl (dA 0, 2880, .inl b_stand)), (ad 23, .inl (dA 0, 43200, .inl b_then)), (ad 38, .inl (dA 2, 28800, .inl a11))] ∧ va_S A s.heap H locs) (fun H locs ls hX => ?_) (fun E51 => ?_)
  · obtain ⟨hl, hP, hD, hS⟩ := hX
    clear hj
    refine lv_iconst (v := (1 : Int32)) (pc := 51) hx hb dX11_laysStood_51 (by decide) ?_
    refine lv_istore_n (lv' := [(3, .int (1 : Int32)), (0, .ref (ad 0)), (2, .int p2)]) (pc := 52) hx hb dX11_laysStood_52 rfl hl (by decide) rfl (fun ls hl => ?_)
    obtain ⟨g42, v40, a41, hj, hf⟩ := zc_3 hf
    refine zj_join (pcJ := 159) (stk := []) (X := fun H locs ls => lv_has ls 6 [] ∧ va_P (dC, dI) zz_cls [zr_o ad f_thrown f_taped f_at f_behind f_size f_kind f_number f_wrong f_wrongAt f_faultKind f_faultPlace f_reading f_toldWhy f_x f_standMany f_bestMany f_tail f_round1, (ad 22, .inl (dA 0, 2880, .inl b_stand)), (ad 23, .inl (dA 0, 43200, .inl b_then)), (ad 38, .inl (dA 2, 28800, .inl a41))] H ∧ va_D A [zr_o ad f_thrown f_taped f_at f_behind f_size f_kind f_number f_wrong f_wrongAt f_faultKind f_faultPlace f_reading f_toldWhy f_x f_standMany f_bestMany f_tail f_round1, (ad 22, .inl (dA 0, 2880, .inl b_stand)), (ad 23, .inl (dA 0, 43200, .inl b_then)), (ad 38, .inl (dA 2, 28800, .inl a41))] ∧ va_S A s.heap H locs) (fun H locs ls hX => ?_) (fun E159 => ?_)
    · obtain ⟨hl, hP, hD, hS⟩ := hX
      clear hj
      obtain rfl := Option.some.inj hf
      exact W.vret (pc := 159) hx hb hr (fun t ht hW => ⟨⟨(), rfl, trivial, zz_Bi (by rw [ht]; exact hP) (va_K.moved hW.alike hK) (hD)⟩, hS.F ht⟩) hS.2.2 dX11_laysStood_159
    clear hf
    refine zw_loop (pcH := 53) (X := fun v H locs ls => lv_has ls 6 [(0, .ref (ad 0)), (2, .int p2), (3, .int v.1)] ∧ va_P (dC, dI) zz_cls [zr_o ad f_thrown f_taped f_at f_behind f_size f_kind f_number f_wrong f_wrongAt f_faultKind f_faultPlace f_reading f_toldWhy f_x f_standMany f_bestMany f_tail f_round1, (ad 22, .inl (dA 0, 2880, .inl b_stand)), (ad 23, .inl (dA 0, 43200, .inl b_then)), (ad 38, .inl (dA 2, 28800, .inl v.2))] H ∧ va_D A [zr_o ad f_thrown f_taped f_at f_behind f_size f_kind f_number f_wrong f_wrongAt f_faultKind f_faultPlace f_reading f_toldWhy f_x f_standMany f_bestMany f_tail f_round1, (ad 22, .inl (dA 0, 2880, .inl b_stand)), (ad 23, .inl (dA 0, 43200, .inl b_then)), (ad 38, .inl (dA 2, 28800, .inl v.2))] ∧ va_S A s.heap H locs) hj (fun v w hf ih ex H locs ls hX => ?_) _ _ _ ⟨lv_sub hl [1, 2, 0] rfl, hP, hD, hS⟩
    clear hj
    obtain ⟨v13, a14⟩ := v
    obtain ⟨hl, hP, hD, hS⟩ := hX
    have hl : lv_has ls 6 [(0, .ref (ad 0)), (2, .int p2), (3, .int v13)] := hl
    have hP : va_P (dC, dI) zz_cls [zr_o ad f_thrown f_taped f_at f_behind f_size f_kind f_number f_wrong f_wrongAt f_faultKind f_faultPlace f_reading f_toldWhy f_x f_standMany f_bestMany f_tail f_round1, (ad 22, .inl (dA 0, 2880, .inl b_stand)), (ad 23, .inl (dA 0, 43200, .inl b_then)), (ad 38, .inl (dA 2, 28800, .inl a14))] H := hP
    have hD : va_D A [zr_o ad f_thrown f_taped f_at f_behind f_size f_kind f_number f_wrong f_wrongAt f_faultKind f_faultPlace f_reading f_toldWhy f_x f_standMany f_bestMany f_tail f_round1, (ad 22, .inl (dA 0, 2880, .inl b_stand)), (ad 23, .inl (dA 0, 43200, .inl b_then)), (ad 38, .inl (dA 2, 28800, .inl a14))] := hD
    replace hf : zb_X11_laysStood_53 f_standMany b_stand p2 b_then n v13 a14 = some w := hf
    unfold zb_X11_laysStood_53 at hf
    refine lv_iload_n (pc := 53) hx hb dX11_laysStood_53 rfl (lv_at hl 2 rfl) ?_
    refine lv_if_eq (tgt := 159) (pc := 54) hx hb dX11_laysStood_54 rfl (fun hc => ?_) (fun hc => ?_)
    · have hf := za_t hf hc
      obtain rfl := Option.some.inj hf
      obtain ⟨rfl, rfl, rfl⟩ := zp_3 (ex (show ¬ (1 : Nat) = 0 by decide))
      exact E159 _ _ _ ⟨lv_sub hl [] rfl, hP, hD, hS⟩
    · have hf := za_f hf hc
      refine lv_iconst (v := (0 : Int32)) (pc := 57) hx hb dX11_laysStood_57 (by decide) ?_
      refine lv_istore_n (lv' := [(3, .int (0 : Int32)), (0, .ref (ad 0)), (2, .int p2)]) (pc := 58) hx hb dX11_laysStood_58 rfl hl (by decide) rfl (fun ls hl => ?_)
      refine lv_aload_n (pc := 59) hx hb dX11_laysStood_59 rfl (lv_at hl 1 rfl) ?_
      refine va_get (pc := 60) (D := (dC, dI)) (ci := 0) (v := .int f_standMany) (C := RX11) (T := TX11) (N := 42) hx hb ht zr_lay hown hK hP 0 rfl rfl 25 (by decide) (ht _ zr_340) (fun _ h9 => h9) rfl dX11_laysStood_60 ?_
      refine lv_iconst (v := (1 : Int32)) (pc := 63) hx hb dX11_laysStood_63 (by decide) ?_
      refine lv_isub (pc := 64) hx hb dX11_laysStood_64 ?_
      obtain ⟨v15, hv15, hf⟩ := zc_1 hf
      refine zw_top (hv15) ?_
      refine lv_istore (lv' := [(4, .int v15), (3, .int (0 : Int32)), (0, .ref (ad 0)), (2, .int p2)]) (pc := 65) hx hb dX11_laysStood_65 hl (by decide) rfl (fun ls hl => ?_)
      obtain ⟨g39, v36, v37, a38, hj, hf⟩ := zc_4 hf
      refine zj_join (pcJ := 156) (stk := []) (X := fun H locs ls => lv_has ls 6 [(0, .ref (ad 0)), (2, .int p2), (3, .int v36)] ∧ va_P (dC, dI) zz_cls [zr_o ad f_thrown f_taped f_at f_behind f_size f_kind f_number f_wrong f_wrongAt f_faultKind f_faultPlace f_reading f_toldWhy f_x f_standMany f_bestMany f_tail f_round1, (ad 22, .inl (dA 0, 2880, .inl b_stand)), (ad 23, .inl (dA 0, 43200, .inl b_then)), (ad 38, .inl (dA 2, 28800, .inl a38))] H ∧ va_D A [zr_o ad f_thrown f_taped f_at f_behind f_size f_kind f_number f_wrong f_wrongAt f_faultKind f_faultPlace f_reading f_toldWhy f_x f_standMany f_bestMany f_tail f_round1, (ad 22, .inl (dA 0, 2880, .inl b_stand)), (ad 23, .inl (dA 0, 43200, .inl b_then)), (ad 38, .inl (dA 2, 28800, .inl a38))] ∧ va_S A s.heap H locs) (fun H locs ls hX => ?_) (fun E156 => ?_)
      · obtain ⟨hl, hP, hD, hS⟩ := hX
        clear hj
        refine lv_goto (tgt := 53) (pc := 156) hx hb dX11_laysStood_156 rfl ?_
        obtain rfl := Option.some.inj hf
        exact ih rfl _ _ _ ⟨lv_sub hl [0, 1, 2] rfl, hP, hD, hS⟩
      clear hf
      refine zw_loop (pcH := 67) (X := fun v H locs ls => lv_has ls 6 [(0, .ref (ad 0)), (2, .int p2), (3, .int v.1), (4, .int v.2.1)] ∧ va_P (dC, dI) zz_cls [zr_o ad f_thrown f_taped f_at f_behind f_size f_kind f_number f_wrong f_wrongAt f_faultKind f_faultPlace f_reading f_toldWhy f_x f_standMany f_bestMany f_tail f_round1, (ad 22, .inl (dA 0, 2880, .inl b_stand)), (ad 23, .inl (dA 0, 43200, .inl b_then)), (ad 38, .inl (dA 2, 28800, .inl v.2.2))] H ∧ va_D A [zr_o ad f_thrown f_taped f_at f_behind f_size f_kind f_number f_wrong f_wrongAt f_faultKind f_faultPlace f_reading f_toldWhy f_x f_standMany f_bestMany f_tail f_round1, (ad 22, .inl (dA 0, 2880, .inl b_stand)), (ad 23, .inl (dA 0, 43200, .inl b_then)), (ad 38, .inl (dA 2, 28800, .inl v.2.2))] ∧ va_S A s.heap H locs) hj (fun v w hf ih ex H locs ls hX => ?_) _ _ _ ⟨lv_sub hl [2, 3, 1, 0] rfl, hP, hD, hS⟩
      clear hj
      obtain ⟨v16, v17, a18⟩ := v
      obtain ⟨hl, hP, hD, hS⟩ := hX
      have hl : lv_has ls 6 [(0, .ref (ad 0)), (2, .int p2), (3, .int v16), (4, .int v17)] := hl
      have hP : va_P (dC, dI) zz_cls [zr_o ad f_thrown f_taped f_at f_behind f_size f_kind f_number f_wrong f_wrongAt f_faultKind f_faultPlace f_reading f_toldWhy f_x f_standMany f_bestMany f_tail f_round1, (ad 22, .inl (dA 0, 2880, .inl b_stand)), (ad 23, .inl (dA 0, 43200, .inl b_then)), (ad 38, .inl (dA 2, 28800, .inl a18))] H := hP
      have hD : va_D A [zr_o ad f_thrown f_taped f_at f_behind f_size f_kind f_number f_wrong f_wrongAt f_faultKind f_faultPlace f_reading f_toldWhy f_x f_standMany f_bestMany f_tail f_round1, (ad 22, .inl (dA 0, 2880, .inl b_stand)), (ad 23, .inl (dA 0, 43200, .inl b_then)), (ad 38, .inl (dA 2, 28800, .inl a18))] := hD
      replace hf : zb_X11_laysStood_67 b_stand p2 b_then n v16 v17 a18 = some w := hf
      unfold zb_X11_laysStood_67 at hf
      refine lv_iload (pc := 67) hx hb dX11_laysStood_67 (lv_at hl 3 rfl) ?_
      refine lv_if_lt (tgt := 156) (pc := 69) hx hb dX11_laysStood_69 rfl (fun hc => ?_) (fun hc => ?_)
      · have hf := za_t hf hc
        obtain rfl := Option.some.inj hf
        obtain ⟨rfl, rfl, rfl, rfl⟩ := zp_4 (ex (show ¬ (1 : Nat) = 0 by decide))
        exact E156 _ _ _ ⟨lv_sub hl [0, 1, 2] rfl, hP, hD, hS⟩
      · have hf := za_f hf hc
        refine lv_iconst (v := (0 : Int32)) (pc := 72) hx hb dX11_laysStood_72 (by decide) ?_
        refine lv_istore (lv' := [(5, .int (0 : Int32)), (0, .ref (ad 0)), (2, .int p2), (3, .int v16), (4, .int v17)]) (pc := 73) hx hb dX11_laysStood_73 hl (by decide) rfl (fun ls hl => ?_)
        obtain ⟨g34, v31, v32, a33, hj, hf⟩ := zc_4 hf
        refine zj_join (pcJ := 150) (stk := []) (X := fun H locs ls => lv_has ls 6 [(0, .ref (ad 0)), (2, .int p2), (3, .int v31), (4, .int v17)] ∧ va_P (dC, dI) zz_cls [zr_o ad f_thrown f_taped f_at f_behind f_size f_kind f_number f_wrong f_wrongAt f_faultKind f_faultPlace f_reading f_toldWhy f_x f_standMany f_bestMany f_tail f_round1, (ad 22, .inl (dA 0, 2880, .inl b_stand)), (ad 23, .inl (dA 0, 43200, .inl b_then)), (ad 38, .inl (dA 2, 28800, .inl a33))] H ∧ va_D A [zr_o ad f_thrown f_taped f_at f_behind f_size f_kind f_number f_wrong f_wrongAt f_faultKind f_faultPlace f_reading f_toldWhy f_x f_standMany f_bestMany f_tail f_round1, (ad 22, .inl (dA 0, 2880, .inl b_stand)), (ad 23, .inl (dA 0, 43200, .inl b_then)), (ad 38, .inl (dA 2, 28800, .inl a33))] ∧ va_S A s.heap H locs) (fun H locs ls hX => ?_) (fun E150 => ?_)
        · obtain ⟨hl, hP, hD, hS⟩ := hX
          clear hj
          obtain ⟨v35, hv35, hf⟩ := zc_1 hf
          refine lv_iinc (v := v35) (lv' := [(4, .int v35), (0, .ref (ad 0)), (2, .int p2), (3, .int v31)]) (k := 3) (pc := 150) hx hb dX11_laysStood_150 hl rfl (Option.some.inj hv35) (by decide) rfl (fun ls hl => ?_)
          refine lv_goto (tgt := 67) (pc := 153) hx hb dX11_laysStood_153 rfl ?_
          obtain rfl := Option.some.inj hf
          exact ih rfl _ _ _ ⟨lv_sub hl [1, 2, 3, 0] rfl, hP, hD, hS⟩
        clear hf
        refine zw_loop (pcH := 75) (X := fun v H locs ls => lv_has ls 6 [(0, .ref (ad 0)), (2, .int p2), (3, .int v.1), (4, .int v17), (5, .int v.2.1)] ∧ va_P (dC, dI) zz_cls [zr_o ad f_thrown f_taped f_at f_behind f_size f_kind f_number f_wrong f_wrongAt f_faultKind f_faultPlace f_reading f_toldWhy f_x f_standMany f_bestMany f_tail f_round1, (ad 22, .inl (dA 0, 2880, .inl b_stand)), (ad 23, .inl (dA 0, 43200, .inl b_then)), (ad 38, .inl (dA 2, 28800, .inl v.2.2))] H ∧ va_D A [zr_o ad f_thrown f_taped f_at f_behind f_size f_kind f_number f_wrong f_wrongAt f_faultKind f_faultPlace f_reading f_toldWhy f_x f_standMany f_bestMany f_tail f_round1, (ad 22, .inl (dA 0, 2880, .inl b_stand)), (ad 23, .inl (dA 0, 43200, .inl b_then)), (ad 38, .inl (dA 2, 28800, .inl v.2.2))] ∧ va_S A s.heap H locs) hj (fun v w hf ih ex H locs ls hX => ?_) _ _ _ ⟨lv_sub hl [1, 2, 3, 4, 0] rfl, hP, hD, hS⟩
        clear hj
        obtain ⟨v19, v20, a21⟩ := v
        obtain ⟨hl, hP, hD, hS⟩ := hX
        have hl : lv_has ls 6 [(0, .ref (ad 0)), (2, .int p2), (3, .int v19), (4, .int v17), (5, .int v20)] := hl
        have hP : va_P (dC, dI) zz_cls [zr_o ad f_thrown f_taped f_at f_behind f_size f_kind f_number f_wrong f_wrongAt f_faultKind f_faultPlace f_reading f_toldWhy f_x f_standMany f_bestMany f_tail f_round1, (ad 22, .inl (dA 0, 2880, .inl b_stand)), (ad 23, .inl (dA 0, 43200, .inl b_then)), (ad 38, .inl (dA 2, 28800, .inl a21))] H := hP
        have hD : va_D A [zr_o ad f_thrown f_taped f_at f_behind f_size f_kind f_number f_wrong f_wrongAt f_faultKind f_faultPlace f_reading f_toldWhy f_x f_standMany f_bestMany f_tail f_round1, (ad 22, .inl (dA 0, 2880, .inl b_stand)), (ad 23, .inl (dA 0, 43200, .inl b_then)), (ad 38, .inl (dA 2, 28800, .inl a21))] := hD
        replace hf : zb_X11_laysStood_75 b_stand v17 p2 b_then v19 v20 a21 = some w := hf
        unfold zb_X11_laysStood_75 at hf
        refine lv_iload (pc := 75) hx hb dX11_laysStood_75 (lv_at hl 4 rfl) ?_
        refine lv_bipush (v := (15 : Int32)) (pc := 77) hx hb dX11_laysStood_77 (by decide) ?_
        refine lv_icmp_ge (tgt := 150) (pc := 79) hx hb dX11_laysStood_79 rfl (fun hc => ?_) (fun hc => ?_)
        · have hf := za_t hf hc
          obtain rfl := Option.some.inj hf
          obtain ⟨rfl, rfl, rfl, rfl⟩ := zp_4 (ex (show ¬ (1 : Nat) = 0 by decide))
          exact E150 _ _ _ ⟨lv_sub hl [0, 1, 2, 3] rfl, hP, hD, hS⟩
        · have hf := za_f hf hc
          refine lv_aload_n (pc := 82) hx hb dX11_laysStood_82 rfl (lv_at hl 0 rfl) ?_
          refine va_get (pc := 83) (D := (dC, dI)) (ci := 0) (v := .ref (ad 38)) (C := RX11) (T := TX11) (N := 42) hx hb ht zr_lay hown hK hP 0 rfl rfl 37 (by decide) (ht _ zr_29) (fun _ h9 => h9) rfl dX11_laysStood_83 ?_
          refine lv_sipush (v := (2880 : Int32)) (pc := 86) hx hb dX11_laysStood_86 (by decide) ?_
          refine lv_iload_n (pc := 89) hx hb dX11_laysStood_89 rfl (lv_at hl 1 rfl) ?_
          refine lv_imul (pc := 90) hx hb dX11_laysStood_90 ?_
          refine lv_aload_n (pc := 91) hx hb dX11_laysStood_91 rfl (lv_at hl 0 rfl) ?_
          refine va_get (pc := 92) (D := (dC, dI)) (ci := 0) (v := .ref (ad 22)) (C := RX11) (T := TX11) (N := 42) hx hb ht zr_lay hown hK hP 0 rfl rfl 21 (by decide) (ht _ zr_15) (fun _ h9 => h9) rfl dX11_laysStood_92 ?_
          refine lv_iload (pc := 95) hx hb dX11_laysStood_95 (lv_at hl 3 rfl) ?_
          obtain ⟨v22, hv22, hf⟩ := zc_1 hf
          refine zw_iald (pc := 97) hx hb hK hP 1 0 rfl rfl hv22 dX11_laysStood_97 ?_
          refine lv_iadd (pc := 98) hx hb dX11_laysStood_98 ?_
          obtain ⟨v23, hv23, hf⟩ := zc_1 hf
          refine zw_zald (pc := 99) hx hb hK hP 3 2 rfl rfl hv23 dX11_laysStood_99 ?_
          refine lv_if_ne (tgt := 150) (pc := 100) hx hb dX11_laysStood_100 rfl (fun hc => ?_) (fun hc => ?_)
          · have hf := za_f hf hc
            obtain rfl := Option.some.inj hf
            obtain ⟨rfl, rfl, rfl, rfl⟩ := zp_4 (ex (show ¬ (1 : Nat) = 0 by decide))
            exact E150 _ _ _ ⟨lv_sub hl [0, 1, 2, 3] rfl, hP, hD, hS⟩
          · have hf := za_t hf hc
            refine lv_aload_n (pc := 103) hx hb dX11_laysStood_103 rfl (lv_at hl 0 rfl) ?_
            refine lv_aload_n (pc := 104) hx hb dX11_laysStood_104 rfl (lv_at hl 0 rfl) ?_
            refine va_get (pc := 105) (D := (dC, dI)) (ci := 0) (v := .ref (ad 22)) (C := RX11) (T := TX11) (N := 42) hx hb ht zr_lay hown hK hP 0 rfl rfl 21 (by decide) (ht _ zr_15) (fun _ h9 => h9) rfl dX11_laysStood_105 ?_
            refine lv_iload (pc := 108) hx hb dX11_laysStood_108 (lv_at hl 3 rfl) ?_
            obtain ⟨v24, hv24, hf⟩ := zc_1 hf
            refine zw_iald (pc := 110) hx hb hK hP 1 0 rfl rfl hv24 dX11_laysStood_110 ?_
            refine lv_iload (pc := 111) hx hb dX11_laysStood_111 (lv_at hl 4 rfl) ?_
            refine lv_iload_n (pc := 113) hx hb dX11_laysStood_113 rfl (lv_at hl 1 rfl) ?_
            obtain ⟨v25, hv25, hf⟩ := zc_1 hf
            refine zw_Vi (pc := 114) (wc := [zr_o ad f_thrown f_taped f_at f_behind f_size f_kind f_number f_wrong f_wrongAt f_faultKind f_faultPlace f_reading f_toldWhy f_x f_standMany f_bestMany f_tail f_round1, (ad 23, .inl (dA 0, 43200, .inl b_then)), (ad 38, .inl (dA 2, 28800, .inl a21))]) (wr := [(ad 22, .inl (dA 0, 2880, .inl b_stand))]) (w1 := [zr_o ad f_thrown f_taped f_at f_behind f_size f_kind f_number f_wrong f_wrongAt f_faultKind f_faultPlace f_reading f_toldWhy f_x f_standMany f_bestMany f_tail f_round1, (ad 23, .inl (dA 0, 43200, .inl b_then)), (ad 38, .inl (dA 2, 28800, .inl a21))]) (As := [.int v24, .int v20, .int p2]) (rest := []) ⟨hx, hb, hml, hown, ht⟩ (zt_X11_standsBy l dC dI dA ad _ f_thrown f_taped f_at f_behind f_size f_kind f_number f_wrong f_wrongAt f_faultKind f_faultPlace f_reading f_toldWhy f_x f_standMany f_bestMany f_tail f_round1 b_then a21 v24 v20 p2 v25 hv25) (cwV 3 ht (zr_V zr_443 zr_444 zr_445 zr_36 zr_441) rfl rfl rfl zk_X11_standsBy ⟨Nat.le_of_ble_eq_true rfl, Nat.le_of_ble_eq_true rfl⟩) rfl rfl hK hP hD hS hA [0, 2, 3] [1] (by decide) (by decide) (by decide) rfl rfl rfl hl.1 (Nat.le_of_ble_eq_true rfl) dX11_laysStood_114 ⟨Nat.zero_le _, Nat.zero_le _⟩ rfl (fun H locs hP hD hS => ?_)
            have hP : va_P (dC, dI) zz_cls [(ad 22, .inl (dA 0, 2880, .inl b_stand)), zr_o ad f_thrown f_taped f_at f_behind f_size f_kind f_number f_wrong f_wrongAt f_faultKind f_faultPlace f_reading f_toldWhy f_x f_standMany f_bestMany f_tail f_round1, (ad 23, .inl (dA 0, 43200, .inl b_then)), (ad 38, .inl (dA 2, 28800, .inl a21))] H := hP
            have hD : va_D A [(ad 22, .inl (dA 0, 2880, .inl b_stand)), zr_o ad f_thrown f_taped f_at f_behind f_size f_kind f_number f_wrong f_wrongAt f_faultKind f_faultPlace f_reading f_toldWhy f_x f_standMany f_bestMany f_tail f_round1, (ad 23, .inl (dA 0, 43200, .inl b_then)), (ad 38, .inl (dA 2, 28800, .inl a21))] := hD
            obtain ⟨v28, a29, hj, hf⟩ := zc_2 hf
            refine zj_join (pcJ := 144) (stk := []) (X := fun H locs ls => lv_has ls 6 [(0, .ref (ad 0)), (2, .int p2), (3, .int v28), (4, .int v17), (5, .int v20)] ∧ va_P (dC, dI) zz_cls [zr_o ad f_thrown f_taped f_at f_behind f_size f_kind f_number f_wrong f_wrongAt f_faultKind f_faultPlace f_reading f_toldWhy f_x f_standMany f_bestMany f_tail f_round1, (ad 22, .inl (dA 0, 2880, .inl b_stand)), (ad 23, .inl (dA 0, 43200, .inl b_then)), (ad 38, .inl (dA 2, 28800, .inl a29))] H ∧ va_D A [zr_o ad f_thrown f_taped f_at f_behind f_size f_kind f_number f_wrong f_wrongAt f_faultKind f_faultPlace f_reading f_toldWhy f_x f_standMany f_bestMany f_tail f_round1, (ad 22, .inl (dA 0, 2880, .inl b_stand)), (ad 23, .inl (dA 0, 43200, .inl b_then)), (ad 38, .inl (dA 2, 28800, .inl a29))] ∧ va_S A s.heap H locs) (fun H locs ls hX => ?_) (fun J144 => ?_)
            · obtain ⟨hl, hP, hD, hS⟩ := hX
              clear hj
              obtain ⟨v30, hv30, hf⟩ := zc_1 hf
              refine lv_iinc (v := v30) (lv' := [(5, .int v30), (0, .ref (ad 0)), (2, .int p2), (3, .int v28), (4, .int v17)]) (k := 4) (pc := 144) hx hb dX11_laysStood_144 hl rfl (Option.some.inj hv30) (by decide) rfl (fun ls hl => ?_)
              refine lv_goto (tgt := 75) (pc := 147) hx hb dX11_laysStood_147 rfl ?_
              obtain rfl := Option.some.inj hf
              exact ih rfl _ _ _ ⟨lv_sub hl [1, 2, 3, 4, 0] rfl, hP, hD, hS⟩
            · clear hf
              have hf := hj
              clear hj
              refine lv_if_ne (tgt := 123) (pc := 117) hx hb dX11_laysStood_117 rfl (fun hc => ?_) (fun hc => ?_)
              · have hf := za_f hf hc
                refine lv_aload_n (pc := 123) hx hb dX11_laysStood_123 rfl (lv_at hl 0 rfl) ?_
                refine va_get (pc := 124) (D := (dC, dI)) (ci := 0) (v := .ref (ad 38)) (C := RX11) (T := TX11) (N := 42) hx hb ht zr_lay hown hK hP 1 rfl rfl 37 (by decide) (ht _ zr_29) (fun _ h9 => h9) rfl dX11_laysStood_124 ?_
                refine lv_sipush (v := (2880 : Int32)) (pc := 127) hx hb dX11_laysStood_127 (by decide) ?_
                refine lv_iload_n (pc := 130) hx hb dX11_laysStood_130 rfl (lv_at hl 1 rfl) ?_
                refine lv_imul (pc := 131) hx hb dX11_laysStood_131 ?_
                refine lv_aload_n (pc := 132) hx hb dX11_laysStood_132 rfl (lv_at hl 0 rfl) ?_
                refine va_get (pc := 133) (D := (dC, dI)) (ci := 0) (v := .ref (ad 22)) (C := RX11) (T := TX11) (N := 42) hx hb ht zr_lay hown hK hP 1 rfl rfl 21 (by decide) (ht _ zr_15) (fun _ h9 => h9) rfl dX11_laysStood_133 ?_
                refine lv_iload (pc := 136) hx hb dX11_laysStood_136 (lv_at hl 3 rfl) ?_
                obtain ⟨v26, hv26, hf⟩ := zc_1 hf
                refine zw_iald (pc := 138) hx hb hK hP 0 0 rfl rfl hv26 dX11_laysStood_138 ?_
                refine lv_iadd (pc := 139) hx hb dX11_laysStood_139 ?_
                refine lv_iconst (v := (1 : Int32)) (pc := 140) hx hb dX11_laysStood_140 (by decide) ?_
                obtain ⟨a27, ha27, hf⟩ := zc_1 hf
                refine zw_zast (pc := 141) hx hb hK hP hD hS 3 2 rfl rfl rfl ha27 dX11_laysStood_141 (fun H locs hP hD hS => ?_)
                have hP : va_P (dC, dI) zz_cls [(ad 22, .inl (dA 0, 2880, .inl b_stand)), zr_o ad f_thrown f_taped f_at f_behind f_size f_kind f_number f_wrong f_wrongAt f_faultKind f_faultPlace f_reading f_toldWhy f_x f_standMany f_bestMany f_tail f_round1, (ad 23, .inl (dA 0, 43200, .inl b_then)), (ad 38, .inl (dA 2, 28800, .inl a27))] H := hP
                have hD : va_D A [(ad 22, .inl (dA 0, 2880, .inl b_stand)), zr_o ad f_thrown f_taped f_at f_behind f_size f_kind f_number f_wrong f_wrongAt f_faultKind f_faultPlace f_reading f_toldWhy f_x f_standMany f_bestMany f_tail f_round1, (ad 23, .inl (dA 0, 43200, .inl b_then)), (ad 38, .inl (dA 2, 28800, .inl a27))] := hD
                refine lv_iconst (v := (1 : Int32)) (pc := 142) hx hb dX11_laysStood_142 (by decide) ?_
                refine lv_istore_n (lv' := [(3, .int (1 : Int32)), (0, .ref (ad 0)), (2, .int p2), (4, .int v17), (5, .int v20)]) (pc := 143) hx hb dX11_laysStood_143 rfl hl (by decide) rfl (fun ls hl => ?_)
                obtain ⟨rfl, rfl⟩ := zi_2 hf
                exact J144 _ _ _ ⟨lv_sub hl [1, 2, 0, 3, 4] rfl, hP.sub [1, 0, 2, 3] rfl, hD.sub [1, 0, 2, 3] (by decide) rfl, hS⟩
              · have hf := za_t hf hc
                refine lv_goto (tgt := 144) (pc := 120) hx hb dX11_laysStood_120 rfl ?_
                obtain ⟨rfl, rfl⟩ := zi_2 hf
                exact J144 _ _ _ ⟨lv_sub hl [0, 1, 2, 3, 4] rfl, hP.sub [1, 0, 2, 3] rfl, hD.sub [1, 0, 2, 3] (by decide) rfl, hS⟩
  clear hf
  refine zw_loop (pcH := 2) (X := fun v H locs ls => lv_has ls 6 [(0, .ref (ad 0)), (1, .int p1), (2, .int p2), (3, .int v.1)] ∧ va_P (dC, dI) zz_cls [zr_o ad f_thrown f_taped f_at f_behind f_size f_kind f_number f_wrong f_wrongAt f_faultKind f_faultPlace f_reading f_toldWhy f_x f_standMany f_bestMany f_tail f_round1, (ad 22, .inl (dA 0, 2880, .inl b_stand)), (ad 23, .inl (dA 0, 43200, .inl b_then)), (ad 38, .inl (dA 2, 28800, .inl v.2))] H ∧ va_D A [zr_o ad f_thrown f_taped f_at f_behind f_size f_kind f_number f_wrong f_wrongAt f_faultKind f_faultPlace f_reading f_toldWhy f_x f_standMany f_bestMany f_tail f_round1, (ad 22, .inl (dA 0, 2880, .inl b_stand)), (ad 23, .inl (dA 0, 43200, .inl b_then)), (ad 38, .inl (dA 2, 28800, .inl v.2))] ∧ va_S A s.heap H locs) hj (fun v w hf ih ex H locs ls hX => ?_) _ _ _ ⟨lv_sub hl [1, 2, 3, 0] rfl, hP, hD, hS⟩
  clear hj
  obtain ⟨v1, a2⟩ := v
  obtain ⟨hl, hP, hD, hS⟩ := hX
  have hl : lv_has ls 6 [(0, .ref (ad 0)), (1, .int p1), (2, .int p2), (3, .int v1)] := hl
  have hP : va_P (dC, dI) zz_cls [zr_o ad f_thrown f_taped f_at f_behind f_size f_kind f_number f_wrong f_wrongAt f_faultKind f_faultPlace f_reading f_toldWhy f_x f_standMany f_bestMany f_tail f_round1, (ad 22, .inl (dA 0, 2880, .inl b_stand)), (ad 23, .inl (dA 0, 43200, .inl b_then)), (ad 38, .inl (dA 2, 28800, .inl a2))] H := hP
  have hD : va_D A [zr_o ad f_thrown f_taped f_at f_behind f_size f_kind f_number f_wrong f_wrongAt f_faultKind f_faultPlace f_reading f_toldWhy f_x f_standMany f_bestMany f_tail f_round1, (ad 22, .inl (dA 0, 2880, .inl b_stand)), (ad 23, .inl (dA 0, 43200, .inl b_then)), (ad 38, .inl (dA 2, 28800, .inl a2))] := hD
  replace hf : zb_X11_laysStood_2 f_standMany b_stand p1 p2 v1 a2 = some w := hf
  unfold zb_X11_laysStood_2 at hf
  refine lv_iload_n (pc := 2) hx hb dX11_laysStood_2 rfl (lv_at hl 3 rfl) ?_
  refine lv_aload_n (pc := 3) hx hb dX11_laysStood_3 rfl (lv_at hl 0 rfl) ?_
  refine va_get (pc := 4) (D := (dC, dI)) (ci := 0) (v := .int f_standMany) (C := RX11) (T := TX11) (N := 42) hx hb ht zr_lay hown hK hP 0 rfl rfl 25 (by decide) (ht _ zr_340) (fun _ h9 => h9) rfl dX11_laysStood_4 ?_
  refine lv_icmp_ge (tgt := 51) (pc := 7) hx hb dX11_laysStood_7 rfl (fun hc => ?_) (fun hc => ?_)
  · have hf := za_t hf hc
    obtain rfl := Option.some.inj hf
    obtain ⟨rfl, rfl, rfl⟩ := zp_3 (ex (show ¬ (1 : Nat) = 0 by decide))
    exact E51 _ _ _ ⟨lv_sub hl [0, 2] rfl, hP, hD, hS⟩
  · have hf := za_f hf hc
    refine lv_aload_n (pc := 10) hx hb dX11_laysStood_10 rfl (lv_at hl 0 rfl) ?_
    refine va_get (pc := 11) (D := (dC, dI)) (ci := 0) (v := .ref (ad 38)) (C := RX11) (T := TX11) (N := 42) hx hb ht zr_lay hown hK hP 0 rfl rfl 37 (by decide) (ht _ zr_29) (fun _ h9 => h9) rfl dX11_laysStood_11 ?_
    refine lv_sipush (v := (2880 : Int32)) (pc := 14) hx hb dX11_laysStood_14 (by decide) ?_
    refine lv_iload_n (pc := 17) hx hb dX11_laysStood_17 rfl (lv_at hl 2 rfl) ?_
    refine lv_imul (pc := 18) hx hb dX11_laysStood_18 ?_
    refine lv_aload_n (pc := 19) hx hb dX11_laysStood_19 rfl (lv_at hl 0 rfl) ?_
    refine va_get (pc := 20) (D := (dC, dI)) (ci := 0) (v := .ref (ad 22)) (C := RX11) (T := TX11) (N := 42) hx hb ht zr_lay hown hK hP 0 rfl rfl 21 (by decide) (ht _ zr_15) (fun _ h9 => h9) rfl dX11_laysStood_20 ?_
    refine lv_iload_n (pc := 23) hx hb dX11_laysStood_23 rfl (lv_at hl 3 rfl) ?_
    obtain ⟨v3, hv3, hf⟩ := zc_1 hf
    refine zw_iald (pc := 24) hx hb hK hP 1 0 rfl rfl hv3 dX11_laysStood_24 ?_
    refine lv_iadd (pc := 25) hx hb dX11_laysStood_25 ?_
    refine lv_aload_n (pc := 26) hx hb dX11_laysStood_26 rfl (lv_at hl 0 rfl) ?_
    refine va_get (pc := 27) (D := (dC, dI)) (ci := 0) (v := .ref (ad 22)) (C := RX11) (T := TX11) (N := 42) hx hb ht zr_lay hown hK hP 0 rfl rfl 21 (by decide) (ht _ zr_15) (fun _ h9 => h9) rfl dX11_laysStood_27 ?_
    refine lv_iload_n (pc := 30) hx hb dX11_laysStood_30 rfl (lv_at hl 3 rfl) ?_
    obtain ⟨v4, hv4, hf⟩ := zc_1 hf
    refine zw_iald (pc := 31) hx hb hK hP 1 0 rfl rfl hv4 dX11_laysStood_31 ?_
    obtain ⟨v5, hv5, hf⟩ := zc_1 hf
    refine zw_Si (pc := 32) (wc := []) (wr := [zr_o ad f_thrown f_taped f_at f_behind f_size f_kind f_number f_wrong f_wrongAt f_faultKind f_faultPlace f_reading f_toldWhy f_x f_standMany f_bestMany f_tail f_round1, (ad 22, .inl (dA 0, 2880, .inl b_stand)), (ad 23, .inl (dA 0, 43200, .inl b_then)), (ad 38, .inl (dA 2, 28800, .inl a2))]) (w1 := []) (As := [.int v4]) (rest := [.int (((2880 : Int32) * p2) + v3), .ref (ad 38)]) ⟨hx, hb, hml, hown, ht⟩ (zt_X11_rungIn l dC dI dA ad _ v4 v5 hv5) (cwS 1 ht (zr_S zr_217 zr_218 zr_36 zr_210) rfl rfl rfl zk_X11_rungIn ⟨Nat.le_of_ble_eq_true rfl, Nat.le_of_ble_eq_true rfl⟩) hK hP hD hS hA [] [0, 1, 2, 3] (by decide) (by decide) (by decide) rfl rfl rfl hl.1 (Nat.le_of_ble_eq_true rfl) dX11_laysStood_32 ⟨Nat.zero_le _, Nat.zero_le _⟩ rfl (fun H locs hP hD hS => ?_)
    have hP : va_P (dC, dI) zz_cls [zr_o ad f_thrown f_taped f_at f_behind f_size f_kind f_number f_wrong f_wrongAt f_faultKind f_faultPlace f_reading f_toldWhy f_x f_standMany f_bestMany f_tail f_round1, (ad 22, .inl (dA 0, 2880, .inl b_stand)), (ad 23, .inl (dA 0, 43200, .inl b_then)), (ad 38, .inl (dA 2, 28800, .inl a2))] H := hP
    have hD : va_D A [zr_o ad f_thrown f_taped f_at f_behind f_size f_kind f_number f_wrong f_wrongAt f_faultKind f_faultPlace f_reading f_toldWhy f_x f_standMany f_bestMany f_tail f_round1, (ad 22, .inl (dA 0, 2880, .inl b_stand)), (ad 23, .inl (dA 0, 43200, .inl b_then)), (ad 38, .inl (dA 2, 28800, .inl a2))] := hD
    refine lv_iload_n (pc := 35) hx hb dX11_laysStood_35 rfl (lv_at hl 1 rfl) ?_
    obtain ⟨v6, hj, hf⟩ := zc_1 hf
    refine zj_join (pcJ := 44) (stk := [.int v6, .int (((2880 : Int32) * p2) + v3), .ref (ad 38)]) (X := fun H locs ls => lv_has ls 6 [(0, .ref (ad 0)), (1, .int p1), (2, .int p2), (3, .int v1)] ∧ va_P (dC, dI) zz_cls [zr_o ad f_thrown f_taped f_at f_behind f_size f_kind f_number f_wrong f_wrongAt f_faultKind f_faultPlace f_reading f_toldWhy f_x f_standMany f_bestMany f_tail f_round1, (ad 22, .inl (dA 0, 2880, .inl b_stand)), (ad 23, .inl (dA 0, 43200, .inl b_then)), (ad 38, .inl (dA 2, 28800, .inl a2))] H ∧ va_D A [zr_o ad f_thrown f_taped f_at f_behind f_size f_kind f_number f_wrong f_wrongAt f_faultKind f_faultPlace f_reading f_toldWhy f_x f_standMany f_bestMany f_tail f_round1, (ad 22, .inl (dA 0, 2880, .inl b_stand)), (ad 23, .inl (dA 0, 43200, .inl b_then)), (ad 38, .inl (dA 2, 28800, .inl a2))] ∧ va_S A s.heap H locs) (fun H locs ls hX => ?_) (fun J44 => ?_)
    · obtain ⟨hl, hP, hD, hS⟩ := hX
      clear hj
      obtain ⟨v7, hv7, hf⟩ := zc_1 hf
      obtain ⟨ev7, nv7⟩ := za_zbs hv7
      refine zw_top (congrArg some ev7) ?_
      obtain ⟨a8, ha8, hf⟩ := zc_1 hf
      refine zw_zast (pc := 44) hx hb hK hP hD hS 3 2 rfl rfl nv7 ha8 dX11_laysStood_44 (fun H locs hP hD hS => ?_)
      have hP : va_P (dC, dI) zz_cls [zr_o ad f_thrown f_taped f_at f_behind f_size f_kind f_number f_wrong f_wrongAt f_faultKind f_faultPlace f_reading f_toldWhy f_x f_standMany f_bestMany f_tail f_round1, (ad 22, .inl (dA 0, 2880, .inl b_stand)), (ad 23, .inl (dA 0, 43200, .inl b_then)), (ad 38, .inl (dA 2, 28800, .inl a8))] H := hP
      have hD : va_D A [zr_o ad f_thrown f_taped f_at f_behind f_size f_kind f_number f_wrong f_wrongAt f_faultKind f_faultPlace f_reading f_toldWhy f_x f_standMany f_bestMany f_tail f_round1, (ad 22, .inl (dA 0, 2880, .inl b_stand)), (ad 23, .inl (dA 0, 43200, .inl b_then)), (ad 38, .inl (dA 2, 28800, .inl a8))] := hD
      obtain ⟨v9, hv9, hf⟩ := zc_1 hf
      refine lv_iinc (v := v9) (lv' := [(3, .int v9), (0, .ref (ad 0)), (1, .int p1), (2, .int p2)]) (k := 3) (pc := 45) hx hb dX11_laysStood_45 hl rfl (Option.some.inj hv9) (by decide) rfl (fun ls hl => ?_)
      refine lv_goto (tgt := 2) (pc := 48) hx hb dX11_laysStood_48 rfl ?_
      obtain rfl := Option.some.inj hf
      exact ih rfl _ _ _ ⟨lv_sub hl [1, 2, 3, 0] rfl, hP, hD, hS⟩
    · clear hf
      have hf := hj
      clear hj
      refine lv_icmp_ne (tgt := 43) (pc := 36) hx hb dX11_laysStood_36 rfl (fun hc => ?_) (fun hc => ?_)
      · have hf := za_f hf hc
        refine lv_iconst (v := (0 : Int32)) (pc := 43) hx hb dX11_laysStood_43 (by decide) ?_
        obtain rfl := Option.some.inj hf
        exact J44 _ _ _ ⟨lv_sub hl [0, 1, 2, 3] rfl, hP, hD, hS⟩
      · have hf := za_t hf hc
        refine lv_iconst (v := (1 : Int32)) (pc := 39) hx hb dX11_laysStood_39 (by decide) ?_
        refine lv_goto (tgt := 44) (pc := 40) hx hb dX11_laysStood_40 rfl ?_
        obtain rfl := Option.some.inj hf
        exact J44 _ _ _ ⟨lv_sub hl [0, 1, 2, 3] rfl, hP, hD, hS⟩

def zb_X11_withstands_25 (n : Nat) (v2 : Int32) (a5 : (Nat → Int32)) (a6 : (Nat → Int32)) (p1 : Int32) (b_all : (Nat → Int32)) (v8 : Int32) (v9 : Int32) (a10 : (Nat → Int32)) : Option (Nat × Int32 × Int32 × (Nat → Int32)) :=
  if (10 : Int32) ≤ v9 then
    some (1, v8, v9, a10)
  else
    zd_1 (zf_X11_laysStood n v2 a5 a6 a10 p1 v9) (fun a11 =>
    zd_1 (zf_X11_standNow b_all) (fun v12 =>
    zd_1 (za_ld a11 28800 (((2880 : Int32) * v9) + v12)) (fun v13 =>
    zd_1 (
      if v13 = 0 then
        some v8
      else
        some v9) (fun v14 =>
    zd_1 (some (v9 + (1 : Int32))) (fun v15 =>
    some (0, v14, v15, a11))))))
def zf_X11_withstands (n : Nat) (f_thrown : Int32) (f_standMany : Int32) (b_all : (Nat → Int32)) (b_reckoned : (Nat → Int32)) (b_words : (Nat → Int32)) (b_stand : (Nat → Int32)) (b_then : (Nat → Int32)) (b_known : (Nat → Int32)) (b_stood : (Nat → Int32)) (p1 : Int32) : Option (Int32 × Int32 × Int32 × (Nat → Int32) × (Nat → Int32) × (Nat → Int32) × (Nat → Int32) × (Nat → Int32) × (Nat → Int32)) :=
  zd_1 (zf_X11_isRung b_all p1) (fun v1 =>
  if v1 = 0 then
    some ((-2 : Int32), (0 : Int32), f_standMany, b_reckoned, b_words, b_stand, b_then, b_known, b_stood)
  else
    zd_6 (zf_X11_laysStands n f_standMany b_all b_reckoned b_words b_stand b_then b_known (1 : Int32)) (fun v2 a3 a4 a5 a6 a7 =>
    zd_4 (za_it (fun v => zb_X11_withstands_25 n v2 a5 a6 p1 b_all v.1 v.2.1 v.2.2) n ((-1 : Int32), (0 : Int32), b_stood)) (fun g19 v16 v17 a18 =>
    some (v16, (0 : Int32), v2, a3, a4, a5, a6, a7, a18))))
theorem zk_X11_withstands : yX11_withstands.cls = RX11 ∧ yX11_withstands.cls ≠ "java/lang/invoke/MethodHandle" ∧ yX11_withstands.cls ≠ "java/lang/invoke/VarHandle" ∧ (parseMethodDescriptor yX11_withstands.desc).map (fun d => d.parameters.length) = some 1 := by decide +kernel
set_option maxHeartbeats 4000000 in
set_option maxRecDepth 100000 in
theorem zt_X11_withstands (l : Launch) (dC : Nat → ClassId) (dI : Nat → Nat → Nat) (dA : Nat → ClassId) (ad : Nat → Nat) (sz : Nat) (n : Nat) (f_thrown f_taped f_at f_behind f_size f_kind f_number f_wrong f_wrongAt f_faultKind f_faultPlace f_reading f_toldWhy f_x f_standMany f_bestMany f_tail f_round1 : Int32) (b_all : (Nat → Int32)) (b_reckoned : (Nat → Int32)) (b_words : (Nat → Int32)) (b_stand : (Nat → Int32)) (b_then : (Nat → Int32)) (b_known : (Nat → Int32)) (b_stood : (Nat → Int32)) (p1 : Int32) (r0 : Int32) (o1 : Int32) (o2 : Int32) (o3 : (Nat → Int32)) (o4 : (Nat → Int32)) (o5 : (Nat → Int32)) (o6 : (Nat → Int32)) (o7 : (Nat → Int32)) (o8 : (Nat → Int32)) (hf : zf_X11_withstands n f_thrown f_standMany b_all b_reckoned b_words b_stand b_then b_known b_stood p1 = some (r0, o1, o2, o3, o4, o5, o6, o7, o8)) : Met l yX11_withstands (.code yX11_withstands cX11_withstands 4 (some .int) :: zr_T) ({ frames := 5, cells := 0, slots := 0, locals := 123 }) (va_Pc [.ref (ad 0), .int p1] (zz_M dC dI dA [zr_o ad f_thrown f_taped f_at f_behind f_size f_kind f_number f_wrong f_wrongAt f_faultKind f_faultPlace f_reading f_toldWhy f_x f_standMany f_bestMany f_tail f_round1, (ad 2, .inl (dA 0, 2982, .inl b_all)), (ad 17, .inl (dA 0, 900, .inl b_reckoned)), (ad 18, .inl (dA 0, 6, .inl b_words)), (ad 22, .inl (dA 0, 2880, .inl b_stand)), (ad 23, .inl (dA 0, 43200, .inl b_then)), (ad 25, .inl (dA 2, 2880, .inl b_known)), (ad 38, .inl (dA 2, 28800, .inl b_stood))] sz)) (va_Qi (fun (r : Int32) (_ : Unit) => r = r0) (fun _ t => zz_B dC dI dA (va_A [zr_o ad f_thrown f_taped f_at f_behind f_size f_kind f_number f_wrong f_wrongAt f_faultKind f_faultPlace f_reading f_toldWhy f_x f_standMany f_bestMany f_tail f_round1, (ad 2, .inl (dA 0, 2982, .inl b_all)), (ad 17, .inl (dA 0, 900, .inl b_reckoned)), (ad 18, .inl (dA 0, 6, .inl b_words)), (ad 22, .inl (dA 0, 2880, .inl b_stand)), (ad 23, .inl (dA 0, 43200, .inl b_then)), (ad 25, .inl (dA 2, 2880, .inl b_known)), (ad 38, .inl (dA 2, 28800, .inl b_stood))] sz) [zr_o ad o1 f_taped f_at f_behind f_size f_kind f_number f_wrong f_wrongAt f_faultKind f_faultPlace f_reading f_toldWhy f_x o2 f_bestMany f_tail f_round1, (ad 2, .inl (dA 0, 2982, .inl b_all)), (ad 17, .inl (dA 0, 900, .inl o3)), (ad 18, .inl (dA 0, 6, .inl o4)), (ad 22, .inl (dA 0, 2880, .inl o5)), (ad 23, .inl (dA 0, 43200, .inl o6)), (ad 25, .inl (dA 2, 2880, .inl o7)), (ad 38, .inl (dA 2, 28800, .inl o8))] t) (va_A [zr_o ad f_thrown f_taped f_at f_behind f_size f_kind f_number f_wrong f_wrongAt f_faultKind f_faultPlace f_reading f_toldWhy f_x f_standMany f_bestMany f_tail f_round1, (ad 2, .inl (dA 0, 2982, .inl b_all)), (ad 17, .inl (dA 0, 900, .inl b_reckoned)), (ad 18, .inl (dA 0, 6, .inl b_words)), (ad 22, .inl (dA 0, 2880, .inl b_stand)), (ad 23, .inl (dA 0, 43200, .inl b_then)), (ad 25, .inl (dA 2, 2880, .inl b_known)), (ad 38, .inl (dA 2, 28800, .inl b_stood))] sz)) 0 0 (va_A [zr_o ad f_thrown f_taped f_at f_behind f_size f_kind f_number f_wrong f_wrongAt f_faultKind f_faultPlace f_reading f_toldWhy f_x f_standMany f_bestMany f_tail f_round1, (ad 2, .inl (dA 0, 2982, .inl b_all)), (ad 17, .inl (dA 0, 900, .inl b_reckoned)), (ad 18, .inl (dA 0, 6, .inl b_words)), (ad 22, .inl (dA 0, 2880, .inl b_stand)), (ad 23, .inl (dA 0, 43200, .inl b_then)), (ad 25, .inl (dA 2, 2880, .inl b_known)), (ad 38, .inl (dA 2, 28800, .inl b_stood))] sz) := by
  unfold zf_X11_withstands at hf
  refine Met.ofW (cc := cX11_withstands) (maxL := 4) (ret := (some .int)) (by decide) rfl ?_
  intro p e s m args below meth c s₁ B hml hv
  obtain ⟨rfl, hsz, hP, hK, hD0⟩ := hv
  have hx := B.exec
  have hb := B.bytes
  have hr := B.returns
  have ht : ∀ w ∈ zr_T, w.before ([.ref (ad 0), .int p1] : List Value).toArray s = true := fun w hw => atoms_spec (ws := .code yX11_withstands cX11_withstands 4 (some .int) :: zr_T) B.pre w (List.mem_cons_of_mem _ hw)
  have hown : s.vm.findClass RX11 = some m.cls := findClass_of_methodNamed B.named
  have hlocks := B.notSynchronized
  subst hsz
  have hD := hD0.self (sz := s.heap.size)
  generalize hAe : va_A [zr_o ad f_thrown f_taped f_at f_behind f_size f_kind f_number f_wrong f_wrongAt f_faultKind f_faultPlace f_reading f_toldWhy f_x f_standMany f_bestMany f_tail f_round1, (ad 2, .inl (dA 0, 2982, .inl b_all)), (ad 17, .inl (dA 0, 900, .inl b_reckoned)), (ad 18, .inl (dA 0, 6, .inl b_words)), (ad 22, .inl (dA 0, 2880, .inl b_stand)), (ad 23, .inl (dA 0, 43200, .inl b_then)), (ad 25, .inl (dA 2, 2880, .inl b_known)), (ad 38, .inl (dA 2, 28800, .inl b_stood))] s.heap.size = A at hD ⊢
  have hA : ∀ q : Nat, s.heap.size ≤ q → A q := fun q h => by rw [← hAe]; exact Or.inr h
  clear hAe hD0
  have hS : va_S A s.heap s.heap [] := va_S.rf
  have hl := lv_entry ([.ref (ad 0), .int p1]) (n := 4) (Nat.le_of_ble_eq_true rfl)
  rw [lg_entry_eq]
  generalize (lg_sl ([.ref (ad 0), .int p1]) ++ List.replicate (4 - (lg_sl ([.ref (ad 0), .int p1])).length) Slot.unset).toArray = ls at hl ⊢
  have hl : lv_has ls 4 [(0, .ref (ad 0)), (1, .int p1)] := hl
  refine lv_aload_n (pc := 0) hx hb dX11_withstands_0 rfl (lv_at hl 0 rfl) ?_
  refine lv_iconst (v := (0 : Int32)) (pc := 1) hx hb dX11_withstands_1 (by decide) ?_
  refine va_put (pc := 2) (D := (dC, dI)) (ci := 0) (v := .int (0 : Int32)) (ty := .int) (C := RX11) (T := TX11) (N := 42) hx hb ht zr_lay tyX11 tyX11_ok nmX11 hown hK hP hD hS 0 rfl rfl 0 (by decide) (ht _ zr_39) (fun _ h9 => h9) rfl (by decide +kernel) rfl rfl (Nat.le_of_ble_eq_true rfl) dX11_withstands_2 (fun H locs hP hD hS => ?_)
  have hP : va_P (dC, dI) zz_cls [zr_o ad (0 : Int32) f_taped f_at f_behind f_size f_kind f_number f_wrong f_wrongAt f_faultKind f_faultPlace f_reading f_toldWhy f_x f_standMany f_bestMany f_tail f_round1, (ad 2, .inl (dA 0, 2982, .inl b_all)), (ad 17, .inl (dA 0, 900, .inl b_reckoned)), (ad 18, .inl (dA 0, 6, .inl b_words)), (ad 22, .inl (dA 0, 2880, .inl b_stand)), (ad 23, .inl (dA 0, 43200, .inl b_then)), (ad 25, .inl (dA 2, 2880, .inl b_known)), (ad 38, .inl (dA 2, 28800, .inl b_stood))] H := hP
  have hD : va_D A [zr_o ad (0 : Int32) f_taped f_at f_behind f_size f_kind f_number f_wrong f_wrongAt f_faultKind f_faultPlace f_reading f_toldWhy f_x f_standMany f_bestMany f_tail f_round1, (ad 2, .inl (dA 0, 2982, .inl b_all)), (ad 17, .inl (dA 0, 900, .inl b_reckoned)), (ad 18, .inl (dA 0, 6, .inl b_words)), (ad 22, .inl (dA 0, 2880, .inl b_stand)), (ad 23, .inl (dA 0, 43200, .inl b_then)), (ad 25, .inl (dA 2, 2880, .inl b_known)), (ad 38, .inl (dA 2, 28800, .inl b_stood))] := hD
  refine lv_aload_n (pc := 5) hx hb dX11_withstands_5 rfl (lv_at hl 0 rfl) ?_
  refine lv_iload_n (pc := 6) hx hb dX11_withstands_6 rfl (lv_at hl 1 rfl) ?_
  obtain ⟨v1, hv1, hf⟩ := zc_1 hf
  refine zw_Vi (pc := 7) (wc := [zr_o ad (0 : Int32) f_taped f_at f_behind f_size f_kind f_number f_wrong f_wrongAt f_faultKind f_faultPlace f_reading f_toldWhy f_x f_standMany f_bestMany f_tail f_round1, (ad 2, .inl (dA 0, 2982, .inl b_all))]) (wr := [(ad 17, .inl (dA 0, 900, .inl b_reckoned)), (ad 18, .inl (dA 0, 6, .inl b_words)), (ad 22, .inl (dA 0, 2880, .inl b_stand)), (ad 23, .inl (dA 0, 43200, .inl b_then)), (ad 25, .inl (dA 2, 2880, .inl b_known)), (ad 38, .inl (dA 2, 28800, .inl b_stood))]) (w1 := [zr_o ad (0 : Int32) f_taped f_at f_behind f_size f_kind f_number f_wrong f_wrongAt f_faultKind f_faultPlace f_reading f_toldWhy f_x f_standMany f_bestMany f_tail f_round1, (ad 2, .inl (dA 0, 2982, .inl b_all))]) (As := [.int p1]) (rest := []) ⟨hx, hb, hml, hown, ht⟩ (zt_X11_isRung l dC dI dA ad _ (0 : Int32) f_taped f_at f_behind f_size f_kind f_number f_wrong f_wrongAt f_faultKind f_faultPlace f_reading f_toldWhy f_x f_standMany f_bestMany f_tail f_round1 b_all p1 v1 hv1) (cwV 1 ht (zr_V zr_255 zr_256 zr_257 zr_36 zr_206) rfl rfl rfl zk_X11_isRung ⟨Nat.le_of_ble_eq_true rfl, Nat.le_of_ble_eq_true rfl⟩) rfl rfl hK hP hD hS hA [0, 1] [2, 3, 4, 5, 6, 7] (by decide) (by decide) (by decide) rfl rfl rfl hl.1 (Nat.le_of_ble_eq_true rfl) dX11_withstands_7 ⟨Nat.zero_le _, Nat.zero_le _⟩ rfl (fun H locs hP hD hS => ?_)
  have hP : va_P (dC, dI) zz_cls [(ad 17, .inl (dA 0, 900, .inl b_reckoned)), (ad 18, .inl (dA 0, 6, .inl b_words)), (ad 22, .inl (dA 0, 2880, .inl b_stand)), (ad 23, .inl (dA 0, 43200, .inl b_then)), (ad 25, .inl (dA 2, 2880, .inl b_known)), (ad 38, .inl (dA 2, 28800, .inl b_stood)), zr_o ad (0 : Int32) f_taped f_at f_behind f_size f_kind f_number f_wrong f_wrongAt f_faultKind f_faultPlace f_reading f_toldWhy f_x f_standMany f_bestMany f_tail f_round1, (ad 2, .inl (dA 0, 2982, .inl b_all))] H := hP
  have hD : va_D A [(ad 17, .inl (dA 0, 900, .inl b_reckoned)), (ad 18, .inl (dA 0, 6, .inl b_words)), (ad 22, .inl (dA 0, 2880, .inl b_stand)), (ad 23, .inl (dA 0, 43200, .inl b_then)), (ad 25, .inl (dA 2, 2880, .inl b_known)), (ad 38, .inl (dA 2, 28800, .inl b_stood)), zr_o ad (0 : Int32) f_taped f_at f_behind f_size f_kind f_number f_wrong f_wrongAt f_faultKind f_faultPlace f_reading f_toldWhy f_x f_standMany f_bestMany f_tail f_round1, (ad 2, .inl (dA 0, 2982, .inl b_all))] := hD
  refine lv_if_ne (tgt := 16) (pc := 10) hx hb dX11_withstands_10 rfl (fun hc => ?_) (fun hc => ?_)
  · have hf := za_f hf hc
    refine lv_aload_n (pc := 16) hx hb dX11_withstands_16 rfl (lv_at hl 0 rfl) ?_
    refine lv_iconst (v := (1 : Int32)) (pc := 17) hx hb dX11_withstands_17 (by decide) ?_
    obtain ⟨v2, a3, a4, a5, a6, a7, hv2, hf⟩ := zc_6 hf
    refine zw_Vv (pc := 18) (wc := [zr_o ad (0 : Int32) f_taped f_at f_behind f_size f_kind f_number f_wrong f_wrongAt f_faultKind f_faultPlace f_reading f_toldWhy f_x f_standMany f_bestMany f_tail f_round1, (ad 2, .inl (dA 0, 2982, .inl b_all)), (ad 17, .inl (dA 0, 900, .inl b_reckoned)), (ad 18, .inl (dA 0, 6, .inl b_words)), (ad 22, .inl (dA 0, 2880, .inl b_stand)), (ad 23, .inl (dA 0, 43200, .inl b_then)), (ad 25, .inl (dA 2, 2880, .inl b_known))]) (wr := [(ad 38, .inl (dA 2, 28800, .inl b_stood))]) (w1 := [zr_o ad (0 : Int32) f_taped f_at f_behind f_size f_kind f_number f_wrong f_wrongAt f_faultKind f_faultPlace f_reading f_toldWhy f_x v2 f_bestMany f_tail f_round1, (ad 2, .inl (dA 0, 2982, .inl b_all)), (ad 17, .inl (dA 0, 900, .inl a3)), (ad 18, .inl (dA 0, 6, .inl a4)), (ad 22, .inl (dA 0, 2880, .inl a5)), (ad 23, .inl (dA 0, 43200, .inl a6)), (ad 25, .inl (dA 2, 2880, .inl a7))]) (As := [.int (1 : Int32)]) (rest := []) ⟨hx, hb, hml, hown, ht⟩ (zt_X11_laysStands l dC dI dA ad _ n (0 : Int32) f_taped f_at f_behind f_size f_kind f_number f_wrong f_wrongAt f_faultKind f_faultPlace f_reading f_toldWhy f_x f_standMany f_bestMany f_tail f_round1 b_all b_reckoned b_words b_stand b_then b_known (1 : Int32) v2 a3 a4 a5 a6 a7 hv2) (cwV 1 ht (zr_V zr_354 zr_355 zr_356 zr_36 zr_350) rfl rfl rfl zk_X11_laysStands ⟨Nat.le_of_ble_eq_true rfl, Nat.le_of_ble_eq_true rfl⟩) rfl rfl hK hP hD hS hA [6, 7, 0, 1, 2, 3, 4] [5] (by decide) (by decide) (by decide) rfl rfl rfl hl.1 (Nat.le_of_ble_eq_true rfl) dX11_withstands_18 ⟨Nat.zero_le _, Nat.zero_le _⟩ rfl (fun H locs hP hD hS => ?_)
    have hP : va_P (dC, dI) zz_cls [(ad 38, .inl (dA 2, 28800, .inl b_stood)), zr_o ad (0 : Int32) f_taped f_at f_behind f_size f_kind f_number f_wrong f_wrongAt f_faultKind f_faultPlace f_reading f_toldWhy f_x v2 f_bestMany f_tail f_round1, (ad 2, .inl (dA 0, 2982, .inl b_all)), (ad 17, .inl (dA 0, 900, .inl a3)), (ad 18, .inl (dA 0, 6, .inl a4)), (ad 22, .inl (dA 0, 2880, .inl a5)), (ad 23, .inl (dA 0, 43200, .inl a6)), (ad 25, .inl (dA 2, 2880, .inl a7))] H := hP
    have hD : va_D A [(ad 38, .inl (dA 2, 28800, .inl b_stood)), zr_o ad (0 : Int32) f_taped f_at f_behind f_size f_kind f_number f_wrong f_wrongAt f_faultKind f_faultPlace f_reading f_toldWhy f_x v2 f_bestMany f_tail f_round1, (ad 2, .inl (dA 0, 2982, .inl b_all)), (ad 17, .inl (dA 0, 900, .inl a3)), (ad 18, .inl (dA 0, 6, .inl a4)), (ad 22, .inl (dA 0, 2880, .inl a5)), (ad 23, .inl (dA 0, 43200, .inl a6)), (ad 25, .inl (dA 2, 2880, .inl a7))] := hD
    refine lv_iconst (v := (-1 : Int32)) (pc := 21) hx hb dX11_withstands_21 (by decide) ?_
    refine lv_istore_n (lv' := [(2, .int (-1 : Int32)), (0, .ref (ad 0)), (1, .int p1)]) (pc := 22) hx hb dX11_withstands_22 rfl hl (by decide) rfl (fun ls hl => ?_)
    refine lv_iconst (v := (0 : Int32)) (pc := 23) hx hb dX11_withstands_23 (by decide) ?_
    refine lv_istore_n (lv' := [(3, .int (0 : Int32)), (2, .int (-1 : Int32)), (0, .ref (ad 0)), (1, .int p1)]) (pc := 24) hx hb dX11_withstands_24 rfl hl (by decide) rfl (fun ls hl => ?_)
    obtain ⟨g19, v16, v17, a18, hj, hf⟩ := zc_4 hf
    refine zj_join (pcJ := 63) (stk := []) (X := fun H locs ls => lv_has ls 4 [(2, .int v16)] ∧ va_P (dC, dI) zz_cls [zr_o ad (0 : Int32) f_taped f_at f_behind f_size f_kind f_number f_wrong f_wrongAt f_faultKind f_faultPlace f_reading f_toldWhy f_x v2 f_bestMany f_tail f_round1, (ad 2, .inl (dA 0, 2982, .inl b_all)), (ad 17, .inl (dA 0, 900, .inl a3)), (ad 18, .inl (dA 0, 6, .inl a4)), (ad 22, .inl (dA 0, 2880, .inl a5)), (ad 23, .inl (dA 0, 43200, .inl a6)), (ad 25, .inl (dA 2, 2880, .inl a7)), (ad 38, .inl (dA 2, 28800, .inl a18))] H ∧ va_D A [zr_o ad (0 : Int32) f_taped f_at f_behind f_size f_kind f_number f_wrong f_wrongAt f_faultKind f_faultPlace f_reading f_toldWhy f_x v2 f_bestMany f_tail f_round1, (ad 2, .inl (dA 0, 2982, .inl b_all)), (ad 17, .inl (dA 0, 900, .inl a3)), (ad 18, .inl (dA 0, 6, .inl a4)), (ad 22, .inl (dA 0, 2880, .inl a5)), (ad 23, .inl (dA 0, 43200, .inl a6)), (ad 25, .inl (dA 2, 2880, .inl a7)), (ad 38, .inl (dA 2, 28800, .inl a18))] ∧ va_S A s.heap H locs) (fun H locs ls hX => ?_) (fun E63 => ?_)
    · obtain ⟨hl, hP, hD, hS⟩ := hX
      clear hj
      refine lv_iload_n (pc := 63) hx hb dX11_withstands_63 rfl (lv_at hl 0 rfl) ?_
      obtain ⟨rfl, rfl, rfl, rfl, rfl, rfl, rfl, rfl, rfl⟩ := zi_9 hf
      exact W.iret (pc := 64) hx hb hr (fun t ht hW => ⟨⟨_, (), rfl, rfl, zz_Bi (by rw [ht]; exact hP) (va_K.moved hW.alike hK) (hD)⟩, hS.F ht⟩) hS.2.2 dX11_withstands_64
    clear hf
    refine zw_loop (pcH := 25) (X := fun v H locs ls => lv_has ls 4 [(0, .ref (ad 0)), (1, .int p1), (2, .int v.1), (3, .int v.2.1)] ∧ va_P (dC, dI) zz_cls [zr_o ad (0 : Int32) f_taped f_at f_behind f_size f_kind f_number f_wrong f_wrongAt f_faultKind f_faultPlace f_reading f_toldWhy f_x v2 f_bestMany f_tail f_round1, (ad 2, .inl (dA 0, 2982, .inl b_all)), (ad 17, .inl (dA 0, 900, .inl a3)), (ad 18, .inl (dA 0, 6, .inl a4)), (ad 22, .inl (dA 0, 2880, .inl a5)), (ad 23, .inl (dA 0, 43200, .inl a6)), (ad 25, .inl (dA 2, 2880, .inl a7)), (ad 38, .inl (dA 2, 28800, .inl v.2.2))] H ∧ va_D A [zr_o ad (0 : Int32) f_taped f_at f_behind f_size f_kind f_number f_wrong f_wrongAt f_faultKind f_faultPlace f_reading f_toldWhy f_x v2 f_bestMany f_tail f_round1, (ad 2, .inl (dA 0, 2982, .inl b_all)), (ad 17, .inl (dA 0, 900, .inl a3)), (ad 18, .inl (dA 0, 6, .inl a4)), (ad 22, .inl (dA 0, 2880, .inl a5)), (ad 23, .inl (dA 0, 43200, .inl a6)), (ad 25, .inl (dA 2, 2880, .inl a7)), (ad 38, .inl (dA 2, 28800, .inl v.2.2))] ∧ va_S A s.heap H locs) hj (fun v w hf ih ex H locs ls hX => ?_) _ _ _ ⟨lv_sub hl [2, 3, 1, 0] rfl, hP.sub [1, 2, 3, 4, 5, 6, 7, 0] rfl, hD.sub [1, 2, 3, 4, 5, 6, 7, 0] (by decide) rfl, hS⟩
    clear hj
    obtain ⟨v8, v9, a10⟩ := v
    obtain ⟨hl, hP, hD, hS⟩ := hX
    have hl : lv_has ls 4 [(0, .ref (ad 0)), (1, .int p1), (2, .int v8), (3, .int v9)] := hl
    have hP : va_P (dC, dI) zz_cls [zr_o ad (0 : Int32) f_taped f_at f_behind f_size f_kind f_number f_wrong f_wrongAt f_faultKind f_faultPlace f_reading f_toldWhy f_x v2 f_bestMany f_tail f_round1, (ad 2, .inl (dA 0, 2982, .inl b_all)), (ad 17, .inl (dA 0, 900, .inl a3)), (ad 18, .inl (dA 0, 6, .inl a4)), (ad 22, .inl (dA 0, 2880, .inl a5)), (ad 23, .inl (dA 0, 43200, .inl a6)), (ad 25, .inl (dA 2, 2880, .inl a7)), (ad 38, .inl (dA 2, 28800, .inl a10))] H := hP
    have hD : va_D A [zr_o ad (0 : Int32) f_taped f_at f_behind f_size f_kind f_number f_wrong f_wrongAt f_faultKind f_faultPlace f_reading f_toldWhy f_x v2 f_bestMany f_tail f_round1, (ad 2, .inl (dA 0, 2982, .inl b_all)), (ad 17, .inl (dA 0, 900, .inl a3)), (ad 18, .inl (dA 0, 6, .inl a4)), (ad 22, .inl (dA 0, 2880, .inl a5)), (ad 23, .inl (dA 0, 43200, .inl a6)), (ad 25, .inl (dA 2, 2880, .inl a7)), (ad 38, .inl (dA 2, 28800, .inl a10))] := hD
    replace hf : zb_X11_withstands_25 n v2 a5 a6 p1 b_all v8 v9 a10 = some w := hf
    unfold zb_X11_withstands_25 at hf
    refine lv_iload_n (pc := 25) hx hb dX11_withstands_25 rfl (lv_at hl 3 rfl) ?_
    refine lv_bipush (v := (10 : Int32)) (pc := 26) hx hb dX11_withstands_26 (by decide) ?_
    refine lv_icmp_ge (tgt := 63) (pc := 28) hx hb dX11_withstands_28 rfl (fun hc => ?_) (fun hc => ?_)
    · have hf := za_t hf hc
      obtain rfl := Option.some.inj hf
      obtain ⟨rfl, rfl, rfl, rfl⟩ := zp_4 (ex (show ¬ (1 : Nat) = 0 by decide))
      exact E63 _ _ _ ⟨lv_sub hl [2] rfl, hP, hD, hS⟩
    · have hf := za_f hf hc
      refine lv_aload_n (pc := 31) hx hb dX11_withstands_31 rfl (lv_at hl 0 rfl) ?_
      refine lv_iload_n (pc := 32) hx hb dX11_withstands_32 rfl (lv_at hl 1 rfl) ?_
      refine lv_iload_n (pc := 33) hx hb dX11_withstands_33 rfl (lv_at hl 3 rfl) ?_
      obtain ⟨a11, ha11, hf⟩ := zc_1 hf
      refine zw_Vv (pc := 34) (wc := [zr_o ad (0 : Int32) f_taped f_at f_behind f_size f_kind f_number f_wrong f_wrongAt f_faultKind f_faultPlace f_reading f_toldWhy f_x v2 f_bestMany f_tail f_round1, (ad 22, .inl (dA 0, 2880, .inl a5)), (ad 23, .inl (dA 0, 43200, .inl a6)), (ad 38, .inl (dA 2, 28800, .inl a10))]) (wr := [(ad 2, .inl (dA 0, 2982, .inl b_all)), (ad 17, .inl (dA 0, 900, .inl a3)), (ad 18, .inl (dA 0, 6, .inl a4)), (ad 25, .inl (dA 2, 2880, .inl a7))]) (w1 := [zr_o ad (0 : Int32) f_taped f_at f_behind f_size f_kind f_number f_wrong f_wrongAt f_faultKind f_faultPlace f_reading f_toldWhy f_x v2 f_bestMany f_tail f_round1, (ad 22, .inl (dA 0, 2880, .inl a5)), (ad 23, .inl (dA 0, 43200, .inl a6)), (ad 38, .inl (dA 2, 28800, .inl a11))]) (As := [.int p1, .int v9]) (rest := []) ⟨hx, hb, hml, hown, ht⟩ (zt_X11_laysStood l dC dI dA ad _ n (0 : Int32) f_taped f_at f_behind f_size f_kind f_number f_wrong f_wrongAt f_faultKind f_faultPlace f_reading f_toldWhy f_x v2 f_bestMany f_tail f_round1 a5 a6 a10 p1 v9 a11 ha11) (cwV 2 ht (zr_V zr_446 zr_447 zr_448 zr_36 zr_442) rfl rfl rfl zk_X11_laysStood ⟨Nat.le_of_ble_eq_true rfl, Nat.le_of_ble_eq_true rfl⟩) rfl rfl hK hP hD hS hA [0, 4, 5, 7] [1, 2, 3, 6] (by decide) (by decide) (by decide) rfl rfl rfl hl.1 (Nat.le_of_ble_eq_true rfl) dX11_withstands_34 ⟨Nat.zero_le _, Nat.zero_le _⟩ rfl (fun H locs hP hD hS => ?_)
      have hP : va_P (dC, dI) zz_cls [(ad 2, .inl (dA 0, 2982, .inl b_all)), (ad 17, .inl (dA 0, 900, .inl a3)), (ad 18, .inl (dA 0, 6, .inl a4)), (ad 25, .inl (dA 2, 2880, .inl a7)), zr_o ad (0 : Int32) f_taped f_at f_behind f_size f_kind f_number f_wrong f_wrongAt f_faultKind f_faultPlace f_reading f_toldWhy f_x v2 f_bestMany f_tail f_round1, (ad 22, .inl (dA 0, 2880, .inl a5)), (ad 23, .inl (dA 0, 43200, .inl a6)), (ad 38, .inl (dA 2, 28800, .inl a11))] H := hP
      have hD : va_D A [(ad 2, .inl (dA 0, 2982, .inl b_all)), (ad 17, .inl (dA 0, 900, .inl a3)), (ad 18, .inl (dA 0, 6, .inl a4)), (ad 25, .inl (dA 2, 2880, .inl a7)), zr_o ad (0 : Int32) f_taped f_at f_behind f_size f_kind f_number f_wrong f_wrongAt f_faultKind f_faultPlace f_reading f_toldWhy f_x v2 f_bestMany f_tail f_round1, (ad 22, .inl (dA 0, 2880, .inl a5)), (ad 23, .inl (dA 0, 43200, .inl a6)), (ad 38, .inl (dA 2, 28800, .inl a11))] := hD
      refine lv_aload_n (pc := 37) hx hb dX11_withstands_37 rfl (lv_at hl 0 rfl) ?_
      refine va_get (pc := 38) (D := (dC, dI)) (ci := 0) (v := .ref (ad 38)) (C := RX11) (T := TX11) (N := 42) hx hb ht zr_lay hown hK hP 4 rfl rfl 37 (by decide) (ht _ zr_29) (fun _ h9 => h9) rfl dX11_withstands_38 ?_
      refine lv_sipush (v := (2880 : Int32)) (pc := 41) hx hb dX11_withstands_41 (by decide) ?_
      refine lv_iload_n (pc := 44) hx hb dX11_withstands_44 rfl (lv_at hl 3 rfl) ?_
      refine lv_imul (pc := 45) hx hb dX11_withstands_45 ?_
      refine lv_aload_n (pc := 46) hx hb dX11_withstands_46 rfl (lv_at hl 0 rfl) ?_
      obtain ⟨v12, hv12, hf⟩ := zc_1 hf
      refine zw_Vi (pc := 47) (wc := [zr_o ad (0 : Int32) f_taped f_at f_behind f_size f_kind f_number f_wrong f_wrongAt f_faultKind f_faultPlace f_reading f_toldWhy f_x v2 f_bestMany f_tail f_round1, (ad 2, .inl (dA 0, 2982, .inl b_all))]) (wr := [(ad 17, .inl (dA 0, 900, .inl a3)), (ad 18, .inl (dA 0, 6, .inl a4)), (ad 25, .inl (dA 2, 2880, .inl a7)), (ad 22, .inl (dA 0, 2880, .inl a5)), (ad 23, .inl (dA 0, 43200, .inl a6)), (ad 38, .inl (dA 2, 28800, .inl a11))]) (w1 := [zr_o ad (0 : Int32) f_taped f_at f_behind f_size f_kind f_number f_wrong f_wrongAt f_faultKind f_faultPlace f_reading f_toldWhy f_x v2 f_bestMany f_tail f_round1, (ad 2, .inl (dA 0, 2982, .inl b_all))]) (As := []) (rest := [.int ((2880 : Int32) * v9), .ref (ad 38)]) ⟨hx, hb, hml, hown, ht⟩ (zt_X11_standNow l dC dI dA ad _ (0 : Int32) f_taped f_at f_behind f_size f_kind f_number f_wrong f_wrongAt f_faultKind f_faultPlace f_reading f_toldWhy f_x v2 f_bestMany f_tail f_round1 b_all v12 hv12) (cwV 0 ht (zr_V zr_261 zr_262 zr_263 zr_36 zr_213) rfl rfl rfl zk_X11_standNow ⟨Nat.le_of_ble_eq_true rfl, Nat.le_of_ble_eq_true rfl⟩) rfl rfl hK hP hD hS hA [4, 0] [1, 2, 3, 5, 6, 7] (by decide) (by decide) (by decide) rfl rfl rfl hl.1 (Nat.le_of_ble_eq_true rfl) dX11_withstands_47 ⟨Nat.zero_le _, Nat.zero_le _⟩ rfl (fun H locs hP hD hS => ?_)
      have hP : va_P (dC, dI) zz_cls [(ad 17, .inl (dA 0, 900, .inl a3)), (ad 18, .inl (dA 0, 6, .inl a4)), (ad 25, .inl (dA 2, 2880, .inl a7)), (ad 22, .inl (dA 0, 2880, .inl a5)), (ad 23, .inl (dA 0, 43200, .inl a6)), (ad 38, .inl (dA 2, 28800, .inl a11)), zr_o ad (0 : Int32) f_taped f_at f_behind f_size f_kind f_number f_wrong f_wrongAt f_faultKind f_faultPlace f_reading f_toldWhy f_x v2 f_bestMany f_tail f_round1, (ad 2, .inl (dA 0, 2982, .inl b_all))] H := hP
      have hD : va_D A [(ad 17, .inl (dA 0, 900, .inl a3)), (ad 18, .inl (dA 0, 6, .inl a4)), (ad 25, .inl (dA 2, 2880, .inl a7)), (ad 22, .inl (dA 0, 2880, .inl a5)), (ad 23, .inl (dA 0, 43200, .inl a6)), (ad 38, .inl (dA 2, 28800, .inl a11)), zr_o ad (0 : Int32) f_taped f_at f_behind f_size f_kind f_number f_wrong f_wrongAt f_faultKind f_faultPlace f_reading f_toldWhy f_x v2 f_bestMany f_tail f_round1, (ad 2, .inl (dA 0, 2982, .inl b_all))] := hD
      refine lv_iadd (pc := 50) hx hb dX11_withstands_50 ?_
      obtain ⟨v13, hv13, hf⟩ := zc_1 hf
      refine zw_zald (pc := 51) hx hb hK hP 5 2 rfl rfl hv13 dX11_withstands_51 ?_
      obtain ⟨v14, hj, hf⟩ := zc_1 hf
      refine zj_join (pcJ := 57) (stk := []) (X := fun H locs ls => lv_has ls 4 [(0, .ref (ad 0)), (1, .int p1), (2, .int v14), (3, .int v9)] ∧ va_P (dC, dI) zz_cls [zr_o ad (0 : Int32) f_taped f_at f_behind f_size f_kind f_number f_wrong f_wrongAt f_faultKind f_faultPlace f_reading f_toldWhy f_x v2 f_bestMany f_tail f_round1, (ad 2, .inl (dA 0, 2982, .inl b_all)), (ad 17, .inl (dA 0, 900, .inl a3)), (ad 18, .inl (dA 0, 6, .inl a4)), (ad 22, .inl (dA 0, 2880, .inl a5)), (ad 23, .inl (dA 0, 43200, .inl a6)), (ad 25, .inl (dA 2, 2880, .inl a7)), (ad 38, .inl (dA 2, 28800, .inl a11))] H ∧ va_D A [zr_o ad (0 : Int32) f_taped f_at f_behind f_size f_kind f_number f_wrong f_wrongAt f_faultKind f_faultPlace f_reading f_toldWhy f_x v2 f_bestMany f_tail f_round1, (ad 2, .inl (dA 0, 2982, .inl b_all)), (ad 17, .inl (dA 0, 900, .inl a3)), (ad 18, .inl (dA 0, 6, .inl a4)), (ad 22, .inl (dA 0, 2880, .inl a5)), (ad 23, .inl (dA 0, 43200, .inl a6)), (ad 25, .inl (dA 2, 2880, .inl a7)), (ad 38, .inl (dA 2, 28800, .inl a11))] ∧ va_S A s.heap H locs) (fun H locs ls hX => ?_) (fun J57 => ?_)
      · obtain ⟨hl, hP, hD, hS⟩ := hX
        clear hj
        obtain ⟨v15, hv15, hf⟩ := zc_1 hf
        refine lv_iinc (v := v15) (lv' := [(3, .int v15), (0, .ref (ad 0)), (1, .int p1), (2, .int v14)]) (k := 3) (pc := 57) hx hb dX11_withstands_57 hl rfl (Option.some.inj hv15) (by decide) rfl (fun ls hl => ?_)
        refine lv_goto (tgt := 25) (pc := 60) hx hb dX11_withstands_60 rfl ?_
        obtain rfl := Option.some.inj hf
        exact ih rfl _ _ _ ⟨lv_sub hl [1, 2, 3, 0] rfl, hP, hD, hS⟩
      · clear hf
        have hf := hj
        clear hj
        refine lv_if_eq (tgt := 57) (pc := 52) hx hb dX11_withstands_52 rfl (fun hc => ?_) (fun hc => ?_)
        · have hf := za_t hf hc
          obtain rfl := Option.some.inj hf
          exact J57 _ _ _ ⟨lv_sub hl [0, 1, 2, 3] rfl, hP.sub [6, 7, 0, 1, 3, 4, 2, 5] rfl, hD.sub [6, 7, 0, 1, 3, 4, 2, 5] (by decide) rfl, hS⟩
        · have hf := za_f hf hc
          refine lv_iload_n (pc := 55) hx hb dX11_withstands_55 rfl (lv_at hl 3 rfl) ?_
          refine lv_istore_n (lv' := [(2, .int v9), (0, .ref (ad 0)), (1, .int p1), (3, .int v9)]) (pc := 56) hx hb dX11_withstands_56 rfl hl (by decide) rfl (fun ls hl => ?_)
          obtain rfl := Option.some.inj hf
          exact J57 _ _ _ ⟨lv_sub hl [1, 2, 0, 3] rfl, hP.sub [6, 7, 0, 1, 3, 4, 2, 5] rfl, hD.sub [6, 7, 0, 1, 3, 4, 2, 5] (by decide) rfl, hS⟩
  · have hf := za_t hf hc
    refine lv_bipush (v := (-2 : Int32)) (pc := 13) hx hb dX11_withstands_13 (by decide) ?_
    obtain ⟨rfl, rfl, rfl, rfl, rfl, rfl, rfl, rfl, rfl⟩ := zi_9 hf
    exact W.iret (pc := 15) hx hb hr (fun t ht hW => ⟨⟨_, (), rfl, rfl, zz_Bi (by rw [ht]; exact hP.sub [6, 7, 0, 1, 2, 3, 4, 5] rfl) (va_K.moved hW.alike hK) (hD.sub [6, 7, 0, 1, 2, 3, 4, 5] (by decide) rfl)⟩, hS.F ht⟩) hS.2.2 dX11_withstands_15

def zb_X11_wholeOf_4 (p0 : Int32) (v1 : Int32) (v2 : Int32) : Option (Nat × Int32 × Int32) :=
  if p0 ≤ v2 then
    some (1, v1, v2)
  else
    zd_1 (some ((v1 * (10 : Int32)))) (fun v3 =>
    zd_1 (some (v2 + (1 : Int32))) (fun v4 =>
    some (0, v3, v4)))
def zf_X11_wholeOf (n : Nat) (p0 : Int32) : Option (Int32) :=
  zd_3 (za_it (fun v => zb_X11_wholeOf_4 p0 v.1 v.2) n ((1 : Int32), (0 : Int32))) (fun g7 v5 v6 =>
  some v5)
theorem zk_X11_wholeOf : yX11_wholeOf.cls = RX11 ∧ yX11_wholeOf.cls ≠ "java/lang/invoke/MethodHandle" ∧ yX11_wholeOf.cls ≠ "java/lang/invoke/VarHandle" ∧ (parseMethodDescriptor yX11_wholeOf.desc).map (fun d => d.parameters.length) = some 1 := by decide +kernel
set_option maxHeartbeats 4000000 in
set_option maxRecDepth 100000 in
theorem zt_X11_wholeOf (l : Launch) (dC : Nat → ClassId) (dI : Nat → Nat → Nat) (dA : Nat → ClassId) (ad : Nat → Nat) (sz : Nat) (n : Nat) (p0 : Int32) (r0 : Int32) (hf : zf_X11_wholeOf n p0 = some r0) : Met l yX11_wholeOf (.code yX11_wholeOf cX11_wholeOf 3 (some .int) :: zr_T) ({ frames := 0, cells := 0, slots := 0, locals := 0 }) (va_Pc [.int p0] (zz_M dC dI dA [] sz)) (va_Qi (fun (r : Int32) (_ : Unit) => r = r0) (fun _ t => zz_B dC dI dA (va_A [] sz) [] t) (va_A [] sz)) 0 0 (va_A [] sz) := by
  unfold zf_X11_wholeOf at hf
  refine Met.ofW (cc := cX11_wholeOf) (maxL := 3) (ret := (some .int)) (by decide) rfl ?_
  intro p e s m args below meth c s₁ B hml hv
  obtain ⟨rfl, hsz, hP, hK, hD0⟩ := hv
  have hx := B.exec
  have hb := B.bytes
  have hr := B.returns
  have ht : ∀ w ∈ zr_T, w.before ([.int p0] : List Value).toArray s = true := fun w hw => atoms_spec (ws := .code yX11_wholeOf cX11_wholeOf 3 (some .int) :: zr_T) B.pre w (List.mem_cons_of_mem _ hw)
  have hown : s.vm.findClass RX11 = some m.cls := findClass_of_methodNamed B.named
  have hlocks := B.notSynchronized
  subst hsz
  have hD := hD0.self (sz := s.heap.size)
  generalize hAe : va_A [] s.heap.size = A at hD ⊢
  have hA : ∀ q : Nat, s.heap.size ≤ q → A q := fun q h => by rw [← hAe]; exact Or.inr h
  clear hAe hD0
  have hS : va_S A s.heap s.heap [] := va_S.rf
  have hl := lv_entry ([.int p0]) (n := 3) (Nat.le_of_ble_eq_true rfl)
  rw [lg_entry_eq]
  generalize (lg_sl ([.int p0]) ++ List.replicate (3 - (lg_sl ([.int p0])).length) Slot.unset).toArray = ls at hl ⊢
  have hl : lv_has ls 3 [(0, .int p0)] := hl
  refine lv_iconst (v := (1 : Int32)) (pc := 0) hx hb dX11_wholeOf_0 (by decide) ?_
  refine lv_istore_n (lv' := [(1, .int (1 : Int32)), (0, .int p0)]) (pc := 1) hx hb dX11_wholeOf_1 rfl hl (by decide) rfl (fun ls hl => ?_)
  refine lv_iconst (v := (0 : Int32)) (pc := 2) hx hb dX11_wholeOf_2 (by decide) ?_
  refine lv_istore_n (lv' := [(2, .int (0 : Int32)), (1, .int (1 : Int32)), (0, .int p0)]) (pc := 3) hx hb dX11_wholeOf_3 rfl hl (by decide) rfl (fun ls hl => ?_)
  obtain ⟨g7, v5, v6, hj, hf⟩ := zc_3 hf
  refine zj_join (pcJ := 20) (stk := []) (X := fun H locs ls => lv_has ls 3 [(1, .int v5)] ∧ va_P (dC, dI) zz_cls [] H ∧ va_D A [] ∧ va_S A s.heap H locs) (fun H locs ls hX => ?_) (fun E20 => ?_)
  · obtain ⟨hl, hP, hD, hS⟩ := hX
    clear hj
    refine lv_iload_n (pc := 20) hx hb dX11_wholeOf_20 rfl (lv_at hl 0 rfl) ?_
    obtain rfl := Option.some.inj hf
    exact W.iret (pc := 21) hx hb hr (fun t ht hW => ⟨⟨_, (), rfl, rfl, zz_Bi (by rw [ht]; exact hP) (va_K.moved hW.alike hK) (hD)⟩, hS.F ht⟩) hS.2.2 dX11_wholeOf_21
  clear hf
  refine zw_loop (pcH := 4) (X := fun v H locs ls => lv_has ls 3 [(0, .int p0), (1, .int v.1), (2, .int v.2)] ∧ va_P (dC, dI) zz_cls [] H ∧ va_D A [] ∧ va_S A s.heap H locs) hj (fun v w hf ih ex H locs ls hX => ?_) _ _ _ ⟨lv_sub hl [2, 1, 0] rfl, hP, hD, hS⟩
  clear hj
  obtain ⟨v1, v2⟩ := v
  obtain ⟨hl, hP, hD, hS⟩ := hX
  have hl : lv_has ls 3 [(0, .int p0), (1, .int v1), (2, .int v2)] := hl
  have hP : va_P (dC, dI) zz_cls [] H := hP
  have hD : va_D A [] := hD
  replace hf : zb_X11_wholeOf_4 p0 v1 v2 = some w := hf
  unfold zb_X11_wholeOf_4 at hf
  refine lv_iload_n (pc := 4) hx hb dX11_wholeOf_4 rfl (lv_at hl 2 rfl) ?_
  refine lv_iload_n (pc := 5) hx hb dX11_wholeOf_5 rfl (lv_at hl 0 rfl) ?_
  refine lv_icmp_ge (tgt := 20) (pc := 6) hx hb dX11_wholeOf_6 rfl (fun hc => ?_) (fun hc => ?_)
  · have hf := za_t hf hc
    obtain rfl := Option.some.inj hf
    obtain ⟨rfl, rfl, rfl⟩ := zp_3 (ex (show ¬ (1 : Nat) = 0 by decide))
    exact E20 _ _ _ ⟨lv_sub hl [1] rfl, hP, hD, hS⟩
  · have hf := za_f hf hc
    refine lv_iload_n (pc := 9) hx hb dX11_wholeOf_9 rfl (lv_at hl 1 rfl) ?_
    refine lv_bipush (v := (10 : Int32)) (pc := 10) hx hb dX11_wholeOf_10 (by decide) ?_
    refine lv_imul (pc := 12) hx hb dX11_wholeOf_12 ?_
    obtain ⟨v3, hv3, hf⟩ := zc_1 hf
    refine zw_top (hv3) ?_
    refine lv_istore_n (lv' := [(1, .int v3), (0, .int p0), (2, .int v2)]) (pc := 13) hx hb dX11_wholeOf_13 rfl hl (by decide) rfl (fun ls hl => ?_)
    obtain ⟨v4, hv4, hf⟩ := zc_1 hf
    refine lv_iinc (v := v4) (lv' := [(2, .int v4), (1, .int v3), (0, .int p0)]) (k := 2) (pc := 14) hx hb dX11_wholeOf_14 hl rfl (Option.some.inj hv4) (by decide) rfl (fun ls hl => ?_)
    refine lv_goto (tgt := 4) (pc := 17) hx hb dX11_wholeOf_17 rfl ?_
    obtain rfl := Option.some.inj hf
    exact ih rfl _ _ _ ⟨lv_sub hl [2, 1, 0] rfl, hP, hD, hS⟩

def zf_X11_likelyBy (b_all : (Nat → Int32)) (b_then : (Nat → Int32)) (b_likely : (Nat → Int32)) (p1 : Int32) (p2 : Int32) (p3 : Int32) : Option (Int32) :=
  zd_1 (za_ld b_then 43200 (((15 : Int32) * p1) + p2)) (fun v1 =>
  if v1 = (-1 : Int32) then
    some (-1 : Int32)
  else
    if p2 = (1 : Int32) then
      zd_1 (za_ld b_all 2982 (3 : Int32)) (fun v2 =>
      zd_1 (za_ld b_likely 25920 (((2880 : Int32) * (p3 - (1 : Int32))) + v1)) (fun v3 =>
      zd_1 (za_ld b_all 2982 (3 : Int32)) (fun v4 =>
      zd_1 (za_ld b_likely 25920 ((((2880 : Int32) * (p3 - (1 : Int32))) + v1) - (320 : Int32))) (fun v5 =>
      some ((((10 : Int32) - v2) * v3) + (v4 * v5))))))
    else
      zd_1 (za_ld b_likely 25920 (((2880 : Int32) * (p3 - (1 : Int32))) + v1)) (fun v6 =>
      some ((10 : Int32) * v6)))
theorem zk_X11_likelyBy : yX11_likelyBy.cls = RX11 ∧ yX11_likelyBy.cls ≠ "java/lang/invoke/MethodHandle" ∧ yX11_likelyBy.cls ≠ "java/lang/invoke/VarHandle" ∧ (parseMethodDescriptor yX11_likelyBy.desc).map (fun d => d.parameters.length) = some 3 := by decide +kernel
set_option maxHeartbeats 4000000 in
set_option maxRecDepth 100000 in
theorem zt_X11_likelyBy (l : Launch) (dC : Nat → ClassId) (dI : Nat → Nat → Nat) (dA : Nat → ClassId) (ad : Nat → Nat) (sz : Nat) (f_thrown f_taped f_at f_behind f_size f_kind f_number f_wrong f_wrongAt f_faultKind f_faultPlace f_reading f_toldWhy f_x f_standMany f_bestMany f_tail f_round1 : Int32) (b_all : (Nat → Int32)) (b_then : (Nat → Int32)) (b_likely : (Nat → Int32)) (p1 : Int32) (p2 : Int32) (p3 : Int32) (r0 : Int32) (hf : zf_X11_likelyBy b_all b_then b_likely p1 p2 p3 = some r0) : Met l yX11_likelyBy (.code yX11_likelyBy cX11_likelyBy 5 (some .int) :: zr_T) ({ frames := 0, cells := 0, slots := 0, locals := 0 }) (va_Pc [.ref (ad 0), .int p1, .int p2, .int p3] (zz_M dC dI dA [zr_o ad f_thrown f_taped f_at f_behind f_size f_kind f_number f_wrong f_wrongAt f_faultKind f_faultPlace f_reading f_toldWhy f_x f_standMany f_bestMany f_tail f_round1, (ad 2, .inl (dA 0, 2982, .inl b_all)), (ad 23, .inl (dA 0, 43200, .inl b_then)), (ad 39, .inl (dA 0, 25920, .inl b_likely))] sz)) (va_Qi (fun (r : Int32) (_ : Unit) => r = r0) (fun _ t => zz_B dC dI dA (va_A [zr_o ad f_thrown f_taped f_at f_behind f_size f_kind f_number f_wrong f_wrongAt f_faultKind f_faultPlace f_reading f_toldWhy f_x f_standMany f_bestMany f_tail f_round1, (ad 2, .inl (dA 0, 2982, .inl b_all)), (ad 23, .inl (dA 0, 43200, .inl b_then)), (ad 39, .inl (dA 0, 25920, .inl b_likely))] sz) [zr_o ad f_thrown f_taped f_at f_behind f_size f_kind f_number f_wrong f_wrongAt f_faultKind f_faultPlace f_reading f_toldWhy f_x f_standMany f_bestMany f_tail f_round1, (ad 2, .inl (dA 0, 2982, .inl b_all)), (ad 23, .inl (dA 0, 43200, .inl b_then)), (ad 39, .inl (dA 0, 25920, .inl b_likely))] t) (va_A [zr_o ad f_thrown f_taped f_at f_behind f_size f_kind f_number f_wrong f_wrongAt f_faultKind f_faultPlace f_reading f_toldWhy f_x f_standMany f_bestMany f_tail f_round1, (ad 2, .inl (dA 0, 2982, .inl b_all)), (ad 23, .inl (dA 0, 43200, .inl b_then)), (ad 39, .inl (dA 0, 25920, .inl b_likely))] sz)) 0 0 (va_A [zr_o ad f_thrown f_taped f_at f_behind f_size f_kind f_number f_wrong f_wrongAt f_faultKind f_faultPlace f_reading f_toldWhy f_x f_standMany f_bestMany f_tail f_round1, (ad 2, .inl (dA 0, 2982, .inl b_all)), (ad 23, .inl (dA 0, 43200, .inl b_then)), (ad 39, .inl (dA 0, 25920, .inl b_likely))] sz) := by
  unfold zf_X11_likelyBy at hf
  refine Met.ofW (cc := cX11_likelyBy) (maxL := 5) (ret := (some .int)) (by decide) rfl ?_
  intro p e s m args below meth c s₁ B hml hv
  obtain ⟨rfl, hsz, hP, hK, hD0⟩ := hv
  have hx := B.exec
  have hb := B.bytes
  have hr := B.returns
  have ht : ∀ w ∈ zr_T, w.before ([.ref (ad 0), .int p1, .int p2, .int p3] : List Value).toArray s = true := fun w hw => atoms_spec (ws := .code yX11_likelyBy cX11_likelyBy 5 (some .int) :: zr_T) B.pre w (List.mem_cons_of_mem _ hw)
  have hown : s.vm.findClass RX11 = some m.cls := findClass_of_methodNamed B.named
  have hlocks := B.notSynchronized
  subst hsz
  have hD := hD0.self (sz := s.heap.size)
  generalize hAe : va_A [zr_o ad f_thrown f_taped f_at f_behind f_size f_kind f_number f_wrong f_wrongAt f_faultKind f_faultPlace f_reading f_toldWhy f_x f_standMany f_bestMany f_tail f_round1, (ad 2, .inl (dA 0, 2982, .inl b_all)), (ad 23, .inl (dA 0, 43200, .inl b_then)), (ad 39, .inl (dA 0, 25920, .inl b_likely))] s.heap.size = A at hD ⊢
  have hA : ∀ q : Nat, s.heap.size ≤ q → A q := fun q h => by rw [← hAe]; exact Or.inr h
  clear hAe hD0
  have hS : va_S A s.heap s.heap [] := va_S.rf
  have hl := lv_entry ([.ref (ad 0), .int p1, .int p2, .int p3]) (n := 5) (Nat.le_of_ble_eq_true rfl)
  rw [lg_entry_eq]
  generalize (lg_sl ([.ref (ad 0), .int p1, .int p2, .int p3]) ++ List.replicate (5 - (lg_sl ([.ref (ad 0), .int p1, .int p2, .int p3])).length) Slot.unset).toArray = ls at hl ⊢
  have hl : lv_has ls 5 [(0, .ref (ad 0)), (1, .int p1), (2, .int p2), (3, .int p3)] := hl
  refine lv_aload_n (pc := 0) hx hb dX11_likelyBy_0 rfl (lv_at hl 0 rfl) ?_
  refine va_get (pc := 1) (D := (dC, dI)) (ci := 0) (v := .ref (ad 23)) (C := RX11) (T := TX11) (N := 42) hx hb ht zr_lay hown hK hP 0 rfl rfl 22 (by decide) (ht _ zr_17) (fun _ h9 => h9) rfl dX11_likelyBy_1 ?_
  refine lv_bipush (v := (15 : Int32)) (pc := 4) hx hb dX11_likelyBy_4 (by decide) ?_
  refine lv_iload_n (pc := 6) hx hb dX11_likelyBy_6 rfl (lv_at hl 1 rfl) ?_
  refine lv_imul (pc := 7) hx hb dX11_likelyBy_7 ?_
  refine lv_iload_n (pc := 8) hx hb dX11_likelyBy_8 rfl (lv_at hl 2 rfl) ?_
  refine lv_iadd (pc := 9) hx hb dX11_likelyBy_9 ?_
  obtain ⟨v1, hv1, hf⟩ := zc_1 hf
  refine zw_iald (pc := 10) hx hb hK hP 2 0 rfl rfl hv1 dX11_likelyBy_10 ?_
  refine lv_istore (lv' := [(4, .int v1), (0, .ref (ad 0)), (1, .int p1), (2, .int p2), (3, .int p3)]) (pc := 11) hx hb dX11_likelyBy_11 hl (by decide) rfl (fun ls hl => ?_)
  refine lv_iload (pc := 13) hx hb dX11_likelyBy_13 (lv_at hl 0 rfl) ?_
  refine lv_iconst (v := (-1 : Int32)) (pc := 15) hx hb dX11_likelyBy_15 (by decide) ?_
  refine lv_icmp_ne (tgt := 21) (pc := 16) hx hb dX11_likelyBy_16 rfl (fun hc => ?_) (fun hc => ?_)
  · have hf := za_f hf hc
    refine lv_iload_n (pc := 21) hx hb dX11_likelyBy_21 rfl (lv_at hl 3 rfl) ?_
    refine lv_iconst (v := (1 : Int32)) (pc := 22) hx hb dX11_likelyBy_22 (by decide) ?_
    refine lv_icmp_eq (tgt := 45) (pc := 23) hx hb dX11_likelyBy_23 rfl (fun hc => ?_) (fun hc => ?_)
    · have hf := za_t hf hc
      refine lv_bipush (v := (10 : Int32)) (pc := 45) hx hb dX11_likelyBy_45 (by decide) ?_
      refine lv_aload_n (pc := 47) hx hb dX11_likelyBy_47 rfl (lv_at hl 1 rfl) ?_
      refine va_get (pc := 48) (D := (dC, dI)) (ci := 0) (v := .ref (ad 2)) (C := RX11) (T := TX11) (N := 42) hx hb ht zr_lay hown hK hP 0 rfl rfl 1 (by decide) (ht _ zr_6) (fun _ h9 => h9) rfl dX11_likelyBy_48 ?_
      refine lv_iconst (v := (3 : Int32)) (pc := 51) hx hb dX11_likelyBy_51 (by decide) ?_
      obtain ⟨v2, hv2, hf⟩ := zc_1 hf
      refine zw_iald (pc := 52) hx hb hK hP 1 0 rfl rfl hv2 dX11_likelyBy_52 ?_
      refine lv_isub (pc := 53) hx hb dX11_likelyBy_53 ?_
      refine lv_aload_n (pc := 54) hx hb dX11_likelyBy_54 rfl (lv_at hl 1 rfl) ?_
      refine va_get (pc := 55) (D := (dC, dI)) (ci := 0) (v := .ref (ad 39)) (C := RX11) (T := TX11) (N := 42) hx hb ht zr_lay hown hK hP 0 rfl rfl 38 (by decide) (ht _ zr_30) (fun _ h9 => h9) rfl dX11_likelyBy_55 ?_
      refine lv_sipush (v := (2880 : Int32)) (pc := 58) hx hb dX11_likelyBy_58 (by decide) ?_
      refine lv_iload_n (pc := 61) hx hb dX11_likelyBy_61 rfl (lv_at hl 4 rfl) ?_
      refine lv_iconst (v := (1 : Int32)) (pc := 62) hx hb dX11_likelyBy_62 (by decide) ?_
      refine lv_isub (pc := 63) hx hb dX11_likelyBy_63 ?_
      refine lv_imul (pc := 64) hx hb dX11_likelyBy_64 ?_
      refine lv_iload (pc := 65) hx hb dX11_likelyBy_65 (lv_at hl 0 rfl) ?_
      refine lv_iadd (pc := 67) hx hb dX11_likelyBy_67 ?_
      obtain ⟨v3, hv3, hf⟩ := zc_1 hf
      refine zw_iald (pc := 68) hx hb hK hP 3 0 rfl rfl hv3 dX11_likelyBy_68 ?_
      refine lv_imul (pc := 69) hx hb dX11_likelyBy_69 ?_
      refine lv_aload_n (pc := 70) hx hb dX11_likelyBy_70 rfl (lv_at hl 1 rfl) ?_
      refine va_get (pc := 71) (D := (dC, dI)) (ci := 0) (v := .ref (ad 2)) (C := RX11) (T := TX11) (N := 42) hx hb ht zr_lay hown hK hP 0 rfl rfl 1 (by decide) (ht _ zr_6) (fun _ h9 => h9) rfl dX11_likelyBy_71 ?_
      refine lv_iconst (v := (3 : Int32)) (pc := 74) hx hb dX11_likelyBy_74 (by decide) ?_
      obtain ⟨v4, hv4, hf⟩ := zc_1 hf
      refine zw_iald (pc := 75) hx hb hK hP 1 0 rfl rfl hv4 dX11_likelyBy_75 ?_
      refine lv_aload_n (pc := 76) hx hb dX11_likelyBy_76 rfl (lv_at hl 1 rfl) ?_
      refine va_get (pc := 77) (D := (dC, dI)) (ci := 0) (v := .ref (ad 39)) (C := RX11) (T := TX11) (N := 42) hx hb ht zr_lay hown hK hP 0 rfl rfl 38 (by decide) (ht _ zr_30) (fun _ h9 => h9) rfl dX11_likelyBy_77 ?_
      refine lv_sipush (v := (2880 : Int32)) (pc := 80) hx hb dX11_likelyBy_80 (by decide) ?_
      refine lv_iload_n (pc := 83) hx hb dX11_likelyBy_83 rfl (lv_at hl 4 rfl) ?_
      refine lv_iconst (v := (1 : Int32)) (pc := 84) hx hb dX11_likelyBy_84 (by decide) ?_
      refine lv_isub (pc := 85) hx hb dX11_likelyBy_85 ?_
      refine lv_imul (pc := 86) hx hb dX11_likelyBy_86 ?_
      refine lv_iload (pc := 87) hx hb dX11_likelyBy_87 (lv_at hl 0 rfl) ?_
      refine lv_iadd (pc := 89) hx hb dX11_likelyBy_89 ?_
      refine lv_sipush (v := (320 : Int32)) (pc := 90) hx hb dX11_likelyBy_90 (by decide) ?_
      refine lv_isub (pc := 93) hx hb dX11_likelyBy_93 ?_
      obtain ⟨v5, hv5, hf⟩ := zc_1 hf
      refine zw_iald (pc := 94) hx hb hK hP 3 0 rfl rfl hv5 dX11_likelyBy_94 ?_
      refine lv_imul (pc := 95) hx hb dX11_likelyBy_95 ?_
      refine lv_iadd (pc := 96) hx hb dX11_likelyBy_96 ?_
      obtain rfl := Option.some.inj hf
      exact W.iret (pc := 97) hx hb hr (fun t ht hW => ⟨⟨_, (), rfl, rfl, zz_Bi (by rw [ht]; exact hP) (va_K.moved hW.alike hK) (hD)⟩, hS.F ht⟩) hS.2.2 dX11_likelyBy_97
    · have hf := za_f hf hc
      refine lv_bipush (v := (10 : Int32)) (pc := 26) hx hb dX11_likelyBy_26 (by decide) ?_
      refine lv_aload_n (pc := 28) hx hb dX11_likelyBy_28 rfl (lv_at hl 1 rfl) ?_
      refine va_get (pc := 29) (D := (dC, dI)) (ci := 0) (v := .ref (ad 39)) (C := RX11) (T := TX11) (N := 42) hx hb ht zr_lay hown hK hP 0 rfl rfl 38 (by decide) (ht _ zr_30) (fun _ h9 => h9) rfl dX11_likelyBy_29 ?_
      refine lv_sipush (v := (2880 : Int32)) (pc := 32) hx hb dX11_likelyBy_32 (by decide) ?_
      refine lv_iload_n (pc := 35) hx hb dX11_likelyBy_35 rfl (lv_at hl 4 rfl) ?_
      refine lv_iconst (v := (1 : Int32)) (pc := 36) hx hb dX11_likelyBy_36 (by decide) ?_
      refine lv_isub (pc := 37) hx hb dX11_likelyBy_37 ?_
      refine lv_imul (pc := 38) hx hb dX11_likelyBy_38 ?_
      refine lv_iload (pc := 39) hx hb dX11_likelyBy_39 (lv_at hl 0 rfl) ?_
      refine lv_iadd (pc := 41) hx hb dX11_likelyBy_41 ?_
      obtain ⟨v6, hv6, hf⟩ := zc_1 hf
      refine zw_iald (pc := 42) hx hb hK hP 3 0 rfl rfl hv6 dX11_likelyBy_42 ?_
      refine lv_imul (pc := 43) hx hb dX11_likelyBy_43 ?_
      obtain rfl := Option.some.inj hf
      exact W.iret (pc := 44) hx hb hr (fun t ht hW => ⟨⟨_, (), rfl, rfl, zz_Bi (by rw [ht]; exact hP) (va_K.moved hW.alike hK) (hD)⟩, hS.F ht⟩) hS.2.2 dX11_likelyBy_44
  · have hf := za_t hf hc
    refine lv_iconst (v := (-1 : Int32)) (pc := 19) hx hb dX11_likelyBy_19 (by decide) ?_
    obtain rfl := Option.some.inj hf
    exact W.iret (pc := 20) hx hb hr (fun t ht hW => ⟨⟨_, (), rfl, rfl, zz_Bi (by rw [ht]; exact hP) (va_K.moved hW.alike hK) (hD)⟩, hS.F ht⟩) hS.2.2 dX11_likelyBy_20

def zb_X11_laysLikely_55 (v7 : Int32) (n : Nat) (b_all : (Nat → Int32)) (a5 : (Nat → Int32)) (a10 : (Nat → Int32)) (v11 : Int32) (v15 : Int32) (v16 : Int32) : Option (Nat × Int32 × Int32) :=
  if (15 : Int32) ≤ v16 then
    some (1, v15, v16)
  else
    if v7 ≤ 0 then
      some (1, v15, v16)
    else
      zd_1 (zf_X11_wholeOf n v7) (fun v17 =>
      if v17 ≤ v15 then
        some (1, v15, v16)
      else
        zd_1 (zf_X11_likelyBy b_all a5 a10 v11 v16 v7) (fun v18 =>
        zd_1 (
          if v18 ≤ v15 then
            some v15
          else
            zd_1 (zf_X11_likelyBy b_all a5 a10 v11 v16 v7) (fun v19 =>
            some v19)) (fun v20 =>
        zd_1 (some (v16 + (1 : Int32))) (fun v21 =>
        some (0, v20, v21)))))
def zb_X11_laysLikely_15 (v1 : Int32) (a4 : (Nat → Int32)) (p1 : Int32) (n : Nat) (v7 : Int32) (b_all : (Nat → Int32)) (a5 : (Nat → Int32)) (v9 : Int32) (a10 : (Nat → Int32)) : Option (Nat × Int32 × (Nat → Int32)) :=
  if v1 ≤ v9 then
    some (1, v9, a10)
  else
    zd_1 (za_ld a4 2880 v9) (fun v11 =>
    zd_1 (zf_X11_rungIn v11) (fun v12 =>
    zd_1 (
      if v12 = p1 then
        zd_1 (zf_X11_wholeOf n v7) (fun v13 =>
        some v13)
      else
        some (0 : Int32)) (fun v14 =>
    zd_3 (za_it (fun v => zb_X11_laysLikely_55 v7 n b_all a5 a10 v11 v.1 v.2) n (v14, (0 : Int32))) (fun g24 v22 v23 =>
    zd_1 (za_st a10 25920 (((2880 : Int32) * v7) + v11) v22) (fun a25 =>
    zd_1 (some (v9 + (1 : Int32))) (fun v26 =>
    some (0, v26, a25)))))))
def zb_X11_laysLikely_7 (p2 : Int32) (v1 : Int32) (a4 : (Nat → Int32)) (p1 : Int32) (n : Nat) (b_all : (Nat → Int32)) (a5 : (Nat → Int32)) (v7 : Int32) (a8 : (Nat → Int32)) : Option (Nat × Int32 × (Nat → Int32)) :=
  if p2 < v7 then
    some (1, v7, a8)
  else
    zd_3 (za_it (fun v => zb_X11_laysLikely_15 v1 a4 p1 n v7 b_all a5 v.1 v.2) n ((0 : Int32), a8)) (fun g29 v27 a28 =>
    zd_1 (some (v7 + (1 : Int32))) (fun v30 =>
    some (0, v30, a28)))
def zf_X11_laysLikely (n : Nat) (f_standMany : Int32) (b_all : (Nat → Int32)) (b_reckoned : (Nat → Int32)) (b_words : (Nat → Int32)) (b_stand : (Nat → Int32)) (b_then : (Nat → Int32)) (b_known : (Nat → Int32)) (b_likely : (Nat → Int32)) (p1 : Int32) (p2 : Int32) : Option (Int32 × Int32 × (Nat → Int32) × (Nat → Int32) × (Nat → Int32) × (Nat → Int32) × (Nat → Int32) × (Nat → Int32)) :=
  zd_6 (zf_X11_laysStands n f_standMany b_all b_reckoned b_words b_stand b_then b_known (1 : Int32)) (fun v1 a2 a3 a4 a5 a6 =>
  zd_3 (za_it (fun v => zb_X11_laysLikely_7 p2 v1 a4 p1 n b_all a5 v.1 v.2) n ((0 : Int32), b_likely)) (fun g33 v31 a32 =>
  zd_1 (zf_X11_standNow b_all) (fun v34 =>
  zd_1 (za_ld a32 25920 (((2880 : Int32) * p2) + v34)) (fun v35 =>
  some (v35, v1, a2, a3, a4, a5, a6, a32)))))
theorem zk_X11_laysLikely : yX11_laysLikely.cls = RX11 ∧ yX11_laysLikely.cls ≠ "java/lang/invoke/MethodHandle" ∧ yX11_laysLikely.cls ≠ "java/lang/invoke/VarHandle" ∧ (parseMethodDescriptor yX11_laysLikely.desc).map (fun d => d.parameters.length) = some 2 := by decide +kernel
set_option maxHeartbeats 4000000 in
set_option maxRecDepth 100000 in
theorem zt_X11_laysLikely (l : Launch) (dC : Nat → ClassId) (dI : Nat → Nat → Nat) (dA : Nat → ClassId) (ad : Nat → Nat) (sz : Nat) (n : Nat) (f_thrown f_taped f_at f_behind f_size f_kind f_number f_wrong f_wrongAt f_faultKind f_faultPlace f_reading f_toldWhy f_x f_standMany f_bestMany f_tail f_round1 : Int32) (b_all : (Nat → Int32)) (b_reckoned : (Nat → Int32)) (b_words : (Nat → Int32)) (b_stand : (Nat → Int32)) (b_then : (Nat → Int32)) (b_known : (Nat → Int32)) (b_likely : (Nat → Int32)) (p1 : Int32) (p2 : Int32) (r0 : Int32) (o1 : Int32) (o2 : (Nat → Int32)) (o3 : (Nat → Int32)) (o4 : (Nat → Int32)) (o5 : (Nat → Int32)) (o6 : (Nat → Int32)) (o7 : (Nat → Int32)) (hf : zf_X11_laysLikely n f_standMany b_all b_reckoned b_words b_stand b_then b_known b_likely p1 p2 = some (r0, o1, o2, o3, o4, o5, o6, o7)) : Met l yX11_laysLikely (.code yX11_laysLikely cX11_laysLikely 8 (some .int) :: zr_T) ({ frames := 5, cells := 0, slots := 0, locals := 123 }) (va_Pc [.ref (ad 0), .int p1, .int p2] (zz_M dC dI dA [zr_o ad f_thrown f_taped f_at f_behind f_size f_kind f_number f_wrong f_wrongAt f_faultKind f_faultPlace f_reading f_toldWhy f_x f_standMany f_bestMany f_tail f_round1, (ad 2, .inl (dA 0, 2982, .inl b_all)), (ad 17, .inl (dA 0, 900, .inl b_reckoned)), (ad 18, .inl (dA 0, 6, .inl b_words)), (ad 22, .inl (dA 0, 2880, .inl b_stand)), (ad 23, .inl (dA 0, 43200, .inl b_then)), (ad 25, .inl (dA 2, 2880, .inl b_known)), (ad 39, .inl (dA 0, 25920, .inl b_likely))] sz)) (va_Qi (fun (r : Int32) (_ : Unit) => r = r0) (fun _ t => zz_B dC dI dA (va_A [zr_o ad f_thrown f_taped f_at f_behind f_size f_kind f_number f_wrong f_wrongAt f_faultKind f_faultPlace f_reading f_toldWhy f_x f_standMany f_bestMany f_tail f_round1, (ad 2, .inl (dA 0, 2982, .inl b_all)), (ad 17, .inl (dA 0, 900, .inl b_reckoned)), (ad 18, .inl (dA 0, 6, .inl b_words)), (ad 22, .inl (dA 0, 2880, .inl b_stand)), (ad 23, .inl (dA 0, 43200, .inl b_then)), (ad 25, .inl (dA 2, 2880, .inl b_known)), (ad 39, .inl (dA 0, 25920, .inl b_likely))] sz) [zr_o ad f_thrown f_taped f_at f_behind f_size f_kind f_number f_wrong f_wrongAt f_faultKind f_faultPlace f_reading f_toldWhy f_x o1 f_bestMany f_tail f_round1, (ad 2, .inl (dA 0, 2982, .inl b_all)), (ad 17, .inl (dA 0, 900, .inl o2)), (ad 18, .inl (dA 0, 6, .inl o3)), (ad 22, .inl (dA 0, 2880, .inl o4)), (ad 23, .inl (dA 0, 43200, .inl o5)), (ad 25, .inl (dA 2, 2880, .inl o6)), (ad 39, .inl (dA 0, 25920, .inl o7))] t) (va_A [zr_o ad f_thrown f_taped f_at f_behind f_size f_kind f_number f_wrong f_wrongAt f_faultKind f_faultPlace f_reading f_toldWhy f_x f_standMany f_bestMany f_tail f_round1, (ad 2, .inl (dA 0, 2982, .inl b_all)), (ad 17, .inl (dA 0, 900, .inl b_reckoned)), (ad 18, .inl (dA 0, 6, .inl b_words)), (ad 22, .inl (dA 0, 2880, .inl b_stand)), (ad 23, .inl (dA 0, 43200, .inl b_then)), (ad 25, .inl (dA 2, 2880, .inl b_known)), (ad 39, .inl (dA 0, 25920, .inl b_likely))] sz)) 0 0 (va_A [zr_o ad f_thrown f_taped f_at f_behind f_size f_kind f_number f_wrong f_wrongAt f_faultKind f_faultPlace f_reading f_toldWhy f_x f_standMany f_bestMany f_tail f_round1, (ad 2, .inl (dA 0, 2982, .inl b_all)), (ad 17, .inl (dA 0, 900, .inl b_reckoned)), (ad 18, .inl (dA 0, 6, .inl b_words)), (ad 22, .inl (dA 0, 2880, .inl b_stand)), (ad 23, .inl (dA 0, 43200, .inl b_then)), (ad 25, .inl (dA 2, 2880, .inl b_known)), (ad 39, .inl (dA 0, 25920, .inl b_likely))] sz) := by
  unfold zf_X11_laysLikely at hf
  refine Met.ofW (cc := cX11_laysLikely) (maxL := 8) (ret := (some .int)) (by decide) rfl ?_
  intro p e s m args below meth c s₁ B hml hv
  obtain ⟨rfl, hsz, hP, hK, hD0⟩ := hv
  have hx := B.exec
  have hb := B.bytes
  have hr := B.returns
  have ht : ∀ w ∈ zr_T, w.before ([.ref (ad 0), .int p1, .int p2] : List Value).toArray s = true := fun w hw => atoms_spec (ws := .code yX11_laysLikely cX11_laysLikely 8 (some .int) :: zr_T) B.pre w (List.mem_cons_of_mem _ hw)
  have hown : s.vm.findClass RX11 = some m.cls := findClass_of_methodNamed B.named
  have hlocks := B.notSynchronized
  subst hsz
  have hD := hD0.self (sz := s.heap.size)
  generalize hAe : va_A [zr_o ad f_thrown f_taped f_at f_behind f_size f_kind f_number f_wrong f_wrongAt f_faultKind f_faultPlace f_reading f_toldWhy f_x f_standMany f_bestMany f_tail f_round1, (ad 2, .inl (dA 0, 2982, .inl b_all)), (ad 17, .inl (dA 0, 900, .inl b_reckoned)), (ad 18, .inl (dA 0, 6, .inl b_words)), (ad 22, .inl (dA 0, 2880, .inl b_stand)), (ad 23, .inl (dA 0, 43200, .inl b_then)), (ad 25, .inl (dA 2, 2880, .inl b_known)), (ad 39, .inl (dA 0, 25920, .inl b_likely))] s.heap.size = A at hD ⊢
  have hA : ∀ q : Nat, s.heap.size ≤ q → A q := fun q h => by rw [← hAe]; exact Or.inr h
  clear hAe hD0
  have hS : va_S A s.heap s.heap [] := va_S.rf
  have hl := lv_entry ([.ref (ad 0), .int p1, .int p2]) (n := 8) (Nat.le_of_ble_eq_true rfl)
  rw [lg_entry_eq]
  generalize (lg_sl ([.ref (ad 0), .int p1, .int p2]) ++ List.replicate (8 - (lg_sl ([.ref (ad 0), .int p1, .int p2])).length) Slot.unset).toArray = ls at hl ⊢
  have hl : lv_has ls 8 [(0, .ref (ad 0)), (1, .int p1), (2, .int p2)] := hl
  refine lv_aload_n (pc := 0) hx hb dX11_laysLikely_0 rfl (lv_at hl 0 rfl) ?_
  refine lv_iconst (v := (1 : Int32)) (pc := 1) hx hb dX11_laysLikely_1 (by decide) ?_
  obtain ⟨v1, a2, a3, a4, a5, a6, hv1, hf⟩ := zc_6 hf
  refine zw_Vv (pc := 2) (wc := [zr_o ad f_thrown f_taped f_at f_behind f_size f_kind f_number f_wrong f_wrongAt f_faultKind f_faultPlace f_reading f_toldWhy f_x f_standMany f_bestMany f_tail f_round1, (ad 2, .inl (dA 0, 2982, .inl b_all)), (ad 17, .inl (dA 0, 900, .inl b_reckoned)), (ad 18, .inl (dA 0, 6, .inl b_words)), (ad 22, .inl (dA 0, 2880, .inl b_stand)), (ad 23, .inl (dA 0, 43200, .inl b_then)), (ad 25, .inl (dA 2, 2880, .inl b_known))]) (wr := [(ad 39, .inl (dA 0, 25920, .inl b_likely))]) (w1 := [zr_o ad f_thrown f_taped f_at f_behind f_size f_kind f_number f_wrong f_wrongAt f_faultKind f_faultPlace f_reading f_toldWhy f_x v1 f_bestMany f_tail f_round1, (ad 2, .inl (dA 0, 2982, .inl b_all)), (ad 17, .inl (dA 0, 900, .inl a2)), (ad 18, .inl (dA 0, 6, .inl a3)), (ad 22, .inl (dA 0, 2880, .inl a4)), (ad 23, .inl (dA 0, 43200, .inl a5)), (ad 25, .inl (dA 2, 2880, .inl a6))]) (As := [.int (1 : Int32)]) (rest := []) ⟨hx, hb, hml, hown, ht⟩ (zt_X11_laysStands l dC dI dA ad _ n f_thrown f_taped f_at f_behind f_size f_kind f_number f_wrong f_wrongAt f_faultKind f_faultPlace f_reading f_toldWhy f_x f_standMany f_bestMany f_tail f_round1 b_all b_reckoned b_words b_stand b_then b_known (1 : Int32) v1 a2 a3 a4 a5 a6 hv1) (cwV 1 ht (zr_V zr_354 zr_355 zr_356 zr_36 zr_350) rfl rfl rfl zk_X11_laysStands ⟨Nat.le_of_ble_eq_true rfl, Nat.le_of_ble_eq_true rfl⟩) rfl rfl hK hP hD hS hA [0, 1, 2, 3, 4, 5, 6] [7] (by decide) (by decide) (by decide) rfl rfl rfl hl.1 (Nat.le_of_ble_eq_true rfl) dX11_laysLikely_2 ⟨Nat.zero_le _, Nat.zero_le _⟩ rfl (fun H locs hP hD hS => ?_)
  have hP : va_P (dC, dI) zz_cls [(ad 39, .inl (dA 0, 25920, .inl b_likely)), zr_o ad f_thrown f_taped f_at f_behind f_size f_kind f_number f_wrong f_wrongAt f_faultKind f_faultPlace f_reading f_toldWhy f_x v1 f_bestMany f_tail f_round1, (ad 2, .inl (dA 0, 2982, .inl b_all)), (ad 17, .inl (dA 0, 900, .inl a2)), (ad 18, .inl (dA 0, 6, .inl a3)), (ad 22, .inl (dA 0, 2880, .inl a4)), (ad 23, .inl (dA 0, 43200, .inl a5)), (ad 25, .inl (dA 2, 2880, .inl a6))] H := hP
  have hD : va_D A [(ad 39, .inl (dA 0, 25920, .inl b_likely)), zr_o ad f_thrown f_taped f_at f_behind f_size f_kind f_number f_wrong f_wrongAt f_faultKind f_faultPlace f_reading f_toldWhy f_x v1 f_bestMany f_tail f_round1, (ad 2, .inl (dA 0, 2982, .inl b_all)), (ad 17, .inl (dA 0, 900, .inl a2)), (ad 18, .inl (dA 0, 6, .inl a3)), (ad 22, .inl (dA 0, 2880, .inl a4)), (ad 23, .inl (dA 0, 43200, .inl a5)), (ad 25, .inl (dA 2, 2880, .inl a6))] := hD
  refine lv_iconst (v := (0 : Int32)) (pc := 5) hx hb dX11_laysLikely_5 (by decide) ?_
  refine lv_istore_n (lv' := [(3, .int (0 : Int32)), (0, .ref (ad 0)), (1, .int p1), (2, .int p2)]) (pc := 6) hx hb dX11_laysLikely_6 rfl hl (by decide) rfl (fun ls hl => ?_)
  obtain ⟨g33, v31, a32, hj, hf⟩ := zc_3 hf
  refine zj_join (pcJ := 138) (stk := []) (X := fun H locs ls => lv_has ls 8 [(0, .ref (ad 0)), (2, .int p2)] ∧ va_P (dC, dI) zz_cls [zr_o ad f_thrown f_taped f_at f_behind f_size f_kind f_number f_wrong f_wrongAt f_faultKind f_faultPlace f_reading f_toldWhy f_x v1 f_bestMany f_tail f_round1, (ad 2, .inl (dA 0, 2982, .inl b_all)), (ad 17, .inl (dA 0, 900, .inl a2)), (ad 18, .inl (dA 0, 6, .inl a3)), (ad 22, .inl (dA 0, 2880, .inl a4)), (ad 23, .inl (dA 0, 43200, .inl a5)), (ad 25, .inl (dA 2, 2880, .inl a6)), (ad 39, .inl (dA 0, 25920, .inl a32))] H ∧ va_D A [zr_o ad f_thrown f_taped f_at f_behind f_size f_kind f_number f_wrong f_wrongAt f_faultKind f_faultPlace f_reading f_toldWhy f_x v1 f_bestMany f_tail f_round1, (ad 2, .inl (dA 0, 2982, .inl b_all)), (ad 17, .inl (dA 0, 900, .inl a2)), (ad 18, .inl (dA 0, 6, .inl a3)), (ad 22, .inl (dA 0, 2880, .inl a4)), (ad 23, .inl (dA 0, 43200, .inl a5)), (ad 25, .inl (dA 2, 2880, .inl a6)), (ad 39, .inl (dA 0, 25920, .inl a32))] ∧ va_S A s.heap H locs) (fun H locs ls hX => ?_) (fun E138 => ?_)
  · obtain ⟨hl, hP, hD, hS⟩ := hX
    clear hj
    refine lv_aload_n (pc := 138) hx hb dX11_laysLikely_138 rfl (lv_at hl 0 rfl) ?_
    refine va_get (pc := 139) (D := (dC, dI)) (ci := 0) (v := .ref (ad 39)) (C := RX11) (T := TX11) (N := 42) hx hb ht zr_lay hown hK hP 0 rfl rfl 38 (by decide) (ht _ zr_30) (fun _ h9 => h9) rfl dX11_laysLikely_139 ?_
    refine lv_sipush (v := (2880 : Int32)) (pc := 142) hx hb dX11_laysLikely_142 (by decide) ?_
    refine lv_iload_n (pc := 145) hx hb dX11_laysLikely_145 rfl (lv_at hl 1 rfl) ?_
    refine lv_imul (pc := 146) hx hb dX11_laysLikely_146 ?_
    refine lv_aload_n (pc := 147) hx hb dX11_laysLikely_147 rfl (lv_at hl 0 rfl) ?_
    obtain ⟨v34, hv34, hf⟩ := zc_1 hf
    refine zw_Vi (pc := 148) (wc := [zr_o ad f_thrown f_taped f_at f_behind f_size f_kind f_number f_wrong f_wrongAt f_faultKind f_faultPlace f_reading f_toldWhy f_x v1 f_bestMany f_tail f_round1, (ad 2, .inl (dA 0, 2982, .inl b_all))]) (wr := [(ad 17, .inl (dA 0, 900, .inl a2)), (ad 18, .inl (dA 0, 6, .inl a3)), (ad 22, .inl (dA 0, 2880, .inl a4)), (ad 23, .inl (dA 0, 43200, .inl a5)), (ad 25, .inl (dA 2, 2880, .inl a6)), (ad 39, .inl (dA 0, 25920, .inl a32))]) (w1 := [zr_o ad f_thrown f_taped f_at f_behind f_size f_kind f_number f_wrong f_wrongAt f_faultKind f_faultPlace f_reading f_toldWhy f_x v1 f_bestMany f_tail f_round1, (ad 2, .inl (dA 0, 2982, .inl b_all))]) (As := []) (rest := [.int ((2880 : Int32) * p2), .ref (ad 39)]) ⟨hx, hb, hml, hown, ht⟩ (zt_X11_standNow l dC dI dA ad _ f_thrown f_taped f_at f_behind f_size f_kind f_number f_wrong f_wrongAt f_faultKind f_faultPlace f_reading f_toldWhy f_x v1 f_bestMany f_tail f_round1 b_all v34 hv34) (cwV 0 ht (zr_V zr_261 zr_262 zr_263 zr_36 zr_213) rfl rfl rfl zk_X11_standNow ⟨Nat.le_of_ble_eq_true rfl, Nat.le_of_ble_eq_true rfl⟩) rfl rfl hK hP hD hS hA [0, 1] [2, 3, 4, 5, 6, 7] (by decide) (by decide) (by decide) rfl rfl rfl hl.1 (Nat.le_of_ble_eq_true rfl) dX11_laysLikely_148 ⟨Nat.zero_le _, Nat.zero_le _⟩ rfl (fun H locs hP hD hS => ?_)
    have hP : va_P (dC, dI) zz_cls [(ad 17, .inl (dA 0, 900, .inl a2)), (ad 18, .inl (dA 0, 6, .inl a3)), (ad 22, .inl (dA 0, 2880, .inl a4)), (ad 23, .inl (dA 0, 43200, .inl a5)), (ad 25, .inl (dA 2, 2880, .inl a6)), (ad 39, .inl (dA 0, 25920, .inl a32)), zr_o ad f_thrown f_taped f_at f_behind f_size f_kind f_number f_wrong f_wrongAt f_faultKind f_faultPlace f_reading f_toldWhy f_x v1 f_bestMany f_tail f_round1, (ad 2, .inl (dA 0, 2982, .inl b_all))] H := hP
    have hD : va_D A [(ad 17, .inl (dA 0, 900, .inl a2)), (ad 18, .inl (dA 0, 6, .inl a3)), (ad 22, .inl (dA 0, 2880, .inl a4)), (ad 23, .inl (dA 0, 43200, .inl a5)), (ad 25, .inl (dA 2, 2880, .inl a6)), (ad 39, .inl (dA 0, 25920, .inl a32)), zr_o ad f_thrown f_taped f_at f_behind f_size f_kind f_number f_wrong f_wrongAt f_faultKind f_faultPlace f_reading f_toldWhy f_x v1 f_bestMany f_tail f_round1, (ad 2, .inl (dA 0, 2982, .inl b_all))] := hD
    refine lv_iadd (pc := 151) hx hb dX11_laysLikely_151 ?_
    obtain ⟨v35, hv35, hf⟩ := zc_1 hf
    refine zw_iald (pc := 152) hx hb hK hP 5 0 rfl rfl hv35 dX11_laysLikely_152 ?_
    obtain ⟨rfl, rfl, rfl, rfl, rfl, rfl, rfl, rfl⟩ := zi_8 hf
    exact W.iret (pc := 153) hx hb hr (fun t ht hW => ⟨⟨_, (), rfl, rfl, zz_Bi (by rw [ht]; exact hP.sub [6, 7, 0, 1, 2, 3, 4, 5] rfl) (va_K.moved hW.alike hK) (hD.sub [6, 7, 0, 1, 2, 3, 4, 5] (by decide) rfl)⟩, hS.F ht⟩) hS.2.2 dX11_laysLikely_153
  clear hf
  refine zw_loop (pcH := 7) (X := fun v H locs ls => lv_has ls 8 [(0, .ref (ad 0)), (1, .int p1), (2, .int p2), (3, .int v.1)] ∧ va_P (dC, dI) zz_cls [zr_o ad f_thrown f_taped f_at f_behind f_size f_kind f_number f_wrong f_wrongAt f_faultKind f_faultPlace f_reading f_toldWhy f_x v1 f_bestMany f_tail f_round1, (ad 2, .inl (dA 0, 2982, .inl b_all)), (ad 17, .inl (dA 0, 900, .inl a2)), (ad 18, .inl (dA 0, 6, .inl a3)), (ad 22, .inl (dA 0, 2880, .inl a4)), (ad 23, .inl (dA 0, 43200, .inl a5)), (ad 25, .inl (dA 2, 2880, .inl a6)), (ad 39, .inl (dA 0, 25920, .inl v.2))] H ∧ va_D A [zr_o ad f_thrown f_taped f_at f_behind f_size f_kind f_number f_wrong f_wrongAt f_faultKind f_faultPlace f_reading f_toldWhy f_x v1 f_bestMany f_tail f_round1, (ad 2, .inl (dA 0, 2982, .inl b_all)), (ad 17, .inl (dA 0, 900, .inl a2)), (ad 18, .inl (dA 0, 6, .inl a3)), (ad 22, .inl (dA 0, 2880, .inl a4)), (ad 23, .inl (dA 0, 43200, .inl a5)), (ad 25, .inl (dA 2, 2880, .inl a6)), (ad 39, .inl (dA 0, 25920, .inl v.2))] ∧ va_S A s.heap H locs) hj (fun v w hf ih ex H locs ls hX => ?_) _ _ _ ⟨lv_sub hl [1, 2, 3, 0] rfl, hP.sub [1, 2, 3, 4, 5, 6, 7, 0] rfl, hD.sub [1, 2, 3, 4, 5, 6, 7, 0] (by decide) rfl, hS⟩
  clear hj
  obtain ⟨v7, a8⟩ := v
  obtain ⟨hl, hP, hD, hS⟩ := hX
  have hl : lv_has ls 8 [(0, .ref (ad 0)), (1, .int p1), (2, .int p2), (3, .int v7)] := hl
  have hP : va_P (dC, dI) zz_cls [zr_o ad f_thrown f_taped f_at f_behind f_size f_kind f_number f_wrong f_wrongAt f_faultKind f_faultPlace f_reading f_toldWhy f_x v1 f_bestMany f_tail f_round1, (ad 2, .inl (dA 0, 2982, .inl b_all)), (ad 17, .inl (dA 0, 900, .inl a2)), (ad 18, .inl (dA 0, 6, .inl a3)), (ad 22, .inl (dA 0, 2880, .inl a4)), (ad 23, .inl (dA 0, 43200, .inl a5)), (ad 25, .inl (dA 2, 2880, .inl a6)), (ad 39, .inl (dA 0, 25920, .inl a8))] H := hP
  have hD : va_D A [zr_o ad f_thrown f_taped f_at f_behind f_size f_kind f_number f_wrong f_wrongAt f_faultKind f_faultPlace f_reading f_toldWhy f_x v1 f_bestMany f_tail f_round1, (ad 2, .inl (dA 0, 2982, .inl b_all)), (ad 17, .inl (dA 0, 900, .inl a2)), (ad 18, .inl (dA 0, 6, .inl a3)), (ad 22, .inl (dA 0, 2880, .inl a4)), (ad 23, .inl (dA 0, 43200, .inl a5)), (ad 25, .inl (dA 2, 2880, .inl a6)), (ad 39, .inl (dA 0, 25920, .inl a8))] := hD
  replace hf : zb_X11_laysLikely_7 p2 v1 a4 p1 n b_all a5 v7 a8 = some w := hf
  unfold zb_X11_laysLikely_7 at hf
  refine lv_iload_n (pc := 7) hx hb dX11_laysLikely_7 rfl (lv_at hl 3 rfl) ?_
  refine lv_iload_n (pc := 8) hx hb dX11_laysLikely_8 rfl (lv_at hl 2 rfl) ?_
  refine lv_icmp_gt (tgt := 138) (pc := 9) hx hb dX11_laysLikely_9 rfl (fun hc => ?_) (fun hc => ?_)
  · have hf := za_t hf hc
    obtain rfl := Option.some.inj hf
    obtain ⟨rfl, rfl, rfl⟩ := zp_3 (ex (show ¬ (1 : Nat) = 0 by decide))
    exact E138 _ _ _ ⟨lv_sub hl [0, 2] rfl, hP, hD, hS⟩
  · have hf := za_f hf hc
    refine lv_iconst (v := (0 : Int32)) (pc := 12) hx hb dX11_laysLikely_12 (by decide) ?_
    refine lv_istore (lv' := [(4, .int (0 : Int32)), (0, .ref (ad 0)), (1, .int p1), (2, .int p2), (3, .int v7)]) (pc := 13) hx hb dX11_laysLikely_13 hl (by decide) rfl (fun ls hl => ?_)
    obtain ⟨g29, v27, a28, hj, hf⟩ := zc_3 hf
    refine zj_join (pcJ := 132) (stk := []) (X := fun H locs ls => lv_has ls 8 [(0, .ref (ad 0)), (1, .int p1), (2, .int p2), (3, .int v7)] ∧ va_P (dC, dI) zz_cls [zr_o ad f_thrown f_taped f_at f_behind f_size f_kind f_number f_wrong f_wrongAt f_faultKind f_faultPlace f_reading f_toldWhy f_x v1 f_bestMany f_tail f_round1, (ad 2, .inl (dA 0, 2982, .inl b_all)), (ad 17, .inl (dA 0, 900, .inl a2)), (ad 18, .inl (dA 0, 6, .inl a3)), (ad 22, .inl (dA 0, 2880, .inl a4)), (ad 23, .inl (dA 0, 43200, .inl a5)), (ad 25, .inl (dA 2, 2880, .inl a6)), (ad 39, .inl (dA 0, 25920, .inl a28))] H ∧ va_D A [zr_o ad f_thrown f_taped f_at f_behind f_size f_kind f_number f_wrong f_wrongAt f_faultKind f_faultPlace f_reading f_toldWhy f_x v1 f_bestMany f_tail f_round1, (ad 2, .inl (dA 0, 2982, .inl b_all)), (ad 17, .inl (dA 0, 900, .inl a2)), (ad 18, .inl (dA 0, 6, .inl a3)), (ad 22, .inl (dA 0, 2880, .inl a4)), (ad 23, .inl (dA 0, 43200, .inl a5)), (ad 25, .inl (dA 2, 2880, .inl a6)), (ad 39, .inl (dA 0, 25920, .inl a28))] ∧ va_S A s.heap H locs) (fun H locs ls hX => ?_) (fun E132 => ?_)
    · obtain ⟨hl, hP, hD, hS⟩ := hX
      clear hj
      obtain ⟨v30, hv30, hf⟩ := zc_1 hf
      refine lv_iinc (v := v30) (lv' := [(3, .int v30), (0, .ref (ad 0)), (1, .int p1), (2, .int p2)]) (k := 3) (pc := 132) hx hb dX11_laysLikely_132 hl rfl (Option.some.inj hv30) (by decide) rfl (fun ls hl => ?_)
      refine lv_goto (tgt := 7) (pc := 135) hx hb dX11_laysLikely_135 rfl ?_
      obtain rfl := Option.some.inj hf
      exact ih rfl _ _ _ ⟨lv_sub hl [1, 2, 3, 0] rfl, hP, hD, hS⟩
    clear hf
    refine zw_loop (pcH := 15) (X := fun v H locs ls => lv_has ls 8 [(0, .ref (ad 0)), (1, .int p1), (2, .int p2), (3, .int v7), (4, .int v.1)] ∧ va_P (dC, dI) zz_cls [zr_o ad f_thrown f_taped f_at f_behind f_size f_kind f_number f_wrong f_wrongAt f_faultKind f_faultPlace f_reading f_toldWhy f_x v1 f_bestMany f_tail f_round1, (ad 2, .inl (dA 0, 2982, .inl b_all)), (ad 17, .inl (dA 0, 900, .inl a2)), (ad 18, .inl (dA 0, 6, .inl a3)), (ad 22, .inl (dA 0, 2880, .inl a4)), (ad 23, .inl (dA 0, 43200, .inl a5)), (ad 25, .inl (dA 2, 2880, .inl a6)), (ad 39, .inl (dA 0, 25920, .inl v.2))] H ∧ va_D A [zr_o ad f_thrown f_taped f_at f_behind f_size f_kind f_number f_wrong f_wrongAt f_faultKind f_faultPlace f_reading f_toldWhy f_x v1 f_bestMany f_tail f_round1, (ad 2, .inl (dA 0, 2982, .inl b_all)), (ad 17, .inl (dA 0, 900, .inl a2)), (ad 18, .inl (dA 0, 6, .inl a3)), (ad 22, .inl (dA 0, 2880, .inl a4)), (ad 23, .inl (dA 0, 43200, .inl a5)), (ad 25, .inl (dA 2, 2880, .inl a6)), (ad 39, .inl (dA 0, 25920, .inl v.2))] ∧ va_S A s.heap H locs) hj (fun v w hf ih ex H locs ls hX => ?_) _ _ _ ⟨lv_sub hl [1, 2, 3, 4, 0] rfl, hP, hD, hS⟩
    clear hj
    obtain ⟨v9, a10⟩ := v
    obtain ⟨hl, hP, hD, hS⟩ := hX
    have hl : lv_has ls 8 [(0, .ref (ad 0)), (1, .int p1), (2, .int p2), (3, .int v7), (4, .int v9)] := hl
    have hP : va_P (dC, dI) zz_cls [zr_o ad f_thrown f_taped f_at f_behind f_size f_kind f_number f_wrong f_wrongAt f_faultKind f_faultPlace f_reading f_toldWhy f_x v1 f_bestMany f_tail f_round1, (ad 2, .inl (dA 0, 2982, .inl b_all)), (ad 17, .inl (dA 0, 900, .inl a2)), (ad 18, .inl (dA 0, 6, .inl a3)), (ad 22, .inl (dA 0, 2880, .inl a4)), (ad 23, .inl (dA 0, 43200, .inl a5)), (ad 25, .inl (dA 2, 2880, .inl a6)), (ad 39, .inl (dA 0, 25920, .inl a10))] H := hP
    have hD : va_D A [zr_o ad f_thrown f_taped f_at f_behind f_size f_kind f_number f_wrong f_wrongAt f_faultKind f_faultPlace f_reading f_toldWhy f_x v1 f_bestMany f_tail f_round1, (ad 2, .inl (dA 0, 2982, .inl b_all)), (ad 17, .inl (dA 0, 900, .inl a2)), (ad 18, .inl (dA 0, 6, .inl a3)), (ad 22, .inl (dA 0, 2880, .inl a4)), (ad 23, .inl (dA 0, 43200, .inl a5)), (ad 25, .inl (dA 2, 2880, .inl a6)), (ad 39, .inl (dA 0, 25920, .inl a10))] := hD
    replace hf : zb_X11_laysLikely_15 v1 a4 p1 n v7 b_all a5 v9 a10 = some w := hf
    unfold zb_X11_laysLikely_15 at hf
    refine lv_iload (pc := 15) hx hb dX11_laysLikely_15 (lv_at hl 4 rfl) ?_
    refine lv_aload_n (pc := 17) hx hb dX11_laysLikely_17 rfl (lv_at hl 0 rfl) ?_
    refine va_get (pc := 18) (D := (dC, dI)) (ci := 0) (v := .int v1) (C := RX11) (T := TX11) (N := 42) hx hb ht zr_lay hown hK hP 0 rfl rfl 25 (by decide) (ht _ zr_340) (fun _ h9 => h9) rfl dX11_laysLikely_18 ?_
    refine lv_icmp_ge (tgt := 132) (pc := 21) hx hb dX11_laysLikely_21 rfl (fun hc => ?_) (fun hc => ?_)
    · have hf := za_t hf hc
      obtain rfl := Option.some.inj hf
      obtain ⟨rfl, rfl, rfl⟩ := zp_3 (ex (show ¬ (1 : Nat) = 0 by decide))
      exact E132 _ _ _ ⟨lv_sub hl [0, 1, 2, 3] rfl, hP, hD, hS⟩
    · have hf := za_f hf hc
      refine lv_aload_n (pc := 24) hx hb dX11_laysLikely_24 rfl (lv_at hl 0 rfl) ?_
      refine va_get (pc := 25) (D := (dC, dI)) (ci := 0) (v := .ref (ad 22)) (C := RX11) (T := TX11) (N := 42) hx hb ht zr_lay hown hK hP 0 rfl rfl 21 (by decide) (ht _ zr_15) (fun _ h9 => h9) rfl dX11_laysLikely_25 ?_
      refine lv_iload (pc := 28) hx hb dX11_laysLikely_28 (lv_at hl 4 rfl) ?_
      obtain ⟨v11, hv11, hf⟩ := zc_1 hf
      refine zw_iald (pc := 30) hx hb hK hP 4 0 rfl rfl hv11 dX11_laysLikely_30 ?_
      refine lv_istore (lv' := [(5, .int v11), (0, .ref (ad 0)), (1, .int p1), (2, .int p2), (3, .int v7), (4, .int v9)]) (pc := 31) hx hb dX11_laysLikely_31 hl (by decide) rfl (fun ls hl => ?_)
      refine lv_iload (pc := 33) hx hb dX11_laysLikely_33 (lv_at hl 0 rfl) ?_
      obtain ⟨v12, hv12, hf⟩ := zc_1 hf
      refine zw_Si (pc := 35) (wc := []) (wr := [zr_o ad f_thrown f_taped f_at f_behind f_size f_kind f_number f_wrong f_wrongAt f_faultKind f_faultPlace f_reading f_toldWhy f_x v1 f_bestMany f_tail f_round1, (ad 2, .inl (dA 0, 2982, .inl b_all)), (ad 17, .inl (dA 0, 900, .inl a2)), (ad 18, .inl (dA 0, 6, .inl a3)), (ad 22, .inl (dA 0, 2880, .inl a4)), (ad 23, .inl (dA 0, 43200, .inl a5)), (ad 25, .inl (dA 2, 2880, .inl a6)), (ad 39, .inl (dA 0, 25920, .inl a10))]) (w1 := []) (As := [.int v11]) (rest := []) ⟨hx, hb, hml, hown, ht⟩ (zt_X11_rungIn l dC dI dA ad _ v11 v12 hv12) (cwS 1 ht (zr_S zr_217 zr_218 zr_36 zr_210) rfl rfl rfl zk_X11_rungIn ⟨Nat.le_of_ble_eq_true rfl, Nat.le_of_ble_eq_true rfl⟩) hK hP hD hS hA [] [0, 1, 2, 3, 4, 5, 6, 7] (by decide) (by decide) (by decide) rfl rfl rfl hl.1 (Nat.le_of_ble_eq_true rfl) dX11_laysLikely_35 ⟨Nat.zero_le _, Nat.zero_le _⟩ rfl (fun H locs hP hD hS => ?_)
      have hP : va_P (dC, dI) zz_cls [zr_o ad f_thrown f_taped f_at f_behind f_size f_kind f_number f_wrong f_wrongAt f_faultKind f_faultPlace f_reading f_toldWhy f_x v1 f_bestMany f_tail f_round1, (ad 2, .inl (dA 0, 2982, .inl b_all)), (ad 17, .inl (dA 0, 900, .inl a2)), (ad 18, .inl (dA 0, 6, .inl a3)), (ad 22, .inl (dA 0, 2880, .inl a4)), (ad 23, .inl (dA 0, 43200, .inl a5)), (ad 25, .inl (dA 2, 2880, .inl a6)), (ad 39, .inl (dA 0, 25920, .inl a10))] H := hP
      have hD : va_D A [zr_o ad f_thrown f_taped f_at f_behind f_size f_kind f_number f_wrong f_wrongAt f_faultKind f_faultPlace f_reading f_toldWhy f_x v1 f_bestMany f_tail f_round1, (ad 2, .inl (dA 0, 2982, .inl b_all)), (ad 17, .inl (dA 0, 900, .inl a2)), (ad 18, .inl (dA 0, 6, .inl a3)), (ad 22, .inl (dA 0, 2880, .inl a4)), (ad 23, .inl (dA 0, 43200, .inl a5)), (ad 25, .inl (dA 2, 2880, .inl a6)), (ad 39, .inl (dA 0, 25920, .inl a10))] := hD
      refine lv_iload_n (pc := 38) hx hb dX11_laysLikely_38 rfl (lv_at hl 2 rfl) ?_
      obtain ⟨v14, hj, hf⟩ := zc_1 hf
      refine zj_join (pcJ := 50) (stk := [.int v14]) (X := fun H locs ls => lv_has ls 8 [(0, .ref (ad 0)), (1, .int p1), (2, .int p2), (3, .int v7), (4, .int v9), (5, .int v11)] ∧ va_P (dC, dI) zz_cls [zr_o ad f_thrown f_taped f_at f_behind f_size f_kind f_number f_wrong f_wrongAt f_faultKind f_faultPlace f_reading f_toldWhy f_x v1 f_bestMany f_tail f_round1, (ad 2, .inl (dA 0, 2982, .inl b_all)), (ad 17, .inl (dA 0, 900, .inl a2)), (ad 18, .inl (dA 0, 6, .inl a3)), (ad 22, .inl (dA 0, 2880, .inl a4)), (ad 23, .inl (dA 0, 43200, .inl a5)), (ad 25, .inl (dA 2, 2880, .inl a6)), (ad 39, .inl (dA 0, 25920, .inl a10))] H ∧ va_D A [zr_o ad f_thrown f_taped f_at f_behind f_size f_kind f_number f_wrong f_wrongAt f_faultKind f_faultPlace f_reading f_toldWhy f_x v1 f_bestMany f_tail f_round1, (ad 2, .inl (dA 0, 2982, .inl b_all)), (ad 17, .inl (dA 0, 900, .inl a2)), (ad 18, .inl (dA 0, 6, .inl a3)), (ad 22, .inl (dA 0, 2880, .inl a4)), (ad 23, .inl (dA 0, 43200, .inl a5)), (ad 25, .inl (dA 2, 2880, .inl a6)), (ad 39, .inl (dA 0, 25920, .inl a10))] ∧ va_S A s.heap H locs) (fun H locs ls hX => ?_) (fun J50 => ?_)
      · obtain ⟨hl, hP, hD, hS⟩ := hX
        clear hj
        refine lv_istore (lv' := [(6, .int v14), (0, .ref (ad 0)), (1, .int p1), (2, .int p2), (3, .int v7), (4, .int v9), (5, .int v11)]) (pc := 50) hx hb dX11_laysLikely_50 hl (by decide) rfl (fun ls hl => ?_)
        refine lv_iconst (v := (0 : Int32)) (pc := 52) hx hb dX11_laysLikely_52 (by decide) ?_
        refine lv_istore (lv' := [(7, .int (0 : Int32)), (6, .int v14), (0, .ref (ad 0)), (1, .int p1), (2, .int p2), (3, .int v7), (4, .int v9), (5, .int v11)]) (pc := 53) hx hb dX11_laysLikely_53 hl (by decide) rfl (fun ls hl => ?_)
        obtain ⟨g24, v22, v23, hj, hf⟩ := zc_3 hf
        refine zj_join (pcJ := 111) (stk := []) (X := fun H locs ls => lv_has ls 8 [(0, .ref (ad 0)), (1, .int p1), (2, .int p2), (3, .int v7), (4, .int v9), (5, .int v11), (6, .int v22)] ∧ va_P (dC, dI) zz_cls [zr_o ad f_thrown f_taped f_at f_behind f_size f_kind f_number f_wrong f_wrongAt f_faultKind f_faultPlace f_reading f_toldWhy f_x v1 f_bestMany f_tail f_round1, (ad 2, .inl (dA 0, 2982, .inl b_all)), (ad 17, .inl (dA 0, 900, .inl a2)), (ad 18, .inl (dA 0, 6, .inl a3)), (ad 22, .inl (dA 0, 2880, .inl a4)), (ad 23, .inl (dA 0, 43200, .inl a5)), (ad 25, .inl (dA 2, 2880, .inl a6)), (ad 39, .inl (dA 0, 25920, .inl a10))] H ∧ va_D A [zr_o ad f_thrown f_taped f_at f_behind f_size f_kind f_number f_wrong f_wrongAt f_faultKind f_faultPlace f_reading f_toldWhy f_x v1 f_bestMany f_tail f_round1, (ad 2, .inl (dA 0, 2982, .inl b_all)), (ad 17, .inl (dA 0, 900, .inl a2)), (ad 18, .inl (dA 0, 6, .inl a3)), (ad 22, .inl (dA 0, 2880, .inl a4)), (ad 23, .inl (dA 0, 43200, .inl a5)), (ad 25, .inl (dA 2, 2880, .inl a6)), (ad 39, .inl (dA 0, 25920, .inl a10))] ∧ va_S A s.heap H locs) (fun H locs ls hX => ?_) (fun E111 => ?_)
        · obtain ⟨hl, hP, hD, hS⟩ := hX
          clear hj
          refine lv_aload_n (pc := 111) hx hb dX11_laysLikely_111 rfl (lv_at hl 0 rfl) ?_
          refine va_get (pc := 112) (D := (dC, dI)) (ci := 0) (v := .ref (ad 39)) (C := RX11) (T := TX11) (N := 42) hx hb ht zr_lay hown hK hP 0 rfl rfl 38 (by decide) (ht _ zr_30) (fun _ h9 => h9) rfl dX11_laysLikely_112 ?_
          refine lv_sipush (v := (2880 : Int32)) (pc := 115) hx hb dX11_laysLikely_115 (by decide) ?_
          refine lv_iload_n (pc := 118) hx hb dX11_laysLikely_118 rfl (lv_at hl 3 rfl) ?_
          refine lv_imul (pc := 119) hx hb dX11_laysLikely_119 ?_
          refine lv_iload (pc := 120) hx hb dX11_laysLikely_120 (lv_at hl 5 rfl) ?_
          refine lv_iadd (pc := 122) hx hb dX11_laysLikely_122 ?_
          refine lv_iload (pc := 123) hx hb dX11_laysLikely_123 (lv_at hl 6 rfl) ?_
          obtain ⟨a25, ha25, hf⟩ := zc_1 hf
          refine zw_iast (pc := 125) hx hb hK hP hD hS 7 0 rfl rfl ha25 dX11_laysLikely_125 (fun H locs hP hD hS => ?_)
          have hP : va_P (dC, dI) zz_cls [zr_o ad f_thrown f_taped f_at f_behind f_size f_kind f_number f_wrong f_wrongAt f_faultKind f_faultPlace f_reading f_toldWhy f_x v1 f_bestMany f_tail f_round1, (ad 2, .inl (dA 0, 2982, .inl b_all)), (ad 17, .inl (dA 0, 900, .inl a2)), (ad 18, .inl (dA 0, 6, .inl a3)), (ad 22, .inl (dA 0, 2880, .inl a4)), (ad 23, .inl (dA 0, 43200, .inl a5)), (ad 25, .inl (dA 2, 2880, .inl a6)), (ad 39, .inl (dA 0, 25920, .inl a25))] H := hP
          have hD : va_D A [zr_o ad f_thrown f_taped f_at f_behind f_size f_kind f_number f_wrong f_wrongAt f_faultKind f_faultPlace f_reading f_toldWhy f_x v1 f_bestMany f_tail f_round1, (ad 2, .inl (dA 0, 2982, .inl b_all)), (ad 17, .inl (dA 0, 900, .inl a2)), (ad 18, .inl (dA 0, 6, .inl a3)), (ad 22, .inl (dA 0, 2880, .inl a4)), (ad 23, .inl (dA 0, 43200, .inl a5)), (ad 25, .inl (dA 2, 2880, .inl a6)), (ad 39, .inl (dA 0, 25920, .inl a25))] := hD
          obtain ⟨v26, hv26, hf⟩ := zc_1 hf
          refine lv_iinc (v := v26) (lv' := [(4, .int v26), (0, .ref (ad 0)), (1, .int p1), (2, .int p2), (3, .int v7), (5, .int v11), (6, .int v22)]) (k := 4) (pc := 126) hx hb dX11_laysLikely_126 hl rfl (Option.some.inj hv26) (by decide) rfl (fun ls hl => ?_)
          refine lv_goto (tgt := 15) (pc := 129) hx hb dX11_laysLikely_129 rfl ?_
          obtain rfl := Option.some.inj hf
          exact ih rfl _ _ _ ⟨lv_sub hl [1, 2, 3, 4, 0] rfl, hP, hD, hS⟩
        clear hf
        refine zw_loop (pcH := 55) (X := fun v H locs ls => lv_has ls 8 [(0, .ref (ad 0)), (1, .int p1), (2, .int p2), (3, .int v7), (4, .int v9), (5, .int v11), (6, .int v.1), (7, .int v.2)] ∧ va_P (dC, dI) zz_cls [zr_o ad f_thrown f_taped f_at f_behind f_size f_kind f_number f_wrong f_wrongAt f_faultKind f_faultPlace f_reading f_toldWhy f_x v1 f_bestMany f_tail f_round1, (ad 2, .inl (dA 0, 2982, .inl b_all)), (ad 17, .inl (dA 0, 900, .inl a2)), (ad 18, .inl (dA 0, 6, .inl a3)), (ad 22, .inl (dA 0, 2880, .inl a4)), (ad 23, .inl (dA 0, 43200, .inl a5)), (ad 25, .inl (dA 2, 2880, .inl a6)), (ad 39, .inl (dA 0, 25920, .inl a10))] H ∧ va_D A [zr_o ad f_thrown f_taped f_at f_behind f_size f_kind f_number f_wrong f_wrongAt f_faultKind f_faultPlace f_reading f_toldWhy f_x v1 f_bestMany f_tail f_round1, (ad 2, .inl (dA 0, 2982, .inl b_all)), (ad 17, .inl (dA 0, 900, .inl a2)), (ad 18, .inl (dA 0, 6, .inl a3)), (ad 22, .inl (dA 0, 2880, .inl a4)), (ad 23, .inl (dA 0, 43200, .inl a5)), (ad 25, .inl (dA 2, 2880, .inl a6)), (ad 39, .inl (dA 0, 25920, .inl a10))] ∧ va_S A s.heap H locs) hj (fun v w hf ih ex H locs ls hX => ?_) _ _ _ ⟨lv_sub hl [2, 3, 4, 5, 6, 7, 1, 0] rfl, hP, hD, hS⟩
        clear hj
        obtain ⟨v15, v16⟩ := v
        obtain ⟨hl, hP, hD, hS⟩ := hX
        have hl : lv_has ls 8 [(0, .ref (ad 0)), (1, .int p1), (2, .int p2), (3, .int v7), (4, .int v9), (5, .int v11), (6, .int v15), (7, .int v16)] := hl
        have hP : va_P (dC, dI) zz_cls [zr_o ad f_thrown f_taped f_at f_behind f_size f_kind f_number f_wrong f_wrongAt f_faultKind f_faultPlace f_reading f_toldWhy f_x v1 f_bestMany f_tail f_round1, (ad 2, .inl (dA 0, 2982, .inl b_all)), (ad 17, .inl (dA 0, 900, .inl a2)), (ad 18, .inl (dA 0, 6, .inl a3)), (ad 22, .inl (dA 0, 2880, .inl a4)), (ad 23, .inl (dA 0, 43200, .inl a5)), (ad 25, .inl (dA 2, 2880, .inl a6)), (ad 39, .inl (dA 0, 25920, .inl a10))] H := hP
        have hD : va_D A [zr_o ad f_thrown f_taped f_at f_behind f_size f_kind f_number f_wrong f_wrongAt f_faultKind f_faultPlace f_reading f_toldWhy f_x v1 f_bestMany f_tail f_round1, (ad 2, .inl (dA 0, 2982, .inl b_all)), (ad 17, .inl (dA 0, 900, .inl a2)), (ad 18, .inl (dA 0, 6, .inl a3)), (ad 22, .inl (dA 0, 2880, .inl a4)), (ad 23, .inl (dA 0, 43200, .inl a5)), (ad 25, .inl (dA 2, 2880, .inl a6)), (ad 39, .inl (dA 0, 25920, .inl a10))] := hD
        replace hf : zb_X11_laysLikely_55 v7 n b_all a5 a10 v11 v15 v16 = some w := hf
        unfold zb_X11_laysLikely_55 at hf
        refine lv_iload (pc := 55) hx hb dX11_laysLikely_55 (lv_at hl 7 rfl) ?_
        refine lv_bipush (v := (15 : Int32)) (pc := 57) hx hb dX11_laysLikely_57 (by decide) ?_
        refine lv_icmp_ge (tgt := 111) (pc := 59) hx hb dX11_laysLikely_59 rfl (fun hc => ?_) (fun hc => ?_)
        · have hf := za_t hf hc
          obtain rfl := Option.some.inj hf
          obtain ⟨rfl, rfl, rfl⟩ := zp_3 (ex (show ¬ (1 : Nat) = 0 by decide))
          exact E111 _ _ _ ⟨lv_sub hl [0, 1, 2, 3, 4, 5, 6] rfl, hP, hD, hS⟩
        · have hf := za_f hf hc
          refine lv_iload_n (pc := 62) hx hb dX11_laysLikely_62 rfl (lv_at hl 3 rfl) ?_
          refine lv_if_le (tgt := 111) (pc := 63) hx hb dX11_laysLikely_63 rfl (fun hc => ?_) (fun hc => ?_)
          · have hf := za_t hf hc
            obtain rfl := Option.some.inj hf
            obtain ⟨rfl, rfl, rfl⟩ := zp_3 (ex (show ¬ (1 : Nat) = 0 by decide))
            exact E111 _ _ _ ⟨lv_sub hl [0, 1, 2, 3, 4, 5, 6] rfl, hP, hD, hS⟩
          · have hf := za_f hf hc
            refine lv_iload (pc := 66) hx hb dX11_laysLikely_66 (lv_at hl 6 rfl) ?_
            refine lv_iload_n (pc := 68) hx hb dX11_laysLikely_68 rfl (lv_at hl 3 rfl) ?_
            obtain ⟨v17, hv17, hf⟩ := zc_1 hf
            refine zw_Si (pc := 69) (wc := []) (wr := [zr_o ad f_thrown f_taped f_at f_behind f_size f_kind f_number f_wrong f_wrongAt f_faultKind f_faultPlace f_reading f_toldWhy f_x v1 f_bestMany f_tail f_round1, (ad 2, .inl (dA 0, 2982, .inl b_all)), (ad 17, .inl (dA 0, 900, .inl a2)), (ad 18, .inl (dA 0, 6, .inl a3)), (ad 22, .inl (dA 0, 2880, .inl a4)), (ad 23, .inl (dA 0, 43200, .inl a5)), (ad 25, .inl (dA 2, 2880, .inl a6)), (ad 39, .inl (dA 0, 25920, .inl a10))]) (w1 := []) (As := [.int v7]) (rest := [.int v15]) ⟨hx, hb, hml, hown, ht⟩ (zt_X11_wholeOf l dC dI dA ad _ n v7 v17 hv17) (cwS 1 ht (zr_S zr_452 zr_453 zr_36 zr_450) rfl rfl rfl zk_X11_wholeOf ⟨Nat.le_of_ble_eq_true rfl, Nat.le_of_ble_eq_true rfl⟩) hK hP hD hS hA [] [0, 1, 2, 3, 4, 5, 6, 7] (by decide) (by decide) (by decide) rfl rfl rfl hl.1 (Nat.le_of_ble_eq_true rfl) dX11_laysLikely_69 ⟨Nat.zero_le _, Nat.zero_le _⟩ rfl (fun H locs hP hD hS => ?_)
            have hP : va_P (dC, dI) zz_cls [zr_o ad f_thrown f_taped f_at f_behind f_size f_kind f_number f_wrong f_wrongAt f_faultKind f_faultPlace f_reading f_toldWhy f_x v1 f_bestMany f_tail f_round1, (ad 2, .inl (dA 0, 2982, .inl b_all)), (ad 17, .inl (dA 0, 900, .inl a2)), (ad 18, .inl (dA 0, 6, .inl a3)), (ad 22, .inl (dA 0, 2880, .inl a4)), (ad 23, .inl (dA 0, 43200, .inl a5)), (ad 25, .inl (dA 2, 2880, .inl a6)), (ad 39, .inl (dA 0, 25920, .inl a10))] H := hP
            have hD : va_D A [zr_o ad f_thrown f_taped f_at f_behind f_size f_kind f_number f_wrong f_wrongAt f_faultKind f_faultPlace f_reading f_toldWhy f_x v1 f_bestMany f_tail f_round1, (ad 2, .inl (dA 0, 2982, .inl b_all)), (ad 17, .inl (dA 0, 900, .inl a2)), (ad 18, .inl (dA 0, 6, .inl a3)), (ad 22, .inl (dA 0, 2880, .inl a4)), (ad 23, .inl (dA 0, 43200, .inl a5)), (ad 25, .inl (dA 2, 2880, .inl a6)), (ad 39, .inl (dA 0, 25920, .inl a10))] := hD
            refine lv_icmp_ge (tgt := 111) (pc := 72) hx hb dX11_laysLikely_72 rfl (fun hc => ?_) (fun hc => ?_)
            · have hf := za_t hf hc
              obtain rfl := Option.some.inj hf
              obtain ⟨rfl, rfl, rfl⟩ := zp_3 (ex (show ¬ (1 : Nat) = 0 by decide))
              exact E111 _ _ _ ⟨lv_sub hl [0, 1, 2, 3, 4, 5, 6] rfl, hP, hD, hS⟩
            · have hf := za_f hf hc
              refine lv_aload_n (pc := 75) hx hb dX11_laysLikely_75 rfl (lv_at hl 0 rfl) ?_
              refine lv_iload (pc := 76) hx hb dX11_laysLikely_76 (lv_at hl 5 rfl) ?_
              refine lv_iload (pc := 78) hx hb dX11_laysLikely_78 (lv_at hl 7 rfl) ?_
              refine lv_iload_n (pc := 80) hx hb dX11_laysLikely_80 rfl (lv_at hl 3 rfl) ?_
              obtain ⟨v18, hv18, hf⟩ := zc_1 hf
              refine zw_Vi (pc := 81) (wc := [zr_o ad f_thrown f_taped f_at f_behind f_size f_kind f_number f_wrong f_wrongAt f_faultKind f_faultPlace f_reading f_toldWhy f_x v1 f_bestMany f_tail f_round1, (ad 2, .inl (dA 0, 2982, .inl b_all)), (ad 23, .inl (dA 0, 43200, .inl a5)), (ad 39, .inl (dA 0, 25920, .inl a10))]) (wr := [(ad 17, .inl (dA 0, 900, .inl a2)), (ad 18, .inl (dA 0, 6, .inl a3)), (ad 22, .inl (dA 0, 2880, .inl a4)), (ad 25, .inl (dA 2, 2880, .inl a6))]) (w1 := [zr_o ad f_thrown f_taped f_at f_behind f_size f_kind f_number f_wrong f_wrongAt f_faultKind f_faultPlace f_reading f_toldWhy f_x v1 f_bestMany f_tail f_round1, (ad 2, .inl (dA 0, 2982, .inl b_all)), (ad 23, .inl (dA 0, 43200, .inl a5)), (ad 39, .inl (dA 0, 25920, .inl a10))]) (As := [.int v11, .int v16, .int v7]) (rest := []) ⟨hx, hb, hml, hown, ht⟩ (zt_X11_likelyBy l dC dI dA ad _ f_thrown f_taped f_at f_behind f_size f_kind f_number f_wrong f_wrongAt f_faultKind f_faultPlace f_reading f_toldWhy f_x v1 f_bestMany f_tail f_round1 b_all a5 a10 v11 v16 v7 v18 hv18) (cwV 3 ht (zr_V zr_454 zr_455 zr_456 zr_36 zr_451) rfl rfl rfl zk_X11_likelyBy ⟨Nat.le_of_ble_eq_true rfl, Nat.le_of_ble_eq_true rfl⟩) rfl rfl hK hP hD hS hA [0, 1, 5, 7] [2, 3, 4, 6] (by decide) (by decide) (by decide) rfl rfl rfl hl.1 (Nat.le_of_ble_eq_true rfl) dX11_laysLikely_81 ⟨Nat.zero_le _, Nat.zero_le _⟩ rfl (fun H locs hP hD hS => ?_)
              have hP : va_P (dC, dI) zz_cls [(ad 17, .inl (dA 0, 900, .inl a2)), (ad 18, .inl (dA 0, 6, .inl a3)), (ad 22, .inl (dA 0, 2880, .inl a4)), (ad 25, .inl (dA 2, 2880, .inl a6)), zr_o ad f_thrown f_taped f_at f_behind f_size f_kind f_number f_wrong f_wrongAt f_faultKind f_faultPlace f_reading f_toldWhy f_x v1 f_bestMany f_tail f_round1, (ad 2, .inl (dA 0, 2982, .inl b_all)), (ad 23, .inl (dA 0, 43200, .inl a5)), (ad 39, .inl (dA 0, 25920, .inl a10))] H := hP
              have hD : va_D A [(ad 17, .inl (dA 0, 900, .inl a2)), (ad 18, .inl (dA 0, 6, .inl a3)), (ad 22, .inl (dA 0, 2880, .inl a4)), (ad 25, .inl (dA 2, 2880, .inl a6)), zr_o ad f_thrown f_taped f_at f_behind f_size f_kind f_number f_wrong f_wrongAt f_faultKind f_faultPlace f_reading f_toldWhy f_x v1 f_bestMany f_tail f_round1, (ad 2, .inl (dA 0, 2982, .inl b_all)), (ad 23, .inl (dA 0, 43200, .inl a5)), (ad 39, .inl (dA 0, 25920, .inl a10))] := hD
              refine lv_iload (pc := 84) hx hb dX11_laysLikely_84 (lv_at hl 6 rfl) ?_
              obtain ⟨v20, hj, hf⟩ := zc_1 hf
              refine zj_join (pcJ := 103) (stk := [.int v20]) (X := fun H locs ls => lv_has ls 8 [(0, .ref (ad 0)), (1, .int p1), (2, .int p2), (3, .int v7), (4, .int v9), (5, .int v11), (7, .int v16)] ∧ va_P (dC, dI) zz_cls [zr_o ad f_thrown f_taped f_at f_behind f_size f_kind f_number f_wrong f_wrongAt f_faultKind f_faultPlace f_reading f_toldWhy f_x v1 f_bestMany f_tail f_round1, (ad 2, .inl (dA 0, 2982, .inl b_all)), (ad 17, .inl (dA 0, 900, .inl a2)), (ad 18, .inl (dA 0, 6, .inl a3)), (ad 22, .inl (dA 0, 2880, .inl a4)), (ad 23, .inl (dA 0, 43200, .inl a5)), (ad 25, .inl (dA 2, 2880, .inl a6)), (ad 39, .inl (dA 0, 25920, .inl a10))] H ∧ va_D A [zr_o ad f_thrown f_taped f_at f_behind f_size f_kind f_number f_wrong f_wrongAt f_faultKind f_faultPlace f_reading f_toldWhy f_x v1 f_bestMany f_tail f_round1, (ad 2, .inl (dA 0, 2982, .inl b_all)), (ad 17, .inl (dA 0, 900, .inl a2)), (ad 18, .inl (dA 0, 6, .inl a3)), (ad 22, .inl (dA 0, 2880, .inl a4)), (ad 23, .inl (dA 0, 43200, .inl a5)), (ad 25, .inl (dA 2, 2880, .inl a6)), (ad 39, .inl (dA 0, 25920, .inl a10))] ∧ va_S A s.heap H locs) (fun H locs ls hX => ?_) (fun J103 => ?_)
              · obtain ⟨hl, hP, hD, hS⟩ := hX
                clear hj
                refine lv_istore (lv' := [(6, .int v20), (0, .ref (ad 0)), (1, .int p1), (2, .int p2), (3, .int v7), (4, .int v9), (5, .int v11), (7, .int v16)]) (pc := 103) hx hb dX11_laysLikely_103 hl (by decide) rfl (fun ls hl => ?_)
                obtain ⟨v21, hv21, hf⟩ := zc_1 hf
                refine lv_iinc (v := v21) (lv' := [(7, .int v21), (6, .int v20), (0, .ref (ad 0)), (1, .int p1), (2, .int p2), (3, .int v7), (4, .int v9), (5, .int v11)]) (k := 7) (pc := 105) hx hb dX11_laysLikely_105 hl rfl (Option.some.inj hv21) (by decide) rfl (fun ls hl => ?_)
                refine lv_goto (tgt := 55) (pc := 108) hx hb dX11_laysLikely_108 rfl ?_
                obtain rfl := Option.some.inj hf
                exact ih rfl _ _ _ ⟨lv_sub hl [2, 3, 4, 5, 6, 7, 1, 0] rfl, hP, hD, hS⟩
              · clear hf
                have hf := hj
                clear hj
                refine lv_icmp_le (tgt := 101) (pc := 86) hx hb dX11_laysLikely_86 rfl (fun hc => ?_) (fun hc => ?_)
                · have hf := za_t hf hc
                  refine lv_iload (pc := 101) hx hb dX11_laysLikely_101 (lv_at hl 6 rfl) ?_
                  obtain rfl := Option.some.inj hf
                  exact J103 _ _ _ ⟨lv_sub hl [0, 1, 2, 3, 4, 5, 7] rfl, hP.sub [4, 5, 0, 1, 2, 6, 3, 7] rfl, hD.sub [4, 5, 0, 1, 2, 6, 3, 7] (by decide) rfl, hS⟩
                · have hf := za_f hf hc
                  refine lv_aload_n (pc := 89) hx hb dX11_laysLikely_89 rfl (lv_at hl 0 rfl) ?_
                  refine lv_iload (pc := 90) hx hb dX11_laysLikely_90 (lv_at hl 5 rfl) ?_
                  refine lv_iload (pc := 92) hx hb dX11_laysLikely_92 (lv_at hl 7 rfl) ?_
                  refine lv_iload_n (pc := 94) hx hb dX11_laysLikely_94 rfl (lv_at hl 3 rfl) ?_
                  obtain ⟨v19, hv19, hf⟩ := zc_1 hf
                  refine zw_Vi (pc := 95) (wc := [zr_o ad f_thrown f_taped f_at f_behind f_size f_kind f_number f_wrong f_wrongAt f_faultKind f_faultPlace f_reading f_toldWhy f_x v1 f_bestMany f_tail f_round1, (ad 2, .inl (dA 0, 2982, .inl b_all)), (ad 23, .inl (dA 0, 43200, .inl a5)), (ad 39, .inl (dA 0, 25920, .inl a10))]) (wr := [(ad 17, .inl (dA 0, 900, .inl a2)), (ad 18, .inl (dA 0, 6, .inl a3)), (ad 22, .inl (dA 0, 2880, .inl a4)), (ad 25, .inl (dA 2, 2880, .inl a6))]) (w1 := [zr_o ad f_thrown f_taped f_at f_behind f_size f_kind f_number f_wrong f_wrongAt f_faultKind f_faultPlace f_reading f_toldWhy f_x v1 f_bestMany f_tail f_round1, (ad 2, .inl (dA 0, 2982, .inl b_all)), (ad 23, .inl (dA 0, 43200, .inl a5)), (ad 39, .inl (dA 0, 25920, .inl a10))]) (As := [.int v11, .int v16, .int v7]) (rest := []) ⟨hx, hb, hml, hown, ht⟩ (zt_X11_likelyBy l dC dI dA ad _ f_thrown f_taped f_at f_behind f_size f_kind f_number f_wrong f_wrongAt f_faultKind f_faultPlace f_reading f_toldWhy f_x v1 f_bestMany f_tail f_round1 b_all a5 a10 v11 v16 v7 v19 hv19) (cwV 3 ht (zr_V zr_454 zr_455 zr_456 zr_36 zr_451) rfl rfl rfl zk_X11_likelyBy ⟨Nat.le_of_ble_eq_true rfl, Nat.le_of_ble_eq_true rfl⟩) rfl rfl hK hP hD hS hA [4, 5, 6, 7] [0, 1, 2, 3] (by decide) (by decide) (by decide) rfl rfl rfl hl.1 (Nat.le_of_ble_eq_true rfl) dX11_laysLikely_95 ⟨Nat.zero_le _, Nat.zero_le _⟩ rfl (fun H locs hP hD hS => ?_)
                  have hP : va_P (dC, dI) zz_cls [(ad 17, .inl (dA 0, 900, .inl a2)), (ad 18, .inl (dA 0, 6, .inl a3)), (ad 22, .inl (dA 0, 2880, .inl a4)), (ad 25, .inl (dA 2, 2880, .inl a6)), zr_o ad f_thrown f_taped f_at f_behind f_size f_kind f_number f_wrong f_wrongAt f_faultKind f_faultPlace f_reading f_toldWhy f_x v1 f_bestMany f_tail f_round1, (ad 2, .inl (dA 0, 2982, .inl b_all)), (ad 23, .inl (dA 0, 43200, .inl a5)), (ad 39, .inl (dA 0, 25920, .inl a10))] H := hP
                  have hD : va_D A [(ad 17, .inl (dA 0, 900, .inl a2)), (ad 18, .inl (dA 0, 6, .inl a3)), (ad 22, .inl (dA 0, 2880, .inl a4)), (ad 25, .inl (dA 2, 2880, .inl a6)), zr_o ad f_thrown f_taped f_at f_behind f_size f_kind f_number f_wrong f_wrongAt f_faultKind f_faultPlace f_reading f_toldWhy f_x v1 f_bestMany f_tail f_round1, (ad 2, .inl (dA 0, 2982, .inl b_all)), (ad 23, .inl (dA 0, 43200, .inl a5)), (ad 39, .inl (dA 0, 25920, .inl a10))] := hD
                  refine lv_goto (tgt := 103) (pc := 98) hx hb dX11_laysLikely_98 rfl ?_
                  obtain rfl := Option.some.inj hf
                  exact J103 _ _ _ ⟨lv_sub hl [0, 1, 2, 3, 4, 5, 7] rfl, hP.sub [4, 5, 0, 1, 2, 6, 3, 7] rfl, hD.sub [4, 5, 0, 1, 2, 6, 3, 7] (by decide) rfl, hS⟩
      · clear hf
        have hf := hj
        clear hj
        refine lv_icmp_ne (tgt := 49) (pc := 39) hx hb dX11_laysLikely_39 rfl (fun hc => ?_) (fun hc => ?_)
        · have hf := za_f hf hc
          refine lv_iconst (v := (0 : Int32)) (pc := 49) hx hb dX11_laysLikely_49 (by decide) ?_
          obtain rfl := Option.some.inj hf
          exact J50 _ _ _ ⟨lv_sub hl [1, 2, 3, 4, 5, 0] rfl, hP, hD, hS⟩
        · have hf := za_t hf hc
          refine lv_iload_n (pc := 42) hx hb dX11_laysLikely_42 rfl (lv_at hl 4 rfl) ?_
          obtain ⟨v13, hv13, hf⟩ := zc_1 hf
          refine zw_Si (pc := 43) (wc := []) (wr := [zr_o ad f_thrown f_taped f_at f_behind f_size f_kind f_number f_wrong f_wrongAt f_faultKind f_faultPlace f_reading f_toldWhy f_x v1 f_bestMany f_tail f_round1, (ad 2, .inl (dA 0, 2982, .inl b_all)), (ad 17, .inl (dA 0, 900, .inl a2)), (ad 18, .inl (dA 0, 6, .inl a3)), (ad 22, .inl (dA 0, 2880, .inl a4)), (ad 23, .inl (dA 0, 43200, .inl a5)), (ad 25, .inl (dA 2, 2880, .inl a6)), (ad 39, .inl (dA 0, 25920, .inl a10))]) (w1 := []) (As := [.int v7]) (rest := []) ⟨hx, hb, hml, hown, ht⟩ (zt_X11_wholeOf l dC dI dA ad _ n v7 v13 hv13) (cwS 1 ht (zr_S zr_452 zr_453 zr_36 zr_450) rfl rfl rfl zk_X11_wholeOf ⟨Nat.le_of_ble_eq_true rfl, Nat.le_of_ble_eq_true rfl⟩) hK hP hD hS hA [] [0, 1, 2, 3, 4, 5, 6, 7] (by decide) (by decide) (by decide) rfl rfl rfl hl.1 (Nat.le_of_ble_eq_true rfl) dX11_laysLikely_43 ⟨Nat.zero_le _, Nat.zero_le _⟩ rfl (fun H locs hP hD hS => ?_)
          have hP : va_P (dC, dI) zz_cls [zr_o ad f_thrown f_taped f_at f_behind f_size f_kind f_number f_wrong f_wrongAt f_faultKind f_faultPlace f_reading f_toldWhy f_x v1 f_bestMany f_tail f_round1, (ad 2, .inl (dA 0, 2982, .inl b_all)), (ad 17, .inl (dA 0, 900, .inl a2)), (ad 18, .inl (dA 0, 6, .inl a3)), (ad 22, .inl (dA 0, 2880, .inl a4)), (ad 23, .inl (dA 0, 43200, .inl a5)), (ad 25, .inl (dA 2, 2880, .inl a6)), (ad 39, .inl (dA 0, 25920, .inl a10))] H := hP
          have hD : va_D A [zr_o ad f_thrown f_taped f_at f_behind f_size f_kind f_number f_wrong f_wrongAt f_faultKind f_faultPlace f_reading f_toldWhy f_x v1 f_bestMany f_tail f_round1, (ad 2, .inl (dA 0, 2982, .inl b_all)), (ad 17, .inl (dA 0, 900, .inl a2)), (ad 18, .inl (dA 0, 6, .inl a3)), (ad 22, .inl (dA 0, 2880, .inl a4)), (ad 23, .inl (dA 0, 43200, .inl a5)), (ad 25, .inl (dA 2, 2880, .inl a6)), (ad 39, .inl (dA 0, 25920, .inl a10))] := hD
          refine lv_goto (tgt := 50) (pc := 46) hx hb dX11_laysLikely_46 rfl ?_
          obtain rfl := Option.some.inj hf
          exact J50 _ _ _ ⟨lv_sub hl [1, 2, 3, 4, 5, 0] rfl, hP, hD, hS⟩

def zb_X11_best_58 (b_all : (Nat → Int32)) (a8 : (Nat → Int32)) (a10 : (Nat → Int32)) (p2 : Int32) (v3 : Int32) (v12 : Int32) : Option (Nat × Int32) :=
  zd_1 (zf_X11_standNow b_all) (fun v13 =>
  zd_1 (zf_X11_likelyBy b_all a8 a10 v13 v12 p2) (fun v14 =>
  if v14 = v3 then
    some (1, v12)
  else
    zd_1 (some (v12 + (1 : Int32))) (fun v15 =>
    some (0, v15))))
def zf_X11_best (n : Nat) (f_thrown : Int32) (f_standMany : Int32) (b_all : (Nat → Int32)) (b_reckoned : (Nat → Int32)) (b_words : (Nat → Int32)) (b_stand : (Nat → Int32)) (b_then : (Nat → Int32)) (b_known : (Nat → Int32)) (b_likely : (Nat → Int32)) (p1 : Int32) (p2 : Int32) : Option (Int32 × Int32 × Int32 × (Nat → Int32) × (Nat → Int32) × (Nat → Int32) × (Nat → Int32) × (Nat → Int32) × (Nat → Int32)) :=
  zd_1 (zf_X11_isRung b_all p1) (fun v1 =>
  if v1 = 0 then
    some ((-2 : Int32), (0 : Int32), f_standMany, b_reckoned, b_words, b_stand, b_then, b_known, b_likely)
  else
    zd_1 (zf_X11_within (Int32.toInt64 p2) (0 : Int64) (8 : Int64)) (fun v2 =>
    if v2 = 0 then
      some ((-3 : Int32), (0 : Int32), f_standMany, b_reckoned, b_words, b_stand, b_then, b_known, b_likely)
    else
      zd_8 (zf_X11_laysLikely n f_standMany b_all b_reckoned b_words b_stand b_then b_known b_likely p1 p2) (fun v3 v4 a5 a6 a7 a8 a9 a10 =>
      if v3 = 0 then
        some ((-1 : Int32), (0 : Int32), v4, a5, a6, a7, a8, a9, a10)
      else
        zd_1 (za_ld b_all 2982 (37 : Int32)) (fun v11 =>
        if v11 = p1 then
          some ((-1 : Int32), (0 : Int32), v4, a5, a6, a7, a8, a9, a10)
        else
          zd_2 (za_it (fun v => zb_X11_best_58 b_all a8 a10 p2 v3 v) n (0 : Int32)) (fun g17 v16 =>
          zd_1 (zf_X11_toldMove v16) (fun v18 =>
          some (v18, (0 : Int32), v4, a5, a6, a7, a8, a9, a10)))))))
theorem zk_X11_best : yX11_best.cls = RX11 ∧ yX11_best.cls ≠ "java/lang/invoke/MethodHandle" ∧ yX11_best.cls ≠ "java/lang/invoke/VarHandle" ∧ (parseMethodDescriptor yX11_best.desc).map (fun d => d.parameters.length) = some 2 := by decide +kernel
set_option maxHeartbeats 4000000 in
set_option maxRecDepth 100000 in
theorem zt_X11_best (l : Launch) (dC : Nat → ClassId) (dI : Nat → Nat → Nat) (dA : Nat → ClassId) (ad : Nat → Nat) (sz : Nat) (n : Nat) (f_thrown f_taped f_at f_behind f_size f_kind f_number f_wrong f_wrongAt f_faultKind f_faultPlace f_reading f_toldWhy f_x f_standMany f_bestMany f_tail f_round1 : Int32) (b_all : (Nat → Int32)) (b_reckoned : (Nat → Int32)) (b_words : (Nat → Int32)) (b_stand : (Nat → Int32)) (b_then : (Nat → Int32)) (b_known : (Nat → Int32)) (b_likely : (Nat → Int32)) (p1 : Int32) (p2 : Int32) (r0 : Int32) (o1 : Int32) (o2 : Int32) (o3 : (Nat → Int32)) (o4 : (Nat → Int32)) (o5 : (Nat → Int32)) (o6 : (Nat → Int32)) (o7 : (Nat → Int32)) (o8 : (Nat → Int32)) (hf : zf_X11_best n f_thrown f_standMany b_all b_reckoned b_words b_stand b_then b_known b_likely p1 p2 = some (r0, o1, o2, o3, o4, o5, o6, o7, o8)) : Met l yX11_best (.code yX11_best cX11_best 5 (some .int) :: zr_T) ({ frames := 6, cells := 0, slots := 0, locals := 150 }) (va_Pc [.ref (ad 0), .int p1, .int p2] (zz_M dC dI dA [zr_o ad f_thrown f_taped f_at f_behind f_size f_kind f_number f_wrong f_wrongAt f_faultKind f_faultPlace f_reading f_toldWhy f_x f_standMany f_bestMany f_tail f_round1, (ad 2, .inl (dA 0, 2982, .inl b_all)), (ad 17, .inl (dA 0, 900, .inl b_reckoned)), (ad 18, .inl (dA 0, 6, .inl b_words)), (ad 22, .inl (dA 0, 2880, .inl b_stand)), (ad 23, .inl (dA 0, 43200, .inl b_then)), (ad 25, .inl (dA 2, 2880, .inl b_known)), (ad 39, .inl (dA 0, 25920, .inl b_likely))] sz)) (va_Qi (fun (r : Int32) (_ : Unit) => r = r0) (fun _ t => zz_B dC dI dA (va_A [zr_o ad f_thrown f_taped f_at f_behind f_size f_kind f_number f_wrong f_wrongAt f_faultKind f_faultPlace f_reading f_toldWhy f_x f_standMany f_bestMany f_tail f_round1, (ad 2, .inl (dA 0, 2982, .inl b_all)), (ad 17, .inl (dA 0, 900, .inl b_reckoned)), (ad 18, .inl (dA 0, 6, .inl b_words)), (ad 22, .inl (dA 0, 2880, .inl b_stand)), (ad 23, .inl (dA 0, 43200, .inl b_then)), (ad 25, .inl (dA 2, 2880, .inl b_known)), (ad 39, .inl (dA 0, 25920, .inl b_likely))] sz) [zr_o ad o1 f_taped f_at f_behind f_size f_kind f_number f_wrong f_wrongAt f_faultKind f_faultPlace f_reading f_toldWhy f_x o2 f_bestMany f_tail f_round1, (ad 2, .inl (dA 0, 2982, .inl b_all)), (ad 17, .inl (dA 0, 900, .inl o3)), (ad 18, .inl (dA 0, 6, .inl o4)), (ad 22, .inl (dA 0, 2880, .inl o5)), (ad 23, .inl (dA 0, 43200, .inl o6)), (ad 25, .inl (dA 2, 2880, .inl o7)), (ad 39, .inl (dA 0, 25920, .inl o8))] t) (va_A [zr_o ad f_thrown f_taped f_at f_behind f_size f_kind f_number f_wrong f_wrongAt f_faultKind f_faultPlace f_reading f_toldWhy f_x f_standMany f_bestMany f_tail f_round1, (ad 2, .inl (dA 0, 2982, .inl b_all)), (ad 17, .inl (dA 0, 900, .inl b_reckoned)), (ad 18, .inl (dA 0, 6, .inl b_words)), (ad 22, .inl (dA 0, 2880, .inl b_stand)), (ad 23, .inl (dA 0, 43200, .inl b_then)), (ad 25, .inl (dA 2, 2880, .inl b_known)), (ad 39, .inl (dA 0, 25920, .inl b_likely))] sz)) 0 0 (va_A [zr_o ad f_thrown f_taped f_at f_behind f_size f_kind f_number f_wrong f_wrongAt f_faultKind f_faultPlace f_reading f_toldWhy f_x f_standMany f_bestMany f_tail f_round1, (ad 2, .inl (dA 0, 2982, .inl b_all)), (ad 17, .inl (dA 0, 900, .inl b_reckoned)), (ad 18, .inl (dA 0, 6, .inl b_words)), (ad 22, .inl (dA 0, 2880, .inl b_stand)), (ad 23, .inl (dA 0, 43200, .inl b_then)), (ad 25, .inl (dA 2, 2880, .inl b_known)), (ad 39, .inl (dA 0, 25920, .inl b_likely))] sz) := by
  unfold zf_X11_best at hf
  refine Met.ofW (cc := cX11_best) (maxL := 5) (ret := (some .int)) (by decide) rfl ?_
  intro p e s m args below meth c s₁ B hml hv
  obtain ⟨rfl, hsz, hP, hK, hD0⟩ := hv
  have hx := B.exec
  have hb := B.bytes
  have hr := B.returns
  have ht : ∀ w ∈ zr_T, w.before ([.ref (ad 0), .int p1, .int p2] : List Value).toArray s = true := fun w hw => atoms_spec (ws := .code yX11_best cX11_best 5 (some .int) :: zr_T) B.pre w (List.mem_cons_of_mem _ hw)
  have hown : s.vm.findClass RX11 = some m.cls := findClass_of_methodNamed B.named
  have hlocks := B.notSynchronized
  subst hsz
  have hD := hD0.self (sz := s.heap.size)
  generalize hAe : va_A [zr_o ad f_thrown f_taped f_at f_behind f_size f_kind f_number f_wrong f_wrongAt f_faultKind f_faultPlace f_reading f_toldWhy f_x f_standMany f_bestMany f_tail f_round1, (ad 2, .inl (dA 0, 2982, .inl b_all)), (ad 17, .inl (dA 0, 900, .inl b_reckoned)), (ad 18, .inl (dA 0, 6, .inl b_words)), (ad 22, .inl (dA 0, 2880, .inl b_stand)), (ad 23, .inl (dA 0, 43200, .inl b_then)), (ad 25, .inl (dA 2, 2880, .inl b_known)), (ad 39, .inl (dA 0, 25920, .inl b_likely))] s.heap.size = A at hD ⊢
  have hA : ∀ q : Nat, s.heap.size ≤ q → A q := fun q h => by rw [← hAe]; exact Or.inr h
  clear hAe hD0
  have hS : va_S A s.heap s.heap [] := va_S.rf
  have hl := lv_entry ([.ref (ad 0), .int p1, .int p2]) (n := 5) (Nat.le_of_ble_eq_true rfl)
  rw [lg_entry_eq]
  generalize (lg_sl ([.ref (ad 0), .int p1, .int p2]) ++ List.replicate (5 - (lg_sl ([.ref (ad 0), .int p1, .int p2])).length) Slot.unset).toArray = ls at hl ⊢
  have hl : lv_has ls 5 [(0, .ref (ad 0)), (1, .int p1), (2, .int p2)] := hl
  refine lv_aload_n (pc := 0) hx hb dX11_best_0 rfl (lv_at hl 0 rfl) ?_
  refine lv_iconst (v := (0 : Int32)) (pc := 1) hx hb dX11_best_1 (by decide) ?_
  refine va_put (pc := 2) (D := (dC, dI)) (ci := 0) (v := .int (0 : Int32)) (ty := .int) (C := RX11) (T := TX11) (N := 42) hx hb ht zr_lay tyX11 tyX11_ok nmX11 hown hK hP hD hS 0 rfl rfl 0 (by decide) (ht _ zr_39) (fun _ h9 => h9) rfl (by decide +kernel) rfl rfl (Nat.le_of_ble_eq_true rfl) dX11_best_2 (fun H locs hP hD hS => ?_)
  have hP : va_P (dC, dI) zz_cls [zr_o ad (0 : Int32) f_taped f_at f_behind f_size f_kind f_number f_wrong f_wrongAt f_faultKind f_faultPlace f_reading f_toldWhy f_x f_standMany f_bestMany f_tail f_round1, (ad 2, .inl (dA 0, 2982, .inl b_all)), (ad 17, .inl (dA 0, 900, .inl b_reckoned)), (ad 18, .inl (dA 0, 6, .inl b_words)), (ad 22, .inl (dA 0, 2880, .inl b_stand)), (ad 23, .inl (dA 0, 43200, .inl b_then)), (ad 25, .inl (dA 2, 2880, .inl b_known)), (ad 39, .inl (dA 0, 25920, .inl b_likely))] H := hP
  have hD : va_D A [zr_o ad (0 : Int32) f_taped f_at f_behind f_size f_kind f_number f_wrong f_wrongAt f_faultKind f_faultPlace f_reading f_toldWhy f_x f_standMany f_bestMany f_tail f_round1, (ad 2, .inl (dA 0, 2982, .inl b_all)), (ad 17, .inl (dA 0, 900, .inl b_reckoned)), (ad 18, .inl (dA 0, 6, .inl b_words)), (ad 22, .inl (dA 0, 2880, .inl b_stand)), (ad 23, .inl (dA 0, 43200, .inl b_then)), (ad 25, .inl (dA 2, 2880, .inl b_known)), (ad 39, .inl (dA 0, 25920, .inl b_likely))] := hD
  refine lv_aload_n (pc := 5) hx hb dX11_best_5 rfl (lv_at hl 0 rfl) ?_
  refine lv_iload_n (pc := 6) hx hb dX11_best_6 rfl (lv_at hl 1 rfl) ?_
  obtain ⟨v1, hv1, hf⟩ := zc_1 hf
  refine zw_Vi (pc := 7) (wc := [zr_o ad (0 : Int32) f_taped f_at f_behind f_size f_kind f_number f_wrong f_wrongAt f_faultKind f_faultPlace f_reading f_toldWhy f_x f_standMany f_bestMany f_tail f_round1, (ad 2, .inl (dA 0, 2982, .inl b_all))]) (wr := [(ad 17, .inl (dA 0, 900, .inl b_reckoned)), (ad 18, .inl (dA 0, 6, .inl b_words)), (ad 22, .inl (dA 0, 2880, .inl b_stand)), (ad 23, .inl (dA 0, 43200, .inl b_then)), (ad 25, .inl (dA 2, 2880, .inl b_known)), (ad 39, .inl (dA 0, 25920, .inl b_likely))]) (w1 := [zr_o ad (0 : Int32) f_taped f_at f_behind f_size f_kind f_number f_wrong f_wrongAt f_faultKind f_faultPlace f_reading f_toldWhy f_x f_standMany f_bestMany f_tail f_round1, (ad 2, .inl (dA 0, 2982, .inl b_all))]) (As := [.int p1]) (rest := []) ⟨hx, hb, hml, hown, ht⟩ (zt_X11_isRung l dC dI dA ad _ (0 : Int32) f_taped f_at f_behind f_size f_kind f_number f_wrong f_wrongAt f_faultKind f_faultPlace f_reading f_toldWhy f_x f_standMany f_bestMany f_tail f_round1 b_all p1 v1 hv1) (cwV 1 ht (zr_V zr_255 zr_256 zr_257 zr_36 zr_206) rfl rfl rfl zk_X11_isRung ⟨Nat.le_of_ble_eq_true rfl, Nat.le_of_ble_eq_true rfl⟩) rfl rfl hK hP hD hS hA [0, 1] [2, 3, 4, 5, 6, 7] (by decide) (by decide) (by decide) rfl rfl rfl hl.1 (Nat.le_of_ble_eq_true rfl) dX11_best_7 ⟨Nat.zero_le _, Nat.zero_le _⟩ rfl (fun H locs hP hD hS => ?_)
  have hP : va_P (dC, dI) zz_cls [(ad 17, .inl (dA 0, 900, .inl b_reckoned)), (ad 18, .inl (dA 0, 6, .inl b_words)), (ad 22, .inl (dA 0, 2880, .inl b_stand)), (ad 23, .inl (dA 0, 43200, .inl b_then)), (ad 25, .inl (dA 2, 2880, .inl b_known)), (ad 39, .inl (dA 0, 25920, .inl b_likely)), zr_o ad (0 : Int32) f_taped f_at f_behind f_size f_kind f_number f_wrong f_wrongAt f_faultKind f_faultPlace f_reading f_toldWhy f_x f_standMany f_bestMany f_tail f_round1, (ad 2, .inl (dA 0, 2982, .inl b_all))] H := hP
  have hD : va_D A [(ad 17, .inl (dA 0, 900, .inl b_reckoned)), (ad 18, .inl (dA 0, 6, .inl b_words)), (ad 22, .inl (dA 0, 2880, .inl b_stand)), (ad 23, .inl (dA 0, 43200, .inl b_then)), (ad 25, .inl (dA 2, 2880, .inl b_known)), (ad 39, .inl (dA 0, 25920, .inl b_likely)), zr_o ad (0 : Int32) f_taped f_at f_behind f_size f_kind f_number f_wrong f_wrongAt f_faultKind f_faultPlace f_reading f_toldWhy f_x f_standMany f_bestMany f_tail f_round1, (ad 2, .inl (dA 0, 2982, .inl b_all))] := hD
  refine lv_if_ne (tgt := 16) (pc := 10) hx hb dX11_best_10 rfl (fun hc => ?_) (fun hc => ?_)
  · have hf := za_f hf hc
    refine lv_iload_n (pc := 16) hx hb dX11_best_16 rfl (lv_at hl 2 rfl) ?_
    refine lv_i2l (pc := 17) hx hb dX11_best_17 rfl ?_
    refine lv_lconst (v := (0 : Int64)) (pc := 18) hx hb dX11_best_18 (by decide) ?_
    refine lv_ldc2 (v := (8 : Int64)) (pc := 19) hx hb hown (ht _ zr_426) dX11_best_19 ?_
    obtain ⟨v2, hv2, hf⟩ := zc_1 hf
    refine zw_Si (pc := 22) (wc := []) (wr := [(ad 17, .inl (dA 0, 900, .inl b_reckoned)), (ad 18, .inl (dA 0, 6, .inl b_words)), (ad 22, .inl (dA 0, 2880, .inl b_stand)), (ad 23, .inl (dA 0, 43200, .inl b_then)), (ad 25, .inl (dA 2, 2880, .inl b_known)), (ad 39, .inl (dA 0, 25920, .inl b_likely)), zr_o ad (0 : Int32) f_taped f_at f_behind f_size f_kind f_number f_wrong f_wrongAt f_faultKind f_faultPlace f_reading f_toldWhy f_x f_standMany f_bestMany f_tail f_round1, (ad 2, .inl (dA 0, 2982, .inl b_all))]) (w1 := []) (As := [.long (Int32.toInt64 p2), .long (0 : Int64), .long (8 : Int64)]) (rest := []) ⟨hx, hb, hml, hown, ht⟩ (zt_X11_within l dC dI dA ad _ (Int32.toInt64 p2) (0 : Int64) (8 : Int64) v2 hv2) (cwS 3 ht (zr_S zr_124 zr_125 zr_36 zr_0) rfl rfl rfl zk_X11_within ⟨Nat.le_of_ble_eq_true rfl, Nat.le_of_ble_eq_true rfl⟩) hK hP hD hS hA [] [0, 1, 2, 3, 4, 5, 6, 7] (by decide) (by decide) (by decide) rfl rfl rfl hl.1 (Nat.le_of_ble_eq_true rfl) dX11_best_22 ⟨Nat.zero_le _, Nat.zero_le _⟩ rfl (fun H locs hP hD hS => ?_)
    have hP : va_P (dC, dI) zz_cls [(ad 17, .inl (dA 0, 900, .inl b_reckoned)), (ad 18, .inl (dA 0, 6, .inl b_words)), (ad 22, .inl (dA 0, 2880, .inl b_stand)), (ad 23, .inl (dA 0, 43200, .inl b_then)), (ad 25, .inl (dA 2, 2880, .inl b_known)), (ad 39, .inl (dA 0, 25920, .inl b_likely)), zr_o ad (0 : Int32) f_taped f_at f_behind f_size f_kind f_number f_wrong f_wrongAt f_faultKind f_faultPlace f_reading f_toldWhy f_x f_standMany f_bestMany f_tail f_round1, (ad 2, .inl (dA 0, 2982, .inl b_all))] H := hP
    have hD : va_D A [(ad 17, .inl (dA 0, 900, .inl b_reckoned)), (ad 18, .inl (dA 0, 6, .inl b_words)), (ad 22, .inl (dA 0, 2880, .inl b_stand)), (ad 23, .inl (dA 0, 43200, .inl b_then)), (ad 25, .inl (dA 2, 2880, .inl b_known)), (ad 39, .inl (dA 0, 25920, .inl b_likely)), zr_o ad (0 : Int32) f_taped f_at f_behind f_size f_kind f_number f_wrong f_wrongAt f_faultKind f_faultPlace f_reading f_toldWhy f_x f_standMany f_bestMany f_tail f_round1, (ad 2, .inl (dA 0, 2982, .inl b_all))] := hD
    refine lv_if_ne (tgt := 31) (pc := 25) hx hb dX11_best_25 rfl (fun hc => ?_) (fun hc => ?_)
    · have hf := za_f hf hc
      refine lv_aload_n (pc := 31) hx hb dX11_best_31 rfl (lv_at hl 0 rfl) ?_
      refine lv_iload_n (pc := 32) hx hb dX11_best_32 rfl (lv_at hl 1 rfl) ?_
      refine lv_iload_n (pc := 33) hx hb dX11_best_33 rfl (lv_at hl 2 rfl) ?_
      obtain ⟨v3, v4, a5, a6, a7, a8, a9, a10, hv3, hf⟩ := zc_8 hf
      refine zw_Vi (pc := 34) (wc := [zr_o ad (0 : Int32) f_taped f_at f_behind f_size f_kind f_number f_wrong f_wrongAt f_faultKind f_faultPlace f_reading f_toldWhy f_x f_standMany f_bestMany f_tail f_round1, (ad 2, .inl (dA 0, 2982, .inl b_all)), (ad 17, .inl (dA 0, 900, .inl b_reckoned)), (ad 18, .inl (dA 0, 6, .inl b_words)), (ad 22, .inl (dA 0, 2880, .inl b_stand)), (ad 23, .inl (dA 0, 43200, .inl b_then)), (ad 25, .inl (dA 2, 2880, .inl b_known)), (ad 39, .inl (dA 0, 25920, .inl b_likely))]) (wr := []) (w1 := [zr_o ad (0 : Int32) f_taped f_at f_behind f_size f_kind f_number f_wrong f_wrongAt f_faultKind f_faultPlace f_reading f_toldWhy f_x v4 f_bestMany f_tail f_round1, (ad 2, .inl (dA 0, 2982, .inl b_all)), (ad 17, .inl (dA 0, 900, .inl a5)), (ad 18, .inl (dA 0, 6, .inl a6)), (ad 22, .inl (dA 0, 2880, .inl a7)), (ad 23, .inl (dA 0, 43200, .inl a8)), (ad 25, .inl (dA 2, 2880, .inl a9)), (ad 39, .inl (dA 0, 25920, .inl a10))]) (As := [.int p1, .int p2]) (rest := []) ⟨hx, hb, hml, hown, ht⟩ (zt_X11_laysLikely l dC dI dA ad _ n (0 : Int32) f_taped f_at f_behind f_size f_kind f_number f_wrong f_wrongAt f_faultKind f_faultPlace f_reading f_toldWhy f_x f_standMany f_bestMany f_tail f_round1 b_all b_reckoned b_words b_stand b_then b_known b_likely p1 p2 v3 v4 a5 a6 a7 a8 a9 a10 hv3) (cwV 2 ht (zr_V zr_461 zr_462 zr_463 zr_36 zr_457) rfl rfl rfl zk_X11_laysLikely ⟨Nat.le_of_ble_eq_true rfl, Nat.le_of_ble_eq_true rfl⟩) rfl rfl hK hP hD hS hA [6, 7, 0, 1, 2, 3, 4, 5] [] (by decide) (by decide) (by decide) rfl rfl rfl hl.1 (Nat.le_of_ble_eq_true rfl) dX11_best_34 ⟨Nat.zero_le _, Nat.zero_le _⟩ rfl (fun H locs hP hD hS => ?_)
      have hP : va_P (dC, dI) zz_cls [zr_o ad (0 : Int32) f_taped f_at f_behind f_size f_kind f_number f_wrong f_wrongAt f_faultKind f_faultPlace f_reading f_toldWhy f_x v4 f_bestMany f_tail f_round1, (ad 2, .inl (dA 0, 2982, .inl b_all)), (ad 17, .inl (dA 0, 900, .inl a5)), (ad 18, .inl (dA 0, 6, .inl a6)), (ad 22, .inl (dA 0, 2880, .inl a7)), (ad 23, .inl (dA 0, 43200, .inl a8)), (ad 25, .inl (dA 2, 2880, .inl a9)), (ad 39, .inl (dA 0, 25920, .inl a10))] H := hP
      have hD : va_D A [zr_o ad (0 : Int32) f_taped f_at f_behind f_size f_kind f_number f_wrong f_wrongAt f_faultKind f_faultPlace f_reading f_toldWhy f_x v4 f_bestMany f_tail f_round1, (ad 2, .inl (dA 0, 2982, .inl b_all)), (ad 17, .inl (dA 0, 900, .inl a5)), (ad 18, .inl (dA 0, 6, .inl a6)), (ad 22, .inl (dA 0, 2880, .inl a7)), (ad 23, .inl (dA 0, 43200, .inl a8)), (ad 25, .inl (dA 2, 2880, .inl a9)), (ad 39, .inl (dA 0, 25920, .inl a10))] := hD
      refine lv_istore_n (lv' := [(3, .int v3), (0, .ref (ad 0)), (1, .int p1), (2, .int p2)]) (pc := 37) hx hb dX11_best_37 rfl hl (by decide) rfl (fun ls hl => ?_)
      refine lv_iload_n (pc := 38) hx hb dX11_best_38 rfl (lv_at hl 0 rfl) ?_
      refine lv_if_eq (tgt := 53) (pc := 39) hx hb dX11_best_39 rfl (fun hc => ?_) (fun hc => ?_)
      · have hf := za_t hf hc
        refine lv_iconst (v := (-1 : Int32)) (pc := 53) hx hb dX11_best_53 (by decide) ?_
        obtain ⟨rfl, rfl, rfl, rfl, rfl, rfl, rfl, rfl, rfl⟩ := zi_9 hf
        exact W.iret (pc := 54) hx hb hr (fun t ht hW => ⟨⟨_, (), rfl, rfl, zz_Bi (by rw [ht]; exact hP) (va_K.moved hW.alike hK) (hD)⟩, hS.F ht⟩) hS.2.2 dX11_best_54
      · have hf := za_f hf hc
        refine lv_aload_n (pc := 42) hx hb dX11_best_42 rfl (lv_at hl 1 rfl) ?_
        refine va_get (pc := 43) (D := (dC, dI)) (ci := 0) (v := .ref (ad 2)) (C := RX11) (T := TX11) (N := 42) hx hb ht zr_lay hown hK hP 0 rfl rfl 1 (by decide) (ht _ zr_6) (fun _ h9 => h9) rfl dX11_best_43 ?_
        refine lv_bipush (v := (37 : Int32)) (pc := 46) hx hb dX11_best_46 (by decide) ?_
        obtain ⟨v11, hv11, hf⟩ := zc_1 hf
        refine zw_iald (pc := 48) hx hb hK hP 1 0 rfl rfl hv11 dX11_best_48 ?_
        refine lv_iload_n (pc := 49) hx hb dX11_best_49 rfl (lv_at hl 2 rfl) ?_
        refine lv_icmp_ne (tgt := 55) (pc := 50) hx hb dX11_best_50 rfl (fun hc => ?_) (fun hc => ?_)
        · have hf := za_f hf hc
          refine lv_iconst (v := (0 : Int32)) (pc := 55) hx hb dX11_best_55 (by decide) ?_
          refine lv_istore (lv' := [(4, .int (0 : Int32)), (3, .int v3), (0, .ref (ad 0)), (1, .int p1), (2, .int p2)]) (pc := 56) hx hb dX11_best_56 hl (by decide) rfl (fun ls hl => ?_)
          obtain ⟨g17, v16, hj, hf⟩ := zc_2 hf
          refine zj_join (pcJ := 79) (stk := []) (X := fun H locs ls => lv_has ls 5 [(4, .int v16)] ∧ va_P (dC, dI) zz_cls [zr_o ad (0 : Int32) f_taped f_at f_behind f_size f_kind f_number f_wrong f_wrongAt f_faultKind f_faultPlace f_reading f_toldWhy f_x v4 f_bestMany f_tail f_round1, (ad 2, .inl (dA 0, 2982, .inl b_all)), (ad 17, .inl (dA 0, 900, .inl a5)), (ad 18, .inl (dA 0, 6, .inl a6)), (ad 22, .inl (dA 0, 2880, .inl a7)), (ad 23, .inl (dA 0, 43200, .inl a8)), (ad 25, .inl (dA 2, 2880, .inl a9)), (ad 39, .inl (dA 0, 25920, .inl a10))] H ∧ va_D A [zr_o ad (0 : Int32) f_taped f_at f_behind f_size f_kind f_number f_wrong f_wrongAt f_faultKind f_faultPlace f_reading f_toldWhy f_x v4 f_bestMany f_tail f_round1, (ad 2, .inl (dA 0, 2982, .inl b_all)), (ad 17, .inl (dA 0, 900, .inl a5)), (ad 18, .inl (dA 0, 6, .inl a6)), (ad 22, .inl (dA 0, 2880, .inl a7)), (ad 23, .inl (dA 0, 43200, .inl a8)), (ad 25, .inl (dA 2, 2880, .inl a9)), (ad 39, .inl (dA 0, 25920, .inl a10))] ∧ va_S A s.heap H locs) (fun H locs ls hX => ?_) (fun E79 => ?_)
          · obtain ⟨hl, hP, hD, hS⟩ := hX
            clear hj
            refine lv_iload (pc := 79) hx hb dX11_best_79 (lv_at hl 0 rfl) ?_
            obtain ⟨v18, hv18, hf⟩ := zc_1 hf
            refine zw_Si (pc := 81) (wc := []) (wr := [zr_o ad (0 : Int32) f_taped f_at f_behind f_size f_kind f_number f_wrong f_wrongAt f_faultKind f_faultPlace f_reading f_toldWhy f_x v4 f_bestMany f_tail f_round1, (ad 2, .inl (dA 0, 2982, .inl b_all)), (ad 17, .inl (dA 0, 900, .inl a5)), (ad 18, .inl (dA 0, 6, .inl a6)), (ad 22, .inl (dA 0, 2880, .inl a7)), (ad 23, .inl (dA 0, 43200, .inl a8)), (ad 25, .inl (dA 2, 2880, .inl a9)), (ad 39, .inl (dA 0, 25920, .inl a10))]) (w1 := []) (As := [.int v16]) (rest := []) ⟨hx, hb, hml, hown, ht⟩ (zt_X11_toldMove l dC dI dA ad _ v16 v18 hv18) (cwS 1 ht (zr_S zr_368 zr_369 zr_36 zr_229) rfl rfl rfl zk_X11_toldMove ⟨Nat.le_of_ble_eq_true rfl, Nat.le_of_ble_eq_true rfl⟩) hK hP hD hS hA [] [0, 1, 2, 3, 4, 5, 6, 7] (by decide) (by decide) (by decide) rfl rfl rfl hl.1 (Nat.le_of_ble_eq_true rfl) dX11_best_81 ⟨Nat.zero_le _, Nat.zero_le _⟩ rfl (fun H locs hP hD hS => ?_)
            have hP : va_P (dC, dI) zz_cls [zr_o ad (0 : Int32) f_taped f_at f_behind f_size f_kind f_number f_wrong f_wrongAt f_faultKind f_faultPlace f_reading f_toldWhy f_x v4 f_bestMany f_tail f_round1, (ad 2, .inl (dA 0, 2982, .inl b_all)), (ad 17, .inl (dA 0, 900, .inl a5)), (ad 18, .inl (dA 0, 6, .inl a6)), (ad 22, .inl (dA 0, 2880, .inl a7)), (ad 23, .inl (dA 0, 43200, .inl a8)), (ad 25, .inl (dA 2, 2880, .inl a9)), (ad 39, .inl (dA 0, 25920, .inl a10))] H := hP
            have hD : va_D A [zr_o ad (0 : Int32) f_taped f_at f_behind f_size f_kind f_number f_wrong f_wrongAt f_faultKind f_faultPlace f_reading f_toldWhy f_x v4 f_bestMany f_tail f_round1, (ad 2, .inl (dA 0, 2982, .inl b_all)), (ad 17, .inl (dA 0, 900, .inl a5)), (ad 18, .inl (dA 0, 6, .inl a6)), (ad 22, .inl (dA 0, 2880, .inl a7)), (ad 23, .inl (dA 0, 43200, .inl a8)), (ad 25, .inl (dA 2, 2880, .inl a9)), (ad 39, .inl (dA 0, 25920, .inl a10))] := hD
            obtain ⟨rfl, rfl, rfl, rfl, rfl, rfl, rfl, rfl, rfl⟩ := zi_9 hf
            exact W.iret (pc := 84) hx hb hr (fun t ht hW => ⟨⟨_, (), rfl, rfl, zz_Bi (by rw [ht]; exact hP) (va_K.moved hW.alike hK) (hD)⟩, hS.F ht⟩) hS.2.2 dX11_best_84
          clear hf
          refine zw_loop (pcH := 58) (X := fun v H locs ls => lv_has ls 5 [(0, .ref (ad 0)), (2, .int p2), (3, .int v3), (4, .int v)] ∧ va_P (dC, dI) zz_cls [zr_o ad (0 : Int32) f_taped f_at f_behind f_size f_kind f_number f_wrong f_wrongAt f_faultKind f_faultPlace f_reading f_toldWhy f_x v4 f_bestMany f_tail f_round1, (ad 2, .inl (dA 0, 2982, .inl b_all)), (ad 17, .inl (dA 0, 900, .inl a5)), (ad 18, .inl (dA 0, 6, .inl a6)), (ad 22, .inl (dA 0, 2880, .inl a7)), (ad 23, .inl (dA 0, 43200, .inl a8)), (ad 25, .inl (dA 2, 2880, .inl a9)), (ad 39, .inl (dA 0, 25920, .inl a10))] H ∧ va_D A [zr_o ad (0 : Int32) f_taped f_at f_behind f_size f_kind f_number f_wrong f_wrongAt f_faultKind f_faultPlace f_reading f_toldWhy f_x v4 f_bestMany f_tail f_round1, (ad 2, .inl (dA 0, 2982, .inl b_all)), (ad 17, .inl (dA 0, 900, .inl a5)), (ad 18, .inl (dA 0, 6, .inl a6)), (ad 22, .inl (dA 0, 2880, .inl a7)), (ad 23, .inl (dA 0, 43200, .inl a8)), (ad 25, .inl (dA 2, 2880, .inl a9)), (ad 39, .inl (dA 0, 25920, .inl a10))] ∧ va_S A s.heap H locs) hj (fun v w hf ih ex H locs ls hX => ?_) _ _ _ ⟨lv_sub hl [2, 4, 1, 0] rfl, hP, hD, hS⟩
          clear hj
          generalize v = v12 at hf hX
          obtain ⟨hl, hP, hD, hS⟩ := hX
          have hl : lv_has ls 5 [(0, .ref (ad 0)), (2, .int p2), (3, .int v3), (4, .int v12)] := hl
          have hP : va_P (dC, dI) zz_cls [zr_o ad (0 : Int32) f_taped f_at f_behind f_size f_kind f_number f_wrong f_wrongAt f_faultKind f_faultPlace f_reading f_toldWhy f_x v4 f_bestMany f_tail f_round1, (ad 2, .inl (dA 0, 2982, .inl b_all)), (ad 17, .inl (dA 0, 900, .inl a5)), (ad 18, .inl (dA 0, 6, .inl a6)), (ad 22, .inl (dA 0, 2880, .inl a7)), (ad 23, .inl (dA 0, 43200, .inl a8)), (ad 25, .inl (dA 2, 2880, .inl a9)), (ad 39, .inl (dA 0, 25920, .inl a10))] H := hP
          have hD : va_D A [zr_o ad (0 : Int32) f_taped f_at f_behind f_size f_kind f_number f_wrong f_wrongAt f_faultKind f_faultPlace f_reading f_toldWhy f_x v4 f_bestMany f_tail f_round1, (ad 2, .inl (dA 0, 2982, .inl b_all)), (ad 17, .inl (dA 0, 900, .inl a5)), (ad 18, .inl (dA 0, 6, .inl a6)), (ad 22, .inl (dA 0, 2880, .inl a7)), (ad 23, .inl (dA 0, 43200, .inl a8)), (ad 25, .inl (dA 2, 2880, .inl a9)), (ad 39, .inl (dA 0, 25920, .inl a10))] := hD
          replace hf : zb_X11_best_58 b_all a8 a10 p2 v3 v12 = some w := hf
          unfold zb_X11_best_58 at hf
          refine lv_aload_n (pc := 58) hx hb dX11_best_58 rfl (lv_at hl 0 rfl) ?_
          refine lv_aload_n (pc := 59) hx hb dX11_best_59 rfl (lv_at hl 0 rfl) ?_
          obtain ⟨v13, hv13, hf⟩ := zc_1 hf
          refine zw_Vi (pc := 60) (wc := [zr_o ad (0 : Int32) f_taped f_at f_behind f_size f_kind f_number f_wrong f_wrongAt f_faultKind f_faultPlace f_reading f_toldWhy f_x v4 f_bestMany f_tail f_round1, (ad 2, .inl (dA 0, 2982, .inl b_all))]) (wr := [(ad 17, .inl (dA 0, 900, .inl a5)), (ad 18, .inl (dA 0, 6, .inl a6)), (ad 22, .inl (dA 0, 2880, .inl a7)), (ad 23, .inl (dA 0, 43200, .inl a8)), (ad 25, .inl (dA 2, 2880, .inl a9)), (ad 39, .inl (dA 0, 25920, .inl a10))]) (w1 := [zr_o ad (0 : Int32) f_taped f_at f_behind f_size f_kind f_number f_wrong f_wrongAt f_faultKind f_faultPlace f_reading f_toldWhy f_x v4 f_bestMany f_tail f_round1, (ad 2, .inl (dA 0, 2982, .inl b_all))]) (As := []) (rest := [.ref (ad 0)]) ⟨hx, hb, hml, hown, ht⟩ (zt_X11_standNow l dC dI dA ad _ (0 : Int32) f_taped f_at f_behind f_size f_kind f_number f_wrong f_wrongAt f_faultKind f_faultPlace f_reading f_toldWhy f_x v4 f_bestMany f_tail f_round1 b_all v13 hv13) (cwV 0 ht (zr_V zr_261 zr_262 zr_263 zr_36 zr_213) rfl rfl rfl zk_X11_standNow ⟨Nat.le_of_ble_eq_true rfl, Nat.le_of_ble_eq_true rfl⟩) rfl rfl hK hP hD hS hA [0, 1] [2, 3, 4, 5, 6, 7] (by decide) (by decide) (by decide) rfl rfl rfl hl.1 (Nat.le_of_ble_eq_true rfl) dX11_best_60 ⟨Nat.zero_le _, Nat.zero_le _⟩ rfl (fun H locs hP hD hS => ?_)
          have hP : va_P (dC, dI) zz_cls [(ad 17, .inl (dA 0, 900, .inl a5)), (ad 18, .inl (dA 0, 6, .inl a6)), (ad 22, .inl (dA 0, 2880, .inl a7)), (ad 23, .inl (dA 0, 43200, .inl a8)), (ad 25, .inl (dA 2, 2880, .inl a9)), (ad 39, .inl (dA 0, 25920, .inl a10)), zr_o ad (0 : Int32) f_taped f_at f_behind f_size f_kind f_number f_wrong f_wrongAt f_faultKind f_faultPlace f_reading f_toldWhy f_x v4 f_bestMany f_tail f_round1, (ad 2, .inl (dA 0, 2982, .inl b_all))] H := hP
          have hD : va_D A [(ad 17, .inl (dA 0, 900, .inl a5)), (ad 18, .inl (dA 0, 6, .inl a6)), (ad 22, .inl (dA 0, 2880, .inl a7)), (ad 23, .inl (dA 0, 43200, .inl a8)), (ad 25, .inl (dA 2, 2880, .inl a9)), (ad 39, .inl (dA 0, 25920, .inl a10)), zr_o ad (0 : Int32) f_taped f_at f_behind f_size f_kind f_number f_wrong f_wrongAt f_faultKind f_faultPlace f_reading f_toldWhy f_x v4 f_bestMany f_tail f_round1, (ad 2, .inl (dA 0, 2982, .inl b_all))] := hD
          refine lv_iload (pc := 63) hx hb dX11_best_63 (lv_at hl 3 rfl) ?_
          refine lv_iload_n (pc := 65) hx hb dX11_best_65 rfl (lv_at hl 1 rfl) ?_
          obtain ⟨v14, hv14, hf⟩ := zc_1 hf
          refine zw_Vi (pc := 66) (wc := [zr_o ad (0 : Int32) f_taped f_at f_behind f_size f_kind f_number f_wrong f_wrongAt f_faultKind f_faultPlace f_reading f_toldWhy f_x v4 f_bestMany f_tail f_round1, (ad 2, .inl (dA 0, 2982, .inl b_all)), (ad 23, .inl (dA 0, 43200, .inl a8)), (ad 39, .inl (dA 0, 25920, .inl a10))]) (wr := [(ad 17, .inl (dA 0, 900, .inl a5)), (ad 18, .inl (dA 0, 6, .inl a6)), (ad 22, .inl (dA 0, 2880, .inl a7)), (ad 25, .inl (dA 2, 2880, .inl a9))]) (w1 := [zr_o ad (0 : Int32) f_taped f_at f_behind f_size f_kind f_number f_wrong f_wrongAt f_faultKind f_faultPlace f_reading f_toldWhy f_x v4 f_bestMany f_tail f_round1, (ad 2, .inl (dA 0, 2982, .inl b_all)), (ad 23, .inl (dA 0, 43200, .inl a8)), (ad 39, .inl (dA 0, 25920, .inl a10))]) (As := [.int v13, .int v12, .int p2]) (rest := []) ⟨hx, hb, hml, hown, ht⟩ (zt_X11_likelyBy l dC dI dA ad _ (0 : Int32) f_taped f_at f_behind f_size f_kind f_number f_wrong f_wrongAt f_faultKind f_faultPlace f_reading f_toldWhy f_x v4 f_bestMany f_tail f_round1 b_all a8 a10 v13 v12 p2 v14 hv14) (cwV 3 ht (zr_V zr_454 zr_455 zr_456 zr_36 zr_451) rfl rfl rfl zk_X11_likelyBy ⟨Nat.le_of_ble_eq_true rfl, Nat.le_of_ble_eq_true rfl⟩) rfl rfl hK hP hD hS hA [6, 7, 3, 5] [0, 1, 2, 4] (by decide) (by decide) (by decide) rfl rfl rfl hl.1 (Nat.le_of_ble_eq_true rfl) dX11_best_66 ⟨Nat.zero_le _, Nat.zero_le _⟩ rfl (fun H locs hP hD hS => ?_)
          have hP : va_P (dC, dI) zz_cls [(ad 17, .inl (dA 0, 900, .inl a5)), (ad 18, .inl (dA 0, 6, .inl a6)), (ad 22, .inl (dA 0, 2880, .inl a7)), (ad 25, .inl (dA 2, 2880, .inl a9)), zr_o ad (0 : Int32) f_taped f_at f_behind f_size f_kind f_number f_wrong f_wrongAt f_faultKind f_faultPlace f_reading f_toldWhy f_x v4 f_bestMany f_tail f_round1, (ad 2, .inl (dA 0, 2982, .inl b_all)), (ad 23, .inl (dA 0, 43200, .inl a8)), (ad 39, .inl (dA 0, 25920, .inl a10))] H := hP
          have hD : va_D A [(ad 17, .inl (dA 0, 900, .inl a5)), (ad 18, .inl (dA 0, 6, .inl a6)), (ad 22, .inl (dA 0, 2880, .inl a7)), (ad 25, .inl (dA 2, 2880, .inl a9)), zr_o ad (0 : Int32) f_taped f_at f_behind f_size f_kind f_number f_wrong f_wrongAt f_faultKind f_faultPlace f_reading f_toldWhy f_x v4 f_bestMany f_tail f_round1, (ad 2, .inl (dA 0, 2982, .inl b_all)), (ad 23, .inl (dA 0, 43200, .inl a8)), (ad 39, .inl (dA 0, 25920, .inl a10))] := hD
          refine lv_iload_n (pc := 69) hx hb dX11_best_69 rfl (lv_at hl 2 rfl) ?_
          refine lv_icmp_eq (tgt := 79) (pc := 70) hx hb dX11_best_70 rfl (fun hc => ?_) (fun hc => ?_)
          · have hf := za_t hf hc
            obtain rfl := Option.some.inj hf
            obtain ⟨rfl, rfl⟩ := zp_2 (ex (show ¬ (1 : Nat) = 0 by decide))
            exact E79 _ _ _ ⟨lv_sub hl [3] rfl, hP.sub [4, 5, 0, 1, 2, 6, 3, 7] rfl, hD.sub [4, 5, 0, 1, 2, 6, 3, 7] (by decide) rfl, hS⟩
          · have hf := za_f hf hc
            obtain ⟨v15, hv15, hf⟩ := zc_1 hf
            refine lv_iinc (v := v15) (lv' := [(4, .int v15), (0, .ref (ad 0)), (2, .int p2), (3, .int v3)]) (k := 3) (pc := 73) hx hb dX11_best_73 hl rfl (Option.some.inj hv15) (by decide) rfl (fun ls hl => ?_)
            refine lv_goto (tgt := 58) (pc := 76) hx hb dX11_best_76 rfl ?_
            obtain rfl := Option.some.inj hf
            exact ih rfl _ _ _ ⟨lv_sub hl [1, 2, 3, 0] rfl, hP.sub [4, 5, 0, 1, 2, 6, 3, 7] rfl, hD.sub [4, 5, 0, 1, 2, 6, 3, 7] (by decide) rfl, hS⟩
        · have hf := za_t hf hc
          refine lv_iconst (v := (-1 : Int32)) (pc := 53) hx hb dX11_best_53 (by decide) ?_
          obtain ⟨rfl, rfl, rfl, rfl, rfl, rfl, rfl, rfl, rfl⟩ := zi_9 hf
          exact W.iret (pc := 54) hx hb hr (fun t ht hW => ⟨⟨_, (), rfl, rfl, zz_Bi (by rw [ht]; exact hP) (va_K.moved hW.alike hK) (hD)⟩, hS.F ht⟩) hS.2.2 dX11_best_54
    · have hf := za_t hf hc
      refine lv_bipush (v := (-3 : Int32)) (pc := 28) hx hb dX11_best_28 (by decide) ?_
      obtain ⟨rfl, rfl, rfl, rfl, rfl, rfl, rfl, rfl, rfl⟩ := zi_9 hf
      exact W.iret (pc := 30) hx hb hr (fun t ht hW => ⟨⟨_, (), rfl, rfl, zz_Bi (by rw [ht]; exact hP.sub [6, 7, 0, 1, 2, 3, 4, 5] rfl) (va_K.moved hW.alike hK) (hD.sub [6, 7, 0, 1, 2, 3, 4, 5] (by decide) rfl)⟩, hS.F ht⟩) hS.2.2 dX11_best_30
  · have hf := za_t hf hc
    refine lv_bipush (v := (-2 : Int32)) (pc := 13) hx hb dX11_best_13 (by decide) ?_
    obtain ⟨rfl, rfl, rfl, rfl, rfl, rfl, rfl, rfl, rfl⟩ := zi_9 hf
    exact W.iret (pc := 15) hx hb hr (fun t ht hW => ⟨⟨_, (), rfl, rfl, zz_Bi (by rw [ht]; exact hP.sub [6, 7, 0, 1, 2, 3, 4, 5] rfl) (va_K.moved hW.alike hK) (hD.sub [6, 7, 0, 1, 2, 3, 4, 5] (by decide) rfl)⟩, hS.F ht⟩) hS.2.2 dX11_best_15

def zf_X11_cut (p0 : Int64) (p2 : Int32) : Option (Int64) :=
  if p2 = 0 then
    some (Int32.toInt64 ((Int32.toInt8 (Int64.toInt32 p0)).toInt32))
  else
    if p2 = (1 : Int32) then
      some (Int32.toInt64 ((Int32.toInt16 (Int64.toInt32 p0)).toInt32))
    else
      if p2 = (2 : Int32) then
        some (Int32.toInt64 (Int64.toInt32 p0))
      else
        some p0
theorem zk_X11_cut : yX11_cut.cls = RX11 ∧ yX11_cut.cls ≠ "java/lang/invoke/MethodHandle" ∧ yX11_cut.cls ≠ "java/lang/invoke/VarHandle" ∧ (parseMethodDescriptor yX11_cut.desc).map (fun d => d.parameters.length) = some 2 := by decide +kernel
set_option maxHeartbeats 4000000 in
set_option maxRecDepth 100000 in
theorem zt_X11_cut (l : Launch) (dC : Nat → ClassId) (dI : Nat → Nat → Nat) (dA : Nat → ClassId) (ad : Nat → Nat) (sz : Nat) (p0 : Int64) (p2 : Int32) (r0 : Int64) (hf : zf_X11_cut p0 p2 = some r0) : Met l yX11_cut (.code yX11_cut cX11_cut 3 (some .long) :: zr_T) ({ frames := 0, cells := 0, slots := 0, locals := 0 }) (va_Pc [.long p0, .int p2] (zz_M dC dI dA [] sz)) (va_Ql (fun (r : Int64) (_ : Unit) => r = r0) (fun _ t => zz_B dC dI dA (va_A [] sz) [] t) (va_A [] sz)) 0 0 (va_A [] sz) := by
  unfold zf_X11_cut at hf
  refine Met.ofW (cc := cX11_cut) (maxL := 3) (ret := (some .long)) (by decide) rfl ?_
  intro p e s m args below meth c s₁ B hml hv
  obtain ⟨rfl, hsz, hP, hK, hD0⟩ := hv
  have hx := B.exec
  have hb := B.bytes
  have hr := B.returns
  have ht : ∀ w ∈ zr_T, w.before ([.long p0, .int p2] : List Value).toArray s = true := fun w hw => atoms_spec (ws := .code yX11_cut cX11_cut 3 (some .long) :: zr_T) B.pre w (List.mem_cons_of_mem _ hw)
  have hown : s.vm.findClass RX11 = some m.cls := findClass_of_methodNamed B.named
  have hlocks := B.notSynchronized
  subst hsz
  have hD := hD0.self (sz := s.heap.size)
  generalize hAe : va_A [] s.heap.size = A at hD ⊢
  have hA : ∀ q : Nat, s.heap.size ≤ q → A q := fun q h => by rw [← hAe]; exact Or.inr h
  clear hAe hD0
  have hS : va_S A s.heap s.heap [] := va_S.rf
  have hl := lv_entry ([.long p0, .int p2]) (n := 3) (Nat.le_of_ble_eq_true rfl)
  rw [lg_entry_eq]
  generalize (lg_sl ([.long p0, .int p2]) ++ List.replicate (3 - (lg_sl ([.long p0, .int p2])).length) Slot.unset).toArray = ls at hl ⊢
  have hl : lv_has ls 3 [(0, .long p0), (2, .int p2)] := hl
  refine lv_iload_n (pc := 0) hx hb dX11_cut_0 rfl (lv_at hl 1 rfl) ?_
  refine lv_if_ne (tgt := 11) (pc := 1) hx hb dX11_cut_1 rfl (fun hc => ?_) (fun hc => ?_)
  · have hf := za_f hf hc
    refine lv_iload_n (pc := 11) hx hb dX11_cut_11 rfl (lv_at hl 1 rfl) ?_
    refine lv_iconst (v := (1 : Int32)) (pc := 12) hx hb dX11_cut_12 (by decide) ?_
    refine lv_icmp_ne (tgt := 23) (pc := 13) hx hb dX11_cut_13 rfl (fun hc => ?_) (fun hc => ?_)
    · have hf := za_f hf hc
      refine lv_iload_n (pc := 23) hx hb dX11_cut_23 rfl (lv_at hl 1 rfl) ?_
      refine lv_iconst (v := (2 : Int32)) (pc := 24) hx hb dX11_cut_24 (by decide) ?_
      refine lv_icmp_ne (tgt := 34) (pc := 25) hx hb dX11_cut_25 rfl (fun hc => ?_) (fun hc => ?_)
      · have hf := za_f hf hc
        refine lv_lload_n (pc := 34) hx hb dX11_cut_34 rfl (lv_at hl 0 rfl) ?_
        obtain rfl := Option.some.inj hf
        exact W.lret (pc := 35) hx hb hr (fun t ht hW => ⟨⟨_, (), rfl, rfl, zz_Bi (by rw [ht]; exact hP) (va_K.moved hW.alike hK) (hD)⟩, hS.F ht⟩) hS.2.2 dX11_cut_35
      · have hf := za_t hf hc
        refine lv_lload_n (pc := 28) hx hb dX11_cut_28 rfl (lv_at hl 0 rfl) ?_
        refine lv_l2i (pc := 29) hx hb dX11_cut_29 rfl ?_
        refine lv_i2l (pc := 30) hx hb dX11_cut_30 rfl ?_
        refine lv_goto (tgt := 35) (pc := 31) hx hb dX11_cut_31 rfl ?_
        obtain rfl := Option.some.inj hf
        exact W.lret (pc := 35) hx hb hr (fun t ht hW => ⟨⟨_, (), rfl, rfl, zz_Bi (by rw [ht]; exact hP) (va_K.moved hW.alike hK) (hD)⟩, hS.F ht⟩) hS.2.2 dX11_cut_35
    · have hf := za_t hf hc
      refine lv_lload_n (pc := 16) hx hb dX11_cut_16 rfl (lv_at hl 0 rfl) ?_
      refine lv_l2i (pc := 17) hx hb dX11_cut_17 rfl ?_
      refine lv_i2s (pc := 18) hx hb dX11_cut_18 rfl ?_
      refine lv_i2l (pc := 19) hx hb dX11_cut_19 rfl ?_
      refine lv_goto (tgt := 35) (pc := 20) hx hb dX11_cut_20 rfl ?_
      obtain rfl := Option.some.inj hf
      exact W.lret (pc := 35) hx hb hr (fun t ht hW => ⟨⟨_, (), rfl, rfl, zz_Bi (by rw [ht]; exact hP) (va_K.moved hW.alike hK) (hD)⟩, hS.F ht⟩) hS.2.2 dX11_cut_35
  · have hf := za_t hf hc
    refine lv_lload_n (pc := 4) hx hb dX11_cut_4 rfl (lv_at hl 0 rfl) ?_
    refine lv_l2i (pc := 5) hx hb dX11_cut_5 rfl ?_
    refine lv_i2b (pc := 6) hx hb dX11_cut_6 rfl ?_
    refine lv_i2l (pc := 7) hx hb dX11_cut_7 rfl ?_
    refine lv_goto (tgt := 35) (pc := 8) hx hb dX11_cut_8 rfl ?_
    obtain rfl := Option.some.inj hf
    exact W.lret (pc := 35) hx hb hr (fun t ht hW => ⟨⟨_, (), rfl, rfl, zz_Bi (by rw [ht]; exact hP) (va_K.moved hW.alike hK) (hD)⟩, hS.F ht⟩) hS.2.2 dX11_cut_35

def zb_X11_numbers_64 (p3 : Int32) (p1 : Int32) (v6 : Int32) (a7 : (Nat → Int64)) : Option (Nat × Int32 × (Nat → Int64)) :=
  if p3 ≤ v6 then
    some (1, v6, a7)
  else
    zd_1 (za_st a7 160 (((40 : Int32) * p1) + v6) (0 : Int64)) (fun a8 =>
    zd_1 (some (v6 + (1 : Int32))) (fun v9 =>
    some (0, v9, a8)))
def zf_X11_numbers (n : Nat) (f_thrown : Int32) (b_rowSort : (Nat → Int32)) (b_rowMany : (Nat → Int32)) (b_numbers : (Nat → Int64)) (p1 : Int32) (p2 : Int32) (p3 : Int32) : Option (Int32 × Int32 × (Nat → Int32) × (Nat → Int32) × (Nat → Int64)) :=
  zd_1 (zf_X11_within (Int32.toInt64 p1) (0 : Int64) (3 : Int64)) (fun v1 =>
  if v1 = 0 then
    some ((-2 : Int32), (0 : Int32), b_rowSort, b_rowMany, b_numbers)
  else
    zd_1 (zf_X11_within (Int32.toInt64 p2) (0 : Int64) (3 : Int64)) (fun v2 =>
    if v2 = 0 then
      some ((-2 : Int32), (0 : Int32), b_rowSort, b_rowMany, b_numbers)
    else
      zd_1 (zf_X11_within (Int32.toInt64 p3) (0 : Int64) (40 : Int64)) (fun v3 =>
      if v3 = 0 then
        some ((-3 : Int32), (0 : Int32), b_rowSort, b_rowMany, b_numbers)
      else
        zd_1 (za_st b_rowSort 4 p1 p2) (fun a4 =>
        zd_1 (za_st b_rowMany 4 p1 p3) (fun a5 =>
        zd_3 (za_it (fun v => zb_X11_numbers_64 p3 p1 v.1 v.2) n ((0 : Int32), b_numbers)) (fun g12 v10 a11 =>
        some ((0 : Int32), (0 : Int32), a4, a5, a11)))))))
theorem zk_X11_numbers : yX11_numbers.cls = RX11 ∧ yX11_numbers.cls ≠ "java/lang/invoke/MethodHandle" ∧ yX11_numbers.cls ≠ "java/lang/invoke/VarHandle" ∧ (parseMethodDescriptor yX11_numbers.desc).map (fun d => d.parameters.length) = some 3 := by decide +kernel
set_option maxHeartbeats 4000000 in
set_option maxRecDepth 100000 in
theorem zt_X11_numbers (l : Launch) (dC : Nat → ClassId) (dI : Nat → Nat → Nat) (dA : Nat → ClassId) (ad : Nat → Nat) (sz : Nat) (n : Nat) (f_thrown f_taped f_at f_behind f_size f_kind f_number f_wrong f_wrongAt f_faultKind f_faultPlace f_reading f_toldWhy f_x f_standMany f_bestMany f_tail f_round1 : Int32) (b_rowSort : (Nat → Int32)) (b_rowMany : (Nat → Int32)) (b_numbers : (Nat → Int64)) (p1 : Int32) (p2 : Int32) (p3 : Int32) (r0 : Int32) (o1 : Int32) (o2 : (Nat → Int32)) (o3 : (Nat → Int32)) (o4 : (Nat → Int64)) (hf : zf_X11_numbers n f_thrown b_rowSort b_rowMany b_numbers p1 p2 p3 = some (r0, o1, o2, o3, o4)) : Met l yX11_numbers (.code yX11_numbers cX11_numbers 5 (some .int) :: zr_T) ({ frames := 1, cells := 0, slots := 0, locals := 25 }) (va_Pc [.ref (ad 0), .int p1, .int p2, .int p3] (zz_M dC dI dA [zr_o ad f_thrown f_taped f_at f_behind f_size f_kind f_number f_wrong f_wrongAt f_faultKind f_faultPlace f_reading f_toldWhy f_x f_standMany f_bestMany f_tail f_round1, (ad 40, .inl (dA 0, 4, .inl b_rowSort)), (ad 41, .inl (dA 0, 4, .inl b_rowMany)), (ad 42, .inl (dA 1, 160, .inr (.inl b_numbers)))] sz)) (va_Qi (fun (r : Int32) (_ : Unit) => r = r0) (fun _ t => zz_B dC dI dA (va_A [zr_o ad f_thrown f_taped f_at f_behind f_size f_kind f_number f_wrong f_wrongAt f_faultKind f_faultPlace f_reading f_toldWhy f_x f_standMany f_bestMany f_tail f_round1, (ad 40, .inl (dA 0, 4, .inl b_rowSort)), (ad 41, .inl (dA 0, 4, .inl b_rowMany)), (ad 42, .inl (dA 1, 160, .inr (.inl b_numbers)))] sz) [zr_o ad o1 f_taped f_at f_behind f_size f_kind f_number f_wrong f_wrongAt f_faultKind f_faultPlace f_reading f_toldWhy f_x f_standMany f_bestMany f_tail f_round1, (ad 40, .inl (dA 0, 4, .inl o2)), (ad 41, .inl (dA 0, 4, .inl o3)), (ad 42, .inl (dA 1, 160, .inr (.inl o4)))] t) (va_A [zr_o ad f_thrown f_taped f_at f_behind f_size f_kind f_number f_wrong f_wrongAt f_faultKind f_faultPlace f_reading f_toldWhy f_x f_standMany f_bestMany f_tail f_round1, (ad 40, .inl (dA 0, 4, .inl b_rowSort)), (ad 41, .inl (dA 0, 4, .inl b_rowMany)), (ad 42, .inl (dA 1, 160, .inr (.inl b_numbers)))] sz)) 0 0 (va_A [zr_o ad f_thrown f_taped f_at f_behind f_size f_kind f_number f_wrong f_wrongAt f_faultKind f_faultPlace f_reading f_toldWhy f_x f_standMany f_bestMany f_tail f_round1, (ad 40, .inl (dA 0, 4, .inl b_rowSort)), (ad 41, .inl (dA 0, 4, .inl b_rowMany)), (ad 42, .inl (dA 1, 160, .inr (.inl b_numbers)))] sz) := by
  unfold zf_X11_numbers at hf
  refine Met.ofW (cc := cX11_numbers) (maxL := 5) (ret := (some .int)) (by decide) rfl ?_
  intro p e s m args below meth c s₁ B hml hv
  obtain ⟨rfl, hsz, hP, hK, hD0⟩ := hv
  have hx := B.exec
  have hb := B.bytes
  have hr := B.returns
  have ht : ∀ w ∈ zr_T, w.before ([.ref (ad 0), .int p1, .int p2, .int p3] : List Value).toArray s = true := fun w hw => atoms_spec (ws := .code yX11_numbers cX11_numbers 5 (some .int) :: zr_T) B.pre w (List.mem_cons_of_mem _ hw)
  have hown : s.vm.findClass RX11 = some m.cls := findClass_of_methodNamed B.named
  have hlocks := B.notSynchronized
  subst hsz
  have hD := hD0.self (sz := s.heap.size)
  generalize hAe : va_A [zr_o ad f_thrown f_taped f_at f_behind f_size f_kind f_number f_wrong f_wrongAt f_faultKind f_faultPlace f_reading f_toldWhy f_x f_standMany f_bestMany f_tail f_round1, (ad 40, .inl (dA 0, 4, .inl b_rowSort)), (ad 41, .inl (dA 0, 4, .inl b_rowMany)), (ad 42, .inl (dA 1, 160, .inr (.inl b_numbers)))] s.heap.size = A at hD ⊢
  have hA : ∀ q : Nat, s.heap.size ≤ q → A q := fun q h => by rw [← hAe]; exact Or.inr h
  clear hAe hD0
  have hS : va_S A s.heap s.heap [] := va_S.rf
  have hl := lv_entry ([.ref (ad 0), .int p1, .int p2, .int p3]) (n := 5) (Nat.le_of_ble_eq_true rfl)
  rw [lg_entry_eq]
  generalize (lg_sl ([.ref (ad 0), .int p1, .int p2, .int p3]) ++ List.replicate (5 - (lg_sl ([.ref (ad 0), .int p1, .int p2, .int p3])).length) Slot.unset).toArray = ls at hl ⊢
  have hl : lv_has ls 5 [(0, .ref (ad 0)), (1, .int p1), (2, .int p2), (3, .int p3)] := hl
  refine lv_aload_n (pc := 0) hx hb dX11_numbers_0 rfl (lv_at hl 0 rfl) ?_
  refine lv_iconst (v := (0 : Int32)) (pc := 1) hx hb dX11_numbers_1 (by decide) ?_
  refine va_put (pc := 2) (D := (dC, dI)) (ci := 0) (v := .int (0 : Int32)) (ty := .int) (C := RX11) (T := TX11) (N := 42) hx hb ht zr_lay tyX11 tyX11_ok nmX11 hown hK hP hD hS 0 rfl rfl 0 (by decide) (ht _ zr_39) (fun _ h9 => h9) rfl (by decide +kernel) rfl rfl (Nat.le_of_ble_eq_true rfl) dX11_numbers_2 (fun H locs hP hD hS => ?_)
  have hP : va_P (dC, dI) zz_cls [zr_o ad (0 : Int32) f_taped f_at f_behind f_size f_kind f_number f_wrong f_wrongAt f_faultKind f_faultPlace f_reading f_toldWhy f_x f_standMany f_bestMany f_tail f_round1, (ad 40, .inl (dA 0, 4, .inl b_rowSort)), (ad 41, .inl (dA 0, 4, .inl b_rowMany)), (ad 42, .inl (dA 1, 160, .inr (.inl b_numbers)))] H := hP
  have hD : va_D A [zr_o ad (0 : Int32) f_taped f_at f_behind f_size f_kind f_number f_wrong f_wrongAt f_faultKind f_faultPlace f_reading f_toldWhy f_x f_standMany f_bestMany f_tail f_round1, (ad 40, .inl (dA 0, 4, .inl b_rowSort)), (ad 41, .inl (dA 0, 4, .inl b_rowMany)), (ad 42, .inl (dA 1, 160, .inr (.inl b_numbers)))] := hD
  refine lv_iload_n (pc := 5) hx hb dX11_numbers_5 rfl (lv_at hl 1 rfl) ?_
  refine lv_i2l (pc := 6) hx hb dX11_numbers_6 rfl ?_
  refine lv_lconst (v := (0 : Int64)) (pc := 7) hx hb dX11_numbers_7 (by decide) ?_
  refine lv_ldc2 (v := (3 : Int64)) (pc := 8) hx hb hown (ht _ zr_315) dX11_numbers_8 ?_
  obtain ⟨v1, hv1, hf⟩ := zc_1 hf
  refine zw_Si (pc := 11) (wc := []) (wr := [zr_o ad (0 : Int32) f_taped f_at f_behind f_size f_kind f_number f_wrong f_wrongAt f_faultKind f_faultPlace f_reading f_toldWhy f_x f_standMany f_bestMany f_tail f_round1, (ad 40, .inl (dA 0, 4, .inl b_rowSort)), (ad 41, .inl (dA 0, 4, .inl b_rowMany)), (ad 42, .inl (dA 1, 160, .inr (.inl b_numbers)))]) (w1 := []) (As := [.long (Int32.toInt64 p1), .long (0 : Int64), .long (3 : Int64)]) (rest := []) ⟨hx, hb, hml, hown, ht⟩ (zt_X11_within l dC dI dA ad _ (Int32.toInt64 p1) (0 : Int64) (3 : Int64) v1 hv1) (cwS 3 ht (zr_S zr_124 zr_125 zr_36 zr_0) rfl rfl rfl zk_X11_within ⟨Nat.le_of_ble_eq_true rfl, Nat.le_of_ble_eq_true rfl⟩) hK hP hD hS hA [] [0, 1, 2, 3] (by decide) (by decide) (by decide) rfl rfl rfl hl.1 (Nat.le_of_ble_eq_true rfl) dX11_numbers_11 ⟨Nat.zero_le _, Nat.zero_le _⟩ rfl (fun H locs hP hD hS => ?_)
  have hP : va_P (dC, dI) zz_cls [zr_o ad (0 : Int32) f_taped f_at f_behind f_size f_kind f_number f_wrong f_wrongAt f_faultKind f_faultPlace f_reading f_toldWhy f_x f_standMany f_bestMany f_tail f_round1, (ad 40, .inl (dA 0, 4, .inl b_rowSort)), (ad 41, .inl (dA 0, 4, .inl b_rowMany)), (ad 42, .inl (dA 1, 160, .inr (.inl b_numbers)))] H := hP
  have hD : va_D A [zr_o ad (0 : Int32) f_taped f_at f_behind f_size f_kind f_number f_wrong f_wrongAt f_faultKind f_faultPlace f_reading f_toldWhy f_x f_standMany f_bestMany f_tail f_round1, (ad 40, .inl (dA 0, 4, .inl b_rowSort)), (ad 41, .inl (dA 0, 4, .inl b_rowMany)), (ad 42, .inl (dA 1, 160, .inr (.inl b_numbers)))] := hD
  refine lv_if_eq (tgt := 29) (pc := 14) hx hb dX11_numbers_14 rfl (fun hc => ?_) (fun hc => ?_)
  · have hf := za_t hf hc
    refine lv_bipush (v := (-2 : Int32)) (pc := 29) hx hb dX11_numbers_29 (by decide) ?_
    obtain ⟨rfl, rfl, rfl, rfl, rfl⟩ := zi_5 hf
    exact W.iret (pc := 31) hx hb hr (fun t ht hW => ⟨⟨_, (), rfl, rfl, zz_Bi (by rw [ht]; exact hP) (va_K.moved hW.alike hK) (hD)⟩, hS.F ht⟩) hS.2.2 dX11_numbers_31
  · have hf := za_f hf hc
    refine lv_iload_n (pc := 17) hx hb dX11_numbers_17 rfl (lv_at hl 2 rfl) ?_
    refine lv_i2l (pc := 18) hx hb dX11_numbers_18 rfl ?_
    refine lv_lconst (v := (0 : Int64)) (pc := 19) hx hb dX11_numbers_19 (by decide) ?_
    refine lv_ldc2 (v := (3 : Int64)) (pc := 20) hx hb hown (ht _ zr_315) dX11_numbers_20 ?_
    obtain ⟨v2, hv2, hf⟩ := zc_1 hf
    refine zw_Si (pc := 23) (wc := []) (wr := [zr_o ad (0 : Int32) f_taped f_at f_behind f_size f_kind f_number f_wrong f_wrongAt f_faultKind f_faultPlace f_reading f_toldWhy f_x f_standMany f_bestMany f_tail f_round1, (ad 40, .inl (dA 0, 4, .inl b_rowSort)), (ad 41, .inl (dA 0, 4, .inl b_rowMany)), (ad 42, .inl (dA 1, 160, .inr (.inl b_numbers)))]) (w1 := []) (As := [.long (Int32.toInt64 p2), .long (0 : Int64), .long (3 : Int64)]) (rest := []) ⟨hx, hb, hml, hown, ht⟩ (zt_X11_within l dC dI dA ad _ (Int32.toInt64 p2) (0 : Int64) (3 : Int64) v2 hv2) (cwS 3 ht (zr_S zr_124 zr_125 zr_36 zr_0) rfl rfl rfl zk_X11_within ⟨Nat.le_of_ble_eq_true rfl, Nat.le_of_ble_eq_true rfl⟩) hK hP hD hS hA [] [0, 1, 2, 3] (by decide) (by decide) (by decide) rfl rfl rfl hl.1 (Nat.le_of_ble_eq_true rfl) dX11_numbers_23 ⟨Nat.zero_le _, Nat.zero_le _⟩ rfl (fun H locs hP hD hS => ?_)
    have hP : va_P (dC, dI) zz_cls [zr_o ad (0 : Int32) f_taped f_at f_behind f_size f_kind f_number f_wrong f_wrongAt f_faultKind f_faultPlace f_reading f_toldWhy f_x f_standMany f_bestMany f_tail f_round1, (ad 40, .inl (dA 0, 4, .inl b_rowSort)), (ad 41, .inl (dA 0, 4, .inl b_rowMany)), (ad 42, .inl (dA 1, 160, .inr (.inl b_numbers)))] H := hP
    have hD : va_D A [zr_o ad (0 : Int32) f_taped f_at f_behind f_size f_kind f_number f_wrong f_wrongAt f_faultKind f_faultPlace f_reading f_toldWhy f_x f_standMany f_bestMany f_tail f_round1, (ad 40, .inl (dA 0, 4, .inl b_rowSort)), (ad 41, .inl (dA 0, 4, .inl b_rowMany)), (ad 42, .inl (dA 1, 160, .inr (.inl b_numbers)))] := hD
    refine lv_if_ne (tgt := 32) (pc := 26) hx hb dX11_numbers_26 rfl (fun hc => ?_) (fun hc => ?_)
    · have hf := za_f hf hc
      refine lv_iload_n (pc := 32) hx hb dX11_numbers_32 rfl (lv_at hl 3 rfl) ?_
      refine lv_i2l (pc := 33) hx hb dX11_numbers_33 rfl ?_
      refine lv_lconst (v := (0 : Int64)) (pc := 34) hx hb dX11_numbers_34 (by decide) ?_
      refine lv_ldc2 (v := (40 : Int64)) (pc := 35) hx hb hown (ht _ zr_334) dX11_numbers_35 ?_
      obtain ⟨v3, hv3, hf⟩ := zc_1 hf
      refine zw_Si (pc := 38) (wc := []) (wr := [zr_o ad (0 : Int32) f_taped f_at f_behind f_size f_kind f_number f_wrong f_wrongAt f_faultKind f_faultPlace f_reading f_toldWhy f_x f_standMany f_bestMany f_tail f_round1, (ad 40, .inl (dA 0, 4, .inl b_rowSort)), (ad 41, .inl (dA 0, 4, .inl b_rowMany)), (ad 42, .inl (dA 1, 160, .inr (.inl b_numbers)))]) (w1 := []) (As := [.long (Int32.toInt64 p3), .long (0 : Int64), .long (40 : Int64)]) (rest := []) ⟨hx, hb, hml, hown, ht⟩ (zt_X11_within l dC dI dA ad _ (Int32.toInt64 p3) (0 : Int64) (40 : Int64) v3 hv3) (cwS 3 ht (zr_S zr_124 zr_125 zr_36 zr_0) rfl rfl rfl zk_X11_within ⟨Nat.le_of_ble_eq_true rfl, Nat.le_of_ble_eq_true rfl⟩) hK hP hD hS hA [] [0, 1, 2, 3] (by decide) (by decide) (by decide) rfl rfl rfl hl.1 (Nat.le_of_ble_eq_true rfl) dX11_numbers_38 ⟨Nat.zero_le _, Nat.zero_le _⟩ rfl (fun H locs hP hD hS => ?_)
      have hP : va_P (dC, dI) zz_cls [zr_o ad (0 : Int32) f_taped f_at f_behind f_size f_kind f_number f_wrong f_wrongAt f_faultKind f_faultPlace f_reading f_toldWhy f_x f_standMany f_bestMany f_tail f_round1, (ad 40, .inl (dA 0, 4, .inl b_rowSort)), (ad 41, .inl (dA 0, 4, .inl b_rowMany)), (ad 42, .inl (dA 1, 160, .inr (.inl b_numbers)))] H := hP
      have hD : va_D A [zr_o ad (0 : Int32) f_taped f_at f_behind f_size f_kind f_number f_wrong f_wrongAt f_faultKind f_faultPlace f_reading f_toldWhy f_x f_standMany f_bestMany f_tail f_round1, (ad 40, .inl (dA 0, 4, .inl b_rowSort)), (ad 41, .inl (dA 0, 4, .inl b_rowMany)), (ad 42, .inl (dA 1, 160, .inr (.inl b_numbers)))] := hD
      refine lv_if_ne (tgt := 47) (pc := 41) hx hb dX11_numbers_41 rfl (fun hc => ?_) (fun hc => ?_)
      · have hf := za_f hf hc
        refine lv_aload_n (pc := 47) hx hb dX11_numbers_47 rfl (lv_at hl 0 rfl) ?_
        refine va_get (pc := 48) (D := (dC, dI)) (ci := 0) (v := .ref (ad 40)) (C := RX11) (T := TX11) (N := 42) hx hb ht zr_lay hown hK hP 0 rfl rfl 39 (by decide) (ht _ zr_31) (fun _ h9 => h9) rfl dX11_numbers_48 ?_
        refine lv_iload_n (pc := 51) hx hb dX11_numbers_51 rfl (lv_at hl 1 rfl) ?_
        refine lv_iload_n (pc := 52) hx hb dX11_numbers_52 rfl (lv_at hl 2 rfl) ?_
        obtain ⟨a4, ha4, hf⟩ := zc_1 hf
        refine zw_iast (pc := 53) hx hb hK hP hD hS 1 0 rfl rfl ha4 dX11_numbers_53 (fun H locs hP hD hS => ?_)
        have hP : va_P (dC, dI) zz_cls [zr_o ad (0 : Int32) f_taped f_at f_behind f_size f_kind f_number f_wrong f_wrongAt f_faultKind f_faultPlace f_reading f_toldWhy f_x f_standMany f_bestMany f_tail f_round1, (ad 40, .inl (dA 0, 4, .inl a4)), (ad 41, .inl (dA 0, 4, .inl b_rowMany)), (ad 42, .inl (dA 1, 160, .inr (.inl b_numbers)))] H := hP
        have hD : va_D A [zr_o ad (0 : Int32) f_taped f_at f_behind f_size f_kind f_number f_wrong f_wrongAt f_faultKind f_faultPlace f_reading f_toldWhy f_x f_standMany f_bestMany f_tail f_round1, (ad 40, .inl (dA 0, 4, .inl a4)), (ad 41, .inl (dA 0, 4, .inl b_rowMany)), (ad 42, .inl (dA 1, 160, .inr (.inl b_numbers)))] := hD
        refine lv_aload_n (pc := 54) hx hb dX11_numbers_54 rfl (lv_at hl 0 rfl) ?_
        refine va_get (pc := 55) (D := (dC, dI)) (ci := 0) (v := .ref (ad 41)) (C := RX11) (T := TX11) (N := 42) hx hb ht zr_lay hown hK hP 0 rfl rfl 40 (by decide) (ht _ zr_32) (fun _ h9 => h9) rfl dX11_numbers_55 ?_
        refine lv_iload_n (pc := 58) hx hb dX11_numbers_58 rfl (lv_at hl 1 rfl) ?_
        refine lv_iload_n (pc := 59) hx hb dX11_numbers_59 rfl (lv_at hl 3 rfl) ?_
        obtain ⟨a5, ha5, hf⟩ := zc_1 hf
        refine zw_iast (pc := 60) hx hb hK hP hD hS 2 0 rfl rfl ha5 dX11_numbers_60 (fun H locs hP hD hS => ?_)
        have hP : va_P (dC, dI) zz_cls [zr_o ad (0 : Int32) f_taped f_at f_behind f_size f_kind f_number f_wrong f_wrongAt f_faultKind f_faultPlace f_reading f_toldWhy f_x f_standMany f_bestMany f_tail f_round1, (ad 40, .inl (dA 0, 4, .inl a4)), (ad 41, .inl (dA 0, 4, .inl a5)), (ad 42, .inl (dA 1, 160, .inr (.inl b_numbers)))] H := hP
        have hD : va_D A [zr_o ad (0 : Int32) f_taped f_at f_behind f_size f_kind f_number f_wrong f_wrongAt f_faultKind f_faultPlace f_reading f_toldWhy f_x f_standMany f_bestMany f_tail f_round1, (ad 40, .inl (dA 0, 4, .inl a4)), (ad 41, .inl (dA 0, 4, .inl a5)), (ad 42, .inl (dA 1, 160, .inr (.inl b_numbers)))] := hD
        refine lv_iconst (v := (0 : Int32)) (pc := 61) hx hb dX11_numbers_61 (by decide) ?_
        refine lv_istore (lv' := [(4, .int (0 : Int32)), (0, .ref (ad 0)), (1, .int p1), (2, .int p2), (3, .int p3)]) (pc := 62) hx hb dX11_numbers_62 hl (by decide) rfl (fun ls hl => ?_)
        obtain ⟨g12, v10, a11, hj, hf⟩ := zc_3 hf
        refine zj_join (pcJ := 89) (stk := []) (X := fun H locs ls => lv_has ls 5 [] ∧ va_P (dC, dI) zz_cls [zr_o ad (0 : Int32) f_taped f_at f_behind f_size f_kind f_number f_wrong f_wrongAt f_faultKind f_faultPlace f_reading f_toldWhy f_x f_standMany f_bestMany f_tail f_round1, (ad 40, .inl (dA 0, 4, .inl a4)), (ad 41, .inl (dA 0, 4, .inl a5)), (ad 42, .inl (dA 1, 160, .inr (.inl a11)))] H ∧ va_D A [zr_o ad (0 : Int32) f_taped f_at f_behind f_size f_kind f_number f_wrong f_wrongAt f_faultKind f_faultPlace f_reading f_toldWhy f_x f_standMany f_bestMany f_tail f_round1, (ad 40, .inl (dA 0, 4, .inl a4)), (ad 41, .inl (dA 0, 4, .inl a5)), (ad 42, .inl (dA 1, 160, .inr (.inl a11)))] ∧ va_S A s.heap H locs) (fun H locs ls hX => ?_) (fun E89 => ?_)
        · obtain ⟨hl, hP, hD, hS⟩ := hX
          clear hj
          refine lv_iconst (v := (0 : Int32)) (pc := 89) hx hb dX11_numbers_89 (by decide) ?_
          obtain ⟨rfl, rfl, rfl, rfl, rfl⟩ := zi_5 hf
          exact W.iret (pc := 90) hx hb hr (fun t ht hW => ⟨⟨_, (), rfl, rfl, zz_Bi (by rw [ht]; exact hP) (va_K.moved hW.alike hK) (hD)⟩, hS.F ht⟩) hS.2.2 dX11_numbers_90
        clear hf
        refine zw_loop (pcH := 64) (X := fun v H locs ls => lv_has ls 5 [(0, .ref (ad 0)), (1, .int p1), (3, .int p3), (4, .int v.1)] ∧ va_P (dC, dI) zz_cls [zr_o ad (0 : Int32) f_taped f_at f_behind f_size f_kind f_number f_wrong f_wrongAt f_faultKind f_faultPlace f_reading f_toldWhy f_x f_standMany f_bestMany f_tail f_round1, (ad 40, .inl (dA 0, 4, .inl a4)), (ad 41, .inl (dA 0, 4, .inl a5)), (ad 42, .inl (dA 1, 160, .inr (.inl v.2)))] H ∧ va_D A [zr_o ad (0 : Int32) f_taped f_at f_behind f_size f_kind f_number f_wrong f_wrongAt f_faultKind f_faultPlace f_reading f_toldWhy f_x f_standMany f_bestMany f_tail f_round1, (ad 40, .inl (dA 0, 4, .inl a4)), (ad 41, .inl (dA 0, 4, .inl a5)), (ad 42, .inl (dA 1, 160, .inr (.inl v.2)))] ∧ va_S A s.heap H locs) hj (fun v w hf ih ex H locs ls hX => ?_) _ _ _ ⟨lv_sub hl [1, 2, 4, 0] rfl, hP, hD, hS⟩
        clear hj
        obtain ⟨v6, a7⟩ := v
        obtain ⟨hl, hP, hD, hS⟩ := hX
        have hl : lv_has ls 5 [(0, .ref (ad 0)), (1, .int p1), (3, .int p3), (4, .int v6)] := hl
        have hP : va_P (dC, dI) zz_cls [zr_o ad (0 : Int32) f_taped f_at f_behind f_size f_kind f_number f_wrong f_wrongAt f_faultKind f_faultPlace f_reading f_toldWhy f_x f_standMany f_bestMany f_tail f_round1, (ad 40, .inl (dA 0, 4, .inl a4)), (ad 41, .inl (dA 0, 4, .inl a5)), (ad 42, .inl (dA 1, 160, .inr (.inl a7)))] H := hP
        have hD : va_D A [zr_o ad (0 : Int32) f_taped f_at f_behind f_size f_kind f_number f_wrong f_wrongAt f_faultKind f_faultPlace f_reading f_toldWhy f_x f_standMany f_bestMany f_tail f_round1, (ad 40, .inl (dA 0, 4, .inl a4)), (ad 41, .inl (dA 0, 4, .inl a5)), (ad 42, .inl (dA 1, 160, .inr (.inl a7)))] := hD
        replace hf : zb_X11_numbers_64 p3 p1 v6 a7 = some w := hf
        unfold zb_X11_numbers_64 at hf
        refine lv_iload (pc := 64) hx hb dX11_numbers_64 (lv_at hl 3 rfl) ?_
        refine lv_iload_n (pc := 66) hx hb dX11_numbers_66 rfl (lv_at hl 2 rfl) ?_
        refine lv_icmp_ge (tgt := 89) (pc := 67) hx hb dX11_numbers_67 rfl (fun hc => ?_) (fun hc => ?_)
        · have hf := za_t hf hc
          obtain rfl := Option.some.inj hf
          obtain ⟨rfl, rfl, rfl⟩ := zp_3 (ex (show ¬ (1 : Nat) = 0 by decide))
          exact E89 _ _ _ ⟨lv_sub hl [] rfl, hP, hD, hS⟩
        · have hf := za_f hf hc
          refine lv_aload_n (pc := 70) hx hb dX11_numbers_70 rfl (lv_at hl 0 rfl) ?_
          refine va_get (pc := 71) (D := (dC, dI)) (ci := 0) (v := .ref (ad 42)) (C := RX11) (T := TX11) (N := 42) hx hb ht zr_lay hown hK hP 0 rfl rfl 41 (by decide) (ht _ zr_33) (fun _ h9 => h9) rfl dX11_numbers_71 ?_
          refine lv_bipush (v := (40 : Int32)) (pc := 74) hx hb dX11_numbers_74 (by decide) ?_
          refine lv_iload_n (pc := 76) hx hb dX11_numbers_76 rfl (lv_at hl 1 rfl) ?_
          refine lv_imul (pc := 77) hx hb dX11_numbers_77 ?_
          refine lv_iload (pc := 78) hx hb dX11_numbers_78 (lv_at hl 3 rfl) ?_
          refine lv_iadd (pc := 80) hx hb dX11_numbers_80 ?_
          refine lv_lconst (v := (0 : Int64)) (pc := 81) hx hb dX11_numbers_81 (by decide) ?_
          obtain ⟨a8, ha8, hf⟩ := zc_1 hf
          refine zw_last (pc := 82) hx hb hK hP hD hS 3 1 rfl rfl ha8 dX11_numbers_82 (fun H locs hP hD hS => ?_)
          have hP : va_P (dC, dI) zz_cls [zr_o ad (0 : Int32) f_taped f_at f_behind f_size f_kind f_number f_wrong f_wrongAt f_faultKind f_faultPlace f_reading f_toldWhy f_x f_standMany f_bestMany f_tail f_round1, (ad 40, .inl (dA 0, 4, .inl a4)), (ad 41, .inl (dA 0, 4, .inl a5)), (ad 42, .inl (dA 1, 160, .inr (.inl a8)))] H := hP
          have hD : va_D A [zr_o ad (0 : Int32) f_taped f_at f_behind f_size f_kind f_number f_wrong f_wrongAt f_faultKind f_faultPlace f_reading f_toldWhy f_x f_standMany f_bestMany f_tail f_round1, (ad 40, .inl (dA 0, 4, .inl a4)), (ad 41, .inl (dA 0, 4, .inl a5)), (ad 42, .inl (dA 1, 160, .inr (.inl a8)))] := hD
          obtain ⟨v9, hv9, hf⟩ := zc_1 hf
          refine lv_iinc (v := v9) (lv' := [(4, .int v9), (0, .ref (ad 0)), (1, .int p1), (3, .int p3)]) (k := 3) (pc := 83) hx hb dX11_numbers_83 hl rfl (Option.some.inj hv9) (by decide) rfl (fun ls hl => ?_)
          refine lv_goto (tgt := 64) (pc := 86) hx hb dX11_numbers_86 rfl ?_
          obtain rfl := Option.some.inj hf
          exact ih rfl _ _ _ ⟨lv_sub hl [1, 2, 3, 0] rfl, hP, hD, hS⟩
      · have hf := za_t hf hc
        refine lv_bipush (v := (-3 : Int32)) (pc := 44) hx hb dX11_numbers_44 (by decide) ?_
        obtain ⟨rfl, rfl, rfl, rfl, rfl⟩ := zi_5 hf
        exact W.iret (pc := 46) hx hb hr (fun t ht hW => ⟨⟨_, (), rfl, rfl, zz_Bi (by rw [ht]; exact hP) (va_K.moved hW.alike hK) (hD)⟩, hS.F ht⟩) hS.2.2 dX11_numbers_46
    · have hf := za_t hf hc
      refine lv_bipush (v := (-2 : Int32)) (pc := 29) hx hb dX11_numbers_29 (by decide) ?_
      obtain ⟨rfl, rfl, rfl, rfl, rfl⟩ := zi_5 hf
      exact W.iret (pc := 31) hx hb hr (fun t ht hW => ⟨⟨_, (), rfl, rfl, zz_Bi (by rw [ht]; exact hP) (va_K.moved hW.alike hK) (hD)⟩, hS.F ht⟩) hS.2.2 dX11_numbers_31

def zf_X11_write (f_thrown : Int32) (b_rowSort : (Nat → Int32)) (b_rowMany : (Nat → Int32)) (b_numbers : (Nat → Int64)) (p1 : Int32) (p2 : Int32) (p3 : Int64) : Option (Int64 × Int32 × (Nat → Int64)) :=
  zd_1 (zf_X11_noTray b_rowSort p1) (fun v1 =>
  if v1 = 0 then
    zd_1 (za_ld b_rowMany 4 p1) (fun v2 =>
    zd_1 (zf_X11_within (Int32.toInt64 p2) (0 : Int64) (Int32.toInt64 (v2 - (1 : Int32)))) (fun v3 =>
    if v3 = 0 then
      some ((-7 : Int64), (0 : Int32), b_numbers)
    else
      zd_1 (za_ld b_rowSort 4 p1) (fun v4 =>
      zd_1 (zf_X11_cut p3 v4) (fun v5 =>
      zd_1 (za_st b_numbers 160 (((40 : Int32) * p1) + p2) v5) (fun a6 =>
      zd_1 (za_ld a6 160 (((40 : Int32) * p1) + p2)) (fun v7 =>
      some (v7, (0 : Int32), a6)))))))
  else
    some ((Int32.toInt64 v1), (0 : Int32), b_numbers))
theorem zk_X11_write : yX11_write.cls = RX11 ∧ yX11_write.cls ≠ "java/lang/invoke/MethodHandle" ∧ yX11_write.cls ≠ "java/lang/invoke/VarHandle" ∧ (parseMethodDescriptor yX11_write.desc).map (fun d => d.parameters.length) = some 3 := by decide +kernel
set_option maxHeartbeats 4000000 in
set_option maxRecDepth 100000 in
theorem zt_X11_write (l : Launch) (dC : Nat → ClassId) (dI : Nat → Nat → Nat) (dA : Nat → ClassId) (ad : Nat → Nat) (sz : Nat) (f_thrown f_taped f_at f_behind f_size f_kind f_number f_wrong f_wrongAt f_faultKind f_faultPlace f_reading f_toldWhy f_x f_standMany f_bestMany f_tail f_round1 : Int32) (b_rowSort : (Nat → Int32)) (b_rowMany : (Nat → Int32)) (b_numbers : (Nat → Int64)) (p1 : Int32) (p2 : Int32) (p3 : Int64) (r0 : Int64) (o1 : Int32) (o2 : (Nat → Int64)) (hf : zf_X11_write f_thrown b_rowSort b_rowMany b_numbers p1 p2 p3 = some (r0, o1, o2)) : Met l yX11_write (.code yX11_write cX11_write 6 (some .long) :: zr_T) ({ frames := 2, cells := 0, slots := 0, locals := 46 }) (va_Pc [.ref (ad 0), .int p1, .int p2, .long p3] (zz_M dC dI dA [zr_o ad f_thrown f_taped f_at f_behind f_size f_kind f_number f_wrong f_wrongAt f_faultKind f_faultPlace f_reading f_toldWhy f_x f_standMany f_bestMany f_tail f_round1, (ad 40, .inl (dA 0, 4, .inl b_rowSort)), (ad 41, .inl (dA 0, 4, .inl b_rowMany)), (ad 42, .inl (dA 1, 160, .inr (.inl b_numbers)))] sz)) (va_Ql (fun (r : Int64) (_ : Unit) => r = r0) (fun _ t => zz_B dC dI dA (va_A [zr_o ad f_thrown f_taped f_at f_behind f_size f_kind f_number f_wrong f_wrongAt f_faultKind f_faultPlace f_reading f_toldWhy f_x f_standMany f_bestMany f_tail f_round1, (ad 40, .inl (dA 0, 4, .inl b_rowSort)), (ad 41, .inl (dA 0, 4, .inl b_rowMany)), (ad 42, .inl (dA 1, 160, .inr (.inl b_numbers)))] sz) [zr_o ad o1 f_taped f_at f_behind f_size f_kind f_number f_wrong f_wrongAt f_faultKind f_faultPlace f_reading f_toldWhy f_x f_standMany f_bestMany f_tail f_round1, (ad 40, .inl (dA 0, 4, .inl b_rowSort)), (ad 41, .inl (dA 0, 4, .inl b_rowMany)), (ad 42, .inl (dA 1, 160, .inr (.inl o2)))] t) (va_A [zr_o ad f_thrown f_taped f_at f_behind f_size f_kind f_number f_wrong f_wrongAt f_faultKind f_faultPlace f_reading f_toldWhy f_x f_standMany f_bestMany f_tail f_round1, (ad 40, .inl (dA 0, 4, .inl b_rowSort)), (ad 41, .inl (dA 0, 4, .inl b_rowMany)), (ad 42, .inl (dA 1, 160, .inr (.inl b_numbers)))] sz)) 0 0 (va_A [zr_o ad f_thrown f_taped f_at f_behind f_size f_kind f_number f_wrong f_wrongAt f_faultKind f_faultPlace f_reading f_toldWhy f_x f_standMany f_bestMany f_tail f_round1, (ad 40, .inl (dA 0, 4, .inl b_rowSort)), (ad 41, .inl (dA 0, 4, .inl b_rowMany)), (ad 42, .inl (dA 1, 160, .inr (.inl b_numbers)))] sz) := by
  unfold zf_X11_write at hf
  refine Met.ofW (cc := cX11_write) (maxL := 6) (ret := (some .long)) (by decide) rfl ?_
  intro p e s m args below meth c s₁ B hml hv
  obtain ⟨rfl, hsz, hP, hK, hD0⟩ := hv
  have hx := B.exec
  have hb := B.bytes
  have hr := B.returns
  have ht : ∀ w ∈ zr_T, w.before ([.ref (ad 0), .int p1, .int p2, .long p3] : List Value).toArray s = true := fun w hw => atoms_spec (ws := .code yX11_write cX11_write 6 (some .long) :: zr_T) B.pre w (List.mem_cons_of_mem _ hw)
  have hown : s.vm.findClass RX11 = some m.cls := findClass_of_methodNamed B.named
  have hlocks := B.notSynchronized
  subst hsz
  have hD := hD0.self (sz := s.heap.size)
  generalize hAe : va_A [zr_o ad f_thrown f_taped f_at f_behind f_size f_kind f_number f_wrong f_wrongAt f_faultKind f_faultPlace f_reading f_toldWhy f_x f_standMany f_bestMany f_tail f_round1, (ad 40, .inl (dA 0, 4, .inl b_rowSort)), (ad 41, .inl (dA 0, 4, .inl b_rowMany)), (ad 42, .inl (dA 1, 160, .inr (.inl b_numbers)))] s.heap.size = A at hD ⊢
  have hA : ∀ q : Nat, s.heap.size ≤ q → A q := fun q h => by rw [← hAe]; exact Or.inr h
  clear hAe hD0
  have hS : va_S A s.heap s.heap [] := va_S.rf
  have hl := lv_entry ([.ref (ad 0), .int p1, .int p2, .long p3]) (n := 6) (Nat.le_of_ble_eq_true rfl)
  rw [lg_entry_eq]
  generalize (lg_sl ([.ref (ad 0), .int p1, .int p2, .long p3]) ++ List.replicate (6 - (lg_sl ([.ref (ad 0), .int p1, .int p2, .long p3])).length) Slot.unset).toArray = ls at hl ⊢
  have hl : lv_has ls 6 [(0, .ref (ad 0)), (1, .int p1), (2, .int p2), (3, .long p3)] := hl
  refine lv_aload_n (pc := 0) hx hb dX11_write_0 rfl (lv_at hl 0 rfl) ?_
  refine lv_iconst (v := (0 : Int32)) (pc := 1) hx hb dX11_write_1 (by decide) ?_
  refine va_put (pc := 2) (D := (dC, dI)) (ci := 0) (v := .int (0 : Int32)) (ty := .int) (C := RX11) (T := TX11) (N := 42) hx hb ht zr_lay tyX11 tyX11_ok nmX11 hown hK hP hD hS 0 rfl rfl 0 (by decide) (ht _ zr_39) (fun _ h9 => h9) rfl (by decide +kernel) rfl rfl (Nat.le_of_ble_eq_true rfl) dX11_write_2 (fun H locs hP hD hS => ?_)
  have hP : va_P (dC, dI) zz_cls [zr_o ad (0 : Int32) f_taped f_at f_behind f_size f_kind f_number f_wrong f_wrongAt f_faultKind f_faultPlace f_reading f_toldWhy f_x f_standMany f_bestMany f_tail f_round1, (ad 40, .inl (dA 0, 4, .inl b_rowSort)), (ad 41, .inl (dA 0, 4, .inl b_rowMany)), (ad 42, .inl (dA 1, 160, .inr (.inl b_numbers)))] H := hP
  have hD : va_D A [zr_o ad (0 : Int32) f_taped f_at f_behind f_size f_kind f_number f_wrong f_wrongAt f_faultKind f_faultPlace f_reading f_toldWhy f_x f_standMany f_bestMany f_tail f_round1, (ad 40, .inl (dA 0, 4, .inl b_rowSort)), (ad 41, .inl (dA 0, 4, .inl b_rowMany)), (ad 42, .inl (dA 1, 160, .inr (.inl b_numbers)))] := hD
  refine lv_aload_n (pc := 5) hx hb dX11_write_5 rfl (lv_at hl 0 rfl) ?_
  refine lv_iload_n (pc := 6) hx hb dX11_write_6 rfl (lv_at hl 1 rfl) ?_
  obtain ⟨v1, hv1, hf⟩ := zc_1 hf
  refine zw_Vi (pc := 7) (wc := [zr_o ad (0 : Int32) f_taped f_at f_behind f_size f_kind f_number f_wrong f_wrongAt f_faultKind f_faultPlace f_reading f_toldWhy f_x f_standMany f_bestMany f_tail f_round1, (ad 40, .inl (dA 0, 4, .inl b_rowSort))]) (wr := [(ad 41, .inl (dA 0, 4, .inl b_rowMany)), (ad 42, .inl (dA 1, 160, .inr (.inl b_numbers)))]) (w1 := [zr_o ad (0 : Int32) f_taped f_at f_behind f_size f_kind f_number f_wrong f_wrongAt f_faultKind f_faultPlace f_reading f_toldWhy f_x f_standMany f_bestMany f_tail f_round1, (ad 40, .inl (dA 0, 4, .inl b_rowSort))]) (As := [.int p1]) (rest := []) ⟨hx, hb, hml, hown, ht⟩ (zt_X11_noTray l dC dI dA ad _ (0 : Int32) f_taped f_at f_behind f_size f_kind f_number f_wrong f_wrongAt f_faultKind f_faultPlace f_reading f_toldWhy f_x f_standMany f_bestMany f_tail f_round1 b_rowSort p1 v1 hv1) (cwV 1 ht (zr_V zr_316 zr_317 zr_318 zr_36 zr_314) rfl rfl rfl zk_X11_noTray ⟨Nat.le_of_ble_eq_true rfl, Nat.le_of_ble_eq_true rfl⟩) rfl rfl hK hP hD hS hA [0, 1] [2, 3] (by decide) (by decide) (by decide) rfl rfl rfl hl.1 (Nat.le_of_ble_eq_true rfl) dX11_write_7 ⟨Nat.zero_le _, Nat.zero_le _⟩ rfl (fun H locs hP hD hS => ?_)
  have hP : va_P (dC, dI) zz_cls [(ad 41, .inl (dA 0, 4, .inl b_rowMany)), (ad 42, .inl (dA 1, 160, .inr (.inl b_numbers))), zr_o ad (0 : Int32) f_taped f_at f_behind f_size f_kind f_number f_wrong f_wrongAt f_faultKind f_faultPlace f_reading f_toldWhy f_x f_standMany f_bestMany f_tail f_round1, (ad 40, .inl (dA 0, 4, .inl b_rowSort))] H := hP
  have hD : va_D A [(ad 41, .inl (dA 0, 4, .inl b_rowMany)), (ad 42, .inl (dA 1, 160, .inr (.inl b_numbers))), zr_o ad (0 : Int32) f_taped f_at f_behind f_size f_kind f_number f_wrong f_wrongAt f_faultKind f_faultPlace f_reading f_toldWhy f_x f_standMany f_bestMany f_tail f_round1, (ad 40, .inl (dA 0, 4, .inl b_rowSort))] := hD
  refine lv_istore (lv' := [(5, .int v1), (0, .ref (ad 0)), (1, .int p1), (2, .int p2), (3, .long p3)]) (pc := 10) hx hb dX11_write_10 hl (by decide) rfl (fun ls hl => ?_)
  refine lv_iload (pc := 12) hx hb dX11_write_12 (lv_at hl 0 rfl) ?_
  refine lv_if_eq (tgt := 21) (pc := 14) hx hb dX11_write_14 rfl (fun hc => ?_) (fun hc => ?_)
  · have hf := za_t hf hc
    refine lv_iload_n (pc := 21) hx hb dX11_write_21 rfl (lv_at hl 3 rfl) ?_
    refine lv_i2l (pc := 22) hx hb dX11_write_22 rfl ?_
    refine lv_lconst (v := (0 : Int64)) (pc := 23) hx hb dX11_write_23 (by decide) ?_
    refine lv_aload_n (pc := 24) hx hb dX11_write_24 rfl (lv_at hl 1 rfl) ?_
    refine va_get (pc := 25) (D := (dC, dI)) (ci := 0) (v := .ref (ad 41)) (C := RX11) (T := TX11) (N := 42) hx hb ht zr_lay hown hK hP 2 rfl rfl 40 (by decide) (ht _ zr_32) (fun _ h9 => h9) rfl dX11_write_25 ?_
    refine lv_iload_n (pc := 28) hx hb dX11_write_28 rfl (lv_at hl 2 rfl) ?_
    obtain ⟨v2, hv2, hf⟩ := zc_1 hf
    refine zw_iald (pc := 29) hx hb hK hP 0 0 rfl rfl hv2 dX11_write_29 ?_
    refine lv_iconst (v := (1 : Int32)) (pc := 30) hx hb dX11_write_30 (by decide) ?_
    refine lv_isub (pc := 31) hx hb dX11_write_31 ?_
    refine lv_i2l (pc := 32) hx hb dX11_write_32 rfl ?_
    obtain ⟨v3, hv3, hf⟩ := zc_1 hf
    refine zw_Si (pc := 33) (wc := []) (wr := [(ad 41, .inl (dA 0, 4, .inl b_rowMany)), (ad 42, .inl (dA 1, 160, .inr (.inl b_numbers))), zr_o ad (0 : Int32) f_taped f_at f_behind f_size f_kind f_number f_wrong f_wrongAt f_faultKind f_faultPlace f_reading f_toldWhy f_x f_standMany f_bestMany f_tail f_round1, (ad 40, .inl (dA 0, 4, .inl b_rowSort))]) (w1 := []) (As := [.long (Int32.toInt64 p2), .long (0 : Int64), .long (Int32.toInt64 (v2 - (1 : Int32)))]) (rest := []) ⟨hx, hb, hml, hown, ht⟩ (zt_X11_within l dC dI dA ad _ (Int32.toInt64 p2) (0 : Int64) (Int32.toInt64 (v2 - (1 : Int32))) v3 hv3) (cwS 3 ht (zr_S zr_124 zr_125 zr_36 zr_0) rfl rfl rfl zk_X11_within ⟨Nat.le_of_ble_eq_true rfl, Nat.le_of_ble_eq_true rfl⟩) hK hP hD hS hA [] [0, 1, 2, 3] (by decide) (by decide) (by decide) rfl rfl rfl hl.1 (Nat.le_of_ble_eq_true rfl) dX11_write_33 ⟨Nat.zero_le _, Nat.zero_le _⟩ rfl (fun H locs hP hD hS => ?_)
    have hP : va_P (dC, dI) zz_cls [(ad 41, .inl (dA 0, 4, .inl b_rowMany)), (ad 42, .inl (dA 1, 160, .inr (.inl b_numbers))), zr_o ad (0 : Int32) f_taped f_at f_behind f_size f_kind f_number f_wrong f_wrongAt f_faultKind f_faultPlace f_reading f_toldWhy f_x f_standMany f_bestMany f_tail f_round1, (ad 40, .inl (dA 0, 4, .inl b_rowSort))] H := hP
    have hD : va_D A [(ad 41, .inl (dA 0, 4, .inl b_rowMany)), (ad 42, .inl (dA 1, 160, .inr (.inl b_numbers))), zr_o ad (0 : Int32) f_taped f_at f_behind f_size f_kind f_number f_wrong f_wrongAt f_faultKind f_faultPlace f_reading f_toldWhy f_x f_standMany f_bestMany f_tail f_round1, (ad 40, .inl (dA 0, 4, .inl b_rowSort))] := hD
    refine lv_if_ne (tgt := 43) (pc := 36) hx hb dX11_write_36 rfl (fun hc => ?_) (fun hc => ?_)
    · have hf := za_f hf hc
      refine lv_aload_n (pc := 43) hx hb dX11_write_43 rfl (lv_at hl 1 rfl) ?_
      refine va_get (pc := 44) (D := (dC, dI)) (ci := 0) (v := .ref (ad 42)) (C := RX11) (T := TX11) (N := 42) hx hb ht zr_lay hown hK hP 2 rfl rfl 41 (by decide) (ht _ zr_33) (fun _ h9 => h9) rfl dX11_write_44 ?_
      refine lv_bipush (v := (40 : Int32)) (pc := 47) hx hb dX11_write_47 (by decide) ?_
      refine lv_iload_n (pc := 49) hx hb dX11_write_49 rfl (lv_at hl 2 rfl) ?_
      refine lv_imul (pc := 50) hx hb dX11_write_50 ?_
      refine lv_iload_n (pc := 51) hx hb dX11_write_51 rfl (lv_at hl 3 rfl) ?_
      refine lv_iadd (pc := 52) hx hb dX11_write_52 ?_
      refine lv_lload_n (pc := 53) hx hb dX11_write_53 rfl (lv_at hl 4 rfl) ?_
      refine lv_aload_n (pc := 54) hx hb dX11_write_54 rfl (lv_at hl 1 rfl) ?_
      refine va_get (pc := 55) (D := (dC, dI)) (ci := 0) (v := .ref (ad 40)) (C := RX11) (T := TX11) (N := 42) hx hb ht zr_lay hown hK hP 2 rfl rfl 39 (by decide) (ht _ zr_31) (fun _ h9 => h9) rfl dX11_write_55 ?_
      refine lv_iload_n (pc := 58) hx hb dX11_write_58 rfl (lv_at hl 2 rfl) ?_
      obtain ⟨v4, hv4, hf⟩ := zc_1 hf
      refine zw_iald (pc := 59) hx hb hK hP 3 0 rfl rfl hv4 dX11_write_59 ?_
      obtain ⟨v5, hv5, hf⟩ := zc_1 hf
      refine zw_Sl (pc := 60) (wc := []) (wr := [(ad 41, .inl (dA 0, 4, .inl b_rowMany)), (ad 42, .inl (dA 1, 160, .inr (.inl b_numbers))), zr_o ad (0 : Int32) f_taped f_at f_behind f_size f_kind f_number f_wrong f_wrongAt f_faultKind f_faultPlace f_reading f_toldWhy f_x f_standMany f_bestMany f_tail f_round1, (ad 40, .inl (dA 0, 4, .inl b_rowSort))]) (w1 := []) (As := [.long p3, .int v4]) (rest := [.int (((40 : Int32) * p1) + p2), .ref (ad 42)]) ⟨hx, hb, hml, hown, ht⟩ (zt_X11_cut l dC dI dA ad _ p3 v4 v5 hv5) (cwS 2 ht (zr_S zr_470 zr_471 zr_36 zr_466) rfl rfl rfl zk_X11_cut ⟨Nat.le_of_ble_eq_true rfl, Nat.le_of_ble_eq_true rfl⟩) hK hP hD hS hA [] [0, 1, 2, 3] (by decide) (by decide) (by decide) rfl rfl rfl hl.1 (Nat.le_of_ble_eq_true rfl) dX11_write_60 ⟨Nat.zero_le _, Nat.zero_le _⟩ rfl (fun H locs hP hD hS => ?_)
      have hP : va_P (dC, dI) zz_cls [(ad 41, .inl (dA 0, 4, .inl b_rowMany)), (ad 42, .inl (dA 1, 160, .inr (.inl b_numbers))), zr_o ad (0 : Int32) f_taped f_at f_behind f_size f_kind f_number f_wrong f_wrongAt f_faultKind f_faultPlace f_reading f_toldWhy f_x f_standMany f_bestMany f_tail f_round1, (ad 40, .inl (dA 0, 4, .inl b_rowSort))] H := hP
      have hD : va_D A [(ad 41, .inl (dA 0, 4, .inl b_rowMany)), (ad 42, .inl (dA 1, 160, .inr (.inl b_numbers))), zr_o ad (0 : Int32) f_taped f_at f_behind f_size f_kind f_number f_wrong f_wrongAt f_faultKind f_faultPlace f_reading f_toldWhy f_x f_standMany f_bestMany f_tail f_round1, (ad 40, .inl (dA 0, 4, .inl b_rowSort))] := hD
      obtain ⟨a6, ha6, hf⟩ := zc_1 hf
      refine zw_last (pc := 63) hx hb hK hP hD hS 1 1 rfl rfl ha6 dX11_write_63 (fun H locs hP hD hS => ?_)
      have hP : va_P (dC, dI) zz_cls [(ad 41, .inl (dA 0, 4, .inl b_rowMany)), (ad 42, .inl (dA 1, 160, .inr (.inl a6))), zr_o ad (0 : Int32) f_taped f_at f_behind f_size f_kind f_number f_wrong f_wrongAt f_faultKind f_faultPlace f_reading f_toldWhy f_x f_standMany f_bestMany f_tail f_round1, (ad 40, .inl (dA 0, 4, .inl b_rowSort))] H := hP
      have hD : va_D A [(ad 41, .inl (dA 0, 4, .inl b_rowMany)), (ad 42, .inl (dA 1, 160, .inr (.inl a6))), zr_o ad (0 : Int32) f_taped f_at f_behind f_size f_kind f_number f_wrong f_wrongAt f_faultKind f_faultPlace f_reading f_toldWhy f_x f_standMany f_bestMany f_tail f_round1, (ad 40, .inl (dA 0, 4, .inl b_rowSort))] := hD
      refine lv_aload_n (pc := 64) hx hb dX11_write_64 rfl (lv_at hl 1 rfl) ?_
      refine va_get (pc := 65) (D := (dC, dI)) (ci := 0) (v := .ref (ad 42)) (C := RX11) (T := TX11) (N := 42) hx hb ht zr_lay hown hK hP 2 rfl rfl 41 (by decide) (ht _ zr_33) (fun _ h9 => h9) rfl dX11_write_65 ?_
      refine lv_bipush (v := (40 : Int32)) (pc := 68) hx hb dX11_write_68 (by decide) ?_
      refine lv_iload_n (pc := 70) hx hb dX11_write_70 rfl (lv_at hl 2 rfl) ?_
      refine lv_imul (pc := 71) hx hb dX11_write_71 ?_
      refine lv_iload_n (pc := 72) hx hb dX11_write_72 rfl (lv_at hl 3 rfl) ?_
      refine lv_iadd (pc := 73) hx hb dX11_write_73 ?_
      obtain ⟨v7, hv7, hf⟩ := zc_1 hf
      refine zw_lald (pc := 74) hx hb hK hP 1 1 rfl rfl hv7 dX11_write_74 ?_
      obtain ⟨rfl, rfl, rfl⟩ := zi_3 hf
      exact W.lret (pc := 75) hx hb hr (fun t ht hW => ⟨⟨_, (), rfl, rfl, zz_Bi (by rw [ht]; exact hP.sub [2, 3, 0, 1] rfl) (va_K.moved hW.alike hK) (hD.sub [2, 3, 0, 1] (by decide) rfl)⟩, hS.F ht⟩) hS.2.2 dX11_write_75
    · have hf := za_t hf hc
      refine lv_ldc2 (v := (-7 : Int64)) (pc := 39) hx hb hown (ht _ zr_469) dX11_write_39 ?_
      obtain ⟨rfl, rfl, rfl⟩ := zi_3 hf
      exact W.lret (pc := 42) hx hb hr (fun t ht hW => ⟨⟨_, (), rfl, rfl, zz_Bi (by rw [ht]; exact hP.sub [2, 3, 0, 1] rfl) (va_K.moved hW.alike hK) (hD.sub [2, 3, 0, 1] (by decide) rfl)⟩, hS.F ht⟩) hS.2.2 dX11_write_42
  · have hf := za_f hf hc
    refine lv_iload (pc := 17) hx hb dX11_write_17 (lv_at hl 0 rfl) ?_
    refine lv_i2l (pc := 19) hx hb dX11_write_19 rfl ?_
    obtain ⟨rfl, rfl, rfl⟩ := zi_3 hf
    exact W.lret (pc := 20) hx hb hr (fun t ht hW => ⟨⟨_, (), rfl, rfl, zz_Bi (by rw [ht]; exact hP.sub [2, 3, 0, 1] rfl) (va_K.moved hW.alike hK) (hD.sub [2, 3, 0, 1] (by decide) rfl)⟩, hS.F ht⟩) hS.2.2 dX11_write_20

def zb_X11_lists_100 (v15 : Int32) (n : Nat) (b_all : (Nat → Int32)) (a10 : (Nat → Int32)) (a11 : (Nat → Int32)) (p1 : Int32) (v16 : Int32) (a17 : (Nat → Int64)) : Option (Nat × Int32 × (Nat → Int64)) :=
  if v15 ≤ v16 then
    some (1, v16, a17)
  else
    zd_1 (zf_X11_deedAt n b_all a10 a11 v16) (fun v18 =>
    zd_1 (za_st a17 160 (((40 : Int32) * p1) + v16) (Int32.toInt64 v18)) (fun a19 =>
    zd_1 (some (v16 + (1 : Int32))) (fun v20 =>
    some (0, v20, a19))))
def zf_X11_lists (n : Nat) (f_thrown : Int32) (f_standMany : Int32) (b_all : (Nat → Int32)) (b_reckoned : (Nat → Int32)) (b_words : (Nat → Int32)) (b_stand : (Nat → Int32)) (b_then : (Nat → Int32)) (b_far : (Nat → Int32)) (b_known : (Nat → Int32)) (b_rowSort : (Nat → Int32)) (b_rowMany : (Nat → Int32)) (b_numbers : (Nat → Int64)) (p1 : Int32) (p2 : Int32) (p3 : Int32) : Option (Int32 × Int32 × Int32 × (Nat → Int32) × (Nat → Int32) × (Nat → Int32) × (Nat → Int32) × (Nat → Int32) × (Nat → Int32) × (Nat → Int64)) :=
  zd_1 (zf_X11_within (Int32.toInt64 p1) (0 : Int64) (3 : Int64)) (fun v1 =>
  if v1 = 0 then
    some ((-2 : Int32), (0 : Int32), f_standMany, b_reckoned, b_words, b_stand, b_then, b_far, b_known, b_numbers)
  else
    zd_1 (zf_X11_isRung b_all p2) (fun v2 =>
    if v2 = 0 then
      some ((-2 : Int32), (0 : Int32), f_standMany, b_reckoned, b_words, b_stand, b_then, b_far, b_known, b_numbers)
    else
      zd_1 (zf_X11_noTray b_rowSort p1) (fun v3 =>
      if v3 = 0 then
        zd_1 (zf_X11_isSet b_all p3) (fun v4 =>
        if v4 = 0 then
          some ((-3 : Int32), (0 : Int32), f_standMany, b_reckoned, b_words, b_stand, b_then, b_far, b_known, b_numbers)
        else
          zd_8 (zf_X11_laysFar n f_standMany b_all b_reckoned b_words b_stand b_then b_far b_known p2 p3) (fun v5 v6 a7 a8 a9 a10 a11 a12 =>
          if v5 = (268435456 : Int32) then
            some ((-5 : Int32), (0 : Int32), v6, a7, a8, a9, a10, a11, a12, b_numbers)
          else
            zd_1 (za_ld b_rowMany 4 p1) (fun v13 =>
            zd_1 (
              if v13 ≤ v5 then
                zd_1 (za_ld b_rowMany 4 p1) (fun v14 =>
                some v14)
              else
                some v5) (fun v15 =>
            zd_3 (za_it (fun v => zb_X11_lists_100 v15 n b_all a10 a11 p1 v.1 v.2) n ((0 : Int32), b_numbers)) (fun g23 v21 a22 =>
            some (v15, (0 : Int32), v6, a7, a8, a9, a10, a11, a12, a22))))))
      else
        some (v3, (0 : Int32), f_standMany, b_reckoned, b_words, b_stand, b_then, b_far, b_known, b_numbers))))
theorem zk_X11_lists : yX11_lists.cls = RX11 ∧ yX11_lists.cls ≠ "java/lang/invoke/MethodHandle" ∧ yX11_lists.cls ≠ "java/lang/invoke/VarHandle" ∧ (parseMethodDescriptor yX11_lists.desc).map (fun d => d.parameters.length) = some 3 := by decide +kernel
set_option maxHeartbeats 4000000 in
set_option maxRecDepth 100000 in
theorem zt_X11_lists (l : Launch) (dC : Nat → ClassId) (dI : Nat → Nat → Nat) (dA : Nat → ClassId) (ad : Nat → Nat) (sz : Nat) (n : Nat) (f_thrown f_taped f_at f_behind f_size f_kind f_number f_wrong f_wrongAt f_faultKind f_faultPlace f_reading f_toldWhy f_x f_standMany f_bestMany f_tail f_round1 : Int32) (b_all : (Nat → Int32)) (b_reckoned : (Nat → Int32)) (b_words : (Nat → Int32)) (b_stand : (Nat → Int32)) (b_then : (Nat → Int32)) (b_far : (Nat → Int32)) (b_known : (Nat → Int32)) (b_rowSort : (Nat → Int32)) (b_rowMany : (Nat → Int32)) (b_numbers : (Nat → Int64)) (p1 : Int32) (p2 : Int32) (p3 : Int32) (r0 : Int32) (o1 : Int32) (o2 : Int32) (o3 : (Nat → Int32)) (o4 : (Nat → Int32)) (o5 : (Nat → Int32)) (o6 : (Nat → Int32)) (o7 : (Nat → Int32)) (o8 : (Nat → Int32)) (o9 : (Nat → Int64)) (hf : zf_X11_lists n f_thrown f_standMany b_all b_reckoned b_words b_stand b_then b_far b_known b_rowSort b_rowMany b_numbers p1 p2 p3 = some (r0, o1, o2, o3, o4, o5, o6, o7, o8, o9)) : Met l yX11_lists (.code yX11_lists cX11_lists 8 (some .int) :: zr_T) ({ frames := 6, cells := 0, slots := 0, locals := 148 }) (va_Pc [.ref (ad 0), .int p1, .int p2, .int p3] (zz_M dC dI dA [zr_o ad f_thrown f_taped f_at f_behind f_size f_kind f_number f_wrong f_wrongAt f_faultKind f_faultPlace f_reading f_toldWhy f_x f_standMany f_bestMany f_tail f_round1, (ad 2, .inl (dA 0, 2982, .inl b_all)), (ad 17, .inl (dA 0, 900, .inl b_reckoned)), (ad 18, .inl (dA 0, 6, .inl b_words)), (ad 22, .inl (dA 0, 2880, .inl b_stand)), (ad 23, .inl (dA 0, 43200, .inl b_then)), (ad 24, .inl (dA 0, 2880, .inl b_far)), (ad 25, .inl (dA 2, 2880, .inl b_known)), (ad 40, .inl (dA 0, 4, .inl b_rowSort)), (ad 41, .inl (dA 0, 4, .inl b_rowMany)), (ad 42, .inl (dA 1, 160, .inr (.inl b_numbers)))] sz)) (va_Qi (fun (r : Int32) (_ : Unit) => r = r0) (fun _ t => zz_B dC dI dA (va_A [zr_o ad f_thrown f_taped f_at f_behind f_size f_kind f_number f_wrong f_wrongAt f_faultKind f_faultPlace f_reading f_toldWhy f_x f_standMany f_bestMany f_tail f_round1, (ad 2, .inl (dA 0, 2982, .inl b_all)), (ad 17, .inl (dA 0, 900, .inl b_reckoned)), (ad 18, .inl (dA 0, 6, .inl b_words)), (ad 22, .inl (dA 0, 2880, .inl b_stand)), (ad 23, .inl (dA 0, 43200, .inl b_then)), (ad 24, .inl (dA 0, 2880, .inl b_far)), (ad 25, .inl (dA 2, 2880, .inl b_known)), (ad 40, .inl (dA 0, 4, .inl b_rowSort)), (ad 41, .inl (dA 0, 4, .inl b_rowMany)), (ad 42, .inl (dA 1, 160, .inr (.inl b_numbers)))] sz) [zr_o ad o1 f_taped f_at f_behind f_size f_kind f_number f_wrong f_wrongAt f_faultKind f_faultPlace f_reading f_toldWhy f_x o2 f_bestMany f_tail f_round1, (ad 2, .inl (dA 0, 2982, .inl b_all)), (ad 17, .inl (dA 0, 900, .inl o3)), (ad 18, .inl (dA 0, 6, .inl o4)), (ad 22, .inl (dA 0, 2880, .inl o5)), (ad 23, .inl (dA 0, 43200, .inl o6)), (ad 24, .inl (dA 0, 2880, .inl o7)), (ad 25, .inl (dA 2, 2880, .inl o8)), (ad 40, .inl (dA 0, 4, .inl b_rowSort)), (ad 41, .inl (dA 0, 4, .inl b_rowMany)), (ad 42, .inl (dA 1, 160, .inr (.inl o9)))] t) (va_A [zr_o ad f_thrown f_taped f_at f_behind f_size f_kind f_number f_wrong f_wrongAt f_faultKind f_faultPlace f_reading f_toldWhy f_x f_standMany f_bestMany f_tail f_round1, (ad 2, .inl (dA 0, 2982, .inl b_all)), (ad 17, .inl (dA 0, 900, .inl b_reckoned)), (ad 18, .inl (dA 0, 6, .inl b_words)), (ad 22, .inl (dA 0, 2880, .inl b_stand)), (ad 23, .inl (dA 0, 43200, .inl b_then)), (ad 24, .inl (dA 0, 2880, .inl b_far)), (ad 25, .inl (dA 2, 2880, .inl b_known)), (ad 40, .inl (dA 0, 4, .inl b_rowSort)), (ad 41, .inl (dA 0, 4, .inl b_rowMany)), (ad 42, .inl (dA 1, 160, .inr (.inl b_numbers)))] sz)) 0 0 (va_A [zr_o ad f_thrown f_taped f_at f_behind f_size f_kind f_number f_wrong f_wrongAt f_faultKind f_faultPlace f_reading f_toldWhy f_x f_standMany f_bestMany f_tail f_round1, (ad 2, .inl (dA 0, 2982, .inl b_all)), (ad 17, .inl (dA 0, 900, .inl b_reckoned)), (ad 18, .inl (dA 0, 6, .inl b_words)), (ad 22, .inl (dA 0, 2880, .inl b_stand)), (ad 23, .inl (dA 0, 43200, .inl b_then)), (ad 24, .inl (dA 0, 2880, .inl b_far)), (ad 25, .inl (dA 2, 2880, .inl b_known)), (ad 40, .inl (dA 0, 4, .inl b_rowSort)), (ad 41, .inl (dA 0, 4, .inl b_rowMany)), (ad 42, .inl (dA 1, 160, .inr (.inl b_numbers)))] sz) := by
  unfold zf_X11_lists at hf
  refine Met.ofW (cc := cX11_lists) (maxL := 8) (ret := (some .int)) (by decide) rfl ?_
  intro p e s m args below meth c s₁ B hml hv
  obtain ⟨rfl, hsz, hP, hK, hD0⟩ := hv
  have hx := B.exec
  have hb := B.bytes
  have hr := B.returns
  have ht : ∀ w ∈ zr_T, w.before ([.ref (ad 0), .int p1, .int p2, .int p3] : List Value).toArray s = true := fun w hw => atoms_spec (ws := .code yX11_lists cX11_lists 8 (some .int) :: zr_T) B.pre w (List.mem_cons_of_mem _ hw)
  have hown : s.vm.findClass RX11 = some m.cls := findClass_of_methodNamed B.named
  have hlocks := B.notSynchronized
  subst hsz
  have hD := hD0.self (sz := s.heap.size)
  generalize hAe : va_A [zr_o ad f_thrown f_taped f_at f_behind f_size f_kind f_number f_wrong f_wrongAt f_faultKind f_faultPlace f_reading f_toldWhy f_x f_standMany f_bestMany f_tail f_round1, (ad 2, .inl (dA 0, 2982, .inl b_all)), (ad 17, .inl (dA 0, 900, .inl b_reckoned)), (ad 18, .inl (dA 0, 6, .inl b_words)), (ad 22, .inl (dA 0, 2880, .inl b_stand)), (ad 23, .inl (dA 0, 43200, .inl b_then)), (ad 24, .inl (dA 0, 2880, .inl b_far)), (ad 25, .inl (dA 2, 2880, .inl b_known)), (ad 40, .inl (dA 0, 4, .inl b_rowSort)), (ad 41, .inl (dA 0, 4, .inl b_rowMany)), (ad 42, .inl (dA 1, 160, .inr (.inl b_numbers)))] s.heap.size = A at hD ⊢
  have hA : ∀ q : Nat, s.heap.size ≤ q → A q := fun q h => by rw [← hAe]; exact Or.inr h
  clear hAe hD0
  have hS : va_S A s.heap s.heap [] := va_S.rf
  have hl := lv_entry ([.ref (ad 0), .int p1, .int p2, .int p3]) (n := 8) (Nat.le_of_ble_eq_true rfl)
  rw [lg_entry_eq]
  generalize (lg_sl ([.ref (ad 0), .int p1, .int p2, .int p3]) ++ List.replicate (8 - (lg_sl ([.ref (ad 0), .int p1, .int p2, .int p3])).length) Slot.unset).toArray = ls at hl ⊢
  have hl : lv_has ls 8 [(0, .ref (ad 0)), (1, .int p1), (2, .int p2), (3, .int p3)] := hl
  refine lv_aload_n (pc := 0) hx hb dX11_lists_0 rfl (lv_at hl 0 rfl) ?_
  refine lv_iconst (v := (0 : Int32)) (pc := 1) hx hb dX11_lists_1 (by decide) ?_
  refine va_put (pc := 2) (D := (dC, dI)) (ci := 0) (v := .int (0 : Int32)) (ty := .int) (C := RX11) (T := TX11) (N := 42) hx hb ht zr_lay tyX11 tyX11_ok nmX11 hown hK hP hD hS 0 rfl rfl 0 (by decide) (ht _ zr_39) (fun _ h9 => h9) rfl (by decide +kernel) rfl rfl (Nat.le_of_ble_eq_true rfl) dX11_lists_2 (fun H locs hP hD hS => ?_)
  have hP : va_P (dC, dI) zz_cls [zr_o ad (0 : Int32) f_taped f_at f_behind f_size f_kind f_number f_wrong f_wrongAt f_faultKind f_faultPlace f_reading f_toldWhy f_x f_standMany f_bestMany f_tail f_round1, (ad 2, .inl (dA 0, 2982, .inl b_all)), (ad 17, .inl (dA 0, 900, .inl b_reckoned)), (ad 18, .inl (dA 0, 6, .inl b_words)), (ad 22, .inl (dA 0, 2880, .inl b_stand)), (ad 23, .inl (dA 0, 43200, .inl b_then)), (ad 24, .inl (dA 0, 2880, .inl b_far)), (ad 25, .inl (dA 2, 2880, .inl b_known)), (ad 40, .inl (dA 0, 4, .inl b_rowSort)), (ad 41, .inl (dA 0, 4, .inl b_rowMany)), (ad 42, .inl (dA 1, 160, .inr (.inl b_numbers)))] H := hP
  have hD : va_D A [zr_o ad (0 : Int32) f_taped f_at f_behind f_size f_kind f_number f_wrong f_wrongAt f_faultKind f_faultPlace f_reading f_toldWhy f_x f_standMany f_bestMany f_tail f_round1, (ad 2, .inl (dA 0, 2982, .inl b_all)), (ad 17, .inl (dA 0, 900, .inl b_reckoned)), (ad 18, .inl (dA 0, 6, .inl b_words)), (ad 22, .inl (dA 0, 2880, .inl b_stand)), (ad 23, .inl (dA 0, 43200, .inl b_then)), (ad 24, .inl (dA 0, 2880, .inl b_far)), (ad 25, .inl (dA 2, 2880, .inl b_known)), (ad 40, .inl (dA 0, 4, .inl b_rowSort)), (ad 41, .inl (dA 0, 4, .inl b_rowMany)), (ad 42, .inl (dA 1, 160, .inr (.inl b_numbers)))] := hD
  refine lv_iload_n (pc := 5) hx hb dX11_lists_5 rfl (lv_at hl 1 rfl) ?_
  refine lv_i2l (pc := 6) hx hb dX11_lists_6 rfl ?_
  refine lv_lconst (v := (0 : Int64)) (pc := 7) hx hb dX11_lists_7 (by decide) ?_
  refine lv_ldc2 (v := (3 : Int64)) (pc := 8) hx hb hown (ht _ zr_315) dX11_lists_8 ?_
  obtain ⟨v1, hv1, hf⟩ := zc_1 hf
  refine zw_Si (pc := 11) (wc := []) (wr := [zr_o ad (0 : Int32) f_taped f_at f_behind f_size f_kind f_number f_wrong f_wrongAt f_faultKind f_faultPlace f_reading f_toldWhy f_x f_standMany f_bestMany f_tail f_round1, (ad 2, .inl (dA 0, 2982, .inl b_all)), (ad 17, .inl (dA 0, 900, .inl b_reckoned)), (ad 18, .inl (dA 0, 6, .inl b_words)), (ad 22, .inl (dA 0, 2880, .inl b_stand)), (ad 23, .inl (dA 0, 43200, .inl b_then)), (ad 24, .inl (dA 0, 2880, .inl b_far)), (ad 25, .inl (dA 2, 2880, .inl b_known)), (ad 40, .inl (dA 0, 4, .inl b_rowSort)), (ad 41, .inl (dA 0, 4, .inl b_rowMany)), (ad 42, .inl (dA 1, 160, .inr (.inl b_numbers)))]) (w1 := []) (As := [.long (Int32.toInt64 p1), .long (0 : Int64), .long (3 : Int64)]) (rest := []) ⟨hx, hb, hml, hown, ht⟩ (zt_X11_within l dC dI dA ad _ (Int32.toInt64 p1) (0 : Int64) (3 : Int64) v1 hv1) (cwS 3 ht (zr_S zr_124 zr_125 zr_36 zr_0) rfl rfl rfl zk_X11_within ⟨Nat.le_of_ble_eq_true rfl, Nat.le_of_ble_eq_true rfl⟩) hK hP hD hS hA [] [0, 1, 2, 3, 4, 5, 6, 7, 8, 9, 10] (by decide) (by decide) (by decide) rfl rfl rfl hl.1 (Nat.le_of_ble_eq_true rfl) dX11_lists_11 ⟨Nat.zero_le _, Nat.zero_le _⟩ rfl (fun H locs hP hD hS => ?_)
  have hP : va_P (dC, dI) zz_cls [zr_o ad (0 : Int32) f_taped f_at f_behind f_size f_kind f_number f_wrong f_wrongAt f_faultKind f_faultPlace f_reading f_toldWhy f_x f_standMany f_bestMany f_tail f_round1, (ad 2, .inl (dA 0, 2982, .inl b_all)), (ad 17, .inl (dA 0, 900, .inl b_reckoned)), (ad 18, .inl (dA 0, 6, .inl b_words)), (ad 22, .inl (dA 0, 2880, .inl b_stand)), (ad 23, .inl (dA 0, 43200, .inl b_then)), (ad 24, .inl (dA 0, 2880, .inl b_far)), (ad 25, .inl (dA 2, 2880, .inl b_known)), (ad 40, .inl (dA 0, 4, .inl b_rowSort)), (ad 41, .inl (dA 0, 4, .inl b_rowMany)), (ad 42, .inl (dA 1, 160, .inr (.inl b_numbers)))] H := hP
  have hD : va_D A [zr_o ad (0 : Int32) f_taped f_at f_behind f_size f_kind f_number f_wrong f_wrongAt f_faultKind f_faultPlace f_reading f_toldWhy f_x f_standMany f_bestMany f_tail f_round1, (ad 2, .inl (dA 0, 2982, .inl b_all)), (ad 17, .inl (dA 0, 900, .inl b_reckoned)), (ad 18, .inl (dA 0, 6, .inl b_words)), (ad 22, .inl (dA 0, 2880, .inl b_stand)), (ad 23, .inl (dA 0, 43200, .inl b_then)), (ad 24, .inl (dA 0, 2880, .inl b_far)), (ad 25, .inl (dA 2, 2880, .inl b_known)), (ad 40, .inl (dA 0, 4, .inl b_rowSort)), (ad 41, .inl (dA 0, 4, .inl b_rowMany)), (ad 42, .inl (dA 1, 160, .inr (.inl b_numbers)))] := hD
  refine lv_if_eq (tgt := 25) (pc := 14) hx hb dX11_lists_14 rfl (fun hc => ?_) (fun hc => ?_)
  · have hf := za_t hf hc
    refine lv_bipush (v := (-2 : Int32)) (pc := 25) hx hb dX11_lists_25 (by decide) ?_
    obtain ⟨rfl, rfl, rfl, rfl, rfl, rfl, rfl, rfl, rfl, rfl⟩ := zi_10 hf
    exact W.iret (pc := 27) hx hb hr (fun t ht hW => ⟨⟨_, (), rfl, rfl, zz_Bi (by rw [ht]; exact hP) (va_K.moved hW.alike hK) (hD)⟩, hS.F ht⟩) hS.2.2 dX11_lists_27
  · have hf := za_f hf hc
    refine lv_aload_n (pc := 17) hx hb dX11_lists_17 rfl (lv_at hl 0 rfl) ?_
    refine lv_iload_n (pc := 18) hx hb dX11_lists_18 rfl (lv_at hl 2 rfl) ?_
    obtain ⟨v2, hv2, hf⟩ := zc_1 hf
    refine zw_Vi (pc := 19) (wc := [zr_o ad (0 : Int32) f_taped f_at f_behind f_size f_kind f_number f_wrong f_wrongAt f_faultKind f_faultPlace f_reading f_toldWhy f_x f_standMany f_bestMany f_tail f_round1, (ad 2, .inl (dA 0, 2982, .inl b_all))]) (wr := [(ad 17, .inl (dA 0, 900, .inl b_reckoned)), (ad 18, .inl (dA 0, 6, .inl b_words)), (ad 22, .inl (dA 0, 2880, .inl b_stand)), (ad 23, .inl (dA 0, 43200, .inl b_then)), (ad 24, .inl (dA 0, 2880, .inl b_far)), (ad 25, .inl (dA 2, 2880, .inl b_known)), (ad 40, .inl (dA 0, 4, .inl b_rowSort)), (ad 41, .inl (dA 0, 4, .inl b_rowMany)), (ad 42, .inl (dA 1, 160, .inr (.inl b_numbers)))]) (w1 := [zr_o ad (0 : Int32) f_taped f_at f_behind f_size f_kind f_number f_wrong f_wrongAt f_faultKind f_faultPlace f_reading f_toldWhy f_x f_standMany f_bestMany f_tail f_round1, (ad 2, .inl (dA 0, 2982, .inl b_all))]) (As := [.int p2]) (rest := []) ⟨hx, hb, hml, hown, ht⟩ (zt_X11_isRung l dC dI dA ad _ (0 : Int32) f_taped f_at f_behind f_size f_kind f_number f_wrong f_wrongAt f_faultKind f_faultPlace f_reading f_toldWhy f_x f_standMany f_bestMany f_tail f_round1 b_all p2 v2 hv2) (cwV 1 ht (zr_V zr_255 zr_256 zr_257 zr_36 zr_206) rfl rfl rfl zk_X11_isRung ⟨Nat.le_of_ble_eq_true rfl, Nat.le_of_ble_eq_true rfl⟩) rfl rfl hK hP hD hS hA [0, 1] [2, 3, 4, 5, 6, 7, 8, 9, 10] (by decide) (by decide) (by decide) rfl rfl rfl hl.1 (Nat.le_of_ble_eq_true rfl) dX11_lists_19 ⟨Nat.zero_le _, Nat.zero_le _⟩ rfl (fun H locs hP hD hS => ?_)
    have hP : va_P (dC, dI) zz_cls [(ad 17, .inl (dA 0, 900, .inl b_reckoned)), (ad 18, .inl (dA 0, 6, .inl b_words)), (ad 22, .inl (dA 0, 2880, .inl b_stand)), (ad 23, .inl (dA 0, 43200, .inl b_then)), (ad 24, .inl (dA 0, 2880, .inl b_far)), (ad 25, .inl (dA 2, 2880, .inl b_known)), (ad 40, .inl (dA 0, 4, .inl b_rowSort)), (ad 41, .inl (dA 0, 4, .inl b_rowMany)), (ad 42, .inl (dA 1, 160, .inr (.inl b_numbers))), zr_o ad (0 : Int32) f_taped f_at f_behind f_size f_kind f_number f_wrong f_wrongAt f_faultKind f_faultPlace f_reading f_toldWhy f_x f_standMany f_bestMany f_tail f_round1, (ad 2, .inl (dA 0, 2982, .inl b_all))] H := hP
    have hD : va_D A [(ad 17, .inl (dA 0, 900, .inl b_reckoned)), (ad 18, .inl (dA 0, 6, .inl b_words)), (ad 22, .inl (dA 0, 2880, .inl b_stand)), (ad 23, .inl (dA 0, 43200, .inl b_then)), (ad 24, .inl (dA 0, 2880, .inl b_far)), (ad 25, .inl (dA 2, 2880, .inl b_known)), (ad 40, .inl (dA 0, 4, .inl b_rowSort)), (ad 41, .inl (dA 0, 4, .inl b_rowMany)), (ad 42, .inl (dA 1, 160, .inr (.inl b_numbers))), zr_o ad (0 : Int32) f_taped f_at f_behind f_size f_kind f_number f_wrong f_wrongAt f_faultKind f_faultPlace f_reading f_toldWhy f_x f_standMany f_bestMany f_tail f_round1, (ad 2, .inl (dA 0, 2982, .inl b_all))] := hD
    refine lv_if_ne (tgt := 28) (pc := 22) hx hb dX11_lists_22 rfl (fun hc => ?_) (fun hc => ?_)
    · have hf := za_f hf hc
      refine lv_aload_n (pc := 28) hx hb dX11_lists_28 rfl (lv_at hl 0 rfl) ?_
      refine lv_iload_n (pc := 29) hx hb dX11_lists_29 rfl (lv_at hl 1 rfl) ?_
      obtain ⟨v3, hv3, hf⟩ := zc_1 hf
      refine zw_Vi (pc := 30) (wc := [zr_o ad (0 : Int32) f_taped f_at f_behind f_size f_kind f_number f_wrong f_wrongAt f_faultKind f_faultPlace f_reading f_toldWhy f_x f_standMany f_bestMany f_tail f_round1, (ad 40, .inl (dA 0, 4, .inl b_rowSort))]) (wr := [(ad 17, .inl (dA 0, 900, .inl b_reckoned)), (ad 18, .inl (dA 0, 6, .inl b_words)), (ad 22, .inl (dA 0, 2880, .inl b_stand)), (ad 23, .inl (dA 0, 43200, .inl b_then)), (ad 24, .inl (dA 0, 2880, .inl b_far)), (ad 25, .inl (dA 2, 2880, .inl b_known)), (ad 41, .inl (dA 0, 4, .inl b_rowMany)), (ad 42, .inl (dA 1, 160, .inr (.inl b_numbers))), (ad 2, .inl (dA 0, 2982, .inl b_all))]) (w1 := [zr_o ad (0 : Int32) f_taped f_at f_behind f_size f_kind f_number f_wrong f_wrongAt f_faultKind f_faultPlace f_reading f_toldWhy f_x f_standMany f_bestMany f_tail f_round1, (ad 40, .inl (dA 0, 4, .inl b_rowSort))]) (As := [.int p1]) (rest := []) ⟨hx, hb, hml, hown, ht⟩ (zt_X11_noTray l dC dI dA ad _ (0 : Int32) f_taped f_at f_behind f_size f_kind f_number f_wrong f_wrongAt f_faultKind f_faultPlace f_reading f_toldWhy f_x f_standMany f_bestMany f_tail f_round1 b_rowSort p1 v3 hv3) (cwV 1 ht (zr_V zr_316 zr_317 zr_318 zr_36 zr_314) rfl rfl rfl zk_X11_noTray ⟨Nat.le_of_ble_eq_true rfl, Nat.le_of_ble_eq_true rfl⟩) rfl rfl hK hP hD hS hA [9, 6] [0, 1, 2, 3, 4, 5, 7, 8, 10] (by decide) (by decide) (by decide) rfl rfl rfl hl.1 (Nat.le_of_ble_eq_true rfl) dX11_lists_30 ⟨Nat.zero_le _, Nat.zero_le _⟩ rfl (fun H locs hP hD hS => ?_)
      have hP : va_P (dC, dI) zz_cls [(ad 17, .inl (dA 0, 900, .inl b_reckoned)), (ad 18, .inl (dA 0, 6, .inl b_words)), (ad 22, .inl (dA 0, 2880, .inl b_stand)), (ad 23, .inl (dA 0, 43200, .inl b_then)), (ad 24, .inl (dA 0, 2880, .inl b_far)), (ad 25, .inl (dA 2, 2880, .inl b_known)), (ad 41, .inl (dA 0, 4, .inl b_rowMany)), (ad 42, .inl (dA 1, 160, .inr (.inl b_numbers))), (ad 2, .inl (dA 0, 2982, .inl b_all)), zr_o ad (0 : Int32) f_taped f_at f_behind f_size f_kind f_number f_wrong f_wrongAt f_faultKind f_faultPlace f_reading f_toldWhy f_x f_standMany f_bestMany f_tail f_round1, (ad 40, .inl (dA 0, 4, .inl b_rowSort))] H := hP
      have hD : va_D A [(ad 17, .inl (dA 0, 900, .inl b_reckoned)), (ad 18, .inl (dA 0, 6, .inl b_words)), (ad 22, .inl (dA 0, 2880, .inl b_stand)), (ad 23, .inl (dA 0, 43200, .inl b_then)), (ad 24, .inl (dA 0, 2880, .inl b_far)), (ad 25, .inl (dA 2, 2880, .inl b_known)), (ad 41, .inl (dA 0, 4, .inl b_rowMany)), (ad 42, .inl (dA 1, 160, .inr (.inl b_numbers))), (ad 2, .inl (dA 0, 2982, .inl b_all)), zr_o ad (0 : Int32) f_taped f_at f_behind f_size f_kind f_number f_wrong f_wrongAt f_faultKind f_faultPlace f_reading f_toldWhy f_x f_standMany f_bestMany f_tail f_round1, (ad 40, .inl (dA 0, 4, .inl b_rowSort))] := hD
      refine lv_istore (lv' := [(4, .int v3), (0, .ref (ad 0)), (1, .int p1), (2, .int p2), (3, .int p3)]) (pc := 33) hx hb dX11_lists_33 hl (by decide) rfl (fun ls hl => ?_)
      refine lv_iload (pc := 35) hx hb dX11_lists_35 (lv_at hl 0 rfl) ?_
      refine lv_if_eq (tgt := 43) (pc := 37) hx hb dX11_lists_37 rfl (fun hc => ?_) (fun hc => ?_)
      · have hf := za_t hf hc
        refine lv_aload_n (pc := 43) hx hb dX11_lists_43 rfl (lv_at hl 1 rfl) ?_
        refine lv_iload_n (pc := 44) hx hb dX11_lists_44 rfl (lv_at hl 4 rfl) ?_
        obtain ⟨v4, hv4, hf⟩ := zc_1 hf
        refine zw_Vi (pc := 45) (wc := [zr_o ad (0 : Int32) f_taped f_at f_behind f_size f_kind f_number f_wrong f_wrongAt f_faultKind f_faultPlace f_reading f_toldWhy f_x f_standMany f_bestMany f_tail f_round1, (ad 2, .inl (dA 0, 2982, .inl b_all))]) (wr := [(ad 17, .inl (dA 0, 900, .inl b_reckoned)), (ad 18, .inl (dA 0, 6, .inl b_words)), (ad 22, .inl (dA 0, 2880, .inl b_stand)), (ad 23, .inl (dA 0, 43200, .inl b_then)), (ad 24, .inl (dA 0, 2880, .inl b_far)), (ad 25, .inl (dA 2, 2880, .inl b_known)), (ad 41, .inl (dA 0, 4, .inl b_rowMany)), (ad 42, .inl (dA 1, 160, .inr (.inl b_numbers))), (ad 40, .inl (dA 0, 4, .inl b_rowSort))]) (w1 := [zr_o ad (0 : Int32) f_taped f_at f_behind f_size f_kind f_number f_wrong f_wrongAt f_faultKind f_faultPlace f_reading f_toldWhy f_x f_standMany f_bestMany f_tail f_round1, (ad 2, .inl (dA 0, 2982, .inl b_all))]) (As := [.int p3]) (rest := []) ⟨hx, hb, hml, hown, ht⟩ (zt_X11_isSet l dC dI dA ad _ (0 : Int32) f_taped f_at f_behind f_size f_kind f_number f_wrong f_wrongAt f_faultKind f_faultPlace f_reading f_toldWhy f_x f_standMany f_bestMany f_tail f_round1 b_all p3 v4 hv4) (cwV 1 ht (zr_V zr_364 zr_365 zr_366 zr_36 zr_208) rfl rfl rfl zk_X11_isSet ⟨Nat.le_of_ble_eq_true rfl, Nat.le_of_ble_eq_true rfl⟩) rfl rfl hK hP hD hS hA [9, 8] [0, 1, 2, 3, 4, 5, 6, 7, 10] (by decide) (by decide) (by decide) rfl rfl rfl hl.1 (Nat.le_of_ble_eq_true rfl) dX11_lists_45 ⟨Nat.zero_le _, Nat.zero_le _⟩ rfl (fun H locs hP hD hS => ?_)
        have hP : va_P (dC, dI) zz_cls [(ad 17, .inl (dA 0, 900, .inl b_reckoned)), (ad 18, .inl (dA 0, 6, .inl b_words)), (ad 22, .inl (dA 0, 2880, .inl b_stand)), (ad 23, .inl (dA 0, 43200, .inl b_then)), (ad 24, .inl (dA 0, 2880, .inl b_far)), (ad 25, .inl (dA 2, 2880, .inl b_known)), (ad 41, .inl (dA 0, 4, .inl b_rowMany)), (ad 42, .inl (dA 1, 160, .inr (.inl b_numbers))), (ad 40, .inl (dA 0, 4, .inl b_rowSort)), zr_o ad (0 : Int32) f_taped f_at f_behind f_size f_kind f_number f_wrong f_wrongAt f_faultKind f_faultPlace f_reading f_toldWhy f_x f_standMany f_bestMany f_tail f_round1, (ad 2, .inl (dA 0, 2982, .inl b_all))] H := hP
        have hD : va_D A [(ad 17, .inl (dA 0, 900, .inl b_reckoned)), (ad 18, .inl (dA 0, 6, .inl b_words)), (ad 22, .inl (dA 0, 2880, .inl b_stand)), (ad 23, .inl (dA 0, 43200, .inl b_then)), (ad 24, .inl (dA 0, 2880, .inl b_far)), (ad 25, .inl (dA 2, 2880, .inl b_known)), (ad 41, .inl (dA 0, 4, .inl b_rowMany)), (ad 42, .inl (dA 1, 160, .inr (.inl b_numbers))), (ad 40, .inl (dA 0, 4, .inl b_rowSort)), zr_o ad (0 : Int32) f_taped f_at f_behind f_size f_kind f_number f_wrong f_wrongAt f_faultKind f_faultPlace f_reading f_toldWhy f_x f_standMany f_bestMany f_tail f_round1, (ad 2, .inl (dA 0, 2982, .inl b_all))] := hD
        refine lv_if_ne (tgt := 54) (pc := 48) hx hb dX11_lists_48 rfl (fun hc => ?_) (fun hc => ?_)
        · have hf := za_f hf hc
          refine lv_aload_n (pc := 54) hx hb dX11_lists_54 rfl (lv_at hl 1 rfl) ?_
          refine lv_iload_n (pc := 55) hx hb dX11_lists_55 rfl (lv_at hl 3 rfl) ?_
          refine lv_iload_n (pc := 56) hx hb dX11_lists_56 rfl (lv_at hl 4 rfl) ?_
          obtain ⟨v5, v6, a7, a8, a9, a10, a11, a12, hv5, hf⟩ := zc_8 hf
          refine zw_Vi (pc := 57) (wc := [zr_o ad (0 : Int32) f_taped f_at f_behind f_size f_kind f_number f_wrong f_wrongAt f_faultKind f_faultPlace f_reading f_toldWhy f_x f_standMany f_bestMany f_tail f_round1, (ad 2, .inl (dA 0, 2982, .inl b_all)), (ad 17, .inl (dA 0, 900, .inl b_reckoned)), (ad 18, .inl (dA 0, 6, .inl b_words)), (ad 22, .inl (dA 0, 2880, .inl b_stand)), (ad 23, .inl (dA 0, 43200, .inl b_then)), (ad 24, .inl (dA 0, 2880, .inl b_far)), (ad 25, .inl (dA 2, 2880, .inl b_known))]) (wr := [(ad 41, .inl (dA 0, 4, .inl b_rowMany)), (ad 42, .inl (dA 1, 160, .inr (.inl b_numbers))), (ad 40, .inl (dA 0, 4, .inl b_rowSort))]) (w1 := [zr_o ad (0 : Int32) f_taped f_at f_behind f_size f_kind f_number f_wrong f_wrongAt f_faultKind f_faultPlace f_reading f_toldWhy f_x v6 f_bestMany f_tail f_round1, (ad 2, .inl (dA 0, 2982, .inl b_all)), (ad 17, .inl (dA 0, 900, .inl a7)), (ad 18, .inl (dA 0, 6, .inl a8)), (ad 22, .inl (dA 0, 2880, .inl a9)), (ad 23, .inl (dA 0, 43200, .inl a10)), (ad 24, .inl (dA 0, 2880, .inl a11)), (ad 25, .inl (dA 2, 2880, .inl a12))]) (As := [.int p2, .int p3]) (rest := []) ⟨hx, hb, hml, hown, ht⟩ (zt_X11_laysFar l dC dI dA ad _ n (0 : Int32) f_taped f_at f_behind f_size f_kind f_number f_wrong f_wrongAt f_faultKind f_faultPlace f_reading f_toldWhy f_x f_standMany f_bestMany f_tail f_round1 b_all b_reckoned b_words b_stand b_then b_far b_known p2 p3 v5 v6 a7 a8 a9 a10 a11 a12 hv5) (cwV 2 ht (zr_V zr_373 zr_374 zr_375 zr_36 zr_362) rfl rfl rfl zk_X11_laysFar ⟨Nat.le_of_ble_eq_true rfl, Nat.le_of_ble_eq_true rfl⟩) rfl rfl hK hP hD hS hA [9, 10, 0, 1, 2, 3, 4, 5] [6, 7, 8] (by decide) (by decide) (by decide) rfl rfl rfl hl.1 (Nat.le_of_ble_eq_true rfl) dX11_lists_57 ⟨Nat.zero_le _, Nat.zero_le _⟩ rfl (fun H locs hP hD hS => ?_)
          have hP : va_P (dC, dI) zz_cls [(ad 41, .inl (dA 0, 4, .inl b_rowMany)), (ad 42, .inl (dA 1, 160, .inr (.inl b_numbers))), (ad 40, .inl (dA 0, 4, .inl b_rowSort)), zr_o ad (0 : Int32) f_taped f_at f_behind f_size f_kind f_number f_wrong f_wrongAt f_faultKind f_faultPlace f_reading f_toldWhy f_x v6 f_bestMany f_tail f_round1, (ad 2, .inl (dA 0, 2982, .inl b_all)), (ad 17, .inl (dA 0, 900, .inl a7)), (ad 18, .inl (dA 0, 6, .inl a8)), (ad 22, .inl (dA 0, 2880, .inl a9)), (ad 23, .inl (dA 0, 43200, .inl a10)), (ad 24, .inl (dA 0, 2880, .inl a11)), (ad 25, .inl (dA 2, 2880, .inl a12))] H := hP
          have hD : va_D A [(ad 41, .inl (dA 0, 4, .inl b_rowMany)), (ad 42, .inl (dA 1, 160, .inr (.inl b_numbers))), (ad 40, .inl (dA 0, 4, .inl b_rowSort)), zr_o ad (0 : Int32) f_taped f_at f_behind f_size f_kind f_number f_wrong f_wrongAt f_faultKind f_faultPlace f_reading f_toldWhy f_x v6 f_bestMany f_tail f_round1, (ad 2, .inl (dA 0, 2982, .inl b_all)), (ad 17, .inl (dA 0, 900, .inl a7)), (ad 18, .inl (dA 0, 6, .inl a8)), (ad 22, .inl (dA 0, 2880, .inl a9)), (ad 23, .inl (dA 0, 43200, .inl a10)), (ad 24, .inl (dA 0, 2880, .inl a11)), (ad 25, .inl (dA 2, 2880, .inl a12))] := hD
          refine lv_istore (lv' := [(5, .int v5), (4, .int v3), (0, .ref (ad 0)), (1, .int p1), (2, .int p2), (3, .int p3)]) (pc := 60) hx hb dX11_lists_60 hl (by decide) rfl (fun ls hl => ?_)
          refine lv_iload (pc := 62) hx hb dX11_lists_62 (lv_at hl 0 rfl) ?_
          refine lv_ldcw (v := (268435456 : Int32)) (pc := 64) hx hb hown (ht _ zr_353) dX11_lists_64 ?_
          refine lv_icmp_ne (tgt := 73) (pc := 67) hx hb dX11_lists_67 rfl (fun hc => ?_) (fun hc => ?_)
          · have hf := za_f hf hc
            refine lv_iload (pc := 73) hx hb dX11_lists_73 (lv_at hl 0 rfl) ?_
            refine lv_aload_n (pc := 75) hx hb dX11_lists_75 rfl (lv_at hl 2 rfl) ?_
            refine va_get (pc := 76) (D := (dC, dI)) (ci := 0) (v := .ref (ad 41)) (C := RX11) (T := TX11) (N := 42) hx hb ht zr_lay hown hK hP 3 rfl rfl 40 (by decide) (ht _ zr_32) (fun _ h9 => h9) rfl dX11_lists_76 ?_
            refine lv_iload_n (pc := 79) hx hb dX11_lists_79 rfl (lv_at hl 3 rfl) ?_
            obtain ⟨v13, hv13, hf⟩ := zc_1 hf
            refine zw_iald (pc := 80) hx hb hK hP 0 0 rfl rfl hv13 dX11_lists_80 ?_
            obtain ⟨v15, hj, hf⟩ := zc_1 hf
            refine zj_join (pcJ := 95) (stk := [.int v15]) (X := fun H locs ls => lv_has ls 8 [(0, .ref (ad 0)), (1, .int p1)] ∧ va_P (dC, dI) zz_cls [zr_o ad (0 : Int32) f_taped f_at f_behind f_size f_kind f_number f_wrong f_wrongAt f_faultKind f_faultPlace f_reading f_toldWhy f_x v6 f_bestMany f_tail f_round1, (ad 2, .inl (dA 0, 2982, .inl b_all)), (ad 17, .inl (dA 0, 900, .inl a7)), (ad 18, .inl (dA 0, 6, .inl a8)), (ad 22, .inl (dA 0, 2880, .inl a9)), (ad 23, .inl (dA 0, 43200, .inl a10)), (ad 24, .inl (dA 0, 2880, .inl a11)), (ad 25, .inl (dA 2, 2880, .inl a12)), (ad 40, .inl (dA 0, 4, .inl b_rowSort)), (ad 41, .inl (dA 0, 4, .inl b_rowMany)), (ad 42, .inl (dA 1, 160, .inr (.inl b_numbers)))] H ∧ va_D A [zr_o ad (0 : Int32) f_taped f_at f_behind f_size f_kind f_number f_wrong f_wrongAt f_faultKind f_faultPlace f_reading f_toldWhy f_x v6 f_bestMany f_tail f_round1, (ad 2, .inl (dA 0, 2982, .inl b_all)), (ad 17, .inl (dA 0, 900, .inl a7)), (ad 18, .inl (dA 0, 6, .inl a8)), (ad 22, .inl (dA 0, 2880, .inl a9)), (ad 23, .inl (dA 0, 43200, .inl a10)), (ad 24, .inl (dA 0, 2880, .inl a11)), (ad 25, .inl (dA 2, 2880, .inl a12)), (ad 40, .inl (dA 0, 4, .inl b_rowSort)), (ad 41, .inl (dA 0, 4, .inl b_rowMany)), (ad 42, .inl (dA 1, 160, .inr (.inl b_numbers)))] ∧ va_S A s.heap H locs) (fun H locs ls hX => ?_) (fun J95 => ?_)
            · obtain ⟨hl, hP, hD, hS⟩ := hX
              clear hj
              refine lv_istore (lv' := [(6, .int v15), (0, .ref (ad 0)), (1, .int p1)]) (pc := 95) hx hb dX11_lists_95 hl (by decide) rfl (fun ls hl => ?_)
              refine lv_iconst (v := (0 : Int32)) (pc := 97) hx hb dX11_lists_97 (by decide) ?_
              refine lv_istore (lv' := [(7, .int (0 : Int32)), (6, .int v15), (0, .ref (ad 0)), (1, .int p1)]) (pc := 98) hx hb dX11_lists_98 hl (by decide) rfl (fun ls hl => ?_)
              obtain ⟨g23, v21, a22, hj, hf⟩ := zc_3 hf
              refine zj_join (pcJ := 132) (stk := []) (X := fun H locs ls => lv_has ls 8 [(6, .int v15)] ∧ va_P (dC, dI) zz_cls [zr_o ad (0 : Int32) f_taped f_at f_behind f_size f_kind f_number f_wrong f_wrongAt f_faultKind f_faultPlace f_reading f_toldWhy f_x v6 f_bestMany f_tail f_round1, (ad 2, .inl (dA 0, 2982, .inl b_all)), (ad 17, .inl (dA 0, 900, .inl a7)), (ad 18, .inl (dA 0, 6, .inl a8)), (ad 22, .inl (dA 0, 2880, .inl a9)), (ad 23, .inl (dA 0, 43200, .inl a10)), (ad 24, .inl (dA 0, 2880, .inl a11)), (ad 25, .inl (dA 2, 2880, .inl a12)), (ad 40, .inl (dA 0, 4, .inl b_rowSort)), (ad 41, .inl (dA 0, 4, .inl b_rowMany)), (ad 42, .inl (dA 1, 160, .inr (.inl a22)))] H ∧ va_D A [zr_o ad (0 : Int32) f_taped f_at f_behind f_size f_kind f_number f_wrong f_wrongAt f_faultKind f_faultPlace f_reading f_toldWhy f_x v6 f_bestMany f_tail f_round1, (ad 2, .inl (dA 0, 2982, .inl b_all)), (ad 17, .inl (dA 0, 900, .inl a7)), (ad 18, .inl (dA 0, 6, .inl a8)), (ad 22, .inl (dA 0, 2880, .inl a9)), (ad 23, .inl (dA 0, 43200, .inl a10)), (ad 24, .inl (dA 0, 2880, .inl a11)), (ad 25, .inl (dA 2, 2880, .inl a12)), (ad 40, .inl (dA 0, 4, .inl b_rowSort)), (ad 41, .inl (dA 0, 4, .inl b_rowMany)), (ad 42, .inl (dA 1, 160, .inr (.inl a22)))] ∧ va_S A s.heap H locs) (fun H locs ls hX => ?_) (fun E132 => ?_)
              · obtain ⟨hl, hP, hD, hS⟩ := hX
                clear hj
                refine lv_iload (pc := 132) hx hb dX11_lists_132 (lv_at hl 0 rfl) ?_
                obtain ⟨rfl, rfl, rfl, rfl, rfl, rfl, rfl, rfl, rfl, rfl⟩ := zi_10 hf
                exact W.iret (pc := 134) hx hb hr (fun t ht hW => ⟨⟨_, (), rfl, rfl, zz_Bi (by rw [ht]; exact hP) (va_K.moved hW.alike hK) (hD)⟩, hS.F ht⟩) hS.2.2 dX11_lists_134
              clear hf
              refine zw_loop (pcH := 100) (X := fun v H locs ls => lv_has ls 8 [(0, .ref (ad 0)), (1, .int p1), (6, .int v15), (7, .int v.1)] ∧ va_P (dC, dI) zz_cls [zr_o ad (0 : Int32) f_taped f_at f_behind f_size f_kind f_number f_wrong f_wrongAt f_faultKind f_faultPlace f_reading f_toldWhy f_x v6 f_bestMany f_tail f_round1, (ad 2, .inl (dA 0, 2982, .inl b_all)), (ad 17, .inl (dA 0, 900, .inl a7)), (ad 18, .inl (dA 0, 6, .inl a8)), (ad 22, .inl (dA 0, 2880, .inl a9)), (ad 23, .inl (dA 0, 43200, .inl a10)), (ad 24, .inl (dA 0, 2880, .inl a11)), (ad 25, .inl (dA 2, 2880, .inl a12)), (ad 40, .inl (dA 0, 4, .inl b_rowSort)), (ad 41, .inl (dA 0, 4, .inl b_rowMany)), (ad 42, .inl (dA 1, 160, .inr (.inl v.2)))] H ∧ va_D A [zr_o ad (0 : Int32) f_taped f_at f_behind f_size f_kind f_number f_wrong f_wrongAt f_faultKind f_faultPlace f_reading f_toldWhy f_x v6 f_bestMany f_tail f_round1, (ad 2, .inl (dA 0, 2982, .inl b_all)), (ad 17, .inl (dA 0, 900, .inl a7)), (ad 18, .inl (dA 0, 6, .inl a8)), (ad 22, .inl (dA 0, 2880, .inl a9)), (ad 23, .inl (dA 0, 43200, .inl a10)), (ad 24, .inl (dA 0, 2880, .inl a11)), (ad 25, .inl (dA 2, 2880, .inl a12)), (ad 40, .inl (dA 0, 4, .inl b_rowSort)), (ad 41, .inl (dA 0, 4, .inl b_rowMany)), (ad 42, .inl (dA 1, 160, .inr (.inl v.2)))] ∧ va_S A s.heap H locs) hj (fun v w hf ih ex H locs ls hX => ?_) _ _ _ ⟨lv_sub hl [2, 3, 1, 0] rfl, hP, hD, hS⟩
              clear hj
              obtain ⟨v16, a17⟩ := v
              obtain ⟨hl, hP, hD, hS⟩ := hX
              have hl : lv_has ls 8 [(0, .ref (ad 0)), (1, .int p1), (6, .int v15), (7, .int v16)] := hl
              have hP : va_P (dC, dI) zz_cls [zr_o ad (0 : Int32) f_taped f_at f_behind f_size f_kind f_number f_wrong f_wrongAt f_faultKind f_faultPlace f_reading f_toldWhy f_x v6 f_bestMany f_tail f_round1, (ad 2, .inl (dA 0, 2982, .inl b_all)), (ad 17, .inl (dA 0, 900, .inl a7)), (ad 18, .inl (dA 0, 6, .inl a8)), (ad 22, .inl (dA 0, 2880, .inl a9)), (ad 23, .inl (dA 0, 43200, .inl a10)), (ad 24, .inl (dA 0, 2880, .inl a11)), (ad 25, .inl (dA 2, 2880, .inl a12)), (ad 40, .inl (dA 0, 4, .inl b_rowSort)), (ad 41, .inl (dA 0, 4, .inl b_rowMany)), (ad 42, .inl (dA 1, 160, .inr (.inl a17)))] H := hP
              have hD : va_D A [zr_o ad (0 : Int32) f_taped f_at f_behind f_size f_kind f_number f_wrong f_wrongAt f_faultKind f_faultPlace f_reading f_toldWhy f_x v6 f_bestMany f_tail f_round1, (ad 2, .inl (dA 0, 2982, .inl b_all)), (ad 17, .inl (dA 0, 900, .inl a7)), (ad 18, .inl (dA 0, 6, .inl a8)), (ad 22, .inl (dA 0, 2880, .inl a9)), (ad 23, .inl (dA 0, 43200, .inl a10)), (ad 24, .inl (dA 0, 2880, .inl a11)), (ad 25, .inl (dA 2, 2880, .inl a12)), (ad 40, .inl (dA 0, 4, .inl b_rowSort)), (ad 41, .inl (dA 0, 4, .inl b_rowMany)), (ad 42, .inl (dA 1, 160, .inr (.inl a17)))] := hD
              replace hf : zb_X11_lists_100 v15 n b_all a10 a11 p1 v16 a17 = some w := hf
              unfold zb_X11_lists_100 at hf
              refine lv_iload (pc := 100) hx hb dX11_lists_100 (lv_at hl 3 rfl) ?_
              refine lv_iload (pc := 102) hx hb dX11_lists_102 (lv_at hl 2 rfl) ?_
              refine lv_icmp_ge (tgt := 132) (pc := 104) hx hb dX11_lists_104 rfl (fun hc => ?_) (fun hc => ?_)
              · have hf := za_t hf hc
                obtain rfl := Option.some.inj hf
                obtain ⟨rfl, rfl, rfl⟩ := zp_3 (ex (show ¬ (1 : Nat) = 0 by decide))
                exact E132 _ _ _ ⟨lv_sub hl [2] rfl, hP, hD, hS⟩
              · have hf := za_f hf hc
                refine lv_aload_n (pc := 107) hx hb dX11_lists_107 rfl (lv_at hl 0 rfl) ?_
                refine va_get (pc := 108) (D := (dC, dI)) (ci := 0) (v := .ref (ad 42)) (C := RX11) (T := TX11) (N := 42) hx hb ht zr_lay hown hK hP 0 rfl rfl 41 (by decide) (ht _ zr_33) (fun _ h9 => h9) rfl dX11_lists_108 ?_
                refine lv_bipush (v := (40 : Int32)) (pc := 111) hx hb dX11_lists_111 (by decide) ?_
                refine lv_iload_n (pc := 113) hx hb dX11_lists_113 rfl (lv_at hl 1 rfl) ?_
                refine lv_imul (pc := 114) hx hb dX11_lists_114 ?_
                refine lv_iload (pc := 115) hx hb dX11_lists_115 (lv_at hl 3 rfl) ?_
                refine lv_iadd (pc := 117) hx hb dX11_lists_117 ?_
                refine lv_aload_n (pc := 118) hx hb dX11_lists_118 rfl (lv_at hl 0 rfl) ?_
                refine lv_iload (pc := 119) hx hb dX11_lists_119 (lv_at hl 3 rfl) ?_
                obtain ⟨v18, hv18, hf⟩ := zc_1 hf
                refine zw_Vi (pc := 121) (wc := [zr_o ad (0 : Int32) f_taped f_at f_behind f_size f_kind f_number f_wrong f_wrongAt f_faultKind f_faultPlace f_reading f_toldWhy f_x v6 f_bestMany f_tail f_round1, (ad 2, .inl (dA 0, 2982, .inl b_all)), (ad 23, .inl (dA 0, 43200, .inl a10)), (ad 24, .inl (dA 0, 2880, .inl a11))]) (wr := [(ad 17, .inl (dA 0, 900, .inl a7)), (ad 18, .inl (dA 0, 6, .inl a8)), (ad 22, .inl (dA 0, 2880, .inl a9)), (ad 25, .inl (dA 2, 2880, .inl a12)), (ad 40, .inl (dA 0, 4, .inl b_rowSort)), (ad 41, .inl (dA 0, 4, .inl b_rowMany)), (ad 42, .inl (dA 1, 160, .inr (.inl a17)))]) (w1 := [zr_o ad (0 : Int32) f_taped f_at f_behind f_size f_kind f_number f_wrong f_wrongAt f_faultKind f_faultPlace f_reading f_toldWhy f_x v6 f_bestMany f_tail f_round1, (ad 2, .inl (dA 0, 2982, .inl b_all)), (ad 23, .inl (dA 0, 43200, .inl a10)), (ad 24, .inl (dA 0, 2880, .inl a11))]) (As := [.int v16]) (rest := [.int (((40 : Int32) * p1) + v16), .ref (ad 42)]) ⟨hx, hb, hml, hown, ht⟩ (zt_X11_deedAt l dC dI dA ad _ n (0 : Int32) f_taped f_at f_behind f_size f_kind f_number f_wrong f_wrongAt f_faultKind f_faultPlace f_reading f_toldWhy f_x v6 f_bestMany f_tail f_round1 b_all a10 a11 v16 v18 hv18) (cwV 1 ht (zr_V zr_377 zr_378 zr_379 zr_36 zr_367) rfl rfl rfl zk_X11_deedAt ⟨Nat.le_of_ble_eq_true rfl, Nat.le_of_ble_eq_true rfl⟩) rfl rfl hK hP hD hS hA [0, 1, 5, 6] [2, 3, 4, 7, 8, 9, 10] (by decide) (by decide) (by decide) rfl rfl rfl hl.1 (Nat.le_of_ble_eq_true rfl) dX11_lists_121 ⟨Nat.zero_le _, Nat.zero_le _⟩ rfl (fun H locs hP hD hS => ?_)
                have hP : va_P (dC, dI) zz_cls [(ad 17, .inl (dA 0, 900, .inl a7)), (ad 18, .inl (dA 0, 6, .inl a8)), (ad 22, .inl (dA 0, 2880, .inl a9)), (ad 25, .inl (dA 2, 2880, .inl a12)), (ad 40, .inl (dA 0, 4, .inl b_rowSort)), (ad 41, .inl (dA 0, 4, .inl b_rowMany)), (ad 42, .inl (dA 1, 160, .inr (.inl a17))), zr_o ad (0 : Int32) f_taped f_at f_behind f_size f_kind f_number f_wrong f_wrongAt f_faultKind f_faultPlace f_reading f_toldWhy f_x v6 f_bestMany f_tail f_round1, (ad 2, .inl (dA 0, 2982, .inl b_all)), (ad 23, .inl (dA 0, 43200, .inl a10)), (ad 24, .inl (dA 0, 2880, .inl a11))] H := hP
                have hD : va_D A [(ad 17, .inl (dA 0, 900, .inl a7)), (ad 18, .inl (dA 0, 6, .inl a8)), (ad 22, .inl (dA 0, 2880, .inl a9)), (ad 25, .inl (dA 2, 2880, .inl a12)), (ad 40, .inl (dA 0, 4, .inl b_rowSort)), (ad 41, .inl (dA 0, 4, .inl b_rowMany)), (ad 42, .inl (dA 1, 160, .inr (.inl a17))), zr_o ad (0 : Int32) f_taped f_at f_behind f_size f_kind f_number f_wrong f_wrongAt f_faultKind f_faultPlace f_reading f_toldWhy f_x v6 f_bestMany f_tail f_round1, (ad 2, .inl (dA 0, 2982, .inl b_all)), (ad 23, .inl (dA 0, 43200, .inl a10)), (ad 24, .inl (dA 0, 2880, .inl a11))] := hD
                refine lv_i2l (pc := 124) hx hb dX11_lists_124 rfl ?_
                obtain ⟨a19, ha19, hf⟩ := zc_1 hf
                refine zw_last (pc := 125) hx hb hK hP hD hS 6 1 rfl rfl ha19 dX11_lists_125 (fun H locs hP hD hS => ?_)
                have hP : va_P (dC, dI) zz_cls [(ad 17, .inl (dA 0, 900, .inl a7)), (ad 18, .inl (dA 0, 6, .inl a8)), (ad 22, .inl (dA 0, 2880, .inl a9)), (ad 25, .inl (dA 2, 2880, .inl a12)), (ad 40, .inl (dA 0, 4, .inl b_rowSort)), (ad 41, .inl (dA 0, 4, .inl b_rowMany)), (ad 42, .inl (dA 1, 160, .inr (.inl a19))), zr_o ad (0 : Int32) f_taped f_at f_behind f_size f_kind f_number f_wrong f_wrongAt f_faultKind f_faultPlace f_reading f_toldWhy f_x v6 f_bestMany f_tail f_round1, (ad 2, .inl (dA 0, 2982, .inl b_all)), (ad 23, .inl (dA 0, 43200, .inl a10)), (ad 24, .inl (dA 0, 2880, .inl a11))] H := hP
                have hD : va_D A [(ad 17, .inl (dA 0, 900, .inl a7)), (ad 18, .inl (dA 0, 6, .inl a8)), (ad 22, .inl (dA 0, 2880, .inl a9)), (ad 25, .inl (dA 2, 2880, .inl a12)), (ad 40, .inl (dA 0, 4, .inl b_rowSort)), (ad 41, .inl (dA 0, 4, .inl b_rowMany)), (ad 42, .inl (dA 1, 160, .inr (.inl a19))), zr_o ad (0 : Int32) f_taped f_at f_behind f_size f_kind f_number f_wrong f_wrongAt f_faultKind f_faultPlace f_reading f_toldWhy f_x v6 f_bestMany f_tail f_round1, (ad 2, .inl (dA 0, 2982, .inl b_all)), (ad 23, .inl (dA 0, 43200, .inl a10)), (ad 24, .inl (dA 0, 2880, .inl a11))] := hD
                obtain ⟨v20, hv20, hf⟩ := zc_1 hf
                refine lv_iinc (v := v20) (lv' := [(7, .int v20), (0, .ref (ad 0)), (1, .int p1), (6, .int v15)]) (k := 3) (pc := 126) hx hb dX11_lists_126 hl rfl (Option.some.inj hv20) (by decide) rfl (fun ls hl => ?_)
                refine lv_goto (tgt := 100) (pc := 129) hx hb dX11_lists_129 rfl ?_
                obtain rfl := Option.some.inj hf
                exact ih rfl _ _ _ ⟨lv_sub hl [1, 2, 3, 0] rfl, hP.sub [7, 8, 0, 1, 2, 9, 10, 3, 4, 5, 6] rfl, hD.sub [7, 8, 0, 1, 2, 9, 10, 3, 4, 5, 6] (by decide) rfl, hS⟩
            · clear hf
              have hf := hj
              clear hj
              refine lv_icmp_ge (tgt := 89) (pc := 81) hx hb dX11_lists_81 rfl (fun hc => ?_) (fun hc => ?_)
              · have hf := za_t hf hc
                refine lv_aload_n (pc := 89) hx hb dX11_lists_89 rfl (lv_at hl 2 rfl) ?_
                refine va_get (pc := 90) (D := (dC, dI)) (ci := 0) (v := .ref (ad 41)) (C := RX11) (T := TX11) (N := 42) hx hb ht zr_lay hown hK hP 3 rfl rfl 40 (by decide) (ht _ zr_32) (fun _ h9 => h9) rfl dX11_lists_90 ?_
                refine lv_iload_n (pc := 93) hx hb dX11_lists_93 rfl (lv_at hl 3 rfl) ?_
                obtain ⟨v14, hv14, hf⟩ := zc_1 hf
                refine zw_iald (pc := 94) hx hb hK hP 0 0 rfl rfl hv14 dX11_lists_94 ?_
                obtain rfl := Option.some.inj hf
                exact J95 _ _ _ ⟨lv_sub hl [2, 3] rfl, hP.sub [3, 4, 5, 6, 7, 8, 9, 10, 2, 0, 1] rfl, hD.sub [3, 4, 5, 6, 7, 8, 9, 10, 2, 0, 1] (by decide) rfl, hS⟩
              · have hf := za_f hf hc
                refine lv_iload (pc := 84) hx hb dX11_lists_84 (lv_at hl 0 rfl) ?_
                refine lv_goto (tgt := 95) (pc := 86) hx hb dX11_lists_86 rfl ?_
                obtain rfl := Option.some.inj hf
                exact J95 _ _ _ ⟨lv_sub hl [2, 3] rfl, hP.sub [3, 4, 5, 6, 7, 8, 9, 10, 2, 0, 1] rfl, hD.sub [3, 4, 5, 6, 7, 8, 9, 10, 2, 0, 1] (by decide) rfl, hS⟩
          · have hf := za_t hf hc
            refine lv_bipush (v := (-5 : Int32)) (pc := 70) hx hb dX11_lists_70 (by decide) ?_
            obtain ⟨rfl, rfl, rfl, rfl, rfl, rfl, rfl, rfl, rfl, rfl⟩ := zi_10 hf
            exact W.iret (pc := 72) hx hb hr (fun t ht hW => ⟨⟨_, (), rfl, rfl, zz_Bi (by rw [ht]; exact hP.sub [3, 4, 5, 6, 7, 8, 9, 10, 2, 0, 1] rfl) (va_K.moved hW.alike hK) (hD.sub [3, 4, 5, 6, 7, 8, 9, 10, 2, 0, 1] (by decide) rfl)⟩, hS.F ht⟩) hS.2.2 dX11_lists_72
        · have hf := za_t hf hc
          refine lv_bipush (v := (-3 : Int32)) (pc := 51) hx hb dX11_lists_51 (by decide) ?_
          obtain ⟨rfl, rfl, rfl, rfl, rfl, rfl, rfl, rfl, rfl, rfl⟩ := zi_10 hf
          exact W.iret (pc := 53) hx hb hr (fun t ht hW => ⟨⟨_, (), rfl, rfl, zz_Bi (by rw [ht]; exact hP.sub [9, 10, 0, 1, 2, 3, 4, 5, 8, 6, 7] rfl) (va_K.moved hW.alike hK) (hD.sub [9, 10, 0, 1, 2, 3, 4, 5, 8, 6, 7] (by decide) rfl)⟩, hS.F ht⟩) hS.2.2 dX11_lists_53
      · have hf := za_f hf hc
        refine lv_iload (pc := 40) hx hb dX11_lists_40 (lv_at hl 0 rfl) ?_
        obtain ⟨rfl, rfl, rfl, rfl, rfl, rfl, rfl, rfl, rfl, rfl⟩ := zi_10 hf
        exact W.iret (pc := 42) hx hb hr (fun t ht hW => ⟨⟨_, (), rfl, rfl, zz_Bi (by rw [ht]; exact hP.sub [9, 8, 0, 1, 2, 3, 4, 5, 10, 6, 7] rfl) (va_K.moved hW.alike hK) (hD.sub [9, 8, 0, 1, 2, 3, 4, 5, 10, 6, 7] (by decide) rfl)⟩, hS.F ht⟩) hS.2.2 dX11_lists_42
    · have hf := za_t hf hc
      refine lv_bipush (v := (-2 : Int32)) (pc := 25) hx hb dX11_lists_25 (by decide) ?_
      obtain ⟨rfl, rfl, rfl, rfl, rfl, rfl, rfl, rfl, rfl, rfl⟩ := zi_10 hf
      exact W.iret (pc := 27) hx hb hr (fun t ht hW => ⟨⟨_, (), rfl, rfl, zz_Bi (by rw [ht]; exact hP.sub [9, 10, 0, 1, 2, 3, 4, 5, 6, 7, 8] rfl) (va_K.moved hW.alike hK) (hD.sub [9, 10, 0, 1, 2, 3, 4, 5, 6, 7, 8] (by decide) rfl)⟩, hS.F ht⟩) hS.2.2 dX11_lists_27
