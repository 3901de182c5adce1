def zb_X11_when_22 (v2 : Int32) (v3 : Int32) (a6 : (Nat → Int32)) (p1 : Int32) (v8 : Int32) : Option (Nat × Int32) :=
  if (v2 + v3) ≤ v8 then
    some (2, v8)
  else
    zd_1 (za_ld a6 2881 v8) (fun v9 =>
    zd_1 (zf_X11_rungIn v9) (fun v10 =>
    if v10 = p1 then
      some (1, v8)
    else
      zd_1 (some (v8 + (1 : Int32))) (fun v11 =>
      some (0, v11))))
def zf_X11_when (n : Nat) (f_thrown : Int32) (f_tail : Int32) (f_round1 : Int32) (b_all : (Nat → Int32)) (b_reckoned : (Nat → Int32)) (b_words : (Nat → Int32)) (b_row : (Nat → Int32)) (b_first : (Nat → Int32)) (p1 : Int32) : Option (Int32 × Int32 × Int32 × Int32 × (Nat → Int32) × (Nat → Int32) × (Nat → Int32) × (Nat → Int32)) :=
  zd_1 (zf_X11_isRung b_all p1) (fun v1 =>
  if v1 = 0 then
    some ((-2 : Int32), (0 : Int32), f_tail, f_round1, b_reckoned, b_words, b_row, b_first)
  else
    zd_6 (zf_X11_laysRow n f_tail f_round1 b_all b_reckoned b_words b_row b_first) (fun v2 v3 a4 a5 a6 a7 =>
    zd_2 (za_it (fun v => zb_X11_when_22 v2 v3 a6 p1 v) n (0 : Int32)) (fun g13 v12 =>
    if g13 = 1 then
      some (v12, (0 : Int32), v2, v3, a4, a5, a6, a7)
    else if g13 = 2 then
      some ((-1 : Int32), (0 : Int32), v2, v3, a4, a5, a6, a7)
    else none)))
theorem zk_X11_when : yX11_when.cls = RX11 ∧ yX11_when.cls ≠ "java/lang/invoke/MethodHandle" ∧ yX11_when.cls ≠ "java/lang/invoke/VarHandle" ∧ (parseMethodDescriptor yX11_when.desc).map (fun d => d.parameters.length) = some 1 := by decide +kernel
set_option maxHeartbeats 4000000 in
set_option maxRecDepth 100000 in
theorem zt_X11_when (l : Launch) (dC : Nat → ClassId) (dI : Nat → Nat → Nat) (dA : Nat → ClassId) (ad : Nat → Nat) (sz : Nat) (n : Nat) (f_thrown f_taped f_at f_behind f_size f_kind f_number f_wrong f_wrongAt f_faultKind f_faultPlace f_reading f_toldWhy f_x f_standMany f_bestMany f_tail f_round1 : Int32) (b_all : (Nat → Int32)) (b_reckoned : (Nat → Int32)) (b_words : (Nat → Int32)) (b_row : (Nat → Int32)) (b_first : (Nat → Int32)) (p1 : Int32) (r0 : Int32) (o1 : Int32) (o2 : Int32) (o3 : Int32) (o4 : (Nat → Int32)) (o5 : (Nat → Int32)) (o6 : (Nat → Int32)) (o7 : (Nat → Int32)) (hf : zf_X11_when n f_thrown f_tail f_round1 b_all b_reckoned b_words b_row b_first p1 = some (r0, o1, o2, o3, o4, o5, o6, o7)) : Met l yX11_when (.code yX11_when cX11_when 3 (some .int) :: zr_T) ({ frames := 5, cells := 0, slots := 0, locals := 122 }) (va_Pc [.ref (ad 0), .int p1] (zz_M dC dI dA [zr_o ad f_thrown f_taped f_at f_behind f_size f_kind f_number f_wrong f_wrongAt f_faultKind f_faultPlace f_reading f_toldWhy f_x f_standMany f_bestMany f_tail f_round1, (ad 2, .inl (dA 0, 2982, .inl b_all)), (ad 17, .inl (dA 0, 900, .inl b_reckoned)), (ad 18, .inl (dA 0, 6, .inl b_words)), (ad 32, .inl (dA 0, 2881, .inl b_row)), (ad 33, .inl (dA 0, 2880, .inl b_first))] sz)) (va_Qi (fun (r : Int32) (_ : Unit) => r = r0) (fun _ t => zz_B dC dI dA (va_A [zr_o ad f_thrown f_taped f_at f_behind f_size f_kind f_number f_wrong f_wrongAt f_faultKind f_faultPlace f_reading f_toldWhy f_x f_standMany f_bestMany f_tail f_round1, (ad 2, .inl (dA 0, 2982, .inl b_all)), (ad 17, .inl (dA 0, 900, .inl b_reckoned)), (ad 18, .inl (dA 0, 6, .inl b_words)), (ad 32, .inl (dA 0, 2881, .inl b_row)), (ad 33, .inl (dA 0, 2880, .inl b_first))] sz) [zr_o ad o1 f_taped f_at f_behind f_size f_kind f_number f_wrong f_wrongAt f_faultKind f_faultPlace f_reading f_toldWhy f_x f_standMany f_bestMany o2 o3, (ad 2, .inl (dA 0, 2982, .inl b_all)), (ad 17, .inl (dA 0, 900, .inl o4)), (ad 18, .inl (dA 0, 6, .inl o5)), (ad 32, .inl (dA 0, 2881, .inl o6)), (ad 33, .inl (dA 0, 2880, .inl o7))] t) (va_A [zr_o ad f_thrown f_taped f_at f_behind f_size f_kind f_number f_wrong f_wrongAt f_faultKind f_faultPlace f_reading f_toldWhy f_x f_standMany f_bestMany f_tail f_round1, (ad 2, .inl (dA 0, 2982, .inl b_all)), (ad 17, .inl (dA 0, 900, .inl b_reckoned)), (ad 18, .inl (dA 0, 6, .inl b_words)), (ad 32, .inl (dA 0, 2881, .inl b_row)), (ad 33, .inl (dA 0, 2880, .inl b_first))] sz)) 0 0 (va_A [zr_o ad f_thrown f_taped f_at f_behind f_size f_kind f_number f_wrong f_wrongAt f_faultKind f_faultPlace f_reading f_toldWhy f_x f_standMany f_bestMany f_tail f_round1, (ad 2, .inl (dA 0, 2982, .inl b_all)), (ad 17, .inl (dA 0, 900, .inl b_reckoned)), (ad 18, .inl (dA 0, 6, .inl b_words)), (ad 32, .inl (dA 0, 2881, .inl b_row)), (ad 33, .inl (dA 0, 2880, .inl b_first))] sz) := by
  unfold zf_X11_when at hf
  refine Met.ofW (cc := cX11_when) (maxL := 3) (ret := (some .int)) (by decide) rfl ?_
  intro p e s m args below meth c s₁ B hml hv
  obtain ⟨rfl, hsz, hP, hK, hD0⟩ := hv
  have hx := B.exec
  have hb := B.bytes
  have hr := B.returns
  have ht : ∀ w ∈ zr_T, w.before ([.ref (ad 0), .int p1] : List Value).toArray s = true := fun w hw => atoms_spec (ws := .code yX11_when cX11_when 3 (some .int) :: zr_T) B.pre w (List.mem_cons_of_mem _ hw)
  have hown : s.vm.findClass RX11 = some m.cls := findClass_of_methodNamed B.named
  have hlocks := B.notSynchronized
  subst hsz
  have hD := hD0.self (sz := s.heap.size)
  generalize hAe : va_A [zr_o ad f_thrown f_taped f_at f_behind f_size f_kind f_number f_wrong f_wrongAt f_faultKind f_faultPlace f_reading f_toldWhy f_x f_standMany f_bestMany f_tail f_round1, (ad 2, .inl (dA 0, 2982, .inl b_all)), (ad 17, .inl (dA 0, 900, .inl b_reckoned)), (ad 18, .inl (dA 0, 6, .inl b_words)), (ad 32, .inl (dA 0, 2881, .inl b_row)), (ad 33, .inl (dA 0, 2880, .inl b_first))] s.heap.size = A at hD ⊢
  have hA : ∀ q : Nat, s.heap.size ≤ q → A q := fun q h => by rw [← hAe]; exact Or.inr h
  clear hAe hD0
  have hS : va_S A s.heap s.heap [] := va_S.rf
  have hl := lv_entry ([.ref (ad 0), .int p1]) (n := 3) (Nat.le_of_ble_eq_true rfl)
  rw [lg_entry_eq]
  generalize (lg_sl ([.ref (ad 0), .int p1]) ++ List.replicate (3 - (lg_sl ([.ref (ad 0), .int p1])).length) Slot.unset).toArray = ls at hl ⊢
  have hl : lv_has ls 3 [(0, .ref (ad 0)), (1, .int p1)] := hl
  refine lv_aload_n (pc := 0) hx hb dX11_when_0 rfl (lv_at hl 0 rfl) ?_
  refine lv_iconst (v := (0 : Int32)) (pc := 1) hx hb dX11_when_1 (by decide) ?_
  refine va_put (pc := 2) (D := (dC, dI)) (ci := 0) (v := .int (0 : Int32)) (ty := .int) (C := RX11) (T := TX11) (N := 42) hx hb ht zr_lay tyX11 tyX11_ok nmX11 hown hK hP hD hS 0 rfl rfl 0 (by decide) (ht _ zr_39) (fun _ h9 => h9) rfl (by decide +kernel) rfl rfl (Nat.le_of_ble_eq_true rfl) dX11_when_2 (fun H locs hP hD hS => ?_)
  have hP : va_P (dC, dI) zz_cls [zr_o ad (0 : Int32) f_taped f_at f_behind f_size f_kind f_number f_wrong f_wrongAt f_faultKind f_faultPlace f_reading f_toldWhy f_x f_standMany f_bestMany f_tail f_round1, (ad 2, .inl (dA 0, 2982, .inl b_all)), (ad 17, .inl (dA 0, 900, .inl b_reckoned)), (ad 18, .inl (dA 0, 6, .inl b_words)), (ad 32, .inl (dA 0, 2881, .inl b_row)), (ad 33, .inl (dA 0, 2880, .inl b_first))] H := hP
  have hD : va_D A [zr_o ad (0 : Int32) f_taped f_at f_behind f_size f_kind f_number f_wrong f_wrongAt f_faultKind f_faultPlace f_reading f_toldWhy f_x f_standMany f_bestMany f_tail f_round1, (ad 2, .inl (dA 0, 2982, .inl b_all)), (ad 17, .inl (dA 0, 900, .inl b_reckoned)), (ad 18, .inl (dA 0, 6, .inl b_words)), (ad 32, .inl (dA 0, 2881, .inl b_row)), (ad 33, .inl (dA 0, 2880, .inl b_first))] := hD
  refine lv_aload_n (pc := 5) hx hb dX11_when_5 rfl (lv_at hl 0 rfl) ?_
  refine lv_iload_n (pc := 6) hx hb dX11_when_6 rfl (lv_at hl 1 rfl) ?_
  obtain ⟨v1, hv1, hf⟩ := zc_1 hf
  refine zw_Vi (pc := 7) (wc := [zr_o ad (0 : Int32) f_taped f_at f_behind f_size f_kind f_number f_wrong f_wrongAt f_faultKind f_faultPlace f_reading f_toldWhy f_x f_standMany f_bestMany f_tail f_round1, (ad 2, .inl (dA 0, 2982, .inl b_all))]) (wr := [(ad 17, .inl (dA 0, 900, .inl b_reckoned)), (ad 18, .inl (dA 0, 6, .inl b_words)), (ad 32, .inl (dA 0, 2881, .inl b_row)), (ad 33, .inl (dA 0, 2880, .inl b_first))]) (w1 := [zr_o ad (0 : Int32) f_taped f_at f_behind f_size f_kind f_number f_wrong f_wrongAt f_faultKind f_faultPlace f_reading f_toldWhy f_x f_standMany f_bestMany f_tail f_round1, (ad 2, .inl (dA 0, 2982, .inl b_all))]) (As := [.int p1]) (rest := []) ⟨hx, hb, hml, hown, ht⟩ (zt_X11_isRung l dC dI dA ad _ (0 : Int32) f_taped f_at f_behind f_size f_kind f_number f_wrong f_wrongAt f_faultKind f_faultPlace f_reading f_toldWhy f_x f_standMany f_bestMany f_tail f_round1 b_all p1 v1 hv1) (cwV 1 ht (zr_V zr_255 zr_256 zr_257 zr_36 zr_206) rfl rfl rfl zk_X11_isRung ⟨Nat.le_of_ble_eq_true rfl, Nat.le_of_ble_eq_true rfl⟩) rfl rfl hK hP hD hS hA [0, 1] [2, 3, 4, 5] (by decide) (by decide) (by decide) rfl rfl rfl hl.1 (Nat.le_of_ble_eq_true rfl) dX11_when_7 ⟨Nat.zero_le _, Nat.zero_le _⟩ rfl (fun H locs hP hD hS => ?_)
  have hP : va_P (dC, dI) zz_cls [(ad 17, .inl (dA 0, 900, .inl b_reckoned)), (ad 18, .inl (dA 0, 6, .inl b_words)), (ad 32, .inl (dA 0, 2881, .inl b_row)), (ad 33, .inl (dA 0, 2880, .inl b_first)), zr_o ad (0 : Int32) f_taped f_at f_behind f_size f_kind f_number f_wrong f_wrongAt f_faultKind f_faultPlace f_reading f_toldWhy f_x f_standMany f_bestMany f_tail f_round1, (ad 2, .inl (dA 0, 2982, .inl b_all))] H := hP
  have hD : va_D A [(ad 17, .inl (dA 0, 900, .inl b_reckoned)), (ad 18, .inl (dA 0, 6, .inl b_words)), (ad 32, .inl (dA 0, 2881, .inl b_row)), (ad 33, .inl (dA 0, 2880, .inl b_first)), zr_o ad (0 : Int32) f_taped f_at f_behind f_size f_kind f_number f_wrong f_wrongAt f_faultKind f_faultPlace f_reading f_toldWhy f_x f_standMany f_bestMany f_tail f_round1, (ad 2, .inl (dA 0, 2982, .inl b_all))] := hD
  refine lv_if_ne (tgt := 16) (pc := 10) hx hb dX11_when_10 rfl (fun hc => ?_) (fun hc => ?_)
  · have hf := za_f hf hc
    refine lv_aload_n (pc := 16) hx hb dX11_when_16 rfl (lv_at hl 0 rfl) ?_
    obtain ⟨v2, v3, a4, a5, a6, a7, hv2, hf⟩ := zc_6 hf
    refine zw_Vv (pc := 17) (wc := [zr_o ad (0 : Int32) f_taped f_at f_behind f_size f_kind f_number f_wrong f_wrongAt f_faultKind f_faultPlace f_reading f_toldWhy f_x f_standMany f_bestMany f_tail f_round1, (ad 2, .inl (dA 0, 2982, .inl b_all)), (ad 17, .inl (dA 0, 900, .inl b_reckoned)), (ad 18, .inl (dA 0, 6, .inl b_words)), (ad 32, .inl (dA 0, 2881, .inl b_row)), (ad 33, .inl (dA 0, 2880, .inl b_first))]) (wr := []) (w1 := [zr_o ad (0 : Int32) f_taped f_at f_behind f_size f_kind f_number f_wrong f_wrongAt f_faultKind f_faultPlace f_reading f_toldWhy f_x f_standMany f_bestMany v2 v3, (ad 2, .inl (dA 0, 2982, .inl b_all)), (ad 17, .inl (dA 0, 900, .inl a4)), (ad 18, .inl (dA 0, 6, .inl a5)), (ad 32, .inl (dA 0, 2881, .inl a6)), (ad 33, .inl (dA 0, 2880, .inl a7))]) (As := []) (rest := []) ⟨hx, hb, hml, hown, ht⟩ (zt_X11_laysRow l dC dI dA ad _ n (0 : Int32) f_taped f_at f_behind f_size f_kind f_number f_wrong f_wrongAt f_faultKind f_faultPlace f_reading f_toldWhy f_x f_standMany f_bestMany f_tail f_round1 b_all b_reckoned b_words b_row b_first v2 v3 a4 a5 a6 a7 hv2) (cwV 0 ht (zr_V zr_402 zr_403 zr_404 zr_36 zr_400) rfl rfl rfl zk_X11_laysRow ⟨Nat.le_of_ble_eq_true rfl, Nat.le_of_ble_eq_true rfl⟩) rfl rfl hK hP hD hS hA [4, 5, 0, 1, 2, 3] [] (by decide) (by decide) (by decide) rfl rfl rfl hl.1 (Nat.le_of_ble_eq_true rfl) dX11_when_17 ⟨Nat.zero_le _, Nat.zero_le _⟩ rfl (fun H locs hP hD hS => ?_)
    have hP : va_P (dC, dI) zz_cls [zr_o ad (0 : Int32) f_taped f_at f_behind f_size f_kind f_number f_wrong f_wrongAt f_faultKind f_faultPlace f_reading f_toldWhy f_x f_standMany f_bestMany v2 v3, (ad 2, .inl (dA 0, 2982, .inl b_all)), (ad 17, .inl (dA 0, 900, .inl a4)), (ad 18, .inl (dA 0, 6, .inl a5)), (ad 32, .inl (dA 0, 2881, .inl a6)), (ad 33, .inl (dA 0, 2880, .inl a7))] H := hP
    have hD : va_D A [zr_o ad (0 : Int32) f_taped f_at f_behind f_size f_kind f_number f_wrong f_wrongAt f_faultKind f_faultPlace f_reading f_toldWhy f_x f_standMany f_bestMany v2 v3, (ad 2, .inl (dA 0, 2982, .inl b_all)), (ad 17, .inl (dA 0, 900, .inl a4)), (ad 18, .inl (dA 0, 6, .inl a5)), (ad 32, .inl (dA 0, 2881, .inl a6)), (ad 33, .inl (dA 0, 2880, .inl a7))] := hD
    refine lv_iconst (v := (0 : Int32)) (pc := 20) hx hb dX11_when_20 (by decide) ?_
    refine lv_istore_n (lv' := [(2, .int (0 : Int32)), (0, .ref (ad 0)), (1, .int p1)]) (pc := 21) hx hb dX11_when_21 rfl hl (by decide) rfl (fun ls hl => ?_)
    obtain ⟨g13, v12, hj, hf⟩ := zc_2 hf
    refine zj_join (pcJ := 48) (stk := []) (X := fun H locs ls => g13 = 1 ∧ lv_has ls 3 [(2, .int v12)] ∧ va_P (dC, dI) zz_cls [zr_o ad (0 : Int32) f_taped f_at f_behind f_size f_kind f_number f_wrong f_wrongAt f_faultKind f_faultPlace f_reading f_toldWhy f_x f_standMany f_bestMany v2 v3, (ad 2, .inl (dA 0, 2982, .inl b_all)), (ad 17, .inl (dA 0, 900, .inl a4)), (ad 18, .inl (dA 0, 6, .inl a5)), (ad 32, .inl (dA 0, 2881, .inl a6)), (ad 33, .inl (dA 0, 2880, .inl a7))] H ∧ va_D A [zr_o ad (0 : Int32) f_taped f_at f_behind f_size f_kind f_number f_wrong f_wrongAt f_faultKind f_faultPlace f_reading f_toldWhy f_x f_standMany f_bestMany v2 v3, (ad 2, .inl (dA 0, 2982, .inl b_all)), (ad 17, .inl (dA 0, 900, .inl a4)), (ad 18, .inl (dA 0, 6, .inl a5)), (ad 32, .inl (dA 0, 2881, .inl a6)), (ad 33, .inl (dA 0, 2880, .inl a7))] ∧ va_S A s.heap H locs) (fun H locs ls hX => ?_) (fun E48 => ?_)
    · obtain ⟨htg, hl, hP, hD, hS⟩ := hX
      clear hj
      have hf := za_t hf htg
      refine lv_iload_n (pc := 48) hx hb dX11_when_48 rfl (lv_at hl 0 rfl) ?_
      obtain ⟨rfl, rfl, rfl, rfl, rfl, rfl, rfl, rfl⟩ := zi_8 hf
      exact W.iret (pc := 49) hx hb hr (fun t ht hW => ⟨⟨_, (), rfl, rfl, zz_Bi (by rw [ht]; exact hP) (va_K.moved hW.alike hK) (hD)⟩, hS.F ht⟩) hS.2.2 dX11_when_49
    refine zj_join (pcJ := 56) (stk := []) (X := fun H locs ls => g13 = 2 ∧ lv_has ls 3 [] ∧ va_P (dC, dI) zz_cls [zr_o ad (0 : Int32) f_taped f_at f_behind f_size f_kind f_number f_wrong f_wrongAt f_faultKind f_faultPlace f_reading f_toldWhy f_x f_standMany f_bestMany v2 v3, (ad 2, .inl (dA 0, 2982, .inl b_all)), (ad 17, .inl (dA 0, 900, .inl a4)), (ad 18, .inl (dA 0, 6, .inl a5)), (ad 32, .inl (dA 0, 2881, .inl a6)), (ad 33, .inl (dA 0, 2880, .inl a7))] H ∧ va_D A [zr_o ad (0 : Int32) f_taped f_at f_behind f_size f_kind f_number f_wrong f_wrongAt f_faultKind f_faultPlace f_reading f_toldWhy f_x f_standMany f_bestMany v2 v3, (ad 2, .inl (dA 0, 2982, .inl b_all)), (ad 17, .inl (dA 0, 900, .inl a4)), (ad 18, .inl (dA 0, 6, .inl a5)), (ad 32, .inl (dA 0, 2881, .inl a6)), (ad 33, .inl (dA 0, 2880, .inl a7))] ∧ va_S A s.heap H locs) (fun H locs ls hX => ?_) (fun E56 => ?_)
    · obtain ⟨htg, hl, hP, hD, hS⟩ := hX
      clear hj
      have hf := za_f hf (by rw [htg]; decide)
      have hf := za_t hf htg
      refine lv_iconst (v := (-1 : Int32)) (pc := 56) hx hb dX11_when_56 (by decide) ?_
      obtain ⟨rfl, rfl, rfl, rfl, rfl, rfl, rfl, rfl⟩ := zi_8 hf
      exact W.iret (pc := 57) hx hb hr (fun t ht hW => ⟨⟨_, (), rfl, rfl, zz_Bi (by rw [ht]; exact hP) (va_K.moved hW.alike hK) (hD)⟩, hS.F ht⟩) hS.2.2 dX11_when_57
    clear hf
    refine zw_loop (pcH := 22) (X := fun v H locs ls => lv_has ls 3 [(0, .ref (ad 0)), (1, .int p1), (2, .int v)] ∧ va_P (dC, dI) zz_cls [zr_o ad (0 : Int32) f_taped f_at f_behind f_size f_kind f_number f_wrong f_wrongAt f_faultKind f_faultPlace f_reading f_toldWhy f_x f_standMany f_bestMany v2 v3, (ad 2, .inl (dA 0, 2982, .inl b_all)), (ad 17, .inl (dA 0, 900, .inl a4)), (ad 18, .inl (dA 0, 6, .inl a5)), (ad 32, .inl (dA 0, 2881, .inl a6)), (ad 33, .inl (dA 0, 2880, .inl a7))] H ∧ va_D A [zr_o ad (0 : Int32) f_taped f_at f_behind f_size f_kind f_number f_wrong f_wrongAt f_faultKind f_faultPlace f_reading f_toldWhy f_x f_standMany f_bestMany v2 v3, (ad 2, .inl (dA 0, 2982, .inl b_all)), (ad 17, .inl (dA 0, 900, .inl a4)), (ad 18, .inl (dA 0, 6, .inl a5)), (ad 32, .inl (dA 0, 2881, .inl a6)), (ad 33, .inl (dA 0, 2880, .inl a7))] ∧ va_S A s.heap H locs) hj (fun v w hf ih ex H locs ls hX => ?_) _ _ _ ⟨lv_sub hl [1, 2, 0] rfl, hP, hD, hS⟩
    clear hj
    generalize v = v8 at hf hX
    obtain ⟨hl, hP, hD, hS⟩ := hX
    have hl : lv_has ls 3 [(0, .ref (ad 0)), (1, .int p1), (2, .int v8)] := hl
    have hP : va_P (dC, dI) zz_cls [zr_o ad (0 : Int32) f_taped f_at f_behind f_size f_kind f_number f_wrong f_wrongAt f_faultKind f_faultPlace f_reading f_toldWhy f_x f_standMany f_bestMany v2 v3, (ad 2, .inl (dA 0, 2982, .inl b_all)), (ad 17, .inl (dA 0, 900, .inl a4)), (ad 18, .inl (dA 0, 6, .inl a5)), (ad 32, .inl (dA 0, 2881, .inl a6)), (ad 33, .inl (dA 0, 2880, .inl a7))] H := hP
    have hD : va_D A [zr_o ad (0 : Int32) f_taped f_at f_behind f_size f_kind f_number f_wrong f_wrongAt f_faultKind f_faultPlace f_reading f_toldWhy f_x f_standMany f_bestMany v2 v3, (ad 2, .inl (dA 0, 2982, .inl b_all)), (ad 17, .inl (dA 0, 900, .inl a4)), (ad 18, .inl (dA 0, 6, .inl a5)), (ad 32, .inl (dA 0, 2881, .inl a6)), (ad 33, .inl (dA 0, 2880, .inl a7))] := hD
    replace hf : zb_X11_when_22 v2 v3 a6 p1 v8 = some w := hf
    unfold zb_X11_when_22 at hf
    refine lv_iload_n (pc := 22) hx hb dX11_when_22 rfl (lv_at hl 2 rfl) ?_
    refine lv_aload_n (pc := 23) hx hb dX11_when_23 rfl (lv_at hl 0 rfl) ?_
    refine va_get (pc := 24) (D := (dC, dI)) (ci := 0) (v := .int v2) (C := RX11) (T := TX11) (N := 42) hx hb ht zr_lay hown hK hP 0 rfl rfl 33 (by decide) (ht _ zr_398) (fun _ h9 => h9) rfl dX11_when_24 ?_
    refine lv_aload_n (pc := 27) hx hb dX11_when_27 rfl (lv_at hl 0 rfl) ?_
    refine va_get (pc := 28) (D := (dC, dI)) (ci := 0) (v := .int v3) (C := RX11) (T := TX11) (N := 42) hx hb ht zr_lay hown hK hP 0 rfl rfl 34 (by decide) (ht _ zr_399) (fun _ h9 => h9) rfl dX11_when_28 ?_
    refine lv_iadd (pc := 31) hx hb dX11_when_31 ?_
    refine lv_icmp_ge (tgt := 56) (pc := 32) hx hb dX11_when_32 rfl (fun hc => ?_) (fun hc => ?_)
    · have hf := za_t hf hc
      obtain rfl := Option.some.inj hf
      obtain ⟨rfl, rfl⟩ := zp_2 (ex (show ¬ (2 : Nat) = 0 by decide))
      exact E56 _ _ _ ⟨rfl, lv_sub hl [] rfl, hP, hD, hS⟩
    · have hf := za_f hf hc
      refine lv_aload_n (pc := 35) hx hb dX11_when_35 rfl (lv_at hl 0 rfl) ?_
      refine va_get (pc := 36) (D := (dC, dI)) (ci := 0) (v := .ref (ad 32)) (C := RX11) (T := TX11) (N := 42) hx hb ht zr_lay hown hK hP 0 rfl rfl 31 (by decide) (ht _ zr_25) (fun _ h9 => h9) rfl dX11_when_36 ?_
      refine lv_iload_n (pc := 39) hx hb dX11_when_39 rfl (lv_at hl 2 rfl) ?_
      obtain ⟨v9, hv9, hf⟩ := zc_1 hf
      refine zw_iald (pc := 40) hx hb hK hP 4 0 rfl rfl hv9 dX11_when_40 ?_
      obtain ⟨v10, hv10, hf⟩ := zc_1 hf
      refine zw_Si (pc := 41) (wc := []) (wr := [zr_o ad (0 : Int32) f_taped f_at f_behind f_size f_kind f_number f_wrong f_wrongAt f_faultKind f_faultPlace f_reading f_toldWhy f_x f_standMany f_bestMany v2 v3, (ad 2, .inl (dA 0, 2982, .inl b_all)), (ad 17, .inl (dA 0, 900, .inl a4)), (ad 18, .inl (dA 0, 6, .inl a5)), (ad 32, .inl (dA 0, 2881, .inl a6)), (ad 33, .inl (dA 0, 2880, .inl a7))]) (w1 := []) (As := [.int v9]) (rest := []) ⟨hx, hb, hml, hown, ht⟩ (zt_X11_rungIn l dC dI dA ad _ v9 v10 hv10) (cwS 1 ht (zr_S zr_217 zr_218 zr_36 zr_210) rfl rfl rfl zk_X11_rungIn ⟨Nat.le_of_ble_eq_true rfl, Nat.le_of_ble_eq_true rfl⟩) hK hP hD hS hA [] [0, 1, 2, 3, 4, 5] (by decide) (by decide) (by decide) rfl rfl rfl hl.1 (Nat.le_of_ble_eq_true rfl) dX11_when_41 ⟨Nat.zero_le _, Nat.zero_le _⟩ rfl (fun H locs hP hD hS => ?_)
      have hP : va_P (dC, dI) zz_cls [zr_o ad (0 : Int32) f_taped f_at f_behind f_size f_kind f_number f_wrong f_wrongAt f_faultKind f_faultPlace f_reading f_toldWhy f_x f_standMany f_bestMany v2 v3, (ad 2, .inl (dA 0, 2982, .inl b_all)), (ad 17, .inl (dA 0, 900, .inl a4)), (ad 18, .inl (dA 0, 6, .inl a5)), (ad 32, .inl (dA 0, 2881, .inl a6)), (ad 33, .inl (dA 0, 2880, .inl a7))] H := hP
      have hD : va_D A [zr_o ad (0 : Int32) f_taped f_at f_behind f_size f_kind f_number f_wrong f_wrongAt f_faultKind f_faultPlace f_reading f_toldWhy f_x f_standMany f_bestMany v2 v3, (ad 2, .inl (dA 0, 2982, .inl b_all)), (ad 17, .inl (dA 0, 900, .inl a4)), (ad 18, .inl (dA 0, 6, .inl a5)), (ad 32, .inl (dA 0, 2881, .inl a6)), (ad 33, .inl (dA 0, 2880, .inl a7))] := hD
      refine lv_iload_n (pc := 44) hx hb dX11_when_44 rfl (lv_at hl 1 rfl) ?_
      refine lv_icmp_ne (tgt := 50) (pc := 45) hx hb dX11_when_45 rfl (fun hc => ?_) (fun hc => ?_)
      · have hf := za_f hf hc
        obtain ⟨v11, hv11, hf⟩ := zc_1 hf
        refine lv_iinc (v := v11) (lv' := [(2, .int v11), (0, .ref (ad 0)), (1, .int p1)]) (k := 2) (pc := 50) hx hb dX11_when_50 hl rfl (Option.some.inj hv11) (by decide) rfl (fun ls hl => ?_)
        refine lv_goto (tgt := 22) (pc := 53) hx hb dX11_when_53 rfl ?_
        obtain rfl := Option.some.inj hf
        exact ih rfl _ _ _ ⟨lv_sub hl [1, 2, 0] rfl, hP, hD, hS⟩
      · have hf := za_t hf hc
        obtain rfl := Option.some.inj hf
        obtain ⟨rfl, rfl⟩ := zp_2 (ex (show ¬ (1 : Nat) = 0 by decide))
        exact E48 _ _ _ ⟨rfl, lv_sub hl [2] rfl, hP, hD, hS⟩
  · have hf := za_t hf hc
    refine lv_bipush (v := (-2 : Int32)) (pc := 13) hx hb dX11_when_13 (by decide) ?_
    obtain ⟨rfl, rfl, rfl, rfl, rfl, rfl, rfl, rfl⟩ := zi_8 hf
    exact W.iret (pc := 15) hx hb hr (fun t ht hW => ⟨⟨_, (), rfl, rfl, zz_Bi (by rw [ht]; exact hP.sub [4, 5, 0, 1, 2, 3] rfl) (va_K.moved hW.alike hK) (hD.sub [4, 5, 0, 1, 2, 3] (by decide) rfl)⟩, hS.F ht⟩) hS.2.2 dX11_when_15

def zb_X11_noSeen_34 (b_rowMany : (Nat → Int32)) (p1 : Int32) (b_numbers : (Nat → Int64)) (v4 : Int32) : Option (Nat × Int32) :=
  zd_1 (za_ld b_rowMany 4 p1) (fun v5 =>
  if v5 ≤ v4 then
    some (2, v4)
  else
    zd_1 (za_ld b_numbers 160 (((40 : Int32) * p1) + v4)) (fun v6 =>
    zd_1 (zf_X11_within v6 (-1 : Int64) (6 : Int64)) (fun v7 =>
    if v7 = 0 then
      some (1, v4)
    else
      zd_1 (some (v4 + (1 : Int32))) (fun v8 =>
      some (0, v8)))))
def zf_X11_noSeen (n : Nat) (b_rowSort : (Nat → Int32)) (b_rowMany : (Nat → Int32)) (b_numbers : (Nat → Int64)) (p1 : Int32) : Option (Int32) :=
  zd_1 (zf_X11_noTray b_rowSort p1) (fun v1 =>
  if v1 = 0 then
    zd_1 (za_ld b_rowMany 4 p1) (fun v2 =>
    zd_1 (zf_X11_within (Int32.toInt64 v2) (1 : Int64) (6 : Int64)) (fun v3 =>
    if v3 = 0 then
      some (-4 : Int32)
    else
      zd_2 (za_it (fun v => zb_X11_noSeen_34 b_rowMany p1 b_numbers v) n (0 : Int32)) (fun g10 v9 =>
      if g10 = 1 then
        some (-3 : Int32)
      else if g10 = 2 then
        some (0 : Int32)
      else none)))
  else
    some v1)
theorem zk_X11_noSeen : yX11_noSeen.cls = RX11 ∧ yX11_noSeen.cls ≠ "java/lang/invoke/MethodHandle" ∧ yX11_noSeen.cls ≠ "java/lang/invoke/VarHandle" ∧ (parseMethodDescriptor yX11_noSeen.desc).map (fun d => d.parameters.length) = some 1 := by decide +kernel
set_option maxHeartbeats 4000000 in
set_option maxRecDepth 100000 in
theorem zt_X11_noSeen (l : Launch) (dC : Nat → ClassId) (dI : Nat → Nat → Nat) (dA : Nat → ClassId) (ad : Nat → Nat) (sz : Nat) (n : Nat) (f_thrown f_taped f_at f_behind f_size f_kind f_number f_wrong f_wrongAt f_faultKind f_faultPlace f_reading f_toldWhy f_x f_standMany f_bestMany f_tail f_round1 : Int32) (b_rowSort : (Nat → Int32)) (b_rowMany : (Nat → Int32)) (b_numbers : (Nat → Int64)) (p1 : Int32) (r0 : Int32) (hf : zf_X11_noSeen n b_rowSort b_rowMany b_numbers p1 = some r0) : Met l yX11_noSeen (.code yX11_noSeen cX11_noSeen 4 (some .int) :: zr_T) ({ frames := 2, cells := 0, slots := 0, locals := 46 }) (va_Pc [.ref (ad 0), .int p1] (zz_M dC dI dA [zr_o ad f_thrown f_taped f_at f_behind f_size f_kind f_number f_wrong f_wrongAt f_faultKind f_faultPlace f_reading f_toldWhy f_x f_standMany f_bestMany f_tail f_round1, (ad 40, .inl (dA 0, 4, .inl b_rowSort)), (ad 41, .inl (dA 0, 4, .inl b_rowMany)), (ad 42, .inl (dA 1, 160, .inr (.inl b_numbers)))] sz)) (va_Qi (fun (r : Int32) (_ : Unit) => r = r0) (fun _ t => zz_B dC dI dA (va_A [zr_o ad f_thrown f_taped f_at f_behind f_size f_kind f_number f_wrong f_wrongAt f_faultKind f_faultPlace f_reading f_toldWhy f_x f_standMany f_bestMany f_tail f_round1, (ad 40, .inl (dA 0, 4, .inl b_rowSort)), (ad 41, .inl (dA 0, 4, .inl b_rowMany)), (ad 42, .inl (dA 1, 160, .inr (.inl b_numbers)))] sz) [zr_o ad f_thrown f_taped f_at f_behind f_size f_kind f_number f_wrong f_wrongAt f_faultKind f_faultPlace f_reading f_toldWhy f_x f_standMany f_bestMany f_tail f_round1, (ad 40, .inl (dA 0, 4, .inl b_rowSort)), (ad 41, .inl (dA 0, 4, .inl b_rowMany)), (ad 42, .inl (dA 1, 160, .inr (.inl b_numbers)))] t) (va_A [zr_o ad f_thrown f_taped f_at f_behind f_size f_kind f_number f_wrong f_wrongAt f_faultKind f_faultPlace f_reading f_toldWhy f_x f_standMany f_bestMany f_tail f_round1, (ad 40, .inl (dA 0, 4, .inl b_rowSort)), (ad 41, .inl (dA 0, 4, .inl b_rowMany)), (ad 42, .inl (dA 1, 160, .inr (.inl b_numbers)))] sz)) 0 0 (va_A [zr_o ad f_thrown f_taped f_at f_behind f_size f_kind f_number f_wrong f_wrongAt f_faultKind f_faultPlace f_reading f_toldWhy f_x f_standMany f_bestMany f_tail f_round1, (ad 40, .inl (dA 0, 4, .inl b_rowSort)), (ad 41, .inl (dA 0, 4, .inl b_rowMany)), (ad 42, .inl (dA 1, 160, .inr (.inl b_numbers)))] sz) := by
  unfold zf_X11_noSeen at hf
  refine Met.ofW (cc := cX11_noSeen) (maxL := 4) (ret := (some .int)) (by decide) rfl ?_
  intro p e s m args below meth c s₁ B hml hv
  obtain ⟨rfl, hsz, hP, hK, hD0⟩ := hv
  have hx := B.exec
  have hb := B.bytes
  have hr := B.returns
  have ht : ∀ w ∈ zr_T, w.before ([.ref (ad 0), .int p1] : List Value).toArray s = true := fun w hw => atoms_spec (ws := .code yX11_noSeen cX11_noSeen 4 (some .int) :: zr_T) B.pre w (List.mem_cons_of_mem _ hw)
  have hown : s.vm.findClass RX11 = some m.cls := findClass_of_methodNamed B.named
  have hlocks := B.notSynchronized
  subst hsz
  have hD := hD0.self (sz := s.heap.size)
  generalize hAe : va_A [zr_o ad f_thrown f_taped f_at f_behind f_size f_kind f_number f_wrong f_wrongAt f_faultKind f_faultPlace f_reading f_toldWhy f_x f_standMany f_bestMany f_tail f_round1, (ad 40, .inl (dA 0, 4, .inl b_rowSort)), (ad 41, .inl (dA 0, 4, .inl b_rowMany)), (ad 42, .inl (dA 1, 160, .inr (.inl b_numbers)))] s.heap.size = A at hD ⊢
  have hA : ∀ q : Nat, s.heap.size ≤ q → A q := fun q h => by rw [← hAe]; exact Or.inr h
  clear hAe hD0
  have hS : va_S A s.heap s.heap [] := va_S.rf
  have hl := lv_entry ([.ref (ad 0), .int p1]) (n := 4) (Nat.le_of_ble_eq_true rfl)
  rw [lg_entry_eq]
  generalize (lg_sl ([.ref (ad 0), .int p1]) ++ List.replicate (4 - (lg_sl ([.ref (ad 0), .int p1])).length) Slot.unset).toArray = ls at hl ⊢
  have hl : lv_has ls 4 [(0, .ref (ad 0)), (1, .int p1)] := hl
  refine lv_aload_n (pc := 0) hx hb dX11_noSeen_0 rfl (lv_at hl 0 rfl) ?_
  refine lv_iload_n (pc := 1) hx hb dX11_noSeen_1 rfl (lv_at hl 1 rfl) ?_
  obtain ⟨v1, hv1, hf⟩ := zc_1 hf
  refine zw_Vi (pc := 2) (wc := [zr_o ad f_thrown f_taped f_at f_behind f_size f_kind f_number f_wrong f_wrongAt f_faultKind f_faultPlace f_reading f_toldWhy f_x f_standMany f_bestMany f_tail f_round1, (ad 40, .inl (dA 0, 4, .inl b_rowSort))]) (wr := [(ad 41, .inl (dA 0, 4, .inl b_rowMany)), (ad 42, .inl (dA 1, 160, .inr (.inl b_numbers)))]) (w1 := [zr_o ad f_thrown f_taped f_at f_behind f_size f_kind f_number f_wrong f_wrongAt f_faultKind f_faultPlace f_reading f_toldWhy f_x f_standMany f_bestMany f_tail f_round1, (ad 40, .inl (dA 0, 4, .inl b_rowSort))]) (As := [.int p1]) (rest := []) ⟨hx, hb, hml, hown, ht⟩ (zt_X11_noTray l dC dI dA ad _ f_thrown f_taped f_at f_behind f_size f_kind f_number f_wrong f_wrongAt f_faultKind f_faultPlace f_reading f_toldWhy f_x f_standMany f_bestMany f_tail f_round1 b_rowSort p1 v1 hv1) (cwV 1 ht (zr_V zr_316 zr_317 zr_318 zr_36 zr_314) rfl rfl rfl zk_X11_noTray ⟨Nat.le_of_ble_eq_true rfl, Nat.le_of_ble_eq_true rfl⟩) rfl rfl hK hP hD hS hA [0, 1] [2, 3] (by decide) (by decide) (by decide) rfl rfl rfl hl.1 (Nat.le_of_ble_eq_true rfl) dX11_noSeen_2 ⟨Nat.zero_le _, Nat.zero_le _⟩ rfl (fun H locs hP hD hS => ?_)
  have hP : va_P (dC, dI) zz_cls [(ad 41, .inl (dA 0, 4, .inl b_rowMany)), (ad 42, .inl (dA 1, 160, .inr (.inl b_numbers))), zr_o ad f_thrown f_taped f_at f_behind f_size f_kind f_number f_wrong f_wrongAt f_faultKind f_faultPlace f_reading f_toldWhy f_x f_standMany f_bestMany f_tail f_round1, (ad 40, .inl (dA 0, 4, .inl b_rowSort))] H := hP
  have hD : va_D A [(ad 41, .inl (dA 0, 4, .inl b_rowMany)), (ad 42, .inl (dA 1, 160, .inr (.inl b_numbers))), zr_o ad f_thrown f_taped f_at f_behind f_size f_kind f_number f_wrong f_wrongAt f_faultKind f_faultPlace f_reading f_toldWhy f_x f_standMany f_bestMany f_tail f_round1, (ad 40, .inl (dA 0, 4, .inl b_rowSort))] := hD
  refine lv_istore_n (lv' := [(2, .int v1), (0, .ref (ad 0)), (1, .int p1)]) (pc := 5) hx hb dX11_noSeen_5 rfl hl (by decide) rfl (fun ls hl => ?_)
  refine lv_iload_n (pc := 6) hx hb dX11_noSeen_6 rfl (lv_at hl 0 rfl) ?_
  refine lv_if_eq (tgt := 12) (pc := 7) hx hb dX11_noSeen_7 rfl (fun hc => ?_) (fun hc => ?_)
  · have hf := za_t hf hc
    refine lv_aload_n (pc := 12) hx hb dX11_noSeen_12 rfl (lv_at hl 1 rfl) ?_
    refine va_get (pc := 13) (D := (dC, dI)) (ci := 0) (v := .ref (ad 41)) (C := RX11) (T := TX11) (N := 42) hx hb ht zr_lay hown hK hP 2 rfl rfl 40 (by decide) (ht _ zr_32) (fun _ h9 => h9) rfl dX11_noSeen_13 ?_
    refine lv_iload_n (pc := 16) hx hb dX11_noSeen_16 rfl (lv_at hl 2 rfl) ?_
    obtain ⟨v2, hv2, hf⟩ := zc_1 hf
    refine zw_iald (pc := 17) hx hb hK hP 0 0 rfl rfl hv2 dX11_noSeen_17 ?_
    refine lv_i2l (pc := 18) hx hb dX11_noSeen_18 rfl ?_
    refine lv_lconst (v := (1 : Int64)) (pc := 19) hx hb dX11_noSeen_19 (by decide) ?_
    refine lv_ldc2 (v := (6 : Int64)) (pc := 20) hx hb hown (ht _ zr_409) dX11_noSeen_20 ?_
    obtain ⟨v3, hv3, hf⟩ := zc_1 hf
    refine zw_Si (pc := 23) (wc := []) (wr := [(ad 41, .inl (dA 0, 4, .inl b_rowMany)), (ad 42, .inl (dA 1, 160, .inr (.inl b_numbers))), zr_o ad f_thrown f_taped f_at f_behind f_size f_kind f_number f_wrong f_wrongAt f_faultKind f_faultPlace f_reading f_toldWhy f_x f_standMany f_bestMany f_tail f_round1, (ad 40, .inl (dA 0, 4, .inl b_rowSort))]) (w1 := []) (As := [.long (Int32.toInt64 v2), .long (1 : Int64), .long (6 : Int64)]) (rest := []) ⟨hx, hb, hml, hown, ht⟩ (zt_X11_within l dC dI dA ad _ (Int32.toInt64 v2) (1 : Int64) (6 : Int64) v3 hv3) (cwS 3 ht (zr_S zr_124 zr_125 zr_36 zr_0) rfl rfl rfl zk_X11_within ⟨Nat.le_of_ble_eq_true rfl, Nat.le_of_ble_eq_true rfl⟩) hK hP hD hS hA [] [0, 1, 2, 3] (by decide) (by decide) (by decide) rfl rfl rfl hl.1 (Nat.le_of_ble_eq_true rfl) dX11_noSeen_23 ⟨Nat.zero_le _, Nat.zero_le _⟩ rfl (fun H locs hP hD hS => ?_)
    have hP : va_P (dC, dI) zz_cls [(ad 41, .inl (dA 0, 4, .inl b_rowMany)), (ad 42, .inl (dA 1, 160, .inr (.inl b_numbers))), zr_o ad f_thrown f_taped f_at f_behind f_size f_kind f_number f_wrong f_wrongAt f_faultKind f_faultPlace f_reading f_toldWhy f_x f_standMany f_bestMany f_tail f_round1, (ad 40, .inl (dA 0, 4, .inl b_rowSort))] H := hP
    have hD : va_D A [(ad 41, .inl (dA 0, 4, .inl b_rowMany)), (ad 42, .inl (dA 1, 160, .inr (.inl b_numbers))), zr_o ad f_thrown f_taped f_at f_behind f_size f_kind f_number f_wrong f_wrongAt f_faultKind f_faultPlace f_reading f_toldWhy f_x f_standMany f_bestMany f_tail f_round1, (ad 40, .inl (dA 0, 4, .inl b_rowSort))] := hD
    refine lv_if_ne (tgt := 32) (pc := 26) hx hb dX11_noSeen_26 rfl (fun hc => ?_) (fun hc => ?_)
    · have hf := za_f hf hc
      refine lv_iconst (v := (0 : Int32)) (pc := 32) hx hb dX11_noSeen_32 (by decide) ?_
      refine lv_istore_n (lv' := [(3, .int (0 : Int32)), (2, .int v1), (0, .ref (ad 0)), (1, .int p1)]) (pc := 33) hx hb dX11_noSeen_33 rfl hl (by decide) rfl (fun ls hl => ?_)
      obtain ⟨g10, v9, hj, hf⟩ := zc_2 hf
      refine zj_join (pcJ := 67) (stk := []) (X := fun H locs ls => g10 = 1 ∧ lv_has ls 4 [] ∧ va_P (dC, dI) zz_cls [zr_o ad f_thrown f_taped f_at f_behind f_size f_kind f_number f_wrong f_wrongAt f_faultKind f_faultPlace f_reading f_toldWhy f_x f_standMany f_bestMany f_tail f_round1, (ad 40, .inl (dA 0, 4, .inl b_rowSort)), (ad 41, .inl (dA 0, 4, .inl b_rowMany)), (ad 42, .inl (dA 1, 160, .inr (.inl b_numbers)))] H ∧ va_D A [zr_o ad f_thrown f_taped f_at f_behind f_size f_kind f_number f_wrong f_wrongAt f_faultKind f_faultPlace f_reading f_toldWhy f_x f_standMany f_bestMany f_tail f_round1, (ad 40, .inl (dA 0, 4, .inl b_rowSort)), (ad 41, .inl (dA 0, 4, .inl b_rowMany)), (ad 42, .inl (dA 1, 160, .inr (.inl b_numbers)))] ∧ va_S A s.heap H locs) (fun H locs ls hX => ?_) (fun E67 => ?_)
      · obtain ⟨htg, hl, hP, hD, hS⟩ := hX
        clear hj
        have hf := za_t hf htg
        refine lv_bipush (v := (-3 : Int32)) (pc := 67) hx hb dX11_noSeen_67 (by decide) ?_
        obtain rfl := Option.some.inj hf
        exact W.iret (pc := 69) hx hb hr (fun t ht hW => ⟨⟨_, (), rfl, rfl, zz_Bi (by rw [ht]; exact hP) (va_K.moved hW.alike hK) (hD)⟩, hS.F ht⟩) hS.2.2 dX11_noSeen_69
      refine zj_join (pcJ := 76) (stk := []) (X := fun H locs ls => g10 = 2 ∧ lv_has ls 4 [] ∧ va_P (dC, dI) zz_cls [zr_o ad f_thrown f_taped f_at f_behind f_size f_kind f_number f_wrong f_wrongAt f_faultKind f_faultPlace f_reading f_toldWhy f_x f_standMany f_bestMany f_tail f_round1, (ad 40, .inl (dA 0, 4, .inl b_rowSort)), (ad 41, .inl (dA 0, 4, .inl b_rowMany)), (ad 42, .inl (dA 1, 160, .inr (.inl b_numbers)))] H ∧ va_D A [zr_o ad f_thrown f_taped f_at f_behind f_size f_kind f_number f_wrong f_wrongAt f_faultKind f_faultPlace f_reading f_toldWhy f_x f_standMany f_bestMany f_tail f_round1, (ad 40, .inl (dA 0, 4, .inl b_rowSort)), (ad 41, .inl (dA 0, 4, .inl b_rowMany)), (ad 42, .inl (dA 1, 160, .inr (.inl b_numbers)))] ∧ va_S A s.heap H locs) (fun H locs ls hX => ?_) (fun E76 => ?_)
      · obtain ⟨htg, hl, hP, hD, hS⟩ := hX
        clear hj
        have hf := za_f hf (by rw [htg]; decide)
        have hf := za_t hf htg
        refine lv_iconst (v := (0 : Int32)) (pc := 76) hx hb dX11_noSeen_76 (by decide) ?_
        obtain rfl := Option.some.inj hf
        exact W.iret (pc := 77) hx hb hr (fun t ht hW => ⟨⟨_, (), rfl, rfl, zz_Bi (by rw [ht]; exact hP) (va_K.moved hW.alike hK) (hD)⟩, hS.F ht⟩) hS.2.2 dX11_noSeen_77
      clear hf
      refine zw_loop (pcH := 34) (X := fun v H locs ls => lv_has ls 4 [(0, .ref (ad 0)), (1, .int p1), (3, .int v)] ∧ va_P (dC, dI) zz_cls [zr_o ad f_thrown f_taped f_at f_behind f_size f_kind f_number f_wrong f_wrongAt f_faultKind f_faultPlace f_reading f_toldWhy f_x f_standMany f_bestMany f_tail f_round1, (ad 40, .inl (dA 0, 4, .inl b_rowSort)), (ad 41, .inl (dA 0, 4, .inl b_rowMany)), (ad 42, .inl (dA 1, 160, .inr (.inl b_numbers)))] H ∧ va_D A [zr_o ad f_thrown f_taped f_at f_behind f_size f_kind f_number f_wrong f_wrongAt f_faultKind f_faultPlace f_reading f_toldWhy f_x f_standMany f_bestMany f_tail f_round1, (ad 40, .inl (dA 0, 4, .inl b_rowSort)), (ad 41, .inl (dA 0, 4, .inl b_rowMany)), (ad 42, .inl (dA 1, 160, .inr (.inl b_numbers)))] ∧ va_S A s.heap H locs) hj (fun v w hf ih ex H locs ls hX => ?_) _ _ _ ⟨lv_sub hl [2, 3, 0] rfl, hP.sub [2, 3, 0, 1] rfl, hD.sub [2, 3, 0, 1] (by decide) rfl, hS⟩
      clear hj
      generalize v = v4 at hf hX
      obtain ⟨hl, hP, hD, hS⟩ := hX
      have hl : lv_has ls 4 [(0, .ref (ad 0)), (1, .int p1), (3, .int v4)] := hl
      have hP : va_P (dC, dI) zz_cls [zr_o ad f_thrown f_taped f_at f_behind f_size f_kind f_number f_wrong f_wrongAt f_faultKind f_faultPlace f_reading f_toldWhy f_x f_standMany f_bestMany f_tail f_round1, (ad 40, .inl (dA 0, 4, .inl b_rowSort)), (ad 41, .inl (dA 0, 4, .inl b_rowMany)), (ad 42, .inl (dA 1, 160, .inr (.inl b_numbers)))] H := hP
      have hD : va_D A [zr_o ad f_thrown f_taped f_at f_behind f_size f_kind f_number f_wrong f_wrongAt f_faultKind f_faultPlace f_reading f_toldWhy f_x f_standMany f_bestMany f_tail f_round1, (ad 40, .inl (dA 0, 4, .inl b_rowSort)), (ad 41, .inl (dA 0, 4, .inl b_rowMany)), (ad 42, .inl (dA 1, 160, .inr (.inl b_numbers)))] := hD
      replace hf : zb_X11_noSeen_34 b_rowMany p1 b_numbers v4 = some w := hf
      unfold zb_X11_noSeen_34 at hf
      refine lv_iload_n (pc := 34) hx hb dX11_noSeen_34 rfl (lv_at hl 2 rfl) ?_
      refine lv_aload_n (pc := 35) hx hb dX11_noSeen_35 rfl (lv_at hl 0 rfl) ?_
      refine va_get (pc := 36) (D := (dC, dI)) (ci := 0) (v := .ref (ad 41)) (C := RX11) (T := TX11) (N := 42) hx hb ht zr_lay hown hK hP 0 rfl rfl 40 (by decide) (ht _ zr_32) (fun _ h9 => h9) rfl dX11_noSeen_36 ?_
      refine lv_iload_n (pc := 39) hx hb dX11_noSeen_39 rfl (lv_at hl 1 rfl) ?_
      obtain ⟨v5, hv5, hf⟩ := zc_1 hf
      refine zw_iald (pc := 40) hx hb hK hP 2 0 rfl rfl hv5 dX11_noSeen_40 ?_
      refine lv_icmp_ge (tgt := 76) (pc := 41) hx hb dX11_noSeen_41 rfl (fun hc => ?_) (fun hc => ?_)
      · have hf := za_t hf hc
        obtain rfl := Option.some.inj hf
        obtain ⟨rfl, rfl⟩ := zp_2 (ex (show ¬ (2 : Nat) = 0 by decide))
        exact E76 _ _ _ ⟨rfl, lv_sub hl [] rfl, hP, hD, hS⟩
      · have hf := za_f hf hc
        refine lv_aload_n (pc := 44) hx hb dX11_noSeen_44 rfl (lv_at hl 0 rfl) ?_
        refine va_get (pc := 45) (D := (dC, dI)) (ci := 0) (v := .ref (ad 42)) (C := RX11) (T := TX11) (N := 42) hx hb ht zr_lay hown hK hP 0 rfl rfl 41 (by decide) (ht _ zr_33) (fun _ h9 => h9) rfl dX11_noSeen_45 ?_
        refine lv_bipush (v := (40 : Int32)) (pc := 48) hx hb dX11_noSeen_48 (by decide) ?_
        refine lv_iload_n (pc := 50) hx hb dX11_noSeen_50 rfl (lv_at hl 1 rfl) ?_
        refine lv_imul (pc := 51) hx hb dX11_noSeen_51 ?_
        refine lv_iload_n (pc := 52) hx hb dX11_noSeen_52 rfl (lv_at hl 2 rfl) ?_
        refine lv_iadd (pc := 53) hx hb dX11_noSeen_53 ?_
        obtain ⟨v6, hv6, hf⟩ := zc_1 hf
        refine zw_lald (pc := 54) hx hb hK hP 3 1 rfl rfl hv6 dX11_noSeen_54 ?_
        refine lv_ldc2 (v := (-1 : Int64)) (pc := 55) hx hb hown (ht _ zr_410) dX11_noSeen_55 ?_
        refine lv_ldc2 (v := (6 : Int64)) (pc := 58) hx hb hown (ht _ zr_409) dX11_noSeen_58 ?_
        obtain ⟨v7, hv7, hf⟩ := zc_1 hf
        refine zw_Si (pc := 61) (wc := []) (wr := [zr_o ad f_thrown f_taped f_at f_behind f_size f_kind f_number f_wrong f_wrongAt f_faultKind f_faultPlace f_reading f_toldWhy f_x f_standMany f_bestMany f_tail f_round1, (ad 40, .inl (dA 0, 4, .inl b_rowSort)), (ad 41, .inl (dA 0, 4, .inl b_rowMany)), (ad 42, .inl (dA 1, 160, .inr (.inl b_numbers)))]) (w1 := []) (As := [.long v6, .long (-1 : Int64), .long (6 : Int64)]) (rest := []) ⟨hx, hb, hml, hown, ht⟩ (zt_X11_within l dC dI dA ad _ v6 (-1 : Int64) (6 : Int64) v7 hv7) (cwS 3 ht (zr_S zr_124 zr_125 zr_36 zr_0) rfl rfl rfl zk_X11_within ⟨Nat.le_of_ble_eq_true rfl, Nat.le_of_ble_eq_true rfl⟩) hK hP hD hS hA [] [0, 1, 2, 3] (by decide) (by decide) (by decide) rfl rfl rfl hl.1 (Nat.le_of_ble_eq_true rfl) dX11_noSeen_61 ⟨Nat.zero_le _, Nat.zero_le _⟩ rfl (fun H locs hP hD hS => ?_)
        have hP : va_P (dC, dI) zz_cls [zr_o ad f_thrown f_taped f_at f_behind f_size f_kind f_number f_wrong f_wrongAt f_faultKind f_faultPlace f_reading f_toldWhy f_x f_standMany f_bestMany f_tail f_round1, (ad 40, .inl (dA 0, 4, .inl b_rowSort)), (ad 41, .inl (dA 0, 4, .inl b_rowMany)), (ad 42, .inl (dA 1, 160, .inr (.inl b_numbers)))] H := hP
        have hD : va_D A [zr_o ad f_thrown f_taped f_at f_behind f_size f_kind f_number f_wrong f_wrongAt f_faultKind f_faultPlace f_reading f_toldWhy f_x f_standMany f_bestMany f_tail f_round1, (ad 40, .inl (dA 0, 4, .inl b_rowSort)), (ad 41, .inl (dA 0, 4, .inl b_rowMany)), (ad 42, .inl (dA 1, 160, .inr (.inl b_numbers)))] := hD
        refine lv_if_ne (tgt := 70) (pc := 64) hx hb dX11_noSeen_64 rfl (fun hc => ?_) (fun hc => ?_)
        · have hf := za_f hf hc
          obtain ⟨v8, hv8, hf⟩ := zc_1 hf
          refine lv_iinc (v := v8) (lv' := [(3, .int v8), (0, .ref (ad 0)), (1, .int p1)]) (k := 2) (pc := 70) hx hb dX11_noSeen_70 hl rfl (Option.some.inj hv8) (by decide) rfl (fun ls hl => ?_)
          refine lv_goto (tgt := 34) (pc := 73) hx hb dX11_noSeen_73 rfl ?_
          obtain rfl := Option.some.inj hf
          exact ih rfl _ _ _ ⟨lv_sub hl [1, 2, 0] rfl, hP, hD, hS⟩
        · have hf := za_t hf hc
          obtain rfl := Option.some.inj hf
          obtain ⟨rfl, rfl⟩ := zp_2 (ex (show ¬ (1 : Nat) = 0 by decide))
          exact E67 _ _ _ ⟨rfl, lv_sub hl [] rfl, hP, hD, hS⟩
    · have hf := za_t hf hc
      refine lv_bipush (v := (-4 : Int32)) (pc := 29) hx hb dX11_noSeen_29 (by decide) ?_
      obtain rfl := Option.some.inj hf
      exact W.iret (pc := 31) hx hb hr (fun t ht hW => ⟨⟨_, (), rfl, rfl, zz_Bi (by rw [ht]; exact hP.sub [2, 3, 0, 1] rfl) (va_K.moved hW.alike hK) (hD.sub [2, 3, 0, 1] (by decide) rfl)⟩, hS.F ht⟩) hS.2.2 dX11_noSeen_31
  · have hf := za_f hf hc
    refine lv_iload_n (pc := 10) hx hb dX11_noSeen_10 rfl (lv_at hl 0 rfl) ?_
    obtain rfl := Option.some.inj hf
    exact W.iret (pc := 11) hx hb hr (fun t ht hW => ⟨⟨_, (), rfl, rfl, zz_Bi (by rw [ht]; exact hP.sub [2, 3, 0, 1] rfl) (va_K.moved hW.alike hK) (hD.sub [2, 3, 0, 1] (by decide) rfl)⟩, hS.F ht⟩) hS.2.2 dX11_noSeen_11

def zf_X11_isSeen (n : Nat) (b_numbers : (Nat → Int64)) (p1 : Int32) (p2 : Int32) (p3 : Int32) : Option (Int32) :=
  zd_1 (za_ld b_numbers 160 (((40 : Int32) * p1) + p2)) (fun v1 =>
  if (lg_cmp v1 (-1 : Int64)) = 0 then
    some (1 : Int32)
  else
    zd_1 (za_ld b_numbers 160 (((40 : Int32) * p1) + p2)) (fun v2 =>
    zd_1 (zf_X11_hasIn p3) (fun v3 =>
    zd_1 (zf_X11_bitsOf n v3) (fun v4 =>
    if (lg_cmp v2 (Int32.toInt64 v4)) = 0 then
      some (1 : Int32)
    else
      some (0 : Int32)))))
theorem zk_X11_isSeen : yX11_isSeen.cls = RX11 ∧ yX11_isSeen.cls ≠ "java/lang/invoke/MethodHandle" ∧ yX11_isSeen.cls ≠ "java/lang/invoke/VarHandle" ∧ (parseMethodDescriptor yX11_isSeen.desc).map (fun d => d.parameters.length) = some 3 := by decide +kernel
set_option maxHeartbeats 4000000 in
set_option maxRecDepth 100000 in
theorem zt_X11_isSeen (l : Launch) (dC : Nat → ClassId) (dI : Nat → Nat → Nat) (dA : Nat → ClassId) (ad : Nat → Nat) (sz : Nat) (n : Nat) (f_thrown f_taped f_at f_behind f_size f_kind f_number f_wrong f_wrongAt f_faultKind f_faultPlace f_reading f_toldWhy f_x f_standMany f_bestMany f_tail f_round1 : Int32) (b_numbers : (Nat → Int64)) (p1 : Int32) (p2 : Int32) (p3 : Int32) (r0 : Int32) (hf : zf_X11_isSeen n b_numbers p1 p2 p3 = some r0) : Met l yX11_isSeen (.code yX11_isSeen cX11_isSeen 4 (some .boolean) :: zr_T) ({ frames := 1, cells := 0, slots := 0, locals := 22 }) (va_Pc [.ref (ad 0), .int p1, .int p2, .int p3] (zz_M dC dI dA [zr_o ad f_thrown f_taped f_at f_behind f_size f_kind f_number f_wrong f_wrongAt f_faultKind f_faultPlace f_reading f_toldWhy f_x f_standMany f_bestMany f_tail f_round1, (ad 42, .inl (dA 1, 160, .inr (.inl b_numbers)))] sz)) (va_Qi (fun (r : Int32) (_ : Unit) => r = r0) (fun _ t => zz_B dC dI dA (va_A [zr_o ad f_thrown f_taped f_at f_behind f_size f_kind f_number f_wrong f_wrongAt f_faultKind f_faultPlace f_reading f_toldWhy f_x f_standMany f_bestMany f_tail f_round1, (ad 42, .inl (dA 1, 160, .inr (.inl b_numbers)))] sz) [zr_o ad f_thrown f_taped f_at f_behind f_size f_kind f_number f_wrong f_wrongAt f_faultKind f_faultPlace f_reading f_toldWhy f_x f_standMany f_bestMany f_tail f_round1, (ad 42, .inl (dA 1, 160, .inr (.inl b_numbers)))] t) (va_A [zr_o ad f_thrown f_taped f_at f_behind f_size f_kind f_number f_wrong f_wrongAt f_faultKind f_faultPlace f_reading f_toldWhy f_x f_standMany f_bestMany f_tail f_round1, (ad 42, .inl (dA 1, 160, .inr (.inl b_numbers)))] sz)) 0 0 (va_A [zr_o ad f_thrown f_taped f_at f_behind f_size f_kind f_number f_wrong f_wrongAt f_faultKind f_faultPlace f_reading f_toldWhy f_x f_standMany f_bestMany f_tail f_round1, (ad 42, .inl (dA 1, 160, .inr (.inl b_numbers)))] sz) := by
  unfold zf_X11_isSeen at hf
  refine Met.ofW (cc := cX11_isSeen) (maxL := 4) (ret := (some .boolean)) (by decide) rfl ?_
  intro p e s m args below meth c s₁ B hml hv
  obtain ⟨rfl, hsz, hP, hK, hD0⟩ := hv
  have hx := B.exec
  have hb := B.bytes
  have hr := B.returns
  have ht : ∀ w ∈ zr_T, w.before ([.ref (ad 0), .int p1, .int p2, .int p3] : List Value).toArray s = true := fun w hw => atoms_spec (ws := .code yX11_isSeen cX11_isSeen 4 (some .boolean) :: zr_T) B.pre w (List.mem_cons_of_mem _ hw)
  have hown : s.vm.findClass RX11 = some m.cls := findClass_of_methodNamed B.named
  have hlocks := B.notSynchronized
  subst hsz
  have hD := hD0.self (sz := s.heap.size)
  generalize hAe : va_A [zr_o ad f_thrown f_taped f_at f_behind f_size f_kind f_number f_wrong f_wrongAt f_faultKind f_faultPlace f_reading f_toldWhy f_x f_standMany f_bestMany f_tail f_round1, (ad 42, .inl (dA 1, 160, .inr (.inl b_numbers)))] s.heap.size = A at hD ⊢
  have hA : ∀ q : Nat, s.heap.size ≤ q → A q := fun q h => by rw [← hAe]; exact Or.inr h
  clear hAe hD0
  have hS : va_S A s.heap s.heap [] := va_S.rf
  have hl := lv_entry ([.ref (ad 0), .int p1, .int p2, .int p3]) (n := 4) (Nat.le_of_ble_eq_true rfl)
  rw [lg_entry_eq]
  generalize (lg_sl ([.ref (ad 0), .int p1, .int p2, .int p3]) ++ List.replicate (4 - (lg_sl ([.ref (ad 0), .int p1, .int p2, .int p3])).length) Slot.unset).toArray = ls at hl ⊢
  have hl : lv_has ls 4 [(0, .ref (ad 0)), (1, .int p1), (2, .int p2), (3, .int p3)] := hl
  refine lv_aload_n (pc := 0) hx hb dX11_isSeen_0 rfl (lv_at hl 0 rfl) ?_
  refine va_get (pc := 1) (D := (dC, dI)) (ci := 0) (v := .ref (ad 42)) (C := RX11) (T := TX11) (N := 42) hx hb ht zr_lay hown hK hP 0 rfl rfl 41 (by decide) (ht _ zr_33) (fun _ h9 => h9) rfl dX11_isSeen_1 ?_
  refine lv_bipush (v := (40 : Int32)) (pc := 4) hx hb dX11_isSeen_4 (by decide) ?_
  refine lv_iload_n (pc := 6) hx hb dX11_isSeen_6 rfl (lv_at hl 1 rfl) ?_
  refine lv_imul (pc := 7) hx hb dX11_isSeen_7 ?_
  refine lv_iload_n (pc := 8) hx hb dX11_isSeen_8 rfl (lv_at hl 2 rfl) ?_
  refine lv_iadd (pc := 9) hx hb dX11_isSeen_9 ?_
  obtain ⟨v1, hv1, hf⟩ := zc_1 hf
  refine zw_lald (pc := 10) hx hb hK hP 1 1 rfl rfl hv1 dX11_isSeen_10 ?_
  refine lv_ldc2 (v := (-1 : Int64)) (pc := 11) hx hb hown (ht _ zr_410) dX11_isSeen_11 ?_
  refine W.lcmp (pc := 14) hx hb dX11_isSeen_14 ?_
  refine lv_if_eq (tgt := 41) (pc := 15) hx hb dX11_isSeen_15 rfl (fun hc => ?_) (fun hc => ?_)
  · have hf := za_t hf hc
    refine lv_iconst (v := (1 : Int32)) (pc := 41) hx hb dX11_isSeen_41 (by decide) ?_
    refine lv_goto (tgt := 46) (pc := 42) hx hb dX11_isSeen_42 rfl ?_
    obtain rfl := Option.some.inj hf
    exact W.zret (pc := 46) hx hb hr rfl (fun t ht hW => ⟨⟨_, (), rfl, rfl, zz_Bi (by rw [ht]; exact hP) (va_K.moved hW.alike hK) (hD)⟩, hS.F ht⟩) hS.2.2 dX11_isSeen_46
  · have hf := za_f hf hc
    refine lv_aload_n (pc := 18) hx hb dX11_isSeen_18 rfl (lv_at hl 0 rfl) ?_
    refine va_get (pc := 19) (D := (dC, dI)) (ci := 0) (v := .ref (ad 42)) (C := RX11) (T := TX11) (N := 42) hx hb ht zr_lay hown hK hP 0 rfl rfl 41 (by decide) (ht _ zr_33) (fun _ h9 => h9) rfl dX11_isSeen_19 ?_
    refine lv_bipush (v := (40 : Int32)) (pc := 22) hx hb dX11_isSeen_22 (by decide) ?_
    refine lv_iload_n (pc := 24) hx hb dX11_isSeen_24 rfl (lv_at hl 1 rfl) ?_
    refine lv_imul (pc := 25) hx hb dX11_isSeen_25 ?_
    refine lv_iload_n (pc := 26) hx hb dX11_isSeen_26 rfl (lv_at hl 2 rfl) ?_
    refine lv_iadd (pc := 27) hx hb dX11_isSeen_27 ?_
    obtain ⟨v2, hv2, hf⟩ := zc_1 hf
    refine zw_lald (pc := 28) hx hb hK hP 1 1 rfl rfl hv2 dX11_isSeen_28 ?_
    refine lv_iload_n (pc := 29) hx hb dX11_isSeen_29 rfl (lv_at hl 3 rfl) ?_
    obtain ⟨v3, hv3, hf⟩ := zc_1 hf
    refine zw_Si (pc := 30) (wc := []) (wr := [zr_o ad f_thrown f_taped f_at f_behind f_size f_kind f_number f_wrong f_wrongAt f_faultKind f_faultPlace f_reading f_toldWhy f_x f_standMany f_bestMany f_tail f_round1, (ad 42, .inl (dA 1, 160, .inr (.inl b_numbers)))]) (w1 := []) (As := [.int p3]) (rest := [.long v2]) ⟨hx, hb, hml, hown, ht⟩ (zt_X11_hasIn l dC dI dA ad _ p3 v3 hv3) (cwS 1 ht (zr_S zr_219 zr_220 zr_36 zr_211) rfl rfl rfl zk_X11_hasIn ⟨Nat.le_of_ble_eq_true rfl, Nat.le_of_ble_eq_true rfl⟩) hK hP hD hS hA [] [0, 1] (by decide) (by decide) (by decide) rfl rfl rfl hl.1 (Nat.le_of_ble_eq_true rfl) dX11_isSeen_30 ⟨Nat.zero_le _, Nat.zero_le _⟩ rfl (fun H locs hP hD hS => ?_)
    have hP : va_P (dC, dI) zz_cls [zr_o ad f_thrown f_taped f_at f_behind f_size f_kind f_number f_wrong f_wrongAt f_faultKind f_faultPlace f_reading f_toldWhy f_x f_standMany f_bestMany f_tail f_round1, (ad 42, .inl (dA 1, 160, .inr (.inl b_numbers)))] H := hP
    have hD : va_D A [zr_o ad f_thrown f_taped f_at f_behind f_size f_kind f_number f_wrong f_wrongAt f_faultKind f_faultPlace f_reading f_toldWhy f_x f_standMany f_bestMany f_tail f_round1, (ad 42, .inl (dA 1, 160, .inr (.inl b_numbers)))] := hD
    obtain ⟨v4, hv4, hf⟩ := zc_1 hf
    refine zw_Si (pc := 33) (wc := []) (wr := [zr_o ad f_thrown f_taped f_at f_behind f_size f_kind f_number f_wrong f_wrongAt f_faultKind f_faultPlace f_reading f_toldWhy f_x f_standMany f_bestMany f_tail f_round1, (ad 42, .inl (dA 1, 160, .inr (.inl b_numbers)))]) (w1 := []) (As := [.int v3]) (rest := [.long v2]) ⟨hx, hb, hml, hown, ht⟩ (zt_X11_bitsOf l dC dI dA ad _ n v3 v4 hv4) (cwS 1 ht (zr_S zr_225 zr_226 zr_36 zr_209) rfl rfl rfl zk_X11_bitsOf ⟨Nat.le_of_ble_eq_true rfl, Nat.le_of_ble_eq_true rfl⟩) hK hP hD hS hA [] [0, 1] (by decide) (by decide) (by decide) rfl rfl rfl hl.1 (Nat.le_of_ble_eq_true rfl) dX11_isSeen_33 ⟨Nat.zero_le _, Nat.zero_le _⟩ rfl (fun H locs hP hD hS => ?_)
    have hP : va_P (dC, dI) zz_cls [zr_o ad f_thrown f_taped f_at f_behind f_size f_kind f_number f_wrong f_wrongAt f_faultKind f_faultPlace f_reading f_toldWhy f_x f_standMany f_bestMany f_tail f_round1, (ad 42, .inl (dA 1, 160, .inr (.inl b_numbers)))] H := hP
    have hD : va_D A [zr_o ad f_thrown f_taped f_at f_behind f_size f_kind f_number f_wrong f_wrongAt f_faultKind f_faultPlace f_reading f_toldWhy f_x f_standMany f_bestMany f_tail f_round1, (ad 42, .inl (dA 1, 160, .inr (.inl b_numbers)))] := hD
    refine lv_i2l (pc := 36) hx hb dX11_isSeen_36 rfl ?_
    refine W.lcmp (pc := 37) hx hb dX11_isSeen_37 ?_
    refine lv_if_ne (tgt := 45) (pc := 38) hx hb dX11_isSeen_38 rfl (fun hc => ?_) (fun hc => ?_)
    · have hf := za_f hf hc
      refine lv_iconst (v := (0 : Int32)) (pc := 45) hx hb dX11_isSeen_45 (by decide) ?_
      obtain rfl := Option.some.inj hf
      exact W.zret (pc := 46) hx hb hr rfl (fun t ht hW => ⟨⟨_, (), rfl, rfl, zz_Bi (by rw [ht]; exact hP) (va_K.moved hW.alike hK) (hD)⟩, hS.F ht⟩) hS.2.2 dX11_isSeen_46
    · have hf := za_t hf hc
      refine lv_iconst (v := (1 : Int32)) (pc := 41) hx hb dX11_isSeen_41 (by decide) ?_
      refine lv_goto (tgt := 46) (pc := 42) hx hb dX11_isSeen_42 rfl ?_
      obtain rfl := Option.some.inj hf
      exact W.zret (pc := 46) hx hb hr rfl (fun t ht hW => ⟨⟨_, (), rfl, rfl, zz_Bi (by rw [ht]; exact hP) (va_K.moved hW.alike hK) (hD)⟩, hS.F ht⟩) hS.2.2 dX11_isSeen_46

def zb_X11_laysSeen_10 (f_standMany : Int32) (b_stand : (Nat → Int32)) (p2 : Int32) (v1 : Int32) (v2 : Int32) (a3 : (Nat → Int64)) : Option (Nat × Int32 × (Nat → Int64)) :=
  if f_standMany ≤ v2 then
    some (1, v2, a3)
  else
    zd_1 (za_ld b_stand 2880 v2) (fun v4 =>
    zd_1 (
      if p2 = (-1 : Int32) then
        some (1 : Int64)
      else
        zd_1 (za_ld b_stand 2880 v2) (fun v5 =>
        zd_1 (zf_X11_hasIn v5) (fun v6 =>
        zd_1 (zf_X11_isIn (Int32.toInt64 v6) p2) (fun v7 =>
        if v7 = 0 then
          some (1 : Int64)
        else
          some (0 : Int64))))) (fun v8 =>
    zd_1 (za_st a3 20160 (((2880 : Int32) * v1) + v4) v8) (fun a9 =>
    zd_1 (some (v2 + (1 : Int32))) (fun v10 =>
    some (0, v10, a9)))))
def zb_X11_laysSeen_99 (b_stand : (Nat → Int32)) (v17 : Int32) (b_then : (Nat → Int32)) (n : Nat) (b_numbers : (Nat → Int64)) (p1 : Int32) (v15 : Int32) (a18 : (Nat → Int64)) (v19 : Int64) (v20 : Int32) : Option (Nat × Int64 × Int32) :=
  if (15 : Int32) ≤ v20 then
    some (1, v19, v20)
  else
    zd_1 (za_ld b_stand 2880 v17) (fun v21 =>
    zd_1 (za_ld b_then 43200 (((15 : Int32) * v21) + v20)) (fun v22 =>
    zd_1 (
      if v22 = (-1 : Int32) then
        some v19
      else
        zd_1 (zf_X11_isSeen n b_numbers p1 v15 v22) (fun v23 =>
        if v23 = 0 then
          some v19
        else
          zd_1 (za_ld a18 20160 (((2880 : Int32) * (v15 + (1 : Int32))) + v22)) (fun v24 =>
          zd_1 (some ((v19 + v24))) (fun v25 =>
          some v25)))) (fun v26 =>
    zd_1 (some (v20 + (1 : Int32))) (fun v27 =>
    some (0, v26, v27)))))
def zb_X11_laysSeen_84 (f_standMany : Int32) (b_stand : (Nat → Int32)) (b_then : (Nat → Int32)) (n : Nat) (b_numbers : (Nat → Int64)) (p1 : Int32) (v15 : Int32) (v17 : Int32) (a18 : (Nat → Int64)) : Option (Nat × Int32 × (Nat → Int64)) :=
  if f_standMany ≤ v17 then
    some (1, v17, a18)
  else
    zd_3 (za_it (fun v => zb_X11_laysSeen_99 b_stand v17 b_then n b_numbers p1 v15 a18 v.1 v.2) n ((0 : Int64), (0 : Int32))) (fun g30 v28 v29 =>
    zd_1 (za_ld b_stand 2880 v17) (fun v31 =>
    zd_1 (za_st a18 20160 (((2880 : Int32) * v15) + v31) v28) (fun a32 =>
    zd_1 (some (v17 + (1 : Int32))) (fun v33 =>
    some (0, v33, a32)))))
def zb_X11_laysSeen_76 (f_standMany : Int32) (b_stand : (Nat → Int32)) (b_then : (Nat → Int32)) (n : Nat) (b_numbers : (Nat → Int64)) (p1 : Int32) (v15 : Int32) (a16 : (Nat → Int64)) : Option (Nat × Int32 × (Nat → Int64)) :=
  if v15 < 0 then
    some (1, v15, a16)
  else
    zd_3 (za_it (fun v => zb_X11_laysSeen_84 f_standMany b_stand b_then n b_numbers p1 v15 v.1 v.2) n ((0 : Int32), a16)) (fun g36 v34 a35 =>
    zd_1 (some (v15 + (-1 : Int32))) (fun v37 =>
    some (0, v37, a35)))
def zf_X11_laysSeen (n : Nat) (f_standMany : Int32) (b_all : (Nat → Int32)) (b_stand : (Nat → Int32)) (b_then : (Nat → Int32)) (b_on : (Nat → Int64)) (b_rowMany : (Nat → Int32)) (b_numbers : (Nat → Int64)) (p1 : Int32) (p2 : Int32) : Option (Int64 × (Nat → Int64)) :=
  zd_1 (za_ld b_rowMany 4 p1) (fun v1 =>
  zd_3 (za_it (fun v => zb_X11_laysSeen_10 f_standMany b_stand p2 v1 v.1 v.2) n ((0 : Int32), b_on)) (fun g13 v11 a12 =>
  zd_1 (some ((v1 - (1 : Int32)))) (fun v14 =>
  zd_3 (za_it (fun v => zb_X11_laysSeen_76 f_standMany b_stand b_then n b_numbers p1 v.1 v.2) n (v14, a12)) (fun g40 v38 a39 =>
  zd_1 (zf_X11_standNow b_all) (fun v41 =>
  zd_1 (za_ld a39 20160 v41) (fun v42 =>
  some (v42, a39)))))))
theorem zk_X11_laysSeen : yX11_laysSeen.cls = RX11 ∧ yX11_laysSeen.cls ≠ "java/lang/invoke/MethodHandle" ∧ yX11_laysSeen.cls ≠ "java/lang/invoke/VarHandle" ∧ (parseMethodDescriptor yX11_laysSeen.desc).map (fun d => d.parameters.length) = some 2 := by decide +kernel
set_option maxHeartbeats 4000000 in
set_option maxRecDepth 100000 in
theorem zt_X11_laysSeen (l : Launch) (dC : Nat → ClassId) (dI : Nat → Nat → Nat) (dA : Nat → ClassId) (ad : Nat → Nat) (sz : Nat) (n : Nat) (f_thrown f_taped f_at f_behind f_size f_kind f_number f_wrong f_wrongAt f_faultKind f_faultPlace f_reading f_toldWhy f_x f_standMany f_bestMany f_tail f_round1 : Int32) (b_all : (Nat → Int32)) (b_stand : (Nat → Int32)) (b_then : (Nat → Int32)) (b_on : (Nat → Int64)) (b_rowMany : (Nat → Int32)) (b_numbers : (Nat → Int64)) (p1 : Int32) (p2 : Int32) (r0 : Int64) (o1 : (Nat → Int64)) (hf : zf_X11_laysSeen n f_standMany b_all b_stand b_then b_on b_rowMany b_numbers p1 p2 = some (r0, o1)) : Met l yX11_laysSeen (.code yX11_laysSeen cX11_laysSeen 10 (some .long) :: zr_T) ({ frames := 2, cells := 0, slots := 0, locals := 45 }) (va_Pc [.ref (ad 0), .int p1, .int p2] (zz_M dC dI dA [zr_o ad f_thrown f_taped f_at f_behind f_size f_kind f_number f_wrong f_wrongAt f_faultKind f_faultPlace f_reading f_toldWhy f_x f_standMany f_bestMany f_tail f_round1, (ad 2, .inl (dA 0, 2982, .inl b_all)), (ad 22, .inl (dA 0, 2880, .inl b_stand)), (ad 23, .inl (dA 0, 43200, .inl b_then)), (ad 36, .inl (dA 1, 20160, .inr (.inl b_on))), (ad 41, .inl (dA 0, 4, .inl b_rowMany)), (ad 42, .inl (dA 1, 160, .inr (.inl b_numbers)))] sz)) (va_Ql (fun (r : Int64) (_ : Unit) => r = r0) (fun _ t => zz_B dC dI dA (va_A [zr_o ad f_thrown f_taped f_at f_behind f_size f_kind f_number f_wrong f_wrongAt f_faultKind f_faultPlace f_reading f_toldWhy f_x f_standMany f_bestMany f_tail f_round1, (ad 2, .inl (dA 0, 2982, .inl b_all)), (ad 22, .inl (dA 0, 2880, .inl b_stand)), (ad 23, .inl (dA 0, 43200, .inl b_then)), (ad 36, .inl (dA 1, 20160, .inr (.inl b_on))), (ad 41, .inl (dA 0, 4, .inl b_rowMany)), (ad 42, .inl (dA 1, 160, .inr (.inl b_numbers)))] sz) [zr_o ad f_thrown f_taped f_at f_behind f_size f_kind f_number f_wrong f_wrongAt f_faultKind f_faultPlace f_reading f_toldWhy f_x f_standMany f_bestMany f_tail f_round1, (ad 2, .inl (dA 0, 2982, .inl b_all)), (ad 22, .inl (dA 0, 2880, .inl b_stand)), (ad 23, .inl (dA 0, 43200, .inl b_then)), (ad 36, .inl (dA 1, 20160, .inr (.inl o1))), (ad 41, .inl (dA 0, 4, .inl b_rowMany)), (ad 42, .inl (dA 1, 160, .inr (.inl b_numbers)))] t) (va_A [zr_o ad f_thrown f_taped f_at f_behind f_size f_kind f_number f_wrong f_wrongAt f_faultKind f_faultPlace f_reading f_toldWhy f_x f_standMany f_bestMany f_tail f_round1, (ad 2, .inl (dA 0, 2982, .inl b_all)), (ad 22, .inl (dA 0, 2880, .inl b_stand)), (ad 23, .inl (dA 0, 43200, .inl b_then)), (ad 36, .inl (dA 1, 20160, .inr (.inl b_on))), (ad 41, .inl (dA 0, 4, .inl b_rowMany)), (ad 42, .inl (dA 1, 160, .inr (.inl b_numbers)))] sz)) 0 0 (va_A [zr_o ad f_thrown f_taped f_at f_behind f_size f_kind f_number f_wrong f_wrongAt f_faultKind f_faultPlace f_reading f_toldWhy f_x f_standMany f_bestMany f_tail f_round1, (ad 2, .inl (dA 0, 2982, .inl b_all)), (ad 22, .inl (dA 0, 2880, .inl b_stand)), (ad 23, .inl (dA 0, 43200, .inl b_then)), (ad 36, .inl (dA 1, 20160, .inr (.inl b_on))), (ad 41, .inl (dA 0, 4, .inl b_rowMany)), (ad 42, .inl (dA 1, 160, .inr (.inl b_numbers)))] sz) := by
  unfold zf_X11_laysSeen at hf
  refine Met.ofW (cc := cX11_laysSeen) (maxL := 10) (ret := (some .long)) (by decide) rfl ?_
  intro p e s m args below meth c s₁ B hml hv
  obtain ⟨rfl, hsz, hP, hK, hD0⟩ := hv
  have hx := B.exec
  have hb := B.bytes
  have hr := B.returns
  have ht : ∀ w ∈ zr_T, w.before ([.ref (ad 0), .int p1, .int p2] : List Value).toArray s = true := fun w hw => atoms_spec (ws := .code yX11_laysSeen cX11_laysSeen 10 (some .long) :: zr_T) B.pre w (List.mem_cons_of_mem _ hw)
  have hown : s.vm.findClass RX11 = some m.cls := findClass_of_methodNamed B.named
  have hlocks := B.notSynchronized
  subst hsz
  have hD := hD0.self (sz := s.heap.size)
  generalize hAe : va_A [zr_o ad f_thrown f_taped f_at f_behind f_size f_kind f_number f_wrong f_wrongAt f_faultKind f_faultPlace f_reading f_toldWhy f_x f_standMany f_bestMany f_tail f_round1, (ad 2, .inl (dA 0, 2982, .inl b_all)), (ad 22, .inl (dA 0, 2880, .inl b_stand)), (ad 23, .inl (dA 0, 43200, .inl b_then)), (ad 36, .inl (dA 1, 20160, .inr (.inl b_on))), (ad 41, .inl (dA 0, 4, .inl b_rowMany)), (ad 42, .inl (dA 1, 160, .inr (.inl b_numbers)))] s.heap.size = A at hD ⊢
  have hA : ∀ q : Nat, s.heap.size ≤ q → A q := fun q h => by rw [← hAe]; exact Or.inr h
  clear hAe hD0
  have hS : va_S A s.heap s.heap [] := va_S.rf
  have hl := lv_entry ([.ref (ad 0), .int p1, .int p2]) (n := 10) (Nat.le_of_ble_eq_true rfl)
  rw [lg_entry_eq]
  generalize (lg_sl ([.ref (ad 0), .int p1, .int p2]) ++ List.replicate (10 - (lg_sl ([.ref (ad 0), .int p1, .int p2])).length) Slot.unset).toArray = ls at hl ⊢
  have hl : lv_has ls 10 [(0, .ref (ad 0)), (1, .int p1), (2, .int p2)] := hl
  refine lv_aload_n (pc := 0) hx hb dX11_laysSeen_0 rfl (lv_at hl 0 rfl) ?_
  refine va_get (pc := 1) (D := (dC, dI)) (ci := 0) (v := .ref (ad 41)) (C := RX11) (T := TX11) (N := 42) hx hb ht zr_lay hown hK hP 0 rfl rfl 40 (by decide) (ht _ zr_32) (fun _ h9 => h9) rfl dX11_laysSeen_1 ?_
  refine lv_iload_n (pc := 4) hx hb dX11_laysSeen_4 rfl (lv_at hl 1 rfl) ?_
  obtain ⟨v1, hv1, hf⟩ := zc_1 hf
  refine zw_iald (pc := 5) hx hb hK hP 5 0 rfl rfl hv1 dX11_laysSeen_5 ?_
  refine lv_istore_n (lv' := [(3, .int v1), (0, .ref (ad 0)), (1, .int p1), (2, .int p2)]) (pc := 6) hx hb dX11_laysSeen_6 rfl hl (by decide) rfl (fun ls hl => ?_)
  refine lv_iconst (v := (0 : Int32)) (pc := 7) hx hb dX11_laysSeen_7 (by decide) ?_
  refine lv_istore (lv' := [(4, .int (0 : Int32)), (3, .int v1), (0, .ref (ad 0)), (1, .int p1), (2, .int p2)]) (pc := 8) hx hb dX11_laysSeen_8 hl (by decide) rfl (fun ls hl => ?_)
  obtain ⟨g13, v11, a12, hj, hf⟩ := zc_3 hf
  refine zj_join (pcJ := 71) (stk := []) (X := fun H locs ls => lv_has ls 10 [(0, .ref (ad 0)), (1, .int p1), (3, .int v1)] ∧ va_P (dC, dI) zz_cls [zr_o ad f_thrown f_taped f_at f_behind f_size f_kind f_number f_wrong f_wrongAt f_faultKind f_faultPlace f_reading f_toldWhy f_x f_standMany f_bestMany f_tail f_round1, (ad 2, .inl (dA 0, 2982, .inl b_all)), (ad 22, .inl (dA 0, 2880, .inl b_stand)), (ad 23, .inl (dA 0, 43200, .inl b_then)), (ad 36, .inl (dA 1, 20160, .inr (.inl a12))), (ad 41, .inl (dA 0, 4, .inl b_rowMany)), (ad 42, .inl (dA 1, 160, .inr (.inl b_numbers)))] H ∧ va_D A [zr_o ad f_thrown f_taped f_at f_behind f_size f_kind f_number f_wrong f_wrongAt f_faultKind f_faultPlace f_reading f_toldWhy f_x f_standMany f_bestMany f_tail f_round1, (ad 2, .inl (dA 0, 2982, .inl b_all)), (ad 22, .inl (dA 0, 2880, .inl b_stand)), (ad 23, .inl (dA 0, 43200, .inl b_then)), (ad 36, .inl (dA 1, 20160, .inr (.inl a12))), (ad 41, .inl (dA 0, 4, .inl b_rowMany)), (ad 42, .inl (dA 1, 160, .inr (.inl b_numbers)))] ∧ va_S A s.heap H locs) (fun H locs ls hX => ?_) (fun E71 => ?_)
  · obtain ⟨hl, hP, hD, hS⟩ := hX
    clear hj
    refine lv_iload_n (pc := 71) hx hb dX11_laysSeen_71 rfl (lv_at hl 2 rfl) ?_
    refine lv_iconst (v := (1 : Int32)) (pc := 72) hx hb dX11_laysSeen_72 (by decide) ?_
    refine lv_isub (pc := 73) hx hb dX11_laysSeen_73 ?_
    obtain ⟨v14, hv14, hf⟩ := zc_1 hf
    refine zw_top (hv14) ?_
    refine lv_istore (lv' := [(4, .int v14), (0, .ref (ad 0)), (1, .int p1), (3, .int v1)]) (pc := 74) hx hb dX11_laysSeen_74 hl (by decide) rfl (fun ls hl => ?_)
    obtain ⟨g40, v38, a39, hj, hf⟩ := zc_3 hf
    refine zj_join (pcJ := 204) (stk := []) (X := fun H locs ls => lv_has ls 10 [(0, .ref (ad 0))] ∧ va_P (dC, dI) zz_cls [zr_o ad f_thrown f_taped f_at f_behind f_size f_kind f_number f_wrong f_wrongAt f_faultKind f_faultPlace f_reading f_toldWhy f_x f_standMany f_bestMany f_tail f_round1, (ad 2, .inl (dA 0, 2982, .inl b_all)), (ad 22, .inl (dA 0, 2880, .inl b_stand)), (ad 23, .inl (dA 0, 43200, .inl b_then)), (ad 36, .inl (dA 1, 20160, .inr (.inl a39))), (ad 41, .inl (dA 0, 4, .inl b_rowMany)), (ad 42, .inl (dA 1, 160, .inr (.inl b_numbers)))] H ∧ va_D A [zr_o ad f_thrown f_taped f_at f_behind f_size f_kind f_number f_wrong f_wrongAt f_faultKind f_faultPlace f_reading f_toldWhy f_x f_standMany f_bestMany f_tail f_round1, (ad 2, .inl (dA 0, 2982, .inl b_all)), (ad 22, .inl (dA 0, 2880, .inl b_stand)), (ad 23, .inl (dA 0, 43200, .inl b_then)), (ad 36, .inl (dA 1, 20160, .inr (.inl a39))), (ad 41, .inl (dA 0, 4, .inl b_rowMany)), (ad 42, .inl (dA 1, 160, .inr (.inl b_numbers)))] ∧ va_S A s.heap H locs) (fun H locs ls hX => ?_) (fun E204 => ?_)
    · obtain ⟨hl, hP, hD, hS⟩ := hX
      clear hj
      refine lv_aload_n (pc := 204) hx hb dX11_laysSeen_204 rfl (lv_at hl 0 rfl) ?_
      refine va_get (pc := 205) (D := (dC, dI)) (ci := 0) (v := .ref (ad 36)) (C := RX11) (T := TX11) (N := 42) hx hb ht zr_lay hown hK hP 0 rfl rfl 35 (by decide) (ht _ zr_27) (fun _ h9 => h9) rfl dX11_laysSeen_205 ?_
      refine lv_aload_n (pc := 208) hx hb dX11_laysSeen_208 rfl (lv_at hl 0 rfl) ?_
      obtain ⟨v41, hv41, hf⟩ := zc_1 hf
      refine zw_Vi (pc := 209) (wc := [zr_o ad f_thrown f_taped f_at f_behind f_size f_kind f_number f_wrong f_wrongAt f_faultKind f_faultPlace f_reading f_toldWhy f_x f_standMany f_bestMany f_tail f_round1, (ad 2, .inl (dA 0, 2982, .inl b_all))]) (wr := [(ad 22, .inl (dA 0, 2880, .inl b_stand)), (ad 23, .inl (dA 0, 43200, .inl b_then)), (ad 36, .inl (dA 1, 20160, .inr (.inl a39))), (ad 41, .inl (dA 0, 4, .inl b_rowMany)), (ad 42, .inl (dA 1, 160, .inr (.inl b_numbers)))]) (w1 := [zr_o ad f_thrown f_taped f_at f_behind f_size f_kind f_number f_wrong f_wrongAt f_faultKind f_faultPlace f_reading f_toldWhy f_x f_standMany f_bestMany f_tail f_round1, (ad 2, .inl (dA 0, 2982, .inl b_all))]) (As := []) (rest := [.ref (ad 36)]) ⟨hx, hb, hml, hown, ht⟩ (zt_X11_standNow l dC dI dA ad _ f_thrown f_taped f_at f_behind f_size f_kind f_number f_wrong f_wrongAt f_faultKind f_faultPlace f_reading f_toldWhy f_x f_standMany f_bestMany f_tail f_round1 b_all v41 hv41) (cwV 0 ht (zr_V zr_261 zr_262 zr_263 zr_36 zr_213) rfl rfl rfl zk_X11_standNow ⟨Nat.le_of_ble_eq_true rfl, Nat.le_of_ble_eq_true rfl⟩) rfl rfl hK hP hD hS hA [0, 1] [2, 3, 4, 5, 6] (by decide) (by decide) (by decide) rfl rfl rfl hl.1 (Nat.le_of_ble_eq_true rfl) dX11_laysSeen_209 ⟨Nat.zero_le _, Nat.zero_le _⟩ rfl (fun H locs hP hD hS => ?_)
      have hP : va_P (dC, dI) zz_cls [(ad 22, .inl (dA 0, 2880, .inl b_stand)), (ad 23, .inl (dA 0, 43200, .inl b_then)), (ad 36, .inl (dA 1, 20160, .inr (.inl a39))), (ad 41, .inl (dA 0, 4, .inl b_rowMany)), (ad 42, .inl (dA 1, 160, .inr (.inl b_numbers))), zr_o ad f_thrown f_taped f_at f_behind f_size f_kind f_number f_wrong f_wrongAt f_faultKind f_faultPlace f_reading f_toldWhy f_x f_standMany f_bestMany f_tail f_round1, (ad 2, .inl (dA 0, 2982, .inl b_all))] H := hP
      have hD : va_D A [(ad 22, .inl (dA 0, 2880, .inl b_stand)), (ad 23, .inl (dA 0, 43200, .inl b_then)), (ad 36, .inl (dA 1, 20160, .inr (.inl a39))), (ad 41, .inl (dA 0, 4, .inl b_rowMany)), (ad 42, .inl (dA 1, 160, .inr (.inl b_numbers))), zr_o ad f_thrown f_taped f_at f_behind f_size f_kind f_number f_wrong f_wrongAt f_faultKind f_faultPlace f_reading f_toldWhy f_x f_standMany f_bestMany f_tail f_round1, (ad 2, .inl (dA 0, 2982, .inl b_all))] := hD
      obtain ⟨v42, hv42, hf⟩ := zc_1 hf
      refine zw_lald (pc := 212) hx hb hK hP 2 1 rfl rfl hv42 dX11_laysSeen_212 ?_
      obtain ⟨rfl, rfl⟩ := zi_2 hf
      exact W.lret (pc := 213) hx hb hr (fun t ht hW => ⟨⟨_, (), rfl, rfl, zz_Bi (by rw [ht]; exact hP.sub [5, 6, 0, 1, 2, 3, 4] rfl) (va_K.moved hW.alike hK) (hD.sub [5, 6, 0, 1, 2, 3, 4] (by decide) rfl)⟩, hS.F ht⟩) hS.2.2 dX11_laysSeen_213
    clear hf
    refine zw_loop (pcH := 76) (X := fun v H locs ls => lv_has ls 10 [(0, .ref (ad 0)), (1, .int p1), (4, .int v.1)] ∧ va_P (dC, dI) zz_cls [zr_o ad f_thrown f_taped f_at f_behind f_size f_kind f_number f_wrong f_wrongAt f_faultKind f_faultPlace f_reading f_toldWhy f_x f_standMany f_bestMany f_tail f_round1, (ad 2, .inl (dA 0, 2982, .inl b_all)), (ad 22, .inl (dA 0, 2880, .inl b_stand)), (ad 23, .inl (dA 0, 43200, .inl b_then)), (ad 36, .inl (dA 1, 20160, .inr (.inl v.2))), (ad 41, .inl (dA 0, 4, .inl b_rowMany)), (ad 42, .inl (dA 1, 160, .inr (.inl b_numbers)))] H ∧ va_D A [zr_o ad f_thrown f_taped f_at f_behind f_size f_kind f_number f_wrong f_wrongAt f_faultKind f_faultPlace f_reading f_toldWhy f_x f_standMany f_bestMany f_tail f_round1, (ad 2, .inl (dA 0, 2982, .inl b_all)), (ad 22, .inl (dA 0, 2880, .inl b_stand)), (ad 23, .inl (dA 0, 43200, .inl b_then)), (ad 36, .inl (dA 1, 20160, .inr (.inl v.2))), (ad 41, .inl (dA 0, 4, .inl b_rowMany)), (ad 42, .inl (dA 1, 160, .inr (.inl b_numbers)))] ∧ va_S A s.heap H locs) hj (fun v w hf ih ex H locs ls hX => ?_) _ _ _ ⟨lv_sub hl [1, 2, 0] rfl, hP, hD, hS⟩
    clear hj
    obtain ⟨v15, a16⟩ := v
    obtain ⟨hl, hP, hD, hS⟩ := hX
    have hl : lv_has ls 10 [(0, .ref (ad 0)), (1, .int p1), (4, .int v15)] := hl
    have hP : va_P (dC, dI) zz_cls [zr_o ad f_thrown f_taped f_at f_behind f_size f_kind f_number f_wrong f_wrongAt f_faultKind f_faultPlace f_reading f_toldWhy f_x f_standMany f_bestMany f_tail f_round1, (ad 2, .inl (dA 0, 2982, .inl b_all)), (ad 22, .inl (dA 0, 2880, .inl b_stand)), (ad 23, .inl (dA 0, 43200, .inl b_then)), (ad 36, .inl (dA 1, 20160, .inr (.inl a16))), (ad 41, .inl (dA 0, 4, .inl b_rowMany)), (ad 42, .inl (dA 1, 160, .inr (.inl b_numbers)))] H := hP
    have hD : va_D A [zr_o ad f_thrown f_taped f_at f_behind f_size f_kind f_number f_wrong f_wrongAt f_faultKind f_faultPlace f_reading f_toldWhy f_x f_standMany f_bestMany f_tail f_round1, (ad 2, .inl (dA 0, 2982, .inl b_all)), (ad 22, .inl (dA 0, 2880, .inl b_stand)), (ad 23, .inl (dA 0, 43200, .inl b_then)), (ad 36, .inl (dA 1, 20160, .inr (.inl a16))), (ad 41, .inl (dA 0, 4, .inl b_rowMany)), (ad 42, .inl (dA 1, 160, .inr (.inl b_numbers)))] := hD
    replace hf : zb_X11_laysSeen_76 f_standMany b_stand b_then n b_numbers p1 v15 a16 = some w := hf
    unfold zb_X11_laysSeen_76 at hf
    refine lv_iload (pc := 76) hx hb dX11_laysSeen_76 (lv_at hl 2 rfl) ?_
    refine lv_if_lt (tgt := 204) (pc := 78) hx hb dX11_laysSeen_78 rfl (fun hc => ?_) (fun hc => ?_)
    · have hf := za_t hf hc
      obtain rfl := Option.some.inj hf
      obtain ⟨rfl, rfl, rfl⟩ := zp_3 (ex (show ¬ (1 : Nat) = 0 by decide))
      exact E204 _ _ _ ⟨lv_sub hl [0] rfl, hP, hD, hS⟩
    · have hf := za_f hf hc
      refine lv_iconst (v := (0 : Int32)) (pc := 81) hx hb dX11_laysSeen_81 (by decide) ?_
      refine lv_istore (lv' := [(5, .int (0 : Int32)), (0, .ref (ad 0)), (1, .int p1), (4, .int v15)]) (pc := 82) hx hb dX11_laysSeen_82 hl (by decide) rfl (fun ls hl => ?_)
      obtain ⟨g36, v34, a35, hj, hf⟩ := zc_3 hf
      refine zj_join (pcJ := 198) (stk := []) (X := fun H locs ls => lv_has ls 10 [(0, .ref (ad 0)), (1, .int p1), (4, .int v15)] ∧ va_P (dC, dI) zz_cls [zr_o ad f_thrown f_taped f_at f_behind f_size f_kind f_number f_wrong f_wrongAt f_faultKind f_faultPlace f_reading f_toldWhy f_x f_standMany f_bestMany f_tail f_round1, (ad 2, .inl (dA 0, 2982, .inl b_all)), (ad 22, .inl (dA 0, 2880, .inl b_stand)), (ad 23, .inl (dA 0, 43200, .inl b_then)), (ad 36, .inl (dA 1, 20160, .inr (.inl a35))), (ad 41, .inl (dA 0, 4, .inl b_rowMany)), (ad 42, .inl (dA 1, 160, .inr (.inl b_numbers)))] H ∧ va_D A [zr_o ad f_thrown f_taped f_at f_behind f_size f_kind f_number f_wrong f_wrongAt f_faultKind f_faultPlace f_reading f_toldWhy f_x f_standMany f_bestMany f_tail f_round1, (ad 2, .inl (dA 0, 2982, .inl b_all)), (ad 22, .inl (dA 0, 2880, .inl b_stand)), (ad 23, .inl (dA 0, 43200, .inl b_then)), (ad 36, .inl (dA 1, 20160, .inr (.inl a35))), (ad 41, .inl (dA 0, 4, .inl b_rowMany)), (ad 42, .inl (dA 1, 160, .inr (.inl b_numbers)))] ∧ va_S A s.heap H locs) (fun H locs ls hX => ?_) (fun E198 => ?_)
      · obtain ⟨hl, hP, hD, hS⟩ := hX
        clear hj
        obtain ⟨v37, hv37, hf⟩ := zc_1 hf
        refine lv_iinc (v := v37) (lv' := [(4, .int v37), (0, .ref (ad 0)), (1, .int p1)]) (k := 2) (pc := 198) hx hb dX11_laysSeen_198 hl rfl (Option.some.inj hv37) (by decide) rfl (fun ls hl => ?_)
        refine lv_goto (tgt := 76) (pc := 201) hx hb dX11_laysSeen_201 rfl ?_
        obtain rfl := Option.some.inj hf
        exact ih rfl _ _ _ ⟨lv_sub hl [1, 2, 0] rfl, hP, hD, hS⟩
      clear hf
      refine zw_loop (pcH := 84) (X := fun v H locs ls => lv_has ls 10 [(0, .ref (ad 0)), (1, .int p1), (4, .int v15), (5, .int v.1)] ∧ va_P (dC, dI) zz_cls [zr_o ad f_thrown f_taped f_at f_behind f_size f_kind f_number f_wrong f_wrongAt f_faultKind f_faultPlace f_reading f_toldWhy f_x f_standMany f_bestMany f_tail f_round1, (ad 2, .inl (dA 0, 2982, .inl b_all)), (ad 22, .inl (dA 0, 2880, .inl b_stand)), (ad 23, .inl (dA 0, 43200, .inl b_then)), (ad 36, .inl (dA 1, 20160, .inr (.inl v.2))), (ad 41, .inl (dA 0, 4, .inl b_rowMany)), (ad 42, .inl (dA 1, 160, .inr (.inl b_numbers)))] H ∧ va_D A [zr_o ad f_thrown f_taped f_at f_behind f_size f_kind f_number f_wrong f_wrongAt f_faultKind f_faultPlace f_reading f_toldWhy f_x f_standMany f_bestMany f_tail f_round1, (ad 2, .inl (dA 0, 2982, .inl b_all)), (ad 22, .inl (dA 0, 2880, .inl b_stand)), (ad 23, .inl (dA 0, 43200, .inl b_then)), (ad 36, .inl (dA 1, 20160, .inr (.inl v.2))), (ad 41, .inl (dA 0, 4, .inl b_rowMany)), (ad 42, .inl (dA 1, 160, .inr (.inl b_numbers)))] ∧ va_S A s.heap H locs) hj (fun v w hf ih ex H locs ls hX => ?_) _ _ _ ⟨lv_sub hl [1, 2, 3, 0] rfl, hP, hD, hS⟩
      clear hj
      obtain ⟨v17, a18⟩ := v
      obtain ⟨hl, hP, hD, hS⟩ := hX
      have hl : lv_has ls 10 [(0, .ref (ad 0)), (1, .int p1), (4, .int v15), (5, .int v17)] := hl
      have hP : va_P (dC, dI) zz_cls [zr_o ad f_thrown f_taped f_at f_behind f_size f_kind f_number f_wrong f_wrongAt f_faultKind f_faultPlace f_reading f_toldWhy f_x f_standMany f_bestMany f_tail f_round1, (ad 2, .inl (dA 0, 2982, .inl b_all)), (ad 22, .inl (dA 0, 2880, .inl b_stand)), (ad 23, .inl (dA 0, 43200, .inl b_then)), (ad 36, .inl (dA 1, 20160, .inr (.inl a18))), (ad 41, .inl (dA 0, 4, .inl b_rowMany)), (ad 42, .inl (dA 1, 160, .inr (.inl b_numbers)))] H := hP
      have hD : va_D A [zr_o ad f_thrown f_taped f_at f_behind f_size f_kind f_number f_wrong f_wrongAt f_faultKind f_faultPlace f_reading f_toldWhy f_x f_standMany f_bestMany f_tail f_round1, (ad 2, .inl (dA 0, 2982, .inl b_all)), (ad 22, .inl (dA 0, 2880, .inl b_stand)), (ad 23, .inl (dA 0, 43200, .inl b_then)), (ad 36, .inl (dA 1, 20160, .inr (.inl a18))), (ad 41, .inl (dA 0, 4, .inl b_rowMany)), (ad 42, .inl (dA 1, 160, .inr (.inl b_numbers)))] := hD
      replace hf : zb_X11_laysSeen_84 f_standMany b_stand b_then n b_numbers p1 v15 v17 a18 = some w := hf
      unfold zb_X11_laysSeen_84 at hf
      refine lv_iload (pc := 84) hx hb dX11_laysSeen_84 (lv_at hl 3 rfl) ?_
      refine lv_aload_n (pc := 86) hx hb dX11_laysSeen_86 rfl (lv_at hl 0 rfl) ?_
      refine va_get (pc := 87) (D := (dC, dI)) (ci := 0) (v := .int f_standMany) (C := RX11) (T := TX11) (N := 42) hx hb ht zr_lay hown hK hP 0 rfl rfl 25 (by decide) (ht _ zr_340) (fun _ h9 => h9) rfl dX11_laysSeen_87 ?_
      refine lv_icmp_ge (tgt := 198) (pc := 90) hx hb dX11_laysSeen_90 rfl (fun hc => ?_) (fun hc => ?_)
      · have hf := za_t hf hc
        obtain rfl := Option.some.inj hf
        obtain ⟨rfl, rfl, rfl⟩ := zp_3 (ex (show ¬ (1 : Nat) = 0 by decide))
        exact E198 _ _ _ ⟨lv_sub hl [0, 1, 2] rfl, hP, hD, hS⟩
      · have hf := za_f hf hc
        refine lv_lconst (v := (0 : Int64)) (pc := 93) hx hb dX11_laysSeen_93 (by decide) ?_
        refine lv_lstore (lv' := [(6, .long (0 : Int64)), (0, .ref (ad 0)), (1, .int p1), (4, .int v15), (5, .int v17)]) (pc := 94) hx hb dX11_laysSeen_94 hl (by decide) rfl (fun ls hl => ?_)
        refine lv_iconst (v := (0 : Int32)) (pc := 96) hx hb dX11_laysSeen_96 (by decide) ?_
        refine lv_istore (lv' := [(8, .int (0 : Int32)), (6, .long (0 : Int64)), (0, .ref (ad 0)), (1, .int p1), (4, .int v15), (5, .int v17)]) (pc := 97) hx hb dX11_laysSeen_97 hl (by decide) rfl (fun ls hl => ?_)
        obtain ⟨g30, v28, v29, hj, hf⟩ := zc_3 hf
        refine zj_join (pcJ := 171) (stk := []) (X := fun H locs ls => lv_has ls 10 [(0, .ref (ad 0)), (1, .int p1), (4, .int v15), (5, .int v17), (6, .long v28)] ∧ va_P (dC, dI) zz_cls [zr_o ad f_thrown f_taped f_at f_behind f_size f_kind f_number f_wrong f_wrongAt f_faultKind f_faultPlace f_reading f_toldWhy f_x f_standMany f_bestMany f_tail f_round1, (ad 2, .inl (dA 0, 2982, .inl b_all)), (ad 22, .inl (dA 0, 2880, .inl b_stand)), (ad 23, .inl (dA 0, 43200, .inl b_then)), (ad 36, .inl (dA 1, 20160, .inr (.inl a18))), (ad 41, .inl (dA 0, 4, .inl b_rowMany)), (ad 42, .inl (dA 1, 160, .inr (.inl b_numbers)))] H ∧ va_D A [zr_o ad f_thrown f_taped f_at f_behind f_size f_kind f_number f_wrong f_wrongAt f_faultKind f_faultPlace f_reading f_toldWhy f_x f_standMany f_bestMany f_tail f_round1, (ad 2, .inl (dA 0, 2982, .inl b_all)), (ad 22, .inl (dA 0, 2880, .inl b_stand)), (ad 23, .inl (dA 0, 43200, .inl b_then)), (ad 36, .inl (dA 1, 20160, .inr (.inl a18))), (ad 41, .inl (dA 0, 4, .inl b_rowMany)), (ad 42, .inl (dA 1, 160, .inr (.inl b_numbers)))] ∧ va_S A s.heap H locs) (fun H locs ls hX => ?_) (fun E171 => ?_)
        · obtain ⟨hl, hP, hD, hS⟩ := hX
          clear hj
          refine lv_aload_n (pc := 171) hx hb dX11_laysSeen_171 rfl (lv_at hl 0 rfl) ?_
          refine va_get (pc := 172) (D := (dC, dI)) (ci := 0) (v := .ref (ad 36)) (C := RX11) (T := TX11) (N := 42) hx hb ht zr_lay hown hK hP 0 rfl rfl 35 (by decide) (ht _ zr_27) (fun _ h9 => h9) rfl dX11_laysSeen_172 ?_
          refine lv_sipush (v := (2880 : Int32)) (pc := 175) hx hb dX11_laysSeen_175 (by decide) ?_
          refine lv_iload (pc := 178) hx hb dX11_laysSeen_178 (lv_at hl 2 rfl) ?_
          refine lv_imul (pc := 180) hx hb dX11_laysSeen_180 ?_
          refine lv_aload_n (pc := 181) hx hb dX11_laysSeen_181 rfl (lv_at hl 0 rfl) ?_
          refine va_get (pc := 182) (D := (dC, dI)) (ci := 0) (v := .ref (ad 22)) (C := RX11) (T := TX11) (N := 42) hx hb ht zr_lay hown hK hP 0 rfl rfl 21 (by decide) (ht _ zr_15) (fun _ h9 => h9) rfl dX11_laysSeen_182 ?_
          refine lv_iload (pc := 185) hx hb dX11_laysSeen_185 (lv_at hl 3 rfl) ?_
          obtain ⟨v31, hv31, hf⟩ := zc_1 hf
          refine zw_iald (pc := 187) hx hb hK hP 2 0 rfl rfl hv31 dX11_laysSeen_187 ?_
          refine lv_iadd (pc := 188) hx hb dX11_laysSeen_188 ?_
          refine lv_lload (pc := 189) hx hb dX11_laysSeen_189 (lv_at hl 4 rfl) ?_
          obtain ⟨a32, ha32, hf⟩ := zc_1 hf
          refine zw_last (pc := 191) hx hb hK hP hD hS 4 1 rfl rfl ha32 dX11_laysSeen_191 (fun H locs hP hD hS => ?_)
          have hP : va_P (dC, dI) zz_cls [zr_o ad f_thrown f_taped f_at f_behind f_size f_kind f_number f_wrong f_wrongAt f_faultKind f_faultPlace f_reading f_toldWhy f_x f_standMany f_bestMany f_tail f_round1, (ad 2, .inl (dA 0, 2982, .inl b_all)), (ad 22, .inl (dA 0, 2880, .inl b_stand)), (ad 23, .inl (dA 0, 43200, .inl b_then)), (ad 36, .inl (dA 1, 20160, .inr (.inl a32))), (ad 41, .inl (dA 0, 4, .inl b_rowMany)), (ad 42, .inl (dA 1, 160, .inr (.inl b_numbers)))] H := hP
          have hD : va_D A [zr_o ad f_thrown f_taped f_at f_behind f_size f_kind f_number f_wrong f_wrongAt f_faultKind f_faultPlace f_reading f_toldWhy f_x f_standMany f_bestMany f_tail f_round1, (ad 2, .inl (dA 0, 2982, .inl b_all)), (ad 22, .inl (dA 0, 2880, .inl b_stand)), (ad 23, .inl (dA 0, 43200, .inl b_then)), (ad 36, .inl (dA 1, 20160, .inr (.inl a32))), (ad 41, .inl (dA 0, 4, .inl b_rowMany)), (ad 42, .inl (dA 1, 160, .inr (.inl b_numbers)))] := hD
          obtain ⟨v33, hv33, hf⟩ := zc_1 hf
          refine lv_iinc (v := v33) (lv' := [(5, .int v33), (0, .ref (ad 0)), (1, .int p1), (4, .int v15), (6, .long v28)]) (k := 3) (pc := 192) hx hb dX11_laysSeen_192 hl rfl (Option.some.inj hv33) (by decide) rfl (fun ls hl => ?_)
          refine lv_goto (tgt := 84) (pc := 195) hx hb dX11_laysSeen_195 rfl ?_
          obtain rfl := Option.some.inj hf
          exact ih rfl _ _ _ ⟨lv_sub hl [1, 2, 3, 0] rfl, hP, hD, hS⟩
        clear hf
        refine zw_loop (pcH := 99) (X := fun v H locs ls => lv_has ls 10 [(0, .ref (ad 0)), (1, .int p1), (4, .int v15), (5, .int v17), (6, .long v.1), (8, .int v.2)] ∧ va_P (dC, dI) zz_cls [zr_o ad f_thrown f_taped f_at f_behind f_size f_kind f_number f_wrong f_wrongAt f_faultKind f_faultPlace f_reading f_toldWhy f_x f_standMany f_bestMany f_tail f_round1, (ad 2, .inl (dA 0, 2982, .inl b_all)), (ad 22, .inl (dA 0, 2880, .inl b_stand)), (ad 23, .inl (dA 0, 43200, .inl b_then)), (ad 36, .inl (dA 1, 20160, .inr (.inl a18))), (ad 41, .inl (dA 0, 4, .inl b_rowMany)), (ad 42, .inl (dA 1, 160, .inr (.inl b_numbers)))] H ∧ va_D A [zr_o ad f_thrown f_taped f_at f_behind f_size f_kind f_number f_wrong f_wrongAt f_faultKind f_faultPlace f_reading f_toldWhy f_x f_standMany f_bestMany f_tail f_round1, (ad 2, .inl (dA 0, 2982, .inl b_all)), (ad 22, .inl (dA 0, 2880, .inl b_stand)), (ad 23, .inl (dA 0, 43200, .inl b_then)), (ad 36, .inl (dA 1, 20160, .inr (.inl a18))), (ad 41, .inl (dA 0, 4, .inl b_rowMany)), (ad 42, .inl (dA 1, 160, .inr (.inl b_numbers)))] ∧ va_S A s.heap H locs) hj (fun v w hf ih ex H locs ls hX => ?_) _ _ _ ⟨lv_sub hl [2, 3, 4, 5, 1, 0] rfl, hP, hD, hS⟩
        clear hj
        obtain ⟨v19, v20⟩ := v
        obtain ⟨hl, hP, hD, hS⟩ := hX
        have hl : lv_has ls 10 [(0, .ref (ad 0)), (1, .int p1), (4, .int v15), (5, .int v17), (6, .long v19), (8, .int v20)] := hl
        have hP : va_P (dC, dI) zz_cls [zr_o ad f_thrown f_taped f_at f_behind f_size f_kind f_number f_wrong f_wrongAt f_faultKind f_faultPlace f_reading f_toldWhy f_x f_standMany f_bestMany f_tail f_round1, (ad 2, .inl (dA 0, 2982, .inl b_all)), (ad 22, .inl (dA 0, 2880, .inl b_stand)), (ad 23, .inl (dA 0, 43200, .inl b_then)), (ad 36, .inl (dA 1, 20160, .inr (.inl a18))), (ad 41, .inl (dA 0, 4, .inl b_rowMany)), (ad 42, .inl (dA 1, 160, .inr (.inl b_numbers)))] H := hP
        have hD : va_D A [zr_o ad f_thrown f_taped f_at f_behind f_size f_kind f_number f_wrong f_wrongAt f_faultKind f_faultPlace f_reading f_toldWhy f_x f_standMany f_bestMany f_tail f_round1, (ad 2, .inl (dA 0, 2982, .inl b_all)), (ad 22, .inl (dA 0, 2880, .inl b_stand)), (ad 23, .inl (dA 0, 43200, .inl b_then)), (ad 36, .inl (dA 1, 20160, .inr (.inl a18))), (ad 41, .inl (dA 0, 4, .inl b_rowMany)), (ad 42, .inl (dA 1, 160, .inr (.inl b_numbers)))] := hD
        replace hf : zb_X11_laysSeen_99 b_stand v17 b_then n b_numbers p1 v15 a18 v19 v20 = some w := hf
        unfold zb_X11_laysSeen_99 at hf
        refine lv_iload (pc := 99) hx hb dX11_laysSeen_99 (lv_at hl 5 rfl) ?_
        refine lv_bipush (v := (15 : Int32)) (pc := 101) hx hb dX11_laysSeen_101 (by decide) ?_
        refine lv_icmp_ge (tgt := 171) (pc := 103) hx hb dX11_laysSeen_103 rfl (fun hc => ?_) (fun hc => ?_)
        · have hf := za_t hf hc
          obtain rfl := Option.some.inj hf
          obtain ⟨rfl, rfl, rfl⟩ := zp_3 (ex (show ¬ (1 : Nat) = 0 by decide))
          exact E171 _ _ _ ⟨lv_sub hl [0, 1, 2, 3, 4] rfl, hP, hD, hS⟩
        · have hf := za_f hf hc
          refine lv_aload_n (pc := 106) hx hb dX11_laysSeen_106 rfl (lv_at hl 0 rfl) ?_
          refine va_get (pc := 107) (D := (dC, dI)) (ci := 0) (v := .ref (ad 23)) (C := RX11) (T := TX11) (N := 42) hx hb ht zr_lay hown hK hP 0 rfl rfl 22 (by decide) (ht _ zr_17) (fun _ h9 => h9) rfl dX11_laysSeen_107 ?_
          refine lv_bipush (v := (15 : Int32)) (pc := 110) hx hb dX11_laysSeen_110 (by decide) ?_
          refine lv_aload_n (pc := 112) hx hb dX11_laysSeen_112 rfl (lv_at hl 0 rfl) ?_
          refine va_get (pc := 113) (D := (dC, dI)) (ci := 0) (v := .ref (ad 22)) (C := RX11) (T := TX11) (N := 42) hx hb ht zr_lay hown hK hP 0 rfl rfl 21 (by decide) (ht _ zr_15) (fun _ h9 => h9) rfl dX11_laysSeen_113 ?_
          refine lv_iload (pc := 116) hx hb dX11_laysSeen_116 (lv_at hl 3 rfl) ?_
          obtain ⟨v21, hv21, hf⟩ := zc_1 hf
          refine zw_iald (pc := 118) hx hb hK hP 2 0 rfl rfl hv21 dX11_laysSeen_118 ?_
          refine lv_imul (pc := 119) hx hb dX11_laysSeen_119 ?_
          refine lv_iload (pc := 120) hx hb dX11_laysSeen_120 (lv_at hl 5 rfl) ?_
          refine lv_iadd (pc := 122) hx hb dX11_laysSeen_122 ?_
          obtain ⟨v22, hv22, hf⟩ := zc_1 hf
          refine zw_iald (pc := 123) hx hb hK hP 3 0 rfl rfl hv22 dX11_laysSeen_123 ?_
          refine lv_istore (lv' := [(9, .int v22), (0, .ref (ad 0)), (1, .int p1), (4, .int v15), (5, .int v17), (6, .long v19), (8, .int v20)]) (pc := 124) hx hb dX11_laysSeen_124 hl (by decide) rfl (fun ls hl => ?_)
          refine lv_iload (pc := 126) hx hb dX11_laysSeen_126 (lv_at hl 0 rfl) ?_
          refine lv_iconst (v := (-1 : Int32)) (pc := 128) hx hb dX11_laysSeen_128 (by decide) ?_
          obtain ⟨v26, hj, hf⟩ := zc_1 hf
          refine zj_join (pcJ := 165) (stk := []) (X := fun H locs ls => lv_has ls 10 [(0, .ref (ad 0)), (1, .int p1), (4, .int v15), (5, .int v17), (6, .long v26), (8, .int v20)] ∧ va_P (dC, dI) zz_cls [zr_o ad f_thrown f_taped f_at f_behind f_size f_kind f_number f_wrong f_wrongAt f_faultKind f_faultPlace f_reading f_toldWhy f_x f_standMany f_bestMany f_tail f_round1, (ad 2, .inl (dA 0, 2982, .inl b_all)), (ad 22, .inl (dA 0, 2880, .inl b_stand)), (ad 23, .inl (dA 0, 43200, .inl b_then)), (ad 36, .inl (dA 1, 20160, .inr (.inl a18))), (ad 41, .inl (dA 0, 4, .inl b_rowMany)), (ad 42, .inl (dA 1, 160, .inr (.inl b_numbers)))] H ∧ va_D A [zr_o ad f_thrown f_taped f_at f_behind f_size f_kind f_number f_wrong f_wrongAt f_faultKind f_faultPlace f_reading f_toldWhy f_x f_standMany f_bestMany f_tail f_round1, (ad 2, .inl (dA 0, 2982, .inl b_all)), (ad 22, .inl (dA 0, 2880, .inl b_stand)), (ad 23, .inl (dA 0, 43200, .inl b_then)), (ad 36, .inl (dA 1, 20160, .inr (.inl a18))), (ad 41, .inl (dA 0, 4, .inl b_rowMany)), (ad 42, .inl (dA 1, 160, .inr (.inl b_numbers)))] ∧ va_S A s.heap H locs) (fun H locs ls hX => ?_) (fun J165 => ?_)
          · obtain ⟨hl, hP, hD, hS⟩ := hX
            clear hj
            obtain ⟨v27, hv27, hf⟩ := zc_1 hf
            refine lv_iinc (v := v27) (lv' := [(8, .int v27), (0, .ref (ad 0)), (1, .int p1), (4, .int v15), (5, .int v17), (6, .long v26)]) (k := 5) (pc := 165) hx hb dX11_laysSeen_165 hl rfl (Option.some.inj hv27) (by decide) rfl (fun ls hl => ?_)
            refine lv_goto (tgt := 99) (pc := 168) hx hb dX11_laysSeen_168 rfl ?_
            obtain rfl := Option.some.inj hf
            exact ih rfl _ _ _ ⟨lv_sub hl [1, 2, 3, 4, 5, 0] rfl, hP, hD, hS⟩
          · clear hf
            have hf := hj
            clear hj
            refine lv_icmp_eq (tgt := 165) (pc := 129) hx hb dX11_laysSeen_129 rfl (fun hc => ?_) (fun hc => ?_)
            · have hf := za_t hf hc
              obtain rfl := Option.some.inj hf
              exact J165 _ _ _ ⟨lv_sub hl [1, 2, 3, 4, 5, 6] rfl, hP, hD, hS⟩
            · have hf := za_f hf hc
              refine lv_aload_n (pc := 132) hx hb dX11_laysSeen_132 rfl (lv_at hl 1 rfl) ?_
              refine lv_iload_n (pc := 133) hx hb dX11_laysSeen_133 rfl (lv_at hl 2 rfl) ?_
              refine lv_iload (pc := 134) hx hb dX11_laysSeen_134 (lv_at hl 3 rfl) ?_
              refine lv_iload (pc := 136) hx hb dX11_laysSeen_136 (lv_at hl 0 rfl) ?_
              obtain ⟨v23, hv23, hf⟩ := zc_1 hf
              refine zw_Vi (pc := 138) (wc := [zr_o ad f_thrown f_taped f_at f_behind f_size f_kind f_number f_wrong f_wrongAt f_faultKind f_faultPlace f_reading f_toldWhy f_x f_standMany f_bestMany f_tail f_round1, (ad 42, .inl (dA 1, 160, .inr (.inl b_numbers)))]) (wr := [(ad 2, .inl (dA 0, 2982, .inl b_all)), (ad 22, .inl (dA 0, 2880, .inl b_stand)), (ad 23, .inl (dA 0, 43200, .inl b_then)), (ad 36, .inl (dA 1, 20160, .inr (.inl a18))), (ad 41, .inl (dA 0, 4, .inl b_rowMany))]) (w1 := [zr_o ad f_thrown f_taped f_at f_behind f_size f_kind f_number f_wrong f_wrongAt f_faultKind f_faultPlace f_reading f_toldWhy f_x f_standMany f_bestMany f_tail f_round1, (ad 42, .inl (dA 1, 160, .inr (.inl b_numbers)))]) (As := [.int p1, .int v15, .int v22]) (rest := []) ⟨hx, hb, hml, hown, ht⟩ (zt_X11_isSeen l dC dI dA ad _ n f_thrown f_taped f_at f_behind f_size f_kind f_number f_wrong f_wrongAt f_faultKind f_faultPlace f_reading f_toldWhy f_x f_standMany f_bestMany f_tail f_round1 b_numbers p1 v15 v22 v23 hv23) (cwV 3 ht (zr_V zr_412 zr_413 zr_414 zr_36 zr_411) rfl rfl rfl zk_X11_isSeen ⟨Nat.le_of_ble_eq_true rfl, Nat.le_of_ble_eq_true rfl⟩) rfl rfl hK hP hD hS hA [0, 6] [1, 2, 3, 4, 5] (by decide) (by decide) (by decide) rfl rfl rfl hl.1 (Nat.le_of_ble_eq_true rfl) dX11_laysSeen_138 ⟨Nat.zero_le _, Nat.zero_le _⟩ rfl (fun H locs hP hD hS => ?_)
              have hP : va_P (dC, dI) zz_cls [(ad 2, .inl (dA 0, 2982, .inl b_all)), (ad 22, .inl (dA 0, 2880, .inl b_stand)), (ad 23, .inl (dA 0, 43200, .inl b_then)), (ad 36, .inl (dA 1, 20160, .inr (.inl a18))), (ad 41, .inl (dA 0, 4, .inl b_rowMany)), zr_o ad f_thrown f_taped f_at f_behind f_size f_kind f_number f_wrong f_wrongAt f_faultKind f_faultPlace f_reading f_toldWhy f_x f_standMany f_bestMany f_tail f_round1, (ad 42, .inl (dA 1, 160, .inr (.inl b_numbers)))] H := hP
              have hD : va_D A [(ad 2, .inl (dA 0, 2982, .inl b_all)), (ad 22, .inl (dA 0, 2880, .inl b_stand)), (ad 23, .inl (dA 0, 43200, .inl b_then)), (ad 36, .inl (dA 1, 20160, .inr (.inl a18))), (ad 41, .inl (dA 0, 4, .inl b_rowMany)), zr_o ad f_thrown f_taped f_at f_behind f_size f_kind f_number f_wrong f_wrongAt f_faultKind f_faultPlace f_reading f_toldWhy f_x f_standMany f_bestMany f_tail f_round1, (ad 42, .inl (dA 1, 160, .inr (.inl b_numbers)))] := hD
              refine lv_if_eq (tgt := 165) (pc := 141) hx hb dX11_laysSeen_141 rfl (fun hc => ?_) (fun hc => ?_)
              · have hf := za_t hf hc
                obtain rfl := Option.some.inj hf
                exact J165 _ _ _ ⟨lv_sub hl [1, 2, 3, 4, 5, 6] rfl, hP.sub [5, 0, 1, 2, 3, 4, 6] rfl, hD.sub [5, 0, 1, 2, 3, 4, 6] (by decide) rfl, hS⟩
              · have hf := za_f hf hc
                refine lv_lload (pc := 144) hx hb dX11_laysSeen_144 (lv_at hl 5 rfl) ?_
                refine lv_aload_n (pc := 146) hx hb dX11_laysSeen_146 rfl (lv_at hl 1 rfl) ?_
                refine va_get (pc := 147) (D := (dC, dI)) (ci := 0) (v := .ref (ad 36)) (C := RX11) (T := TX11) (N := 42) hx hb ht zr_lay hown hK hP 5 rfl rfl 35 (by decide) (ht _ zr_27) (fun _ h9 => h9) rfl dX11_laysSeen_147 ?_
                refine lv_sipush (v := (2880 : Int32)) (pc := 150) hx hb dX11_laysSeen_150 (by decide) ?_
                refine lv_iload (pc := 153) hx hb dX11_laysSeen_153 (lv_at hl 3 rfl) ?_
                refine lv_iconst (v := (1 : Int32)) (pc := 155) hx hb dX11_laysSeen_155 (by decide) ?_
                refine lv_iadd (pc := 156) hx hb dX11_laysSeen_156 ?_
                refine lv_imul (pc := 157) hx hb dX11_laysSeen_157 ?_
                refine lv_iload (pc := 158) hx hb dX11_laysSeen_158 (lv_at hl 0 rfl) ?_
                refine lv_iadd (pc := 160) hx hb dX11_laysSeen_160 ?_
                obtain ⟨v24, hv24, hf⟩ := zc_1 hf
                refine zw_lald (pc := 161) hx hb hK hP 3 1 rfl rfl hv24 dX11_laysSeen_161 ?_
                refine lv_ladd (pc := 162) hx hb dX11_laysSeen_162 ?_
                obtain ⟨v25, hv25, hf⟩ := zc_1 hf
                refine zw_topl (hv25) ?_
                refine lv_lstore (lv' := [(6, .long v25), (9, .int v22), (0, .ref (ad 0)), (1, .int p1), (4, .int v15), (5, .int v17), (8, .int v20)]) (pc := 163) hx hb dX11_laysSeen_163 hl (by decide) rfl (fun ls hl => ?_)
                obtain rfl := Option.some.inj hf
                exact J165 _ _ _ ⟨lv_sub hl [2, 3, 4, 5, 0, 6] rfl, hP.sub [5, 0, 1, 2, 3, 4, 6] rfl, hD.sub [5, 0, 1, 2, 3, 4, 6] (by decide) rfl, hS⟩
  clear hf
  refine zw_loop (pcH := 10) (X := fun v H locs ls => lv_has ls 10 [(0, .ref (ad 0)), (1, .int p1), (2, .int p2), (3, .int v1), (4, .int v.1)] ∧ va_P (dC, dI) zz_cls [zr_o ad f_thrown f_taped f_at f_behind f_size f_kind f_number f_wrong f_wrongAt f_faultKind f_faultPlace f_reading f_toldWhy f_x f_standMany f_bestMany f_tail f_round1, (ad 2, .inl (dA 0, 2982, .inl b_all)), (ad 22, .inl (dA 0, 2880, .inl b_stand)), (ad 23, .inl (dA 0, 43200, .inl b_then)), (ad 36, .inl (dA 1, 20160, .inr (.inl v.2))), (ad 41, .inl (dA 0, 4, .inl b_rowMany)), (ad 42, .inl (dA 1, 160, .inr (.inl b_numbers)))] H ∧ va_D A [zr_o ad f_thrown f_taped f_at f_behind f_size f_kind f_number f_wrong f_wrongAt f_faultKind f_faultPlace f_reading f_toldWhy f_x f_standMany f_bestMany f_tail f_round1, (ad 2, .inl (dA 0, 2982, .inl b_all)), (ad 22, .inl (dA 0, 2880, .inl b_stand)), (ad 23, .inl (dA 0, 43200, .inl b_then)), (ad 36, .inl (dA 1, 20160, .inr (.inl v.2))), (ad 41, .inl (dA 0, 4, .inl b_rowMany)), (ad 42, .inl (dA 1, 160, .inr (.inl b_numbers)))] ∧ va_S A s.heap H locs) hj (fun v w hf ih ex H locs ls hX => ?_) _ _ _ ⟨lv_sub hl [2, 3, 4, 1, 0] rfl, hP, hD, hS⟩
  clear hj
  obtain ⟨v2, a3⟩ := v
  obtain ⟨hl, hP, hD, hS⟩ := hX
  have hl : lv_has ls 10 [(0, .ref (ad 0)), (1, .int p1), (2, .int p2), (3, .int v1), (4, .int v2)] := hl
  have hP : va_P (dC, dI) zz_cls [zr_o ad f_thrown f_taped f_at f_behind f_size f_kind f_number f_wrong f_wrongAt f_faultKind f_faultPlace f_reading f_toldWhy f_x f_standMany f_bestMany f_tail f_round1, (ad 2, .inl (dA 0, 2982, .inl b_all)), (ad 22, .inl (dA 0, 2880, .inl b_stand)), (ad 23, .inl (dA 0, 43200, .inl b_then)), (ad 36, .inl (dA 1, 20160, .inr (.inl a3))), (ad 41, .inl (dA 0, 4, .inl b_rowMany)), (ad 42, .inl (dA 1, 160, .inr (.inl b_numbers)))] H := hP
  have hD : va_D A [zr_o ad f_thrown f_taped f_at f_behind f_size f_kind f_number f_wrong f_wrongAt f_faultKind f_faultPlace f_reading f_toldWhy f_x f_standMany f_bestMany f_tail f_round1, (ad 2, .inl (dA 0, 2982, .inl b_all)), (ad 22, .inl (dA 0, 2880, .inl b_stand)), (ad 23, .inl (dA 0, 43200, .inl b_then)), (ad 36, .inl (dA 1, 20160, .inr (.inl a3))), (ad 41, .inl (dA 0, 4, .inl b_rowMany)), (ad 42, .inl (dA 1, 160, .inr (.inl b_numbers)))] := hD
  replace hf : zb_X11_laysSeen_10 f_standMany b_stand p2 v1 v2 a3 = some w := hf
  unfold zb_X11_laysSeen_10 at hf
  refine lv_iload (pc := 10) hx hb dX11_laysSeen_10 (lv_at hl 4 rfl) ?_
  refine lv_aload_n (pc := 12) hx hb dX11_laysSeen_12 rfl (lv_at hl 0 rfl) ?_
  refine va_get (pc := 13) (D := (dC, dI)) (ci := 0) (v := .int f_standMany) (C := RX11) (T := TX11) (N := 42) hx hb ht zr_lay hown hK hP 0 rfl rfl 25 (by decide) (ht _ zr_340) (fun _ h9 => h9) rfl dX11_laysSeen_13 ?_
  refine lv_icmp_ge (tgt := 71) (pc := 16) hx hb dX11_laysSeen_16 rfl (fun hc => ?_) (fun hc => ?_)
  · have hf := za_t hf hc
    obtain rfl := Option.some.inj hf
    obtain ⟨rfl, rfl, rfl⟩ := zp_3 (ex (show ¬ (1 : Nat) = 0 by decide))
    exact E71 _ _ _ ⟨lv_sub hl [0, 1, 3] rfl, hP, hD, hS⟩
  · have hf := za_f hf hc
    refine lv_aload_n (pc := 19) hx hb dX11_laysSeen_19 rfl (lv_at hl 0 rfl) ?_
    refine va_get (pc := 20) (D := (dC, dI)) (ci := 0) (v := .ref (ad 36)) (C := RX11) (T := TX11) (N := 42) hx hb ht zr_lay hown hK hP 0 rfl rfl 35 (by decide) (ht _ zr_27) (fun _ h9 => h9) rfl dX11_laysSeen_20 ?_
    refine lv_sipush (v := (2880 : Int32)) (pc := 23) hx hb dX11_laysSeen_23 (by decide) ?_
    refine lv_iload_n (pc := 26) hx hb dX11_laysSeen_26 rfl (lv_at hl 3 rfl) ?_
    refine lv_imul (pc := 27) hx hb dX11_laysSeen_27 ?_
    refine lv_aload_n (pc := 28) hx hb dX11_laysSeen_28 rfl (lv_at hl 0 rfl) ?_
    refine va_get (pc := 29) (D := (dC, dI)) (ci := 0) (v := .ref (ad 22)) (C := RX11) (T := TX11) (N := 42) hx hb ht zr_lay hown hK hP 0 rfl rfl 21 (by decide) (ht _ zr_15) (fun _ h9 => h9) rfl dX11_laysSeen_29 ?_
    refine lv_iload (pc := 32) hx hb dX11_laysSeen_32 (lv_at hl 4 rfl) ?_
    obtain ⟨v4, hv4, hf⟩ := zc_1 hf
    refine zw_iald (pc := 34) hx hb hK hP 2 0 rfl rfl hv4 dX11_laysSeen_34 ?_
    refine lv_iadd (pc := 35) hx hb dX11_laysSeen_35 ?_
    refine lv_iload_n (pc := 36) hx hb dX11_laysSeen_36 rfl (lv_at hl 2 rfl) ?_
    refine lv_iconst (v := (-1 : Int32)) (pc := 37) hx hb dX11_laysSeen_37 (by decide) ?_
    obtain ⟨v8, hj, hf⟩ := zc_1 hf
    refine zj_join (pcJ := 64) (stk := [.long v8, .int (((2880 : Int32) * v1) + v4), .ref (ad 36)]) (X := fun H locs ls => lv_has ls 10 [(0, .ref (ad 0)), (1, .int p1), (2, .int p2), (3, .int v1), (4, .int v2)] ∧ va_P (dC, dI) zz_cls [zr_o ad f_thrown f_taped f_at f_behind f_size f_kind f_number f_wrong f_wrongAt f_faultKind f_faultPlace f_reading f_toldWhy f_x f_standMany f_bestMany f_tail f_round1, (ad 2, .inl (dA 0, 2982, .inl b_all)), (ad 22, .inl (dA 0, 2880, .inl b_stand)), (ad 23, .inl (dA 0, 43200, .inl b_then)), (ad 36, .inl (dA 1, 20160, .inr (.inl a3))), (ad 41, .inl (dA 0, 4, .inl b_rowMany)), (ad 42, .inl (dA 1, 160, .inr (.inl b_numbers)))] H ∧ va_D A [zr_o ad f_thrown f_taped f_at f_behind f_size f_kind f_number f_wrong f_wrongAt f_faultKind f_faultPlace f_reading f_toldWhy f_x f_standMany f_bestMany f_tail f_round1, (ad 2, .inl (dA 0, 2982, .inl b_all)), (ad 22, .inl (dA 0, 2880, .inl b_stand)), (ad 23, .inl (dA 0, 43200, .inl b_then)), (ad 36, .inl (dA 1, 20160, .inr (.inl a3))), (ad 41, .inl (dA 0, 4, .inl b_rowMany)), (ad 42, .inl (dA 1, 160, .inr (.inl b_numbers)))] ∧ va_S A s.heap H locs) (fun H locs ls hX => ?_) (fun J64 => ?_)
    · obtain ⟨hl, hP, hD, hS⟩ := hX
      clear hj
      obtain ⟨a9, ha9, hf⟩ := zc_1 hf
      refine zw_last (pc := 64) hx hb hK hP hD hS 4 1 rfl rfl ha9 dX11_laysSeen_64 (fun H locs hP hD hS => ?_)
      have hP : va_P (dC, dI) zz_cls [zr_o ad f_thrown f_taped f_at f_behind f_size f_kind f_number f_wrong f_wrongAt f_faultKind f_faultPlace f_reading f_toldWhy f_x f_standMany f_bestMany f_tail f_round1, (ad 2, .inl (dA 0, 2982, .inl b_all)), (ad 22, .inl (dA 0, 2880, .inl b_stand)), (ad 23, .inl (dA 0, 43200, .inl b_then)), (ad 36, .inl (dA 1, 20160, .inr (.inl a9))), (ad 41, .inl (dA 0, 4, .inl b_rowMany)), (ad 42, .inl (dA 1, 160, .inr (.inl b_numbers)))] H := hP
      have hD : va_D A [zr_o ad f_thrown f_taped f_at f_behind f_size f_kind f_number f_wrong f_wrongAt f_faultKind f_faultPlace f_reading f_toldWhy f_x f_standMany f_bestMany f_tail f_round1, (ad 2, .inl (dA 0, 2982, .inl b_all)), (ad 22, .inl (dA 0, 2880, .inl b_stand)), (ad 23, .inl (dA 0, 43200, .inl b_then)), (ad 36, .inl (dA 1, 20160, .inr (.inl a9))), (ad 41, .inl (dA 0, 4, .inl b_rowMany)), (ad 42, .inl (dA 1, 160, .inr (.inl b_numbers)))] := hD
      obtain ⟨v10, hv10, hf⟩ := zc_1 hf
      refine lv_iinc (v := v10) (lv' := [(4, .int v10), (0, .ref (ad 0)), (1, .int p1), (2, .int p2), (3, .int v1)]) (k := 4) (pc := 65) hx hb dX11_laysSeen_65 hl rfl (Option.some.inj hv10) (by decide) rfl (fun ls hl => ?_)
      refine lv_goto (tgt := 10) (pc := 68) hx hb dX11_laysSeen_68 rfl ?_
      obtain rfl := Option.some.inj hf
      exact ih rfl _ _ _ ⟨lv_sub hl [1, 2, 3, 4, 0] rfl, hP, hD, hS⟩
    · clear hf
      have hf := hj
      clear hj
      refine lv_icmp_eq (tgt := 63) (pc := 38) hx hb dX11_laysSeen_38 rfl (fun hc => ?_) (fun hc => ?_)
      · have hf := za_t hf hc
        refine lv_lconst (v := (1 : Int64)) (pc := 63) hx hb dX11_laysSeen_63 (by decide) ?_
        obtain rfl := Option.some.inj hf
        exact J64 _ _ _ ⟨lv_sub hl [0, 1, 2, 3, 4] rfl, hP, hD, hS⟩
      · have hf := za_f hf hc
        refine lv_aload_n (pc := 41) hx hb dX11_laysSeen_41 rfl (lv_at hl 0 rfl) ?_
        refine va_get (pc := 42) (D := (dC, dI)) (ci := 0) (v := .ref (ad 22)) (C := RX11) (T := TX11) (N := 42) hx hb ht zr_lay hown hK hP 0 rfl rfl 21 (by decide) (ht _ zr_15) (fun _ h9 => h9) rfl dX11_laysSeen_42 ?_
        refine lv_iload (pc := 45) hx hb dX11_laysSeen_45 (lv_at hl 4 rfl) ?_
        obtain ⟨v5, hv5, hf⟩ := zc_1 hf
        refine zw_iald (pc := 47) hx hb hK hP 2 0 rfl rfl hv5 dX11_laysSeen_47 ?_
        obtain ⟨v6, hv6, hf⟩ := zc_1 hf
        refine zw_Si (pc := 48) (wc := []) (wr := [zr_o ad f_thrown f_taped f_at f_behind f_size f_kind f_number f_wrong f_wrongAt f_faultKind f_faultPlace f_reading f_toldWhy f_x f_standMany f_bestMany f_tail f_round1, (ad 2, .inl (dA 0, 2982, .inl b_all)), (ad 22, .inl (dA 0, 2880, .inl b_stand)), (ad 23, .inl (dA 0, 43200, .inl b_then)), (ad 36, .inl (dA 1, 20160, .inr (.inl a3))), (ad 41, .inl (dA 0, 4, .inl b_rowMany)), (ad 42, .inl (dA 1, 160, .inr (.inl b_numbers)))]) (w1 := []) (As := [.int v5]) (rest := [.int (((2880 : Int32) * v1) + v4), .ref (ad 36)]) ⟨hx, hb, hml, hown, ht⟩ (zt_X11_hasIn l dC dI dA ad _ v5 v6 hv6) (cwS 1 ht (zr_S zr_219 zr_220 zr_36 zr_211) rfl rfl rfl zk_X11_hasIn ⟨Nat.le_of_ble_eq_true rfl, Nat.le_of_ble_eq_true rfl⟩) hK hP hD hS hA [] [0, 1, 2, 3, 4, 5, 6] (by decide) (by decide) (by decide) rfl rfl rfl hl.1 (Nat.le_of_ble_eq_true rfl) dX11_laysSeen_48 ⟨Nat.zero_le _, Nat.zero_le _⟩ rfl (fun H locs hP hD hS => ?_)
        have hP : va_P (dC, dI) zz_cls [zr_o ad f_thrown f_taped f_at f_behind f_size f_kind f_number f_wrong f_wrongAt f_faultKind f_faultPlace f_reading f_toldWhy f_x f_standMany f_bestMany f_tail f_round1, (ad 2, .inl (dA 0, 2982, .inl b_all)), (ad 22, .inl (dA 0, 2880, .inl b_stand)), (ad 23, .inl (dA 0, 43200, .inl b_then)), (ad 36, .inl (dA 1, 20160, .inr (.inl a3))), (ad 41, .inl (dA 0, 4, .inl b_rowMany)), (ad 42, .inl (dA 1, 160, .inr (.inl b_numbers)))] H := hP
        have hD : va_D A [zr_o ad f_thrown f_taped f_at f_behind f_size f_kind f_number f_wrong f_wrongAt f_faultKind f_faultPlace f_reading f_toldWhy f_x f_standMany f_bestMany f_tail f_round1, (ad 2, .inl (dA 0, 2982, .inl b_all)), (ad 22, .inl (dA 0, 2880, .inl b_stand)), (ad 23, .inl (dA 0, 43200, .inl b_then)), (ad 36, .inl (dA 1, 20160, .inr (.inl a3))), (ad 41, .inl (dA 0, 4, .inl b_rowMany)), (ad 42, .inl (dA 1, 160, .inr (.inl b_numbers)))] := hD
        refine lv_i2l (pc := 51) hx hb dX11_laysSeen_51 rfl ?_
        refine lv_iload_n (pc := 52) hx hb dX11_laysSeen_52 rfl (lv_at hl 2 rfl) ?_
        obtain ⟨v7, hv7, hf⟩ := zc_1 hf
        refine zw_Si (pc := 53) (wc := []) (wr := [zr_o ad f_thrown f_taped f_at f_behind f_size f_kind f_number f_wrong f_wrongAt f_faultKind f_faultPlace f_reading f_toldWhy f_x f_standMany f_bestMany f_tail f_round1, (ad 2, .inl (dA 0, 2982, .inl b_all)), (ad 22, .inl (dA 0, 2880, .inl b_stand)), (ad 23, .inl (dA 0, 43200, .inl b_then)), (ad 36, .inl (dA 1, 20160, .inr (.inl a3))), (ad 41, .inl (dA 0, 4, .inl b_rowMany)), (ad 42, .inl (dA 1, 160, .inr (.inl b_numbers)))]) (w1 := []) (As := [.long (Int32.toInt64 v6), .int p2]) (rest := [.int (((2880 : Int32) * v1) + v4), .ref (ad 36)]) ⟨hx, hb, hml, hown, ht⟩ (zt_X11_isIn l dC dI dA ad _ (Int32.toInt64 v6) p2 v7 hv7) (cwS 2 ht (zr_S zr_246 zr_247 zr_36 zr_127) rfl rfl rfl zk_X11_isIn ⟨Nat.le_of_ble_eq_true rfl, Nat.le_of_ble_eq_true rfl⟩) hK hP hD hS hA [] [0, 1, 2, 3, 4, 5, 6] (by decide) (by decide) (by decide) rfl rfl rfl hl.1 (Nat.le_of_ble_eq_true rfl) dX11_laysSeen_53 ⟨Nat.zero_le _, Nat.zero_le _⟩ rfl (fun H locs hP hD hS => ?_)
        have hP : va_P (dC, dI) zz_cls [zr_o ad f_thrown f_taped f_at f_behind f_size f_kind f_number f_wrong f_wrongAt f_faultKind f_faultPlace f_reading f_toldWhy f_x f_standMany f_bestMany f_tail f_round1, (ad 2, .inl (dA 0, 2982, .inl b_all)), (ad 22, .inl (dA 0, 2880, .inl b_stand)), (ad 23, .inl (dA 0, 43200, .inl b_then)), (ad 36, .inl (dA 1, 20160, .inr (.inl a3))), (ad 41, .inl (dA 0, 4, .inl b_rowMany)), (ad 42, .inl (dA 1, 160, .inr (.inl b_numbers)))] H := hP
        have hD : va_D A [zr_o ad f_thrown f_taped f_at f_behind f_size f_kind f_number f_wrong f_wrongAt f_faultKind f_faultPlace f_reading f_toldWhy f_x f_standMany f_bestMany f_tail f_round1, (ad 2, .inl (dA 0, 2982, .inl b_all)), (ad 22, .inl (dA 0, 2880, .inl b_stand)), (ad 23, .inl (dA 0, 43200, .inl b_then)), (ad 36, .inl (dA 1, 20160, .inr (.inl a3))), (ad 41, .inl (dA 0, 4, .inl b_rowMany)), (ad 42, .inl (dA 1, 160, .inr (.inl b_numbers)))] := hD
        refine lv_if_eq (tgt := 63) (pc := 56) hx hb dX11_laysSeen_56 rfl (fun hc => ?_) (fun hc => ?_)
        · have hf := za_t hf hc
          refine lv_lconst (v := (1 : Int64)) (pc := 63) hx hb dX11_laysSeen_63 (by decide) ?_
          obtain rfl := Option.some.inj hf
          exact J64 _ _ _ ⟨lv_sub hl [0, 1, 2, 3, 4] rfl, hP, hD, hS⟩
        · have hf := za_f hf hc
          refine lv_lconst (v := (0 : Int64)) (pc := 59) hx hb dX11_laysSeen_59 (by decide) ?_
          refine lv_goto (tgt := 64) (pc := 60) hx hb dX11_laysSeen_60 rfl ?_
          obtain rfl := Option.some.inj hf
          exact J64 _ _ _ ⟨lv_sub hl [0, 1, 2, 3, 4] rfl, hP, hD, hS⟩

def zf_X11_seen (n : Nat) (f_thrown : Int32) (f_standMany : Int32) (b_all : (Nat → Int32)) (b_reckoned : (Nat → Int32)) (b_words : (Nat → Int32)) (b_stand : (Nat → Int32)) (b_then : (Nat → Int32)) (b_known : (Nat → Int32)) (b_on : (Nat → Int64)) (b_rowSort : (Nat → Int32)) (b_rowMany : (Nat → Int32)) (b_numbers : (Nat → Int64)) (p1 : Int32) : Option (Int64 × Int32 × Int32 × (Nat → Int32) × (Nat → Int32) × (Nat → Int32) × (Nat → Int32) × (Nat → Int32) × (Nat → Int64)) :=
  zd_1 (zf_X11_noSeen n b_rowSort b_rowMany b_numbers p1) (fun v1 =>
  if v1 = 0 then
    zd_6 (zf_X11_laysStands n f_standMany b_all b_reckoned b_words b_stand b_then b_known (0 : Int32)) (fun v2 a3 a4 a5 a6 a7 =>
    zd_2 (zf_X11_laysSeen n v2 b_all a5 a6 b_on b_rowMany b_numbers p1 (-1 : Int32)) (fun v8 a9 =>
    some (v8, (0 : Int32), v2, a3, a4, a5, a6, a7, a9)))
  else
    some ((Int32.toInt64 v1), (0 : Int32), f_standMany, b_reckoned, b_words, b_stand, b_then, b_known, b_on))
theorem zk_X11_seen : yX11_seen.cls = RX11 ∧ yX11_seen.cls ≠ "java/lang/invoke/MethodHandle" ∧ yX11_seen.cls ≠ "java/lang/invoke/VarHandle" ∧ (parseMethodDescriptor yX11_seen.desc).map (fun d => d.parameters.length) = some 1 := by decide +kernel
set_option maxHeartbeats 4000000 in
set_option maxRecDepth 100000 in
theorem zt_X11_seen (l : Launch) (dC : Nat → ClassId) (dI : Nat → Nat → Nat) (dA : Nat → ClassId) (ad : Nat → Nat) (sz : Nat) (n : Nat) (f_thrown f_taped f_at f_behind f_size f_kind f_number f_wrong f_wrongAt f_faultKind f_faultPlace f_reading f_toldWhy f_x f_standMany f_bestMany f_tail f_round1 : Int32) (b_all : (Nat → Int32)) (b_reckoned : (Nat → Int32)) (b_words : (Nat → Int32)) (b_stand : (Nat → Int32)) (b_then : (Nat → Int32)) (b_known : (Nat → Int32)) (b_on : (Nat → Int64)) (b_rowSort : (Nat → Int32)) (b_rowMany : (Nat → Int32)) (b_numbers : (Nat → Int64)) (p1 : Int32) (r0 : Int64) (o1 : Int32) (o2 : Int32) (o3 : (Nat → Int32)) (o4 : (Nat → Int32)) (o5 : (Nat → Int32)) (o6 : (Nat → Int32)) (o7 : (Nat → Int32)) (o8 : (Nat → Int64)) (hf : zf_X11_seen n f_thrown f_standMany b_all b_reckoned b_words b_stand b_then b_known b_on b_rowSort b_rowMany b_numbers p1 = some (r0, o1, o2, o3, o4, o5, o6, o7, o8)) : Met l yX11_seen (.code yX11_seen cX11_seen 3 (some .long) :: zr_T) ({ frames := 5, cells := 0, slots := 0, locals := 123 }) (va_Pc [.ref (ad 0), .int p1] (zz_M dC dI dA [zr_o ad f_thrown f_taped f_at f_behind f_size f_kind f_number f_wrong f_wrongAt f_faultKind f_faultPlace f_reading f_toldWhy f_x f_standMany f_bestMany f_tail f_round1, (ad 2, .inl (dA 0, 2982, .inl b_all)), (ad 17, .inl (dA 0, 900, .inl b_reckoned)), (ad 18, .inl (dA 0, 6, .inl b_words)), (ad 22, .inl (dA 0, 2880, .inl b_stand)), (ad 23, .inl (dA 0, 43200, .inl b_then)), (ad 25, .inl (dA 2, 2880, .inl b_known)), (ad 36, .inl (dA 1, 20160, .inr (.inl b_on))), (ad 40, .inl (dA 0, 4, .inl b_rowSort)), (ad 41, .inl (dA 0, 4, .inl b_rowMany)), (ad 42, .inl (dA 1, 160, .inr (.inl b_numbers)))] sz)) (va_Ql (fun (r : Int64) (_ : Unit) => r = r0) (fun _ t => zz_B dC dI dA (va_A [zr_o ad f_thrown f_taped f_at f_behind f_size f_kind f_number f_wrong f_wrongAt f_faultKind f_faultPlace f_reading f_toldWhy f_x f_standMany f_bestMany f_tail f_round1, (ad 2, .inl (dA 0, 2982, .inl b_all)), (ad 17, .inl (dA 0, 900, .inl b_reckoned)), (ad 18, .inl (dA 0, 6, .inl b_words)), (ad 22, .inl (dA 0, 2880, .inl b_stand)), (ad 23, .inl (dA 0, 43200, .inl b_then)), (ad 25, .inl (dA 2, 2880, .inl b_known)), (ad 36, .inl (dA 1, 20160, .inr (.inl b_on))), (ad 40, .inl (dA 0, 4, .inl b_rowSort)), (ad 41, .inl (dA 0, 4, .inl b_rowMany)), (ad 42, .inl (dA 1, 160, .inr (.inl b_numbers)))] sz) [zr_o ad o1 f_taped f_at f_behind f_size f_kind f_number f_wrong f_wrongAt f_faultKind f_faultPlace f_reading f_toldWhy f_x o2 f_bestMany f_tail f_round1, (ad 2, .inl (dA 0, 2982, .inl b_all)), (ad 17, .inl (dA 0, 900, .inl o3)), (ad 18, .inl (dA 0, 6, .inl o4)), (ad 22, .inl (dA 0, 2880, .inl o5)), (ad 23, .inl (dA 0, 43200, .inl o6)), (ad 25, .inl (dA 2, 2880, .inl o7)), (ad 36, .inl (dA 1, 20160, .inr (.inl o8))), (ad 40, .inl (dA 0, 4, .inl b_rowSort)), (ad 41, .inl (dA 0, 4, .inl b_rowMany)), (ad 42, .inl (dA 1, 160, .inr (.inl b_numbers)))] t) (va_A [zr_o ad f_thrown f_taped f_at f_behind f_size f_kind f_number f_wrong f_wrongAt f_faultKind f_faultPlace f_reading f_toldWhy f_x f_standMany f_bestMany f_tail f_round1, (ad 2, .inl (dA 0, 2982, .inl b_all)), (ad 17, .inl (dA 0, 900, .inl b_reckoned)), (ad 18, .inl (dA 0, 6, .inl b_words)), (ad 22, .inl (dA 0, 2880, .inl b_stand)), (ad 23, .inl (dA 0, 43200, .inl b_then)), (ad 25, .inl (dA 2, 2880, .inl b_known)), (ad 36, .inl (dA 1, 20160, .inr (.inl b_on))), (ad 40, .inl (dA 0, 4, .inl b_rowSort)), (ad 41, .inl (dA 0, 4, .inl b_rowMany)), (ad 42, .inl (dA 1, 160, .inr (.inl b_numbers)))] sz)) 0 0 (va_A [zr_o ad f_thrown f_taped f_at f_behind f_size f_kind f_number f_wrong f_wrongAt f_faultKind f_faultPlace f_reading f_toldWhy f_x f_standMany f_bestMany f_tail f_round1, (ad 2, .inl (dA 0, 2982, .inl b_all)), (ad 17, .inl (dA 0, 900, .inl b_reckoned)), (ad 18, .inl (dA 0, 6, .inl b_words)), (ad 22, .inl (dA 0, 2880, .inl b_stand)), (ad 23, .inl (dA 0, 43200, .inl b_then)), (ad 25, .inl (dA 2, 2880, .inl b_known)), (ad 36, .inl (dA 1, 20160, .inr (.inl b_on))), (ad 40, .inl (dA 0, 4, .inl b_rowSort)), (ad 41, .inl (dA 0, 4, .inl b_rowMany)), (ad 42, .inl (dA 1, 160, .inr (.inl b_numbers)))] sz) := by
  unfold zf_X11_seen at hf
  refine Met.ofW (cc := cX11_seen) (maxL := 3) (ret := (some .long)) (by decide) rfl ?_
  intro p e s m args below meth c s₁ B hml hv
  obtain ⟨rfl, hsz, hP, hK, hD0⟩ := hv
  have hx := B.exec
  have hb := B.bytes
  have hr := B.returns
  have ht : ∀ w ∈ zr_T, w.before ([.ref (ad 0), .int p1] : List Value).toArray s = true := fun w hw => atoms_spec (ws := .code yX11_seen cX11_seen 3 (some .long) :: zr_T) B.pre w (List.mem_cons_of_mem _ hw)
  have hown : s.vm.findClass RX11 = some m.cls := findClass_of_methodNamed B.named
  have hlocks := B.notSynchronized
  subst hsz
  have hD := hD0.self (sz := s.heap.size)
  generalize hAe : va_A [zr_o ad f_thrown f_taped f_at f_behind f_size f_kind f_number f_wrong f_wrongAt f_faultKind f_faultPlace f_reading f_toldWhy f_x f_standMany f_bestMany f_tail f_round1, (ad 2, .inl (dA 0, 2982, .inl b_all)), (ad 17, .inl (dA 0, 900, .inl b_reckoned)), (ad 18, .inl (dA 0, 6, .inl b_words)), (ad 22, .inl (dA 0, 2880, .inl b_stand)), (ad 23, .inl (dA 0, 43200, .inl b_then)), (ad 25, .inl (dA 2, 2880, .inl b_known)), (ad 36, .inl (dA 1, 20160, .inr (.inl b_on))), (ad 40, .inl (dA 0, 4, .inl b_rowSort)), (ad 41, .inl (dA 0, 4, .inl b_rowMany)), (ad 42, .inl (dA 1, 160, .inr (.inl b_numbers)))] s.heap.size = A at hD ⊢
  have hA : ∀ q : Nat, s.heap.size ≤ q → A q := fun q h => by rw [← hAe]; exact Or.inr h
  clear hAe hD0
  have hS : va_S A s.heap s.heap [] := va_S.rf
  have hl := lv_entry ([.ref (ad 0), .int p1]) (n := 3) (Nat.le_of_ble_eq_true rfl)
  rw [lg_entry_eq]
  generalize (lg_sl ([.ref (ad 0), .int p1]) ++ List.replicate (3 - (lg_sl ([.ref (ad 0), .int p1])).length) Slot.unset).toArray = ls at hl ⊢
  have hl : lv_has ls 3 [(0, .ref (ad 0)), (1, .int p1)] := hl
  refine lv_aload_n (pc := 0) hx hb dX11_seen_0 rfl (lv_at hl 0 rfl) ?_
  refine lv_iconst (v := (0 : Int32)) (pc := 1) hx hb dX11_seen_1 (by decide) ?_
  refine va_put (pc := 2) (D := (dC, dI)) (ci := 0) (v := .int (0 : Int32)) (ty := .int) (C := RX11) (T := TX11) (N := 42) hx hb ht zr_lay tyX11 tyX11_ok nmX11 hown hK hP hD hS 0 rfl rfl 0 (by decide) (ht _ zr_39) (fun _ h9 => h9) rfl (by decide +kernel) rfl rfl (Nat.le_of_ble_eq_true rfl) dX11_seen_2 (fun H locs hP hD hS => ?_)
  have hP : va_P (dC, dI) zz_cls [zr_o ad (0 : Int32) f_taped f_at f_behind f_size f_kind f_number f_wrong f_wrongAt f_faultKind f_faultPlace f_reading f_toldWhy f_x f_standMany f_bestMany f_tail f_round1, (ad 2, .inl (dA 0, 2982, .inl b_all)), (ad 17, .inl (dA 0, 900, .inl b_reckoned)), (ad 18, .inl (dA 0, 6, .inl b_words)), (ad 22, .inl (dA 0, 2880, .inl b_stand)), (ad 23, .inl (dA 0, 43200, .inl b_then)), (ad 25, .inl (dA 2, 2880, .inl b_known)), (ad 36, .inl (dA 1, 20160, .inr (.inl b_on))), (ad 40, .inl (dA 0, 4, .inl b_rowSort)), (ad 41, .inl (dA 0, 4, .inl b_rowMany)), (ad 42, .inl (dA 1, 160, .inr (.inl b_numbers)))] H := hP
  have hD : va_D A [zr_o ad (0 : Int32) f_taped f_at f_behind f_size f_kind f_number f_wrong f_wrongAt f_faultKind f_faultPlace f_reading f_toldWhy f_x f_standMany f_bestMany f_tail f_round1, (ad 2, .inl (dA 0, 2982, .inl b_all)), (ad 17, .inl (dA 0, 900, .inl b_reckoned)), (ad 18, .inl (dA 0, 6, .inl b_words)), (ad 22, .inl (dA 0, 2880, .inl b_stand)), (ad 23, .inl (dA 0, 43200, .inl b_then)), (ad 25, .inl (dA 2, 2880, .inl b_known)), (ad 36, .inl (dA 1, 20160, .inr (.inl b_on))), (ad 40, .inl (dA 0, 4, .inl b_rowSort)), (ad 41, .inl (dA 0, 4, .inl b_rowMany)), (ad 42, .inl (dA 1, 160, .inr (.inl b_numbers)))] := hD
  refine lv_aload_n (pc := 5) hx hb dX11_seen_5 rfl (lv_at hl 0 rfl) ?_
  refine lv_iload_n (pc := 6) hx hb dX11_seen_6 rfl (lv_at hl 1 rfl) ?_
  obtain ⟨v1, hv1, hf⟩ := zc_1 hf
  refine zw_Vi (pc := 7) (wc := [zr_o ad (0 : Int32) f_taped f_at f_behind f_size f_kind f_number f_wrong f_wrongAt f_faultKind f_faultPlace f_reading f_toldWhy f_x f_standMany f_bestMany f_tail f_round1, (ad 40, .inl (dA 0, 4, .inl b_rowSort)), (ad 41, .inl (dA 0, 4, .inl b_rowMany)), (ad 42, .inl (dA 1, 160, .inr (.inl b_numbers)))]) (wr := [(ad 2, .inl (dA 0, 2982, .inl b_all)), (ad 17, .inl (dA 0, 900, .inl b_reckoned)), (ad 18, .inl (dA 0, 6, .inl b_words)), (ad 22, .inl (dA 0, 2880, .inl b_stand)), (ad 23, .inl (dA 0, 43200, .inl b_then)), (ad 25, .inl (dA 2, 2880, .inl b_known)), (ad 36, .inl (dA 1, 20160, .inr (.inl b_on)))]) (w1 := [zr_o ad (0 : Int32) f_taped f_at f_behind f_size f_kind f_number f_wrong f_wrongAt f_faultKind f_faultPlace f_reading f_toldWhy f_x f_standMany f_bestMany f_tail f_round1, (ad 40, .inl (dA 0, 4, .inl b_rowSort)), (ad 41, .inl (dA 0, 4, .inl b_rowMany)), (ad 42, .inl (dA 1, 160, .inr (.inl b_numbers)))]) (As := [.int p1]) (rest := []) ⟨hx, hb, hml, hown, ht⟩ (zt_X11_noSeen l dC dI dA ad _ n (0 : Int32) f_taped f_at f_behind f_size f_kind f_number f_wrong f_wrongAt f_faultKind f_faultPlace f_reading f_toldWhy f_x f_standMany f_bestMany f_tail f_round1 b_rowSort b_rowMany b_numbers p1 v1 hv1) (cwV 1 ht (zr_V zr_416 zr_417 zr_418 zr_36 zr_408) rfl rfl rfl zk_X11_noSeen ⟨Nat.le_of_ble_eq_true rfl, Nat.le_of_ble_eq_true rfl⟩) rfl rfl hK hP hD hS hA [0, 8, 9, 10] [1, 2, 3, 4, 5, 6, 7] (by decide) (by decide) (by decide) rfl rfl rfl hl.1 (Nat.le_of_ble_eq_true rfl) dX11_seen_7 ⟨Nat.zero_le _, Nat.zero_le _⟩ rfl (fun H locs hP hD hS => ?_)
  have hP : va_P (dC, dI) zz_cls [(ad 2, .inl (dA 0, 2982, .inl b_all)), (ad 17, .inl (dA 0, 900, .inl b_reckoned)), (ad 18, .inl (dA 0, 6, .inl b_words)), (ad 22, .inl (dA 0, 2880, .inl b_stand)), (ad 23, .inl (dA 0, 43200, .inl b_then)), (ad 25, .inl (dA 2, 2880, .inl b_known)), (ad 36, .inl (dA 1, 20160, .inr (.inl b_on))), zr_o ad (0 : Int32) f_taped f_at f_behind f_size f_kind f_number f_wrong f_wrongAt f_faultKind f_faultPlace f_reading f_toldWhy f_x f_standMany f_bestMany f_tail f_round1, (ad 40, .inl (dA 0, 4, .inl b_rowSort)), (ad 41, .inl (dA 0, 4, .inl b_rowMany)), (ad 42, .inl (dA 1, 160, .inr (.inl b_numbers)))] H := hP
  have hD : va_D A [(ad 2, .inl (dA 0, 2982, .inl b_all)), (ad 17, .inl (dA 0, 900, .inl b_reckoned)), (ad 18, .inl (dA 0, 6, .inl b_words)), (ad 22, .inl (dA 0, 2880, .inl b_stand)), (ad 23, .inl (dA 0, 43200, .inl b_then)), (ad 25, .inl (dA 2, 2880, .inl b_known)), (ad 36, .inl (dA 1, 20160, .inr (.inl b_on))), zr_o ad (0 : Int32) f_taped f_at f_behind f_size f_kind f_number f_wrong f_wrongAt f_faultKind f_faultPlace f_reading f_toldWhy f_x f_standMany f_bestMany f_tail f_round1, (ad 40, .inl (dA 0, 4, .inl b_rowSort)), (ad 41, .inl (dA 0, 4, .inl b_rowMany)), (ad 42, .inl (dA 1, 160, .inr (.inl b_numbers)))] := hD
  refine lv_istore_n (lv' := [(2, .int v1), (0, .ref (ad 0)), (1, .int p1)]) (pc := 10) hx hb dX11_seen_10 rfl hl (by decide) rfl (fun ls hl => ?_)
  refine lv_iload_n (pc := 11) hx hb dX11_seen_11 rfl (lv_at hl 0 rfl) ?_
  refine lv_if_eq (tgt := 18) (pc := 12) hx hb dX11_seen_12 rfl (fun hc => ?_) (fun hc => ?_)
  · have hf := za_t hf hc
    refine lv_aload_n (pc := 18) hx hb dX11_seen_18 rfl (lv_at hl 1 rfl) ?_
    refine lv_iconst (v := (0 : Int32)) (pc := 19) hx hb dX11_seen_19 (by decide) ?_
    obtain ⟨v2, a3, a4, a5, a6, a7, hv2, hf⟩ := zc_6 hf
    refine zw_Vv (pc := 20) (wc := [zr_o ad (0 : Int32) f_taped f_at f_behind f_size f_kind f_number f_wrong f_wrongAt f_faultKind f_faultPlace f_reading f_toldWhy f_x f_standMany f_bestMany f_tail f_round1, (ad 2, .inl (dA 0, 2982, .inl b_all)), (ad 17, .inl (dA 0, 900, .inl b_reckoned)), (ad 18, .inl (dA 0, 6, .inl b_words)), (ad 22, .inl (dA 0, 2880, .inl b_stand)), (ad 23, .inl (dA 0, 43200, .inl b_then)), (ad 25, .inl (dA 2, 2880, .inl b_known))]) (wr := [(ad 36, .inl (dA 1, 20160, .inr (.inl b_on))), (ad 40, .inl (dA 0, 4, .inl b_rowSort)), (ad 41, .inl (dA 0, 4, .inl b_rowMany)), (ad 42, .inl (dA 1, 160, .inr (.inl b_numbers)))]) (w1 := [zr_o ad (0 : Int32) f_taped f_at f_behind f_size f_kind f_number f_wrong f_wrongAt f_faultKind f_faultPlace f_reading f_toldWhy f_x v2 f_bestMany f_tail f_round1, (ad 2, .inl (dA 0, 2982, .inl b_all)), (ad 17, .inl (dA 0, 900, .inl a3)), (ad 18, .inl (dA 0, 6, .inl a4)), (ad 22, .inl (dA 0, 2880, .inl a5)), (ad 23, .inl (dA 0, 43200, .inl a6)), (ad 25, .inl (dA 2, 2880, .inl a7))]) (As := [.int (0 : Int32)]) (rest := []) ⟨hx, hb, hml, hown, ht⟩ (zt_X11_laysStands l dC dI dA ad _ n (0 : Int32) f_taped f_at f_behind f_size f_kind f_number f_wrong f_wrongAt f_faultKind f_faultPlace f_reading f_toldWhy f_x f_standMany f_bestMany f_tail f_round1 b_all b_reckoned b_words b_stand b_then b_known (0 : Int32) v2 a3 a4 a5 a6 a7 hv2) (cwV 1 ht (zr_V zr_354 zr_355 zr_356 zr_36 zr_350) rfl rfl rfl zk_X11_laysStands ⟨Nat.le_of_ble_eq_true rfl, Nat.le_of_ble_eq_true rfl⟩) rfl rfl hK hP hD hS hA [7, 0, 1, 2, 3, 4, 5] [6, 8, 9, 10] (by decide) (by decide) (by decide) rfl rfl rfl hl.1 (Nat.le_of_ble_eq_true rfl) dX11_seen_20 ⟨Nat.zero_le _, Nat.zero_le _⟩ rfl (fun H locs hP hD hS => ?_)
    have hP : va_P (dC, dI) zz_cls [(ad 36, .inl (dA 1, 20160, .inr (.inl b_on))), (ad 40, .inl (dA 0, 4, .inl b_rowSort)), (ad 41, .inl (dA 0, 4, .inl b_rowMany)), (ad 42, .inl (dA 1, 160, .inr (.inl b_numbers))), zr_o ad (0 : Int32) f_taped f_at f_behind f_size f_kind f_number f_wrong f_wrongAt f_faultKind f_faultPlace f_reading f_toldWhy f_x v2 f_bestMany f_tail f_round1, (ad 2, .inl (dA 0, 2982, .inl b_all)), (ad 17, .inl (dA 0, 900, .inl a3)), (ad 18, .inl (dA 0, 6, .inl a4)), (ad 22, .inl (dA 0, 2880, .inl a5)), (ad 23, .inl (dA 0, 43200, .inl a6)), (ad 25, .inl (dA 2, 2880, .inl a7))] H := hP
    have hD : va_D A [(ad 36, .inl (dA 1, 20160, .inr (.inl b_on))), (ad 40, .inl (dA 0, 4, .inl b_rowSort)), (ad 41, .inl (dA 0, 4, .inl b_rowMany)), (ad 42, .inl (dA 1, 160, .inr (.inl b_numbers))), zr_o ad (0 : Int32) f_taped f_at f_behind f_size f_kind f_number f_wrong f_wrongAt f_faultKind f_faultPlace f_reading f_toldWhy f_x v2 f_bestMany f_tail f_round1, (ad 2, .inl (dA 0, 2982, .inl b_all)), (ad 17, .inl (dA 0, 900, .inl a3)), (ad 18, .inl (dA 0, 6, .inl a4)), (ad 22, .inl (dA 0, 2880, .inl a5)), (ad 23, .inl (dA 0, 43200, .inl a6)), (ad 25, .inl (dA 2, 2880, .inl a7))] := hD
    refine lv_aload_n (pc := 23) hx hb dX11_seen_23 rfl (lv_at hl 1 rfl) ?_
    refine lv_iload_n (pc := 24) hx hb dX11_seen_24 rfl (lv_at hl 2 rfl) ?_
    refine lv_iconst (v := (-1 : Int32)) (pc := 25) hx hb dX11_seen_25 (by decide) ?_
    obtain ⟨v8, a9, hv8, hf⟩ := zc_2 hf
    refine zw_Vl (pc := 26) (wc := [zr_o ad (0 : Int32) f_taped f_at f_behind f_size f_kind f_number f_wrong f_wrongAt f_faultKind f_faultPlace f_reading f_toldWhy f_x v2 f_bestMany f_tail f_round1, (ad 2, .inl (dA 0, 2982, .inl b_all)), (ad 22, .inl (dA 0, 2880, .inl a5)), (ad 23, .inl (dA 0, 43200, .inl a6)), (ad 36, .inl (dA 1, 20160, .inr (.inl b_on))), (ad 41, .inl (dA 0, 4, .inl b_rowMany)), (ad 42, .inl (dA 1, 160, .inr (.inl b_numbers)))]) (wr := [(ad 40, .inl (dA 0, 4, .inl b_rowSort)), (ad 17, .inl (dA 0, 900, .inl a3)), (ad 18, .inl (dA 0, 6, .inl a4)), (ad 25, .inl (dA 2, 2880, .inl a7))]) (w1 := [zr_o ad (0 : Int32) f_taped f_at f_behind f_size f_kind f_number f_wrong f_wrongAt f_faultKind f_faultPlace f_reading f_toldWhy f_x v2 f_bestMany f_tail f_round1, (ad 2, .inl (dA 0, 2982, .inl b_all)), (ad 22, .inl (dA 0, 2880, .inl a5)), (ad 23, .inl (dA 0, 43200, .inl a6)), (ad 36, .inl (dA 1, 20160, .inr (.inl a9))), (ad 41, .inl (dA 0, 4, .inl b_rowMany)), (ad 42, .inl (dA 1, 160, .inr (.inl b_numbers)))]) (As := [.int p1, .int (-1 : Int32)]) (rest := []) ⟨hx, hb, hml, hown, ht⟩ (zt_X11_laysSeen l dC dI dA ad _ n (0 : Int32) f_taped f_at f_behind f_size f_kind f_number f_wrong f_wrongAt f_faultKind f_faultPlace f_reading f_toldWhy f_x v2 f_bestMany f_tail f_round1 b_all a5 a6 b_on b_rowMany b_numbers p1 (-1 : Int32) v8 a9 hv8) (cwV 2 ht (zr_V zr_419 zr_420 zr_421 zr_36 zr_415) rfl rfl rfl zk_X11_laysSeen ⟨Nat.le_of_ble_eq_true rfl, Nat.le_of_ble_eq_true rfl⟩) rfl rfl hK hP hD hS hA [4, 5, 8, 9, 0, 2, 3] [1, 6, 7, 10] (by decide) (by decide) (by decide) rfl rfl rfl hl.1 (Nat.le_of_ble_eq_true rfl) dX11_seen_26 ⟨Nat.zero_le _, Nat.zero_le _⟩ rfl (fun H locs hP hD hS => ?_)
    have hP : va_P (dC, dI) zz_cls [(ad 40, .inl (dA 0, 4, .inl b_rowSort)), (ad 17, .inl (dA 0, 900, .inl a3)), (ad 18, .inl (dA 0, 6, .inl a4)), (ad 25, .inl (dA 2, 2880, .inl a7)), zr_o ad (0 : Int32) f_taped f_at f_behind f_size f_kind f_number f_wrong f_wrongAt f_faultKind f_faultPlace f_reading f_toldWhy f_x v2 f_bestMany f_tail f_round1, (ad 2, .inl (dA 0, 2982, .inl b_all)), (ad 22, .inl (dA 0, 2880, .inl a5)), (ad 23, .inl (dA 0, 43200, .inl a6)), (ad 36, .inl (dA 1, 20160, .inr (.inl a9))), (ad 41, .inl (dA 0, 4, .inl b_rowMany)), (ad 42, .inl (dA 1, 160, .inr (.inl b_numbers)))] H := hP
    have hD : va_D A [(ad 40, .inl (dA 0, 4, .inl b_rowSort)), (ad 17, .inl (dA 0, 900, .inl a3)), (ad 18, .inl (dA 0, 6, .inl a4)), (ad 25, .inl (dA 2, 2880, .inl a7)), zr_o ad (0 : Int32) f_taped f_at f_behind f_size f_kind f_number f_wrong f_wrongAt f_faultKind f_faultPlace f_reading f_toldWhy f_x v2 f_bestMany f_tail f_round1, (ad 2, .inl (dA 0, 2982, .inl b_all)), (ad 22, .inl (dA 0, 2880, .inl a5)), (ad 23, .inl (dA 0, 43200, .inl a6)), (ad 36, .inl (dA 1, 20160, .inr (.inl a9))), (ad 41, .inl (dA 0, 4, .inl b_rowMany)), (ad 42, .inl (dA 1, 160, .inr (.inl b_numbers)))] := hD
    obtain ⟨rfl, rfl, rfl, rfl, rfl, rfl, rfl, rfl, rfl⟩ := zi_9 hf
    exact W.lret (pc := 29) hx hb hr (fun t ht hW => ⟨⟨_, (), rfl, rfl, zz_Bi (by rw [ht]; exact hP.sub [4, 5, 1, 2, 6, 7, 3, 8, 0, 9, 10] rfl) (va_K.moved hW.alike hK) (hD.sub [4, 5, 1, 2, 6, 7, 3, 8, 0, 9, 10] (by decide) rfl)⟩, hS.F ht⟩) hS.2.2 dX11_seen_29
  · have hf := za_f hf hc
    refine lv_iload_n (pc := 15) hx hb dX11_seen_15 rfl (lv_at hl 0 rfl) ?_
    refine lv_i2l (pc := 16) hx hb dX11_seen_16 rfl ?_
    obtain ⟨rfl, rfl, rfl, rfl, rfl, rfl, rfl, rfl, rfl⟩ := zi_9 hf
    exact W.lret (pc := 17) hx hb hr (fun t ht hW => ⟨⟨_, (), rfl, rfl, zz_Bi (by rw [ht]; exact hP.sub [7, 0, 1, 2, 3, 4, 5, 6, 8, 9, 10] rfl) (va_K.moved hW.alike hK) (hD.sub [7, 0, 1, 2, 3, 4, 5, 6, 8, 9, 10] (by decide) rfl)⟩, hS.F ht⟩) hS.2.2 dX11_seen_17

def zb_X11_seenBy_64 (a6 : (Nat → Int32)) (v12 : Int32) (n : Nat) (b_numbers : (Nat → Int64)) (p1 : Int32) (v13 : Int32) (a9 : (Nat → Int64)) (v15 : Int32) : Option (Nat × Int32) :=
  zd_1 (za_ld a6 43200 (((15 : Int32) * v12) + v15)) (fun v16 =>
  if v16 = (-1 : Int32) then
    zd_1 (some (v15 + (1 : Int32))) (fun v17 =>
    some (0, v17))
  else
    zd_1 (za_ld a6 43200 (((15 : Int32) * v12) + v15)) (fun v18 =>
    zd_1 (zf_X11_isSeen n b_numbers p1 v13 v18) (fun v19 =>
    if v19 = 0 then
      zd_1 (some (v15 + (1 : Int32))) (fun v20 =>
      some (0, v20))
    else
      zd_1 (za_ld a6 43200 (((15 : Int32) * v12) + v15)) (fun v21 =>
      zd_1 (za_ld a9 20160 (((2880 : Int32) * (v13 + (1 : Int32))) + v21)) (fun v22 =>
      if (lg_cmp v22 (0 : Int64)) = 0 then
        zd_1 (some (v15 + (1 : Int32))) (fun v23 =>
        some (0, v23))
      else
        some (1, v15))))))
def zb_X11_seenBy_61 (a6 : (Nat → Int32)) (n : Nat) (b_numbers : (Nat → Int64)) (p1 : Int32) (a9 : (Nat → Int64)) (p2 : Int32) (v12 : Int32) (v13 : Int32) (v14 : Int32) : Option (Nat × Int32 × Int32 × Int32) :=
  zd_2 (za_it (fun v => zb_X11_seenBy_64 a6 v12 n b_numbers p1 v13 a9 v) n (0 : Int32)) (fun g25 v24 =>
  if v13 = p2 then
    some (1, v12, v13, v24)
  else
    zd_1 (za_ld a6 43200 (((15 : Int32) * v12) + v24)) (fun v26 =>
    zd_1 (some (v13 + (1 : Int32))) (fun v27 =>
    some (0, v26, v27, v24))))
def zf_X11_seenBy (n : Nat) (f_thrown : Int32) (f_standMany : Int32) (b_all : (Nat → Int32)) (b_reckoned : (Nat → Int32)) (b_words : (Nat → Int32)) (b_stand : (Nat → Int32)) (b_then : (Nat → Int32)) (b_known : (Nat → Int32)) (b_on : (Nat → Int64)) (b_rowSort : (Nat → Int32)) (b_rowMany : (Nat → Int32)) (b_numbers : (Nat → Int64)) (p1 : Int32) (p2 : Int32) : Option (Int32 × Int32 × Int32 × (Nat → Int32) × (Nat → Int32) × (Nat → Int32) × (Nat → Int32) × (Nat → Int32) × (Nat → Int64)) :=
  zd_1 (zf_X11_noSeen n b_rowSort b_rowMany b_numbers p1) (fun v1 =>
  if v1 = 0 then
    if 0 ≤ p2 then
      zd_6 (zf_X11_laysStands n f_standMany b_all b_reckoned b_words b_stand b_then b_known (0 : Int32)) (fun v2 a3 a4 a5 a6 a7 =>
      zd_2 (zf_X11_laysSeen n v2 b_all a5 a6 b_on b_rowMany b_numbers p1 (-1 : Int32)) (fun v8 a9 =>
      if (lg_cmp v8 (0 : Int64)) = 0 then
        some ((-1 : Int32), (0 : Int32), v2, a3, a4, a5, a6, a7, a9)
      else
        zd_1 (za_ld b_rowMany 4 p1) (fun v10 =>
        if p2 < v10 then
          zd_1 (zf_X11_standNow b_all) (fun v11 =>
          zd_4 (za_it (fun v => zb_X11_seenBy_61 a6 n b_numbers p1 a9 p2 v.1 v.2.1 v.2.2) n (v11, (0 : Int32), (0 : Int32))) (fun g31 v28 v29 v30 =>
          zd_1 (zf_X11_toldMove v30) (fun v32 =>
          some (v32, (0 : Int32), v2, a3, a4, a5, a6, a7, a9))))
        else
          some ((-1 : Int32), (0 : Int32), v2, a3, a4, a5, a6, a7, a9))))
    else
      some ((-3 : Int32), (0 : Int32), f_standMany, b_reckoned, b_words, b_stand, b_then, b_known, b_on)
  else
    some (v1, (0 : Int32), f_standMany, b_reckoned, b_words, b_stand, b_then, b_known, b_on))
theorem zk_X11_seenBy : yX11_seenBy.cls = RX11 ∧ yX11_seenBy.cls ≠ "java/lang/invoke/MethodHandle" ∧ yX11_seenBy.cls ≠ "java/lang/invoke/VarHandle" ∧ (parseMethodDescriptor yX11_seenBy.desc).map (fun d => d.parameters.length) = some 2 := by decide +kernel
set_option maxHeartbeats 4000000 in
set_option maxRecDepth 100000 in
theorem zt_X11_seenBy (l : Launch) (dC : Nat → ClassId) (dI : Nat → Nat → Nat) (dA : Nat → ClassId) (ad : Nat → Nat) (sz : Nat) (n : Nat) (f_thrown f_taped f_at f_behind f_size f_kind f_number f_wrong f_wrongAt f_faultKind f_faultPlace f_reading f_toldWhy f_x f_standMany f_bestMany f_tail f_round1 : Int32) (b_all : (Nat → Int32)) (b_reckoned : (Nat → Int32)) (b_words : (Nat → Int32)) (b_stand : (Nat → Int32)) (b_then : (Nat → Int32)) (b_known : (Nat → Int32)) (b_on : (Nat → Int64)) (b_rowSort : (Nat → Int32)) (b_rowMany : (Nat → Int32)) (b_numbers : (Nat → Int64)) (p1 : Int32) (p2 : Int32) (r0 : Int32) (o1 : Int32) (o2 : Int32) (o3 : (Nat → Int32)) (o4 : (Nat → Int32)) (o5 : (Nat → Int32)) (o6 : (Nat → Int32)) (o7 : (Nat → Int32)) (o8 : (Nat → Int64)) (hf : zf_X11_seenBy n f_thrown f_standMany b_all b_reckoned b_words b_stand b_then b_known b_on b_rowSort b_rowMany b_numbers p1 p2 = some (r0, o1, o2, o3, o4, o5, o6, o7, o8)) : Met l yX11_seenBy (.code yX11_seenBy cX11_seenBy 7 (some .int) :: zr_T) ({ frames := 5, cells := 0, slots := 0, locals := 123 }) (va_Pc [.ref (ad 0), .int p1, .int p2] (zz_M dC dI dA [zr_o ad f_thrown f_taped f_at f_behind f_size f_kind f_number f_wrong f_wrongAt f_faultKind f_faultPlace f_reading f_toldWhy f_x f_standMany f_bestMany f_tail f_round1, (ad 2, .inl (dA 0, 2982, .inl b_all)), (ad 17, .inl (dA 0, 900, .inl b_reckoned)), (ad 18, .inl (dA 0, 6, .inl b_words)), (ad 22, .inl (dA 0, 2880, .inl b_stand)), (ad 23, .inl (dA 0, 43200, .inl b_then)), (ad 25, .inl (dA 2, 2880, .inl b_known)), (ad 36, .inl (dA 1, 20160, .inr (.inl b_on))), (ad 40, .inl (dA 0, 4, .inl b_rowSort)), (ad 41, .inl (dA 0, 4, .inl b_rowMany)), (ad 42, .inl (dA 1, 160, .inr (.inl b_numbers)))] sz)) (va_Qi (fun (r : Int32) (_ : Unit) => r = r0) (fun _ t => zz_B dC dI dA (va_A [zr_o ad f_thrown f_taped f_at f_behind f_size f_kind f_number f_wrong f_wrongAt f_faultKind f_faultPlace f_reading f_toldWhy f_x f_standMany f_bestMany f_tail f_round1, (ad 2, .inl (dA 0, 2982, .inl b_all)), (ad 17, .inl (dA 0, 900, .inl b_reckoned)), (ad 18, .inl (dA 0, 6, .inl b_words)), (ad 22, .inl (dA 0, 2880, .inl b_stand)), (ad 23, .inl (dA 0, 43200, .inl b_then)), (ad 25, .inl (dA 2, 2880, .inl b_known)), (ad 36, .inl (dA 1, 20160, .inr (.inl b_on))), (ad 40, .inl (dA 0, 4, .inl b_rowSort)), (ad 41, .inl (dA 0, 4, .inl b_rowMany)), (ad 42, .inl (dA 1, 160, .inr (.inl b_numbers)))] sz) [zr_o ad o1 f_taped f_at f_behind f_size f_kind f_number f_wrong f_wrongAt f_faultKind f_faultPlace f_reading f_toldWhy f_x o2 f_bestMany f_tail f_round1, (ad 2, .inl (dA 0, 2982, .inl b_all)), (ad 17, .inl (dA 0, 900, .inl o3)), (ad 18, .inl (dA 0, 6, .inl o4)), (ad 22, .inl (dA 0, 2880, .inl o5)), (ad 23, .inl (dA 0, 43200, .inl o6)), (ad 25, .inl (dA 2, 2880, .inl o7)), (ad 36, .inl (dA 1, 20160, .inr (.inl o8))), (ad 40, .inl (dA 0, 4, .inl b_rowSort)), (ad 41, .inl (dA 0, 4, .inl b_rowMany)), (ad 42, .inl (dA 1, 160, .inr (.inl b_numbers)))] t) (va_A [zr_o ad f_thrown f_taped f_at f_behind f_size f_kind f_number f_wrong f_wrongAt f_faultKind f_faultPlace f_reading f_toldWhy f_x f_standMany f_bestMany f_tail f_round1, (ad 2, .inl (dA 0, 2982, .inl b_all)), (ad 17, .inl (dA 0, 900, .inl b_reckoned)), (ad 18, .inl (dA 0, 6, .inl b_words)), (ad 22, .inl (dA 0, 2880, .inl b_stand)), (ad 23, .inl (dA 0, 43200, .inl b_then)), (ad 25, .inl (dA 2, 2880, .inl b_known)), (ad 36, .inl (dA 1, 20160, .inr (.inl b_on))), (ad 40, .inl (dA 0, 4, .inl b_rowSort)), (ad 41, .inl (dA 0, 4, .inl b_rowMany)), (ad 42, .inl (dA 1, 160, .inr (.inl b_numbers)))] sz)) 0 0 (va_A [zr_o ad f_thrown f_taped f_at f_behind f_size f_kind f_number f_wrong f_wrongAt f_faultKind f_faultPlace f_reading f_toldWhy f_x f_standMany f_bestMany f_tail f_round1, (ad 2, .inl (dA 0, 2982, .inl b_all)), (ad 17, .inl (dA 0, 900, .inl b_reckoned)), (ad 18, .inl (dA 0, 6, .inl b_words)), (ad 22, .inl (dA 0, 2880, .inl b_stand)), (ad 23, .inl (dA 0, 43200, .inl b_then)), (ad 25, .inl (dA 2, 2880, .inl b_known)), (ad 36, .inl (dA 1, 20160, .inr (.inl b_on))), (ad 40, .inl (dA 0, 4, .inl b_rowSort)), (ad 41, .inl (dA 0, 4, .inl b_rowMany)), (ad 42, .inl (dA 1, 160, .inr (.inl b_numbers)))] sz) := by
  unfold zf_X11_seenBy at hf
  refine Met.ofW (cc := cX11_seenBy) (maxL := 7) (ret := (some .int)) (by decide) rfl ?_
  intro p e s m args below meth c s₁ B hml hv
  obtain ⟨rfl, hsz, hP, hK, hD0⟩ := hv
  have hx := B.exec
  have hb := B.bytes
  have hr := B.returns
  have ht : ∀ w ∈ zr_T, w.before ([.ref (ad 0), .int p1, .int p2] : List Value).toArray s = true := fun w hw => atoms_spec (ws := .code yX11_seenBy cX11_seenBy 7 (some .int) :: zr_T) B.pre w (List.mem_cons_of_mem _ hw)
  have hown : s.vm.findClass RX11 = some m.cls := findClass_of_methodNamed B.named
  have hlocks := B.notSynchronized
  subst hsz
  have hD := hD0.self (sz := s.heap.size)
  generalize hAe : va_A [zr_o ad f_thrown f_taped f_at f_behind f_size f_kind f_number f_wrong f_wrongAt f_faultKind f_faultPlace f_reading f_toldWhy f_x f_standMany f_bestMany f_tail f_round1, (ad 2, .inl (dA 0, 2982, .inl b_all)), (ad 17, .inl (dA 0, 900, .inl b_reckoned)), (ad 18, .inl (dA 0, 6, .inl b_words)), (ad 22, .inl (dA 0, 2880, .inl b_stand)), (ad 23, .inl (dA 0, 43200, .inl b_then)), (ad 25, .inl (dA 2, 2880, .inl b_known)), (ad 36, .inl (dA 1, 20160, .inr (.inl b_on))), (ad 40, .inl (dA 0, 4, .inl b_rowSort)), (ad 41, .inl (dA 0, 4, .inl b_rowMany)), (ad 42, .inl (dA 1, 160, .inr (.inl b_numbers)))] s.heap.size = A at hD ⊢
  have hA : ∀ q : Nat, s.heap.size ≤ q → A q := fun q h => by rw [← hAe]; exact Or.inr h
  clear hAe hD0
  have hS : va_S A s.heap s.heap [] := va_S.rf
  have hl := lv_entry ([.ref (ad 0), .int p1, .int p2]) (n := 7) (Nat.le_of_ble_eq_true rfl)
  rw [lg_entry_eq]
  generalize (lg_sl ([.ref (ad 0), .int p1, .int p2]) ++ List.replicate (7 - (lg_sl ([.ref (ad 0), .int p1, .int p2])).length) Slot.unset).toArray = ls at hl ⊢
  have hl : lv_has ls 7 [(0, .ref (ad 0)), (1, .int p1), (2, .int p2)] := hl
  refine lv_aload_n (pc := 0) hx hb dX11_seenBy_0 rfl (lv_at hl 0 rfl) ?_
  refine lv_iconst (v := (0 : Int32)) (pc := 1) hx hb dX11_seenBy_1 (by decide) ?_
  refine va_put (pc := 2) (D := (dC, dI)) (ci := 0) (v := .int (0 : Int32)) (ty := .int) (C := RX11) (T := TX11) (N := 42) hx hb ht zr_lay tyX11 tyX11_ok nmX11 hown hK hP hD hS 0 rfl rfl 0 (by decide) (ht _ zr_39) (fun _ h9 => h9) rfl (by decide +kernel) rfl rfl (Nat.le_of_ble_eq_true rfl) dX11_seenBy_2 (fun H locs hP hD hS => ?_)
  have hP : va_P (dC, dI) zz_cls [zr_o ad (0 : Int32) f_taped f_at f_behind f_size f_kind f_number f_wrong f_wrongAt f_faultKind f_faultPlace f_reading f_toldWhy f_x f_standMany f_bestMany f_tail f_round1, (ad 2, .inl (dA 0, 2982, .inl b_all)), (ad 17, .inl (dA 0, 900, .inl b_reckoned)), (ad 18, .inl (dA 0, 6, .inl b_words)), (ad 22, .inl (dA 0, 2880, .inl b_stand)), (ad 23, .inl (dA 0, 43200, .inl b_then)), (ad 25, .inl (dA 2, 2880, .inl b_known)), (ad 36, .inl (dA 1, 20160, .inr (.inl b_on))), (ad 40, .inl (dA 0, 4, .inl b_rowSort)), (ad 41, .inl (dA 0, 4, .inl b_rowMany)), (ad 42, .inl (dA 1, 160, .inr (.inl b_numbers)))] H := hP
  have hD : va_D A [zr_o ad (0 : Int32) f_taped f_at f_behind f_size f_kind f_number f_wrong f_wrongAt f_faultKind f_faultPlace f_reading f_toldWhy f_x f_standMany f_bestMany f_tail f_round1, (ad 2, .inl (dA 0, 2982, .inl b_all)), (ad 17, .inl (dA 0, 900, .inl b_reckoned)), (ad 18, .inl (dA 0, 6, .inl b_words)), (ad 22, .inl (dA 0, 2880, .inl b_stand)), (ad 23, .inl (dA 0, 43200, .inl b_then)), (ad 25, .inl (dA 2, 2880, .inl b_known)), (ad 36, .inl (dA 1, 20160, .inr (.inl b_on))), (ad 40, .inl (dA 0, 4, .inl b_rowSort)), (ad 41, .inl (dA 0, 4, .inl b_rowMany)), (ad 42, .inl (dA 1, 160, .inr (.inl b_numbers)))] := hD
  refine lv_aload_n (pc := 5) hx hb dX11_seenBy_5 rfl (lv_at hl 0 rfl) ?_
  refine lv_iload_n (pc := 6) hx hb dX11_seenBy_6 rfl (lv_at hl 1 rfl) ?_
  obtain ⟨v1, hv1, hf⟩ := zc_1 hf
  refine zw_Vi (pc := 7) (wc := [zr_o ad (0 : Int32) f_taped f_at f_behind f_size f_kind f_number f_wrong f_wrongAt f_faultKind f_faultPlace f_reading f_toldWhy f_x f_standMany f_bestMany f_tail f_round1, (ad 40, .inl (dA 0, 4, .inl b_rowSort)), (ad 41, .inl (dA 0, 4, .inl b_rowMany)), (ad 42, .inl (dA 1, 160, .inr (.inl b_numbers)))]) (wr := [(ad 2, .inl (dA 0, 2982, .inl b_all)), (ad 17, .inl (dA 0, 900, .inl b_reckoned)), (ad 18, .inl (dA 0, 6, .inl b_words)), (ad 22, .inl (dA 0, 2880, .inl b_stand)), (ad 23, .inl (dA 0, 43200, .inl b_then)), (ad 25, .inl (dA 2, 2880, .inl b_known)), (ad 36, .inl (dA 1, 20160, .inr (.inl b_on)))]) (w1 := [zr_o ad (0 : Int32) f_taped f_at f_behind f_size f_kind f_number f_wrong f_wrongAt f_faultKind f_faultPlace f_reading f_toldWhy f_x f_standMany f_bestMany f_tail f_round1, (ad 40, .inl (dA 0, 4, .inl b_rowSort)), (ad 41, .inl (dA 0, 4, .inl b_rowMany)), (ad 42, .inl (dA 1, 160, .inr (.inl b_numbers)))]) (As := [.int p1]) (rest := []) ⟨hx, hb, hml, hown, ht⟩ (zt_X11_noSeen l dC dI dA ad _ n (0 : Int32) f_taped f_at f_behind f_size f_kind f_number f_wrong f_wrongAt f_faultKind f_faultPlace f_reading f_toldWhy f_x f_standMany f_bestMany f_tail f_round1 b_rowSort b_rowMany b_numbers p1 v1 hv1) (cwV 1 ht (zr_V zr_416 zr_417 zr_418 zr_36 zr_408) rfl rfl rfl zk_X11_noSeen ⟨Nat.le_of_ble_eq_true rfl, Nat.le_of_ble_eq_true rfl⟩) rfl rfl hK hP hD hS hA [0, 8, 9, 10] [1, 2, 3, 4, 5, 6, 7] (by decide) (by decide) (by decide) rfl rfl rfl hl.1 (Nat.le_of_ble_eq_true rfl) dX11_seenBy_7 ⟨Nat.zero_le _, Nat.zero_le _⟩ rfl (fun H locs hP hD hS => ?_)
  have hP : va_P (dC, dI) zz_cls [(ad 2, .inl (dA 0, 2982, .inl b_all)), (ad 17, .inl (dA 0, 900, .inl b_reckoned)), (ad 18, .inl (dA 0, 6, .inl b_words)), (ad 22, .inl (dA 0, 2880, .inl b_stand)), (ad 23, .inl (dA 0, 43200, .inl b_then)), (ad 25, .inl (dA 2, 2880, .inl b_known)), (ad 36, .inl (dA 1, 20160, .inr (.inl b_on))), zr_o ad (0 : Int32) f_taped f_at f_behind f_size f_kind f_number f_wrong f_wrongAt f_faultKind f_faultPlace f_reading f_toldWhy f_x f_standMany f_bestMany f_tail f_round1, (ad 40, .inl (dA 0, 4, .inl b_rowSort)), (ad 41, .inl (dA 0, 4, .inl b_rowMany)), (ad 42, .inl (dA 1, 160, .inr (.inl b_numbers)))] H := hP
  have hD : va_D A [(ad 2, .inl (dA 0, 2982, .inl b_all)), (ad 17, .inl (dA 0, 900, .inl b_reckoned)), (ad 18, .inl (dA 0, 6, .inl b_words)), (ad 22, .inl (dA 0, 2880, .inl b_stand)), (ad 23, .inl (dA 0, 43200, .inl b_then)), (ad 25, .inl (dA 2, 2880, .inl b_known)), (ad 36, .inl (dA 1, 20160, .inr (.inl b_on))), zr_o ad (0 : Int32) f_taped f_at f_behind f_size f_kind f_number f_wrong f_wrongAt f_faultKind f_faultPlace f_reading f_toldWhy f_x f_standMany f_bestMany f_tail f_round1, (ad 40, .inl (dA 0, 4, .inl b_rowSort)), (ad 41, .inl (dA 0, 4, .inl b_rowMany)), (ad 42, .inl (dA 1, 160, .inr (.inl b_numbers)))] := hD
  refine lv_istore_n (lv' := [(3, .int v1), (0, .ref (ad 0)), (1, .int p1), (2, .int p2)]) (pc := 10) hx hb dX11_seenBy_10 rfl hl (by decide) rfl (fun ls hl => ?_)
  refine lv_iload_n (pc := 11) hx hb dX11_seenBy_11 rfl (lv_at hl 0 rfl) ?_
  refine lv_if_eq (tgt := 17) (pc := 12) hx hb dX11_seenBy_12 rfl (fun hc => ?_) (fun hc => ?_)
  · have hf := za_t hf hc
    refine lv_iload_n (pc := 17) hx hb dX11_seenBy_17 rfl (lv_at hl 3 rfl) ?_
    refine lv_if_ge (tgt := 24) (pc := 18) hx hb dX11_seenBy_18 rfl (fun hc => ?_) (fun hc => ?_)
    · have hf := za_t hf hc
      refine lv_aload_n (pc := 24) hx hb dX11_seenBy_24 rfl (lv_at hl 1 rfl) ?_
      refine lv_iconst (v := (0 : Int32)) (pc := 25) hx hb dX11_seenBy_25 (by decide) ?_
      obtain ⟨v2, a3, a4, a5, a6, a7, hv2, hf⟩ := zc_6 hf
      refine zw_Vv (pc := 26) (wc := [zr_o ad (0 : Int32) f_taped f_at f_behind f_size f_kind f_number f_wrong f_wrongAt f_faultKind f_faultPlace f_reading f_toldWhy f_x f_standMany f_bestMany f_tail f_round1, (ad 2, .inl (dA 0, 2982, .inl b_all)), (ad 17, .inl (dA 0, 900, .inl b_reckoned)), (ad 18, .inl (dA 0, 6, .inl b_words)), (ad 22, .inl (dA 0, 2880, .inl b_stand)), (ad 23, .inl (dA 0, 43200, .inl b_then)), (ad 25, .inl (dA 2, 2880, .inl b_known))]) (wr := [(ad 36, .inl (dA 1, 20160, .inr (.inl b_on))), (ad 40, .inl (dA 0, 4, .inl b_rowSort)), (ad 41, .inl (dA 0, 4, .inl b_rowMany)), (ad 42, .inl (dA 1, 160, .inr (.inl b_numbers)))]) (w1 := [zr_o ad (0 : Int32) f_taped f_at f_behind f_size f_kind f_number f_wrong f_wrongAt f_faultKind f_faultPlace f_reading f_toldWhy f_x v2 f_bestMany f_tail f_round1, (ad 2, .inl (dA 0, 2982, .inl b_all)), (ad 17, .inl (dA 0, 900, .inl a3)), (ad 18, .inl (dA 0, 6, .inl a4)), (ad 22, .inl (dA 0, 2880, .inl a5)), (ad 23, .inl (dA 0, 43200, .inl a6)), (ad 25, .inl (dA 2, 2880, .inl a7))]) (As := [.int (0 : Int32)]) (rest := []) ⟨hx, hb, hml, hown, ht⟩ (zt_X11_laysStands l dC dI dA ad _ n (0 : Int32) f_taped f_at f_behind f_size f_kind f_number f_wrong f_wrongAt f_faultKind f_faultPlace f_reading f_toldWhy f_x f_standMany f_bestMany f_tail f_round1 b_all b_reckoned b_words b_stand b_then b_known (0 : Int32) v2 a3 a4 a5 a6 a7 hv2) (cwV 1 ht (zr_V zr_354 zr_355 zr_356 zr_36 zr_350) rfl rfl rfl zk_X11_laysStands ⟨Nat.le_of_ble_eq_true rfl, Nat.le_of_ble_eq_true rfl⟩) rfl rfl hK hP hD hS hA [7, 0, 1, 2, 3, 4, 5] [6, 8, 9, 10] (by decide) (by decide) (by decide) rfl rfl rfl hl.1 (Nat.le_of_ble_eq_true rfl) dX11_seenBy_26 ⟨Nat.zero_le _, Nat.zero_le _⟩ rfl (fun H locs hP hD hS => ?_)
      have hP : va_P (dC, dI) zz_cls [(ad 36, .inl (dA 1, 20160, .inr (.inl b_on))), (ad 40, .inl (dA 0, 4, .inl b_rowSort)), (ad 41, .inl (dA 0, 4, .inl b_rowMany)), (ad 42, .inl (dA 1, 160, .inr (.inl b_numbers))), zr_o ad (0 : Int32) f_taped f_at f_behind f_size f_kind f_number f_wrong f_wrongAt f_faultKind f_faultPlace f_reading f_toldWhy f_x v2 f_bestMany f_tail f_round1, (ad 2, .inl (dA 0, 2982, .inl b_all)), (ad 17, .inl (dA 0, 900, .inl a3)), (ad 18, .inl (dA 0, 6, .inl a4)), (ad 22, .inl (dA 0, 2880, .inl a5)), (ad 23, .inl (dA 0, 43200, .inl a6)), (ad 25, .inl (dA 2, 2880, .inl a7))] H := hP
      have hD : va_D A [(ad 36, .inl (dA 1, 20160, .inr (.inl b_on))), (ad 40, .inl (dA 0, 4, .inl b_rowSort)), (ad 41, .inl (dA 0, 4, .inl b_rowMany)), (ad 42, .inl (dA 1, 160, .inr (.inl b_numbers))), zr_o ad (0 : Int32) f_taped f_at f_behind f_size f_kind f_number f_wrong f_wrongAt f_faultKind f_faultPlace f_reading f_toldWhy f_x v2 f_bestMany f_tail f_round1, (ad 2, .inl (dA 0, 2982, .inl b_all)), (ad 17, .inl (dA 0, 900, .inl a3)), (ad 18, .inl (dA 0, 6, .inl a4)), (ad 22, .inl (dA 0, 2880, .inl a5)), (ad 23, .inl (dA 0, 43200, .inl a6)), (ad 25, .inl (dA 2, 2880, .inl a7))] := hD
      refine lv_aload_n (pc := 29) hx hb dX11_seenBy_29 rfl (lv_at hl 1 rfl) ?_
      refine lv_iload_n (pc := 30) hx hb dX11_seenBy_30 rfl (lv_at hl 2 rfl) ?_
      refine lv_iconst (v := (-1 : Int32)) (pc := 31) hx hb dX11_seenBy_31 (by decide) ?_
      obtain ⟨v8, a9, hv8, hf⟩ := zc_2 hf
      refine zw_Vl (pc := 32) (wc := [zr_o ad (0 : Int32) f_taped f_at f_behind f_size f_kind f_number f_wrong f_wrongAt f_faultKind f_faultPlace f_reading f_toldWhy f_x v2 f_bestMany f_tail f_round1, (ad 2, .inl (dA 0, 2982, .inl b_all)), (ad 22, .inl (dA 0, 2880, .inl a5)), (ad 23, .inl (dA 0, 43200, .inl a6)), (ad 36, .inl (dA 1, 20160, .inr (.inl b_on))), (ad 41, .inl (dA 0, 4, .inl b_rowMany)), (ad 42, .inl (dA 1, 160, .inr (.inl b_numbers)))]) (wr := [(ad 40, .inl (dA 0, 4, .inl b_rowSort)), (ad 17, .inl (dA 0, 900, .inl a3)), (ad 18, .inl (dA 0, 6, .inl a4)), (ad 25, .inl (dA 2, 2880, .inl a7))]) (w1 := [zr_o ad (0 : Int32) f_taped f_at f_behind f_size f_kind f_number f_wrong f_wrongAt f_faultKind f_faultPlace f_reading f_toldWhy f_x v2 f_bestMany f_tail f_round1, (ad 2, .inl (dA 0, 2982, .inl b_all)), (ad 22, .inl (dA 0, 2880, .inl a5)), (ad 23, .inl (dA 0, 43200, .inl a6)), (ad 36, .inl (dA 1, 20160, .inr (.inl a9))), (ad 41, .inl (dA 0, 4, .inl b_rowMany)), (ad 42, .inl (dA 1, 160, .inr (.inl b_numbers)))]) (As := [.int p1, .int (-1 : Int32)]) (rest := []) ⟨hx, hb, hml, hown, ht⟩ (zt_X11_laysSeen l dC dI dA ad _ n (0 : Int32) f_taped f_at f_behind f_size f_kind f_number f_wrong f_wrongAt f_faultKind f_faultPlace f_reading f_toldWhy f_x v2 f_bestMany f_tail f_round1 b_all a5 a6 b_on b_rowMany b_numbers p1 (-1 : Int32) v8 a9 hv8) (cwV 2 ht (zr_V zr_419 zr_420 zr_421 zr_36 zr_415) rfl rfl rfl zk_X11_laysSeen ⟨Nat.le_of_ble_eq_true rfl, Nat.le_of_ble_eq_true rfl⟩) rfl rfl hK hP hD hS hA [4, 5, 8, 9, 0, 2, 3] [1, 6, 7, 10] (by decide) (by decide) (by decide) rfl rfl rfl hl.1 (Nat.le_of_ble_eq_true rfl) dX11_seenBy_32 ⟨Nat.zero_le _, Nat.zero_le _⟩ rfl (fun H locs hP hD hS => ?_)
      have hP : va_P (dC, dI) zz_cls [(ad 40, .inl (dA 0, 4, .inl b_rowSort)), (ad 17, .inl (dA 0, 900, .inl a3)), (ad 18, .inl (dA 0, 6, .inl a4)), (ad 25, .inl (dA 2, 2880, .inl a7)), zr_o ad (0 : Int32) f_taped f_at f_behind f_size f_kind f_number f_wrong f_wrongAt f_faultKind f_faultPlace f_reading f_toldWhy f_x v2 f_bestMany f_tail f_round1, (ad 2, .inl (dA 0, 2982, .inl b_all)), (ad 22, .inl (dA 0, 2880, .inl a5)), (ad 23, .inl (dA 0, 43200, .inl a6)), (ad 36, .inl (dA 1, 20160, .inr (.inl a9))), (ad 41, .inl (dA 0, 4, .inl b_rowMany)), (ad 42, .inl (dA 1, 160, .inr (.inl b_numbers)))] H := hP
      have hD : va_D A [(ad 40, .inl (dA 0, 4, .inl b_rowSort)), (ad 17, .inl (dA 0, 900, .inl a3)), (ad 18, .inl (dA 0, 6, .inl a4)), (ad 25, .inl (dA 2, 2880, .inl a7)), zr_o ad (0 : Int32) f_taped f_at f_behind f_size f_kind f_number f_wrong f_wrongAt f_faultKind f_faultPlace f_reading f_toldWhy f_x v2 f_bestMany f_tail f_round1, (ad 2, .inl (dA 0, 2982, .inl b_all)), (ad 22, .inl (dA 0, 2880, .inl a5)), (ad 23, .inl (dA 0, 43200, .inl a6)), (ad 36, .inl (dA 1, 20160, .inr (.inl a9))), (ad 41, .inl (dA 0, 4, .inl b_rowMany)), (ad 42, .inl (dA 1, 160, .inr (.inl b_numbers)))] := hD
      refine lv_lconst (v := (0 : Int64)) (pc := 35) hx hb dX11_seenBy_35 (by decide) ?_
      refine W.lcmp (pc := 36) hx hb dX11_seenBy_36 ?_
      refine lv_if_eq (tgt := 50) (pc := 37) hx hb dX11_seenBy_37 rfl (fun hc => ?_) (fun hc => ?_)
      · have hf := za_t hf hc
        refine lv_iconst (v := (-1 : Int32)) (pc := 50) hx hb dX11_seenBy_50 (by decide) ?_
        obtain ⟨rfl, rfl, rfl, rfl, rfl, rfl, rfl, rfl, rfl⟩ := zi_9 hf
        exact W.iret (pc := 51) hx hb hr (fun t ht hW => ⟨⟨_, (), rfl, rfl, zz_Bi (by rw [ht]; exact hP.sub [4, 5, 1, 2, 6, 7, 3, 8, 0, 9, 10] rfl) (va_K.moved hW.alike hK) (hD.sub [4, 5, 1, 2, 6, 7, 3, 8, 0, 9, 10] (by decide) rfl)⟩, hS.F ht⟩) hS.2.2 dX11_seenBy_51
      · have hf := za_f hf hc
        refine lv_iload_n (pc := 40) hx hb dX11_seenBy_40 rfl (lv_at hl 3 rfl) ?_
        refine lv_aload_n (pc := 41) hx hb dX11_seenBy_41 rfl (lv_at hl 1 rfl) ?_
        refine va_get (pc := 42) (D := (dC, dI)) (ci := 0) (v := .ref (ad 41)) (C := RX11) (T := TX11) (N := 42) hx hb ht zr_lay hown hK hP 4 rfl rfl 40 (by decide) (ht _ zr_32) (fun _ h9 => h9) rfl dX11_seenBy_42 ?_
        refine lv_iload_n (pc := 45) hx hb dX11_seenBy_45 rfl (lv_at hl 2 rfl) ?_
        obtain ⟨v10, hv10, hf⟩ := zc_1 hf
        refine zw_iald (pc := 46) hx hb hK hP 9 0 rfl rfl hv10 dX11_seenBy_46 ?_
        refine lv_icmp_lt (tgt := 52) (pc := 47) hx hb dX11_seenBy_47 rfl (fun hc => ?_) (fun hc => ?_)
        · have hf := za_t hf hc
          refine lv_aload_n (pc := 52) hx hb dX11_seenBy_52 rfl (lv_at hl 1 rfl) ?_
          obtain ⟨v11, hv11, hf⟩ := zc_1 hf
          refine zw_Vi (pc := 53) (wc := [zr_o ad (0 : Int32) f_taped f_at f_behind f_size f_kind f_number f_wrong f_wrongAt f_faultKind f_faultPlace f_reading f_toldWhy f_x v2 f_bestMany f_tail f_round1, (ad 2, .inl (dA 0, 2982, .inl b_all))]) (wr := [(ad 40, .inl (dA 0, 4, .inl b_rowSort)), (ad 17, .inl (dA 0, 900, .inl a3)), (ad 18, .inl (dA 0, 6, .inl a4)), (ad 25, .inl (dA 2, 2880, .inl a7)), (ad 22, .inl (dA 0, 2880, .inl a5)), (ad 23, .inl (dA 0, 43200, .inl a6)), (ad 36, .inl (dA 1, 20160, .inr (.inl a9))), (ad 41, .inl (dA 0, 4, .inl b_rowMany)), (ad 42, .inl (dA 1, 160, .inr (.inl b_numbers)))]) (w1 := [zr_o ad (0 : Int32) f_taped f_at f_behind f_size f_kind f_number f_wrong f_wrongAt f_faultKind f_faultPlace f_reading f_toldWhy f_x v2 f_bestMany f_tail f_round1, (ad 2, .inl (dA 0, 2982, .inl b_all))]) (As := []) (rest := []) ⟨hx, hb, hml, hown, ht⟩ (zt_X11_standNow l dC dI dA ad _ (0 : Int32) f_taped f_at f_behind f_size f_kind f_number f_wrong f_wrongAt f_faultKind f_faultPlace f_reading f_toldWhy f_x v2 f_bestMany f_tail f_round1 b_all v11 hv11) (cwV 0 ht (zr_V zr_261 zr_262 zr_263 zr_36 zr_213) rfl rfl rfl zk_X11_standNow ⟨Nat.le_of_ble_eq_true rfl, Nat.le_of_ble_eq_true rfl⟩) rfl rfl hK hP hD hS hA [4, 5] [0, 1, 2, 3, 6, 7, 8, 9, 10] (by decide) (by decide) (by decide) rfl rfl rfl hl.1 (Nat.le_of_ble_eq_true rfl) dX11_seenBy_53 ⟨Nat.zero_le _, Nat.zero_le _⟩ rfl (fun H locs hP hD hS => ?_)
          have hP : va_P (dC, dI) zz_cls [(ad 40, .inl (dA 0, 4, .inl b_rowSort)), (ad 17, .inl (dA 0, 900, .inl a3)), (ad 18, .inl (dA 0, 6, .inl a4)), (ad 25, .inl (dA 2, 2880, .inl a7)), (ad 22, .inl (dA 0, 2880, .inl a5)), (ad 23, .inl (dA 0, 43200, .inl a6)), (ad 36, .inl (dA 1, 20160, .inr (.inl a9))), (ad 41, .inl (dA 0, 4, .inl b_rowMany)), (ad 42, .inl (dA 1, 160, .inr (.inl b_numbers))), zr_o ad (0 : Int32) f_taped f_at f_behind f_size f_kind f_number f_wrong f_wrongAt f_faultKind f_faultPlace f_reading f_toldWhy f_x v2 f_bestMany f_tail f_round1, (ad 2, .inl (dA 0, 2982, .inl b_all))] H := hP
          have hD : va_D A [(ad 40, .inl (dA 0, 4, .inl b_rowSort)), (ad 17, .inl (dA 0, 900, .inl a3)), (ad 18, .inl (dA 0, 6, .inl a4)), (ad 25, .inl (dA 2, 2880, .inl a7)), (ad 22, .inl (dA 0, 2880, .inl a5)), (ad 23, .inl (dA 0, 43200, .inl a6)), (ad 36, .inl (dA 1, 20160, .inr (.inl a9))), (ad 41, .inl (dA 0, 4, .inl b_rowMany)), (ad 42, .inl (dA 1, 160, .inr (.inl b_numbers))), zr_o ad (0 : Int32) f_taped f_at f_behind f_size f_kind f_number f_wrong f_wrongAt f_faultKind f_faultPlace f_reading f_toldWhy f_x v2 f_bestMany f_tail f_round1, (ad 2, .inl (dA 0, 2982, .inl b_all))] := hD
          refine lv_istore (lv' := [(4, .int v11), (3, .int v1), (0, .ref (ad 0)), (1, .int p1), (2, .int p2)]) (pc := 56) hx hb dX11_seenBy_56 hl (by decide) rfl (fun ls hl => ?_)
          refine lv_iconst (v := (0 : Int32)) (pc := 58) hx hb dX11_seenBy_58 (by decide) ?_
          refine lv_istore (lv' := [(5, .int (0 : Int32)), (4, .int v11), (3, .int v1), (0, .ref (ad 0)), (1, .int p1), (2, .int p2)]) (pc := 59) hx hb dX11_seenBy_59 hl (by decide) rfl (fun ls hl => ?_)
          obtain ⟨g31, v28, v29, v30, hj, hf⟩ := zc_4 hf
          refine zj_join (pcJ := 148) (stk := []) (X := fun H locs ls => lv_has ls 7 [(6, .int v30)] ∧ va_P (dC, dI) zz_cls [zr_o ad (0 : Int32) f_taped f_at f_behind f_size f_kind f_number f_wrong f_wrongAt f_faultKind f_faultPlace f_reading f_toldWhy f_x v2 f_bestMany f_tail f_round1, (ad 2, .inl (dA 0, 2982, .inl b_all)), (ad 17, .inl (dA 0, 900, .inl a3)), (ad 18, .inl (dA 0, 6, .inl a4)), (ad 22, .inl (dA 0, 2880, .inl a5)), (ad 23, .inl (dA 0, 43200, .inl a6)), (ad 25, .inl (dA 2, 2880, .inl a7)), (ad 36, .inl (dA 1, 20160, .inr (.inl a9))), (ad 40, .inl (dA 0, 4, .inl b_rowSort)), (ad 41, .inl (dA 0, 4, .inl b_rowMany)), (ad 42, .inl (dA 1, 160, .inr (.inl b_numbers)))] H ∧ va_D A [zr_o ad (0 : Int32) f_taped f_at f_behind f_size f_kind f_number f_wrong f_wrongAt f_faultKind f_faultPlace f_reading f_toldWhy f_x v2 f_bestMany f_tail f_round1, (ad 2, .inl (dA 0, 2982, .inl b_all)), (ad 17, .inl (dA 0, 900, .inl a3)), (ad 18, .inl (dA 0, 6, .inl a4)), (ad 22, .inl (dA 0, 2880, .inl a5)), (ad 23, .inl (dA 0, 43200, .inl a6)), (ad 25, .inl (dA 2, 2880, .inl a7)), (ad 36, .inl (dA 1, 20160, .inr (.inl a9))), (ad 40, .inl (dA 0, 4, .inl b_rowSort)), (ad 41, .inl (dA 0, 4, .inl b_rowMany)), (ad 42, .inl (dA 1, 160, .inr (.inl b_numbers)))] ∧ va_S A s.heap H locs) (fun H locs ls hX => ?_) (fun E148 => ?_)
          · obtain ⟨hl, hP, hD, hS⟩ := hX
            clear hj
            refine lv_iload (pc := 148) hx hb dX11_seenBy_148 (lv_at hl 0 rfl) ?_
            obtain ⟨v32, hv32, hf⟩ := zc_1 hf
            refine zw_Si (pc := 150) (wc := []) (wr := [zr_o ad (0 : Int32) f_taped f_at f_behind f_size f_kind f_number f_wrong f_wrongAt f_faultKind f_faultPlace f_reading f_toldWhy f_x v2 f_bestMany f_tail f_round1, (ad 2, .inl (dA 0, 2982, .inl b_all)), (ad 17, .inl (dA 0, 900, .inl a3)), (ad 18, .inl (dA 0, 6, .inl a4)), (ad 22, .inl (dA 0, 2880, .inl a5)), (ad 23, .inl (dA 0, 43200, .inl a6)), (ad 25, .inl (dA 2, 2880, .inl a7)), (ad 36, .inl (dA 1, 20160, .inr (.inl a9))), (ad 40, .inl (dA 0, 4, .inl b_rowSort)), (ad 41, .inl (dA 0, 4, .inl b_rowMany)), (ad 42, .inl (dA 1, 160, .inr (.inl b_numbers)))]) (w1 := []) (As := [.int v30]) (rest := []) ⟨hx, hb, hml, hown, ht⟩ (zt_X11_toldMove l dC dI dA ad _ v30 v32 hv32) (cwS 1 ht (zr_S zr_368 zr_369 zr_36 zr_229) rfl rfl rfl zk_X11_toldMove ⟨Nat.le_of_ble_eq_true rfl, Nat.le_of_ble_eq_true rfl⟩) hK hP hD hS hA [] [0, 1, 2, 3, 4, 5, 6, 7, 8, 9, 10] (by decide) (by decide) (by decide) rfl rfl rfl hl.1 (Nat.le_of_ble_eq_true rfl) dX11_seenBy_150 ⟨Nat.zero_le _, Nat.zero_le _⟩ rfl (fun H locs hP hD hS => ?_)
            have hP : va_P (dC, dI) zz_cls [zr_o ad (0 : Int32) f_taped f_at f_behind f_size f_kind f_number f_wrong f_wrongAt f_faultKind f_faultPlace f_reading f_toldWhy f_x v2 f_bestMany f_tail f_round1, (ad 2, .inl (dA 0, 2982, .inl b_all)), (ad 17, .inl (dA 0, 900, .inl a3)), (ad 18, .inl (dA 0, 6, .inl a4)), (ad 22, .inl (dA 0, 2880, .inl a5)), (ad 23, .inl (dA 0, 43200, .inl a6)), (ad 25, .inl (dA 2, 2880, .inl a7)), (ad 36, .inl (dA 1, 20160, .inr (.inl a9))), (ad 40, .inl (dA 0, 4, .inl b_rowSort)), (ad 41, .inl (dA 0, 4, .inl b_rowMany)), (ad 42, .inl (dA 1, 160, .inr (.inl b_numbers)))] H := hP
            have hD : va_D A [zr_o ad (0 : Int32) f_taped f_at f_behind f_size f_kind f_number f_wrong f_wrongAt f_faultKind f_faultPlace f_reading f_toldWhy f_x v2 f_bestMany f_tail f_round1, (ad 2, .inl (dA 0, 2982, .inl b_all)), (ad 17, .inl (dA 0, 900, .inl a3)), (ad 18, .inl (dA 0, 6, .inl a4)), (ad 22, .inl (dA 0, 2880, .inl a5)), (ad 23, .inl (dA 0, 43200, .inl a6)), (ad 25, .inl (dA 2, 2880, .inl a7)), (ad 36, .inl (dA 1, 20160, .inr (.inl a9))), (ad 40, .inl (dA 0, 4, .inl b_rowSort)), (ad 41, .inl (dA 0, 4, .inl b_rowMany)), (ad 42, .inl (dA 1, 160, .inr (.inl b_numbers)))] := hD
            obtain ⟨rfl, rfl, rfl, rfl, rfl, rfl, rfl, rfl, rfl⟩ := zi_9 hf
            exact W.iret (pc := 153) hx hb hr (fun t ht hW => ⟨⟨_, (), rfl, rfl, zz_Bi (by rw [ht]; exact hP) (va_K.moved hW.alike hK) (hD)⟩, hS.F ht⟩) hS.2.2 dX11_seenBy_153
          clear hf
          refine zw_loop (pcH := 61) (X := fun v H locs ls => lv_has ls 7 [(0, .ref (ad 0)), (1, .int p1), (2, .int p2), (4, .int v.1), (5, .int v.2.1)] ∧ va_P (dC, dI) zz_cls [zr_o ad (0 : Int32) f_taped f_at f_behind f_size f_kind f_number f_wrong f_wrongAt f_faultKind f_faultPlace f_reading f_toldWhy f_x v2 f_bestMany f_tail f_round1, (ad 2, .inl (dA 0, 2982, .inl b_all)), (ad 17, .inl (dA 0, 900, .inl a3)), (ad 18, .inl (dA 0, 6, .inl a4)), (ad 22, .inl (dA 0, 2880, .inl a5)), (ad 23, .inl (dA 0, 43200, .inl a6)), (ad 25, .inl (dA 2, 2880, .inl a7)), (ad 36, .inl (dA 1, 20160, .inr (.inl a9))), (ad 40, .inl (dA 0, 4, .inl b_rowSort)), (ad 41, .inl (dA 0, 4, .inl b_rowMany)), (ad 42, .inl (dA 1, 160, .inr (.inl b_numbers)))] H ∧ va_D A [zr_o ad (0 : Int32) f_taped f_at f_behind f_size f_kind f_number f_wrong f_wrongAt f_faultKind f_faultPlace f_reading f_toldWhy f_x v2 f_bestMany f_tail f_round1, (ad 2, .inl (dA 0, 2982, .inl b_all)), (ad 17, .inl (dA 0, 900, .inl a3)), (ad 18, .inl (dA 0, 6, .inl a4)), (ad 22, .inl (dA 0, 2880, .inl a5)), (ad 23, .inl (dA 0, 43200, .inl a6)), (ad 25, .inl (dA 2, 2880, .inl a7)), (ad 36, .inl (dA 1, 20160, .inr (.inl a9))), (ad 40, .inl (dA 0, 4, .inl b_rowSort)), (ad 41, .inl (dA 0, 4, .inl b_rowMany)), (ad 42, .inl (dA 1, 160, .inr (.inl b_numbers)))] ∧ va_S A s.heap H locs) hj (fun v w hf ih ex H locs ls hX => ?_) _ _ _ ⟨lv_sub hl [3, 4, 5, 1, 0] rfl, hP.sub [9, 10, 1, 2, 4, 5, 3, 6, 0, 7, 8] rfl, hD.sub [9, 10, 1, 2, 4, 5, 3, 6, 0, 7, 8] (by decide) rfl, hS⟩
          clear hj
          obtain ⟨v12, v13, v14⟩ := v
          obtain ⟨hl, hP, hD, hS⟩ := hX
          have hl : lv_has ls 7 [(0, .ref (ad 0)), (1, .int p1), (2, .int p2), (4, .int v12), (5, .int v13)] := hl
          have hP : va_P (dC, dI) zz_cls [zr_o ad (0 : Int32) f_taped f_at f_behind f_size f_kind f_number f_wrong f_wrongAt f_faultKind f_faultPlace f_reading f_toldWhy f_x v2 f_bestMany f_tail f_round1, (ad 2, .inl (dA 0, 2982, .inl b_all)), (ad 17, .inl (dA 0, 900, .inl a3)), (ad 18, .inl (dA 0, 6, .inl a4)), (ad 22, .inl (dA 0, 2880, .inl a5)), (ad 23, .inl (dA 0, 43200, .inl a6)), (ad 25, .inl (dA 2, 2880, .inl a7)), (ad 36, .inl (dA 1, 20160, .inr (.inl a9))), (ad 40, .inl (dA 0, 4, .inl b_rowSort)), (ad 41, .inl (dA 0, 4, .inl b_rowMany)), (ad 42, .inl (dA 1, 160, .inr (.inl b_numbers)))] H := hP
          have hD : va_D A [zr_o ad (0 : Int32) f_taped f_at f_behind f_size f_kind f_number f_wrong f_wrongAt f_faultKind f_faultPlace f_reading f_toldWhy f_x v2 f_bestMany f_tail f_round1, (ad 2, .inl (dA 0, 2982, .inl b_all)), (ad 17, .inl (dA 0, 900, .inl a3)), (ad 18, .inl (dA 0, 6, .inl a4)), (ad 22, .inl (dA 0, 2880, .inl a5)), (ad 23, .inl (dA 0, 43200, .inl a6)), (ad 25, .inl (dA 2, 2880, .inl a7)), (ad 36, .inl (dA 1, 20160, .inr (.inl a9))), (ad 40, .inl (dA 0, 4, .inl b_rowSort)), (ad 41, .inl (dA 0, 4, .inl b_rowMany)), (ad 42, .inl (dA 1, 160, .inr (.inl b_numbers)))] := hD
          replace hf : zb_X11_seenBy_61 a6 n b_numbers p1 a9 p2 v12 v13 v14 = some w := hf
          unfold zb_X11_seenBy_61 at hf
          refine lv_iconst (v := (0 : Int32)) (pc := 61) hx hb dX11_seenBy_61 (by decide) ?_
          refine lv_istore (lv' := [(6, .int (0 : Int32)), (0, .ref (ad 0)), (1, .int p1), (2, .int p2), (4, .int v12), (5, .int v13)]) (pc := 62) hx hb dX11_seenBy_62 hl (by decide) rfl (fun ls hl => ?_)
          obtain ⟨g25, v24, hj, hf⟩ := zc_2 hf
          refine zj_join (pcJ := 142) (stk := []) (X := fun H locs ls => lv_has ls 7 [(0, .ref (ad 0)), (1, .int p1), (2, .int p2), (4, .int v12), (5, .int v13), (6, .int v24)] ∧ va_P (dC, dI) zz_cls [zr_o ad (0 : Int32) f_taped f_at f_behind f_size f_kind f_number f_wrong f_wrongAt f_faultKind f_faultPlace f_reading f_toldWhy f_x v2 f_bestMany f_tail f_round1, (ad 2, .inl (dA 0, 2982, .inl b_all)), (ad 17, .inl (dA 0, 900, .inl a3)), (ad 18, .inl (dA 0, 6, .inl a4)), (ad 22, .inl (dA 0, 2880, .inl a5)), (ad 23, .inl (dA 0, 43200, .inl a6)), (ad 25, .inl (dA 2, 2880, .inl a7)), (ad 36, .inl (dA 1, 20160, .inr (.inl a9))), (ad 40, .inl (dA 0, 4, .inl b_rowSort)), (ad 41, .inl (dA 0, 4, .inl b_rowMany)), (ad 42, .inl (dA 1, 160, .inr (.inl b_numbers)))] H ∧ va_D A [zr_o ad (0 : Int32) f_taped f_at f_behind f_size f_kind f_number f_wrong f_wrongAt f_faultKind f_faultPlace f_reading f_toldWhy f_x v2 f_bestMany f_tail f_round1, (ad 2, .inl (dA 0, 2982, .inl b_all)), (ad 17, .inl (dA 0, 900, .inl a3)), (ad 18, .inl (dA 0, 6, .inl a4)), (ad 22, .inl (dA 0, 2880, .inl a5)), (ad 23, .inl (dA 0, 43200, .inl a6)), (ad 25, .inl (dA 2, 2880, .inl a7)), (ad 36, .inl (dA 1, 20160, .inr (.inl a9))), (ad 40, .inl (dA 0, 4, .inl b_rowSort)), (ad 41, .inl (dA 0, 4, .inl b_rowMany)), (ad 42, .inl (dA 1, 160, .inr (.inl b_numbers)))] ∧ va_S A s.heap H locs) (fun H locs ls hX => ?_) (fun E142 => ?_)
          · obtain ⟨hl, hP, hD, hS⟩ := hX
            clear hj
            refine lv_iload (pc := 142) hx hb dX11_seenBy_142 (lv_at hl 4 rfl) ?_
            refine lv_iload_n (pc := 144) hx hb dX11_seenBy_144 rfl (lv_at hl 2 rfl) ?_
            refine lv_icmp_ne (tgt := 154) (pc := 145) hx hb dX11_seenBy_145 rfl (fun hc => ?_) (fun hc => ?_)
            · have hf := za_f hf hc
              refine lv_aload_n (pc := 154) hx hb dX11_seenBy_154 rfl (lv_at hl 0 rfl) ?_
              refine va_get (pc := 155) (D := (dC, dI)) (ci := 0) (v := .ref (ad 23)) (C := RX11) (T := TX11) (N := 42) hx hb ht zr_lay hown hK hP 0 rfl rfl 22 (by decide) (ht _ zr_17) (fun _ h9 => h9) rfl dX11_seenBy_155 ?_
              refine lv_bipush (v := (15 : Int32)) (pc := 158) hx hb dX11_seenBy_158 (by decide) ?_
              refine lv_iload (pc := 160) hx hb dX11_seenBy_160 (lv_at hl 3 rfl) ?_
              refine lv_imul (pc := 162) hx hb dX11_seenBy_162 ?_
              refine lv_iload (pc := 163) hx hb dX11_seenBy_163 (lv_at hl 5 rfl) ?_
              refine lv_iadd (pc := 165) hx hb dX11_seenBy_165 ?_
              obtain ⟨v26, hv26, hf⟩ := zc_1 hf
              refine zw_iald (pc := 166) hx hb hK hP 5 0 rfl rfl hv26 dX11_seenBy_166 ?_
              refine lv_istore (lv' := [(4, .int v26), (0, .ref (ad 0)), (1, .int p1), (2, .int p2), (5, .int v13), (6, .int v24)]) (pc := 167) hx hb dX11_seenBy_167 hl (by decide) rfl (fun ls hl => ?_)
              obtain ⟨v27, hv27, hf⟩ := zc_1 hf
              refine lv_iinc (v := v27) (lv' := [(5, .int v27), (4, .int v26), (0, .ref (ad 0)), (1, .int p1), (2, .int p2), (6, .int v24)]) (k := 4) (pc := 169) hx hb dX11_seenBy_169 hl rfl (Option.some.inj hv27) (by decide) rfl (fun ls hl => ?_)
              refine lv_goto (tgt := 61) (pc := 172) hx hb dX11_seenBy_172 rfl ?_
              obtain rfl := Option.some.inj hf
              exact ih rfl _ _ _ ⟨lv_sub hl [2, 3, 4, 1, 0] rfl, hP, hD, hS⟩
            · have hf := za_t hf hc
              obtain rfl := Option.some.inj hf
              obtain ⟨rfl, rfl, rfl, rfl⟩ := zp_4 (ex (show ¬ (1 : Nat) = 0 by decide))
              exact E148 _ _ _ ⟨lv_sub hl [5] rfl, hP, hD, hS⟩
          clear hf
          refine zw_loop (pcH := 64) (X := fun v H locs ls => lv_has ls 7 [(0, .ref (ad 0)), (1, .int p1), (2, .int p2), (4, .int v12), (5, .int v13), (6, .int v)] ∧ va_P (dC, dI) zz_cls [zr_o ad (0 : Int32) f_taped f_at f_behind f_size f_kind f_number f_wrong f_wrongAt f_faultKind f_faultPlace f_reading f_toldWhy f_x v2 f_bestMany f_tail f_round1, (ad 2, .inl (dA 0, 2982, .inl b_all)), (ad 17, .inl (dA 0, 900, .inl a3)), (ad 18, .inl (dA 0, 6, .inl a4)), (ad 22, .inl (dA 0, 2880, .inl a5)), (ad 23, .inl (dA 0, 43200, .inl a6)), (ad 25, .inl (dA 2, 2880, .inl a7)), (ad 36, .inl (dA 1, 20160, .inr (.inl a9))), (ad 40, .inl (dA 0, 4, .inl b_rowSort)), (ad 41, .inl (dA 0, 4, .inl b_rowMany)), (ad 42, .inl (dA 1, 160, .inr (.inl b_numbers)))] H ∧ va_D A [zr_o ad (0 : Int32) f_taped f_at f_behind f_size f_kind f_number f_wrong f_wrongAt f_faultKind f_faultPlace f_reading f_toldWhy f_x v2 f_bestMany f_tail f_round1, (ad 2, .inl (dA 0, 2982, .inl b_all)), (ad 17, .inl (dA 0, 900, .inl a3)), (ad 18, .inl (dA 0, 6, .inl a4)), (ad 22, .inl (dA 0, 2880, .inl a5)), (ad 23, .inl (dA 0, 43200, .inl a6)), (ad 25, .inl (dA 2, 2880, .inl a7)), (ad 36, .inl (dA 1, 20160, .inr (.inl a9))), (ad 40, .inl (dA 0, 4, .inl b_rowSort)), (ad 41, .inl (dA 0, 4, .inl b_rowMany)), (ad 42, .inl (dA 1, 160, .inr (.inl b_numbers)))] ∧ va_S A s.heap H locs) hj (fun v w hf ih ex H locs ls hX => ?_) _ _ _ ⟨lv_sub hl [1, 2, 3, 4, 5, 0] rfl, hP, hD, hS⟩
          clear hj
          generalize v = v15 at hf hX
          obtain ⟨hl, hP, hD, hS⟩ := hX
          have hl : lv_has ls 7 [(0, .ref (ad 0)), (1, .int p1), (2, .int p2), (4, .int v12), (5, .int v13), (6, .int v15)] := hl
          have hP : va_P (dC, dI) zz_cls [zr_o ad (0 : Int32) f_taped f_at f_behind f_size f_kind f_number f_wrong f_wrongAt f_faultKind f_faultPlace f_reading f_toldWhy f_x v2 f_bestMany f_tail f_round1, (ad 2, .inl (dA 0, 2982, .inl b_all)), (ad 17, .inl (dA 0, 900, .inl a3)), (ad 18, .inl (dA 0, 6, .inl a4)), (ad 22, .inl (dA 0, 2880, .inl a5)), (ad 23, .inl (dA 0, 43200, .inl a6)), (ad 25, .inl (dA 2, 2880, .inl a7)), (ad 36, .inl (dA 1, 20160, .inr (.inl a9))), (ad 40, .inl (dA 0, 4, .inl b_rowSort)), (ad 41, .inl (dA 0, 4, .inl b_rowMany)), (ad 42, .inl (dA 1, 160, .inr (.inl b_numbers)))] H := hP
          have hD : va_D A [zr_o ad (0 : Int32) f_taped f_at f_behind f_size f_kind f_number f_wrong f_wrongAt f_faultKind f_faultPlace f_reading f_toldWhy f_x v2 f_bestMany f_tail f_round1, (ad 2, .inl (dA 0, 2982, .inl b_all)), (ad 17, .inl (dA 0, 900, .inl a3)), (ad 18, .inl (dA 0, 6, .inl a4)), (ad 22, .inl (dA 0, 2880, .inl a5)), (ad 23, .inl (dA 0, 43200, .inl a6)), (ad 25, .inl (dA 2, 2880, .inl a7)), (ad 36, .inl (dA 1, 20160, .inr (.inl a9))), (ad 40, .inl (dA 0, 4, .inl b_rowSort)), (ad 41, .inl (dA 0, 4, .inl b_rowMany)), (ad 42, .inl (dA 1, 160, .inr (.inl b_numbers)))] := hD
          replace hf : zb_X11_seenBy_64 a6 v12 n b_numbers p1 v13 a9 v15 = some w := hf
          unfold zb_X11_seenBy_64 at hf
          refine lv_aload_n (pc := 64) hx hb dX11_seenBy_64 rfl (lv_at hl 0 rfl) ?_
          refine va_get (pc := 65) (D := (dC, dI)) (ci := 0) (v := .ref (ad 23)) (C := RX11) (T := TX11) (N := 42) hx hb ht zr_lay hown hK hP 0 rfl rfl 22 (by decide) (ht _ zr_17) (fun _ h9 => h9) rfl dX11_seenBy_65 ?_
          refine lv_bipush (v := (15 : Int32)) (pc := 68) hx hb dX11_seenBy_68 (by decide) ?_
          refine lv_iload (pc := 70) hx hb dX11_seenBy_70 (lv_at hl 3 rfl) ?_
          refine lv_imul (pc := 72) hx hb dX11_seenBy_72 ?_
          refine lv_iload (pc := 73) hx hb dX11_seenBy_73 (lv_at hl 5 rfl) ?_
          refine lv_iadd (pc := 75) hx hb dX11_seenBy_75 ?_
          obtain ⟨v16, hv16, hf⟩ := zc_1 hf
          refine zw_iald (pc := 76) hx hb hK hP 5 0 rfl rfl hv16 dX11_seenBy_76 ?_
          refine lv_iconst (v := (-1 : Int32)) (pc := 77) hx hb dX11_seenBy_77 (by decide) ?_
          refine lv_icmp_eq (tgt := 136) (pc := 78) hx hb dX11_seenBy_78 rfl (fun hc => ?_) (fun hc => ?_)
          · have hf := za_t hf hc
            obtain ⟨v17, hv17, hf⟩ := zc_1 hf
            refine lv_iinc (v := v17) (lv' := [(6, .int v17), (0, .ref (ad 0)), (1, .int p1), (2, .int p2), (4, .int v12), (5, .int v13)]) (k := 5) (pc := 136) hx hb dX11_seenBy_136 hl rfl (Option.some.inj hv17) (by decide) rfl (fun ls hl => ?_)
            refine lv_goto (tgt := 64) (pc := 139) hx hb dX11_seenBy_139 rfl ?_
            obtain rfl := Option.some.inj hf
            exact ih rfl _ _ _ ⟨lv_sub hl [1, 2, 3, 4, 5, 0] rfl, hP, hD, hS⟩
          · have hf := za_f hf hc
            refine lv_aload_n (pc := 81) hx hb dX11_seenBy_81 rfl (lv_at hl 0 rfl) ?_
            refine lv_iload_n (pc := 82) hx hb dX11_seenBy_82 rfl (lv_at hl 1 rfl) ?_
            refine lv_iload (pc := 83) hx hb dX11_seenBy_83 (lv_at hl 4 rfl) ?_
            refine lv_aload_n (pc := 85) hx hb dX11_seenBy_85 rfl (lv_at hl 0 rfl) ?_
            refine va_get (pc := 86) (D := (dC, dI)) (ci := 0) (v := .ref (ad 23)) (C := RX11) (T := TX11) (N := 42) hx hb ht zr_lay hown hK hP 0 rfl rfl 22 (by decide) (ht _ zr_17) (fun _ h9 => h9) rfl dX11_seenBy_86 ?_
            refine lv_bipush (v := (15 : Int32)) (pc := 89) hx hb dX11_seenBy_89 (by decide) ?_
            refine lv_iload (pc := 91) hx hb dX11_seenBy_91 (lv_at hl 3 rfl) ?_
            refine lv_imul (pc := 93) hx hb dX11_seenBy_93 ?_
            refine lv_iload (pc := 94) hx hb dX11_seenBy_94 (lv_at hl 5 rfl) ?_
            refine lv_iadd (pc := 96) hx hb dX11_seenBy_96 ?_
            obtain ⟨v18, hv18, hf⟩ := zc_1 hf
            refine zw_iald (pc := 97) hx hb hK hP 5 0 rfl rfl hv18 dX11_seenBy_97 ?_
            obtain ⟨v19, hv19, hf⟩ := zc_1 hf
            refine zw_Vi (pc := 98) (wc := [zr_o ad (0 : Int32) f_taped f_at f_behind f_size f_kind f_number f_wrong f_wrongAt f_faultKind f_faultPlace f_reading f_toldWhy f_x v2 f_bestMany f_tail f_round1, (ad 42, .inl (dA 1, 160, .inr (.inl b_numbers)))]) (wr := [(ad 2, .inl (dA 0, 2982, .inl b_all)), (ad 17, .inl (dA 0, 900, .inl a3)), (ad 18, .inl (dA 0, 6, .inl a4)), (ad 22, .inl (dA 0, 2880, .inl a5)), (ad 23, .inl (dA 0, 43200, .inl a6)), (ad 25, .inl (dA 2, 2880, .inl a7)), (ad 36, .inl (dA 1, 20160, .inr (.inl a9))), (ad 40, .inl (dA 0, 4, .inl b_rowSort)), (ad 41, .inl (dA 0, 4, .inl b_rowMany))]) (w1 := [zr_o ad (0 : Int32) f_taped f_at f_behind f_size f_kind f_number f_wrong f_wrongAt f_faultKind f_faultPlace f_reading f_toldWhy f_x v2 f_bestMany f_tail f_round1, (ad 42, .inl (dA 1, 160, .inr (.inl b_numbers)))]) (As := [.int p1, .int v13, .int v18]) (rest := []) ⟨hx, hb, hml, hown, ht⟩ (zt_X11_isSeen l dC dI dA ad _ n (0 : Int32) f_taped f_at f_behind f_size f_kind f_number f_wrong f_wrongAt f_faultKind f_faultPlace f_reading f_toldWhy f_x v2 f_bestMany f_tail f_round1 b_numbers p1 v13 v18 v19 hv19) (cwV 3 ht (zr_V zr_412 zr_413 zr_414 zr_36 zr_411) rfl rfl rfl zk_X11_isSeen ⟨Nat.le_of_ble_eq_true rfl, Nat.le_of_ble_eq_true rfl⟩) rfl rfl hK hP hD hS hA [0, 10] [1, 2, 3, 4, 5, 6, 7, 8, 9] (by decide) (by decide) (by decide) rfl rfl rfl hl.1 (Nat.le_of_ble_eq_true rfl) dX11_seenBy_98 ⟨Nat.zero_le _, Nat.zero_le _⟩ rfl (fun H locs hP hD hS => ?_)
            have hP : va_P (dC, dI) zz_cls [(ad 2, .inl (dA 0, 2982, .inl b_all)), (ad 17, .inl (dA 0, 900, .inl a3)), (ad 18, .inl (dA 0, 6, .inl a4)), (ad 22, .inl (dA 0, 2880, .inl a5)), (ad 23, .inl (dA 0, 43200, .inl a6)), (ad 25, .inl (dA 2, 2880, .inl a7)), (ad 36, .inl (dA 1, 20160, .inr (.inl a9))), (ad 40, .inl (dA 0, 4, .inl b_rowSort)), (ad 41, .inl (dA 0, 4, .inl b_rowMany)), zr_o ad (0 : Int32) f_taped f_at f_behind f_size f_kind f_number f_wrong f_wrongAt f_faultKind f_faultPlace f_reading f_toldWhy f_x v2 f_bestMany f_tail f_round1, (ad 42, .inl (dA 1, 160, .inr (.inl b_numbers)))] H := hP
            have hD : va_D A [(ad 2, .inl (dA 0, 2982, .inl b_all)), (ad 17, .inl (dA 0, 900, .inl a3)), (ad 18, .inl (dA 0, 6, .inl a4)), (ad 22, .inl (dA 0, 2880, .inl a5)), (ad 23, .inl (dA 0, 43200, .inl a6)), (ad 25, .inl (dA 2, 2880, .inl a7)), (ad 36, .inl (dA 1, 20160, .inr (.inl a9))), (ad 40, .inl (dA 0, 4, .inl b_rowSort)), (ad 41, .inl (dA 0, 4, .inl b_rowMany)), zr_o ad (0 : Int32) f_taped f_at f_behind f_size f_kind f_number f_wrong f_wrongAt f_faultKind f_faultPlace f_reading f_toldWhy f_x v2 f_bestMany f_tail f_round1, (ad 42, .inl (dA 1, 160, .inr (.inl b_numbers)))] := hD
            refine lv_if_eq (tgt := 136) (pc := 101) hx hb dX11_seenBy_101 rfl (fun hc => ?_) (fun hc => ?_)
            · have hf := za_t hf hc
              obtain ⟨v20, hv20, hf⟩ := zc_1 hf
              refine lv_iinc (v := v20) (lv' := [(6, .int v20), (0, .ref (ad 0)), (1, .int p1), (2, .int p2), (4, .int v12), (5, .int v13)]) (k := 5) (pc := 136) hx hb dX11_seenBy_136 hl rfl (Option.some.inj hv20) (by decide) rfl (fun ls hl => ?_)
              refine lv_goto (tgt := 64) (pc := 139) hx hb dX11_seenBy_139 rfl ?_
              obtain rfl := Option.some.inj hf
              exact ih rfl _ _ _ ⟨lv_sub hl [1, 2, 3, 4, 5, 0] rfl, hP.sub [9, 0, 1, 2, 3, 4, 5, 6, 7, 8, 10] rfl, hD.sub [9, 0, 1, 2, 3, 4, 5, 6, 7, 8, 10] (by decide) rfl, hS⟩
            · have hf := za_f hf hc
              refine lv_aload_n (pc := 104) hx hb dX11_seenBy_104 rfl (lv_at hl 0 rfl) ?_
              refine va_get (pc := 105) (D := (dC, dI)) (ci := 0) (v := .ref (ad 36)) (C := RX11) (T := TX11) (N := 42) hx hb ht zr_lay hown hK hP 9 rfl rfl 35 (by decide) (ht _ zr_27) (fun _ h9 => h9) rfl dX11_seenBy_105 ?_
              refine lv_sipush (v := (2880 : Int32)) (pc := 108) hx hb dX11_seenBy_108 (by decide) ?_
              refine lv_iload (pc := 111) hx hb dX11_seenBy_111 (lv_at hl 4 rfl) ?_
              refine lv_iconst (v := (1 : Int32)) (pc := 113) hx hb dX11_seenBy_113 (by decide) ?_
              refine lv_iadd (pc := 114) hx hb dX11_seenBy_114 ?_
              refine lv_imul (pc := 115) hx hb dX11_seenBy_115 ?_
              refine lv_aload_n (pc := 116) hx hb dX11_seenBy_116 rfl (lv_at hl 0 rfl) ?_
              refine va_get (pc := 117) (D := (dC, dI)) (ci := 0) (v := .ref (ad 23)) (C := RX11) (T := TX11) (N := 42) hx hb ht zr_lay hown hK hP 9 rfl rfl 22 (by decide) (ht _ zr_17) (fun _ h9 => h9) rfl dX11_seenBy_117 ?_
              refine lv_bipush (v := (15 : Int32)) (pc := 120) hx hb dX11_seenBy_120 (by decide) ?_
              refine lv_iload (pc := 122) hx hb dX11_seenBy_122 (lv_at hl 3 rfl) ?_
              refine lv_imul (pc := 124) hx hb dX11_seenBy_124 ?_
              refine lv_iload (pc := 125) hx hb dX11_seenBy_125 (lv_at hl 5 rfl) ?_
              refine lv_iadd (pc := 127) hx hb dX11_seenBy_127 ?_
              obtain ⟨v21, hv21, hf⟩ := zc_1 hf
              refine zw_iald (pc := 128) hx hb hK hP 4 0 rfl rfl hv21 dX11_seenBy_128 ?_
              refine lv_iadd (pc := 129) hx hb dX11_seenBy_129 ?_
              obtain ⟨v22, hv22, hf⟩ := zc_1 hf
              refine zw_lald (pc := 130) hx hb hK hP 6 1 rfl rfl hv22 dX11_seenBy_130 ?_
              refine lv_lconst (v := (0 : Int64)) (pc := 131) hx hb dX11_seenBy_131 (by decide) ?_
              refine W.lcmp (pc := 132) hx hb dX11_seenBy_132 ?_
              refine lv_if_ne (tgt := 142) (pc := 133) hx hb dX11_seenBy_133 rfl (fun hc => ?_) (fun hc => ?_)
              · have hf := za_f hf hc
                obtain rfl := Option.some.inj hf
                obtain ⟨rfl, rfl⟩ := zp_2 (ex (show ¬ (1 : Nat) = 0 by decide))
                exact E142 _ _ _ ⟨lv_sub hl [0, 1, 2, 3, 4, 5] rfl, hP.sub [9, 0, 1, 2, 3, 4, 5, 6, 7, 8, 10] rfl, hD.sub [9, 0, 1, 2, 3, 4, 5, 6, 7, 8, 10] (by decide) rfl, hS⟩
              · have hf := za_t hf hc
                obtain ⟨v23, hv23, hf⟩ := zc_1 hf
                refine lv_iinc (v := v23) (lv' := [(6, .int v23), (0, .ref (ad 0)), (1, .int p1), (2, .int p2), (4, .int v12), (5, .int v13)]) (k := 5) (pc := 136) hx hb dX11_seenBy_136 hl rfl (Option.some.inj hv23) (by decide) rfl (fun ls hl => ?_)
                refine lv_goto (tgt := 64) (pc := 139) hx hb dX11_seenBy_139 rfl ?_
                obtain rfl := Option.some.inj hf
                exact ih rfl _ _ _ ⟨lv_sub hl [1, 2, 3, 4, 5, 0] rfl, hP.sub [9, 0, 1, 2, 3, 4, 5, 6, 7, 8, 10] rfl, hD.sub [9, 0, 1, 2, 3, 4, 5, 6, 7, 8, 10] (by decide) rfl, hS⟩
        · have hf := za_f hf hc
          refine lv_iconst (v := (-1 : Int32)) (pc := 50) hx hb dX11_seenBy_50 (by decide) ?_
          obtain ⟨rfl, rfl, rfl, rfl, rfl, rfl, rfl, rfl, rfl⟩ := zi_9 hf
          exact W.iret (pc := 51) hx hb hr (fun t ht hW => ⟨⟨_, (), rfl, rfl, zz_Bi (by rw [ht]; exact hP.sub [4, 5, 1, 2, 6, 7, 3, 8, 0, 9, 10] rfl) (va_K.moved hW.alike hK) (hD.sub [4, 5, 1, 2, 6, 7, 3, 8, 0, 9, 10] (by decide) rfl)⟩, hS.F ht⟩) hS.2.2 dX11_seenBy_51
    · have hf := za_f hf hc
      refine lv_bipush (v := (-3 : Int32)) (pc := 21) hx hb dX11_seenBy_21 (by decide) ?_
      obtain ⟨rfl, rfl, rfl, rfl, rfl, rfl, rfl, rfl, rfl⟩ := zi_9 hf
      exact W.iret (pc := 23) hx hb hr (fun t ht hW => ⟨⟨_, (), rfl, rfl, zz_Bi (by rw [ht]; exact hP.sub [7, 0, 1, 2, 3, 4, 5, 6, 8, 9, 10] rfl) (va_K.moved hW.alike hK) (hD.sub [7, 0, 1, 2, 3, 4, 5, 6, 8, 9, 10] (by decide) rfl)⟩, hS.F ht⟩) hS.2.2 dX11_seenBy_23
  · have hf := za_f hf hc
    refine lv_iload_n (pc := 15) hx hb dX11_seenBy_15 rfl (lv_at hl 0 rfl) ?_
    obtain ⟨rfl, rfl, rfl, rfl, rfl, rfl, rfl, rfl, rfl⟩ := zi_9 hf
    exact W.iret (pc := 16) hx hb hr (fun t ht hW => ⟨⟨_, (), rfl, rfl, zz_Bi (by rw [ht]; exact hP.sub [7, 0, 1, 2, 3, 4, 5, 6, 8, 9, 10] rfl) (va_K.moved hW.alike hK) (hD.sub [7, 0, 1, 2, 3, 4, 5, 6, 8, 9, 10] (by decide) rfl)⟩, hS.F ht⟩) hS.2.2 dX11_seenBy_16

def zb_X11_surely_40 (b_all : (Nat → Int32)) (n : Nat) (v2 : Int32) (a5 : (Nat → Int32)) (a6 : (Nat → Int32)) (b_rowMany : (Nat → Int32)) (b_numbers : (Nat → Int64)) (p1 : Int32) (v10 : Int32) (v11 : Int32) (a12 : (Nat → Int64)) : Option (Nat × Int32 × Int32 × (Nat → Int64)) :=
  zd_1 (za_ld b_all 2982 (2 : Int32)) (fun v13 =>
  if v13 ≤ v11 then
    some (1, v10, v11, a12)
  else
    zd_2 (zf_X11_laysSeen n v2 b_all a5 a6 a12 b_rowMany b_numbers p1 v11) (fun v14 a15 =>
    zd_1 (
      if (lg_cmp v14 (0 : Int64)) = 0 then
        some ((1 : Int32) <<< (v11 &&& 31))
      else
        some (0 : Int32)) (fun v16 =>
    zd_1 (some ((v10 ||| v16))) (fun v17 =>
    zd_1 (some (v11 + (1 : Int32))) (fun v18 =>
    some (0, v17, v18, a15))))))
def zf_X11_surely (n : Nat) (f_thrown : Int32) (f_standMany : Int32) (b_all : (Nat → Int32)) (b_reckoned : (Nat → Int32)) (b_words : (Nat → Int32)) (b_stand : (Nat → Int32)) (b_then : (Nat → Int32)) (b_known : (Nat → Int32)) (b_on : (Nat → Int64)) (b_rowSort : (Nat → Int32)) (b_rowMany : (Nat → Int32)) (b_numbers : (Nat → Int64)) (p1 : Int32) : Option (Int32 × Int32 × Int32 × (Nat → Int32) × (Nat → Int32) × (Nat → Int32) × (Nat → Int32) × (Nat → Int32) × (Nat → Int64)) :=
  zd_1 (zf_X11_noSeen n b_rowSort b_rowMany b_numbers p1) (fun v1 =>
  if v1 = 0 then
    zd_6 (zf_X11_laysStands n f_standMany b_all b_reckoned b_words b_stand b_then b_known (0 : Int32)) (fun v2 a3 a4 a5 a6 a7 =>
    zd_2 (zf_X11_laysSeen n v2 b_all a5 a6 b_on b_rowMany b_numbers p1 (-1 : Int32)) (fun v8 a9 =>
    if (lg_cmp v8 (0 : Int64)) = 0 then
      some ((0 : Int32), (0 : Int32), v2, a3, a4, a5, a6, a7, a9)
    else
      zd_4 (za_it (fun v => zb_X11_surely_40 b_all n v2 a5 a6 b_rowMany b_numbers p1 v.1 v.2.1 v.2.2) n ((0 : Int32), (0 : Int32), a9)) (fun g22 v19 v20 a21 =>
      some (v19, (0 : Int32), v2, a3, a4, a5, a6, a7, a21))))
  else
    some (v1, (0 : Int32), f_standMany, b_reckoned, b_words, b_stand, b_then, b_known, b_on))
theorem zk_X11_surely : yX11_surely.cls = RX11 ∧ yX11_surely.cls ≠ "java/lang/invoke/MethodHandle" ∧ yX11_surely.cls ≠ "java/lang/invoke/VarHandle" ∧ (parseMethodDescriptor yX11_surely.desc).map (fun d => d.parameters.length) = some 1 := by decide +kernel
set_option maxHeartbeats 4000000 in
set_option maxRecDepth 100000 in
theorem zt_X11_surely (l : Launch) (dC : Nat → ClassId) (dI : Nat → Nat → Nat) (dA : Nat → ClassId) (ad : Nat → Nat) (sz : Nat) (n : Nat) (f_thrown f_taped f_at f_behind f_size f_kind f_number f_wrong f_wrongAt f_faultKind f_faultPlace f_reading f_toldWhy f_x f_standMany f_bestMany f_tail f_round1 : Int32) (b_all : (Nat → Int32)) (b_reckoned : (Nat → Int32)) (b_words : (Nat → Int32)) (b_stand : (Nat → Int32)) (b_then : (Nat → Int32)) (b_known : (Nat → Int32)) (b_on : (Nat → Int64)) (b_rowSort : (Nat → Int32)) (b_rowMany : (Nat → Int32)) (b_numbers : (Nat → Int64)) (p1 : Int32) (r0 : Int32) (o1 : Int32) (o2 : Int32) (o3 : (Nat → Int32)) (o4 : (Nat → Int32)) (o5 : (Nat → Int32)) (o6 : (Nat → Int32)) (o7 : (Nat → Int32)) (o8 : (Nat → Int64)) (hf : zf_X11_surely n f_thrown f_standMany b_all b_reckoned b_words b_stand b_then b_known b_on b_rowSort b_rowMany b_numbers p1 = some (r0, o1, o2, o3, o4, o5, o6, o7, o8)) : Met l yX11_surely (.code yX11_surely cX11_surely 5 (some .int) :: zr_T) ({ frames := 5, cells := 0, slots := 0, locals := 123 }) (va_Pc [.ref (ad 0), .int p1] (zz_M dC dI dA [zr_o ad f_thrown f_taped f_at f_behind f_size f_kind f_number f_wrong f_wrongAt f_faultKind f_faultPlace f_reading f_toldWhy f_x f_standMany f_bestMany f_tail f_round1, (ad 2, .inl (dA 0, 2982, .inl b_all)), (ad 17, .inl (dA 0, 900, .inl b_reckoned)), (ad 18, .inl (dA 0, 6, .inl b_words)), (ad 22, .inl (dA 0, 2880, .inl b_stand)), (ad 23, .inl (dA 0, 43200, .inl b_then)), (ad 25, .inl (dA 2, 2880, .inl b_known)), (ad 36, .inl (dA 1, 20160, .inr (.inl b_on))), (ad 40, .inl (dA 0, 4, .inl b_rowSort)), (ad 41, .inl (dA 0, 4, .inl b_rowMany)), (ad 42, .inl (dA 1, 160, .inr (.inl b_numbers)))] sz)) (va_Qi (fun (r : Int32) (_ : Unit) => r = r0) (fun _ t => zz_B dC dI dA (va_A [zr_o ad f_thrown f_taped f_at f_behind f_size f_kind f_number f_wrong f_wrongAt f_faultKind f_faultPlace f_reading f_toldWhy f_x f_standMany f_bestMany f_tail f_round1, (ad 2, .inl (dA 0, 2982, .inl b_all)), (ad 17, .inl (dA 0, 900, .inl b_reckoned)), (ad 18, .inl (dA 0, 6, .inl b_words)), (ad 22, .inl (dA 0, 2880, .inl b_stand)), (ad 23, .inl (dA 0, 43200, .inl b_then)), (ad 25, .inl (dA 2, 2880, .inl b_known)), (ad 36, .inl (dA 1, 20160, .inr (.inl b_on))), (ad 40, .inl (dA 0, 4, .inl b_rowSort)), (ad 41, .inl (dA 0, 4, .inl b_rowMany)), (ad 42, .inl (dA 1, 160, .inr (.inl b_numbers)))] sz) [zr_o ad o1 f_taped f_at f_behind f_size f_kind f_number f_wrong f_wrongAt f_faultKind f_faultPlace f_reading f_toldWhy f_x o2 f_bestMany f_tail f_round1, (ad 2, .inl (dA 0, 2982, .inl b_all)), (ad 17, .inl (dA 0, 900, .inl o3)), (ad 18, .inl (dA 0, 6, .inl o4)), (ad 22, .inl (dA 0, 2880, .inl o5)), (ad 23, .inl (dA 0, 43200, .inl o6)), (ad 25, .inl (dA 2, 2880, .inl o7)), (ad 36, .inl (dA 1, 20160, .inr (.inl o8))), (ad 40, .inl (dA 0, 4, .inl b_rowSort)), (ad 41, .inl (dA 0, 4, .inl b_rowMany)), (ad 42, .inl (dA 1, 160, .inr (.inl b_numbers)))] t) (va_A [zr_o ad f_thrown f_taped f_at f_behind f_size f_kind f_number f_wrong f_wrongAt f_faultKind f_faultPlace f_reading f_toldWhy f_x f_standMany f_bestMany f_tail f_round1, (ad 2, .inl (dA 0, 2982, .inl b_all)), (ad 17, .inl (dA 0, 900, .inl b_reckoned)), (ad 18, .inl (dA 0, 6, .inl b_words)), (ad 22, .inl (dA 0, 2880, .inl b_stand)), (ad 23, .inl (dA 0, 43200, .inl b_then)), (ad 25, .inl (dA 2, 2880, .inl b_known)), (ad 36, .inl (dA 1, 20160, .inr (.inl b_on))), (ad 40, .inl (dA 0, 4, .inl b_rowSort)), (ad 41, .inl (dA 0, 4, .inl b_rowMany)), (ad 42, .inl (dA 1, 160, .inr (.inl b_numbers)))] sz)) 0 0 (va_A [zr_o ad f_thrown f_taped f_at f_behind f_size f_kind f_number f_wrong f_wrongAt f_faultKind f_faultPlace f_reading f_toldWhy f_x f_standMany f_bestMany f_tail f_round1, (ad 2, .inl (dA 0, 2982, .inl b_all)), (ad 17, .inl (dA 0, 900, .inl b_reckoned)), (ad 18, .inl (dA 0, 6, .inl b_words)), (ad 22, .inl (dA 0, 2880, .inl b_stand)), (ad 23, .inl (dA 0, 43200, .inl b_then)), (ad 25, .inl (dA 2, 2880, .inl b_known)), (ad 36, .inl (dA 1, 20160, .inr (.inl b_on))), (ad 40, .inl (dA 0, 4, .inl b_rowSort)), (ad 41, .inl (dA 0, 4, .inl b_rowMany)), (ad 42, .inl (dA 1, 160, .inr (.inl b_numbers)))] sz) := by
  unfold zf_X11_surely at hf
  refine Met.ofW (cc := cX11_surely) (maxL := 5) (ret := (some .int)) (by decide) rfl ?_
  intro p e s m args below meth c s₁ B hml hv
  obtain ⟨rfl, hsz, hP, hK, hD0⟩ := hv
  have hx := B.exec
  have hb := B.bytes
  have hr := B.returns
  have ht : ∀ w ∈ zr_T, w.before ([.ref (ad 0), .int p1] : List Value).toArray s = true := fun w hw => atoms_spec (ws := .code yX11_surely cX11_surely 5 (some .int) :: zr_T) B.pre w (List.mem_cons_of_mem _ hw)
  have hown : s.vm.findClass RX11 = some m.cls := findClass_of_methodNamed B.named
  have hlocks := B.notSynchronized
  subst hsz
  have hD := hD0.self (sz := s.heap.size)
  generalize hAe : va_A [zr_o ad f_thrown f_taped f_at f_behind f_size f_kind f_number f_wrong f_wrongAt f_faultKind f_faultPlace f_reading f_toldWhy f_x f_standMany f_bestMany f_tail f_round1, (ad 2, .inl (dA 0, 2982, .inl b_all)), (ad 17, .inl (dA 0, 900, .inl b_reckoned)), (ad 18, .inl (dA 0, 6, .inl b_words)), (ad 22, .inl (dA 0, 2880, .inl b_stand)), (ad 23, .inl (dA 0, 43200, .inl b_then)), (ad 25, .inl (dA 2, 2880, .inl b_known)), (ad 36, .inl (dA 1, 20160, .inr (.inl b_on))), (ad 40, .inl (dA 0, 4, .inl b_rowSort)), (ad 41, .inl (dA 0, 4, .inl b_rowMany)), (ad 42, .inl (dA 1, 160, .inr (.inl b_numbers)))] s.heap.size = A at hD ⊢
  have hA : ∀ q : Nat, s.heap.size ≤ q → A q := fun q h => by rw [← hAe]; exact Or.inr h
  clear hAe hD0
  have hS : va_S A s.heap s.heap [] := va_S.rf
  have hl := lv_entry ([.ref (ad 0), .int p1]) (n := 5) (Nat.le_of_ble_eq_true rfl)
  rw [lg_entry_eq]
  generalize (lg_sl ([.ref (ad 0), .int p1]) ++ List.replicate (5 - (lg_sl ([.ref (ad 0), .int p1])).length) Slot.unset).toArray = ls at hl ⊢
  have hl : lv_has ls 5 [(0, .ref (ad 0)), (1, .int p1)] := hl
  refine lv_aload_n (pc := 0) hx hb dX11_surely_0 rfl (lv_at hl 0 rfl) ?_
  refine lv_iconst (v := (0 : Int32)) (pc := 1) hx hb dX11_surely_1 (by decide) ?_
  refine va_put (pc := 2) (D := (dC, dI)) (ci := 0) (v := .int (0 : Int32)) (ty := .int) (C := RX11) (T := TX11) (N := 42) hx hb ht zr_lay tyX11 tyX11_ok nmX11 hown hK hP hD hS 0 rfl rfl 0 (by decide) (ht _ zr_39) (fun _ h9 => h9) rfl (by decide +kernel) rfl rfl (Nat.le_of_ble_eq_true rfl) dX11_surely_2 (fun H locs hP hD hS => ?_)
  have hP : va_P (dC, dI) zz_cls [zr_o ad (0 : Int32) f_taped f_at f_behind f_size f_kind f_number f_wrong f_wrongAt f_faultKind f_faultPlace f_reading f_toldWhy f_x f_standMany f_bestMany f_tail f_round1, (ad 2, .inl (dA 0, 2982, .inl b_all)), (ad 17, .inl (dA 0, 900, .inl b_reckoned)), (ad 18, .inl (dA 0, 6, .inl b_words)), (ad 22, .inl (dA 0, 2880, .inl b_stand)), (ad 23, .inl (dA 0, 43200, .inl b_then)), (ad 25, .inl (dA 2, 2880, .inl b_known)), (ad 36, .inl (dA 1, 20160, .inr (.inl b_on))), (ad 40, .inl (dA 0, 4, .inl b_rowSort)), (ad 41, .inl (dA 0, 4, .inl b_rowMany)), (ad 42, .inl (dA 1, 160, .inr (.inl b_numbers)))] H := hP
  have hD : va_D A [zr_o ad (0 : Int32) f_taped f_at f_behind f_size f_kind f_number f_wrong f_wrongAt f_faultKind f_faultPlace f_reading f_toldWhy f_x f_standMany f_bestMany f_tail f_round1, (ad 2, .inl (dA 0, 2982, .inl b_all)), (ad 17, .inl (dA 0, 900, .inl b_reckoned)), (ad 18, .inl (dA 0, 6, .inl b_words)), (ad 22, .inl (dA 0, 2880, .inl b_stand)), (ad 23, .inl (dA 0, 43200, .inl b_then)), (ad 25, .inl (dA 2, 2880, .inl b_known)), (ad 36, .inl (dA 1, 20160, .inr (.inl b_on))), (ad 40, .inl (dA 0, 4, .inl b_rowSort)), (ad 41, .inl (dA 0, 4, .inl b_rowMany)), (ad 42, .inl (dA 1, 160, .inr (.inl b_numbers)))] := hD
  refine lv_aload_n (pc := 5) hx hb dX11_surely_5 rfl (lv_at hl 0 rfl) ?_
  refine lv_iload_n (pc := 6) hx hb dX11_surely_6 rfl (lv_at hl 1 rfl) ?_
  obtain ⟨v1, hv1, hf⟩ := zc_1 hf
  refine zw_Vi (pc := 7) (wc := [zr_o ad (0 : Int32) f_taped f_at f_behind f_size f_kind f_number f_wrong f_wrongAt f_faultKind f_faultPlace f_reading f_toldWhy f_x f_standMany f_bestMany f_tail f_round1, (ad 40, .inl (dA 0, 4, .inl b_rowSort)), (ad 41, .inl (dA 0, 4, .inl b_rowMany)), (ad 42, .inl (dA 1, 160, .inr (.inl b_numbers)))]) (wr := [(ad 2, .inl (dA 0, 2982, .inl b_all)), (ad 17, .inl (dA 0, 900, .inl b_reckoned)), (ad 18, .inl (dA 0, 6, .inl b_words)), (ad 22, .inl (dA 0, 2880, .inl b_stand)), (ad 23, .inl (dA 0, 43200, .inl b_then)), (ad 25, .inl (dA 2, 2880, .inl b_known)), (ad 36, .inl (dA 1, 20160, .inr (.inl b_on)))]) (w1 := [zr_o ad (0 : Int32) f_taped f_at f_behind f_size f_kind f_number f_wrong f_wrongAt f_faultKind f_faultPlace f_reading f_toldWhy f_x f_standMany f_bestMany f_tail f_round1, (ad 40, .inl (dA 0, 4, .inl b_rowSort)), (ad 41, .inl (dA 0, 4, .inl b_rowMany)), (ad 42, .inl (dA 1, 160, .inr (.inl b_numbers)))]) (As := [.int p1]) (rest := []) ⟨hx, hb, hml, hown, ht⟩ (zt_X11_noSeen l dC dI dA ad _ n (0 : Int32) f_taped f_at f_behind f_size f_kind f_number f_wrong f_wrongAt f_faultKind f_faultPlace f_reading f_toldWhy f_x f_standMany f_bestMany f_tail f_round1 b_rowSort b_rowMany b_numbers p1 v1 hv1) (cwV 1 ht (zr_V zr_416 zr_417 zr_418 zr_36 zr_408) rfl rfl rfl zk_X11_noSeen ⟨Nat.le_of_ble_eq_true rfl, Nat.le_of_ble_eq_true rfl⟩) rfl rfl hK hP hD hS hA [0, 8, 9, 10] [1, 2, 3, 4, 5, 6, 7] (by decide) (by decide) (by decide) rfl rfl rfl hl.1 (Nat.le_of_ble_eq_true rfl) dX11_surely_7 ⟨Nat.zero_le _, Nat.zero_le _⟩ rfl (fun H locs hP hD hS => ?_)
  have hP : va_P (dC, dI) zz_cls [(ad 2, .inl (dA 0, 2982, .inl b_all)), (ad 17, .inl (dA 0, 900, .inl b_reckoned)), (ad 18, .inl (dA 0, 6, .inl b_words)), (ad 22, .inl (dA 0, 2880, .inl b_stand)), (ad 23, .inl (dA 0, 43200, .inl b_then)), (ad 25, .inl (dA 2, 2880, .inl b_known)), (ad 36, .inl (dA 1, 20160, .inr (.inl b_on))), zr_o ad (0 : Int32) f_taped f_at f_behind f_size f_kind f_number f_wrong f_wrongAt f_faultKind f_faultPlace f_reading f_toldWhy f_x f_standMany f_bestMany f_tail f_round1, (ad 40, .inl (dA 0, 4, .inl b_rowSort)), (ad 41, .inl (dA 0, 4, .inl b_rowMany)), (ad 42, .inl (dA 1, 160, .inr (.inl b_numbers)))] H := hP
  have hD : va_D A [(ad 2, .inl (dA 0, 2982, .inl b_all)), (ad 17, .inl (dA 0, 900, .inl b_reckoned)), (ad 18, .inl (dA 0, 6, .inl b_words)), (ad 22, .inl (dA 0, 2880, .inl b_stand)), (ad 23, .inl (dA 0, 43200, .inl b_then)), (ad 25, .inl (dA 2, 2880, .inl b_known)), (ad 36, .inl (dA 1, 20160, .inr (.inl b_on))), zr_o ad (0 : Int32) f_taped f_at f_behind f_size f_kind f_number f_wrong f_wrongAt f_faultKind f_faultPlace f_reading f_toldWhy f_x f_standMany f_bestMany f_tail f_round1, (ad 40, .inl (dA 0, 4, .inl b_rowSort)), (ad 41, .inl (dA 0, 4, .inl b_rowMany)), (ad 42, .inl (dA 1, 160, .inr (.inl b_numbers)))] := hD
  refine lv_istore_n (lv' := [(2, .int v1), (0, .ref (ad 0)), (1, .int p1)]) (pc := 10) hx hb dX11_surely_10 rfl hl (by decide) rfl (fun ls hl => ?_)
  refine lv_iload_n (pc := 11) hx hb dX11_surely_11 rfl (lv_at hl 0 rfl) ?_
  refine lv_if_eq (tgt := 17) (pc := 12) hx hb dX11_surely_12 rfl (fun hc => ?_) (fun hc => ?_)
  · have hf := za_t hf hc
    refine lv_aload_n (pc := 17) hx hb dX11_surely_17 rfl (lv_at hl 1 rfl) ?_
    refine lv_iconst (v := (0 : Int32)) (pc := 18) hx hb dX11_surely_18 (by decide) ?_
    obtain ⟨v2, a3, a4, a5, a6, a7, hv2, hf⟩ := zc_6 hf
    refine zw_Vv (pc := 19) (wc := [zr_o ad (0 : Int32) f_taped f_at f_behind f_size f_kind f_number f_wrong f_wrongAt f_faultKind f_faultPlace f_reading f_toldWhy f_x f_standMany f_bestMany f_tail f_round1, (ad 2, .inl (dA 0, 2982, .inl b_all)), (ad 17, .inl (dA 0, 900, .inl b_reckoned)), (ad 18, .inl (dA 0, 6, .inl b_words)), (ad 22, .inl (dA 0, 2880, .inl b_stand)), (ad 23, .inl (dA 0, 43200, .inl b_then)), (ad 25, .inl (dA 2, 2880, .inl b_known))]) (wr := [(ad 36, .inl (dA 1, 20160, .inr (.inl b_on))), (ad 40, .inl (dA 0, 4, .inl b_rowSort)), (ad 41, .inl (dA 0, 4, .inl b_rowMany)), (ad 42, .inl (dA 1, 160, .inr (.inl b_numbers)))]) (w1 := [zr_o ad (0 : Int32) f_taped f_at f_behind f_size f_kind f_number f_wrong f_wrongAt f_faultKind f_faultPlace f_reading f_toldWhy f_x v2 f_bestMany f_tail f_round1, (ad 2, .inl (dA 0, 2982, .inl b_all)), (ad 17, .inl (dA 0, 900, .inl a3)), (ad 18, .inl (dA 0, 6, .inl a4)), (ad 22, .inl (dA 0, 2880, .inl a5)), (ad 23, .inl (dA 0, 43200, .inl a6)), (ad 25, .inl (dA 2, 2880, .inl a7))]) (As := [.int (0 : Int32)]) (rest := []) ⟨hx, hb, hml, hown, ht⟩ (zt_X11_laysStands l dC dI dA ad _ n (0 : Int32) f_taped f_at f_behind f_size f_kind f_number f_wrong f_wrongAt f_faultKind f_faultPlace f_reading f_toldWhy f_x f_standMany f_bestMany f_tail f_round1 b_all b_reckoned b_words b_stand b_then b_known (0 : Int32) v2 a3 a4 a5 a6 a7 hv2) (cwV 1 ht (zr_V zr_354 zr_355 zr_356 zr_36 zr_350) rfl rfl rfl zk_X11_laysStands ⟨Nat.le_of_ble_eq_true rfl, Nat.le_of_ble_eq_true rfl⟩) rfl rfl hK hP hD hS hA [7, 0, 1, 2, 3, 4, 5] [6, 8, 9, 10] (by decide) (by decide) (by decide) rfl rfl rfl hl.1 (Nat.le_of_ble_eq_true rfl) dX11_surely_19 ⟨Nat.zero_le _, Nat.zero_le _⟩ rfl (fun H locs hP hD hS => ?_)
    have hP : va_P (dC, dI) zz_cls [(ad 36, .inl (dA 1, 20160, .inr (.inl b_on))), (ad 40, .inl (dA 0, 4, .inl b_rowSort)), (ad 41, .inl (dA 0, 4, .inl b_rowMany)), (ad 42, .inl (dA 1, 160, .inr (.inl b_numbers))), zr_o ad (0 : Int32) f_taped f_at f_behind f_size f_kind f_number f_wrong f_wrongAt f_faultKind f_faultPlace f_reading f_toldWhy f_x v2 f_bestMany f_tail f_round1, (ad 2, .inl (dA 0, 2982, .inl b_all)), (ad 17, .inl (dA 0, 900, .inl a3)), (ad 18, .inl (dA 0, 6, .inl a4)), (ad 22, .inl (dA 0, 2880, .inl a5)), (ad 23, .inl (dA 0, 43200, .inl a6)), (ad 25, .inl (dA 2, 2880, .inl a7))] H := hP
    have hD : va_D A [(ad 36, .inl (dA 1, 20160, .inr (.inl b_on))), (ad 40, .inl (dA 0, 4, .inl b_rowSort)), (ad 41, .inl (dA 0, 4, .inl b_rowMany)), (ad 42, .inl (dA 1, 160, .inr (.inl b_numbers))), zr_o ad (0 : Int32) f_taped f_at f_behind f_size f_kind f_number f_wrong f_wrongAt f_faultKind f_faultPlace f_reading f_toldWhy f_x v2 f_bestMany f_tail f_round1, (ad 2, .inl (dA 0, 2982, .inl b_all)), (ad 17, .inl (dA 0, 900, .inl a3)), (ad 18, .inl (dA 0, 6, .inl a4)), (ad 22, .inl (dA 0, 2880, .inl a5)), (ad 23, .inl (dA 0, 43200, .inl a6)), (ad 25, .inl (dA 2, 2880, .inl a7))] := hD
    refine lv_iconst (v := (0 : Int32)) (pc := 22) hx hb dX11_surely_22 (by decide) ?_
    refine lv_istore_n (lv' := [(3, .int (0 : Int32)), (2, .int v1), (0, .ref (ad 0)), (1, .int p1)]) (pc := 23) hx hb dX11_surely_23 rfl hl (by decide) rfl (fun ls hl => ?_)
    refine lv_aload_n (pc := 24) hx hb dX11_surely_24 rfl (lv_at hl 2 rfl) ?_
    refine lv_iload_n (pc := 25) hx hb dX11_surely_25 rfl (lv_at hl 3 rfl) ?_
    refine lv_iconst (v := (-1 : Int32)) (pc := 26) hx hb dX11_surely_26 (by decide) ?_
    obtain ⟨v8, a9, hv8, hf⟩ := zc_2 hf
    refine zw_Vl (pc := 27) (wc := [zr_o ad (0 : Int32) f_taped f_at f_behind f_size f_kind f_number f_wrong f_wrongAt f_faultKind f_faultPlace f_reading f_toldWhy f_x v2 f_bestMany f_tail f_round1, (ad 2, .inl (dA 0, 2982, .inl b_all)), (ad 22, .inl (dA 0, 2880, .inl a5)), (ad 23, .inl (dA 0, 43200, .inl a6)), (ad 36, .inl (dA 1, 20160, .inr (.inl b_on))), (ad 41, .inl (dA 0, 4, .inl b_rowMany)), (ad 42, .inl (dA 1, 160, .inr (.inl b_numbers)))]) (wr := [(ad 40, .inl (dA 0, 4, .inl b_rowSort)), (ad 17, .inl (dA 0, 900, .inl a3)), (ad 18, .inl (dA 0, 6, .inl a4)), (ad 25, .inl (dA 2, 2880, .inl a7))]) (w1 := [zr_o ad (0 : Int32) f_taped f_at f_behind f_size f_kind f_number f_wrong f_wrongAt f_faultKind f_faultPlace f_reading f_toldWhy f_x v2 f_bestMany f_tail f_round1, (ad 2, .inl (dA 0, 2982, .inl b_all)), (ad 22, .inl (dA 0, 2880, .inl a5)), (ad 23, .inl (dA 0, 43200, .inl a6)), (ad 36, .inl (dA 1, 20160, .inr (.inl a9))), (ad 41, .inl (dA 0, 4, .inl b_rowMany)), (ad 42, .inl (dA 1, 160, .inr (.inl b_numbers)))]) (As := [.int p1, .int (-1 : Int32)]) (rest := []) ⟨hx, hb, hml, hown, ht⟩ (zt_X11_laysSeen l dC dI dA ad _ n (0 : Int32) f_taped f_at f_behind f_size f_kind f_number f_wrong f_wrongAt f_faultKind f_faultPlace f_reading f_toldWhy f_x v2 f_bestMany f_tail f_round1 b_all a5 a6 b_on b_rowMany b_numbers p1 (-1 : Int32) v8 a9 hv8) (cwV 2 ht (zr_V zr_419 zr_420 zr_421 zr_36 zr_415) rfl rfl rfl zk_X11_laysSeen ⟨Nat.le_of_ble_eq_true rfl, Nat.le_of_ble_eq_true rfl⟩) rfl rfl hK hP hD hS hA [4, 5, 8, 9, 0, 2, 3] [1, 6, 7, 10] (by decide) (by decide) (by decide) rfl rfl rfl hl.1 (Nat.le_of_ble_eq_true rfl) dX11_surely_27 ⟨Nat.zero_le _, Nat.zero_le _⟩ rfl (fun H locs hP hD hS => ?_)
    have hP : va_P (dC, dI) zz_cls [(ad 40, .inl (dA 0, 4, .inl b_rowSort)), (ad 17, .inl (dA 0, 900, .inl a3)), (ad 18, .inl (dA 0, 6, .inl a4)), (ad 25, .inl (dA 2, 2880, .inl a7)), zr_o ad (0 : Int32) f_taped f_at f_behind f_size f_kind f_number f_wrong f_wrongAt f_faultKind f_faultPlace f_reading f_toldWhy f_x v2 f_bestMany f_tail f_round1, (ad 2, .inl (dA 0, 2982, .inl b_all)), (ad 22, .inl (dA 0, 2880, .inl a5)), (ad 23, .inl (dA 0, 43200, .inl a6)), (ad 36, .inl (dA 1, 20160, .inr (.inl a9))), (ad 41, .inl (dA 0, 4, .inl b_rowMany)), (ad 42, .inl (dA 1, 160, .inr (.inl b_numbers)))] H := hP
    have hD : va_D A [(ad 40, .inl (dA 0, 4, .inl b_rowSort)), (ad 17, .inl (dA 0, 900, .inl a3)), (ad 18, .inl (dA 0, 6, .inl a4)), (ad 25, .inl (dA 2, 2880, .inl a7)), zr_o ad (0 : Int32) f_taped f_at f_behind f_size f_kind f_number f_wrong f_wrongAt f_faultKind f_faultPlace f_reading f_toldWhy f_x v2 f_bestMany f_tail f_round1, (ad 2, .inl (dA 0, 2982, .inl b_all)), (ad 22, .inl (dA 0, 2880, .inl a5)), (ad 23, .inl (dA 0, 43200, .inl a6)), (ad 36, .inl (dA 1, 20160, .inr (.inl a9))), (ad 41, .inl (dA 0, 4, .inl b_rowMany)), (ad 42, .inl (dA 1, 160, .inr (.inl b_numbers)))] := hD
    refine lv_lconst (v := (0 : Int64)) (pc := 30) hx hb dX11_surely_30 (by decide) ?_
    refine W.lcmp (pc := 31) hx hb dX11_surely_31 ?_
    refine lv_if_ne (tgt := 37) (pc := 32) hx hb dX11_surely_32 rfl (fun hc => ?_) (fun hc => ?_)
    · have hf := za_f hf hc
      refine lv_iconst (v := (0 : Int32)) (pc := 37) hx hb dX11_surely_37 (by decide) ?_
      refine lv_istore (lv' := [(4, .int (0 : Int32)), (3, .int (0 : Int32)), (2, .int v1), (0, .ref (ad 0)), (1, .int p1)]) (pc := 38) hx hb dX11_surely_38 hl (by decide) rfl (fun ls hl => ?_)
      obtain ⟨g22, v19, v20, a21, hj, hf⟩ := zc_4 hf
      refine zj_join (pcJ := 80) (stk := []) (X := fun H locs ls => lv_has ls 5 [(3, .int v19)] ∧ va_P (dC, dI) zz_cls [zr_o ad (0 : Int32) f_taped f_at f_behind f_size f_kind f_number f_wrong f_wrongAt f_faultKind f_faultPlace f_reading f_toldWhy f_x v2 f_bestMany f_tail f_round1, (ad 2, .inl (dA 0, 2982, .inl b_all)), (ad 17, .inl (dA 0, 900, .inl a3)), (ad 18, .inl (dA 0, 6, .inl a4)), (ad 22, .inl (dA 0, 2880, .inl a5)), (ad 23, .inl (dA 0, 43200, .inl a6)), (ad 25, .inl (dA 2, 2880, .inl a7)), (ad 36, .inl (dA 1, 20160, .inr (.inl a21))), (ad 40, .inl (dA 0, 4, .inl b_rowSort)), (ad 41, .inl (dA 0, 4, .inl b_rowMany)), (ad 42, .inl (dA 1, 160, .inr (.inl b_numbers)))] H ∧ va_D A [zr_o ad (0 : Int32) f_taped f_at f_behind f_size f_kind f_number f_wrong f_wrongAt f_faultKind f_faultPlace f_reading f_toldWhy f_x v2 f_bestMany f_tail f_round1, (ad 2, .inl (dA 0, 2982, .inl b_all)), (ad 17, .inl (dA 0, 900, .inl a3)), (ad 18, .inl (dA 0, 6, .inl a4)), (ad 22, .inl (dA 0, 2880, .inl a5)), (ad 23, .inl (dA 0, 43200, .inl a6)), (ad 25, .inl (dA 2, 2880, .inl a7)), (ad 36, .inl (dA 1, 20160, .inr (.inl a21))), (ad 40, .inl (dA 0, 4, .inl b_rowSort)), (ad 41, .inl (dA 0, 4, .inl b_rowMany)), (ad 42, .inl (dA 1, 160, .inr (.inl b_numbers)))] ∧ va_S A s.heap H locs) (fun H locs ls hX => ?_) (fun E80 => ?_)
      · obtain ⟨hl, hP, hD, hS⟩ := hX
        clear hj
        refine lv_iload_n (pc := 80) hx hb dX11_surely_80 rfl (lv_at hl 0 rfl) ?_
        obtain ⟨rfl, rfl, rfl, rfl, rfl, rfl, rfl, rfl, rfl⟩ := zi_9 hf
        exact W.iret (pc := 81) hx hb hr (fun t ht hW => ⟨⟨_, (), rfl, rfl, zz_Bi (by rw [ht]; exact hP) (va_K.moved hW.alike hK) (hD)⟩, hS.F ht⟩) hS.2.2 dX11_surely_81
      clear hf
      refine zw_loop (pcH := 40) (X := fun v H locs ls => lv_has ls 5 [(0, .ref (ad 0)), (1, .int p1), (3, .int v.1), (4, .int v.2.1)] ∧ va_P (dC, dI) zz_cls [zr_o ad (0 : Int32) f_taped f_at f_behind f_size f_kind f_number f_wrong f_wrongAt f_faultKind f_faultPlace f_reading f_toldWhy f_x v2 f_bestMany f_tail f_round1, (ad 2, .inl (dA 0, 2982, .inl b_all)), (ad 17, .inl (dA 0, 900, .inl a3)), (ad 18, .inl (dA 0, 6, .inl a4)), (ad 22, .inl (dA 0, 2880, .inl a5)), (ad 23, .inl (dA 0, 43200, .inl a6)), (ad 25, .inl (dA 2, 2880, .inl a7)), (ad 36, .inl (dA 1, 20160, .inr (.inl v.2.2))), (ad 40, .inl (dA 0, 4, .inl b_rowSort)), (ad 41, .inl (dA 0, 4, .inl b_rowMany)), (ad 42, .inl (dA 1, 160, .inr (.inl b_numbers)))] H ∧ va_D A [zr_o ad (0 : Int32) f_taped f_at f_behind f_size f_kind f_number f_wrong f_wrongAt f_faultKind f_faultPlace f_reading f_toldWhy f_x v2 f_bestMany f_tail f_round1, (ad 2, .inl (dA 0, 2982, .inl b_all)), (ad 17, .inl (dA 0, 900, .inl a3)), (ad 18, .inl (dA 0, 6, .inl a4)), (ad 22, .inl (dA 0, 2880, .inl a5)), (ad 23, .inl (dA 0, 43200, .inl a6)), (ad 25, .inl (dA 2, 2880, .inl a7)), (ad 36, .inl (dA 1, 20160, .inr (.inl v.2.2))), (ad 40, .inl (dA 0, 4, .inl b_rowSort)), (ad 41, .inl (dA 0, 4, .inl b_rowMany)), (ad 42, .inl (dA 1, 160, .inr (.inl b_numbers)))] ∧ va_S A s.heap H locs) hj (fun v w hf ih ex H locs ls hX => ?_) _ _ _ ⟨lv_sub hl [3, 4, 1, 0] rfl, hP.sub [4, 5, 1, 2, 6, 7, 3, 8, 0, 9, 10] rfl, hD.sub [4, 5, 1, 2, 6, 7, 3, 8, 0, 9, 10] (by decide) rfl, hS⟩
      clear hj
      obtain ⟨v10, v11, a12⟩ := v
      obtain ⟨hl, hP, hD, hS⟩ := hX
      have hl : lv_has ls 5 [(0, .ref (ad 0)), (1, .int p1), (3, .int v10), (4, .int v11)] := hl
      have hP : va_P (dC, dI) zz_cls [zr_o ad (0 : Int32) f_taped f_at f_behind f_size f_kind f_number f_wrong f_wrongAt f_faultKind f_faultPlace f_reading f_toldWhy f_x v2 f_bestMany f_tail f_round1, (ad 2, .inl (dA 0, 2982, .inl b_all)), (ad 17, .inl (dA 0, 900, .inl a3)), (ad 18, .inl (dA 0, 6, .inl a4)), (ad 22, .inl (dA 0, 2880, .inl a5)), (ad 23, .inl (dA 0, 43200, .inl a6)), (ad 25, .inl (dA 2, 2880, .inl a7)), (ad 36, .inl (dA 1, 20160, .inr (.inl a12))), (ad 40, .inl (dA 0, 4, .inl b_rowSort)), (ad 41, .inl (dA 0, 4, .inl b_rowMany)), (ad 42, .inl (dA 1, 160, .inr (.inl b_numbers)))] H := hP
      have hD : va_D A [zr_o ad (0 : Int32) f_taped f_at f_behind f_size f_kind f_number f_wrong f_wrongAt f_faultKind f_faultPlace f_reading f_toldWhy f_x v2 f_bestMany f_tail f_round1, (ad 2, .inl (dA 0, 2982, .inl b_all)), (ad 17, .inl (dA 0, 900, .inl a3)), (ad 18, .inl (dA 0, 6, .inl a4)), (ad 22, .inl (dA 0, 2880, .inl a5)), (ad 23, .inl (dA 0, 43200, .inl a6)), (ad 25, .inl (dA 2, 2880, .inl a7)), (ad 36, .inl (dA 1, 20160, .inr (.inl a12))), (ad 40, .inl (dA 0, 4, .inl b_rowSort)), (ad 41, .inl (dA 0, 4, .inl b_rowMany)), (ad 42, .inl (dA 1, 160, .inr (.inl b_numbers)))] := hD
      replace hf : zb_X11_surely_40 b_all n v2 a5 a6 b_rowMany b_numbers p1 v10 v11 a12 = some w := hf
      unfold zb_X11_surely_40 at hf
      refine lv_iload (pc := 40) hx hb dX11_surely_40 (lv_at hl 3 rfl) ?_
      refine lv_aload_n (pc := 42) hx hb dX11_surely_42 rfl (lv_at hl 0 rfl) ?_
      refine va_get (pc := 43) (D := (dC, dI)) (ci := 0) (v := .ref (ad 2)) (C := RX11) (T := TX11) (N := 42) hx hb ht zr_lay hown hK hP 0 rfl rfl 1 (by decide) (ht _ zr_6) (fun _ h9 => h9) rfl dX11_surely_43 ?_
      refine lv_iconst (v := (2 : Int32)) (pc := 46) hx hb dX11_surely_46 (by decide) ?_
      obtain ⟨v13, hv13, hf⟩ := zc_1 hf
      refine zw_iald (pc := 47) hx hb hK hP 1 0 rfl rfl hv13 dX11_surely_47 ?_
      refine lv_icmp_ge (tgt := 80) (pc := 48) hx hb dX11_surely_48 rfl (fun hc => ?_) (fun hc => ?_)
      · have hf := za_t hf hc
        obtain rfl := Option.some.inj hf
        obtain ⟨rfl, rfl, rfl, rfl⟩ := zp_4 (ex (show ¬ (1 : Nat) = 0 by decide))
        exact E80 _ _ _ ⟨lv_sub hl [2] rfl, hP, hD, hS⟩
      · have hf := za_f hf hc
        refine lv_iload_n (pc := 51) hx hb dX11_surely_51 rfl (lv_at hl 2 rfl) ?_
        refine lv_aload_n (pc := 52) hx hb dX11_surely_52 rfl (lv_at hl 0 rfl) ?_
        refine lv_iload_n (pc := 53) hx hb dX11_surely_53 rfl (lv_at hl 1 rfl) ?_
        refine lv_iload (pc := 54) hx hb dX11_surely_54 (lv_at hl 3 rfl) ?_
        obtain ⟨v14, a15, hv14, hf⟩ := zc_2 hf
        refine zw_Vl (pc := 56) (wc := [zr_o ad (0 : Int32) f_taped f_at f_behind f_size f_kind f_number f_wrong f_wrongAt f_faultKind f_faultPlace f_reading f_toldWhy f_x v2 f_bestMany f_tail f_round1, (ad 2, .inl (dA 0, 2982, .inl b_all)), (ad 22, .inl (dA 0, 2880, .inl a5)), (ad 23, .inl (dA 0, 43200, .inl a6)), (ad 36, .inl (dA 1, 20160, .inr (.inl a12))), (ad 41, .inl (dA 0, 4, .inl b_rowMany)), (ad 42, .inl (dA 1, 160, .inr (.inl b_numbers)))]) (wr := [(ad 17, .inl (dA 0, 900, .inl a3)), (ad 18, .inl (dA 0, 6, .inl a4)), (ad 25, .inl (dA 2, 2880, .inl a7)), (ad 40, .inl (dA 0, 4, .inl b_rowSort))]) (w1 := [zr_o ad (0 : Int32) f_taped f_at f_behind f_size f_kind f_number f_wrong f_wrongAt f_faultKind f_faultPlace f_reading f_toldWhy f_x v2 f_bestMany f_tail f_round1, (ad 2, .inl (dA 0, 2982, .inl b_all)), (ad 22, .inl (dA 0, 2880, .inl a5)), (ad 23, .inl (dA 0, 43200, .inl a6)), (ad 36, .inl (dA 1, 20160, .inr (.inl a15))), (ad 41, .inl (dA 0, 4, .inl b_rowMany)), (ad 42, .inl (dA 1, 160, .inr (.inl b_numbers)))]) (As := [.int p1, .int v11]) (rest := [.int v10]) ⟨hx, hb, hml, hown, ht⟩ (zt_X11_laysSeen l dC dI dA ad _ n (0 : Int32) f_taped f_at f_behind f_size f_kind f_number f_wrong f_wrongAt f_faultKind f_faultPlace f_reading f_toldWhy f_x v2 f_bestMany f_tail f_round1 b_all a5 a6 a12 b_rowMany b_numbers p1 v11 v14 a15 hv14) (cwV 2 ht (zr_V zr_419 zr_420 zr_421 zr_36 zr_415) rfl rfl rfl zk_X11_laysSeen ⟨Nat.le_of_ble_eq_true rfl, Nat.le_of_ble_eq_true rfl⟩) rfl rfl hK hP hD hS hA [0, 1, 4, 5, 7, 9, 10] [2, 3, 6, 8] (by decide) (by decide) (by decide) rfl rfl rfl hl.1 (Nat.le_of_ble_eq_true rfl) dX11_surely_56 ⟨Nat.zero_le _, Nat.zero_le _⟩ rfl (fun H locs hP hD hS => ?_)
        have hP : va_P (dC, dI) zz_cls [(ad 17, .inl (dA 0, 900, .inl a3)), (ad 18, .inl (dA 0, 6, .inl a4)), (ad 25, .inl (dA 2, 2880, .inl a7)), (ad 40, .inl (dA 0, 4, .inl b_rowSort)), zr_o ad (0 : Int32) f_taped f_at f_behind f_size f_kind f_number f_wrong f_wrongAt f_faultKind f_faultPlace f_reading f_toldWhy f_x v2 f_bestMany f_tail f_round1, (ad 2, .inl (dA 0, 2982, .inl b_all)), (ad 22, .inl (dA 0, 2880, .inl a5)), (ad 23, .inl (dA 0, 43200, .inl a6)), (ad 36, .inl (dA 1, 20160, .inr (.inl a15))), (ad 41, .inl (dA 0, 4, .inl b_rowMany)), (ad 42, .inl (dA 1, 160, .inr (.inl b_numbers)))] H := hP
        have hD : va_D A [(ad 17, .inl (dA 0, 900, .inl a3)), (ad 18, .inl (dA 0, 6, .inl a4)), (ad 25, .inl (dA 2, 2880, .inl a7)), (ad 40, .inl (dA 0, 4, .inl b_rowSort)), zr_o ad (0 : Int32) f_taped f_at f_behind f_size f_kind f_number f_wrong f_wrongAt f_faultKind f_faultPlace f_reading f_toldWhy f_x v2 f_bestMany f_tail f_round1, (ad 2, .inl (dA 0, 2982, .inl b_all)), (ad 22, .inl (dA 0, 2880, .inl a5)), (ad 23, .inl (dA 0, 43200, .inl a6)), (ad 36, .inl (dA 1, 20160, .inr (.inl a15))), (ad 41, .inl (dA 0, 4, .inl b_rowMany)), (ad 42, .inl (dA 1, 160, .inr (.inl b_numbers)))] := hD
        refine lv_lconst (v := (0 : Int64)) (pc := 59) hx hb dX11_surely_59 (by decide) ?_
        refine W.lcmp (pc := 60) hx hb dX11_surely_60 ?_
        obtain ⟨v16, hj, hf⟩ := zc_1 hf
        refine zj_join (pcJ := 72) (stk := [.int v16, .int v10]) (X := fun H locs ls => lv_has ls 5 [(0, .ref (ad 0)), (1, .int p1), (4, .int v11)] ∧ va_P (dC, dI) zz_cls [zr_o ad (0 : Int32) f_taped f_at f_behind f_size f_kind f_number f_wrong f_wrongAt f_faultKind f_faultPlace f_reading f_toldWhy f_x v2 f_bestMany f_tail f_round1, (ad 2, .inl (dA 0, 2982, .inl b_all)), (ad 17, .inl (dA 0, 900, .inl a3)), (ad 18, .inl (dA 0, 6, .inl a4)), (ad 22, .inl (dA 0, 2880, .inl a5)), (ad 23, .inl (dA 0, 43200, .inl a6)), (ad 25, .inl (dA 2, 2880, .inl a7)), (ad 36, .inl (dA 1, 20160, .inr (.inl a15))), (ad 40, .inl (dA 0, 4, .inl b_rowSort)), (ad 41, .inl (dA 0, 4, .inl b_rowMany)), (ad 42, .inl (dA 1, 160, .inr (.inl b_numbers)))] H ∧ va_D A [zr_o ad (0 : Int32) f_taped f_at f_behind f_size f_kind f_number f_wrong f_wrongAt f_faultKind f_faultPlace f_reading f_toldWhy f_x v2 f_bestMany f_tail f_round1, (ad 2, .inl (dA 0, 2982, .inl b_all)), (ad 17, .inl (dA 0, 900, .inl a3)), (ad 18, .inl (dA 0, 6, .inl a4)), (ad 22, .inl (dA 0, 2880, .inl a5)), (ad 23, .inl (dA 0, 43200, .inl a6)), (ad 25, .inl (dA 2, 2880, .inl a7)), (ad 36, .inl (dA 1, 20160, .inr (.inl a15))), (ad 40, .inl (dA 0, 4, .inl b_rowSort)), (ad 41, .inl (dA 0, 4, .inl b_rowMany)), (ad 42, .inl (dA 1, 160, .inr (.inl b_numbers)))] ∧ va_S A s.heap H locs) (fun H locs ls hX => ?_) (fun J72 => ?_)
        · obtain ⟨hl, hP, hD, hS⟩ := hX
          clear hj
          refine lv_ior (pc := 72) hx hb dX11_surely_72 ?_
          obtain ⟨v17, hv17, hf⟩ := zc_1 hf
          refine zw_top (hv17) ?_
          refine lv_istore_n (lv' := [(3, .int v17), (0, .ref (ad 0)), (1, .int p1), (4, .int v11)]) (pc := 73) hx hb dX11_surely_73 rfl hl (by decide) rfl (fun ls hl => ?_)
          obtain ⟨v18, hv18, hf⟩ := zc_1 hf
          refine lv_iinc (v := v18) (lv' := [(4, .int v18), (3, .int v17), (0, .ref (ad 0)), (1, .int p1)]) (k := 3) (pc := 74) hx hb dX11_surely_74 hl rfl (Option.some.inj hv18) (by decide) rfl (fun ls hl => ?_)
          refine lv_goto (tgt := 40) (pc := 77) hx hb dX11_surely_77 rfl ?_
          obtain rfl := Option.some.inj hf
          exact ih rfl _ _ _ ⟨lv_sub hl [2, 3, 1, 0] rfl, hP, hD, hS⟩
        · clear hf
          have hf := hj
          clear hj
          refine lv_if_ne (tgt := 71) (pc := 61) hx hb dX11_surely_61 rfl (fun hc => ?_) (fun hc => ?_)
          · have hf := za_f hf hc
            refine lv_iconst (v := (0 : Int32)) (pc := 71) hx hb dX11_surely_71 (by decide) ?_
            obtain rfl := Option.some.inj hf
            exact J72 _ _ _ ⟨lv_sub hl [0, 1, 3] rfl, hP.sub [4, 5, 0, 1, 6, 7, 2, 8, 3, 9, 10] rfl, hD.sub [4, 5, 0, 1, 6, 7, 2, 8, 3, 9, 10] (by decide) rfl, hS⟩
          · have hf := za_t hf hc
            refine lv_iconst (v := (1 : Int32)) (pc := 64) hx hb dX11_surely_64 (by decide) ?_
            refine lv_iload (pc := 65) hx hb dX11_surely_65 (lv_at hl 3 rfl) ?_
            refine lv_ishl (pc := 67) hx hb dX11_surely_67 ?_
            refine lv_goto (tgt := 72) (pc := 68) hx hb dX11_surely_68 rfl ?_
            obtain rfl := Option.some.inj hf
            exact J72 _ _ _ ⟨lv_sub hl [0, 1, 3] rfl, hP.sub [4, 5, 0, 1, 6, 7, 2, 8, 3, 9, 10] rfl, hD.sub [4, 5, 0, 1, 6, 7, 2, 8, 3, 9, 10] (by decide) rfl, hS⟩
    · have hf := za_t hf hc
      refine lv_iload_n (pc := 35) hx hb dX11_surely_35 rfl (lv_at hl 0 rfl) ?_
      obtain ⟨rfl, rfl, rfl, rfl, rfl, rfl, rfl, rfl, rfl⟩ := zi_9 hf
      exact W.iret (pc := 36) hx hb hr (fun t ht hW => ⟨⟨_, (), rfl, rfl, zz_Bi (by rw [ht]; exact hP.sub [4, 5, 1, 2, 6, 7, 3, 8, 0, 9, 10] rfl) (va_K.moved hW.alike hK) (hD.sub [4, 5, 1, 2, 6, 7, 3, 8, 0, 9, 10] (by decide) rfl)⟩, hS.F ht⟩) hS.2.2 dX11_surely_36
  · have hf := za_f hf hc
    refine lv_iload_n (pc := 15) hx hb dX11_surely_15 rfl (lv_at hl 0 rfl) ?_
    obtain ⟨rfl, rfl, rfl, rfl, rfl, rfl, rfl, rfl, rfl⟩ := zi_9 hf
    exact W.iret (pc := 16) hx hb hr (fun t ht hW => ⟨⟨_, (), rfl, rfl, zz_Bi (by rw [ht]; exact hP.sub [7, 0, 1, 2, 3, 4, 5, 6, 8, 9, 10] rfl) (va_K.moved hW.alike hK) (hD.sub [7, 0, 1, 2, 3, 4, 5, 6, 8, 9, 10] (by decide) rfl)⟩, hS.F ht⟩) hS.2.2 dX11_surely_16

def zb_X11_noTired_34 (b_rowMany : (Nat → Int32)) (p1 : Int32) (b_numbers : (Nat → Int64)) (v4 : Int32) : Option (Nat × Int32) :=
  zd_1 (za_ld b_rowMany 4 p1) (fun v5 =>
  if v5 ≤ v4 then
    some (2, v4)
  else
    zd_1 (za_ld b_numbers 160 (((40 : Int32) * p1) + v4)) (fun v6 =>
    zd_1 (zf_X11_within v6 (0 : Int64) (4 : Int64)) (fun v7 =>
    if v7 = 0 then
      some (1, v4)
    else
      zd_1 (some (v4 + (1 : Int32))) (fun v8 =>
      some (0, v8)))))
def zf_X11_noTired (n : Nat) (b_rowSort : (Nat → Int32)) (b_rowMany : (Nat → Int32)) (b_numbers : (Nat → Int64)) (p1 : Int32) : Option (Int32) :=
  zd_1 (zf_X11_noTray b_rowSort p1) (fun v1 =>
  if v1 = 0 then
    zd_1 (za_ld b_rowMany 4 p1) (fun v2 =>
    zd_1 (zf_X11_within (Int32.toInt64 v2) (1 : Int64) (8 : Int64)) (fun v3 =>
    if v3 = 0 then
      some (-4 : Int32)
    else
      zd_2 (za_it (fun v => zb_X11_noTired_34 b_rowMany p1 b_numbers v) n (0 : Int32)) (fun g10 v9 =>
      if g10 = 1 then
        some (-3 : Int32)
      else if g10 = 2 then
        some (0 : Int32)
      else none)))
  else
    some v1)
theorem zk_X11_noTired : yX11_noTired.cls = RX11 ∧ yX11_noTired.cls ≠ "java/lang/invoke/MethodHandle" ∧ yX11_noTired.cls ≠ "java/lang/invoke/VarHandle" ∧ (parseMethodDescriptor yX11_noTired.desc).map (fun d => d.parameters.length) = some 1 := by decide +kernel
set_option maxHeartbeats 4000000 in
set_option maxRecDepth 100000 in
theorem zt_X11_noTired (l : Launch) (dC : Nat → ClassId) (dI : Nat → Nat → Nat) (dA : Nat → ClassId) (ad : Nat → Nat) (sz : Nat) (n : Nat) (f_thrown f_taped f_at f_behind f_size f_kind f_number f_wrong f_wrongAt f_faultKind f_faultPlace f_reading f_toldWhy f_x f_standMany f_bestMany f_tail f_round1 : Int32) (b_rowSort : (Nat → Int32)) (b_rowMany : (Nat → Int32)) (b_numbers : (Nat → Int64)) (p1 : Int32) (r0 : Int32) (hf : zf_X11_noTired n b_rowSort b_rowMany b_numbers p1 = some r0) : Met l yX11_noTired (.code yX11_noTired cX11_noTired 4 (some .int) :: zr_T) ({ frames := 2, cells := 0, slots := 0, locals := 46 }) (va_Pc [.ref (ad 0), .int p1] (zz_M dC dI dA [zr_o ad f_thrown f_taped f_at f_behind f_size f_kind f_number f_wrong f_wrongAt f_faultKind f_faultPlace f_reading f_toldWhy f_x f_standMany f_bestMany f_tail f_round1, (ad 40, .inl (dA 0, 4, .inl b_rowSort)), (ad 41, .inl (dA 0, 4, .inl b_rowMany)), (ad 42, .inl (dA 1, 160, .inr (.inl b_numbers)))] sz)) (va_Qi (fun (r : Int32) (_ : Unit) => r = r0) (fun _ t => zz_B dC dI dA (va_A [zr_o ad f_thrown f_taped f_at f_behind f_size f_kind f_number f_wrong f_wrongAt f_faultKind f_faultPlace f_reading f_toldWhy f_x f_standMany f_bestMany f_tail f_round1, (ad 40, .inl (dA 0, 4, .inl b_rowSort)), (ad 41, .inl (dA 0, 4, .inl b_rowMany)), (ad 42, .inl (dA 1, 160, .inr (.inl b_numbers)))] sz) [zr_o ad f_thrown f_taped f_at f_behind f_size f_kind f_number f_wrong f_wrongAt f_faultKind f_faultPlace f_reading f_toldWhy f_x f_standMany f_bestMany f_tail f_round1, (ad 40, .inl (dA 0, 4, .inl b_rowSort)), (ad 41, .inl (dA 0, 4, .inl b_rowMany)), (ad 42, .inl (dA 1, 160, .inr (.inl b_numbers)))] t) (va_A [zr_o ad f_thrown f_taped f_at f_behind f_size f_kind f_number f_wrong f_wrongAt f_faultKind f_faultPlace f_reading f_toldWhy f_x f_standMany f_bestMany f_tail f_round1, (ad 40, .inl (dA 0, 4, .inl b_rowSort)), (ad 41, .inl (dA 0, 4, .inl b_rowMany)), (ad 42, .inl (dA 1, 160, .inr (.inl b_numbers)))] sz)) 0 0 (va_A [zr_o ad f_thrown f_taped f_at f_behind f_size f_kind f_number f_wrong f_wrongAt f_faultKind f_faultPlace f_reading f_toldWhy f_x f_standMany f_bestMany f_tail f_round1, (ad 40, .inl (dA 0, 4, .inl b_rowSort)), (ad 41, .inl (dA 0, 4, .inl b_rowMany)), (ad 42, .inl (dA 1, 160, .inr (.inl b_numbers)))] sz) := by
  unfold zf_X11_noTired at hf
  refine Met.ofW (cc := cX11_noTired) (maxL := 4) (ret := (some .int)) (by decide) rfl ?_
  intro p e s m args below meth c s₁ B hml hv
  obtain ⟨rfl, hsz, hP, hK, hD0⟩ := hv
  have hx := B.exec
  have hb := B.bytes
  have hr := B.returns
  have ht : ∀ w ∈ zr_T, w.before ([.ref (ad 0), .int p1] : List Value).toArray s = true := fun w hw => atoms_spec (ws := .code yX11_noTired cX11_noTired 4 (some .int) :: zr_T) B.pre w (List.mem_cons_of_mem _ hw)
  have hown : s.vm.findClass RX11 = some m.cls := findClass_of_methodNamed B.named
  have hlocks := B.notSynchronized
  subst hsz
  have hD := hD0.self (sz := s.heap.size)
  generalize hAe : va_A [zr_o ad f_thrown f_taped f_at f_behind f_size f_kind f_number f_wrong f_wrongAt f_faultKind f_faultPlace f_reading f_toldWhy f_x f_standMany f_bestMany f_tail f_round1, (ad 40, .inl (dA 0, 4, .inl b_rowSort)), (ad 41, .inl (dA 0, 4, .inl b_rowMany)), (ad 42, .inl (dA 1, 160, .inr (.inl b_numbers)))] s.heap.size = A at hD ⊢
  have hA : ∀ q : Nat, s.heap.size ≤ q → A q := fun q h => by rw [← hAe]; exact Or.inr h
  clear hAe hD0
  have hS : va_S A s.heap s.heap [] := va_S.rf
  have hl := lv_entry ([.ref (ad 0), .int p1]) (n := 4) (Nat.le_of_ble_eq_true rfl)
  rw [lg_entry_eq]
  generalize (lg_sl ([.ref (ad 0), .int p1]) ++ List.replicate (4 - (lg_sl ([.ref (ad 0), .int p1])).length) Slot.unset).toArray = ls at hl ⊢
  have hl : lv_has ls 4 [(0, .ref (ad 0)), (1, .int p1)] := hl
  refine lv_aload_n (pc := 0) hx hb dX11_noTired_0 rfl (lv_at hl 0 rfl) ?_
  refine lv_iload_n (pc := 1) hx hb dX11_noTired_1 rfl (lv_at hl 1 rfl) ?_
  obtain ⟨v1, hv1, hf⟩ := zc_1 hf
  refine zw_Vi (pc := 2) (wc := [zr_o ad f_thrown f_taped f_at f_behind f_size f_kind f_number f_wrong f_wrongAt f_faultKind f_faultPlace f_reading f_toldWhy f_x f_standMany f_bestMany f_tail f_round1, (ad 40, .inl (dA 0, 4, .inl b_rowSort))]) (wr := [(ad 41, .inl (dA 0, 4, .inl b_rowMany)), (ad 42, .inl (dA 1, 160, .inr (.inl b_numbers)))]) (w1 := [zr_o ad f_thrown f_taped f_at f_behind f_size f_kind f_number f_wrong f_wrongAt f_faultKind f_faultPlace f_reading f_toldWhy f_x f_standMany f_bestMany f_tail f_round1, (ad 40, .inl (dA 0, 4, .inl b_rowSort))]) (As := [.int p1]) (rest := []) ⟨hx, hb, hml, hown, ht⟩ (zt_X11_noTray l dC dI dA ad _ f_thrown f_taped f_at f_behind f_size f_kind f_number f_wrong f_wrongAt f_faultKind f_faultPlace f_reading f_toldWhy f_x f_standMany f_bestMany f_tail f_round1 b_rowSort p1 v1 hv1) (cwV 1 ht (zr_V zr_316 zr_317 zr_318 zr_36 zr_314) rfl rfl rfl zk_X11_noTray ⟨Nat.le_of_ble_eq_true rfl, Nat.le_of_ble_eq_true rfl⟩) rfl rfl hK hP hD hS hA [0, 1] [2, 3] (by decide) (by decide) (by decide) rfl rfl rfl hl.1 (Nat.le_of_ble_eq_true rfl) dX11_noTired_2 ⟨Nat.zero_le _, Nat.zero_le _⟩ rfl (fun H locs hP hD hS => ?_)
  have hP : va_P (dC, dI) zz_cls [(ad 41, .inl (dA 0, 4, .inl b_rowMany)), (ad 42, .inl (dA 1, 160, .inr (.inl b_numbers))), zr_o ad f_thrown f_taped f_at f_behind f_size f_kind f_number f_wrong f_wrongAt f_faultKind f_faultPlace f_reading f_toldWhy f_x f_standMany f_bestMany f_tail f_round1, (ad 40, .inl (dA 0, 4, .inl b_rowSort))] H := hP
  have hD : va_D A [(ad 41, .inl (dA 0, 4, .inl b_rowMany)), (ad 42, .inl (dA 1, 160, .inr (.inl b_numbers))), zr_o ad f_thrown f_taped f_at f_behind f_size f_kind f_number f_wrong f_wrongAt f_faultKind f_faultPlace f_reading f_toldWhy f_x f_standMany f_bestMany f_tail f_round1, (ad 40, .inl (dA 0, 4, .inl b_rowSort))] := hD
  refine lv_istore_n (lv' := [(2, .int v1), (0, .ref (ad 0)), (1, .int p1)]) (pc := 5) hx hb dX11_noTired_5 rfl hl (by decide) rfl (fun ls hl => ?_)
  refine lv_iload_n (pc := 6) hx hb dX11_noTired_6 rfl (lv_at hl 0 rfl) ?_
  refine lv_if_eq (tgt := 12) (pc := 7) hx hb dX11_noTired_7 rfl (fun hc => ?_) (fun hc => ?_)
  · have hf := za_t hf hc
    refine lv_aload_n (pc := 12) hx hb dX11_noTired_12 rfl (lv_at hl 1 rfl) ?_
    refine va_get (pc := 13) (D := (dC, dI)) (ci := 0) (v := .ref (ad 41)) (C := RX11) (T := TX11) (N := 42) hx hb ht zr_lay hown hK hP 2 rfl rfl 40 (by decide) (ht _ zr_32) (fun _ h9 => h9) rfl dX11_noTired_13 ?_
    refine lv_iload_n (pc := 16) hx hb dX11_noTired_16 rfl (lv_at hl 2 rfl) ?_
    obtain ⟨v2, hv2, hf⟩ := zc_1 hf
    refine zw_iald (pc := 17) hx hb hK hP 0 0 rfl rfl hv2 dX11_noTired_17 ?_
    refine lv_i2l (pc := 18) hx hb dX11_noTired_18 rfl ?_
    refine lv_lconst (v := (1 : Int64)) (pc := 19) hx hb dX11_noTired_19 (by decide) ?_
    refine lv_ldc2 (v := (8 : Int64)) (pc := 20) hx hb hown (ht _ zr_426) dX11_noTired_20 ?_
    obtain ⟨v3, hv3, hf⟩ := zc_1 hf
    refine zw_Si (pc := 23) (wc := []) (wr := [(ad 41, .inl (dA 0, 4, .inl b_rowMany)), (ad 42, .inl (dA 1, 160, .inr (.inl b_numbers))), zr_o ad f_thrown f_taped f_at f_behind f_size f_kind f_number f_wrong f_wrongAt f_faultKind f_faultPlace f_reading f_toldWhy f_x f_standMany f_bestMany f_tail f_round1, (ad 40, .inl (dA 0, 4, .inl b_rowSort))]) (w1 := []) (As := [.long (Int32.toInt64 v2), .long (1 : Int64), .long (8 : Int64)]) (rest := []) ⟨hx, hb, hml, hown, ht⟩ (zt_X11_within l dC dI dA ad _ (Int32.toInt64 v2) (1 : Int64) (8 : Int64) v3 hv3) (cwS 3 ht (zr_S zr_124 zr_125 zr_36 zr_0) rfl rfl rfl zk_X11_within ⟨Nat.le_of_ble_eq_true rfl, Nat.le_of_ble_eq_true rfl⟩) hK hP hD hS hA [] [0, 1, 2, 3] (by decide) (by decide) (by decide) rfl rfl rfl hl.1 (Nat.le_of_ble_eq_true rfl) dX11_noTired_23 ⟨Nat.zero_le _, Nat.zero_le _⟩ rfl (fun H locs hP hD hS => ?_)
    have hP : va_P (dC, dI) zz_cls [(ad 41, .inl (dA 0, 4, .inl b_rowMany)), (ad 42, .inl (dA 1, 160, .inr (.inl b_numbers))), zr_o ad f_thrown f_taped f_at f_behind f_size f_kind f_number f_wrong f_wrongAt f_faultKind f_faultPlace f_reading f_toldWhy f_x f_standMany f_bestMany f_tail f_round1, (ad 40, .inl (dA 0, 4, .inl b_rowSort))] H := hP
    have hD : va_D A [(ad 41, .inl (dA 0, 4, .inl b_rowMany)), (ad 42, .inl (dA 1, 160, .inr (.inl b_numbers))), zr_o ad f_thrown f_taped f_at f_behind f_size f_kind f_number f_wrong f_wrongAt f_faultKind f_faultPlace f_reading f_toldWhy f_x f_standMany f_bestMany f_tail f_round1, (ad 40, .inl (dA 0, 4, .inl b_rowSort))] := hD
    refine lv_if_ne (tgt := 32) (pc := 26) hx hb dX11_noTired_26 rfl (fun hc => ?_) (fun hc => ?_)
    · have hf := za_f hf hc
      refine lv_iconst (v := (0 : Int32)) (pc := 32) hx hb dX11_noTired_32 (by decide) ?_
      refine lv_istore_n (lv' := [(3, .int (0 : Int32)), (2, .int v1), (0, .ref (ad 0)), (1, .int p1)]) (pc := 33) hx hb dX11_noTired_33 rfl hl (by decide) rfl (fun ls hl => ?_)
      obtain ⟨g10, v9, hj, hf⟩ := zc_2 hf
      refine zj_join (pcJ := 65) (stk := []) (X := fun H locs ls => g10 = 1 ∧ lv_has ls 4 [] ∧ va_P (dC, dI) zz_cls [zr_o ad f_thrown f_taped f_at f_behind f_size f_kind f_number f_wrong f_wrongAt f_faultKind f_faultPlace f_reading f_toldWhy f_x f_standMany f_bestMany f_tail f_round1, (ad 40, .inl (dA 0, 4, .inl b_rowSort)), (ad 41, .inl (dA 0, 4, .inl b_rowMany)), (ad 42, .inl (dA 1, 160, .inr (.inl b_numbers)))] H ∧ va_D A [zr_o ad f_thrown f_taped f_at f_behind f_size f_kind f_number f_wrong f_wrongAt f_faultKind f_faultPlace f_reading f_toldWhy f_x f_standMany f_bestMany f_tail f_round1, (ad 40, .inl (dA 0, 4, .inl b_rowSort)), (ad 41, .inl (dA 0, 4, .inl b_rowMany)), (ad 42, .inl (dA 1, 160, .inr (.inl b_numbers)))] ∧ va_S A s.heap H locs) (fun H locs ls hX => ?_) (fun E65 => ?_)
      · obtain ⟨htg, hl, hP, hD, hS⟩ := hX
        clear hj
        have hf := za_t hf htg
        refine lv_bipush (v := (-3 : Int32)) (pc := 65) hx hb dX11_noTired_65 (by decide) ?_
        obtain rfl := Option.some.inj hf
        exact W.iret (pc := 67) hx hb hr (fun t ht hW => ⟨⟨_, (), rfl, rfl, zz_Bi (by rw [ht]; exact hP) (va_K.moved hW.alike hK) (hD)⟩, hS.F ht⟩) hS.2.2 dX11_noTired_67
      refine zj_join (pcJ := 74) (stk := []) (X := fun H locs ls => g10 = 2 ∧ lv_has ls 4 [] ∧ va_P (dC, dI) zz_cls [zr_o ad f_thrown f_taped f_at f_behind f_size f_kind f_number f_wrong f_wrongAt f_faultKind f_faultPlace f_reading f_toldWhy f_x f_standMany f_bestMany f_tail f_round1, (ad 40, .inl (dA 0, 4, .inl b_rowSort)), (ad 41, .inl (dA 0, 4, .inl b_rowMany)), (ad 42, .inl (dA 1, 160, .inr (.inl b_numbers)))] H ∧ va_D A [zr_o ad f_thrown f_taped f_at f_behind f_size f_kind f_number f_wrong f_wrongAt f_faultKind f_faultPlace f_reading f_toldWhy f_x f_standMany f_bestMany f_tail f_round1, (ad 40, .inl (dA 0, 4, .inl b_rowSort)), (ad 41, .inl (dA 0, 4, .inl b_rowMany)), (ad 42, .inl (dA 1, 160, .inr (.inl b_numbers)))] ∧ va_S A s.heap H locs) (fun H locs ls hX => ?_) (fun E74 => ?_)
      · obtain ⟨htg, hl, hP, hD, hS⟩ := hX
        clear hj
        have hf := za_f hf (by rw [htg]; decide)
        have hf := za_t hf htg
        refine lv_iconst (v := (0 : Int32)) (pc := 74) hx hb dX11_noTired_74 (by decide) ?_
        obtain rfl := Option.some.inj hf
        exact W.iret (pc := 75) hx hb hr (fun t ht hW => ⟨⟨_, (), rfl, rfl, zz_Bi (by rw [ht]; exact hP) (va_K.moved hW.alike hK) (hD)⟩, hS.F ht⟩) hS.2.2 dX11_noTired_75
      clear hf
      refine zw_loop (pcH := 34) (X := fun v H locs ls => lv_has ls 4 [(0, .ref (ad 0)), (1, .int p1), (3, .int v)] ∧ va_P (dC, dI) zz_cls [zr_o ad f_thrown f_taped f_at f_behind f_size f_kind f_number f_wrong f_wrongAt f_faultKind f_faultPlace f_reading f_toldWhy f_x f_standMany f_bestMany f_tail f_round1, (ad 40, .inl (dA 0, 4, .inl b_rowSort)), (ad 41, .inl (dA 0, 4, .inl b_rowMany)), (ad 42, .inl (dA 1, 160, .inr (.inl b_numbers)))] H ∧ va_D A [zr_o ad f_thrown f_taped f_at f_behind f_size f_kind f_number f_wrong f_wrongAt f_faultKind f_faultPlace f_reading f_toldWhy f_x f_standMany f_bestMany f_tail f_round1, (ad 40, .inl (dA 0, 4, .inl b_rowSort)), (ad 41, .inl (dA 0, 4, .inl b_rowMany)), (ad 42, .inl (dA 1, 160, .inr (.inl b_numbers)))] ∧ va_S A s.heap H locs) hj (fun v w hf ih ex H locs ls hX => ?_) _ _ _ ⟨lv_sub hl [2, 3, 0] rfl, hP.sub [2, 3, 0, 1] rfl, hD.sub [2, 3, 0, 1] (by decide) rfl, hS⟩
      clear hj
      generalize v = v4 at hf hX
      obtain ⟨hl, hP, hD, hS⟩ := hX
      have hl : lv_has ls 4 [(0, .ref (ad 0)), (1, .int p1), (3, .int v4)] := hl
      have hP : va_P (dC, dI) zz_cls [zr_o ad f_thrown f_taped f_at f_behind f_size f_kind f_number f_wrong f_wrongAt f_faultKind f_faultPlace f_reading f_toldWhy f_x f_standMany f_bestMany f_tail f_round1, (ad 40, .inl (dA 0, 4, .inl b_rowSort)), (ad 41, .inl (dA 0, 4, .inl b_rowMany)), (ad 42, .inl (dA 1, 160, .inr (.inl b_numbers)))] H := hP
      have hD : va_D A [zr_o ad f_thrown f_taped f_at f_behind f_size f_kind f_number f_wrong f_wrongAt f_faultKind f_faultPlace f_reading f_toldWhy f_x f_standMany f_bestMany f_tail f_round1, (ad 40, .inl (dA 0, 4, .inl b_rowSort)), (ad 41, .inl (dA 0, 4, .inl b_rowMany)), (ad 42, .inl (dA 1, 160, .inr (.inl b_numbers)))] := hD
      replace hf : zb_X11_noTired_34 b_rowMany p1 b_numbers v4 = some w := hf
      unfold zb_X11_noTired_34 at hf
      refine lv_iload_n (pc := 34) hx hb dX11_noTired_34 rfl (lv_at hl 2 rfl) ?_
      refine lv_aload_n (pc := 35) hx hb dX11_noTired_35 rfl (lv_at hl 0 rfl) ?_
      refine va_get (pc := 36) (D := (dC, dI)) (ci := 0) (v := .ref (ad 41)) (C := RX11) (T := TX11) (N := 42) hx hb ht zr_lay hown hK hP 0 rfl rfl 40 (by decide) (ht _ zr_32) (fun _ h9 => h9) rfl dX11_noTired_36 ?_
      refine lv_iload_n (pc := 39) hx hb dX11_noTired_39 rfl (lv_at hl 1 rfl) ?_
      obtain ⟨v5, hv5, hf⟩ := zc_1 hf
      refine zw_iald (pc := 40) hx hb hK hP 2 0 rfl rfl hv5 dX11_noTired_40 ?_
      refine lv_icmp_ge (tgt := 74) (pc := 41) hx hb dX11_noTired_41 rfl (fun hc => ?_) (fun hc => ?_)
      · have hf := za_t hf hc
        obtain rfl := Option.some.inj hf
        obtain ⟨rfl, rfl⟩ := zp_2 (ex (show ¬ (2 : Nat) = 0 by decide))
        exact E74 _ _ _ ⟨rfl, lv_sub hl [] rfl, hP, hD, hS⟩
      · have hf := za_f hf hc
        refine lv_aload_n (pc := 44) hx hb dX11_noTired_44 rfl (lv_at hl 0 rfl) ?_
        refine va_get (pc := 45) (D := (dC, dI)) (ci := 0) (v := .ref (ad 42)) (C := RX11) (T := TX11) (N := 42) hx hb ht zr_lay hown hK hP 0 rfl rfl 41 (by decide) (ht _ zr_33) (fun _ h9 => h9) rfl dX11_noTired_45 ?_
        refine lv_bipush (v := (40 : Int32)) (pc := 48) hx hb dX11_noTired_48 (by decide) ?_
        refine lv_iload_n (pc := 50) hx hb dX11_noTired_50 rfl (lv_at hl 1 rfl) ?_
        refine lv_imul (pc := 51) hx hb dX11_noTired_51 ?_
        refine lv_iload_n (pc := 52) hx hb dX11_noTired_52 rfl (lv_at hl 2 rfl) ?_
        refine lv_iadd (pc := 53) hx hb dX11_noTired_53 ?_
        obtain ⟨v6, hv6, hf⟩ := zc_1 hf
        refine zw_lald (pc := 54) hx hb hK hP 3 1 rfl rfl hv6 dX11_noTired_54 ?_
        refine lv_lconst (v := (0 : Int64)) (pc := 55) hx hb dX11_noTired_55 (by decide) ?_
        refine lv_ldc2 (v := (4 : Int64)) (pc := 56) hx hb hown (ht _ zr_427) dX11_noTired_56 ?_
        obtain ⟨v7, hv7, hf⟩ := zc_1 hf
        refine zw_Si (pc := 59) (wc := []) (wr := [zr_o ad f_thrown f_taped f_at f_behind f_size f_kind f_number f_wrong f_wrongAt f_faultKind f_faultPlace f_reading f_toldWhy f_x f_standMany f_bestMany f_tail f_round1, (ad 40, .inl (dA 0, 4, .inl b_rowSort)), (ad 41, .inl (dA 0, 4, .inl b_rowMany)), (ad 42, .inl (dA 1, 160, .inr (.inl b_numbers)))]) (w1 := []) (As := [.long v6, .long (0 : Int64), .long (4 : Int64)]) (rest := []) ⟨hx, hb, hml, hown, ht⟩ (zt_X11_within l dC dI dA ad _ v6 (0 : Int64) (4 : Int64) v7 hv7) (cwS 3 ht (zr_S zr_124 zr_125 zr_36 zr_0) rfl rfl rfl zk_X11_within ⟨Nat.le_of_ble_eq_true rfl, Nat.le_of_ble_eq_true rfl⟩) hK hP hD hS hA [] [0, 1, 2, 3] (by decide) (by decide) (by decide) rfl rfl rfl hl.1 (Nat.le_of_ble_eq_true rfl) dX11_noTired_59 ⟨Nat.zero_le _, Nat.zero_le _⟩ rfl (fun H locs hP hD hS => ?_)
        have hP : va_P (dC, dI) zz_cls [zr_o ad f_thrown f_taped f_at f_behind f_size f_kind f_number f_wrong f_wrongAt f_faultKind f_faultPlace f_reading f_toldWhy f_x f_standMany f_bestMany f_tail f_round1, (ad 40, .inl (dA 0, 4, .inl b_rowSort)), (ad 41, .inl (dA 0, 4, .inl b_rowMany)), (ad 42, .inl (dA 1, 160, .inr (.inl b_numbers)))] H := hP
        have hD : va_D A [zr_o ad f_thrown f_taped f_at f_behind f_size f_kind f_number f_wrong f_wrongAt f_faultKind f_faultPlace f_reading f_toldWhy f_x f_standMany f_bestMany f_tail f_round1, (ad 40, .inl (dA 0, 4, .inl b_rowSort)), (ad 41, .inl (dA 0, 4, .inl b_rowMany)), (ad 42, .inl (dA 1, 160, .inr (.inl b_numbers)))] := hD
        refine lv_if_ne (tgt := 68) (pc := 62) hx hb dX11_noTired_62 rfl (fun hc => ?_) (fun hc => ?_)
        · have hf := za_f hf hc
          obtain ⟨v8, hv8, hf⟩ := zc_1 hf
          refine lv_iinc (v := v8) (lv' := [(3, .int v8), (0, .ref (ad 0)), (1, .int p1)]) (k := 2) (pc := 68) hx hb dX11_noTired_68 hl rfl (Option.some.inj hv8) (by decide) rfl (fun ls hl => ?_)
          refine lv_goto (tgt := 34) (pc := 71) hx hb dX11_noTired_71 rfl ?_
          obtain rfl := Option.some.inj hf
          exact ih rfl _ _ _ ⟨lv_sub hl [1, 2, 0] rfl, hP, hD, hS⟩
        · have hf := za_t hf hc
          obtain rfl := Option.some.inj hf
          obtain ⟨rfl, rfl⟩ := zp_2 (ex (show ¬ (1 : Nat) = 0 by decide))
          exact E65 _ _ _ ⟨rfl, lv_sub hl [] rfl, hP, hD, hS⟩
    · have hf := za_t hf hc
      refine lv_bipush (v := (-4 : Int32)) (pc := 29) hx hb dX11_noTired_29 (by decide) ?_
      obtain rfl := Option.some.inj hf
      exact W.iret (pc := 31) hx hb hr (fun t ht hW => ⟨⟨_, (), rfl, rfl, zz_Bi (by rw [ht]; exact hP.sub [2, 3, 0, 1] rfl) (va_K.moved hW.alike hK) (hD.sub [2, 3, 0, 1] (by decide) rfl)⟩, hS.F ht⟩) hS.2.2 dX11_noTired_31
  · have hf := za_f hf hc
    refine lv_iload_n (pc := 10) hx hb dX11_noTired_10 rfl (lv_at hl 0 rfl) ?_
    obtain rfl := Option.some.inj hf
    exact W.iret (pc := 11) hx hb hr (fun t ht hW => ⟨⟨_, (), rfl, rfl, zz_Bi (by rw [ht]; exact hP.sub [2, 3, 0, 1] rfl) (va_K.moved hW.alike hK) (hD.sub [2, 3, 0, 1] (by decide) rfl)⟩, hS.F ht⟩) hS.2.2 dX11_noTired_11

def zb_X11_windsOf_22 (b_rowMany : (Nat → Int32)) (p1 : Int32) (n : Nat) (b_all : (Nat → Int32)) (v2 : Int32) (b_numbers : (Nat → Int64)) (v6 : Int32) (v7 : Int32) (v8 : Int32) (a9 : (Nat → Int32)) (a10 : (Nat → Int32)) : Option (Nat × Int32 × Int32 × Int32 × (Nat → Int32) × (Nat → Int32)) :=
  zd_1 (za_ld b_rowMany 4 p1) (fun v11 =>
  if v11 ≤ v8 then
    some (1, v6, v7, v8, a9, a10)
  else
    zd_3 (zf_X11_whyBy n b_all a9 a10 v6 (1 : Int32) v2) (fun v12 a13 a14 =>
    zd_1 (
      if v12 = 0 then
        some (1 : Int32)
      else
        some (0 : Int32)) (fun v15 =>
    zd_3 (zf_X11_actedTo n b_all a13 a14 v6 v15 v2) (fun v16 a17 a18 =>
    zd_1 (za_ld b_numbers 160 (((40 : Int32) * p1) + v8)) (fun v19 =>
    zd_1 (
      if (lg_cmp (Int32.toInt64 (za_rem v16 (5 : Int32))) v19) = 0 then
        some (1 : Int32)
      else
        some (0 : Int32)) (fun v20 =>
    zd_1 (some ((v7 &&& v20))) (fun v21 =>
    zd_1 (some (v8 + (1 : Int32))) (fun v22 =>
    some (0, v16, v21, v22, a17, a18)))))))))
def zb_X11_windsOf_4 (b_all : (Nat → Int32)) (b_rowMany : (Nat → Int32)) (p1 : Int32) (n : Nat) (b_numbers : (Nat → Int64)) (v1 : Int32) (v2 : Int32) (a3 : (Nat → Int32)) (a4 : (Nat → Int32)) : Option (Nat × Int32 × Int32 × (Nat → Int32) × (Nat → Int32)) :=
  if (10 : Int32) ≤ v2 then
    some (1, v1, v2, a3, a4)
  else
    zd_1 (zf_X11_standNow b_all) (fun v5 =>
    zd_6 (za_it (fun v => zb_X11_windsOf_22 b_rowMany p1 n b_all v2 b_numbers v.1 v.2.1 v.2.2.1 v.2.2.2.1 v.2.2.2.2) n (v5, (1 : Int32), (0 : Int32), a3, a4)) (fun g28 v23 v24 v25 a26 a27 =>
    zd_1 (
      if v24 = 0 then
        some (0 : Int32)
      else
        some ((1 : Int32) <<< (v2 &&& 31))) (fun v29 =>
    zd_1 (some ((v1 ||| v29))) (fun v30 =>
    zd_1 (some (v2 + (1 : Int32))) (fun v31 =>
    some (0, v30, v31, a26, a27))))))
def zf_X11_windsOf (n : Nat) (b_all : (Nat → Int32)) (b_reckoned : (Nat → Int32)) (b_words : (Nat → Int32)) (b_rowMany : (Nat → Int32)) (b_numbers : (Nat → Int64)) (p1 : Int32) : Option (Int32 × (Nat → Int32) × (Nat → Int32)) :=
  zd_5 (za_it (fun v => zb_X11_windsOf_4 b_all b_rowMany p1 n b_numbers v.1 v.2.1 v.2.2.1 v.2.2.2) n ((0 : Int32), (0 : Int32), b_reckoned, b_words)) (fun g36 v32 v33 a34 a35 =>
  some (v32, a34, a35))
theorem zk_X11_windsOf : yX11_windsOf.cls = RX11 ∧ yX11_windsOf.cls ≠ "java/lang/invoke/MethodHandle" ∧ yX11_windsOf.cls ≠ "java/lang/invoke/VarHandle" ∧ (parseMethodDescriptor yX11_windsOf.desc).map (fun d => d.parameters.length) = some 1 := by decide +kernel
set_option maxHeartbeats 4000000 in
set_option maxRecDepth 100000 in
theorem zt_X11_windsOf (l : Launch) (dC : Nat → ClassId) (dI : Nat → Nat → Nat) (dA : Nat → ClassId) (ad : Nat → Nat) (sz : Nat) (n : Nat) (f_thrown f_taped f_at f_behind f_size f_kind f_number f_wrong f_wrongAt f_faultKind f_faultPlace f_reading f_toldWhy f_x f_standMany f_bestMany f_tail f_round1 : Int32) (b_all : (Nat → Int32)) (b_reckoned : (Nat → Int32)) (b_words : (Nat → Int32)) (b_rowMany : (Nat → Int32)) (b_numbers : (Nat → Int64)) (p1 : Int32) (r0 : Int32) (o1 : (Nat → Int32)) (o2 : (Nat → Int32)) (hf : zf_X11_windsOf n b_all b_reckoned b_words b_rowMany b_numbers p1 = some (r0, o1, o2)) : Met l yX11_windsOf (.code yX11_windsOf cX11_windsOf 7 (some .int) :: zr_T) ({ frames := 4, cells := 0, slots := 0, locals := 99 }) (va_Pc [.ref (ad 0), .int p1] (zz_M dC dI dA [zr_o ad f_thrown f_taped f_at f_behind f_size f_kind f_number f_wrong f_wrongAt f_faultKind f_faultPlace f_reading f_toldWhy f_x f_standMany f_bestMany f_tail f_round1, (ad 2, .inl (dA 0, 2982, .inl b_all)), (ad 17, .inl (dA 0, 900, .inl b_reckoned)), (ad 18, .inl (dA 0, 6, .inl b_words)), (ad 41, .inl (dA 0, 4, .inl b_rowMany)), (ad 42, .inl (dA 1, 160, .inr (.inl b_numbers)))] sz)) (va_Qi (fun (r : Int32) (_ : Unit) => r = r0) (fun _ t => zz_B dC dI dA (va_A [zr_o ad f_thrown f_taped f_at f_behind f_size f_kind f_number f_wrong f_wrongAt f_faultKind f_faultPlace f_reading f_toldWhy f_x f_standMany f_bestMany f_tail f_round1, (ad 2, .inl (dA 0, 2982, .inl b_all)), (ad 17, .inl (dA 0, 900, .inl b_reckoned)), (ad 18, .inl (dA 0, 6, .inl b_words)), (ad 41, .inl (dA 0, 4, .inl b_rowMany)), (ad 42, .inl (dA 1, 160, .inr (.inl b_numbers)))] sz) [zr_o ad f_thrown f_taped f_at f_behind f_size f_kind f_number f_wrong f_wrongAt f_faultKind f_faultPlace f_reading f_toldWhy f_x f_standMany f_bestMany f_tail f_round1, (ad 2, .inl (dA 0, 2982, .inl b_all)), (ad 17, .inl (dA 0, 900, .inl o1)), (ad 18, .inl (dA 0, 6, .inl o2)), (ad 41, .inl (dA 0, 4, .inl b_rowMany)), (ad 42, .inl (dA 1, 160, .inr (.inl b_numbers)))] t) (va_A [zr_o ad f_thrown f_taped f_at f_behind f_size f_kind f_number f_wrong f_wrongAt f_faultKind f_faultPlace f_reading f_toldWhy f_x f_standMany f_bestMany f_tail f_round1, (ad 2, .inl (dA 0, 2982, .inl b_all)), (ad 17, .inl (dA 0, 900, .inl b_reckoned)), (ad 18, .inl (dA 0, 6, .inl b_words)), (ad 41, .inl (dA 0, 4, .inl b_rowMany)), (ad 42, .inl (dA 1, 160, .inr (.inl b_numbers)))] sz)) 0 0 (va_A [zr_o ad f_thrown f_taped f_at f_behind f_size f_kind f_number f_wrong f_wrongAt f_faultKind f_faultPlace f_reading f_toldWhy f_x f_standMany f_bestMany f_tail f_round1, (ad 2, .inl (dA 0, 2982, .inl b_all)), (ad 17, .inl (dA 0, 900, .inl b_reckoned)), (ad 18, .inl (dA 0, 6, .inl b_words)), (ad 41, .inl (dA 0, 4, .inl b_rowMany)), (ad 42, .inl (dA 1, 160, .inr (.inl b_numbers)))] sz) := by
  unfold zf_X11_windsOf at hf
  refine Met.ofW (cc := cX11_windsOf) (maxL := 7) (ret := (some .int)) (by decide) rfl ?_
  intro p e s m args below meth c s₁ B hml hv
  obtain ⟨rfl, hsz, hP, hK, hD0⟩ := hv
  have hx := B.exec
  have hb := B.bytes
  have hr := B.returns
  have ht : ∀ w ∈ zr_T, w.before ([.ref (ad 0), .int p1] : List Value).toArray s = true := fun w hw => atoms_spec (ws := .code yX11_windsOf cX11_windsOf 7 (some .int) :: zr_T) B.pre w (List.mem_cons_of_mem _ hw)
  have hown : s.vm.findClass RX11 = some m.cls := findClass_of_methodNamed B.named
  have hlocks := B.notSynchronized
  subst hsz
  have hD := hD0.self (sz := s.heap.size)
  generalize hAe : va_A [zr_o ad f_thrown f_taped f_at f_behind f_size f_kind f_number f_wrong f_wrongAt f_faultKind f_faultPlace f_reading f_toldWhy f_x f_standMany f_bestMany f_tail f_round1, (ad 2, .inl (dA 0, 2982, .inl b_all)), (ad 17, .inl (dA 0, 900, .inl b_reckoned)), (ad 18, .inl (dA 0, 6, .inl b_words)), (ad 41, .inl (dA 0, 4, .inl b_rowMany)), (ad 42, .inl (dA 1, 160, .inr (.inl b_numbers)))] s.heap.size = A at hD ⊢
  have hA : ∀ q : Nat, s.heap.size ≤ q → A q := fun q h => by rw [← hAe]; exact Or.inr h
  clear hAe hD0
  have hS : va_S A s.heap s.heap [] := va_S.rf
  have hl := lv_entry ([.ref (ad 0), .int p1]) (n := 7) (Nat.le_of_ble_eq_true rfl)
  rw [lg_entry_eq]
  generalize (lg_sl ([.ref (ad 0), .int p1]) ++ List.replicate (7 - (lg_sl ([.ref (ad 0), .int p1])).length) Slot.unset).toArray = ls at hl ⊢
  have hl : lv_has ls 7 [(0, .ref (ad 0)), (1, .int p1)] := hl
  refine lv_iconst (v := (0 : Int32)) (pc := 0) hx hb dX11_windsOf_0 (by decide) ?_
  refine lv_istore_n (lv' := [(2, .int (0 : Int32)), (0, .ref (ad 0)), (1, .int p1)]) (pc := 1) hx hb dX11_windsOf_1 rfl hl (by decide) rfl (fun ls hl => ?_)
  refine lv_iconst (v := (0 : Int32)) (pc := 2) hx hb dX11_windsOf_2 (by decide) ?_
  refine lv_istore_n (lv' := [(3, .int (0 : Int32)), (2, .int (0 : Int32)), (0, .ref (ad 0)), (1, .int p1)]) (pc := 3) hx hb dX11_windsOf_3 rfl hl (by decide) rfl (fun ls hl => ?_)
  obtain ⟨g36, v32, v33, a34, a35, hj, hf⟩ := zc_5 hf
  refine zj_join (pcJ := 116) (stk := []) (X := fun H locs ls => lv_has ls 7 [(2, .int v32)] ∧ va_P (dC, dI) zz_cls [zr_o ad f_thrown f_taped f_at f_behind f_size f_kind f_number f_wrong f_wrongAt f_faultKind f_faultPlace f_reading f_toldWhy f_x f_standMany f_bestMany f_tail f_round1, (ad 2, .inl (dA 0, 2982, .inl b_all)), (ad 17, .inl (dA 0, 900, .inl a34)), (ad 18, .inl (dA 0, 6, .inl a35)), (ad 41, .inl (dA 0, 4, .inl b_rowMany)), (ad 42, .inl (dA 1, 160, .inr (.inl b_numbers)))] H ∧ va_D A [zr_o ad f_thrown f_taped f_at f_behind f_size f_kind f_number f_wrong f_wrongAt f_faultKind f_faultPlace f_reading f_toldWhy f_x f_standMany f_bestMany f_tail f_round1, (ad 2, .inl (dA 0, 2982, .inl b_all)), (ad 17, .inl (dA 0, 900, .inl a34)), (ad 18, .inl (dA 0, 6, .inl a35)), (ad 41, .inl (dA 0, 4, .inl b_rowMany)), (ad 42, .inl (dA 1, 160, .inr (.inl b_numbers)))] ∧ va_S A s.heap H locs) (fun H locs ls hX => ?_) (fun E116 => ?_)
  · obtain ⟨hl, hP, hD, hS⟩ := hX
    clear hj
    refine lv_iload_n (pc := 116) hx hb dX11_windsOf_116 rfl (lv_at hl 0 rfl) ?_
    obtain ⟨rfl, rfl, rfl⟩ := zi_3 hf
    exact W.iret (pc := 117) hx hb hr (fun t ht hW => ⟨⟨_, (), rfl, rfl, zz_Bi (by rw [ht]; exact hP) (va_K.moved hW.alike hK) (hD)⟩, hS.F ht⟩) hS.2.2 dX11_windsOf_117
  clear hf
  refine zw_loop (pcH := 4) (X := fun v H locs ls => lv_has ls 7 [(0, .ref (ad 0)), (1, .int p1), (2, .int v.1), (3, .int v.2.1)] ∧ va_P (dC, dI) zz_cls [zr_o ad f_thrown f_taped f_at f_behind f_size f_kind f_number f_wrong f_wrongAt f_faultKind f_faultPlace f_reading f_toldWhy f_x f_standMany f_bestMany f_tail f_round1, (ad 2, .inl (dA 0, 2982, .inl b_all)), (ad 17, .inl (dA 0, 900, .inl v.2.2.1)), (ad 18, .inl (dA 0, 6, .inl v.2.2.2)), (ad 41, .inl (dA 0, 4, .inl b_rowMany)), (ad 42, .inl (dA 1, 160, .inr (.inl b_numbers)))] H ∧ va_D A [zr_o ad f_thrown f_taped f_at f_behind f_size f_kind f_number f_wrong f_wrongAt f_faultKind f_faultPlace f_reading f_toldWhy f_x f_standMany f_bestMany f_tail f_round1, (ad 2, .inl (dA 0, 2982, .inl b_all)), (ad 17, .inl (dA 0, 900, .inl v.2.2.1)), (ad 18, .inl (dA 0, 6, .inl v.2.2.2)), (ad 41, .inl (dA 0, 4, .inl b_rowMany)), (ad 42, .inl (dA 1, 160, .inr (.inl b_numbers)))] ∧ va_S A s.heap H locs) hj (fun v w hf ih ex H locs ls hX => ?_) _ _ _ ⟨lv_sub hl [2, 3, 1, 0] rfl, hP, hD, hS⟩
  clear hj
  obtain ⟨v1, v2, a3, a4⟩ := v
  obtain ⟨hl, hP, hD, hS⟩ := hX
  have hl : lv_has ls 7 [(0, .ref (ad 0)), (1, .int p1), (2, .int v1), (3, .int v2)] := hl
  have hP : va_P (dC, dI) zz_cls [zr_o ad f_thrown f_taped f_at f_behind f_size f_kind f_number f_wrong f_wrongAt f_faultKind f_faultPlace f_reading f_toldWhy f_x f_standMany f_bestMany f_tail f_round1, (ad 2, .inl (dA 0, 2982, .inl b_all)), (ad 17, .inl (dA 0, 900, .inl a3)), (ad 18, .inl (dA 0, 6, .inl a4)), (ad 41, .inl (dA 0, 4, .inl b_rowMany)), (ad 42, .inl (dA 1, 160, .inr (.inl b_numbers)))] H := hP
  have hD : va_D A [zr_o ad f_thrown f_taped f_at f_behind f_size f_kind f_number f_wrong f_wrongAt f_faultKind f_faultPlace f_reading f_toldWhy f_x f_standMany f_bestMany f_tail f_round1, (ad 2, .inl (dA 0, 2982, .inl b_all)), (ad 17, .inl (dA 0, 900, .inl a3)), (ad 18, .inl (dA 0, 6, .inl a4)), (ad 41, .inl (dA 0, 4, .inl b_rowMany)), (ad 42, .inl (dA 1, 160, .inr (.inl b_numbers)))] := hD
  replace hf : zb_X11_windsOf_4 b_all b_rowMany p1 n b_numbers v1 v2 a3 a4 = some w := hf
  unfold zb_X11_windsOf_4 at hf
  refine lv_iload_n (pc := 4) hx hb dX11_windsOf_4 rfl (lv_at hl 3 rfl) ?_
  refine lv_bipush (v := (10 : Int32)) (pc := 5) hx hb dX11_windsOf_5 (by decide) ?_
  refine lv_icmp_ge (tgt := 116) (pc := 7) hx hb dX11_windsOf_7 rfl (fun hc => ?_) (fun hc => ?_)
  · have hf := za_t hf hc
    obtain rfl := Option.some.inj hf
    obtain ⟨rfl, rfl, rfl, rfl, rfl⟩ := zp_5 (ex (show ¬ (1 : Nat) = 0 by decide))
    exact E116 _ _ _ ⟨lv_sub hl [2] rfl, hP, hD, hS⟩
  · have hf := za_f hf hc
    refine lv_aload_n (pc := 10) hx hb dX11_windsOf_10 rfl (lv_at hl 0 rfl) ?_
    obtain ⟨v5, hv5, hf⟩ := zc_1 hf
    refine zw_Vi (pc := 11) (wc := [zr_o ad f_thrown f_taped f_at f_behind f_size f_kind f_number f_wrong f_wrongAt f_faultKind f_faultPlace f_reading f_toldWhy f_x f_standMany f_bestMany f_tail f_round1, (ad 2, .inl (dA 0, 2982, .inl b_all))]) (wr := [(ad 17, .inl (dA 0, 900, .inl a3)), (ad 18, .inl (dA 0, 6, .inl a4)), (ad 41, .inl (dA 0, 4, .inl b_rowMany)), (ad 42, .inl (dA 1, 160, .inr (.inl b_numbers)))]) (w1 := [zr_o ad f_thrown f_taped f_at f_behind f_size f_kind f_number f_wrong f_wrongAt f_faultKind f_faultPlace f_reading f_toldWhy f_x f_standMany f_bestMany f_tail f_round1, (ad 2, .inl (dA 0, 2982, .inl b_all))]) (As := []) (rest := []) ⟨hx, hb, hml, hown, ht⟩ (zt_X11_standNow l dC dI dA ad _ f_thrown f_taped f_at f_behind f_size f_kind f_number f_wrong f_wrongAt f_faultKind f_faultPlace f_reading f_toldWhy f_x f_standMany f_bestMany f_tail f_round1 b_all v5 hv5) (cwV 0 ht (zr_V zr_261 zr_262 zr_263 zr_36 zr_213) rfl rfl rfl zk_X11_standNow ⟨Nat.le_of_ble_eq_true rfl, Nat.le_of_ble_eq_true rfl⟩) rfl rfl hK hP hD hS hA [0, 1] [2, 3, 4, 5] (by decide) (by decide) (by decide) rfl rfl rfl hl.1 (Nat.le_of_ble_eq_true rfl) dX11_windsOf_11 ⟨Nat.zero_le _, Nat.zero_le _⟩ rfl (fun H locs hP hD hS => ?_)
    have hP : va_P (dC, dI) zz_cls [(ad 17, .inl (dA 0, 900, .inl a3)), (ad 18, .inl (dA 0, 6, .inl a4)), (ad 41, .inl (dA 0, 4, .inl b_rowMany)), (ad 42, .inl (dA 1, 160, .inr (.inl b_numbers))), zr_o ad f_thrown f_taped f_at f_behind f_size f_kind f_number f_wrong f_wrongAt f_faultKind f_faultPlace f_reading f_toldWhy f_x f_standMany f_bestMany f_tail f_round1, (ad 2, .inl (dA 0, 2982, .inl b_all))] H := hP
    have hD : va_D A [(ad 17, .inl (dA 0, 900, .inl a3)), (ad 18, .inl (dA 0, 6, .inl a4)), (ad 41, .inl (dA 0, 4, .inl b_rowMany)), (ad 42, .inl (dA 1, 160, .inr (.inl b_numbers))), zr_o ad f_thrown f_taped f_at f_behind f_size f_kind f_number f_wrong f_wrongAt f_faultKind f_faultPlace f_reading f_toldWhy f_x f_standMany f_bestMany f_tail f_round1, (ad 2, .inl (dA 0, 2982, .inl b_all))] := hD
    refine lv_istore (lv' := [(4, .int v5), (0, .ref (ad 0)), (1, .int p1), (2, .int v1), (3, .int v2)]) (pc := 14) hx hb dX11_windsOf_14 hl (by decide) rfl (fun ls hl => ?_)
    refine lv_iconst (v := (1 : Int32)) (pc := 16) hx hb dX11_windsOf_16 (by decide) ?_
    refine lv_istore (lv' := [(5, .int (1 : Int32)), (4, .int v5), (0, .ref (ad 0)), (1, .int p1), (2, .int v1), (3, .int v2)]) (pc := 17) hx hb dX11_windsOf_17 hl (by decide) rfl (fun ls hl => ?_)
    refine lv_iconst (v := (0 : Int32)) (pc := 19) hx hb dX11_windsOf_19 (by decide) ?_
    refine lv_istore (lv' := [(6, .int (0 : Int32)), (5, .int (1 : Int32)), (4, .int v5), (0, .ref (ad 0)), (1, .int p1), (2, .int v1), (3, .int v2)]) (pc := 20) hx hb dX11_windsOf_20 hl (by decide) rfl (fun ls hl => ?_)
    obtain ⟨g28, v23, v24, v25, a26, a27, hj, hf⟩ := zc_6 hf
    refine zj_join (pcJ := 95) (stk := []) (X := fun H locs ls => lv_has ls 7 [(0, .ref (ad 0)), (1, .int p1), (2, .int v1), (3, .int v2), (5, .int v24)] ∧ va_P (dC, dI) zz_cls [zr_o ad f_thrown f_taped f_at f_behind f_size f_kind f_number f_wrong f_wrongAt f_faultKind f_faultPlace f_reading f_toldWhy f_x f_standMany f_bestMany f_tail f_round1, (ad 2, .inl (dA 0, 2982, .inl b_all)), (ad 17, .inl (dA 0, 900, .inl a26)), (ad 18, .inl (dA 0, 6, .inl a27)), (ad 41, .inl (dA 0, 4, .inl b_rowMany)), (ad 42, .inl (dA 1, 160, .inr (.inl b_numbers)))] H ∧ va_D A [zr_o ad f_thrown f_taped f_at f_behind f_size f_kind f_number f_wrong f_wrongAt f_faultKind f_faultPlace f_reading f_toldWhy f_x f_standMany f_bestMany f_tail f_round1, (ad 2, .inl (dA 0, 2982, .inl b_all)), (ad 17, .inl (dA 0, 900, .inl a26)), (ad 18, .inl (dA 0, 6, .inl a27)), (ad 41, .inl (dA 0, 4, .inl b_rowMany)), (ad 42, .inl (dA 1, 160, .inr (.inl b_numbers)))] ∧ va_S A s.heap H locs) (fun H locs ls hX => ?_) (fun E95 => ?_)
    · obtain ⟨hl, hP, hD, hS⟩ := hX
      clear hj
      refine lv_iload_n (pc := 95) hx hb dX11_windsOf_95 rfl (lv_at hl 2 rfl) ?_
      refine lv_iload (pc := 96) hx hb dX11_windsOf_96 (lv_at hl 4 rfl) ?_
      obtain ⟨v29, hj, hf⟩ := zc_1 hf
      refine zj_join (pcJ := 108) (stk := [.int v29, .int v1]) (X := fun H locs ls => lv_has ls 7 [(0, .ref (ad 0)), (1, .int p1), (3, .int v2)] ∧ va_P (dC, dI) zz_cls [zr_o ad f_thrown f_taped f_at f_behind f_size f_kind f_number f_wrong f_wrongAt f_faultKind f_faultPlace f_reading f_toldWhy f_x f_standMany f_bestMany f_tail f_round1, (ad 2, .inl (dA 0, 2982, .inl b_all)), (ad 17, .inl (dA 0, 900, .inl a26)), (ad 18, .inl (dA 0, 6, .inl a27)), (ad 41, .inl (dA 0, 4, .inl b_rowMany)), (ad 42, .inl (dA 1, 160, .inr (.inl b_numbers)))] H ∧ va_D A [zr_o ad f_thrown f_taped f_at f_behind f_size f_kind f_number f_wrong f_wrongAt f_faultKind f_faultPlace f_reading f_toldWhy f_x f_standMany f_bestMany f_tail f_round1, (ad 2, .inl (dA 0, 2982, .inl b_all)), (ad 17, .inl (dA 0, 900, .inl a26)), (ad 18, .inl (dA 0, 6, .inl a27)), (ad 41, .inl (dA 0, 4, .inl b_rowMany)), (ad 42, .inl (dA 1, 160, .inr (.inl b_numbers)))] ∧ va_S A s.heap H locs) (fun H locs ls hX => ?_) (fun J108 => ?_)
      · obtain ⟨hl, hP, hD, hS⟩ := hX
        clear hj
        refine lv_ior (pc := 108) hx hb dX11_windsOf_108 ?_
        obtain ⟨v30, hv30, hf⟩ := zc_1 hf
        refine zw_top (hv30) ?_
        refine lv_istore_n (lv' := [(2, .int v30), (0, .ref (ad 0)), (1, .int p1), (3, .int v2)]) (pc := 109) hx hb dX11_windsOf_109 rfl hl (by decide) rfl (fun ls hl => ?_)
        obtain ⟨v31, hv31, hf⟩ := zc_1 hf
        refine lv_iinc (v := v31) (lv' := [(3, .int v31), (2, .int v30), (0, .ref (ad 0)), (1, .int p1)]) (k := 3) (pc := 110) hx hb dX11_windsOf_110 hl rfl (Option.some.inj hv31) (by decide) rfl (fun ls hl => ?_)
        refine lv_goto (tgt := 4) (pc := 113) hx hb dX11_windsOf_113 rfl ?_
        obtain rfl := Option.some.inj hf
        exact ih rfl _ _ _ ⟨lv_sub hl [2, 3, 1, 0] rfl, hP, hD, hS⟩
      · clear hf
        have hf := hj
        clear hj
        refine lv_if_eq (tgt := 107) (pc := 98) hx hb dX11_windsOf_98 rfl (fun hc => ?_) (fun hc => ?_)
        · have hf := za_t hf hc
          refine lv_iconst (v := (0 : Int32)) (pc := 107) hx hb dX11_windsOf_107 (by decide) ?_
          obtain rfl := Option.some.inj hf
          exact J108 _ _ _ ⟨lv_sub hl [0, 1, 3] rfl, hP, hD, hS⟩
        · have hf := za_f hf hc
          refine lv_iconst (v := (1 : Int32)) (pc := 101) hx hb dX11_windsOf_101 (by decide) ?_
          refine lv_iload_n (pc := 102) hx hb dX11_windsOf_102 rfl (lv_at hl 3 rfl) ?_
          refine lv_ishl (pc := 103) hx hb dX11_windsOf_103 ?_
          refine lv_goto (tgt := 108) (pc := 104) hx hb dX11_windsOf_104 rfl ?_
          obtain rfl := Option.some.inj hf
          exact J108 _ _ _ ⟨lv_sub hl [0, 1, 3] rfl, hP, hD, hS⟩
    clear hf
    refine zw_loop (pcH := 22) (X := fun v H locs ls => lv_has ls 7 [(0, .ref (ad 0)), (1, .int p1), (2, .int v1), (3, .int v2), (4, .int v.1), (5, .int v.2.1), (6, .int v.2.2.1)] ∧ va_P (dC, dI) zz_cls [zr_o ad f_thrown f_taped f_at f_behind f_size f_kind f_number f_wrong f_wrongAt f_faultKind f_faultPlace f_reading f_toldWhy f_x f_standMany f_bestMany f_tail f_round1, (ad 2, .inl (dA 0, 2982, .inl b_all)), (ad 17, .inl (dA 0, 900, .inl v.2.2.2.1)), (ad 18, .inl (dA 0, 6, .inl v.2.2.2.2)), (ad 41, .inl (dA 0, 4, .inl b_rowMany)), (ad 42, .inl (dA 1, 160, .inr (.inl b_numbers)))] H ∧ va_D A [zr_o ad f_thrown f_taped f_at f_behind f_size f_kind f_number f_wrong f_wrongAt f_faultKind f_faultPlace f_reading f_toldWhy f_x f_standMany f_bestMany f_tail f_round1, (ad 2, .inl (dA 0, 2982, .inl b_all)), (ad 17, .inl (dA 0, 900, .inl v.2.2.2.1)), (ad 18, .inl (dA 0, 6, .inl v.2.2.2.2)), (ad 41, .inl (dA 0, 4, .inl b_rowMany)), (ad 42, .inl (dA 1, 160, .inr (.inl b_numbers)))] ∧ va_S A s.heap H locs) hj (fun v w hf ih ex H locs ls hX => ?_) _ _ _ ⟨lv_sub hl [3, 4, 5, 6, 2, 1, 0] rfl, hP.sub [4, 5, 0, 1, 2, 3] rfl, hD.sub [4, 5, 0, 1, 2, 3] (by decide) rfl, hS⟩
    clear hj
    obtain ⟨v6, v7, v8, a9, a10⟩ := v
    obtain ⟨hl, hP, hD, hS⟩ := hX
    have hl : lv_has ls 7 [(0, .ref (ad 0)), (1, .int p1), (2, .int v1), (3, .int v2), (4, .int v6), (5, .int v7), (6, .int v8)] := hl
    have hP : va_P (dC, dI) zz_cls [zr_o ad f_thrown f_taped f_at f_behind f_size f_kind f_number f_wrong f_wrongAt f_faultKind f_faultPlace f_reading f_toldWhy f_x f_standMany f_bestMany f_tail f_round1, (ad 2, .inl (dA 0, 2982, .inl b_all)), (ad 17, .inl (dA 0, 900, .inl a9)), (ad 18, .inl (dA 0, 6, .inl a10)), (ad 41, .inl (dA 0, 4, .inl b_rowMany)), (ad 42, .inl (dA 1, 160, .inr (.inl b_numbers)))] H := hP
    have hD : va_D A [zr_o ad f_thrown f_taped f_at f_behind f_size f_kind f_number f_wrong f_wrongAt f_faultKind f_faultPlace f_reading f_toldWhy f_x f_standMany f_bestMany f_tail f_round1, (ad 2, .inl (dA 0, 2982, .inl b_all)), (ad 17, .inl (dA 0, 900, .inl a9)), (ad 18, .inl (dA 0, 6, .inl a10)), (ad 41, .inl (dA 0, 4, .inl b_rowMany)), (ad 42, .inl (dA 1, 160, .inr (.inl b_numbers)))] := hD
    replace hf : zb_X11_windsOf_22 b_rowMany p1 n b_all v2 b_numbers v6 v7 v8 a9 a10 = some w := hf
    unfold zb_X11_windsOf_22 at hf
    refine lv_iload (pc := 22) hx hb dX11_windsOf_22 (lv_at hl 6 rfl) ?_
    refine lv_aload_n (pc := 24) hx hb dX11_windsOf_24 rfl (lv_at hl 0 rfl) ?_
    refine va_get (pc := 25) (D := (dC, dI)) (ci := 0) (v := .ref (ad 41)) (C := RX11) (T := TX11) (N := 42) hx hb ht zr_lay hown hK hP 0 rfl rfl 40 (by decide) (ht _ zr_32) (fun _ h9 => h9) rfl dX11_windsOf_25 ?_
    refine lv_iload_n (pc := 28) hx hb dX11_windsOf_28 rfl (lv_at hl 1 rfl) ?_
    obtain ⟨v11, hv11, hf⟩ := zc_1 hf
    refine zw_iald (pc := 29) hx hb hK hP 4 0 rfl rfl hv11 dX11_windsOf_29 ?_
    refine lv_icmp_ge (tgt := 95) (pc := 30) hx hb dX11_windsOf_30 rfl (fun hc => ?_) (fun hc => ?_)
    · have hf := za_t hf hc
      obtain rfl := Option.some.inj hf
      obtain ⟨rfl, rfl, rfl, rfl, rfl, rfl⟩ := zp_6 (ex (show ¬ (1 : Nat) = 0 by decide))
      exact E95 _ _ _ ⟨lv_sub hl [0, 1, 2, 3, 5] rfl, hP, hD, hS⟩
    · have hf := za_f hf hc
      refine lv_aload_n (pc := 33) hx hb dX11_windsOf_33 rfl (lv_at hl 0 rfl) ?_
      refine lv_iload (pc := 34) hx hb dX11_windsOf_34 (lv_at hl 4 rfl) ?_
      refine lv_aload_n (pc := 36) hx hb dX11_windsOf_36 rfl (lv_at hl 0 rfl) ?_
      refine lv_iload (pc := 37) hx hb dX11_windsOf_37 (lv_at hl 4 rfl) ?_
      refine lv_iconst (v := (1 : Int32)) (pc := 39) hx hb dX11_windsOf_39 (by decide) ?_
      refine lv_iload_n (pc := 40) hx hb dX11_windsOf_40 rfl (lv_at hl 3 rfl) ?_
      obtain ⟨v12, a13, a14, hv12, hf⟩ := zc_3 hf
      refine zw_Vi (pc := 41) (wc := [zr_o ad f_thrown f_taped f_at f_behind f_size f_kind f_number f_wrong f_wrongAt f_faultKind f_faultPlace f_reading f_toldWhy f_x f_standMany f_bestMany f_tail f_round1, (ad 2, .inl (dA 0, 2982, .inl b_all)), (ad 17, .inl (dA 0, 900, .inl a9)), (ad 18, .inl (dA 0, 6, .inl a10))]) (wr := [(ad 41, .inl (dA 0, 4, .inl b_rowMany)), (ad 42, .inl (dA 1, 160, .inr (.inl b_numbers)))]) (w1 := [zr_o ad f_thrown f_taped f_at f_behind f_size f_kind f_number f_wrong f_wrongAt f_faultKind f_faultPlace f_reading f_toldWhy f_x f_standMany f_bestMany f_tail f_round1, (ad 2, .inl (dA 0, 2982, .inl b_all)), (ad 17, .inl (dA 0, 900, .inl a13)), (ad 18, .inl (dA 0, 6, .inl a14))]) (As := [.int v6, .int (1 : Int32), .int v2]) (rest := [.int v6, .ref (ad 0)]) ⟨hx, hb, hml, hown, ht⟩ (zt_X11_whyBy l dC dI dA ad _ n f_thrown f_taped f_at f_behind f_size f_kind f_number f_wrong f_wrongAt f_faultKind f_faultPlace f_reading f_toldWhy f_x f_standMany f_bestMany f_tail f_round1 b_all a9 a10 v6 (1 : Int32) v2 v12 a13 a14 hv12) (cwV 3 ht (zr_V zr_264 zr_265 zr_266 zr_36 zr_248) rfl rfl rfl zk_X11_whyBy ⟨Nat.le_of_ble_eq_true rfl, Nat.le_of_ble_eq_true rfl⟩) rfl rfl hK hP hD hS hA [0, 1, 2, 3] [4, 5] (by decide) (by decide) (by decide) rfl rfl rfl hl.1 (Nat.le_of_ble_eq_true rfl) dX11_windsOf_41 ⟨Nat.zero_le _, Nat.zero_le _⟩ rfl (fun H locs hP hD hS => ?_)
      have hP : va_P (dC, dI) zz_cls [(ad 41, .inl (dA 0, 4, .inl b_rowMany)), (ad 42, .inl (dA 1, 160, .inr (.inl b_numbers))), zr_o ad f_thrown f_taped f_at f_behind f_size f_kind f_number f_wrong f_wrongAt f_faultKind f_faultPlace f_reading f_toldWhy f_x f_standMany f_bestMany f_tail f_round1, (ad 2, .inl (dA 0, 2982, .inl b_all)), (ad 17, .inl (dA 0, 900, .inl a13)), (ad 18, .inl (dA 0, 6, .inl a14))] H := hP
      have hD : va_D A [(ad 41, .inl (dA 0, 4, .inl b_rowMany)), (ad 42, .inl (dA 1, 160, .inr (.inl b_numbers))), zr_o ad f_thrown f_taped f_at f_behind f_size f_kind f_number f_wrong f_wrongAt f_faultKind f_faultPlace f_reading f_toldWhy f_x f_standMany f_bestMany f_tail f_round1, (ad 2, .inl (dA 0, 2982, .inl b_all)), (ad 17, .inl (dA 0, 900, .inl a13)), (ad 18, .inl (dA 0, 6, .inl a14))] := hD
      obtain ⟨v15, hj, hf⟩ := zc_1 hf
      refine zj_join (pcJ := 52) (stk := [.int v15, .int v6, .ref (ad 0)]) (X := fun H locs ls => lv_has ls 7 [(0, .ref (ad 0)), (1, .int p1), (2, .int v1), (3, .int v2), (5, .int v7), (6, .int v8)] ∧ va_P (dC, dI) zz_cls [zr_o ad f_thrown f_taped f_at f_behind f_size f_kind f_number f_wrong f_wrongAt f_faultKind f_faultPlace f_reading f_toldWhy f_x f_standMany f_bestMany f_tail f_round1, (ad 2, .inl (dA 0, 2982, .inl b_all)), (ad 17, .inl (dA 0, 900, .inl a13)), (ad 18, .inl (dA 0, 6, .inl a14)), (ad 41, .inl (dA 0, 4, .inl b_rowMany)), (ad 42, .inl (dA 1, 160, .inr (.inl b_numbers)))] H ∧ va_D A [zr_o ad f_thrown f_taped f_at f_behind f_size f_kind f_number f_wrong f_wrongAt f_faultKind f_faultPlace f_reading f_toldWhy f_x f_standMany f_bestMany f_tail f_round1, (ad 2, .inl (dA 0, 2982, .inl b_all)), (ad 17, .inl (dA 0, 900, .inl a13)), (ad 18, .inl (dA 0, 6, .inl a14)), (ad 41, .inl (dA 0, 4, .inl b_rowMany)), (ad 42, .inl (dA 1, 160, .inr (.inl b_numbers)))] ∧ va_S A s.heap H locs) (fun H locs ls hX => ?_) (fun J52 => ?_)
      · obtain ⟨hl, hP, hD, hS⟩ := hX
        clear hj
        refine lv_iload_n (pc := 52) hx hb dX11_windsOf_52 rfl (lv_at hl 3 rfl) ?_
        obtain ⟨v16, a17, a18, hv16, hf⟩ := zc_3 hf
        refine zw_Vi (pc := 53) (wc := [zr_o ad f_thrown f_taped f_at f_behind f_size f_kind f_number f_wrong f_wrongAt f_faultKind f_faultPlace f_reading f_toldWhy f_x f_standMany f_bestMany f_tail f_round1, (ad 2, .inl (dA 0, 2982, .inl b_all)), (ad 17, .inl (dA 0, 900, .inl a13)), (ad 18, .inl (dA 0, 6, .inl a14))]) (wr := [(ad 41, .inl (dA 0, 4, .inl b_rowMany)), (ad 42, .inl (dA 1, 160, .inr (.inl b_numbers)))]) (w1 := [zr_o ad f_thrown f_taped f_at f_behind f_size f_kind f_number f_wrong f_wrongAt f_faultKind f_faultPlace f_reading f_toldWhy f_x f_standMany f_bestMany f_tail f_round1, (ad 2, .inl (dA 0, 2982, .inl b_all)), (ad 17, .inl (dA 0, 900, .inl a17)), (ad 18, .inl (dA 0, 6, .inl a18))]) (As := [.int v6, .int v15, .int v2]) (rest := []) ⟨hx, hb, hml, hown, ht⟩ (zt_X11_actedTo l dC dI dA ad _ n f_thrown f_taped f_at f_behind f_size f_kind f_number f_wrong f_wrongAt f_faultKind f_faultPlace f_reading f_toldWhy f_x f_standMany f_bestMany f_tail f_round1 b_all a13 a14 v6 v15 v2 v16 a17 a18 hv16) (cwV 3 ht (zr_V zr_272 zr_273 zr_274 zr_36 zr_253) rfl rfl rfl zk_X11_actedTo ⟨Nat.le_of_ble_eq_true rfl, Nat.le_of_ble_eq_true rfl⟩) rfl rfl hK hP hD hS hA [0, 1, 2, 3] [4, 5] (by decide) (by decide) (by decide) rfl rfl rfl hl.1 (Nat.le_of_ble_eq_true rfl) dX11_windsOf_53 ⟨Nat.zero_le _, Nat.zero_le _⟩ rfl (fun H locs hP hD hS => ?_)
        have hP : va_P (dC, dI) zz_cls [(ad 41, .inl (dA 0, 4, .inl b_rowMany)), (ad 42, .inl (dA 1, 160, .inr (.inl b_numbers))), zr_o ad f_thrown f_taped f_at f_behind f_size f_kind f_number f_wrong f_wrongAt f_faultKind f_faultPlace f_reading f_toldWhy f_x f_standMany f_bestMany f_tail f_round1, (ad 2, .inl (dA 0, 2982, .inl b_all)), (ad 17, .inl (dA 0, 900, .inl a17)), (ad 18, .inl (dA 0, 6, .inl a18))] H := hP
        have hD : va_D A [(ad 41, .inl (dA 0, 4, .inl b_rowMany)), (ad 42, .inl (dA 1, 160, .inr (.inl b_numbers))), zr_o ad f_thrown f_taped f_at f_behind f_size f_kind f_number f_wrong f_wrongAt f_faultKind f_faultPlace f_reading f_toldWhy f_x f_standMany f_bestMany f_tail f_round1, (ad 2, .inl (dA 0, 2982, .inl b_all)), (ad 17, .inl (dA 0, 900, .inl a17)), (ad 18, .inl (dA 0, 6, .inl a18))] := hD
        refine lv_istore (lv' := [(4, .int v16), (0, .ref (ad 0)), (1, .int p1), (2, .int v1), (3, .int v2), (5, .int v7), (6, .int v8)]) (pc := 56) hx hb dX11_windsOf_56 hl (by decide) rfl (fun ls hl => ?_)
        refine lv_iload (pc := 58) hx hb dX11_windsOf_58 (lv_at hl 5 rfl) ?_
        refine lv_iload (pc := 60) hx hb dX11_windsOf_60 (lv_at hl 0 rfl) ?_
        refine lv_iconst (v := (5 : Int32)) (pc := 62) hx hb dX11_windsOf_62 (by decide) ?_
        refine lv_irem (pc := 63) hx hb dX11_windsOf_63 (by decide) ?_
        refine lv_i2l (pc := 64) hx hb dX11_windsOf_64 rfl ?_
        refine lv_aload_n (pc := 65) hx hb dX11_windsOf_65 rfl (lv_at hl 1 rfl) ?_
        refine va_get (pc := 66) (D := (dC, dI)) (ci := 0) (v := .ref (ad 42)) (C := RX11) (T := TX11) (N := 42) hx hb ht zr_lay hown hK hP 2 rfl rfl 41 (by decide) (ht _ zr_33) (fun _ h9 => h9) rfl dX11_windsOf_66 ?_
        refine lv_bipush (v := (40 : Int32)) (pc := 69) hx hb dX11_windsOf_69 (by decide) ?_
        refine lv_iload_n (pc := 71) hx hb dX11_windsOf_71 rfl (lv_at hl 2 rfl) ?_
        refine lv_imul (pc := 72) hx hb dX11_windsOf_72 ?_
        refine lv_iload (pc := 73) hx hb dX11_windsOf_73 (lv_at hl 6 rfl) ?_
        refine lv_iadd (pc := 75) hx hb dX11_windsOf_75 ?_
        obtain ⟨v19, hv19, hf⟩ := zc_1 hf
        refine zw_lald (pc := 76) hx hb hK hP 1 1 rfl rfl hv19 dX11_windsOf_76 ?_
        refine W.lcmp (pc := 77) hx hb dX11_windsOf_77 ?_
        obtain ⟨v20, hj, hf⟩ := zc_1 hf
        refine zj_join (pcJ := 86) (stk := [.int v20, .int v7]) (X := fun H locs ls => lv_has ls 7 [(0, .ref (ad 0)), (1, .int p1), (2, .int v1), (3, .int v2), (4, .int v16), (6, .int v8)] ∧ va_P (dC, dI) zz_cls [zr_o ad f_thrown f_taped f_at f_behind f_size f_kind f_number f_wrong f_wrongAt f_faultKind f_faultPlace f_reading f_toldWhy f_x f_standMany f_bestMany f_tail f_round1, (ad 2, .inl (dA 0, 2982, .inl b_all)), (ad 17, .inl (dA 0, 900, .inl a17)), (ad 18, .inl (dA 0, 6, .inl a18)), (ad 41, .inl (dA 0, 4, .inl b_rowMany)), (ad 42, .inl (dA 1, 160, .inr (.inl b_numbers)))] H ∧ va_D A [zr_o ad f_thrown f_taped f_at f_behind f_size f_kind f_number f_wrong f_wrongAt f_faultKind f_faultPlace f_reading f_toldWhy f_x f_standMany f_bestMany f_tail f_round1, (ad 2, .inl (dA 0, 2982, .inl b_all)), (ad 17, .inl (dA 0, 900, .inl a17)), (ad 18, .inl (dA 0, 6, .inl a18)), (ad 41, .inl (dA 0, 4, .inl b_rowMany)), (ad 42, .inl (dA 1, 160, .inr (.inl b_numbers)))] ∧ va_S A s.heap H locs) (fun H locs ls hX => ?_) (fun J86 => ?_)
        · obtain ⟨hl, hP, hD, hS⟩ := hX
          clear hj
          refine lv_iand (pc := 86) hx hb dX11_windsOf_86 ?_
          obtain ⟨v21, hv21, hf⟩ := zc_1 hf
          refine zw_top (hv21) ?_
          refine lv_istore (lv' := [(5, .int v21), (0, .ref (ad 0)), (1, .int p1), (2, .int v1), (3, .int v2), (4, .int v16), (6, .int v8)]) (pc := 87) hx hb dX11_windsOf_87 hl (by decide) rfl (fun ls hl => ?_)
          obtain ⟨v22, hv22, hf⟩ := zc_1 hf
          refine lv_iinc (v := v22) (lv' := [(6, .int v22), (5, .int v21), (0, .ref (ad 0)), (1, .int p1), (2, .int v1), (3, .int v2), (4, .int v16)]) (k := 6) (pc := 89) hx hb dX11_windsOf_89 hl rfl (Option.some.inj hv22) (by decide) rfl (fun ls hl => ?_)
          refine lv_goto (tgt := 22) (pc := 92) hx hb dX11_windsOf_92 rfl ?_
          obtain rfl := Option.some.inj hf
          exact ih rfl _ _ _ ⟨lv_sub hl [2, 3, 4, 5, 6, 1, 0] rfl, hP, hD, hS⟩
        · clear hf
          have hf := hj
          clear hj
          refine lv_if_ne (tgt := 85) (pc := 78) hx hb dX11_windsOf_78 rfl (fun hc => ?_) (fun hc => ?_)
          · have hf := za_f hf hc
            refine lv_iconst (v := (0 : Int32)) (pc := 85) hx hb dX11_windsOf_85 (by decide) ?_
            obtain rfl := Option.some.inj hf
            exact J86 _ _ _ ⟨lv_sub hl [1, 2, 3, 4, 0, 6] rfl, hP.sub [2, 3, 4, 5, 0, 1] rfl, hD.sub [2, 3, 4, 5, 0, 1] (by decide) rfl, hS⟩
          · have hf := za_t hf hc
            refine lv_iconst (v := (1 : Int32)) (pc := 81) hx hb dX11_windsOf_81 (by decide) ?_
            refine lv_goto (tgt := 86) (pc := 82) hx hb dX11_windsOf_82 rfl ?_
            obtain rfl := Option.some.inj hf
            exact J86 _ _ _ ⟨lv_sub hl [1, 2, 3, 4, 0, 6] rfl, hP.sub [2, 3, 4, 5, 0, 1] rfl, hD.sub [2, 3, 4, 5, 0, 1] (by decide) rfl, hS⟩
      · clear hf
        have hf := hj
        clear hj
        refine lv_if_ne (tgt := 51) (pc := 44) hx hb dX11_windsOf_44 rfl (fun hc => ?_) (fun hc => ?_)
        · have hf := za_f hf hc
          refine lv_iconst (v := (0 : Int32)) (pc := 51) hx hb dX11_windsOf_51 (by decide) ?_
          obtain rfl := Option.some.inj hf
          exact J52 _ _ _ ⟨lv_sub hl [0, 1, 2, 3, 5, 6] rfl, hP.sub [2, 3, 4, 5, 0, 1] rfl, hD.sub [2, 3, 4, 5, 0, 1] (by decide) rfl, hS⟩
        · have hf := za_t hf hc
          refine lv_iconst (v := (1 : Int32)) (pc := 47) hx hb dX11_windsOf_47 (by decide) ?_
          refine lv_goto (tgt := 52) (pc := 48) hx hb dX11_windsOf_48 rfl ?_
          obtain rfl := Option.some.inj hf
          exact J52 _ _ _ ⟨lv_sub hl [0, 1, 2, 3, 5, 6] rfl, hP.sub [2, 3, 4, 5, 0, 1] rfl, hD.sub [2, 3, 4, 5, 0, 1] (by decide) rfl, hS⟩

def zf_X11_winds (n : Nat) (f_thrown : Int32) (b_all : (Nat → Int32)) (b_reckoned : (Nat → Int32)) (b_words : (Nat → Int32)) (b_rowSort : (Nat → Int32)) (b_rowMany : (Nat → Int32)) (b_numbers : (Nat → Int64)) (p1 : Int32) : Option (Int32 × Int32 × (Nat → Int32) × (Nat → Int32)) :=
  zd_1 (zf_X11_noTired n b_rowSort b_rowMany b_numbers p1) (fun v1 =>
  if v1 = 0 then
    zd_3 (zf_X11_windsOf n b_all b_reckoned b_words b_rowMany b_numbers p1) (fun v2 a3 a4 =>
    some (v2, (0 : Int32), a3, a4))
  else
    some (v1, (0 : Int32), b_reckoned, b_words))
theorem zk_X11_winds : yX11_winds.cls = RX11 ∧ yX11_winds.cls ≠ "java/lang/invoke/MethodHandle" ∧ yX11_winds.cls ≠ "java/lang/invoke/VarHandle" ∧ (parseMethodDescriptor yX11_winds.desc).map (fun d => d.parameters.length) = some 1 := by decide +kernel
set_option maxHeartbeats 4000000 in
set_option maxRecDepth 100000 in
theorem zt_X11_winds (l : Launch) (dC : Nat → ClassId) (dI : Nat → Nat → Nat) (dA : Nat → ClassId) (ad : Nat → Nat) (sz : Nat) (n : Nat) (f_thrown f_taped f_at f_behind f_size f_kind f_number f_wrong f_wrongAt f_faultKind f_faultPlace f_reading f_toldWhy f_x f_standMany f_bestMany f_tail f_round1 : Int32) (b_all : (Nat → Int32)) (b_reckoned : (Nat → Int32)) (b_words : (Nat → Int32)) (b_rowSort : (Nat → Int32)) (b_rowMany : (Nat → Int32)) (b_numbers : (Nat → Int64)) (p1 : Int32) (r0 : Int32) (o1 : Int32) (o2 : (Nat → Int32)) (o3 : (Nat → Int32)) (hf : zf_X11_winds n f_thrown b_all b_reckoned b_words b_rowSort b_rowMany b_numbers p1 = some (r0, o1, o2, o3)) : Met l yX11_winds (.code yX11_winds cX11_winds 3 (some .int) :: zr_T) ({ frames := 5, cells := 0, slots := 0, locals := 125 }) (va_Pc [.ref (ad 0), .int p1] (zz_M dC dI dA [zr_o ad f_thrown f_taped f_at f_behind f_size f_kind f_number f_wrong f_wrongAt f_faultKind f_faultPlace f_reading f_toldWhy f_x f_standMany f_bestMany f_tail f_round1, (ad 2, .inl (dA 0, 2982, .inl b_all)), (ad 17, .inl (dA 0, 900, .inl b_reckoned)), (ad 18, .inl (dA 0, 6, .inl b_words)), (ad 40, .inl (dA 0, 4, .inl b_rowSort)), (ad 41, .inl (dA 0, 4, .inl b_rowMany)), (ad 42, .inl (dA 1, 160, .inr (.inl b_numbers)))] sz)) (va_Qi (fun (r : Int32) (_ : Unit) => r = r0) (fun _ t => zz_B dC dI dA (va_A [zr_o ad f_thrown f_taped f_at f_behind f_size f_kind f_number f_wrong f_wrongAt f_faultKind f_faultPlace f_reading f_toldWhy f_x f_standMany f_bestMany f_tail f_round1, (ad 2, .inl (dA 0, 2982, .inl b_all)), (ad 17, .inl (dA 0, 900, .inl b_reckoned)), (ad 18, .inl (dA 0, 6, .inl b_words)), (ad 40, .inl (dA 0, 4, .inl b_rowSort)), (ad 41, .inl (dA 0, 4, .inl b_rowMany)), (ad 42, .inl (dA 1, 160, .inr (.inl b_numbers)))] sz) [zr_o ad o1 f_taped f_at f_behind f_size f_kind f_number f_wrong f_wrongAt f_faultKind f_faultPlace f_reading f_toldWhy f_x f_standMany f_bestMany f_tail f_round1, (ad 2, .inl (dA 0, 2982, .inl b_all)), (ad 17, .inl (dA 0, 900, .inl o2)), (ad 18, .inl (dA 0, 6, .inl o3)), (ad 40, .inl (dA 0, 4, .inl b_rowSort)), (ad 41, .inl (dA 0, 4, .inl b_rowMany)), (ad 42, .inl (dA 1, 160, .inr (.inl b_numbers)))] t) (va_A [zr_o ad f_thrown f_taped f_at f_behind f_size f_kind f_number f_wrong f_wrongAt f_faultKind f_faultPlace f_reading f_toldWhy f_x f_standMany f_bestMany f_tail f_round1, (ad 2, .inl (dA 0, 2982, .inl b_all)), (ad 17, .inl (dA 0, 900, .inl b_reckoned)), (ad 18, .inl (dA 0, 6, .inl b_words)), (ad 40, .inl (dA 0, 4, .inl b_rowSort)), (ad 41, .inl (dA 0, 4, .inl b_rowMany)), (ad 42, .inl (dA 1, 160, .inr (.inl b_numbers)))] sz)) 0 0 (va_A [zr_o ad f_thrown f_taped f_at f_behind f_size f_kind f_number f_wrong f_wrongAt f_faultKind f_faultPlace f_reading f_toldWhy f_x f_standMany f_bestMany f_tail f_round1, (ad 2, .inl (dA 0, 2982, .inl b_all)), (ad 17, .inl (dA 0, 900, .inl b_reckoned)), (ad 18, .inl (dA 0, 6, .inl b_words)), (ad 40, .inl (dA 0, 4, .inl b_rowSort)), (ad 41, .inl (dA 0, 4, .inl b_rowMany)), (ad 42, .inl (dA 1, 160, .inr (.inl b_numbers)))] sz) := by
  unfold zf_X11_winds at hf
  refine Met.ofW (cc := cX11_winds) (maxL := 3) (ret := (some .int)) (by decide) rfl ?_
  intro p e s m args below meth c s₁ B hml hv
  obtain ⟨rfl, hsz, hP, hK, hD0⟩ := hv
  have hx := B.exec
  have hb := B.bytes
  have hr := B.returns
  have ht : ∀ w ∈ zr_T, w.before ([.ref (ad 0), .int p1] : List Value).toArray s = true := fun w hw => atoms_spec (ws := .code yX11_winds cX11_winds 3 (some .int) :: zr_T) B.pre w (List.mem_cons_of_mem _ hw)
  have hown : s.vm.findClass RX11 = some m.cls := findClass_of_methodNamed B.named
  have hlocks := B.notSynchronized
  subst hsz
  have hD := hD0.self (sz := s.heap.size)
  generalize hAe : va_A [zr_o ad f_thrown f_taped f_at f_behind f_size f_kind f_number f_wrong f_wrongAt f_faultKind f_faultPlace f_reading f_toldWhy f_x f_standMany f_bestMany f_tail f_round1, (ad 2, .inl (dA 0, 2982, .inl b_all)), (ad 17, .inl (dA 0, 900, .inl b_reckoned)), (ad 18, .inl (dA 0, 6, .inl b_words)), (ad 40, .inl (dA 0, 4, .inl b_rowSort)), (ad 41, .inl (dA 0, 4, .inl b_rowMany)), (ad 42, .inl (dA 1, 160, .inr (.inl b_numbers)))] s.heap.size = A at hD ⊢
  have hA : ∀ q : Nat, s.heap.size ≤ q → A q := fun q h => by rw [← hAe]; exact Or.inr h
  clear hAe hD0
  have hS : va_S A s.heap s.heap [] := va_S.rf
  have hl := lv_entry ([.ref (ad 0), .int p1]) (n := 3) (Nat.le_of_ble_eq_true rfl)
  rw [lg_entry_eq]
  generalize (lg_sl ([.ref (ad 0), .int p1]) ++ List.replicate (3 - (lg_sl ([.ref (ad 0), .int p1])).length) Slot.unset).toArray = ls at hl ⊢
  have hl : lv_has ls 3 [(0, .ref (ad 0)), (1, .int p1)] := hl
  refine lv_aload_n (pc := 0) hx hb dX11_winds_0 rfl (lv_at hl 0 rfl) ?_
  refine lv_iconst (v := (0 : Int32)) (pc := 1) hx hb dX11_winds_1 (by decide) ?_
  refine va_put (pc := 2) (D := (dC, dI)) (ci := 0) (v := .int (0 : Int32)) (ty := .int) (C := RX11) (T := TX11) (N := 42) hx hb ht zr_lay tyX11 tyX11_ok nmX11 hown hK hP hD hS 0 rfl rfl 0 (by decide) (ht _ zr_39) (fun _ h9 => h9) rfl (by decide +kernel) rfl rfl (Nat.le_of_ble_eq_true rfl) dX11_winds_2 (fun H locs hP hD hS => ?_)
  have hP : va_P (dC, dI) zz_cls [zr_o ad (0 : Int32) f_taped f_at f_behind f_size f_kind f_number f_wrong f_wrongAt f_faultKind f_faultPlace f_reading f_toldWhy f_x f_standMany f_bestMany f_tail f_round1, (ad 2, .inl (dA 0, 2982, .inl b_all)), (ad 17, .inl (dA 0, 900, .inl b_reckoned)), (ad 18, .inl (dA 0, 6, .inl b_words)), (ad 40, .inl (dA 0, 4, .inl b_rowSort)), (ad 41, .inl (dA 0, 4, .inl b_rowMany)), (ad 42, .inl (dA 1, 160, .inr (.inl b_numbers)))] H := hP
  have hD : va_D A [zr_o ad (0 : Int32) f_taped f_at f_behind f_size f_kind f_number f_wrong f_wrongAt f_faultKind f_faultPlace f_reading f_toldWhy f_x f_standMany f_bestMany f_tail f_round1, (ad 2, .inl (dA 0, 2982, .inl b_all)), (ad 17, .inl (dA 0, 900, .inl b_reckoned)), (ad 18, .inl (dA 0, 6, .inl b_words)), (ad 40, .inl (dA 0, 4, .inl b_rowSort)), (ad 41, .inl (dA 0, 4, .inl b_rowMany)), (ad 42, .inl (dA 1, 160, .inr (.inl b_numbers)))] := hD
  refine lv_aload_n (pc := 5) hx hb dX11_winds_5 rfl (lv_at hl 0 rfl) ?_
  refine lv_iload_n (pc := 6) hx hb dX11_winds_6 rfl (lv_at hl 1 rfl) ?_
  obtain ⟨v1, hv1, hf⟩ := zc_1 hf
  refine zw_Vi (pc := 7) (wc := [zr_o ad (0 : Int32) f_taped f_at f_behind f_size f_kind f_number f_wrong f_wrongAt f_faultKind f_faultPlace f_reading f_toldWhy f_x f_standMany f_bestMany f_tail f_round1, (ad 40, .inl (dA 0, 4, .inl b_rowSort)), (ad 41, .inl (dA 0, 4, .inl b_rowMany)), (ad 42, .inl (dA 1, 160, .inr (.inl b_numbers)))]) (wr := [(ad 2, .inl (dA 0, 2982, .inl b_all)), (ad 17, .inl (dA 0, 900, .inl b_reckoned)), (ad 18, .inl (dA 0, 6, .inl b_words))]) (w1 := [zr_o ad (0 : Int32) f_taped f_at f_behind f_size f_kind f_number f_wrong f_wrongAt f_faultKind f_faultPlace f_reading f_toldWhy f_x f_standMany f_bestMany f_tail f_round1, (ad 40, .inl (dA 0, 4, .inl b_rowSort)), (ad 41, .inl (dA 0, 4, .inl b_rowMany)), (ad 42, .inl (dA 1, 160, .inr (.inl b_numbers)))]) (As := [.int p1]) (rest := []) ⟨hx, hb, hml, hown, ht⟩ (zt_X11_noTired l dC dI dA ad _ n (0 : Int32) f_taped f_at f_behind f_size f_kind f_number f_wrong f_wrongAt f_faultKind f_faultPlace f_reading f_toldWhy f_x f_standMany f_bestMany f_tail f_round1 b_rowSort b_rowMany b_numbers p1 v1 hv1) (cwV 1 ht (zr_V zr_429 zr_430 zr_431 zr_36 zr_425) rfl rfl rfl zk_X11_noTired ⟨Nat.le_of_ble_eq_true rfl, Nat.le_of_ble_eq_true rfl⟩) rfl rfl hK hP hD hS hA [0, 4, 5, 6] [1, 2, 3] (by decide) (by decide) (by decide) rfl rfl rfl hl.1 (Nat.le_of_ble_eq_true rfl) dX11_winds_7 ⟨Nat.zero_le _, Nat.zero_le _⟩ rfl (fun H locs hP hD hS => ?_)
  have hP : va_P (dC, dI) zz_cls [(ad 2, .inl (dA 0, 2982, .inl b_all)), (ad 17, .inl (dA 0, 900, .inl b_reckoned)), (ad 18, .inl (dA 0, 6, .inl b_words)), zr_o ad (0 : Int32) f_taped f_at f_behind f_size f_kind f_number f_wrong f_wrongAt f_faultKind f_faultPlace f_reading f_toldWhy f_x f_standMany f_bestMany f_tail f_round1, (ad 40, .inl (dA 0, 4, .inl b_rowSort)), (ad 41, .inl (dA 0, 4, .inl b_rowMany)), (ad 42, .inl (dA 1, 160, .inr (.inl b_numbers)))] H := hP
  have hD : va_D A [(ad 2, .inl (dA 0, 2982, .inl b_all)), (ad 17, .inl (dA 0, 900, .inl b_reckoned)), (ad 18, .inl (dA 0, 6, .inl b_words)), zr_o ad (0 : Int32) f_taped f_at f_behind f_size f_kind f_number f_wrong f_wrongAt f_faultKind f_faultPlace f_reading f_toldWhy f_x f_standMany f_bestMany f_tail f_round1, (ad 40, .inl (dA 0, 4, .inl b_rowSort)), (ad 41, .inl (dA 0, 4, .inl b_rowMany)), (ad 42, .inl (dA 1, 160, .inr (.inl b_numbers)))] := hD
  refine lv_istore_n (lv' := [(2, .int v1), (0, .ref (ad 0)), (1, .int p1)]) (pc := 10) hx hb dX11_winds_10 rfl hl (by decide) rfl (fun ls hl => ?_)
  refine lv_iload_n (pc := 11) hx hb dX11_winds_11 rfl (lv_at hl 0 rfl) ?_
  refine lv_if_eq (tgt := 19) (pc := 12) hx hb dX11_winds_12 rfl (fun hc => ?_) (fun hc => ?_)
  · have hf := za_t hf hc
    refine lv_aload_n (pc := 19) hx hb dX11_winds_19 rfl (lv_at hl 1 rfl) ?_
    refine lv_iload_n (pc := 20) hx hb dX11_winds_20 rfl (lv_at hl 2 rfl) ?_
    obtain ⟨v2, a3, a4, hv2, hf⟩ := zc_3 hf
    refine zw_Vi (pc := 21) (wc := [zr_o ad (0 : Int32) f_taped f_at f_behind f_size f_kind f_number f_wrong f_wrongAt f_faultKind f_faultPlace f_reading f_toldWhy f_x f_standMany f_bestMany f_tail f_round1, (ad 2, .inl (dA 0, 2982, .inl b_all)), (ad 17, .inl (dA 0, 900, .inl b_reckoned)), (ad 18, .inl (dA 0, 6, .inl b_words)), (ad 41, .inl (dA 0, 4, .inl b_rowMany)), (ad 42, .inl (dA 1, 160, .inr (.inl b_numbers)))]) (wr := [(ad 40, .inl (dA 0, 4, .inl b_rowSort))]) (w1 := [zr_o ad (0 : Int32) f_taped f_at f_behind f_size f_kind f_number f_wrong f_wrongAt f_faultKind f_faultPlace f_reading f_toldWhy f_x f_standMany f_bestMany f_tail f_round1, (ad 2, .inl (dA 0, 2982, .inl b_all)), (ad 17, .inl (dA 0, 900, .inl a3)), (ad 18, .inl (dA 0, 6, .inl a4)), (ad 41, .inl (dA 0, 4, .inl b_rowMany)), (ad 42, .inl (dA 1, 160, .inr (.inl b_numbers)))]) (As := [.int p1]) (rest := []) ⟨hx, hb, hml, hown, ht⟩ (zt_X11_windsOf l dC dI dA ad _ n (0 : Int32) f_taped f_at f_behind f_size f_kind f_number f_wrong f_wrongAt f_faultKind f_faultPlace f_reading f_toldWhy f_x f_standMany f_bestMany f_tail f_round1 b_all b_reckoned b_words b_rowMany b_numbers p1 v2 a3 a4 hv2) (cwV 1 ht (zr_V zr_432 zr_433 zr_434 zr_36 zr_428) rfl rfl rfl zk_X11_windsOf ⟨Nat.le_of_ble_eq_true rfl, Nat.le_of_ble_eq_true rfl⟩) rfl rfl hK hP hD hS hA [3, 0, 1, 2, 5, 6] [4] (by decide) (by decide) (by decide) rfl rfl rfl hl.1 (Nat.le_of_ble_eq_true rfl) dX11_winds_21 ⟨Nat.zero_le _, Nat.zero_le _⟩ rfl (fun H locs hP hD hS => ?_)
    have hP : va_P (dC, dI) zz_cls [(ad 40, .inl (dA 0, 4, .inl b_rowSort)), zr_o ad (0 : Int32) f_taped f_at f_behind f_size f_kind f_number f_wrong f_wrongAt f_faultKind f_faultPlace f_reading f_toldWhy f_x f_standMany f_bestMany f_tail f_round1, (ad 2, .inl (dA 0, 2982, .inl b_all)), (ad 17, .inl (dA 0, 900, .inl a3)), (ad 18, .inl (dA 0, 6, .inl a4)), (ad 41, .inl (dA 0, 4, .inl b_rowMany)), (ad 42, .inl (dA 1, 160, .inr (.inl b_numbers)))] H := hP
    have hD : va_D A [(ad 40, .inl (dA 0, 4, .inl b_rowSort)), zr_o ad (0 : Int32) f_taped f_at f_behind f_size f_kind f_number f_wrong f_wrongAt f_faultKind f_faultPlace f_reading f_toldWhy f_x f_standMany f_bestMany f_tail f_round1, (ad 2, .inl (dA 0, 2982, .inl b_all)), (ad 17, .inl (dA 0, 900, .inl a3)), (ad 18, .inl (dA 0, 6, .inl a4)), (ad 41, .inl (dA 0, 4, .inl b_rowMany)), (ad 42, .inl (dA 1, 160, .inr (.inl b_numbers)))] := hD
    obtain ⟨rfl, rfl, rfl, rfl⟩ := zi_4 hf
    exact W.iret (pc := 24) hx hb hr (fun t ht hW => ⟨⟨_, (), rfl, rfl, zz_Bi (by rw [ht]; exact hP.sub [1, 2, 3, 4, 0, 5, 6] rfl) (va_K.moved hW.alike hK) (hD.sub [1, 2, 3, 4, 0, 5, 6] (by decide) rfl)⟩, hS.F ht⟩) hS.2.2 dX11_winds_24
  · have hf := za_f hf hc
    refine lv_iload_n (pc := 15) hx hb dX11_winds_15 rfl (lv_at hl 0 rfl) ?_
    refine lv_goto (tgt := 24) (pc := 16) hx hb dX11_winds_16 rfl ?_
    obtain ⟨rfl, rfl, rfl, rfl⟩ := zi_4 hf
    exact W.iret (pc := 24) hx hb hr (fun t ht hW => ⟨⟨_, (), rfl, rfl, zz_Bi (by rw [ht]; exact hP.sub [3, 0, 1, 2, 4, 5, 6] rfl) (va_K.moved hW.alike hK) (hD.sub [3, 0, 1, 2, 4, 5, 6] (by decide) rfl)⟩, hS.F ht⟩) hS.2.2 dX11_winds_24

def zb_X11_mostAlike_5 (b_all : (Nat → Int32)) (n : Nat) (p1 : Int32) (p2 : Int32) (v1 : Int32) (a2 : (Nat → Int32)) (a3 : (Nat → Int32)) (a4 : (Nat → Int32)) : Option (Nat × Int32 × (Nat → Int32) × (Nat → Int32) × (Nat → Int32)) :=
  if (10 : Int32) ≤ v1 then
    some (1, v1, a2, a3, a4)
  else
    zd_1 (zf_X11_standNow b_all) (fun v5 =>
    zd_3 (zf_X11_whyBy n b_all a2 a3 v5 p1 v1) (fun v6 a7 a8 =>
    zd_3 (
      if v6 = 0 then
        zd_1 (zf_X11_standNow b_all) (fun v9 =>
        zd_3 (zf_X11_actedTo n b_all a7 a8 v9 p1 v1) (fun v10 a11 a12 =>
        some (v10, a11, a12)))
      else
        zd_1 (zf_X11_standNow b_all) (fun v13 =>
        some (v13, a7, a8))) (fun v14 a15 a16 =>
    zd_1 (zf_X11_isIn (Int32.toInt64 p2) v1) (fun v17 =>
    zd_1 (
      if v17 = 0 then
        some (-1 : Int32)
      else
        some v14) (fun v18 =>
    zd_1 (za_st a4 10 v1 v18) (fun a19 =>
    zd_1 (some (v1 + (1 : Int32))) (fun v20 =>
    some (0, v20, a15, a16, a19))))))))
def zb_X11_mostAlike_91 (a24 : (Nat → Int32)) (v27 : Int32) (v28 : Int32) (v29 : Int32) : Option (Nat × Int32 × Int32) :=
  if (10 : Int32) ≤ v29 then
    some (1, v28, v29)
  else
    zd_1 (za_ld a24 10 v27) (fun v30 =>
    zd_1 (
      if v30 = (-1 : Int32) then
        some (0 : Int32)
      else
        zd_1 (za_ld a24 10 v29) (fun v31 =>
        zd_1 (za_ld a24 10 v27) (fun v32 =>
        if v31 = v32 then
          some (1 : Int32)
        else
          some (0 : Int32)))) (fun v33 =>
    zd_1 (some ((v28 + v33))) (fun v34 =>
    zd_1 (some (v29 + (1 : Int32))) (fun v35 =>
    some (0, v34, v35)))))
def zb_X11_mostAlike_78 (a24 : (Nat → Int32)) (n : Nat) (v26 : Int32) (v27 : Int32) : Option (Nat × Int32 × Int32) :=
  if (10 : Int32) ≤ v27 then
    some (1, v26, v27)
  else
    zd_3 (za_it (fun v => zb_X11_mostAlike_91 a24 v27 v.1 v.2) n ((0 : Int32), (0 : Int32))) (fun g38 v36 v37 =>
    zd_1 (
      if v36 ≤ v26 then
        some v26
      else
        some v36) (fun v39 =>
    zd_1 (some (v27 + (1 : Int32))) (fun v40 =>
    some (0, v39, v40))))
def zf_X11_mostAlike (n : Nat) (b_all : (Nat → Int32)) (b_reckoned : (Nat → Int32)) (b_words : (Nat → Int32)) (b_standBy : (Nat → Int32)) (p1 : Int32) (p2 : Int32) : Option (Int32 × (Nat → Int32) × (Nat → Int32) × (Nat → Int32)) :=
  zd_5 (za_it (fun v => zb_X11_mostAlike_5 b_all n p1 p2 v.1 v.2.1 v.2.2.1 v.2.2.2) n ((0 : Int32), b_reckoned, b_words, b_standBy)) (fun g25 v21 a22 a23 a24 =>
  zd_3 (za_it (fun v => zb_X11_mostAlike_78 a24 n v.1 v.2) n ((0 : Int32), (0 : Int32))) (fun g43 v41 v42 =>
  some (v41, a22, a23, a24)))
theorem zk_X11_mostAlike : yX11_mostAlike.cls = RX11 ∧ yX11_mostAlike.cls ≠ "java/lang/invoke/MethodHandle" ∧ yX11_mostAlike.cls ≠ "java/lang/invoke/VarHandle" ∧ (parseMethodDescriptor yX11_mostAlike.desc).map (fun d => d.parameters.length) = some 2 := by decide +kernel
set_option maxHeartbeats 4000000 in
set_option maxRecDepth 100000 in
theorem zt_X11_mostAlike (l : Launch) (dC : Nat → ClassId) (dI : Nat → Nat → Nat) (dA : Nat → ClassId) (ad : Nat → Nat) (sz : Nat) (n : Nat) (f_thrown f_taped f_at f_behind f_size f_kind f_number f_wrong f_wrongAt f_faultKind f_faultPlace f_reading f_toldWhy f_x f_standMany f_bestMany f_tail f_round1 : Int32) (b_all : (Nat → Int32)) (b_reckoned : (Nat → Int32)) (b_words : (Nat → Int32)) (b_standBy : (Nat → Int32)) (p1 : Int32) (p2 : Int32) (r0 : Int32) (o1 : (Nat → Int32)) (o2 : (Nat → Int32)) (o3 : (Nat → Int32)) (hf : zf_X11_mostAlike n b_all b_reckoned b_words b_standBy p1 p2 = some (r0, o1, o2, o3)) : Met l yX11_mostAlike (.code yX11_mostAlike cX11_mostAlike 7 (some .int) :: zr_T) ({ frames := 4, cells := 0, slots := 0, locals := 99 }) (va_Pc [.ref (ad 0), .int p1, .int p2] (zz_M dC dI dA [zr_o ad f_thrown f_taped f_at f_behind f_size f_kind f_number f_wrong f_wrongAt f_faultKind f_faultPlace f_reading f_toldWhy f_x f_standMany f_bestMany f_tail f_round1, (ad 2, .inl (dA 0, 2982, .inl b_all)), (ad 17, .inl (dA 0, 900, .inl b_reckoned)), (ad 18, .inl (dA 0, 6, .inl b_words)), (ad 37, .inl (dA 0, 10, .inl b_standBy))] sz)) (va_Qi (fun (r : Int32) (_ : Unit) => r = r0) (fun _ t => zz_B dC dI dA (va_A [zr_o ad f_thrown f_taped f_at f_behind f_size f_kind f_number f_wrong f_wrongAt f_faultKind f_faultPlace f_reading f_toldWhy f_x f_standMany f_bestMany f_tail f_round1, (ad 2, .inl (dA 0, 2982, .inl b_all)), (ad 17, .inl (dA 0, 900, .inl b_reckoned)), (ad 18, .inl (dA 0, 6, .inl b_words)), (ad 37, .inl (dA 0, 10, .inl b_standBy))] sz) [zr_o ad f_thrown f_taped f_at f_behind f_size f_kind f_number f_wrong f_wrongAt f_faultKind f_faultPlace f_reading f_toldWhy f_x f_standMany f_bestMany f_tail f_round1, (ad 2, .inl (dA 0, 2982, .inl b_all)), (ad 17, .inl (dA 0, 900, .inl o1)), (ad 18, .inl (dA 0, 6, .inl o2)), (ad 37, .inl (dA 0, 10, .inl o3))] t) (va_A [zr_o ad f_thrown f_taped f_at f_behind f_size f_kind f_number f_wrong f_wrongAt f_faultKind f_faultPlace f_reading f_toldWhy f_x f_standMany f_bestMany f_tail f_round1, (ad 2, .inl (dA 0, 2982, .inl b_all)), (ad 17, .inl (dA 0, 900, .inl b_reckoned)), (ad 18, .inl (dA 0, 6, .inl b_words)), (ad 37, .inl (dA 0, 10, .inl b_standBy))] sz)) 0 0 (va_A [zr_o ad f_thrown f_taped f_at f_behind f_size f_kind f_number f_wrong f_wrongAt f_faultKind f_faultPlace f_reading f_toldWhy f_x f_standMany f_bestMany f_tail f_round1, (ad 2, .inl (dA 0, 2982, .inl b_all)), (ad 17, .inl (dA 0, 900, .inl b_reckoned)), (ad 18, .inl (dA 0, 6, .inl b_words)), (ad 37, .inl (dA 0, 10, .inl b_standBy))] sz) := by
  unfold zf_X11_mostAlike at hf
  refine Met.ofW (cc := cX11_mostAlike) (maxL := 7) (ret := (some .int)) (by decide) rfl ?_
  intro p e s m args below meth c s₁ B hml hv
  obtain ⟨rfl, hsz, hP, hK, hD0⟩ := hv
  have hx := B.exec
  have hb := B.bytes
  have hr := B.returns
  have ht : ∀ w ∈ zr_T, w.before ([.ref (ad 0), .int p1, .int p2] : List Value).toArray s = true := fun w hw => atoms_spec (ws := .code yX11_mostAlike cX11_mostAlike 7 (some .int) :: zr_T) B.pre w (List.mem_cons_of_mem _ hw)
  have hown : s.vm.findClass RX11 = some m.cls := findClass_of_methodNamed B.named
  have hlocks := B.notSynchronized
  subst hsz
  have hD := hD0.self (sz := s.heap.size)
  generalize hAe : va_A [zr_o ad f_thrown f_taped f_at f_behind f_size f_kind f_number f_wrong f_wrongAt f_faultKind f_faultPlace f_reading f_toldWhy f_x f_standMany f_bestMany f_tail f_round1, (ad 2, .inl (dA 0, 2982, .inl b_all)), (ad 17, .inl (dA 0, 900, .inl b_reckoned)), (ad 18, .inl (dA 0, 6, .inl b_words)), (ad 37, .inl (dA 0, 10, .inl b_standBy))] s.heap.size = A at hD ⊢
  have hA : ∀ q : Nat, s.heap.size ≤ q → A q := fun q h => by rw [← hAe]; exact Or.inr h
  clear hAe hD0
  have hS : va_S A s.heap s.heap [] := va_S.rf
  have hl := lv_entry ([.ref (ad 0), .int p1, .int p2]) (n := 7) (Nat.le_of_ble_eq_true rfl)
  rw [lg_entry_eq]
  generalize (lg_sl ([.ref (ad 0), .int p1, .int p2]) ++ List.replicate (7 - (lg_sl ([.ref (ad 0), .int p1, .int p2])).length) Slot.unset).toArray = ls at hl ⊢
  have hl : lv_has ls 7 [(0, .ref (ad 0)), (1, .int p1), (2, .int p2)] := hl
  refine lv_iconst (v := (0 : Int32)) (pc := 0) hx hb dX11_mostAlike_0 (by decide) ?_
  refine lv_istore_n (lv' := [(3, .int (0 : Int32)), (0, .ref (ad 0)), (1, .int p1), (2, .int p2)]) (pc := 1) hx hb dX11_mostAlike_1 rfl hl (by decide) rfl (fun ls hl => ?_)
  refine lv_iconst (v := (0 : Int32)) (pc := 2) hx hb dX11_mostAlike_2 (by decide) ?_
  refine lv_istore (lv' := [(4, .int (0 : Int32)), (3, .int (0 : Int32)), (0, .ref (ad 0)), (1, .int p1), (2, .int p2)]) (pc := 3) hx hb dX11_mostAlike_3 hl (by decide) rfl (fun ls hl => ?_)
  obtain ⟨g25, v21, a22, a23, a24, hj, hf⟩ := zc_5 hf
  refine zj_join (pcJ := 75) (stk := []) (X := fun H locs ls => lv_has ls 7 [(0, .ref (ad 0)), (3, .int (0 : Int32))] ∧ va_P (dC, dI) zz_cls [zr_o ad f_thrown f_taped f_at f_behind f_size f_kind f_number f_wrong f_wrongAt f_faultKind f_faultPlace f_reading f_toldWhy f_x f_standMany f_bestMany f_tail f_round1, (ad 2, .inl (dA 0, 2982, .inl b_all)), (ad 17, .inl (dA 0, 900, .inl a22)), (ad 18, .inl (dA 0, 6, .inl a23)), (ad 37, .inl (dA 0, 10, .inl a24))] H ∧ va_D A [zr_o ad f_thrown f_taped f_at f_behind f_size f_kind f_number f_wrong f_wrongAt f_faultKind f_faultPlace f_reading f_toldWhy f_x f_standMany f_bestMany f_tail f_round1, (ad 2, .inl (dA 0, 2982, .inl b_all)), (ad 17, .inl (dA 0, 900, .inl a22)), (ad 18, .inl (dA 0, 6, .inl a23)), (ad 37, .inl (dA 0, 10, .inl a24))] ∧ va_S A s.heap H locs) (fun H locs ls hX => ?_) (fun E75 => ?_)
  · obtain ⟨hl, hP, hD, hS⟩ := hX
    clear hj
    refine lv_iconst (v := (0 : Int32)) (pc := 75) hx hb dX11_mostAlike_75 (by decide) ?_
    refine lv_istore (lv' := [(4, .int (0 : Int32)), (0, .ref (ad 0)), (3, .int (0 : Int32))]) (pc := 76) hx hb dX11_mostAlike_76 hl (by decide) rfl (fun ls hl => ?_)
    obtain ⟨g43, v41, v42, hj, hf⟩ := zc_3 hf
    refine zj_join (pcJ := 161) (stk := []) (X := fun H locs ls => lv_has ls 7 [(3, .int v41)] ∧ va_P (dC, dI) zz_cls [zr_o ad f_thrown f_taped f_at f_behind f_size f_kind f_number f_wrong f_wrongAt f_faultKind f_faultPlace f_reading f_toldWhy f_x f_standMany f_bestMany f_tail f_round1, (ad 2, .inl (dA 0, 2982, .inl b_all)), (ad 17, .inl (dA 0, 900, .inl a22)), (ad 18, .inl (dA 0, 6, .inl a23)), (ad 37, .inl (dA 0, 10, .inl a24))] H ∧ va_D A [zr_o ad f_thrown f_taped f_at f_behind f_size f_kind f_number f_wrong f_wrongAt f_faultKind f_faultPlace f_reading f_toldWhy f_x f_standMany f_bestMany f_tail f_round1, (ad 2, .inl (dA 0, 2982, .inl b_all)), (ad 17, .inl (dA 0, 900, .inl a22)), (ad 18, .inl (dA 0, 6, .inl a23)), (ad 37, .inl (dA 0, 10, .inl a24))] ∧ va_S A s.heap H locs) (fun H locs ls hX => ?_) (fun E161 => ?_)
    · obtain ⟨hl, hP, hD, hS⟩ := hX
      clear hj
      refine lv_iload_n (pc := 161) hx hb dX11_mostAlike_161 rfl (lv_at hl 0 rfl) ?_
      obtain ⟨rfl, rfl, rfl, rfl⟩ := zi_4 hf
      exact W.iret (pc := 162) hx hb hr (fun t ht hW => ⟨⟨_, (), rfl, rfl, zz_Bi (by rw [ht]; exact hP) (va_K.moved hW.alike hK) (hD)⟩, hS.F ht⟩) hS.2.2 dX11_mostAlike_162
    clear hf
    refine zw_loop (pcH := 78) (X := fun v H locs ls => lv_has ls 7 [(0, .ref (ad 0)), (3, .int v.1), (4, .int v.2)] ∧ va_P (dC, dI) zz_cls [zr_o ad f_thrown f_taped f_at f_behind f_size f_kind f_number f_wrong f_wrongAt f_faultKind f_faultPlace f_reading f_toldWhy f_x f_standMany f_bestMany f_tail f_round1, (ad 2, .inl (dA 0, 2982, .inl b_all)), (ad 17, .inl (dA 0, 900, .inl a22)), (ad 18, .inl (dA 0, 6, .inl a23)), (ad 37, .inl (dA 0, 10, .inl a24))] H ∧ va_D A [zr_o ad f_thrown f_taped f_at f_behind f_size f_kind f_number f_wrong f_wrongAt f_faultKind f_faultPlace f_reading f_toldWhy f_x f_standMany f_bestMany f_tail f_round1, (ad 2, .inl (dA 0, 2982, .inl b_all)), (ad 17, .inl (dA 0, 900, .inl a22)), (ad 18, .inl (dA 0, 6, .inl a23)), (ad 37, .inl (dA 0, 10, .inl a24))] ∧ va_S A s.heap H locs) hj (fun v w hf ih ex H locs ls hX => ?_) _ _ _ ⟨lv_sub hl [1, 2, 0] rfl, hP, hD, hS⟩
    clear hj
    obtain ⟨v26, v27⟩ := v
    obtain ⟨hl, hP, hD, hS⟩ := hX
    have hl : lv_has ls 7 [(0, .ref (ad 0)), (3, .int v26), (4, .int v27)] := hl
    have hP : va_P (dC, dI) zz_cls [zr_o ad f_thrown f_taped f_at f_behind f_size f_kind f_number f_wrong f_wrongAt f_faultKind f_faultPlace f_reading f_toldWhy f_x f_standMany f_bestMany f_tail f_round1, (ad 2, .inl (dA 0, 2982, .inl b_all)), (ad 17, .inl (dA 0, 900, .inl a22)), (ad 18, .inl (dA 0, 6, .inl a23)), (ad 37, .inl (dA 0, 10, .inl a24))] H := hP
    have hD : va_D A [zr_o ad f_thrown f_taped f_at f_behind f_size f_kind f_number f_wrong f_wrongAt f_faultKind f_faultPlace f_reading f_toldWhy f_x f_standMany f_bestMany f_tail f_round1, (ad 2, .inl (dA 0, 2982, .inl b_all)), (ad 17, .inl (dA 0, 900, .inl a22)), (ad 18, .inl (dA 0, 6, .inl a23)), (ad 37, .inl (dA 0, 10, .inl a24))] := hD
    replace hf : zb_X11_mostAlike_78 a24 n v26 v27 = some w := hf
    unfold zb_X11_mostAlike_78 at hf
    refine lv_iload (pc := 78) hx hb dX11_mostAlike_78 (lv_at hl 2 rfl) ?_
    refine lv_bipush (v := (10 : Int32)) (pc := 80) hx hb dX11_mostAlike_80 (by decide) ?_
    refine lv_icmp_ge (tgt := 161) (pc := 82) hx hb dX11_mostAlike_82 rfl (fun hc => ?_) (fun hc => ?_)
    · have hf := za_t hf hc
      obtain rfl := Option.some.inj hf
      obtain ⟨rfl, rfl, rfl⟩ := zp_3 (ex (show ¬ (1 : Nat) = 0 by decide))
      exact E161 _ _ _ ⟨lv_sub hl [1] rfl, hP, hD, hS⟩
    · have hf := za_f hf hc
      refine lv_iconst (v := (0 : Int32)) (pc := 85) hx hb dX11_mostAlike_85 (by decide) ?_
      refine lv_istore (lv' := [(5, .int (0 : Int32)), (0, .ref (ad 0)), (3, .int v26), (4, .int v27)]) (pc := 86) hx hb dX11_mostAlike_86 hl (by decide) rfl (fun ls hl => ?_)
      refine lv_iconst (v := (0 : Int32)) (pc := 88) hx hb dX11_mostAlike_88 (by decide) ?_
      refine lv_istore (lv' := [(6, .int (0 : Int32)), (5, .int (0 : Int32)), (0, .ref (ad 0)), (3, .int v26), (4, .int v27)]) (pc := 89) hx hb dX11_mostAlike_89 hl (by decide) rfl (fun ls hl => ?_)
      obtain ⟨g38, v36, v37, hj, hf⟩ := zc_3 hf
      refine zj_join (pcJ := 142) (stk := []) (X := fun H locs ls => lv_has ls 7 [(0, .ref (ad 0)), (3, .int v26), (4, .int v27), (5, .int v36)] ∧ va_P (dC, dI) zz_cls [zr_o ad f_thrown f_taped f_at f_behind f_size f_kind f_number f_wrong f_wrongAt f_faultKind f_faultPlace f_reading f_toldWhy f_x f_standMany f_bestMany f_tail f_round1, (ad 2, .inl (dA 0, 2982, .inl b_all)), (ad 17, .inl (dA 0, 900, .inl a22)), (ad 18, .inl (dA 0, 6, .inl a23)), (ad 37, .inl (dA 0, 10, .inl a24))] H ∧ va_D A [zr_o ad f_thrown f_taped f_at f_behind f_size f_kind f_number f_wrong f_wrongAt f_faultKind f_faultPlace f_reading f_toldWhy f_x f_standMany f_bestMany f_tail f_round1, (ad 2, .inl (dA 0, 2982, .inl b_all)), (ad 17, .inl (dA 0, 900, .inl a22)), (ad 18, .inl (dA 0, 6, .inl a23)), (ad 37, .inl (dA 0, 10, .inl a24))] ∧ va_S A s.heap H locs) (fun H locs ls hX => ?_) (fun E142 => ?_)
      · obtain ⟨hl, hP, hD, hS⟩ := hX
        clear hj
        refine lv_iload (pc := 142) hx hb dX11_mostAlike_142 (lv_at hl 3 rfl) ?_
        refine lv_iload_n (pc := 144) hx hb dX11_mostAlike_144 rfl (lv_at hl 1 rfl) ?_
        obtain ⟨v39, hj, hf⟩ := zc_1 hf
        refine zj_join (pcJ := 154) (stk := [.int v39]) (X := fun H locs ls => lv_has ls 7 [(0, .ref (ad 0)), (4, .int v27)] ∧ va_P (dC, dI) zz_cls [zr_o ad f_thrown f_taped f_at f_behind f_size f_kind f_number f_wrong f_wrongAt f_faultKind f_faultPlace f_reading f_toldWhy f_x f_standMany f_bestMany f_tail f_round1, (ad 2, .inl (dA 0, 2982, .inl b_all)), (ad 17, .inl (dA 0, 900, .inl a22)), (ad 18, .inl (dA 0, 6, .inl a23)), (ad 37, .inl (dA 0, 10, .inl a24))] H ∧ va_D A [zr_o ad f_thrown f_taped f_at f_behind f_size f_kind f_number f_wrong f_wrongAt f_faultKind f_faultPlace f_reading f_toldWhy f_x f_standMany f_bestMany f_tail f_round1, (ad 2, .inl (dA 0, 2982, .inl b_all)), (ad 17, .inl (dA 0, 900, .inl a22)), (ad 18, .inl (dA 0, 6, .inl a23)), (ad 37, .inl (dA 0, 10, .inl a24))] ∧ va_S A s.heap H locs) (fun H locs ls hX => ?_) (fun J154 => ?_)
        · obtain ⟨hl, hP, hD, hS⟩ := hX
          clear hj
          refine lv_istore_n (lv' := [(3, .int v39), (0, .ref (ad 0)), (4, .int v27)]) (pc := 154) hx hb dX11_mostAlike_154 rfl hl (by decide) rfl (fun ls hl => ?_)
          obtain ⟨v40, hv40, hf⟩ := zc_1 hf
          refine lv_iinc (v := v40) (lv' := [(4, .int v40), (3, .int v39), (0, .ref (ad 0))]) (k := 2) (pc := 155) hx hb dX11_mostAlike_155 hl rfl (Option.some.inj hv40) (by decide) rfl (fun ls hl => ?_)
          refine lv_goto (tgt := 78) (pc := 158) hx hb dX11_mostAlike_158 rfl ?_
          obtain rfl := Option.some.inj hf
          exact ih rfl _ _ _ ⟨lv_sub hl [2, 1, 0] rfl, hP, hD, hS⟩
        · clear hf
          have hf := hj
          clear hj
          refine lv_icmp_le (tgt := 153) (pc := 145) hx hb dX11_mostAlike_145 rfl (fun hc => ?_) (fun hc => ?_)
          · have hf := za_t hf hc
            refine lv_iload_n (pc := 153) hx hb dX11_mostAlike_153 rfl (lv_at hl 1 rfl) ?_
            obtain rfl := Option.some.inj hf
            exact J154 _ _ _ ⟨lv_sub hl [0, 2] rfl, hP, hD, hS⟩
          · have hf := za_f hf hc
            refine lv_iload (pc := 148) hx hb dX11_mostAlike_148 (lv_at hl 3 rfl) ?_
            refine lv_goto (tgt := 154) (pc := 150) hx hb dX11_mostAlike_150 rfl ?_
            obtain rfl := Option.some.inj hf
            exact J154 _ _ _ ⟨lv_sub hl [0, 2] rfl, hP, hD, hS⟩
      clear hf
      refine zw_loop (pcH := 91) (X := fun v H locs ls => lv_has ls 7 [(0, .ref (ad 0)), (3, .int v26), (4, .int v27), (5, .int v.1), (6, .int v.2)] ∧ va_P (dC, dI) zz_cls [zr_o ad f_thrown f_taped f_at f_behind f_size f_kind f_number f_wrong f_wrongAt f_faultKind f_faultPlace f_reading f_toldWhy f_x f_standMany f_bestMany f_tail f_round1, (ad 2, .inl (dA 0, 2982, .inl b_all)), (ad 17, .inl (dA 0, 900, .inl a22)), (ad 18, .inl (dA 0, 6, .inl a23)), (ad 37, .inl (dA 0, 10, .inl a24))] H ∧ va_D A [zr_o ad f_thrown f_taped f_at f_behind f_size f_kind f_number f_wrong f_wrongAt f_faultKind f_faultPlace f_reading f_toldWhy f_x f_standMany f_bestMany f_tail f_round1, (ad 2, .inl (dA 0, 2982, .inl b_all)), (ad 17, .inl (dA 0, 900, .inl a22)), (ad 18, .inl (dA 0, 6, .inl a23)), (ad 37, .inl (dA 0, 10, .inl a24))] ∧ va_S A s.heap H locs) hj (fun v w hf ih ex H locs ls hX => ?_) _ _ _ ⟨lv_sub hl [2, 3, 4, 1, 0] rfl, hP, hD, hS⟩
      clear hj
      obtain ⟨v28, v29⟩ := v
      obtain ⟨hl, hP, hD, hS⟩ := hX
      have hl : lv_has ls 7 [(0, .ref (ad 0)), (3, .int v26), (4, .int v27), (5, .int v28), (6, .int v29)] := hl
      have hP : va_P (dC, dI) zz_cls [zr_o ad f_thrown f_taped f_at f_behind f_size f_kind f_number f_wrong f_wrongAt f_faultKind f_faultPlace f_reading f_toldWhy f_x f_standMany f_bestMany f_tail f_round1, (ad 2, .inl (dA 0, 2982, .inl b_all)), (ad 17, .inl (dA 0, 900, .inl a22)), (ad 18, .inl (dA 0, 6, .inl a23)), (ad 37, .inl (dA 0, 10, .inl a24))] H := hP
      have hD : va_D A [zr_o ad f_thrown f_taped f_at f_behind f_size f_kind f_number f_wrong f_wrongAt f_faultKind f_faultPlace f_reading f_toldWhy f_x f_standMany f_bestMany f_tail f_round1, (ad 2, .inl (dA 0, 2982, .inl b_all)), (ad 17, .inl (dA 0, 900, .inl a22)), (ad 18, .inl (dA 0, 6, .inl a23)), (ad 37, .inl (dA 0, 10, .inl a24))] := hD
      replace hf : zb_X11_mostAlike_91 a24 v27 v28 v29 = some w := hf
      unfold zb_X11_mostAlike_91 at hf
      refine lv_iload (pc := 91) hx hb dX11_mostAlike_91 (lv_at hl 4 rfl) ?_
      refine lv_bipush (v := (10 : Int32)) (pc := 93) hx hb dX11_mostAlike_93 (by decide) ?_
      refine lv_icmp_ge (tgt := 142) (pc := 95) hx hb dX11_mostAlike_95 rfl (fun hc => ?_) (fun hc => ?_)
      · have hf := za_t hf hc
        obtain rfl := Option.some.inj hf
        obtain ⟨rfl, rfl, rfl⟩ := zp_3 (ex (show ¬ (1 : Nat) = 0 by decide))
        exact E142 _ _ _ ⟨lv_sub hl [0, 1, 2, 3] rfl, hP, hD, hS⟩
      · have hf := za_f hf hc
        refine lv_iload (pc := 98) hx hb dX11_mostAlike_98 (lv_at hl 3 rfl) ?_
        refine lv_aload_n (pc := 100) hx hb dX11_mostAlike_100 rfl (lv_at hl 0 rfl) ?_
        refine va_get (pc := 101) (D := (dC, dI)) (ci := 0) (v := .ref (ad 37)) (C := RX11) (T := TX11) (N := 42) hx hb ht zr_lay hown hK hP 0 rfl rfl 36 (by decide) (ht _ zr_28) (fun _ h9 => h9) rfl dX11_mostAlike_101 ?_
        refine lv_iload (pc := 104) hx hb dX11_mostAlike_104 (lv_at hl 2 rfl) ?_
        obtain ⟨v30, hv30, hf⟩ := zc_1 hf
        refine zw_iald (pc := 106) hx hb hK hP 4 0 rfl rfl hv30 dX11_mostAlike_106 ?_
        refine lv_iconst (v := (-1 : Int32)) (pc := 107) hx hb dX11_mostAlike_107 (by decide) ?_
        obtain ⟨v33, hj, hf⟩ := zc_1 hf
        refine zj_join (pcJ := 133) (stk := [.int v33, .int v28]) (X := fun H locs ls => lv_has ls 7 [(0, .ref (ad 0)), (3, .int v26), (4, .int v27), (6, .int v29)] ∧ va_P (dC, dI) zz_cls [zr_o ad f_thrown f_taped f_at f_behind f_size f_kind f_number f_wrong f_wrongAt f_faultKind f_faultPlace f_reading f_toldWhy f_x f_standMany f_bestMany f_tail f_round1, (ad 2, .inl (dA 0, 2982, .inl b_all)), (ad 17, .inl (dA 0, 900, .inl a22)), (ad 18, .inl (dA 0, 6, .inl a23)), (ad 37, .inl (dA 0, 10, .inl a24))] H ∧ va_D A [zr_o ad f_thrown f_taped f_at f_behind f_size f_kind f_number f_wrong f_wrongAt f_faultKind f_faultPlace f_reading f_toldWhy f_x f_standMany f_bestMany f_tail f_round1, (ad 2, .inl (dA 0, 2982, .inl b_all)), (ad 17, .inl (dA 0, 900, .inl a22)), (ad 18, .inl (dA 0, 6, .inl a23)), (ad 37, .inl (dA 0, 10, .inl a24))] ∧ va_S A s.heap H locs) (fun H locs ls hX => ?_) (fun J133 => ?_)
        · obtain ⟨hl, hP, hD, hS⟩ := hX
          clear hj
          refine lv_iadd (pc := 133) hx hb dX11_mostAlike_133 ?_
          obtain ⟨v34, hv34, hf⟩ := zc_1 hf
          refine zw_top (hv34) ?_
          refine lv_istore (lv' := [(5, .int v34), (0, .ref (ad 0)), (3, .int v26), (4, .int v27), (6, .int v29)]) (pc := 134) hx hb dX11_mostAlike_134 hl (by decide) rfl (fun ls hl => ?_)
          obtain ⟨v35, hv35, hf⟩ := zc_1 hf
          refine lv_iinc (v := v35) (lv' := [(6, .int v35), (5, .int v34), (0, .ref (ad 0)), (3, .int v26), (4, .int v27)]) (k := 4) (pc := 136) hx hb dX11_mostAlike_136 hl rfl (Option.some.inj hv35) (by decide) rfl (fun ls hl => ?_)
          refine lv_goto (tgt := 91) (pc := 139) hx hb dX11_mostAlike_139 rfl ?_
          obtain rfl := Option.some.inj hf
          exact ih rfl _ _ _ ⟨lv_sub hl [2, 3, 4, 1, 0] rfl, hP, hD, hS⟩
        · clear hf
          have hf := hj
          clear hj
          refine lv_icmp_eq (tgt := 132) (pc := 108) hx hb dX11_mostAlike_108 rfl (fun hc => ?_) (fun hc => ?_)
          · have hf := za_t hf hc
            refine lv_iconst (v := (0 : Int32)) (pc := 132) hx hb dX11_mostAlike_132 (by decide) ?_
            obtain rfl := Option.some.inj hf
            exact J133 _ _ _ ⟨lv_sub hl [0, 1, 2, 4] rfl, hP, hD, hS⟩
          · have hf := za_f hf hc
            refine lv_aload_n (pc := 111) hx hb dX11_mostAlike_111 rfl (lv_at hl 0 rfl) ?_
            refine va_get (pc := 112) (D := (dC, dI)) (ci := 0) (v := .ref (ad 37)) (C := RX11) (T := TX11) (N := 42) hx hb ht zr_lay hown hK hP 0 rfl rfl 36 (by decide) (ht _ zr_28) (fun _ h9 => h9) rfl dX11_mostAlike_112 ?_
            refine lv_iload (pc := 115) hx hb dX11_mostAlike_115 (lv_at hl 4 rfl) ?_
            obtain ⟨v31, hv31, hf⟩ := zc_1 hf
            refine zw_iald (pc := 117) hx hb hK hP 4 0 rfl rfl hv31 dX11_mostAlike_117 ?_
            refine lv_aload_n (pc := 118) hx hb dX11_mostAlike_118 rfl (lv_at hl 0 rfl) ?_
            refine va_get (pc := 119) (D := (dC, dI)) (ci := 0) (v := .ref (ad 37)) (C := RX11) (T := TX11) (N := 42) hx hb ht zr_lay hown hK hP 0 rfl rfl 36 (by decide) (ht _ zr_28) (fun _ h9 => h9) rfl dX11_mostAlike_119 ?_
            refine lv_iload (pc := 122) hx hb dX11_mostAlike_122 (lv_at hl 2 rfl) ?_
            obtain ⟨v32, hv32, hf⟩ := zc_1 hf
            refine zw_iald (pc := 124) hx hb hK hP 4 0 rfl rfl hv32 dX11_mostAlike_124 ?_
            refine lv_icmp_ne (tgt := 132) (pc := 125) hx hb dX11_mostAlike_125 rfl (fun hc => ?_) (fun hc => ?_)
            · have hf := za_f hf hc
              refine lv_iconst (v := (0 : Int32)) (pc := 132) hx hb dX11_mostAlike_132 (by decide) ?_
              obtain rfl := Option.some.inj hf
              exact J133 _ _ _ ⟨lv_sub hl [0, 1, 2, 4] rfl, hP, hD, hS⟩
            · have hf := za_t hf hc
              refine lv_iconst (v := (1 : Int32)) (pc := 128) hx hb dX11_mostAlike_128 (by decide) ?_
              refine lv_goto (tgt := 133) (pc := 129) hx hb dX11_mostAlike_129 rfl ?_
              obtain rfl := Option.some.inj hf
              exact J133 _ _ _ ⟨lv_sub hl [0, 1, 2, 4] rfl, hP, hD, hS⟩
  clear hf
  refine zw_loop (pcH := 5) (X := fun v H locs ls => lv_has ls 7 [(0, .ref (ad 0)), (1, .int p1), (2, .int p2), (3, .int (0 : Int32)), (4, .int v.1)] ∧ va_P (dC, dI) zz_cls [zr_o ad f_thrown f_taped f_at f_behind f_size f_kind f_number f_wrong f_wrongAt f_faultKind f_faultPlace f_reading f_toldWhy f_x f_standMany f_bestMany f_tail f_round1, (ad 2, .inl (dA 0, 2982, .inl b_all)), (ad 17, .inl (dA 0, 900, .inl v.2.1)), (ad 18, .inl (dA 0, 6, .inl v.2.2.1)), (ad 37, .inl (dA 0, 10, .inl v.2.2.2))] H ∧ va_D A [zr_o ad f_thrown f_taped f_at f_behind f_size f_kind f_number f_wrong f_wrongAt f_faultKind f_faultPlace f_reading f_toldWhy f_x f_standMany f_bestMany f_tail f_round1, (ad 2, .inl (dA 0, 2982, .inl b_all)), (ad 17, .inl (dA 0, 900, .inl v.2.1)), (ad 18, .inl (dA 0, 6, .inl v.2.2.1)), (ad 37, .inl (dA 0, 10, .inl v.2.2.2))] ∧ va_S A s.heap H locs) hj (fun v w hf ih ex H locs ls hX => ?_) _ _ _ ⟨lv_sub hl [2, 3, 4, 1, 0] rfl, hP, hD, hS⟩
  clear hj
  obtain ⟨v1, a2, a3, a4⟩ := v
  obtain ⟨hl, hP, hD, hS⟩ := hX
  have hl : lv_has ls 7 [(0, .ref (ad 0)), (1, .int p1), (2, .int p2), (3, .int (0 : Int32)), (4, .int v1)] := hl
  have hP : va_P (dC, dI) zz_cls [zr_o ad f_thrown f_taped f_at f_behind f_size f_kind f_number f_wrong f_wrongAt f_faultKind f_faultPlace f_reading f_toldWhy f_x f_standMany f_bestMany f_tail f_round1, (ad 2, .inl (dA 0, 2982, .inl b_all)), (ad 17, .inl (dA 0, 900, .inl a2)), (ad 18, .inl (dA 0, 6, .inl a3)), (ad 37, .inl (dA 0, 10, .inl a4))] H := hP
  have hD : va_D A [zr_o ad f_thrown f_taped f_at f_behind f_size f_kind f_number f_wrong f_wrongAt f_faultKind f_faultPlace f_reading f_toldWhy f_x f_standMany f_bestMany f_tail f_round1, (ad 2, .inl (dA 0, 2982, .inl b_all)), (ad 17, .inl (dA 0, 900, .inl a2)), (ad 18, .inl (dA 0, 6, .inl a3)), (ad 37, .inl (dA 0, 10, .inl a4))] := hD
  replace hf : zb_X11_mostAlike_5 b_all n p1 p2 v1 a2 a3 a4 = some w := hf
  unfold zb_X11_mostAlike_5 at hf
  refine lv_iload (pc := 5) hx hb dX11_mostAlike_5 (lv_at hl 4 rfl) ?_
  refine lv_bipush (v := (10 : Int32)) (pc := 7) hx hb dX11_mostAlike_7 (by decide) ?_
  refine lv_icmp_ge (tgt := 75) (pc := 9) hx hb dX11_mostAlike_9 rfl (fun hc => ?_) (fun hc => ?_)
  · have hf := za_t hf hc
    obtain rfl := Option.some.inj hf
    obtain ⟨rfl, rfl, rfl, rfl, rfl⟩ := zp_5 (ex (show ¬ (1 : Nat) = 0 by decide))
    exact E75 _ _ _ ⟨lv_sub hl [0, 3] rfl, hP, hD, hS⟩
  · have hf := za_f hf hc
    refine lv_aload_n (pc := 12) hx hb dX11_mostAlike_12 rfl (lv_at hl 0 rfl) ?_
    refine lv_aload_n (pc := 13) hx hb dX11_mostAlike_13 rfl (lv_at hl 0 rfl) ?_
    obtain ⟨v5, hv5, hf⟩ := zc_1 hf
    refine zw_Vi (pc := 14) (wc := [zr_o ad f_thrown f_taped f_at f_behind f_size f_kind f_number f_wrong f_wrongAt f_faultKind f_faultPlace f_reading f_toldWhy f_x f_standMany f_bestMany f_tail f_round1, (ad 2, .inl (dA 0, 2982, .inl b_all))]) (wr := [(ad 17, .inl (dA 0, 900, .inl a2)), (ad 18, .inl (dA 0, 6, .inl a3)), (ad 37, .inl (dA 0, 10, .inl a4))]) (w1 := [zr_o ad f_thrown f_taped f_at f_behind f_size f_kind f_number f_wrong f_wrongAt f_faultKind f_faultPlace f_reading f_toldWhy f_x f_standMany f_bestMany f_tail f_round1, (ad 2, .inl (dA 0, 2982, .inl b_all))]) (As := []) (rest := [.ref (ad 0)]) ⟨hx, hb, hml, hown, ht⟩ (zt_X11_standNow l dC dI dA ad _ f_thrown f_taped f_at f_behind f_size f_kind f_number f_wrong f_wrongAt f_faultKind f_faultPlace f_reading f_toldWhy f_x f_standMany f_bestMany f_tail f_round1 b_all v5 hv5) (cwV 0 ht (zr_V zr_261 zr_262 zr_263 zr_36 zr_213) rfl rfl rfl zk_X11_standNow ⟨Nat.le_of_ble_eq_true rfl, Nat.le_of_ble_eq_true rfl⟩) rfl rfl hK hP hD hS hA [0, 1] [2, 3, 4] (by decide) (by decide) (by decide) rfl rfl rfl hl.1 (Nat.le_of_ble_eq_true rfl) dX11_mostAlike_14 ⟨Nat.zero_le _, Nat.zero_le _⟩ rfl (fun H locs hP hD hS => ?_)
    have hP : va_P (dC, dI) zz_cls [(ad 17, .inl (dA 0, 900, .inl a2)), (ad 18, .inl (dA 0, 6, .inl a3)), (ad 37, .inl (dA 0, 10, .inl a4)), zr_o ad f_thrown f_taped f_at f_behind f_size f_kind f_number f_wrong f_wrongAt f_faultKind f_faultPlace f_reading f_toldWhy f_x f_standMany f_bestMany f_tail f_round1, (ad 2, .inl (dA 0, 2982, .inl b_all))] H := hP
    have hD : va_D A [(ad 17, .inl (dA 0, 900, .inl a2)), (ad 18, .inl (dA 0, 6, .inl a3)), (ad 37, .inl (dA 0, 10, .inl a4)), zr_o ad f_thrown f_taped f_at f_behind f_size f_kind f_number f_wrong f_wrongAt f_faultKind f_faultPlace f_reading f_toldWhy f_x f_standMany f_bestMany f_tail f_round1, (ad 2, .inl (dA 0, 2982, .inl b_all))] := hD
    refine lv_iload_n (pc := 17) hx hb dX11_mostAlike_17 rfl (lv_at hl 1 rfl) ?_
    refine lv_iload (pc := 18) hx hb dX11_mostAlike_18 (lv_at hl 4 rfl) ?_
    obtain ⟨v6, a7, a8, hv6, hf⟩ := zc_3 hf
    refine zw_Vi (pc := 20) (wc := [zr_o ad f_thrown f_taped f_at f_behind f_size f_kind f_number f_wrong f_wrongAt f_faultKind f_faultPlace f_reading f_toldWhy f_x f_standMany f_bestMany f_tail f_round1, (ad 2, .inl (dA 0, 2982, .inl b_all)), (ad 17, .inl (dA 0, 900, .inl a2)), (ad 18, .inl (dA 0, 6, .inl a3))]) (wr := [(ad 37, .inl (dA 0, 10, .inl a4))]) (w1 := [zr_o ad f_thrown f_taped f_at f_behind f_size f_kind f_number f_wrong f_wrongAt f_faultKind f_faultPlace f_reading f_toldWhy f_x f_standMany f_bestMany f_tail f_round1, (ad 2, .inl (dA 0, 2982, .inl b_all)), (ad 17, .inl (dA 0, 900, .inl a7)), (ad 18, .inl (dA 0, 6, .inl a8))]) (As := [.int v5, .int p1, .int v1]) (rest := []) ⟨hx, hb, hml, hown, ht⟩ (zt_X11_whyBy l dC dI dA ad _ n f_thrown f_taped f_at f_behind f_size f_kind f_number f_wrong f_wrongAt f_faultKind f_faultPlace f_reading f_toldWhy f_x f_standMany f_bestMany f_tail f_round1 b_all a2 a3 v5 p1 v1 v6 a7 a8 hv6) (cwV 3 ht (zr_V zr_264 zr_265 zr_266 zr_36 zr_248) rfl rfl rfl zk_X11_whyBy ⟨Nat.le_of_ble_eq_true rfl, Nat.le_of_ble_eq_true rfl⟩) rfl rfl hK hP hD hS hA [3, 4, 0, 1] [2] (by decide) (by decide) (by decide) rfl rfl rfl hl.1 (Nat.le_of_ble_eq_true rfl) dX11_mostAlike_20 ⟨Nat.zero_le _, Nat.zero_le _⟩ rfl (fun H locs hP hD hS => ?_)
    have hP : va_P (dC, dI) zz_cls [(ad 37, .inl (dA 0, 10, .inl a4)), zr_o ad f_thrown f_taped f_at f_behind f_size f_kind f_number f_wrong f_wrongAt f_faultKind f_faultPlace f_reading f_toldWhy f_x f_standMany f_bestMany f_tail f_round1, (ad 2, .inl (dA 0, 2982, .inl b_all)), (ad 17, .inl (dA 0, 900, .inl a7)), (ad 18, .inl (dA 0, 6, .inl a8))] H := hP
    have hD : va_D A [(ad 37, .inl (dA 0, 10, .inl a4)), zr_o ad f_thrown f_taped f_at f_behind f_size f_kind f_number f_wrong f_wrongAt f_faultKind f_faultPlace f_reading f_toldWhy f_x f_standMany f_bestMany f_tail f_round1, (ad 2, .inl (dA 0, 2982, .inl b_all)), (ad 17, .inl (dA 0, 900, .inl a7)), (ad 18, .inl (dA 0, 6, .inl a8))] := hD
    obtain ⟨v14, a15, a16, hj, hf⟩ := zc_3 hf
    refine zj_join (pcJ := 44) (stk := [.int v14]) (X := fun H locs ls => lv_has ls 7 [(0, .ref (ad 0)), (1, .int p1), (2, .int p2), (3, .int (0 : Int32)), (4, .int v1)] ∧ va_P (dC, dI) zz_cls [zr_o ad f_thrown f_taped f_at f_behind f_size f_kind f_number f_wrong f_wrongAt f_faultKind f_faultPlace f_reading f_toldWhy f_x f_standMany f_bestMany f_tail f_round1, (ad 2, .inl (dA 0, 2982, .inl b_all)), (ad 17, .inl (dA 0, 900, .inl a15)), (ad 18, .inl (dA 0, 6, .inl a16)), (ad 37, .inl (dA 0, 10, .inl a4))] H ∧ va_D A [zr_o ad f_thrown f_taped f_at f_behind f_size f_kind f_number f_wrong f_wrongAt f_faultKind f_faultPlace f_reading f_toldWhy f_x f_standMany f_bestMany f_tail f_round1, (ad 2, .inl (dA 0, 2982, .inl b_all)), (ad 17, .inl (dA 0, 900, .inl a15)), (ad 18, .inl (dA 0, 6, .inl a16)), (ad 37, .inl (dA 0, 10, .inl a4))] ∧ va_S A s.heap H locs) (fun H locs ls hX => ?_) (fun J44 => ?_)
    · obtain ⟨hl, hP, hD, hS⟩ := hX
      clear hj
      refine lv_istore (lv' := [(5, .int v14), (0, .ref (ad 0)), (1, .int p1), (2, .int p2), (3, .int (0 : Int32)), (4, .int v1)]) (pc := 44) hx hb dX11_mostAlike_44 hl (by decide) rfl (fun ls hl => ?_)
      refine lv_aload_n (pc := 46) hx hb dX11_mostAlike_46 rfl (lv_at hl 1 rfl) ?_
      refine va_get (pc := 47) (D := (dC, dI)) (ci := 0) (v := .ref (ad 37)) (C := RX11) (T := TX11) (N := 42) hx hb ht zr_lay hown hK hP 0 rfl rfl 36 (by decide) (ht _ zr_28) (fun _ h9 => h9) rfl dX11_mostAlike_47 ?_
      refine lv_iload (pc := 50) hx hb dX11_mostAlike_50 (lv_at hl 5 rfl) ?_
      refine lv_iload_n (pc := 52) hx hb dX11_mostAlike_52 rfl (lv_at hl 3 rfl) ?_
      refine lv_i2l (pc := 53) hx hb dX11_mostAlike_53 rfl ?_
      refine lv_iload (pc := 54) hx hb dX11_mostAlike_54 (lv_at hl 5 rfl) ?_
      obtain ⟨v17, hv17, hf⟩ := zc_1 hf
      refine zw_Si (pc := 56) (wc := []) (wr := [zr_o ad f_thrown f_taped f_at f_behind f_size f_kind f_number f_wrong f_wrongAt f_faultKind f_faultPlace f_reading f_toldWhy f_x f_standMany f_bestMany f_tail f_round1, (ad 2, .inl (dA 0, 2982, .inl b_all)), (ad 17, .inl (dA 0, 900, .inl a15)), (ad 18, .inl (dA 0, 6, .inl a16)), (ad 37, .inl (dA 0, 10, .inl a4))]) (w1 := []) (As := [.long (Int32.toInt64 p2), .int v1]) (rest := [.int v1, .ref (ad 37)]) ⟨hx, hb, hml, hown, ht⟩ (zt_X11_isIn l dC dI dA ad _ (Int32.toInt64 p2) v1 v17 hv17) (cwS 2 ht (zr_S zr_246 zr_247 zr_36 zr_127) rfl rfl rfl zk_X11_isIn ⟨Nat.le_of_ble_eq_true rfl, Nat.le_of_ble_eq_true rfl⟩) hK hP hD hS hA [] [0, 1, 2, 3, 4] (by decide) (by decide) (by decide) rfl rfl rfl hl.1 (Nat.le_of_ble_eq_true rfl) dX11_mostAlike_56 ⟨Nat.zero_le _, Nat.zero_le _⟩ rfl (fun H locs hP hD hS => ?_)
      have hP : va_P (dC, dI) zz_cls [zr_o ad f_thrown f_taped f_at f_behind f_size f_kind f_number f_wrong f_wrongAt f_faultKind f_faultPlace f_reading f_toldWhy f_x f_standMany f_bestMany f_tail f_round1, (ad 2, .inl (dA 0, 2982, .inl b_all)), (ad 17, .inl (dA 0, 900, .inl a15)), (ad 18, .inl (dA 0, 6, .inl a16)), (ad 37, .inl (dA 0, 10, .inl a4))] H := hP
      have hD : va_D A [zr_o ad f_thrown f_taped f_at f_behind f_size f_kind f_number f_wrong f_wrongAt f_faultKind f_faultPlace f_reading f_toldWhy f_x f_standMany f_bestMany f_tail f_round1, (ad 2, .inl (dA 0, 2982, .inl b_all)), (ad 17, .inl (dA 0, 900, .inl a15)), (ad 18, .inl (dA 0, 6, .inl a16)), (ad 37, .inl (dA 0, 10, .inl a4))] := hD
      obtain ⟨v18, hj, hf⟩ := zc_1 hf
      refine zj_join (pcJ := 68) (stk := [.int v18, .int v1, .ref (ad 37)]) (X := fun H locs ls => lv_has ls 7 [(0, .ref (ad 0)), (1, .int p1), (2, .int p2), (3, .int (0 : Int32)), (4, .int v1)] ∧ va_P (dC, dI) zz_cls [zr_o ad f_thrown f_taped f_at f_behind f_size f_kind f_number f_wrong f_wrongAt f_faultKind f_faultPlace f_reading f_toldWhy f_x f_standMany f_bestMany f_tail f_round1, (ad 2, .inl (dA 0, 2982, .inl b_all)), (ad 17, .inl (dA 0, 900, .inl a15)), (ad 18, .inl (dA 0, 6, .inl a16)), (ad 37, .inl (dA 0, 10, .inl a4))] H ∧ va_D A [zr_o ad f_thrown f_taped f_at f_behind f_size f_kind f_number f_wrong f_wrongAt f_faultKind f_faultPlace f_reading f_toldWhy f_x f_standMany f_bestMany f_tail f_round1, (ad 2, .inl (dA 0, 2982, .inl b_all)), (ad 17, .inl (dA 0, 900, .inl a15)), (ad 18, .inl (dA 0, 6, .inl a16)), (ad 37, .inl (dA 0, 10, .inl a4))] ∧ va_S A s.heap H locs) (fun H locs ls hX => ?_) (fun J68 => ?_)
      · obtain ⟨hl, hP, hD, hS⟩ := hX
        clear hj
        obtain ⟨a19, ha19, hf⟩ := zc_1 hf
        refine zw_iast (pc := 68) hx hb hK hP hD hS 4 0 rfl rfl ha19 dX11_mostAlike_68 (fun H locs hP hD hS => ?_)
        have hP : va_P (dC, dI) zz_cls [zr_o ad f_thrown f_taped f_at f_behind f_size f_kind f_number f_wrong f_wrongAt f_faultKind f_faultPlace f_reading f_toldWhy f_x f_standMany f_bestMany f_tail f_round1, (ad 2, .inl (dA 0, 2982, .inl b_all)), (ad 17, .inl (dA 0, 900, .inl a15)), (ad 18, .inl (dA 0, 6, .inl a16)), (ad 37, .inl (dA 0, 10, .inl a19))] H := hP
        have hD : va_D A [zr_o ad f_thrown f_taped f_at f_behind f_size f_kind f_number f_wrong f_wrongAt f_faultKind f_faultPlace f_reading f_toldWhy f_x f_standMany f_bestMany f_tail f_round1, (ad 2, .inl (dA 0, 2982, .inl b_all)), (ad 17, .inl (dA 0, 900, .inl a15)), (ad 18, .inl (dA 0, 6, .inl a16)), (ad 37, .inl (dA 0, 10, .inl a19))] := hD
        obtain ⟨v20, hv20, hf⟩ := zc_1 hf
        refine lv_iinc (v := v20) (lv' := [(4, .int v20), (0, .ref (ad 0)), (1, .int p1), (2, .int p2), (3, .int (0 : Int32))]) (k := 4) (pc := 69) hx hb dX11_mostAlike_69 hl rfl (Option.some.inj hv20) (by decide) rfl (fun ls hl => ?_)
        refine lv_goto (tgt := 5) (pc := 72) hx hb dX11_mostAlike_72 rfl ?_
        obtain rfl := Option.some.inj hf
        exact ih rfl _ _ _ ⟨lv_sub hl [1, 2, 3, 4, 0] rfl, hP, hD, hS⟩
      · clear hf
        have hf := hj
        clear hj
        refine lv_if_eq (tgt := 67) (pc := 59) hx hb dX11_mostAlike_59 rfl (fun hc => ?_) (fun hc => ?_)
        · have hf := za_t hf hc
          refine lv_iconst (v := (-1 : Int32)) (pc := 67) hx hb dX11_mostAlike_67 (by decide) ?_
          obtain rfl := Option.some.inj hf
          exact J68 _ _ _ ⟨lv_sub hl [1, 2, 3, 4, 5] rfl, hP, hD, hS⟩
        · have hf := za_f hf hc
          refine lv_iload (pc := 62) hx hb dX11_mostAlike_62 (lv_at hl 0 rfl) ?_
          refine lv_goto (tgt := 68) (pc := 64) hx hb dX11_mostAlike_64 rfl ?_
          obtain rfl := Option.some.inj hf
          exact J68 _ _ _ ⟨lv_sub hl [1, 2, 3, 4, 5] rfl, hP, hD, hS⟩
    · clear hf
      have hf := hj
      clear hj
      refine lv_if_ne (tgt := 40) (pc := 23) hx hb dX11_mostAlike_23 rfl (fun hc => ?_) (fun hc => ?_)
      · have hf := za_f hf hc
        refine lv_aload_n (pc := 40) hx hb dX11_mostAlike_40 rfl (lv_at hl 0 rfl) ?_
        obtain ⟨v13, hv13, hf⟩ := zc_1 hf
        refine zw_Vi (pc := 41) (wc := [zr_o ad f_thrown f_taped f_at f_behind f_size f_kind f_number f_wrong f_wrongAt f_faultKind f_faultPlace f_reading f_toldWhy f_x f_standMany f_bestMany f_tail f_round1, (ad 2, .inl (dA 0, 2982, .inl b_all))]) (wr := [(ad 37, .inl (dA 0, 10, .inl a4)), (ad 17, .inl (dA 0, 900, .inl a7)), (ad 18, .inl (dA 0, 6, .inl a8))]) (w1 := [zr_o ad f_thrown f_taped f_at f_behind f_size f_kind f_number f_wrong f_wrongAt f_faultKind f_faultPlace f_reading f_toldWhy f_x f_standMany f_bestMany f_tail f_round1, (ad 2, .inl (dA 0, 2982, .inl b_all))]) (As := []) (rest := []) ⟨hx, hb, hml, hown, ht⟩ (zt_X11_standNow l dC dI dA ad _ f_thrown f_taped f_at f_behind f_size f_kind f_number f_wrong f_wrongAt f_faultKind f_faultPlace f_reading f_toldWhy f_x f_standMany f_bestMany f_tail f_round1 b_all v13 hv13) (cwV 0 ht (zr_V zr_261 zr_262 zr_263 zr_36 zr_213) rfl rfl rfl zk_X11_standNow ⟨Nat.le_of_ble_eq_true rfl, Nat.le_of_ble_eq_true rfl⟩) rfl rfl hK hP hD hS hA [1, 2] [0, 3, 4] (by decide) (by decide) (by decide) rfl rfl rfl hl.1 (Nat.le_of_ble_eq_true rfl) dX11_mostAlike_41 ⟨Nat.zero_le _, Nat.zero_le _⟩ rfl (fun H locs hP hD hS => ?_)
        have hP : va_P (dC, dI) zz_cls [(ad 37, .inl (dA 0, 10, .inl a4)), (ad 17, .inl (dA 0, 900, .inl a7)), (ad 18, .inl (dA 0, 6, .inl a8)), zr_o ad f_thrown f_taped f_at f_behind f_size f_kind f_number f_wrong f_wrongAt f_faultKind f_faultPlace f_reading f_toldWhy f_x f_standMany f_bestMany f_tail f_round1, (ad 2, .inl (dA 0, 2982, .inl b_all))] H := hP
        have hD : va_D A [(ad 37, .inl (dA 0, 10, .inl a4)), (ad 17, .inl (dA 0, 900, .inl a7)), (ad 18, .inl (dA 0, 6, .inl a8)), zr_o ad f_thrown f_taped f_at f_behind f_size f_kind f_number f_wrong f_wrongAt f_faultKind f_faultPlace f_reading f_toldWhy f_x f_standMany f_bestMany f_tail f_round1, (ad 2, .inl (dA 0, 2982, .inl b_all))] := hD
        obtain ⟨rfl, rfl, rfl⟩ := zi_3 hf
        exact J44 _ _ _ ⟨lv_sub hl [0, 1, 2, 3, 4] rfl, hP.sub [3, 4, 1, 2, 0] rfl, hD.sub [3, 4, 1, 2, 0] (by decide) rfl, hS⟩
      · have hf := za_t hf hc
        refine lv_aload_n (pc := 26) hx hb dX11_mostAlike_26 rfl (lv_at hl 0 rfl) ?_
        refine lv_aload_n (pc := 27) hx hb dX11_mostAlike_27 rfl (lv_at hl 0 rfl) ?_
        obtain ⟨v9, hv9, hf⟩ := zc_1 hf
        refine zw_Vi (pc := 28) (wc := [zr_o ad f_thrown f_taped f_at f_behind f_size f_kind f_number f_wrong f_wrongAt f_faultKind f_faultPlace f_reading f_toldWhy f_x f_standMany f_bestMany f_tail f_round1, (ad 2, .inl (dA 0, 2982, .inl b_all))]) (wr := [(ad 37, .inl (dA 0, 10, .inl a4)), (ad 17, .inl (dA 0, 900, .inl a7)), (ad 18, .inl (dA 0, 6, .inl a8))]) (w1 := [zr_o ad f_thrown f_taped f_at f_behind f_size f_kind f_number f_wrong f_wrongAt f_faultKind f_faultPlace f_reading f_toldWhy f_x f_standMany f_bestMany f_tail f_round1, (ad 2, .inl (dA 0, 2982, .inl b_all))]) (As := []) (rest := [.ref (ad 0)]) ⟨hx, hb, hml, hown, ht⟩ (zt_X11_standNow l dC dI dA ad _ f_thrown f_taped f_at f_behind f_size f_kind f_number f_wrong f_wrongAt f_faultKind f_faultPlace f_reading f_toldWhy f_x f_standMany f_bestMany f_tail f_round1 b_all v9 hv9) (cwV 0 ht (zr_V zr_261 zr_262 zr_263 zr_36 zr_213) rfl rfl rfl zk_X11_standNow ⟨Nat.le_of_ble_eq_true rfl, Nat.le_of_ble_eq_true rfl⟩) rfl rfl hK hP hD hS hA [1, 2] [0, 3, 4] (by decide) (by decide) (by decide) rfl rfl rfl hl.1 (Nat.le_of_ble_eq_true rfl) dX11_mostAlike_28 ⟨Nat.zero_le _, Nat.zero_le _⟩ rfl (fun H locs hP hD hS => ?_)
        have hP : va_P (dC, dI) zz_cls [(ad 37, .inl (dA 0, 10, .inl a4)), (ad 17, .inl (dA 0, 900, .inl a7)), (ad 18, .inl (dA 0, 6, .inl a8)), zr_o ad f_thrown f_taped f_at f_behind f_size f_kind f_number f_wrong f_wrongAt f_faultKind f_faultPlace f_reading f_toldWhy f_x f_standMany f_bestMany f_tail f_round1, (ad 2, .inl (dA 0, 2982, .inl b_all))] H := hP
        have hD : va_D A [(ad 37, .inl (dA 0, 10, .inl a4)), (ad 17, .inl (dA 0, 900, .inl a7)), (ad 18, .inl (dA 0, 6, .inl a8)), zr_o ad f_thrown f_taped f_at f_behind f_size f_kind f_number f_wrong f_wrongAt f_faultKind f_faultPlace f_reading f_toldWhy f_x f_standMany f_bestMany f_tail f_round1, (ad 2, .inl (dA 0, 2982, .inl b_all))] := hD
        refine lv_iload_n (pc := 31) hx hb dX11_mostAlike_31 rfl (lv_at hl 1 rfl) ?_
        refine lv_iload (pc := 32) hx hb dX11_mostAlike_32 (lv_at hl 4 rfl) ?_
        obtain ⟨v10, a11, a12, hv10, hf⟩ := zc_3 hf
        refine zw_Vi (pc := 34) (wc := [zr_o ad f_thrown f_taped f_at f_behind f_size f_kind f_number f_wrong f_wrongAt f_faultKind f_faultPlace f_reading f_toldWhy f_x f_standMany f_bestMany f_tail f_round1, (ad 2, .inl (dA 0, 2982, .inl b_all)), (ad 17, .inl (dA 0, 900, .inl a7)), (ad 18, .inl (dA 0, 6, .inl a8))]) (wr := [(ad 37, .inl (dA 0, 10, .inl a4))]) (w1 := [zr_o ad f_thrown f_taped f_at f_behind f_size f_kind f_number f_wrong f_wrongAt f_faultKind f_faultPlace f_reading f_toldWhy f_x f_standMany f_bestMany f_tail f_round1, (ad 2, .inl (dA 0, 2982, .inl b_all)), (ad 17, .inl (dA 0, 900, .inl a11)), (ad 18, .inl (dA 0, 6, .inl a12))]) (As := [.int v9, .int p1, .int v1]) (rest := []) ⟨hx, hb, hml, hown, ht⟩ (zt_X11_actedTo l dC dI dA ad _ n f_thrown f_taped f_at f_behind f_size f_kind f_number f_wrong f_wrongAt f_faultKind f_faultPlace f_reading f_toldWhy f_x f_standMany f_bestMany f_tail f_round1 b_all a7 a8 v9 p1 v1 v10 a11 a12 hv10) (cwV 3 ht (zr_V zr_272 zr_273 zr_274 zr_36 zr_253) rfl rfl rfl zk_X11_actedTo ⟨Nat.le_of_ble_eq_true rfl, Nat.le_of_ble_eq_true rfl⟩) rfl rfl hK hP hD hS hA [3, 4, 1, 2] [0] (by decide) (by decide) (by decide) rfl rfl rfl hl.1 (Nat.le_of_ble_eq_true rfl) dX11_mostAlike_34 ⟨Nat.zero_le _, Nat.zero_le _⟩ rfl (fun H locs hP hD hS => ?_)
        have hP : va_P (dC, dI) zz_cls [(ad 37, .inl (dA 0, 10, .inl a4)), zr_o ad f_thrown f_taped f_at f_behind f_size f_kind f_number f_wrong f_wrongAt f_faultKind f_faultPlace f_reading f_toldWhy f_x f_standMany f_bestMany f_tail f_round1, (ad 2, .inl (dA 0, 2982, .inl b_all)), (ad 17, .inl (dA 0, 900, .inl a11)), (ad 18, .inl (dA 0, 6, .inl a12))] H := hP
        have hD : va_D A [(ad 37, .inl (dA 0, 10, .inl a4)), zr_o ad f_thrown f_taped f_at f_behind f_size f_kind f_number f_wrong f_wrongAt f_faultKind f_faultPlace f_reading f_toldWhy f_x f_standMany f_bestMany f_tail f_round1, (ad 2, .inl (dA 0, 2982, .inl b_all)), (ad 17, .inl (dA 0, 900, .inl a11)), (ad 18, .inl (dA 0, 6, .inl a12))] := hD
        refine lv_goto (tgt := 44) (pc := 37) hx hb dX11_mostAlike_37 rfl ?_
        obtain ⟨rfl, rfl, rfl⟩ := zi_3 hf
        exact J44 _ _ _ ⟨lv_sub hl [0, 1, 2, 3, 4] rfl, hP.sub [1, 2, 3, 4, 0] rfl, hD.sub [1, 2, 3, 4, 0] (by decide) rfl, hS⟩
