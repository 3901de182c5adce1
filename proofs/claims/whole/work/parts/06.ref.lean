def zf_X11_isMove (b_all : (Nat → Int32)) (p1 : Int32) : Option (Int32) :=
  if p1 < (3 : Int32) then
    some (1 : Int32)
  else
    zd_1 (zf_X11_isThing b_all (Int32.toInt64 (za_rem (p1 - (3 : Int32)) (6 : Int32)))) (fun v1 =>
    if v1 = 0 then
      some (0 : Int32)
    else
      some (1 : Int32))
theorem zk_X11_isMove : yX11_isMove.cls = RX11 ∧ yX11_isMove.cls ≠ "java/lang/invoke/MethodHandle" ∧ yX11_isMove.cls ≠ "java/lang/invoke/VarHandle" ∧ (parseMethodDescriptor yX11_isMove.desc).map (fun d => d.parameters.length) = some 1 := by decide +kernel
set_option maxHeartbeats 4000000 in
set_option maxRecDepth 100000 in
theorem zt_X11_isMove (l : Launch) (dC : Nat → ClassId) (dI : Nat → Nat → Nat) (dA : Nat → ClassId) (ad : Nat → Nat) (sz : Nat) (f_thrown f_taped f_at f_behind f_size f_kind f_number f_wrong f_wrongAt f_faultKind f_faultPlace f_reading f_toldWhy f_x f_standMany f_bestMany f_tail f_round1 : Int32) (b_all : (Nat → Int32)) (p1 : Int32) (r0 : Int32) (hf : zf_X11_isMove b_all p1 = some r0) : Met l yX11_isMove (.code yX11_isMove cX11_isMove 2 (some .boolean) :: zr_T) ({ frames := 2, cells := 0, slots := 0, locals := 47 }) (va_Pc [.ref (ad 0), .int p1] (zz_M dC dI dA [zr_o ad f_thrown f_taped f_at f_behind f_size f_kind f_number f_wrong f_wrongAt f_faultKind f_faultPlace f_reading f_toldWhy f_x f_standMany f_bestMany f_tail f_round1, (ad 2, .inl (dA 0, 2982, .inl b_all))] sz)) (va_Qi (fun (r : Int32) (_ : Unit) => r = r0) (fun _ t => zz_B dC dI dA (va_A [zr_o ad f_thrown f_taped f_at f_behind f_size f_kind f_number f_wrong f_wrongAt f_faultKind f_faultPlace f_reading f_toldWhy f_x f_standMany f_bestMany f_tail f_round1, (ad 2, .inl (dA 0, 2982, .inl b_all))] sz) [zr_o ad f_thrown f_taped f_at f_behind f_size f_kind f_number f_wrong f_wrongAt f_faultKind f_faultPlace f_reading f_toldWhy f_x f_standMany f_bestMany f_tail f_round1, (ad 2, .inl (dA 0, 2982, .inl b_all))] t) (va_A [zr_o ad f_thrown f_taped f_at f_behind f_size f_kind f_number f_wrong f_wrongAt f_faultKind f_faultPlace f_reading f_toldWhy f_x f_standMany f_bestMany f_tail f_round1, (ad 2, .inl (dA 0, 2982, .inl b_all))] sz)) 0 0 (va_A [zr_o ad f_thrown f_taped f_at f_behind f_size f_kind f_number f_wrong f_wrongAt f_faultKind f_faultPlace f_reading f_toldWhy f_x f_standMany f_bestMany f_tail f_round1, (ad 2, .inl (dA 0, 2982, .inl b_all))] sz) := by
  unfold zf_X11_isMove at hf
  refine Met.ofW (cc := cX11_isMove) (maxL := 2) (ret := (some .boolean)) (by decide) rfl ?_
  intro p e s m args below meth c s₁ B hml hv
  obtain ⟨rfl, hsz, hP, hK, hD0⟩ := hv
  have hx := B.exec
  have hb := B.bytes
  have hr := B.returns
  have ht : ∀ w ∈ zr_T, w.before ([.ref (ad 0), .int p1] : List Value).toArray s = true := fun w hw => atoms_spec (ws := .code yX11_isMove cX11_isMove 2 (some .boolean) :: zr_T) B.pre w (List.mem_cons_of_mem _ hw)
  have hown : s.vm.findClass RX11 = some m.cls := findClass_of_methodNamed B.named
  have hlocks := B.notSynchronized
  subst hsz
  have hD := hD0.self (sz := s.heap.size)
  generalize hAe : va_A [zr_o ad f_thrown f_taped f_at f_behind f_size f_kind f_number f_wrong f_wrongAt f_faultKind f_faultPlace f_reading f_toldWhy f_x f_standMany f_bestMany f_tail f_round1, (ad 2, .inl (dA 0, 2982, .inl b_all))] s.heap.size = A at hD ⊢
  have hA : ∀ q : Nat, s.heap.size ≤ q → A q := fun q h => by rw [← hAe]; exact Or.inr h
  clear hAe hD0
  have hS : va_S A s.heap s.heap [] := va_S.rf
  have hl := lv_entry ([.ref (ad 0), .int p1]) (n := 2) (Nat.le_of_ble_eq_true rfl)
  rw [lg_entry_eq]
  generalize (lg_sl ([.ref (ad 0), .int p1]) ++ List.replicate (2 - (lg_sl ([.ref (ad 0), .int p1])).length) Slot.unset).toArray = ls at hl ⊢
  have hl : lv_has ls 2 [(0, .ref (ad 0)), (1, .int p1)] := hl
  refine lv_iload_n (pc := 0) hx hb dX11_isMove_0 rfl (lv_at hl 1 rfl) ?_
  refine lv_iconst (v := (3 : Int32)) (pc := 1) hx hb dX11_isMove_1 (by decide) ?_
  refine lv_icmp_lt (tgt := 19) (pc := 2) hx hb dX11_isMove_2 rfl (fun hc => ?_) (fun hc => ?_)
  · have hf := za_t hf hc
    refine lv_iconst (v := (1 : Int32)) (pc := 19) hx hb dX11_isMove_19 (by decide) ?_
    refine lv_goto (tgt := 24) (pc := 20) hx hb dX11_isMove_20 rfl ?_
    obtain rfl := Option.some.inj hf
    exact W.zret (pc := 24) hx hb hr rfl (fun t ht hW => ⟨⟨_, (), rfl, rfl, zz_Bi (by rw [ht]; exact hP) (va_K.moved hW.alike hK) (hD)⟩, hS.F ht⟩) hS.2.2 dX11_isMove_24
  · have hf := za_f hf hc
    refine lv_aload_n (pc := 5) hx hb dX11_isMove_5 rfl (lv_at hl 0 rfl) ?_
    refine lv_iload_n (pc := 6) hx hb dX11_isMove_6 rfl (lv_at hl 1 rfl) ?_
    refine lv_iconst (v := (3 : Int32)) (pc := 7) hx hb dX11_isMove_7 (by decide) ?_
    refine lv_isub (pc := 8) hx hb dX11_isMove_8 ?_
    refine lv_bipush (v := (6 : Int32)) (pc := 9) hx hb dX11_isMove_9 (by decide) ?_
    refine lv_irem (pc := 11) hx hb dX11_isMove_11 (by decide) ?_
    refine lv_i2l (pc := 12) hx hb dX11_isMove_12 rfl ?_
    obtain ⟨v1, hv1, hf⟩ := zc_1 hf
    refine zw_Vi (pc := 13) (wc := [zr_o ad f_thrown f_taped f_at f_behind f_size f_kind f_number f_wrong f_wrongAt f_faultKind f_faultPlace f_reading f_toldWhy f_x f_standMany f_bestMany f_tail f_round1, (ad 2, .inl (dA 0, 2982, .inl b_all))]) (wr := []) (w1 := [zr_o ad f_thrown f_taped f_at f_behind f_size f_kind f_number f_wrong f_wrongAt f_faultKind f_faultPlace f_reading f_toldWhy f_x f_standMany f_bestMany f_tail f_round1, (ad 2, .inl (dA 0, 2982, .inl b_all))]) (As := [.long (Int32.toInt64 (za_rem (p1 - (3 : Int32)) (6 : Int32)))]) (rest := []) ⟨hx, hb, hml, hown, ht⟩ (zt_X11_isThing l dC dI dA ad _ f_thrown f_taped f_at f_behind f_size f_kind f_number f_wrong f_wrongAt f_faultKind f_faultPlace f_reading f_toldWhy f_x f_standMany f_bestMany f_tail f_round1 b_all (Int32.toInt64 (za_rem (p1 - (3 : Int32)) (6 : Int32))) v1 hv1) (cwV 1 ht (zr_V zr_235 zr_236 zr_237 zr_36 zr_207) rfl rfl rfl zk_X11_isThing ⟨Nat.le_of_ble_eq_true rfl, Nat.le_of_ble_eq_true rfl⟩) rfl rfl hK hP hD hS hA [0, 1] [] (by decide) (by decide) (by decide) rfl rfl rfl hl.1 (Nat.le_of_ble_eq_true rfl) dX11_isMove_13 ⟨Nat.zero_le _, Nat.zero_le _⟩ rfl (fun H locs hP hD hS => ?_)
    have hP : va_P (dC, dI) zz_cls [zr_o ad f_thrown f_taped f_at f_behind f_size f_kind f_number f_wrong f_wrongAt f_faultKind f_faultPlace f_reading f_toldWhy f_x f_standMany f_bestMany f_tail f_round1, (ad 2, .inl (dA 0, 2982, .inl b_all))] H := hP
    have hD : va_D A [zr_o ad f_thrown f_taped f_at f_behind f_size f_kind f_number f_wrong f_wrongAt f_faultKind f_faultPlace f_reading f_toldWhy f_x f_standMany f_bestMany f_tail f_round1, (ad 2, .inl (dA 0, 2982, .inl b_all))] := hD
    refine lv_if_eq (tgt := 23) (pc := 16) hx hb dX11_isMove_16 rfl (fun hc => ?_) (fun hc => ?_)
    · have hf := za_t hf hc
      refine lv_iconst (v := (0 : Int32)) (pc := 23) hx hb dX11_isMove_23 (by decide) ?_
      obtain rfl := Option.some.inj hf
      exact W.zret (pc := 24) hx hb hr rfl (fun t ht hW => ⟨⟨_, (), rfl, rfl, zz_Bi (by rw [ht]; exact hP) (va_K.moved hW.alike hK) (hD)⟩, hS.F ht⟩) hS.2.2 dX11_isMove_24
    · have hf := za_f hf hc
      refine lv_iconst (v := (1 : Int32)) (pc := 19) hx hb dX11_isMove_19 (by decide) ?_
      refine lv_goto (tgt := 24) (pc := 20) hx hb dX11_isMove_20 rfl ?_
      obtain rfl := Option.some.inj hf
      exact W.zret (pc := 24) hx hb hr rfl (fun t ht hW => ⟨⟨_, (), rfl, rfl, zz_Bi (by rw [ht]; exact hP) (va_K.moved hW.alike hK) (hD)⟩, hS.F ht⟩) hS.2.2 dX11_isMove_24

def zf_X11_isBarred (b_all : (Nat → Int32)) (p1 : Int32) (p2 : Int32) : Option (Int32) :=
  zd_1 (za_ld b_all 2982 ((10 : Int32) + p1)) (fun v1 =>
  if (v1 &&& p2) = 0 then
    some (0 : Int32)
  else
    some (1 : Int32))
theorem zk_X11_isBarred : yX11_isBarred.cls = RX11 ∧ yX11_isBarred.cls ≠ "java/lang/invoke/MethodHandle" ∧ yX11_isBarred.cls ≠ "java/lang/invoke/VarHandle" ∧ (parseMethodDescriptor yX11_isBarred.desc).map (fun d => d.parameters.length) = some 2 := by decide +kernel
set_option maxHeartbeats 4000000 in
set_option maxRecDepth 100000 in
theorem zt_X11_isBarred (l : Launch) (dC : Nat → ClassId) (dI : Nat → Nat → Nat) (dA : Nat → ClassId) (ad : Nat → Nat) (sz : Nat) (f_thrown f_taped f_at f_behind f_size f_kind f_number f_wrong f_wrongAt f_faultKind f_faultPlace f_reading f_toldWhy f_x f_standMany f_bestMany f_tail f_round1 : Int32) (b_all : (Nat → Int32)) (p1 : Int32) (p2 : Int32) (r0 : Int32) (hf : zf_X11_isBarred b_all p1 p2 = some r0) : Met l yX11_isBarred (.code yX11_isBarred cX11_isBarred 3 (some .boolean) :: zr_T) ({ frames := 0, cells := 0, slots := 0, locals := 0 }) (va_Pc [.ref (ad 0), .int p1, .int p2] (zz_M dC dI dA [zr_o ad f_thrown f_taped f_at f_behind f_size f_kind f_number f_wrong f_wrongAt f_faultKind f_faultPlace f_reading f_toldWhy f_x f_standMany f_bestMany f_tail f_round1, (ad 2, .inl (dA 0, 2982, .inl b_all))] sz)) (va_Qi (fun (r : Int32) (_ : Unit) => r = r0) (fun _ t => zz_B dC dI dA (va_A [zr_o ad f_thrown f_taped f_at f_behind f_size f_kind f_number f_wrong f_wrongAt f_faultKind f_faultPlace f_reading f_toldWhy f_x f_standMany f_bestMany f_tail f_round1, (ad 2, .inl (dA 0, 2982, .inl b_all))] sz) [zr_o ad f_thrown f_taped f_at f_behind f_size f_kind f_number f_wrong f_wrongAt f_faultKind f_faultPlace f_reading f_toldWhy f_x f_standMany f_bestMany f_tail f_round1, (ad 2, .inl (dA 0, 2982, .inl b_all))] t) (va_A [zr_o ad f_thrown f_taped f_at f_behind f_size f_kind f_number f_wrong f_wrongAt f_faultKind f_faultPlace f_reading f_toldWhy f_x f_standMany f_bestMany f_tail f_round1, (ad 2, .inl (dA 0, 2982, .inl b_all))] sz)) 0 0 (va_A [zr_o ad f_thrown f_taped f_at f_behind f_size f_kind f_number f_wrong f_wrongAt f_faultKind f_faultPlace f_reading f_toldWhy f_x f_standMany f_bestMany f_tail f_round1, (ad 2, .inl (dA 0, 2982, .inl b_all))] sz) := by
  unfold zf_X11_isBarred at hf
  refine Met.ofW (cc := cX11_isBarred) (maxL := 3) (ret := (some .boolean)) (by decide) rfl ?_
  intro p e s m args below meth c s₁ B hml hv
  obtain ⟨rfl, hsz, hP, hK, hD0⟩ := hv
  have hx := B.exec
  have hb := B.bytes
  have hr := B.returns
  have ht : ∀ w ∈ zr_T, w.before ([.ref (ad 0), .int p1, .int p2] : List Value).toArray s = true := fun w hw => atoms_spec (ws := .code yX11_isBarred cX11_isBarred 3 (some .boolean) :: zr_T) B.pre w (List.mem_cons_of_mem _ hw)
  have hown : s.vm.findClass RX11 = some m.cls := findClass_of_methodNamed B.named
  have hlocks := B.notSynchronized
  subst hsz
  have hD := hD0.self (sz := s.heap.size)
  generalize hAe : va_A [zr_o ad f_thrown f_taped f_at f_behind f_size f_kind f_number f_wrong f_wrongAt f_faultKind f_faultPlace f_reading f_toldWhy f_x f_standMany f_bestMany f_tail f_round1, (ad 2, .inl (dA 0, 2982, .inl b_all))] s.heap.size = A at hD ⊢
  have hA : ∀ q : Nat, s.heap.size ≤ q → A q := fun q h => by rw [← hAe]; exact Or.inr h
  clear hAe hD0
  have hS : va_S A s.heap s.heap [] := va_S.rf
  have hl := lv_entry ([.ref (ad 0), .int p1, .int p2]) (n := 3) (Nat.le_of_ble_eq_true rfl)
  rw [lg_entry_eq]
  generalize (lg_sl ([.ref (ad 0), .int p1, .int p2]) ++ List.replicate (3 - (lg_sl ([.ref (ad 0), .int p1, .int p2])).length) Slot.unset).toArray = ls at hl ⊢
  have hl : lv_has ls 3 [(0, .ref (ad 0)), (1, .int p1), (2, .int p2)] := hl
  refine lv_aload_n (pc := 0) hx hb dX11_isBarred_0 rfl (lv_at hl 0 rfl) ?_
  refine va_get (pc := 1) (D := (dC, dI)) (ci := 0) (v := .ref (ad 2)) (C := RX11) (T := TX11) (N := 42) hx hb ht zr_lay hown hK hP 0 rfl rfl 1 (by decide) (ht _ zr_6) (fun _ h9 => h9) rfl dX11_isBarred_1 ?_
  refine lv_bipush (v := (10 : Int32)) (pc := 4) hx hb dX11_isBarred_4 (by decide) ?_
  refine lv_iload_n (pc := 6) hx hb dX11_isBarred_6 rfl (lv_at hl 1 rfl) ?_
  refine lv_iadd (pc := 7) hx hb dX11_isBarred_7 ?_
  obtain ⟨v1, hv1, hf⟩ := zc_1 hf
  refine zw_iald (pc := 8) hx hb hK hP 1 0 rfl rfl hv1 dX11_isBarred_8 ?_
  refine lv_iload_n (pc := 9) hx hb dX11_isBarred_9 rfl (lv_at hl 2 rfl) ?_
  refine lv_iand (pc := 10) hx hb dX11_isBarred_10 ?_
  refine lv_if_eq (tgt := 18) (pc := 11) hx hb dX11_isBarred_11 rfl (fun hc => ?_) (fun hc => ?_)
  · have hf := za_t hf hc
    refine lv_iconst (v := (0 : Int32)) (pc := 18) hx hb dX11_isBarred_18 (by decide) ?_
    obtain rfl := Option.some.inj hf
    exact W.zret (pc := 19) hx hb hr rfl (fun t ht hW => ⟨⟨_, (), rfl, rfl, zz_Bi (by rw [ht]; exact hP) (va_K.moved hW.alike hK) (hD)⟩, hS.F ht⟩) hS.2.2 dX11_isBarred_19
  · have hf := za_f hf hc
    refine lv_iconst (v := (1 : Int32)) (pc := 14) hx hb dX11_isBarred_14 (by decide) ?_
    refine lv_goto (tgt := 19) (pc := 15) hx hb dX11_isBarred_15 rfl ?_
    obtain rfl := Option.some.inj hf
    exact W.zret (pc := 19) hx hb hr rfl (fun t ht hW => ⟨⟨_, (), rfl, rfl, zz_Bi (by rw [ht]; exact hP) (va_K.moved hW.alike hK) (hD)⟩, hS.F ht⟩) hS.2.2 dX11_isBarred_19

def zf_X11_whyBy (n : Nat) (b_all : (Nat → Int32)) (b_reckoned : (Nat → Int32)) (b_words : (Nat → Int32)) (p1 : Int32) (p2 : Int32) (p3 : Int32) : Option (Int32 × (Nat → Int32) × (Nat → Int32)) :=
  zd_1 (zf_X11_rungIn p1) (fun v1 =>
  zd_1 (zf_X11_hasIn p1) (fun v2 =>
  if p2 = 0 then
    some ((0 : Int32), b_reckoned, b_words)
  else
    if p2 = (1 : Int32) then
      zd_1 (za_ld b_all 2982 (1 : Int32)) (fun v3 =>
      if v1 = v3 then
        some ((2 : Int32), b_reckoned, b_words)
      else
        zd_1 (zf_X11_isBarred b_all (v1 + (1 : Int32)) v2) (fun v4 =>
        if v4 = 0 then
          zd_1 (za_ld b_all 2982 (5 : Int32)) (fun v5 =>
          zd_3 (
            if v5 = 0 then
              if (za_rem p1 (5 : Int32)) ≤ 0 then
                some ((0 : Int32), b_reckoned, b_words)
              else
                some ((1 : Int32), b_reckoned, b_words)
            else
              zd_3 (zf_X11_reckons n b_all b_reckoned b_words (1 : Int32) p1 p3) (fun v6 a7 a8 =>
              if v6 = (1 : Int32) then
                some ((1 : Int32), a7, a8)
              else
                some ((0 : Int32), a7, a8))) (fun v9 a10 a11 =>
          if v9 = 0 then
            some ((4 : Int32), a10, a11)
          else
            some ((0 : Int32), a10, a11)))
        else
          some ((3 : Int32), b_reckoned, b_words)))
    else
      if p2 = (2 : Int32) then
        if v1 = 0 then
          some ((2 : Int32), b_reckoned, b_words)
        else
          zd_1 (zf_X11_isBarred b_all (v1 - (1 : Int32)) v2) (fun v12 =>
          if v12 = 0 then
            some ((0 : Int32), b_reckoned, b_words)
          else
            some ((3 : Int32), b_reckoned, b_words))
      else
        zd_1 (some ((za_rem (p2 - (3 : Int32)) (6 : Int32)))) (fun v13 =>
        if (9 : Int32) ≤ p2 then
          zd_1 (zf_X11_isIn (Int32.toInt64 v2) v13) (fun v14 =>
          if v14 = 0 then
            zd_1 (za_ld b_all 2982 ((19 : Int32) + v1)) (fun v15 =>
            zd_1 (zf_X11_isIn (Int32.toInt64 v15) v13) (fun v16 =>
            if v16 = 0 then
              some ((2 : Int32), b_reckoned, b_words)
            else
              zd_1 (za_ld b_all 2982 ((10 : Int32) + v1)) (fun v17 =>
              zd_1 (zf_X11_isIn (Int32.toInt64 v17) v13) (fun v18 =>
              if v18 = 0 then
                some ((0 : Int32), b_reckoned, b_words)
              else
                some ((3 : Int32), b_reckoned, b_words)))))
          else
            some ((2 : Int32), b_reckoned, b_words))
        else
          zd_1 (zf_X11_isIn (Int32.toInt64 v2) v13) (fun v19 =>
          if v19 = 0 then
            some ((2 : Int32), b_reckoned, b_words)
          else
            some ((0 : Int32), b_reckoned, b_words)))))
theorem zk_X11_whyBy : yX11_whyBy.cls = RX11 ∧ yX11_whyBy.cls ≠ "java/lang/invoke/MethodHandle" ∧ yX11_whyBy.cls ≠ "java/lang/invoke/VarHandle" ∧ (parseMethodDescriptor yX11_whyBy.desc).map (fun d => d.parameters.length) = some 3 := by decide +kernel
set_option maxHeartbeats 4000000 in
set_option maxRecDepth 100000 in
theorem zt_X11_whyBy (l : Launch) (dC : Nat → ClassId) (dI : Nat → Nat → Nat) (dA : Nat → ClassId) (ad : Nat → Nat) (sz : Nat) (n : Nat) (f_thrown f_taped f_at f_behind f_size f_kind f_number f_wrong f_wrongAt f_faultKind f_faultPlace f_reading f_toldWhy f_x f_standMany f_bestMany f_tail f_round1 : Int32) (b_all : (Nat → Int32)) (b_reckoned : (Nat → Int32)) (b_words : (Nat → Int32)) (p1 : Int32) (p2 : Int32) (p3 : Int32) (r0 : Int32) (o1 : (Nat → Int32)) (o2 : (Nat → Int32)) (hf : zf_X11_whyBy n b_all b_reckoned b_words p1 p2 p3 = some (r0, o1, o2)) : Met l yX11_whyBy (.code yX11_whyBy cX11_whyBy 7 (some .int) :: zr_T) ({ frames := 2, cells := 0, slots := 0, locals := 51 }) (va_Pc [.ref (ad 0), .int p1, .int p2, .int p3] (zz_M dC dI dA [zr_o ad f_thrown f_taped f_at f_behind f_size f_kind f_number f_wrong f_wrongAt f_faultKind f_faultPlace f_reading f_toldWhy f_x f_standMany f_bestMany f_tail f_round1, (ad 2, .inl (dA 0, 2982, .inl b_all)), (ad 17, .inl (dA 0, 900, .inl b_reckoned)), (ad 18, .inl (dA 0, 6, .inl b_words))] sz)) (va_Qi (fun (r : Int32) (_ : Unit) => r = r0) (fun _ t => zz_B dC dI dA (va_A [zr_o ad f_thrown f_taped f_at f_behind f_size f_kind f_number f_wrong f_wrongAt f_faultKind f_faultPlace f_reading f_toldWhy f_x f_standMany f_bestMany f_tail f_round1, (ad 2, .inl (dA 0, 2982, .inl b_all)), (ad 17, .inl (dA 0, 900, .inl b_reckoned)), (ad 18, .inl (dA 0, 6, .inl b_words))] sz) [zr_o ad f_thrown f_taped f_at f_behind f_size f_kind f_number f_wrong f_wrongAt f_faultKind f_faultPlace f_reading f_toldWhy f_x f_standMany f_bestMany f_tail f_round1, (ad 2, .inl (dA 0, 2982, .inl b_all)), (ad 17, .inl (dA 0, 900, .inl o1)), (ad 18, .inl (dA 0, 6, .inl o2))] t) (va_A [zr_o ad f_thrown f_taped f_at f_behind f_size f_kind f_number f_wrong f_wrongAt f_faultKind f_faultPlace f_reading f_toldWhy f_x f_standMany f_bestMany f_tail f_round1, (ad 2, .inl (dA 0, 2982, .inl b_all)), (ad 17, .inl (dA 0, 900, .inl b_reckoned)), (ad 18, .inl (dA 0, 6, .inl b_words))] sz)) 0 0 (va_A [zr_o ad f_thrown f_taped f_at f_behind f_size f_kind f_number f_wrong f_wrongAt f_faultKind f_faultPlace f_reading f_toldWhy f_x f_standMany f_bestMany f_tail f_round1, (ad 2, .inl (dA 0, 2982, .inl b_all)), (ad 17, .inl (dA 0, 900, .inl b_reckoned)), (ad 18, .inl (dA 0, 6, .inl b_words))] sz) := by
  unfold zf_X11_whyBy at hf
  refine Met.ofW (cc := cX11_whyBy) (maxL := 7) (ret := (some .int)) (by decide) rfl ?_
  intro p e s m args below meth c s₁ B hml hv
  obtain ⟨rfl, hsz, hP, hK, hD0⟩ := hv
  have hx := B.exec
  have hb := B.bytes
  have hr := B.returns
  have ht : ∀ w ∈ zr_T, w.before ([.ref (ad 0), .int p1, .int p2, .int p3] : List Value).toArray s = true := fun w hw => atoms_spec (ws := .code yX11_whyBy cX11_whyBy 7 (some .int) :: zr_T) B.pre w (List.mem_cons_of_mem _ hw)
  have hown : s.vm.findClass RX11 = some m.cls := findClass_of_methodNamed B.named
  have hlocks := B.notSynchronized
  subst hsz
  have hD := hD0.self (sz := s.heap.size)
  generalize hAe : va_A [zr_o ad f_thrown f_taped f_at f_behind f_size f_kind f_number f_wrong f_wrongAt f_faultKind f_faultPlace f_reading f_toldWhy f_x f_standMany f_bestMany f_tail f_round1, (ad 2, .inl (dA 0, 2982, .inl b_all)), (ad 17, .inl (dA 0, 900, .inl b_reckoned)), (ad 18, .inl (dA 0, 6, .inl b_words))] s.heap.size = A at hD ⊢
  have hA : ∀ q : Nat, s.heap.size ≤ q → A q := fun q h => by rw [← hAe]; exact Or.inr h
  clear hAe hD0
  have hS : va_S A s.heap s.heap [] := va_S.rf
  have hl := lv_entry ([.ref (ad 0), .int p1, .int p2, .int p3]) (n := 7) (Nat.le_of_ble_eq_true rfl)
  rw [lg_entry_eq]
  generalize (lg_sl ([.ref (ad 0), .int p1, .int p2, .int p3]) ++ List.replicate (7 - (lg_sl ([.ref (ad 0), .int p1, .int p2, .int p3])).length) Slot.unset).toArray = ls at hl ⊢
  have hl : lv_has ls 7 [(0, .ref (ad 0)), (1, .int p1), (2, .int p2), (3, .int p3)] := hl
  refine lv_iload_n (pc := 0) hx hb dX11_whyBy_0 rfl (lv_at hl 1 rfl) ?_
  obtain ⟨v1, hv1, hf⟩ := zc_1 hf
  refine zw_Si (pc := 1) (wc := []) (wr := [zr_o ad f_thrown f_taped f_at f_behind f_size f_kind f_number f_wrong f_wrongAt f_faultKind f_faultPlace f_reading f_toldWhy f_x f_standMany f_bestMany f_tail f_round1, (ad 2, .inl (dA 0, 2982, .inl b_all)), (ad 17, .inl (dA 0, 900, .inl b_reckoned)), (ad 18, .inl (dA 0, 6, .inl b_words))]) (w1 := []) (As := [.int p1]) (rest := []) ⟨hx, hb, hml, hown, ht⟩ (zt_X11_rungIn l dC dI dA ad _ p1 v1 hv1) (cwS 1 ht (zr_S zr_217 zr_218 zr_36 zr_210) rfl rfl rfl zk_X11_rungIn ⟨Nat.le_of_ble_eq_true rfl, Nat.le_of_ble_eq_true rfl⟩) hK hP hD hS hA [] [0, 1, 2, 3] (by decide) (by decide) (by decide) rfl rfl rfl hl.1 (Nat.le_of_ble_eq_true rfl) dX11_whyBy_1 ⟨Nat.zero_le _, Nat.zero_le _⟩ rfl (fun H locs hP hD hS => ?_)
  have hP : va_P (dC, dI) zz_cls [zr_o ad f_thrown f_taped f_at f_behind f_size f_kind f_number f_wrong f_wrongAt f_faultKind f_faultPlace f_reading f_toldWhy f_x f_standMany f_bestMany f_tail f_round1, (ad 2, .inl (dA 0, 2982, .inl b_all)), (ad 17, .inl (dA 0, 900, .inl b_reckoned)), (ad 18, .inl (dA 0, 6, .inl b_words))] H := hP
  have hD : va_D A [zr_o ad f_thrown f_taped f_at f_behind f_size f_kind f_number f_wrong f_wrongAt f_faultKind f_faultPlace f_reading f_toldWhy f_x f_standMany f_bestMany f_tail f_round1, (ad 2, .inl (dA 0, 2982, .inl b_all)), (ad 17, .inl (dA 0, 900, .inl b_reckoned)), (ad 18, .inl (dA 0, 6, .inl b_words))] := hD
  refine lv_istore (lv' := [(4, .int v1), (0, .ref (ad 0)), (1, .int p1), (2, .int p2), (3, .int p3)]) (pc := 4) hx hb dX11_whyBy_4 hl (by decide) rfl (fun ls hl => ?_)
  refine lv_iload_n (pc := 6) hx hb dX11_whyBy_6 rfl (lv_at hl 2 rfl) ?_
  obtain ⟨v2, hv2, hf⟩ := zc_1 hf
  refine zw_Si (pc := 7) (wc := []) (wr := [zr_o ad f_thrown f_taped f_at f_behind f_size f_kind f_number f_wrong f_wrongAt f_faultKind f_faultPlace f_reading f_toldWhy f_x f_standMany f_bestMany f_tail f_round1, (ad 2, .inl (dA 0, 2982, .inl b_all)), (ad 17, .inl (dA 0, 900, .inl b_reckoned)), (ad 18, .inl (dA 0, 6, .inl b_words))]) (w1 := []) (As := [.int p1]) (rest := []) ⟨hx, hb, hml, hown, ht⟩ (zt_X11_hasIn l dC dI dA ad _ p1 v2 hv2) (cwS 1 ht (zr_S zr_219 zr_220 zr_36 zr_211) rfl rfl rfl zk_X11_hasIn ⟨Nat.le_of_ble_eq_true rfl, Nat.le_of_ble_eq_true rfl⟩) hK hP hD hS hA [] [0, 1, 2, 3] (by decide) (by decide) (by decide) rfl rfl rfl hl.1 (Nat.le_of_ble_eq_true rfl) dX11_whyBy_7 ⟨Nat.zero_le _, Nat.zero_le _⟩ rfl (fun H locs hP hD hS => ?_)
  have hP : va_P (dC, dI) zz_cls [zr_o ad f_thrown f_taped f_at f_behind f_size f_kind f_number f_wrong f_wrongAt f_faultKind f_faultPlace f_reading f_toldWhy f_x f_standMany f_bestMany f_tail f_round1, (ad 2, .inl (dA 0, 2982, .inl b_all)), (ad 17, .inl (dA 0, 900, .inl b_reckoned)), (ad 18, .inl (dA 0, 6, .inl b_words))] H := hP
  have hD : va_D A [zr_o ad f_thrown f_taped f_at f_behind f_size f_kind f_number f_wrong f_wrongAt f_faultKind f_faultPlace f_reading f_toldWhy f_x f_standMany f_bestMany f_tail f_round1, (ad 2, .inl (dA 0, 2982, .inl b_all)), (ad 17, .inl (dA 0, 900, .inl b_reckoned)), (ad 18, .inl (dA 0, 6, .inl b_words))] := hD
  refine lv_istore (lv' := [(5, .int v2), (4, .int v1), (0, .ref (ad 0)), (1, .int p1), (2, .int p2), (3, .int p3)]) (pc := 10) hx hb dX11_whyBy_10 hl (by decide) rfl (fun ls hl => ?_)
  refine lv_iload_n (pc := 12) hx hb dX11_whyBy_12 rfl (lv_at hl 4 rfl) ?_
  refine lv_if_ne (tgt := 18) (pc := 13) hx hb dX11_whyBy_13 rfl (fun hc => ?_) (fun hc => ?_)
  · have hf := za_f hf hc
    refine lv_iload_n (pc := 18) hx hb dX11_whyBy_18 rfl (lv_at hl 4 rfl) ?_
    refine lv_iconst (v := (1 : Int32)) (pc := 19) hx hb dX11_whyBy_19 (by decide) ?_
    refine lv_icmp_ne (tgt := 103) (pc := 20) hx hb dX11_whyBy_20 rfl (fun hc => ?_) (fun hc => ?_)
    · have hf := za_f hf hc
      refine lv_iload_n (pc := 103) hx hb dX11_whyBy_103 rfl (lv_at hl 4 rfl) ?_
      refine lv_iconst (v := (2 : Int32)) (pc := 104) hx hb dX11_whyBy_104 (by decide) ?_
      refine lv_icmp_ne (tgt := 136) (pc := 105) hx hb dX11_whyBy_105 rfl (fun hc => ?_) (fun hc => ?_)
      · have hf := za_f hf hc
        refine lv_iload_n (pc := 136) hx hb dX11_whyBy_136 rfl (lv_at hl 4 rfl) ?_
        refine lv_iconst (v := (3 : Int32)) (pc := 137) hx hb dX11_whyBy_137 (by decide) ?_
        refine lv_isub (pc := 138) hx hb dX11_whyBy_138 ?_
        refine lv_bipush (v := (6 : Int32)) (pc := 139) hx hb dX11_whyBy_139 (by decide) ?_
        refine lv_irem (pc := 141) hx hb dX11_whyBy_141 (by decide) ?_
        obtain ⟨v13, hv13, hf⟩ := zc_1 hf
        refine zw_top (hv13) ?_
        refine lv_istore (lv' := [(6, .int v13), (5, .int v2), (4, .int v1), (0, .ref (ad 0)), (1, .int p1), (2, .int p2), (3, .int p3)]) (pc := 142) hx hb dX11_whyBy_142 hl (by decide) rfl (fun ls hl => ?_)
        refine lv_iload_n (pc := 144) hx hb dX11_whyBy_144 rfl (lv_at hl 5 rfl) ?_
        refine lv_bipush (v := (9 : Int32)) (pc := 145) hx hb dX11_whyBy_145 (by decide) ?_
        refine lv_icmp_ge (tgt := 167) (pc := 147) hx hb dX11_whyBy_147 rfl (fun hc => ?_) (fun hc => ?_)
        · have hf := za_t hf hc
          refine lv_iload (pc := 167) hx hb dX11_whyBy_167 (lv_at hl 1 rfl) ?_
          refine lv_i2l (pc := 169) hx hb dX11_whyBy_169 rfl ?_
          refine lv_iload (pc := 170) hx hb dX11_whyBy_170 (lv_at hl 0 rfl) ?_
          obtain ⟨v14, hv14, hf⟩ := zc_1 hf
          refine zw_Si (pc := 172) (wc := []) (wr := [zr_o ad f_thrown f_taped f_at f_behind f_size f_kind f_number f_wrong f_wrongAt f_faultKind f_faultPlace f_reading f_toldWhy f_x f_standMany f_bestMany f_tail f_round1, (ad 2, .inl (dA 0, 2982, .inl b_all)), (ad 17, .inl (dA 0, 900, .inl b_reckoned)), (ad 18, .inl (dA 0, 6, .inl b_words))]) (w1 := []) (As := [.long (Int32.toInt64 v2), .int v13]) (rest := []) ⟨hx, hb, hml, hown, ht⟩ (zt_X11_isIn l dC dI dA ad _ (Int32.toInt64 v2) v13 v14 hv14) (cwS 2 ht (zr_S zr_246 zr_247 zr_36 zr_127) rfl rfl rfl zk_X11_isIn ⟨Nat.le_of_ble_eq_true rfl, Nat.le_of_ble_eq_true rfl⟩) hK hP hD hS hA [] [0, 1, 2, 3] (by decide) (by decide) (by decide) rfl rfl rfl hl.1 (Nat.le_of_ble_eq_true rfl) dX11_whyBy_172 ⟨Nat.zero_le _, Nat.zero_le _⟩ rfl (fun H locs hP hD hS => ?_)
          have hP : va_P (dC, dI) zz_cls [zr_o ad f_thrown f_taped f_at f_behind f_size f_kind f_number f_wrong f_wrongAt f_faultKind f_faultPlace f_reading f_toldWhy f_x f_standMany f_bestMany f_tail f_round1, (ad 2, .inl (dA 0, 2982, .inl b_all)), (ad 17, .inl (dA 0, 900, .inl b_reckoned)), (ad 18, .inl (dA 0, 6, .inl b_words))] H := hP
          have hD : va_D A [zr_o ad f_thrown f_taped f_at f_behind f_size f_kind f_number f_wrong f_wrongAt f_faultKind f_faultPlace f_reading f_toldWhy f_x f_standMany f_bestMany f_tail f_round1, (ad 2, .inl (dA 0, 2982, .inl b_all)), (ad 17, .inl (dA 0, 900, .inl b_reckoned)), (ad 18, .inl (dA 0, 6, .inl b_words))] := hD
          refine lv_if_ne (tgt := 197) (pc := 175) hx hb dX11_whyBy_175 rfl (fun hc => ?_) (fun hc => ?_)
          · have hf := za_f hf hc
            refine lv_iconst (v := (2 : Int32)) (pc := 197) hx hb dX11_whyBy_197 (by decide) ?_
            obtain ⟨rfl, rfl, rfl⟩ := zi_3 hf
            exact W.iret (pc := 198) hx hb hr (fun t ht hW => ⟨⟨_, (), rfl, rfl, zz_Bi (by rw [ht]; exact hP) (va_K.moved hW.alike hK) (hD)⟩, hS.F ht⟩) hS.2.2 dX11_whyBy_198
          · have hf := za_t hf hc
            refine lv_aload_n (pc := 178) hx hb dX11_whyBy_178 rfl (lv_at hl 3 rfl) ?_
            refine va_get (pc := 179) (D := (dC, dI)) (ci := 0) (v := .ref (ad 2)) (C := RX11) (T := TX11) (N := 42) hx hb ht zr_lay hown hK hP 0 rfl rfl 1 (by decide) (ht _ zr_6) (fun _ h9 => h9) rfl dX11_whyBy_179 ?_
            refine lv_bipush (v := (19 : Int32)) (pc := 182) hx hb dX11_whyBy_182 (by decide) ?_
            refine lv_iload (pc := 184) hx hb dX11_whyBy_184 (lv_at hl 2 rfl) ?_
            refine lv_iadd (pc := 186) hx hb dX11_whyBy_186 ?_
            obtain ⟨v15, hv15, hf⟩ := zc_1 hf
            refine zw_iald (pc := 187) hx hb hK hP 1 0 rfl rfl hv15 dX11_whyBy_187 ?_
            refine lv_i2l (pc := 188) hx hb dX11_whyBy_188 rfl ?_
            refine lv_iload (pc := 189) hx hb dX11_whyBy_189 (lv_at hl 0 rfl) ?_
            obtain ⟨v16, hv16, hf⟩ := zc_1 hf
            refine zw_Si (pc := 191) (wc := []) (wr := [zr_o ad f_thrown f_taped f_at f_behind f_size f_kind f_number f_wrong f_wrongAt f_faultKind f_faultPlace f_reading f_toldWhy f_x f_standMany f_bestMany f_tail f_round1, (ad 2, .inl (dA 0, 2982, .inl b_all)), (ad 17, .inl (dA 0, 900, .inl b_reckoned)), (ad 18, .inl (dA 0, 6, .inl b_words))]) (w1 := []) (As := [.long (Int32.toInt64 v15), .int v13]) (rest := []) ⟨hx, hb, hml, hown, ht⟩ (zt_X11_isIn l dC dI dA ad _ (Int32.toInt64 v15) v13 v16 hv16) (cwS 2 ht (zr_S zr_246 zr_247 zr_36 zr_127) rfl rfl rfl zk_X11_isIn ⟨Nat.le_of_ble_eq_true rfl, Nat.le_of_ble_eq_true rfl⟩) hK hP hD hS hA [] [0, 1, 2, 3] (by decide) (by decide) (by decide) rfl rfl rfl hl.1 (Nat.le_of_ble_eq_true rfl) dX11_whyBy_191 ⟨Nat.zero_le _, Nat.zero_le _⟩ rfl (fun H locs hP hD hS => ?_)
            have hP : va_P (dC, dI) zz_cls [zr_o ad f_thrown f_taped f_at f_behind f_size f_kind f_number f_wrong f_wrongAt f_faultKind f_faultPlace f_reading f_toldWhy f_x f_standMany f_bestMany f_tail f_round1, (ad 2, .inl (dA 0, 2982, .inl b_all)), (ad 17, .inl (dA 0, 900, .inl b_reckoned)), (ad 18, .inl (dA 0, 6, .inl b_words))] H := hP
            have hD : va_D A [zr_o ad f_thrown f_taped f_at f_behind f_size f_kind f_number f_wrong f_wrongAt f_faultKind f_faultPlace f_reading f_toldWhy f_x f_standMany f_bestMany f_tail f_round1, (ad 2, .inl (dA 0, 2982, .inl b_all)), (ad 17, .inl (dA 0, 900, .inl b_reckoned)), (ad 18, .inl (dA 0, 6, .inl b_words))] := hD
            refine lv_if_ne (tgt := 199) (pc := 194) hx hb dX11_whyBy_194 rfl (fun hc => ?_) (fun hc => ?_)
            · have hf := za_f hf hc
              refine lv_aload_n (pc := 199) hx hb dX11_whyBy_199 rfl (lv_at hl 3 rfl) ?_
              refine va_get (pc := 200) (D := (dC, dI)) (ci := 0) (v := .ref (ad 2)) (C := RX11) (T := TX11) (N := 42) hx hb ht zr_lay hown hK hP 0 rfl rfl 1 (by decide) (ht _ zr_6) (fun _ h9 => h9) rfl dX11_whyBy_200 ?_
              refine lv_bipush (v := (10 : Int32)) (pc := 203) hx hb dX11_whyBy_203 (by decide) ?_
              refine lv_iload (pc := 205) hx hb dX11_whyBy_205 (lv_at hl 2 rfl) ?_
              refine lv_iadd (pc := 207) hx hb dX11_whyBy_207 ?_
              obtain ⟨v17, hv17, hf⟩ := zc_1 hf
              refine zw_iald (pc := 208) hx hb hK hP 1 0 rfl rfl hv17 dX11_whyBy_208 ?_
              refine lv_i2l (pc := 209) hx hb dX11_whyBy_209 rfl ?_
              refine lv_iload (pc := 210) hx hb dX11_whyBy_210 (lv_at hl 0 rfl) ?_
              obtain ⟨v18, hv18, hf⟩ := zc_1 hf
              refine zw_Si (pc := 212) (wc := []) (wr := [zr_o ad f_thrown f_taped f_at f_behind f_size f_kind f_number f_wrong f_wrongAt f_faultKind f_faultPlace f_reading f_toldWhy f_x f_standMany f_bestMany f_tail f_round1, (ad 2, .inl (dA 0, 2982, .inl b_all)), (ad 17, .inl (dA 0, 900, .inl b_reckoned)), (ad 18, .inl (dA 0, 6, .inl b_words))]) (w1 := []) (As := [.long (Int32.toInt64 v17), .int v13]) (rest := []) ⟨hx, hb, hml, hown, ht⟩ (zt_X11_isIn l dC dI dA ad _ (Int32.toInt64 v17) v13 v18 hv18) (cwS 2 ht (zr_S zr_246 zr_247 zr_36 zr_127) rfl rfl rfl zk_X11_isIn ⟨Nat.le_of_ble_eq_true rfl, Nat.le_of_ble_eq_true rfl⟩) hK hP hD hS hA [] [0, 1, 2, 3] (by decide) (by decide) (by decide) rfl rfl rfl hl.1 (Nat.le_of_ble_eq_true rfl) dX11_whyBy_212 ⟨Nat.zero_le _, Nat.zero_le _⟩ rfl (fun H locs hP hD hS => ?_)
              have hP : va_P (dC, dI) zz_cls [zr_o ad f_thrown f_taped f_at f_behind f_size f_kind f_number f_wrong f_wrongAt f_faultKind f_faultPlace f_reading f_toldWhy f_x f_standMany f_bestMany f_tail f_round1, (ad 2, .inl (dA 0, 2982, .inl b_all)), (ad 17, .inl (dA 0, 900, .inl b_reckoned)), (ad 18, .inl (dA 0, 6, .inl b_words))] H := hP
              have hD : va_D A [zr_o ad f_thrown f_taped f_at f_behind f_size f_kind f_number f_wrong f_wrongAt f_faultKind f_faultPlace f_reading f_toldWhy f_x f_standMany f_bestMany f_tail f_round1, (ad 2, .inl (dA 0, 2982, .inl b_all)), (ad 17, .inl (dA 0, 900, .inl b_reckoned)), (ad 18, .inl (dA 0, 6, .inl b_words))] := hD
              refine lv_if_eq (tgt := 222) (pc := 215) hx hb dX11_whyBy_215 rfl (fun hc => ?_) (fun hc => ?_)
              · have hf := za_t hf hc
                refine lv_iconst (v := (0 : Int32)) (pc := 222) hx hb dX11_whyBy_222 (by decide) ?_
                obtain ⟨rfl, rfl, rfl⟩ := zi_3 hf
                exact W.iret (pc := 223) hx hb hr (fun t ht hW => ⟨⟨_, (), rfl, rfl, zz_Bi (by rw [ht]; exact hP) (va_K.moved hW.alike hK) (hD)⟩, hS.F ht⟩) hS.2.2 dX11_whyBy_223
              · have hf := za_f hf hc
                refine lv_iconst (v := (3 : Int32)) (pc := 218) hx hb dX11_whyBy_218 (by decide) ?_
                refine lv_goto (tgt := 223) (pc := 219) hx hb dX11_whyBy_219 rfl ?_
                obtain ⟨rfl, rfl, rfl⟩ := zi_3 hf
                exact W.iret (pc := 223) hx hb hr (fun t ht hW => ⟨⟨_, (), rfl, rfl, zz_Bi (by rw [ht]; exact hP) (va_K.moved hW.alike hK) (hD)⟩, hS.F ht⟩) hS.2.2 dX11_whyBy_223
            · have hf := za_t hf hc
              refine lv_iconst (v := (2 : Int32)) (pc := 197) hx hb dX11_whyBy_197 (by decide) ?_
              obtain ⟨rfl, rfl, rfl⟩ := zi_3 hf
              exact W.iret (pc := 198) hx hb hr (fun t ht hW => ⟨⟨_, (), rfl, rfl, zz_Bi (by rw [ht]; exact hP) (va_K.moved hW.alike hK) (hD)⟩, hS.F ht⟩) hS.2.2 dX11_whyBy_198
        · have hf := za_f hf hc
          refine lv_iload (pc := 150) hx hb dX11_whyBy_150 (lv_at hl 1 rfl) ?_
          refine lv_i2l (pc := 152) hx hb dX11_whyBy_152 rfl ?_
          refine lv_iload (pc := 153) hx hb dX11_whyBy_153 (lv_at hl 0 rfl) ?_
          obtain ⟨v19, hv19, hf⟩ := zc_1 hf
          refine zw_Si (pc := 155) (wc := []) (wr := [zr_o ad f_thrown f_taped f_at f_behind f_size f_kind f_number f_wrong f_wrongAt f_faultKind f_faultPlace f_reading f_toldWhy f_x f_standMany f_bestMany f_tail f_round1, (ad 2, .inl (dA 0, 2982, .inl b_all)), (ad 17, .inl (dA 0, 900, .inl b_reckoned)), (ad 18, .inl (dA 0, 6, .inl b_words))]) (w1 := []) (As := [.long (Int32.toInt64 v2), .int v13]) (rest := []) ⟨hx, hb, hml, hown, ht⟩ (zt_X11_isIn l dC dI dA ad _ (Int32.toInt64 v2) v13 v19 hv19) (cwS 2 ht (zr_S zr_246 zr_247 zr_36 zr_127) rfl rfl rfl zk_X11_isIn ⟨Nat.le_of_ble_eq_true rfl, Nat.le_of_ble_eq_true rfl⟩) hK hP hD hS hA [] [0, 1, 2, 3] (by decide) (by decide) (by decide) rfl rfl rfl hl.1 (Nat.le_of_ble_eq_true rfl) dX11_whyBy_155 ⟨Nat.zero_le _, Nat.zero_le _⟩ rfl (fun H locs hP hD hS => ?_)
          have hP : va_P (dC, dI) zz_cls [zr_o ad f_thrown f_taped f_at f_behind f_size f_kind f_number f_wrong f_wrongAt f_faultKind f_faultPlace f_reading f_toldWhy f_x f_standMany f_bestMany f_tail f_round1, (ad 2, .inl (dA 0, 2982, .inl b_all)), (ad 17, .inl (dA 0, 900, .inl b_reckoned)), (ad 18, .inl (dA 0, 6, .inl b_words))] H := hP
          have hD : va_D A [zr_o ad f_thrown f_taped f_at f_behind f_size f_kind f_number f_wrong f_wrongAt f_faultKind f_faultPlace f_reading f_toldWhy f_x f_standMany f_bestMany f_tail f_round1, (ad 2, .inl (dA 0, 2982, .inl b_all)), (ad 17, .inl (dA 0, 900, .inl b_reckoned)), (ad 18, .inl (dA 0, 6, .inl b_words))] := hD
          refine lv_if_eq (tgt := 165) (pc := 158) hx hb dX11_whyBy_158 rfl (fun hc => ?_) (fun hc => ?_)
          · have hf := za_t hf hc
            refine lv_iconst (v := (2 : Int32)) (pc := 165) hx hb dX11_whyBy_165 (by decide) ?_
            obtain ⟨rfl, rfl, rfl⟩ := zi_3 hf
            exact W.iret (pc := 166) hx hb hr (fun t ht hW => ⟨⟨_, (), rfl, rfl, zz_Bi (by rw [ht]; exact hP) (va_K.moved hW.alike hK) (hD)⟩, hS.F ht⟩) hS.2.2 dX11_whyBy_166
          · have hf := za_f hf hc
            refine lv_iconst (v := (0 : Int32)) (pc := 161) hx hb dX11_whyBy_161 (by decide) ?_
            refine lv_goto (tgt := 166) (pc := 162) hx hb dX11_whyBy_162 rfl ?_
            obtain ⟨rfl, rfl, rfl⟩ := zi_3 hf
            exact W.iret (pc := 166) hx hb hr (fun t ht hW => ⟨⟨_, (), rfl, rfl, zz_Bi (by rw [ht]; exact hP) (va_K.moved hW.alike hK) (hD)⟩, hS.F ht⟩) hS.2.2 dX11_whyBy_166
      · have hf := za_t hf hc
        refine lv_iload (pc := 108) hx hb dX11_whyBy_108 (lv_at hl 1 rfl) ?_
        refine lv_if_ne (tgt := 117) (pc := 110) hx hb dX11_whyBy_110 rfl (fun hc => ?_) (fun hc => ?_)
        · have hf := za_f hf hc
          refine lv_aload_n (pc := 117) hx hb dX11_whyBy_117 rfl (lv_at hl 2 rfl) ?_
          refine lv_iload (pc := 118) hx hb dX11_whyBy_118 (lv_at hl 1 rfl) ?_
          refine lv_iconst (v := (1 : Int32)) (pc := 120) hx hb dX11_whyBy_120 (by decide) ?_
          refine lv_isub (pc := 121) hx hb dX11_whyBy_121 ?_
          refine lv_iload (pc := 122) hx hb dX11_whyBy_122 (lv_at hl 0 rfl) ?_
          obtain ⟨v12, hv12, hf⟩ := zc_1 hf
          refine zw_Vi (pc := 124) (wc := [zr_o ad f_thrown f_taped f_at f_behind f_size f_kind f_number f_wrong f_wrongAt f_faultKind f_faultPlace f_reading f_toldWhy f_x f_standMany f_bestMany f_tail f_round1, (ad 2, .inl (dA 0, 2982, .inl b_all))]) (wr := [(ad 17, .inl (dA 0, 900, .inl b_reckoned)), (ad 18, .inl (dA 0, 6, .inl b_words))]) (w1 := [zr_o ad f_thrown f_taped f_at f_behind f_size f_kind f_number f_wrong f_wrongAt f_faultKind f_faultPlace f_reading f_toldWhy f_x f_standMany f_bestMany f_tail f_round1, (ad 2, .inl (dA 0, 2982, .inl b_all))]) (As := [.int (v1 - (1 : Int32)), .int v2]) (rest := []) ⟨hx, hb, hml, hown, ht⟩ (zt_X11_isBarred l dC dI dA ad _ f_thrown f_taped f_at f_behind f_size f_kind f_number f_wrong f_wrongAt f_faultKind f_faultPlace f_reading f_toldWhy f_x f_standMany f_bestMany f_tail f_round1 b_all (v1 - (1 : Int32)) v2 v12 hv12) (cwV 2 ht (zr_V zr_240 zr_241 zr_242 zr_36 zr_239) rfl rfl rfl zk_X11_isBarred ⟨Nat.le_of_ble_eq_true rfl, Nat.le_of_ble_eq_true rfl⟩) rfl rfl hK hP hD hS hA [0, 1] [2, 3] (by decide) (by decide) (by decide) rfl rfl rfl hl.1 (Nat.le_of_ble_eq_true rfl) dX11_whyBy_124 ⟨Nat.zero_le _, Nat.zero_le _⟩ rfl (fun H locs hP hD hS => ?_)
          have hP : va_P (dC, dI) zz_cls [(ad 17, .inl (dA 0, 900, .inl b_reckoned)), (ad 18, .inl (dA 0, 6, .inl b_words)), zr_o ad f_thrown f_taped f_at f_behind f_size f_kind f_number f_wrong f_wrongAt f_faultKind f_faultPlace f_reading f_toldWhy f_x f_standMany f_bestMany f_tail f_round1, (ad 2, .inl (dA 0, 2982, .inl b_all))] H := hP
          have hD : va_D A [(ad 17, .inl (dA 0, 900, .inl b_reckoned)), (ad 18, .inl (dA 0, 6, .inl b_words)), zr_o ad f_thrown f_taped f_at f_behind f_size f_kind f_number f_wrong f_wrongAt f_faultKind f_faultPlace f_reading f_toldWhy f_x f_standMany f_bestMany f_tail f_round1, (ad 2, .inl (dA 0, 2982, .inl b_all))] := hD
          refine lv_if_eq (tgt := 134) (pc := 127) hx hb dX11_whyBy_127 rfl (fun hc => ?_) (fun hc => ?_)
          · have hf := za_t hf hc
            refine lv_iconst (v := (0 : Int32)) (pc := 134) hx hb dX11_whyBy_134 (by decide) ?_
            obtain ⟨rfl, rfl, rfl⟩ := zi_3 hf
            exact W.iret (pc := 135) hx hb hr (fun t ht hW => ⟨⟨_, (), rfl, rfl, zz_Bi (by rw [ht]; exact hP.sub [2, 3, 0, 1] rfl) (va_K.moved hW.alike hK) (hD.sub [2, 3, 0, 1] (by decide) rfl)⟩, hS.F ht⟩) hS.2.2 dX11_whyBy_135
          · have hf := za_f hf hc
            refine lv_iconst (v := (3 : Int32)) (pc := 130) hx hb dX11_whyBy_130 (by decide) ?_
            refine lv_goto (tgt := 135) (pc := 131) hx hb dX11_whyBy_131 rfl ?_
            obtain ⟨rfl, rfl, rfl⟩ := zi_3 hf
            exact W.iret (pc := 135) hx hb hr (fun t ht hW => ⟨⟨_, (), rfl, rfl, zz_Bi (by rw [ht]; exact hP.sub [2, 3, 0, 1] rfl) (va_K.moved hW.alike hK) (hD.sub [2, 3, 0, 1] (by decide) rfl)⟩, hS.F ht⟩) hS.2.2 dX11_whyBy_135
        · have hf := za_t hf hc
          refine lv_iconst (v := (2 : Int32)) (pc := 113) hx hb dX11_whyBy_113 (by decide) ?_
          refine lv_goto (tgt := 135) (pc := 114) hx hb dX11_whyBy_114 rfl ?_
          obtain ⟨rfl, rfl, rfl⟩ := zi_3 hf
          exact W.iret (pc := 135) hx hb hr (fun t ht hW => ⟨⟨_, (), rfl, rfl, zz_Bi (by rw [ht]; exact hP) (va_K.moved hW.alike hK) (hD)⟩, hS.F ht⟩) hS.2.2 dX11_whyBy_135
    · have hf := za_t hf hc
      refine lv_iload (pc := 23) hx hb dX11_whyBy_23 (lv_at hl 1 rfl) ?_
      refine lv_aload_n (pc := 25) hx hb dX11_whyBy_25 rfl (lv_at hl 2 rfl) ?_
      refine va_get (pc := 26) (D := (dC, dI)) (ci := 0) (v := .ref (ad 2)) (C := RX11) (T := TX11) (N := 42) hx hb ht zr_lay hown hK hP 0 rfl rfl 1 (by decide) (ht _ zr_6) (fun _ h9 => h9) rfl dX11_whyBy_26 ?_
      refine lv_iconst (v := (1 : Int32)) (pc := 29) hx hb dX11_whyBy_29 (by decide) ?_
      obtain ⟨v3, hv3, hf⟩ := zc_1 hf
      refine zw_iald (pc := 30) hx hb hK hP 1 0 rfl rfl hv3 dX11_whyBy_30 ?_
      refine lv_icmp_ne (tgt := 36) (pc := 31) hx hb dX11_whyBy_31 rfl (fun hc => ?_) (fun hc => ?_)
      · have hf := za_f hf hc
        refine lv_aload_n (pc := 36) hx hb dX11_whyBy_36 rfl (lv_at hl 2 rfl) ?_
        refine lv_iload (pc := 37) hx hb dX11_whyBy_37 (lv_at hl 1 rfl) ?_
        refine lv_iconst (v := (1 : Int32)) (pc := 39) hx hb dX11_whyBy_39 (by decide) ?_
        refine lv_iadd (pc := 40) hx hb dX11_whyBy_40 ?_
        refine lv_iload (pc := 41) hx hb dX11_whyBy_41 (lv_at hl 0 rfl) ?_
        obtain ⟨v4, hv4, hf⟩ := zc_1 hf
        refine zw_Vi (pc := 43) (wc := [zr_o ad f_thrown f_taped f_at f_behind f_size f_kind f_number f_wrong f_wrongAt f_faultKind f_faultPlace f_reading f_toldWhy f_x f_standMany f_bestMany f_tail f_round1, (ad 2, .inl (dA 0, 2982, .inl b_all))]) (wr := [(ad 17, .inl (dA 0, 900, .inl b_reckoned)), (ad 18, .inl (dA 0, 6, .inl b_words))]) (w1 := [zr_o ad f_thrown f_taped f_at f_behind f_size f_kind f_number f_wrong f_wrongAt f_faultKind f_faultPlace f_reading f_toldWhy f_x f_standMany f_bestMany f_tail f_round1, (ad 2, .inl (dA 0, 2982, .inl b_all))]) (As := [.int (v1 + (1 : Int32)), .int v2]) (rest := []) ⟨hx, hb, hml, hown, ht⟩ (zt_X11_isBarred l dC dI dA ad _ f_thrown f_taped f_at f_behind f_size f_kind f_number f_wrong f_wrongAt f_faultKind f_faultPlace f_reading f_toldWhy f_x f_standMany f_bestMany f_tail f_round1 b_all (v1 + (1 : Int32)) v2 v4 hv4) (cwV 2 ht (zr_V zr_240 zr_241 zr_242 zr_36 zr_239) rfl rfl rfl zk_X11_isBarred ⟨Nat.le_of_ble_eq_true rfl, Nat.le_of_ble_eq_true rfl⟩) rfl rfl hK hP hD hS hA [0, 1] [2, 3] (by decide) (by decide) (by decide) rfl rfl rfl hl.1 (Nat.le_of_ble_eq_true rfl) dX11_whyBy_43 ⟨Nat.zero_le _, Nat.zero_le _⟩ rfl (fun H locs hP hD hS => ?_)
        have hP : va_P (dC, dI) zz_cls [(ad 17, .inl (dA 0, 900, .inl b_reckoned)), (ad 18, .inl (dA 0, 6, .inl b_words)), zr_o ad f_thrown f_taped f_at f_behind f_size f_kind f_number f_wrong f_wrongAt f_faultKind f_faultPlace f_reading f_toldWhy f_x f_standMany f_bestMany f_tail f_round1, (ad 2, .inl (dA 0, 2982, .inl b_all))] H := hP
        have hD : va_D A [(ad 17, .inl (dA 0, 900, .inl b_reckoned)), (ad 18, .inl (dA 0, 6, .inl b_words)), zr_o ad f_thrown f_taped f_at f_behind f_size f_kind f_number f_wrong f_wrongAt f_faultKind f_faultPlace f_reading f_toldWhy f_x f_standMany f_bestMany f_tail f_round1, (ad 2, .inl (dA 0, 2982, .inl b_all))] := hD
        refine lv_if_eq (tgt := 51) (pc := 46) hx hb dX11_whyBy_46 rfl (fun hc => ?_) (fun hc => ?_)
        · have hf := za_t hf hc
          refine lv_aload_n (pc := 51) hx hb dX11_whyBy_51 rfl (lv_at hl 2 rfl) ?_
          refine va_get (pc := 52) (D := (dC, dI)) (ci := 0) (v := .ref (ad 2)) (C := RX11) (T := TX11) (N := 42) hx hb ht zr_lay hown hK hP 2 rfl rfl 1 (by decide) (ht _ zr_6) (fun _ h9 => h9) rfl dX11_whyBy_52 ?_
          refine lv_iconst (v := (5 : Int32)) (pc := 55) hx hb dX11_whyBy_55 (by decide) ?_
          obtain ⟨v5, hv5, hf⟩ := zc_1 hf
          refine zw_iald (pc := 56) hx hb hK hP 3 0 rfl rfl hv5 dX11_whyBy_56 ?_
          obtain ⟨v9, a10, a11, hj, hf⟩ := zc_3 hf
          refine zj_join (pcJ := 90) (stk := [.int v9]) (X := fun H locs ls => lv_has ls 7 [] ∧ va_P (dC, dI) zz_cls [zr_o ad f_thrown f_taped f_at f_behind f_size f_kind f_number f_wrong f_wrongAt f_faultKind f_faultPlace f_reading f_toldWhy f_x f_standMany f_bestMany f_tail f_round1, (ad 2, .inl (dA 0, 2982, .inl b_all)), (ad 17, .inl (dA 0, 900, .inl a10)), (ad 18, .inl (dA 0, 6, .inl a11))] H ∧ va_D A [zr_o ad f_thrown f_taped f_at f_behind f_size f_kind f_number f_wrong f_wrongAt f_faultKind f_faultPlace f_reading f_toldWhy f_x f_standMany f_bestMany f_tail f_round1, (ad 2, .inl (dA 0, 2982, .inl b_all)), (ad 17, .inl (dA 0, 900, .inl a10)), (ad 18, .inl (dA 0, 6, .inl a11))] ∧ va_S A s.heap H locs) (fun H locs ls hX => ?_) (fun J90 => ?_)
          · obtain ⟨hl, hP, hD, hS⟩ := hX
            clear hj
            refine lv_istore (lv' := [(6, .int v9)]) (pc := 90) hx hb dX11_whyBy_90 hl (by decide) rfl (fun ls hl => ?_)
            refine lv_iload (pc := 92) hx hb dX11_whyBy_92 (lv_at hl 0 rfl) ?_
            refine lv_if_eq (tgt := 101) (pc := 94) hx hb dX11_whyBy_94 rfl (fun hc => ?_) (fun hc => ?_)
            · have hf := za_t hf hc
              refine lv_iconst (v := (4 : Int32)) (pc := 101) hx hb dX11_whyBy_101 (by decide) ?_
              obtain ⟨rfl, rfl, rfl⟩ := zi_3 hf
              exact W.iret (pc := 102) hx hb hr (fun t ht hW => ⟨⟨_, (), rfl, rfl, zz_Bi (by rw [ht]; exact hP) (va_K.moved hW.alike hK) (hD)⟩, hS.F ht⟩) hS.2.2 dX11_whyBy_102
            · have hf := za_f hf hc
              refine lv_iconst (v := (0 : Int32)) (pc := 97) hx hb dX11_whyBy_97 (by decide) ?_
              refine lv_goto (tgt := 102) (pc := 98) hx hb dX11_whyBy_98 rfl ?_
              obtain ⟨rfl, rfl, rfl⟩ := zi_3 hf
              exact W.iret (pc := 102) hx hb hr (fun t ht hW => ⟨⟨_, (), rfl, rfl, zz_Bi (by rw [ht]; exact hP) (va_K.moved hW.alike hK) (hD)⟩, hS.F ht⟩) hS.2.2 dX11_whyBy_102
          · clear hf
            have hf := hj
            clear hj
            refine lv_if_ne (tgt := 74) (pc := 57) hx hb dX11_whyBy_57 rfl (fun hc => ?_) (fun hc => ?_)
            · have hf := za_f hf hc
              refine lv_aload_n (pc := 74) hx hb dX11_whyBy_74 rfl (lv_at hl 2 rfl) ?_
              refine lv_iconst (v := (1 : Int32)) (pc := 75) hx hb dX11_whyBy_75 (by decide) ?_
              refine lv_iload_n (pc := 76) hx hb dX11_whyBy_76 rfl (lv_at hl 3 rfl) ?_
              refine lv_iload_n (pc := 77) hx hb dX11_whyBy_77 rfl (lv_at hl 5 rfl) ?_
              obtain ⟨v6, a7, a8, hv6, hf⟩ := zc_3 hf
              refine zw_Vi (pc := 78) (wc := [zr_o ad f_thrown f_taped f_at f_behind f_size f_kind f_number f_wrong f_wrongAt f_faultKind f_faultPlace f_reading f_toldWhy f_x f_standMany f_bestMany f_tail f_round1, (ad 2, .inl (dA 0, 2982, .inl b_all)), (ad 17, .inl (dA 0, 900, .inl b_reckoned)), (ad 18, .inl (dA 0, 6, .inl b_words))]) (wr := []) (w1 := [zr_o ad f_thrown f_taped f_at f_behind f_size f_kind f_number f_wrong f_wrongAt f_faultKind f_faultPlace f_reading f_toldWhy f_x f_standMany f_bestMany f_tail f_round1, (ad 2, .inl (dA 0, 2982, .inl b_all)), (ad 17, .inl (dA 0, 900, .inl a7)), (ad 18, .inl (dA 0, 6, .inl a8))]) (As := [.int (1 : Int32), .int p1, .int p3]) (rest := []) ⟨hx, hb, hml, hown, ht⟩ (zt_X11_reckons l dC dI dA ad _ n f_thrown f_taped f_at f_behind f_size f_kind f_number f_wrong f_wrongAt f_faultKind f_faultPlace f_reading f_toldWhy f_x f_standMany f_bestMany f_tail f_round1 b_all b_reckoned b_words (1 : Int32) p1 p3 v6 a7 a8 hv6) (cwV 3 ht (zr_V zr_243 zr_244 zr_245 zr_36 zr_224) rfl rfl rfl zk_X11_reckons ⟨Nat.le_of_ble_eq_true rfl, Nat.le_of_ble_eq_true rfl⟩) rfl rfl hK hP hD hS hA [2, 3, 0, 1] [] (by decide) (by decide) (by decide) rfl rfl rfl hl.1 (Nat.le_of_ble_eq_true rfl) dX11_whyBy_78 ⟨Nat.zero_le _, Nat.zero_le _⟩ rfl (fun H locs hP hD hS => ?_)
              have hP : va_P (dC, dI) zz_cls [zr_o ad f_thrown f_taped f_at f_behind f_size f_kind f_number f_wrong f_wrongAt f_faultKind f_faultPlace f_reading f_toldWhy f_x f_standMany f_bestMany f_tail f_round1, (ad 2, .inl (dA 0, 2982, .inl b_all)), (ad 17, .inl (dA 0, 900, .inl a7)), (ad 18, .inl (dA 0, 6, .inl a8))] H := hP
              have hD : va_D A [zr_o ad f_thrown f_taped f_at f_behind f_size f_kind f_number f_wrong f_wrongAt f_faultKind f_faultPlace f_reading f_toldWhy f_x f_standMany f_bestMany f_tail f_round1, (ad 2, .inl (dA 0, 2982, .inl b_all)), (ad 17, .inl (dA 0, 900, .inl a7)), (ad 18, .inl (dA 0, 6, .inl a8))] := hD
              refine lv_iconst (v := (1 : Int32)) (pc := 81) hx hb dX11_whyBy_81 (by decide) ?_
              refine lv_icmp_ne (tgt := 89) (pc := 82) hx hb dX11_whyBy_82 rfl (fun hc => ?_) (fun hc => ?_)
              · have hf := za_f hf hc
                refine lv_iconst (v := (0 : Int32)) (pc := 89) hx hb dX11_whyBy_89 (by decide) ?_
                obtain ⟨rfl, rfl, rfl⟩ := zi_3 hf
                exact J90 _ _ _ ⟨lv_sub hl [] rfl, hP, hD, hS⟩
              · have hf := za_t hf hc
                refine lv_iconst (v := (1 : Int32)) (pc := 85) hx hb dX11_whyBy_85 (by decide) ?_
                refine lv_goto (tgt := 90) (pc := 86) hx hb dX11_whyBy_86 rfl ?_
                obtain ⟨rfl, rfl, rfl⟩ := zi_3 hf
                exact J90 _ _ _ ⟨lv_sub hl [] rfl, hP, hD, hS⟩
            · have hf := za_t hf hc
              refine lv_iload_n (pc := 60) hx hb dX11_whyBy_60 rfl (lv_at hl 3 rfl) ?_
              refine lv_iconst (v := (5 : Int32)) (pc := 61) hx hb dX11_whyBy_61 (by decide) ?_
              refine lv_irem (pc := 62) hx hb dX11_whyBy_62 (by decide) ?_
              refine lv_if_le (tgt := 70) (pc := 63) hx hb dX11_whyBy_63 rfl (fun hc => ?_) (fun hc => ?_)
              · have hf := za_t hf hc
                refine lv_iconst (v := (0 : Int32)) (pc := 70) hx hb dX11_whyBy_70 (by decide) ?_
                refine lv_goto (tgt := 90) (pc := 71) hx hb dX11_whyBy_71 rfl ?_
                obtain ⟨rfl, rfl, rfl⟩ := zi_3 hf
                exact J90 _ _ _ ⟨lv_sub hl [] rfl, hP.sub [2, 3, 0, 1] rfl, hD.sub [2, 3, 0, 1] (by decide) rfl, hS⟩
              · have hf := za_f hf hc
                refine lv_iconst (v := (1 : Int32)) (pc := 66) hx hb dX11_whyBy_66 (by decide) ?_
                refine lv_goto (tgt := 90) (pc := 67) hx hb dX11_whyBy_67 rfl ?_
                obtain ⟨rfl, rfl, rfl⟩ := zi_3 hf
                exact J90 _ _ _ ⟨lv_sub hl [] rfl, hP.sub [2, 3, 0, 1] rfl, hD.sub [2, 3, 0, 1] (by decide) rfl, hS⟩
        · have hf := za_f hf hc
          refine lv_iconst (v := (3 : Int32)) (pc := 49) hx hb dX11_whyBy_49 (by decide) ?_
          obtain ⟨rfl, rfl, rfl⟩ := zi_3 hf
          exact W.iret (pc := 50) hx hb hr (fun t ht hW => ⟨⟨_, (), rfl, rfl, zz_Bi (by rw [ht]; exact hP.sub [2, 3, 0, 1] rfl) (va_K.moved hW.alike hK) (hD.sub [2, 3, 0, 1] (by decide) rfl)⟩, hS.F ht⟩) hS.2.2 dX11_whyBy_50
      · have hf := za_t hf hc
        refine lv_iconst (v := (2 : Int32)) (pc := 34) hx hb dX11_whyBy_34 (by decide) ?_
        obtain ⟨rfl, rfl, rfl⟩ := zi_3 hf
        exact W.iret (pc := 35) hx hb hr (fun t ht hW => ⟨⟨_, (), rfl, rfl, zz_Bi (by rw [ht]; exact hP) (va_K.moved hW.alike hK) (hD)⟩, hS.F ht⟩) hS.2.2 dX11_whyBy_35
  · have hf := za_t hf hc
    refine lv_iconst (v := (0 : Int32)) (pc := 16) hx hb dX11_whyBy_16 (by decide) ?_
    obtain ⟨rfl, rfl, rfl⟩ := zi_3 hf
    exact W.iret (pc := 17) hx hb hr (fun t ht hW => ⟨⟨_, (), rfl, rfl, zz_Bi (by rw [ht]; exact hP) (va_K.moved hW.alike hK) (hD)⟩, hS.F ht⟩) hS.2.2 dX11_whyBy_17

def zf_X11_tiredTo (n : Nat) (b_all : (Nat → Int32)) (b_reckoned : (Nat → Int32)) (b_words : (Nat → Int32)) (p1 : Int32) (p2 : Int32) : Option (Int32 × (Nat → Int32) × (Nat → Int32)) :=
  zd_1 (za_ld b_all 2982 (4 : Int32)) (fun v1 =>
  zd_3 (
    if v1 = (1 : Int32) then
      zd_3 (zf_X11_reckons n b_all b_reckoned b_words (0 : Int32) p1 p2) (fun v2 a3 a4 =>
      some (v2, a3, a4))
    else
      some (((za_rem p1 (5 : Int32)) - (1 : Int32)), b_reckoned, b_words)) (fun v5 a6 a7 =>
  if 0 ≤ v5 then
    if v5 ≤ (4 : Int32) then
      some (v5, a6, a7)
    else
      some ((4 : Int32), a6, a7)
  else
    some ((0 : Int32), a6, a7)))
theorem zk_X11_tiredTo : yX11_tiredTo.cls = RX11 ∧ yX11_tiredTo.cls ≠ "java/lang/invoke/MethodHandle" ∧ yX11_tiredTo.cls ≠ "java/lang/invoke/VarHandle" ∧ (parseMethodDescriptor yX11_tiredTo.desc).map (fun d => d.parameters.length) = some 2 := by decide +kernel
set_option maxHeartbeats 4000000 in
set_option maxRecDepth 100000 in
theorem zt_X11_tiredTo (l : Launch) (dC : Nat → ClassId) (dI : Nat → Nat → Nat) (dA : Nat → ClassId) (ad : Nat → Nat) (sz : Nat) (n : Nat) (f_thrown f_taped f_at f_behind f_size f_kind f_number f_wrong f_wrongAt f_faultKind f_faultPlace f_reading f_toldWhy f_x f_standMany f_bestMany f_tail f_round1 : Int32) (b_all : (Nat → Int32)) (b_reckoned : (Nat → Int32)) (b_words : (Nat → Int32)) (p1 : Int32) (p2 : Int32) (r0 : Int32) (o1 : (Nat → Int32)) (o2 : (Nat → Int32)) (hf : zf_X11_tiredTo n b_all b_reckoned b_words p1 p2 = some (r0, o1, o2)) : Met l yX11_tiredTo (.code yX11_tiredTo cX11_tiredTo 4 (some .int) :: zr_T) ({ frames := 2, cells := 0, slots := 0, locals := 51 }) (va_Pc [.ref (ad 0), .int p1, .int p2] (zz_M dC dI dA [zr_o ad f_thrown f_taped f_at f_behind f_size f_kind f_number f_wrong f_wrongAt f_faultKind f_faultPlace f_reading f_toldWhy f_x f_standMany f_bestMany f_tail f_round1, (ad 2, .inl (dA 0, 2982, .inl b_all)), (ad 17, .inl (dA 0, 900, .inl b_reckoned)), (ad 18, .inl (dA 0, 6, .inl b_words))] sz)) (va_Qi (fun (r : Int32) (_ : Unit) => r = r0) (fun _ t => zz_B dC dI dA (va_A [zr_o ad f_thrown f_taped f_at f_behind f_size f_kind f_number f_wrong f_wrongAt f_faultKind f_faultPlace f_reading f_toldWhy f_x f_standMany f_bestMany f_tail f_round1, (ad 2, .inl (dA 0, 2982, .inl b_all)), (ad 17, .inl (dA 0, 900, .inl b_reckoned)), (ad 18, .inl (dA 0, 6, .inl b_words))] sz) [zr_o ad f_thrown f_taped f_at f_behind f_size f_kind f_number f_wrong f_wrongAt f_faultKind f_faultPlace f_reading f_toldWhy f_x f_standMany f_bestMany f_tail f_round1, (ad 2, .inl (dA 0, 2982, .inl b_all)), (ad 17, .inl (dA 0, 900, .inl o1)), (ad 18, .inl (dA 0, 6, .inl o2))] t) (va_A [zr_o ad f_thrown f_taped f_at f_behind f_size f_kind f_number f_wrong f_wrongAt f_faultKind f_faultPlace f_reading f_toldWhy f_x f_standMany f_bestMany f_tail f_round1, (ad 2, .inl (dA 0, 2982, .inl b_all)), (ad 17, .inl (dA 0, 900, .inl b_reckoned)), (ad 18, .inl (dA 0, 6, .inl b_words))] sz)) 0 0 (va_A [zr_o ad f_thrown f_taped f_at f_behind f_size f_kind f_number f_wrong f_wrongAt f_faultKind f_faultPlace f_reading f_toldWhy f_x f_standMany f_bestMany f_tail f_round1, (ad 2, .inl (dA 0, 2982, .inl b_all)), (ad 17, .inl (dA 0, 900, .inl b_reckoned)), (ad 18, .inl (dA 0, 6, .inl b_words))] sz) := by
  unfold zf_X11_tiredTo at hf
  refine Met.ofW (cc := cX11_tiredTo) (maxL := 4) (ret := (some .int)) (by decide) rfl ?_
  intro p e s m args below meth c s₁ B hml hv
  obtain ⟨rfl, hsz, hP, hK, hD0⟩ := hv
  have hx := B.exec
  have hb := B.bytes
  have hr := B.returns
  have ht : ∀ w ∈ zr_T, w.before ([.ref (ad 0), .int p1, .int p2] : List Value).toArray s = true := fun w hw => atoms_spec (ws := .code yX11_tiredTo cX11_tiredTo 4 (some .int) :: zr_T) B.pre w (List.mem_cons_of_mem _ hw)
  have hown : s.vm.findClass RX11 = some m.cls := findClass_of_methodNamed B.named
  have hlocks := B.notSynchronized
  subst hsz
  have hD := hD0.self (sz := s.heap.size)
  generalize hAe : va_A [zr_o ad f_thrown f_taped f_at f_behind f_size f_kind f_number f_wrong f_wrongAt f_faultKind f_faultPlace f_reading f_toldWhy f_x f_standMany f_bestMany f_tail f_round1, (ad 2, .inl (dA 0, 2982, .inl b_all)), (ad 17, .inl (dA 0, 900, .inl b_reckoned)), (ad 18, .inl (dA 0, 6, .inl b_words))] s.heap.size = A at hD ⊢
  have hA : ∀ q : Nat, s.heap.size ≤ q → A q := fun q h => by rw [← hAe]; exact Or.inr h
  clear hAe hD0
  have hS : va_S A s.heap s.heap [] := va_S.rf
  have hl := lv_entry ([.ref (ad 0), .int p1, .int p2]) (n := 4) (Nat.le_of_ble_eq_true rfl)
  rw [lg_entry_eq]
  generalize (lg_sl ([.ref (ad 0), .int p1, .int p2]) ++ List.replicate (4 - (lg_sl ([.ref (ad 0), .int p1, .int p2])).length) Slot.unset).toArray = ls at hl ⊢
  have hl : lv_has ls 4 [(0, .ref (ad 0)), (1, .int p1), (2, .int p2)] := hl
  refine lv_aload_n (pc := 0) hx hb dX11_tiredTo_0 rfl (lv_at hl 0 rfl) ?_
  refine va_get (pc := 1) (D := (dC, dI)) (ci := 0) (v := .ref (ad 2)) (C := RX11) (T := TX11) (N := 42) hx hb ht zr_lay hown hK hP 0 rfl rfl 1 (by decide) (ht _ zr_6) (fun _ h9 => h9) rfl dX11_tiredTo_1 ?_
  refine lv_iconst (v := (4 : Int32)) (pc := 4) hx hb dX11_tiredTo_4 (by decide) ?_
  obtain ⟨v1, hv1, hf⟩ := zc_1 hf
  refine zw_iald (pc := 5) hx hb hK hP 1 0 rfl rfl hv1 dX11_tiredTo_5 ?_
  refine lv_iconst (v := (1 : Int32)) (pc := 6) hx hb dX11_tiredTo_6 (by decide) ?_
  obtain ⟨v5, a6, a7, hj, hf⟩ := zc_3 hf
  refine zj_join (pcJ := 25) (stk := [.int v5]) (X := fun H locs ls => lv_has ls 4 [] ∧ va_P (dC, dI) zz_cls [zr_o ad f_thrown f_taped f_at f_behind f_size f_kind f_number f_wrong f_wrongAt f_faultKind f_faultPlace f_reading f_toldWhy f_x f_standMany f_bestMany f_tail f_round1, (ad 2, .inl (dA 0, 2982, .inl b_all)), (ad 17, .inl (dA 0, 900, .inl a6)), (ad 18, .inl (dA 0, 6, .inl a7))] H ∧ va_D A [zr_o ad f_thrown f_taped f_at f_behind f_size f_kind f_number f_wrong f_wrongAt f_faultKind f_faultPlace f_reading f_toldWhy f_x f_standMany f_bestMany f_tail f_round1, (ad 2, .inl (dA 0, 2982, .inl b_all)), (ad 17, .inl (dA 0, 900, .inl a6)), (ad 18, .inl (dA 0, 6, .inl a7))] ∧ va_S A s.heap H locs) (fun H locs ls hX => ?_) (fun J25 => ?_)
  · obtain ⟨hl, hP, hD, hS⟩ := hX
    clear hj
    refine lv_istore_n (lv' := [(3, .int v5)]) (pc := 25) hx hb dX11_tiredTo_25 rfl hl (by decide) rfl (fun ls hl => ?_)
    refine lv_iload_n (pc := 26) hx hb dX11_tiredTo_26 rfl (lv_at hl 0 rfl) ?_
    refine lv_if_ge (tgt := 34) (pc := 27) hx hb dX11_tiredTo_27 rfl (fun hc => ?_) (fun hc => ?_)
    · have hf := za_t hf hc
      refine lv_iload_n (pc := 34) hx hb dX11_tiredTo_34 rfl (lv_at hl 0 rfl) ?_
      refine lv_iconst (v := (4 : Int32)) (pc := 35) hx hb dX11_tiredTo_35 (by decide) ?_
      refine lv_icmp_le (tgt := 43) (pc := 36) hx hb dX11_tiredTo_36 rfl (fun hc => ?_) (fun hc => ?_)
      · have hf := za_t hf hc
        refine lv_iload_n (pc := 43) hx hb dX11_tiredTo_43 rfl (lv_at hl 0 rfl) ?_
        obtain ⟨rfl, rfl, rfl⟩ := zi_3 hf
        exact W.iret (pc := 44) hx hb hr (fun t ht hW => ⟨⟨_, (), rfl, rfl, zz_Bi (by rw [ht]; exact hP) (va_K.moved hW.alike hK) (hD)⟩, hS.F ht⟩) hS.2.2 dX11_tiredTo_44
      · have hf := za_f hf hc
        refine lv_iconst (v := (4 : Int32)) (pc := 39) hx hb dX11_tiredTo_39 (by decide) ?_
        refine lv_goto (tgt := 44) (pc := 40) hx hb dX11_tiredTo_40 rfl ?_
        obtain ⟨rfl, rfl, rfl⟩ := zi_3 hf
        exact W.iret (pc := 44) hx hb hr (fun t ht hW => ⟨⟨_, (), rfl, rfl, zz_Bi (by rw [ht]; exact hP) (va_K.moved hW.alike hK) (hD)⟩, hS.F ht⟩) hS.2.2 dX11_tiredTo_44
    · have hf := za_f hf hc
      refine lv_iconst (v := (0 : Int32)) (pc := 30) hx hb dX11_tiredTo_30 (by decide) ?_
      refine lv_goto (tgt := 44) (pc := 31) hx hb dX11_tiredTo_31 rfl ?_
      obtain ⟨rfl, rfl, rfl⟩ := zi_3 hf
      exact W.iret (pc := 44) hx hb hr (fun t ht hW => ⟨⟨_, (), rfl, rfl, zz_Bi (by rw [ht]; exact hP) (va_K.moved hW.alike hK) (hD)⟩, hS.F ht⟩) hS.2.2 dX11_tiredTo_44
  · clear hf
    have hf := hj
    clear hj
    refine lv_icmp_ne (tgt := 20) (pc := 7) hx hb dX11_tiredTo_7 rfl (fun hc => ?_) (fun hc => ?_)
    · have hf := za_f hf hc
      refine lv_iload_n (pc := 20) hx hb dX11_tiredTo_20 rfl (lv_at hl 1 rfl) ?_
      refine lv_iconst (v := (5 : Int32)) (pc := 21) hx hb dX11_tiredTo_21 (by decide) ?_
      refine lv_irem (pc := 22) hx hb dX11_tiredTo_22 (by decide) ?_
      refine lv_iconst (v := (1 : Int32)) (pc := 23) hx hb dX11_tiredTo_23 (by decide) ?_
      refine lv_isub (pc := 24) hx hb dX11_tiredTo_24 ?_
      obtain ⟨rfl, rfl, rfl⟩ := zi_3 hf
      exact J25 _ _ _ ⟨lv_sub hl [] rfl, hP, hD, hS⟩
    · have hf := za_t hf hc
      refine lv_aload_n (pc := 10) hx hb dX11_tiredTo_10 rfl (lv_at hl 0 rfl) ?_
      refine lv_iconst (v := (0 : Int32)) (pc := 11) hx hb dX11_tiredTo_11 (by decide) ?_
      refine lv_iload_n (pc := 12) hx hb dX11_tiredTo_12 rfl (lv_at hl 1 rfl) ?_
      refine lv_iload_n (pc := 13) hx hb dX11_tiredTo_13 rfl (lv_at hl 2 rfl) ?_
      obtain ⟨v2, a3, a4, hv2, hf⟩ := zc_3 hf
      refine zw_Vi (pc := 14) (wc := [zr_o ad f_thrown f_taped f_at f_behind f_size f_kind f_number f_wrong f_wrongAt f_faultKind f_faultPlace f_reading f_toldWhy f_x f_standMany f_bestMany f_tail f_round1, (ad 2, .inl (dA 0, 2982, .inl b_all)), (ad 17, .inl (dA 0, 900, .inl b_reckoned)), (ad 18, .inl (dA 0, 6, .inl b_words))]) (wr := []) (w1 := [zr_o ad f_thrown f_taped f_at f_behind f_size f_kind f_number f_wrong f_wrongAt f_faultKind f_faultPlace f_reading f_toldWhy f_x f_standMany f_bestMany f_tail f_round1, (ad 2, .inl (dA 0, 2982, .inl b_all)), (ad 17, .inl (dA 0, 900, .inl a3)), (ad 18, .inl (dA 0, 6, .inl a4))]) (As := [.int (0 : Int32), .int p1, .int p2]) (rest := []) ⟨hx, hb, hml, hown, ht⟩ (zt_X11_reckons l dC dI dA ad _ n f_thrown f_taped f_at f_behind f_size f_kind f_number f_wrong f_wrongAt f_faultKind f_faultPlace f_reading f_toldWhy f_x f_standMany f_bestMany f_tail f_round1 b_all b_reckoned b_words (0 : Int32) p1 p2 v2 a3 a4 hv2) (cwV 3 ht (zr_V zr_243 zr_244 zr_245 zr_36 zr_224) rfl rfl rfl zk_X11_reckons ⟨Nat.le_of_ble_eq_true rfl, Nat.le_of_ble_eq_true rfl⟩) rfl rfl hK hP hD hS hA [0, 1, 2, 3] [] (by decide) (by decide) (by decide) rfl rfl rfl hl.1 (Nat.le_of_ble_eq_true rfl) dX11_tiredTo_14 ⟨Nat.zero_le _, Nat.zero_le _⟩ rfl (fun H locs hP hD hS => ?_)
      have hP : va_P (dC, dI) zz_cls [zr_o ad f_thrown f_taped f_at f_behind f_size f_kind f_number f_wrong f_wrongAt f_faultKind f_faultPlace f_reading f_toldWhy f_x f_standMany f_bestMany f_tail f_round1, (ad 2, .inl (dA 0, 2982, .inl b_all)), (ad 17, .inl (dA 0, 900, .inl a3)), (ad 18, .inl (dA 0, 6, .inl a4))] H := hP
      have hD : va_D A [zr_o ad f_thrown f_taped f_at f_behind f_size f_kind f_number f_wrong f_wrongAt f_faultKind f_faultPlace f_reading f_toldWhy f_x f_standMany f_bestMany f_tail f_round1, (ad 2, .inl (dA 0, 2982, .inl b_all)), (ad 17, .inl (dA 0, 900, .inl a3)), (ad 18, .inl (dA 0, 6, .inl a4))] := hD
      refine lv_goto (tgt := 25) (pc := 17) hx hb dX11_tiredTo_17 rfl ?_
      obtain ⟨rfl, rfl, rfl⟩ := zi_3 hf
      exact J25 _ _ _ ⟨lv_sub hl [] rfl, hP, hD, hS⟩

def zf_X11_actedTo (n : Nat) (b_all : (Nat → Int32)) (b_reckoned : (Nat → Int32)) (b_words : (Nat → Int32)) (p1 : Int32) (p2 : Int32) (p3 : Int32) : Option (Int32 × (Nat → Int32) × (Nat → Int32)) :=
  zd_1 (some ((za_rem p1 (5 : Int32)))) (fun v1 =>
  if p2 = (0 : Int32) then
    if (4 : Int32) ≤ v1 then
      some (p1, b_reckoned, b_words)
    else
      some ((p1 + (1 : Int32)), b_reckoned, b_words)
  else if p2 = (1 : Int32) then
    zd_1 (zf_X11_rungIn p1) (fun v2 =>
    zd_1 (zf_X11_hasIn p1) (fun v3 =>
    zd_3 (zf_X11_tiredTo n b_all b_reckoned b_words p1 p3) (fun v4 a5 a6 =>
    zd_1 (zf_X11_standOf (v2 + (1 : Int32)) v3 v4) (fun v7 =>
    some (v7, a5, a6)))))
  else if p2 = (2 : Int32) then
    some ((p1 - (320 : Int32)), b_reckoned, b_words)
  else
    zd_1 (some (((1 : Int32) <<< ((za_rem (p2 - (3 : Int32)) (6 : Int32)) &&& 31)))) (fun v8 =>
    if (9 : Int32) ≤ p2 then
      some ((p1 + ((5 : Int32) * v8)), b_reckoned, b_words)
    else
      some ((p1 - ((5 : Int32) * v8)), b_reckoned, b_words)))
theorem zk_X11_actedTo : yX11_actedTo.cls = RX11 ∧ yX11_actedTo.cls ≠ "java/lang/invoke/MethodHandle" ∧ yX11_actedTo.cls ≠ "java/lang/invoke/VarHandle" ∧ (parseMethodDescriptor yX11_actedTo.desc).map (fun d => d.parameters.length) = some 3 := by decide +kernel
set_option maxHeartbeats 4000000 in
set_option maxRecDepth 100000 in
theorem zt_X11_actedTo (l : Launch) (dC : Nat → ClassId) (dI : Nat → Nat → Nat) (dA : Nat → ClassId) (ad : Nat → Nat) (sz : Nat) (n : Nat) (f_thrown f_taped f_at f_behind f_size f_kind f_number f_wrong f_wrongAt f_faultKind f_faultPlace f_reading f_toldWhy f_x f_standMany f_bestMany f_tail f_round1 : Int32) (b_all : (Nat → Int32)) (b_reckoned : (Nat → Int32)) (b_words : (Nat → Int32)) (p1 : Int32) (p2 : Int32) (p3 : Int32) (r0 : Int32) (o1 : (Nat → Int32)) (o2 : (Nat → Int32)) (hf : zf_X11_actedTo n b_all b_reckoned b_words p1 p2 p3 = some (r0, o1, o2)) : Met l yX11_actedTo (.code yX11_actedTo cX11_actedTo 6 (some .int) :: zr_T) ({ frames := 3, cells := 0, slots := 0, locals := 74 }) (va_Pc [.ref (ad 0), .int p1, .int p2, .int p3] (zz_M dC dI dA [zr_o ad f_thrown f_taped f_at f_behind f_size f_kind f_number f_wrong f_wrongAt f_faultKind f_faultPlace f_reading f_toldWhy f_x f_standMany f_bestMany f_tail f_round1, (ad 2, .inl (dA 0, 2982, .inl b_all)), (ad 17, .inl (dA 0, 900, .inl b_reckoned)), (ad 18, .inl (dA 0, 6, .inl b_words))] sz)) (va_Qi (fun (r : Int32) (_ : Unit) => r = r0) (fun _ t => zz_B dC dI dA (va_A [zr_o ad f_thrown f_taped f_at f_behind f_size f_kind f_number f_wrong f_wrongAt f_faultKind f_faultPlace f_reading f_toldWhy f_x f_standMany f_bestMany f_tail f_round1, (ad 2, .inl (dA 0, 2982, .inl b_all)), (ad 17, .inl (dA 0, 900, .inl b_reckoned)), (ad 18, .inl (dA 0, 6, .inl b_words))] sz) [zr_o ad f_thrown f_taped f_at f_behind f_size f_kind f_number f_wrong f_wrongAt f_faultKind f_faultPlace f_reading f_toldWhy f_x f_standMany f_bestMany f_tail f_round1, (ad 2, .inl (dA 0, 2982, .inl b_all)), (ad 17, .inl (dA 0, 900, .inl o1)), (ad 18, .inl (dA 0, 6, .inl o2))] t) (va_A [zr_o ad f_thrown f_taped f_at f_behind f_size f_kind f_number f_wrong f_wrongAt f_faultKind f_faultPlace f_reading f_toldWhy f_x f_standMany f_bestMany f_tail f_round1, (ad 2, .inl (dA 0, 2982, .inl b_all)), (ad 17, .inl (dA 0, 900, .inl b_reckoned)), (ad 18, .inl (dA 0, 6, .inl b_words))] sz)) 0 0 (va_A [zr_o ad f_thrown f_taped f_at f_behind f_size f_kind f_number f_wrong f_wrongAt f_faultKind f_faultPlace f_reading f_toldWhy f_x f_standMany f_bestMany f_tail f_round1, (ad 2, .inl (dA 0, 2982, .inl b_all)), (ad 17, .inl (dA 0, 900, .inl b_reckoned)), (ad 18, .inl (dA 0, 6, .inl b_words))] sz) := by
  unfold zf_X11_actedTo at hf
  refine Met.ofW (cc := cX11_actedTo) (maxL := 6) (ret := (some .int)) (by decide) rfl ?_
  intro p e s m args below meth c s₁ B hml hv
  obtain ⟨rfl, hsz, hP, hK, hD0⟩ := hv
  have hx := B.exec
  have hb := B.bytes
  have hr := B.returns
  have ht : ∀ w ∈ zr_T, w.before ([.ref (ad 0), .int p1, .int p2, .int p3] : List Value).toArray s = true := fun w hw => atoms_spec (ws := .code yX11_actedTo cX11_actedTo 6 (some .int) :: zr_T) B.pre w (List.mem_cons_of_mem _ hw)
  have hown : s.vm.findClass RX11 = some m.cls := findClass_of_methodNamed B.named
  have hlocks := B.notSynchronized
  subst hsz
  have hD := hD0.self (sz := s.heap.size)
  generalize hAe : va_A [zr_o ad f_thrown f_taped f_at f_behind f_size f_kind f_number f_wrong f_wrongAt f_faultKind f_faultPlace f_reading f_toldWhy f_x f_standMany f_bestMany f_tail f_round1, (ad 2, .inl (dA 0, 2982, .inl b_all)), (ad 17, .inl (dA 0, 900, .inl b_reckoned)), (ad 18, .inl (dA 0, 6, .inl b_words))] s.heap.size = A at hD ⊢
  have hA : ∀ q : Nat, s.heap.size ≤ q → A q := fun q h => by rw [← hAe]; exact Or.inr h
  clear hAe hD0
  have hS : va_S A s.heap s.heap [] := va_S.rf
  have hl := lv_entry ([.ref (ad 0), .int p1, .int p2, .int p3]) (n := 6) (Nat.le_of_ble_eq_true rfl)
  rw [lg_entry_eq]
  generalize (lg_sl ([.ref (ad 0), .int p1, .int p2, .int p3]) ++ List.replicate (6 - (lg_sl ([.ref (ad 0), .int p1, .int p2, .int p3])).length) Slot.unset).toArray = ls at hl ⊢
  have hl : lv_has ls 6 [(0, .ref (ad 0)), (1, .int p1), (2, .int p2), (3, .int p3)] := hl
  refine lv_iload_n (pc := 0) hx hb dX11_actedTo_0 rfl (lv_at hl 1 rfl) ?_
  refine lv_iconst (v := (5 : Int32)) (pc := 1) hx hb dX11_actedTo_1 (by decide) ?_
  refine lv_irem (pc := 2) hx hb dX11_actedTo_2 (by decide) ?_
  obtain ⟨v1, hv1, hf⟩ := zc_1 hf
  refine zw_top (hv1) ?_
  refine lv_istore (lv' := [(4, .int v1), (0, .ref (ad 0)), (1, .int p1), (2, .int p2), (3, .int p3)]) (pc := 3) hx hb dX11_actedTo_3 hl (by decide) rfl (fun ls hl => ?_)
  refine lv_iload_n (pc := 5) hx hb dX11_actedTo_5 rfl (lv_at hl 3 rfl) ?_
  by_cases hc0 : p2 = (0 : Int32)
  · have hf := za_t hf hc0
    refine lv_tableIn (tgt := 32) (off := 26) (pc := 6) hx hb dX11_actedTo_6 (by rw [hc0]; decide) (by rw [hc0]; decide) (by rw [hc0]; decide) rfl ?_
    refine lv_iload (pc := 32) hx hb dX11_actedTo_32 (lv_at hl 0 rfl) ?_
    refine lv_iconst (v := (4 : Int32)) (pc := 34) hx hb dX11_actedTo_34 (by decide) ?_
    refine lv_icmp_ge (tgt := 44) (pc := 35) hx hb dX11_actedTo_35 rfl (fun hc => ?_) (fun hc => ?_)
    · have hf := za_t hf hc
      refine lv_iload_n (pc := 44) hx hb dX11_actedTo_44 rfl (lv_at hl 2 rfl) ?_
      obtain ⟨rfl, rfl, rfl⟩ := zi_3 hf
      exact W.iret (pc := 45) hx hb hr (fun t ht hW => ⟨⟨_, (), rfl, rfl, zz_Bi (by rw [ht]; exact hP) (va_K.moved hW.alike hK) (hD)⟩, hS.F ht⟩) hS.2.2 dX11_actedTo_45
    · have hf := za_f hf hc
      refine lv_iload_n (pc := 38) hx hb dX11_actedTo_38 rfl (lv_at hl 2 rfl) ?_
      refine lv_iconst (v := (1 : Int32)) (pc := 39) hx hb dX11_actedTo_39 (by decide) ?_
      refine lv_iadd (pc := 40) hx hb dX11_actedTo_40 ?_
      refine lv_goto (tgt := 45) (pc := 41) hx hb dX11_actedTo_41 rfl ?_
      obtain ⟨rfl, rfl, rfl⟩ := zi_3 hf
      exact W.iret (pc := 45) hx hb hr (fun t ht hW => ⟨⟨_, (), rfl, rfl, zz_Bi (by rw [ht]; exact hP) (va_K.moved hW.alike hK) (hD)⟩, hS.F ht⟩) hS.2.2 dX11_actedTo_45
  have hf := za_f hf hc0
  by_cases hc1 : p2 = (1 : Int32)
  · have hf := za_t hf hc1
    refine lv_tableIn (tgt := 46) (off := 40) (pc := 6) hx hb dX11_actedTo_6 (by rw [hc1]; decide) (by rw [hc1]; decide) (by rw [hc1]; decide) rfl ?_
    refine lv_iload_n (pc := 46) hx hb dX11_actedTo_46 rfl (lv_at hl 2 rfl) ?_
    obtain ⟨v2, hv2, hf⟩ := zc_1 hf
    refine zw_Si (pc := 47) (wc := []) (wr := [zr_o ad f_thrown f_taped f_at f_behind f_size f_kind f_number f_wrong f_wrongAt f_faultKind f_faultPlace f_reading f_toldWhy f_x f_standMany f_bestMany f_tail f_round1, (ad 2, .inl (dA 0, 2982, .inl b_all)), (ad 17, .inl (dA 0, 900, .inl b_reckoned)), (ad 18, .inl (dA 0, 6, .inl b_words))]) (w1 := []) (As := [.int p1]) (rest := []) ⟨hx, hb, hml, hown, ht⟩ (zt_X11_rungIn l dC dI dA ad _ p1 v2 hv2) (cwS 1 ht (zr_S zr_217 zr_218 zr_36 zr_210) rfl rfl rfl zk_X11_rungIn ⟨Nat.le_of_ble_eq_true rfl, Nat.le_of_ble_eq_true rfl⟩) hK hP hD hS hA [] [0, 1, 2, 3] (by decide) (by decide) (by decide) rfl rfl rfl hl.1 (Nat.le_of_ble_eq_true rfl) dX11_actedTo_47 ⟨Nat.zero_le _, Nat.zero_le _⟩ rfl (fun H locs hP hD hS => ?_)
    have hP : va_P (dC, dI) zz_cls [zr_o ad f_thrown f_taped f_at f_behind f_size f_kind f_number f_wrong f_wrongAt f_faultKind f_faultPlace f_reading f_toldWhy f_x f_standMany f_bestMany f_tail f_round1, (ad 2, .inl (dA 0, 2982, .inl b_all)), (ad 17, .inl (dA 0, 900, .inl b_reckoned)), (ad 18, .inl (dA 0, 6, .inl b_words))] H := hP
    have hD : va_D A [zr_o ad f_thrown f_taped f_at f_behind f_size f_kind f_number f_wrong f_wrongAt f_faultKind f_faultPlace f_reading f_toldWhy f_x f_standMany f_bestMany f_tail f_round1, (ad 2, .inl (dA 0, 2982, .inl b_all)), (ad 17, .inl (dA 0, 900, .inl b_reckoned)), (ad 18, .inl (dA 0, 6, .inl b_words))] := hD
    refine lv_iconst (v := (1 : Int32)) (pc := 50) hx hb dX11_actedTo_50 (by decide) ?_
    refine lv_iadd (pc := 51) hx hb dX11_actedTo_51 ?_
    refine lv_iload_n (pc := 52) hx hb dX11_actedTo_52 rfl (lv_at hl 2 rfl) ?_
    obtain ⟨v3, hv3, hf⟩ := zc_1 hf
    refine zw_Si (pc := 53) (wc := []) (wr := [zr_o ad f_thrown f_taped f_at f_behind f_size f_kind f_number f_wrong f_wrongAt f_faultKind f_faultPlace f_reading f_toldWhy f_x f_standMany f_bestMany f_tail f_round1, (ad 2, .inl (dA 0, 2982, .inl b_all)), (ad 17, .inl (dA 0, 900, .inl b_reckoned)), (ad 18, .inl (dA 0, 6, .inl b_words))]) (w1 := []) (As := [.int p1]) (rest := [.int (v2 + (1 : Int32))]) ⟨hx, hb, hml, hown, ht⟩ (zt_X11_hasIn l dC dI dA ad _ p1 v3 hv3) (cwS 1 ht (zr_S zr_219 zr_220 zr_36 zr_211) rfl rfl rfl zk_X11_hasIn ⟨Nat.le_of_ble_eq_true rfl, Nat.le_of_ble_eq_true rfl⟩) hK hP hD hS hA [] [0, 1, 2, 3] (by decide) (by decide) (by decide) rfl rfl rfl hl.1 (Nat.le_of_ble_eq_true rfl) dX11_actedTo_53 ⟨Nat.zero_le _, Nat.zero_le _⟩ rfl (fun H locs hP hD hS => ?_)
    have hP : va_P (dC, dI) zz_cls [zr_o ad f_thrown f_taped f_at f_behind f_size f_kind f_number f_wrong f_wrongAt f_faultKind f_faultPlace f_reading f_toldWhy f_x f_standMany f_bestMany f_tail f_round1, (ad 2, .inl (dA 0, 2982, .inl b_all)), (ad 17, .inl (dA 0, 900, .inl b_reckoned)), (ad 18, .inl (dA 0, 6, .inl b_words))] H := hP
    have hD : va_D A [zr_o ad f_thrown f_taped f_at f_behind f_size f_kind f_number f_wrong f_wrongAt f_faultKind f_faultPlace f_reading f_toldWhy f_x f_standMany f_bestMany f_tail f_round1, (ad 2, .inl (dA 0, 2982, .inl b_all)), (ad 17, .inl (dA 0, 900, .inl b_reckoned)), (ad 18, .inl (dA 0, 6, .inl b_words))] := hD
    refine lv_aload_n (pc := 56) hx hb dX11_actedTo_56 rfl (lv_at hl 1 rfl) ?_
    refine lv_iload_n (pc := 57) hx hb dX11_actedTo_57 rfl (lv_at hl 2 rfl) ?_
    refine lv_iload_n (pc := 58) hx hb dX11_actedTo_58 rfl (lv_at hl 4 rfl) ?_
    obtain ⟨v4, a5, a6, hv4, hf⟩ := zc_3 hf
    refine zw_Vi (pc := 59) (wc := [zr_o ad f_thrown f_taped f_at f_behind f_size f_kind f_number f_wrong f_wrongAt f_faultKind f_faultPlace f_reading f_toldWhy f_x f_standMany f_bestMany f_tail f_round1, (ad 2, .inl (dA 0, 2982, .inl b_all)), (ad 17, .inl (dA 0, 900, .inl b_reckoned)), (ad 18, .inl (dA 0, 6, .inl b_words))]) (wr := []) (w1 := [zr_o ad f_thrown f_taped f_at f_behind f_size f_kind f_number f_wrong f_wrongAt f_faultKind f_faultPlace f_reading f_toldWhy f_x f_standMany f_bestMany f_tail f_round1, (ad 2, .inl (dA 0, 2982, .inl b_all)), (ad 17, .inl (dA 0, 900, .inl a5)), (ad 18, .inl (dA 0, 6, .inl a6))]) (As := [.int p1, .int p3]) (rest := [.int v3, .int (v2 + (1 : Int32))]) ⟨hx, hb, hml, hown, ht⟩ (zt_X11_tiredTo l dC dI dA ad _ n f_thrown f_taped f_at f_behind f_size f_kind f_number f_wrong f_wrongAt f_faultKind f_faultPlace f_reading f_toldWhy f_x f_standMany f_bestMany f_tail f_round1 b_all b_reckoned b_words p1 p3 v4 a5 a6 hv4) (cwV 2 ht (zr_V zr_250 zr_251 zr_252 zr_36 zr_249) rfl rfl rfl zk_X11_tiredTo ⟨Nat.le_of_ble_eq_true rfl, Nat.le_of_ble_eq_true rfl⟩) rfl rfl hK hP hD hS hA [0, 1, 2, 3] [] (by decide) (by decide) (by decide) rfl rfl rfl hl.1 (Nat.le_of_ble_eq_true rfl) dX11_actedTo_59 ⟨Nat.zero_le _, Nat.zero_le _⟩ rfl (fun H locs hP hD hS => ?_)
    have hP : va_P (dC, dI) zz_cls [zr_o ad f_thrown f_taped f_at f_behind f_size f_kind f_number f_wrong f_wrongAt f_faultKind f_faultPlace f_reading f_toldWhy f_x f_standMany f_bestMany f_tail f_round1, (ad 2, .inl (dA 0, 2982, .inl b_all)), (ad 17, .inl (dA 0, 900, .inl a5)), (ad 18, .inl (dA 0, 6, .inl a6))] H := hP
    have hD : va_D A [zr_o ad f_thrown f_taped f_at f_behind f_size f_kind f_number f_wrong f_wrongAt f_faultKind f_faultPlace f_reading f_toldWhy f_x f_standMany f_bestMany f_tail f_round1, (ad 2, .inl (dA 0, 2982, .inl b_all)), (ad 17, .inl (dA 0, 900, .inl a5)), (ad 18, .inl (dA 0, 6, .inl a6))] := hD
    obtain ⟨v7, hv7, hf⟩ := zc_1 hf
    refine zw_Si (pc := 62) (wc := []) (wr := [zr_o ad f_thrown f_taped f_at f_behind f_size f_kind f_number f_wrong f_wrongAt f_faultKind f_faultPlace f_reading f_toldWhy f_x f_standMany f_bestMany f_tail f_round1, (ad 2, .inl (dA 0, 2982, .inl b_all)), (ad 17, .inl (dA 0, 900, .inl a5)), (ad 18, .inl (dA 0, 6, .inl a6))]) (w1 := []) (As := [.int (v2 + (1 : Int32)), .int v3, .int v4]) (rest := []) ⟨hx, hb, hml, hown, ht⟩ (zt_X11_standOf l dC dI dA ad _ (v2 + (1 : Int32)) v3 v4 v7 hv7) (cwS 3 ht (zr_S zr_214 zr_215 zr_36 zr_212) rfl rfl rfl zk_X11_standOf ⟨Nat.le_of_ble_eq_true rfl, Nat.le_of_ble_eq_true rfl⟩) hK hP hD hS hA [] [0, 1, 2, 3] (by decide) (by decide) (by decide) rfl rfl rfl hl.1 (Nat.le_of_ble_eq_true rfl) dX11_actedTo_62 ⟨Nat.zero_le _, Nat.zero_le _⟩ rfl (fun H locs hP hD hS => ?_)
    have hP : va_P (dC, dI) zz_cls [zr_o ad f_thrown f_taped f_at f_behind f_size f_kind f_number f_wrong f_wrongAt f_faultKind f_faultPlace f_reading f_toldWhy f_x f_standMany f_bestMany f_tail f_round1, (ad 2, .inl (dA 0, 2982, .inl b_all)), (ad 17, .inl (dA 0, 900, .inl a5)), (ad 18, .inl (dA 0, 6, .inl a6))] H := hP
    have hD : va_D A [zr_o ad f_thrown f_taped f_at f_behind f_size f_kind f_number f_wrong f_wrongAt f_faultKind f_faultPlace f_reading f_toldWhy f_x f_standMany f_bestMany f_tail f_round1, (ad 2, .inl (dA 0, 2982, .inl b_all)), (ad 17, .inl (dA 0, 900, .inl a5)), (ad 18, .inl (dA 0, 6, .inl a6))] := hD
    obtain ⟨rfl, rfl, rfl⟩ := zi_3 hf
    exact W.iret (pc := 65) hx hb hr (fun t ht hW => ⟨⟨_, (), rfl, rfl, zz_Bi (by rw [ht]; exact hP) (va_K.moved hW.alike hK) (hD)⟩, hS.F ht⟩) hS.2.2 dX11_actedTo_65
  have hf := za_f hf hc1
  by_cases hc2 : p2 = (2 : Int32)
  · have hf := za_t hf hc2
    refine lv_tableIn (tgt := 66) (off := 60) (pc := 6) hx hb dX11_actedTo_6 (by rw [hc2]; decide) (by rw [hc2]; decide) (by rw [hc2]; decide) rfl ?_
    refine lv_iload_n (pc := 66) hx hb dX11_actedTo_66 rfl (lv_at hl 2 rfl) ?_
    refine lv_sipush (v := (320 : Int32)) (pc := 67) hx hb dX11_actedTo_67 (by decide) ?_
    refine lv_isub (pc := 70) hx hb dX11_actedTo_70 ?_
    obtain ⟨rfl, rfl, rfl⟩ := zi_3 hf
    exact W.iret (pc := 71) hx hb hr (fun t ht hW => ⟨⟨_, (), rfl, rfl, zz_Bi (by rw [ht]; exact hP) (va_K.moved hW.alike hK) (hD)⟩, hS.F ht⟩) hS.2.2 dX11_actedTo_71
  have hf := za_f hf hc2
  refine lv_tableOut (tgt := 72) (pc := 6) hx hb dX11_actedTo_6 (by have q0 := lv_neT (a := 0) hc0 (by decide); have q1 := lv_neT (a := 1) hc1 (by decide); have q2 := lv_neT (a := 2) hc2 (by decide); omega) rfl ?_
  refine lv_iconst (v := (1 : Int32)) (pc := 72) hx hb dX11_actedTo_72 (by decide) ?_
  refine lv_iload_n (pc := 73) hx hb dX11_actedTo_73 rfl (lv_at hl 3 rfl) ?_
  refine lv_iconst (v := (3 : Int32)) (pc := 74) hx hb dX11_actedTo_74 (by decide) ?_
  refine lv_isub (pc := 75) hx hb dX11_actedTo_75 ?_
  refine lv_bipush (v := (6 : Int32)) (pc := 76) hx hb dX11_actedTo_76 (by decide) ?_
  refine lv_irem (pc := 78) hx hb dX11_actedTo_78 (by decide) ?_
  refine lv_ishl (pc := 79) hx hb dX11_actedTo_79 ?_
  obtain ⟨v8, hv8, hf⟩ := zc_1 hf
  refine zw_top (hv8) ?_
  refine lv_istore (lv' := [(5, .int v8), (4, .int v1), (0, .ref (ad 0)), (1, .int p1), (2, .int p2), (3, .int p3)]) (pc := 80) hx hb dX11_actedTo_80 hl (by decide) rfl (fun ls hl => ?_)
  refine lv_iload_n (pc := 82) hx hb dX11_actedTo_82 rfl (lv_at hl 4 rfl) ?_
  refine lv_bipush (v := (9 : Int32)) (pc := 83) hx hb dX11_actedTo_83 (by decide) ?_
  refine lv_icmp_ge (tgt := 97) (pc := 85) hx hb dX11_actedTo_85 rfl (fun hc => ?_) (fun hc => ?_)
  · have hf := za_t hf hc
    refine lv_iload_n (pc := 97) hx hb dX11_actedTo_97 rfl (lv_at hl 3 rfl) ?_
    refine lv_iconst (v := (5 : Int32)) (pc := 98) hx hb dX11_actedTo_98 (by decide) ?_
    refine lv_iload (pc := 99) hx hb dX11_actedTo_99 (lv_at hl 0 rfl) ?_
    refine lv_imul (pc := 101) hx hb dX11_actedTo_101 ?_
    refine lv_iadd (pc := 102) hx hb dX11_actedTo_102 ?_
    obtain ⟨rfl, rfl, rfl⟩ := zi_3 hf
    exact W.iret (pc := 103) hx hb hr (fun t ht hW => ⟨⟨_, (), rfl, rfl, zz_Bi (by rw [ht]; exact hP) (va_K.moved hW.alike hK) (hD)⟩, hS.F ht⟩) hS.2.2 dX11_actedTo_103
  · have hf := za_f hf hc
    refine lv_iload_n (pc := 88) hx hb dX11_actedTo_88 rfl (lv_at hl 3 rfl) ?_
    refine lv_iconst (v := (5 : Int32)) (pc := 89) hx hb dX11_actedTo_89 (by decide) ?_
    refine lv_iload (pc := 90) hx hb dX11_actedTo_90 (lv_at hl 0 rfl) ?_
    refine lv_imul (pc := 92) hx hb dX11_actedTo_92 ?_
    refine lv_isub (pc := 93) hx hb dX11_actedTo_93 ?_
    refine lv_goto (tgt := 103) (pc := 94) hx hb dX11_actedTo_94 rfl ?_
    obtain ⟨rfl, rfl, rfl⟩ := zi_3 hf
    exact W.iret (pc := 103) hx hb hr (fun t ht hW => ⟨⟨_, (), rfl, rfl, zz_Bi (by rw [ht]; exact hP) (va_K.moved hW.alike hK) (hD)⟩, hS.F ht⟩) hS.2.2 dX11_actedTo_103

def zf_X11_hole (f_thrown : Int32) (b_all : (Nat → Int32)) (p1 : Int32) (p2 : Int32) : Option (Int32 × Int32) :=
  zd_1 (zf_X11_isRung b_all p1) (fun v1 =>
  if v1 = 0 then
    some ((-2 : Int32), (0 : Int32))
  else
    if p2 = (0 : Int32) then
      zd_1 (za_ld b_all 2982 ((10 : Int32) + p1)) (fun v2 =>
      some (v2, (0 : Int32)))
    else if p2 = (1 : Int32) then
      zd_1 (za_ld b_all 2982 ((19 : Int32) + p1)) (fun v3 =>
      some (v3, (0 : Int32)))
    else if p2 = (2 : Int32) then
      zd_1 (za_ld b_all 2982 ((28 : Int32) + p1)) (fun v4 =>
      some (v4, (0 : Int32)))
    else
      some ((-2 : Int32), (0 : Int32)))
theorem zk_X11_hole : yX11_hole.cls = RX11 ∧ yX11_hole.cls ≠ "java/lang/invoke/MethodHandle" ∧ yX11_hole.cls ≠ "java/lang/invoke/VarHandle" ∧ (parseMethodDescriptor yX11_hole.desc).map (fun d => d.parameters.length) = some 2 := by decide +kernel
set_option maxHeartbeats 4000000 in
set_option maxRecDepth 100000 in
theorem zt_X11_hole (l : Launch) (dC : Nat → ClassId) (dI : Nat → Nat → Nat) (dA : Nat → ClassId) (ad : Nat → Nat) (sz : Nat) (f_thrown f_taped f_at f_behind f_size f_kind f_number f_wrong f_wrongAt f_faultKind f_faultPlace f_reading f_toldWhy f_x f_standMany f_bestMany f_tail f_round1 : Int32) (b_all : (Nat → Int32)) (p1 : Int32) (p2 : Int32) (r0 : Int32) (o1 : Int32) (hf : zf_X11_hole f_thrown b_all p1 p2 = some (r0, o1)) : Met l yX11_hole (.code yX11_hole cX11_hole 3 (some .int) :: zr_T) ({ frames := 2, cells := 0, slots := 0, locals := 46 }) (va_Pc [.ref (ad 0), .int p1, .int p2] (zz_M dC dI dA [zr_o ad f_thrown f_taped f_at f_behind f_size f_kind f_number f_wrong f_wrongAt f_faultKind f_faultPlace f_reading f_toldWhy f_x f_standMany f_bestMany f_tail f_round1, (ad 2, .inl (dA 0, 2982, .inl b_all))] sz)) (va_Qi (fun (r : Int32) (_ : Unit) => r = r0) (fun _ t => zz_B dC dI dA (va_A [zr_o ad f_thrown f_taped f_at f_behind f_size f_kind f_number f_wrong f_wrongAt f_faultKind f_faultPlace f_reading f_toldWhy f_x f_standMany f_bestMany f_tail f_round1, (ad 2, .inl (dA 0, 2982, .inl b_all))] sz) [zr_o ad o1 f_taped f_at f_behind f_size f_kind f_number f_wrong f_wrongAt f_faultKind f_faultPlace f_reading f_toldWhy f_x f_standMany f_bestMany f_tail f_round1, (ad 2, .inl (dA 0, 2982, .inl b_all))] t) (va_A [zr_o ad f_thrown f_taped f_at f_behind f_size f_kind f_number f_wrong f_wrongAt f_faultKind f_faultPlace f_reading f_toldWhy f_x f_standMany f_bestMany f_tail f_round1, (ad 2, .inl (dA 0, 2982, .inl b_all))] sz)) 0 0 (va_A [zr_o ad f_thrown f_taped f_at f_behind f_size f_kind f_number f_wrong f_wrongAt f_faultKind f_faultPlace f_reading f_toldWhy f_x f_standMany f_bestMany f_tail f_round1, (ad 2, .inl (dA 0, 2982, .inl b_all))] sz) := by
  unfold zf_X11_hole at hf
  refine Met.ofW (cc := cX11_hole) (maxL := 3) (ret := (some .int)) (by decide) rfl ?_
  intro p e s m args below meth c s₁ B hml hv
  obtain ⟨rfl, hsz, hP, hK, hD0⟩ := hv
  have hx := B.exec
  have hb := B.bytes
  have hr := B.returns
  have ht : ∀ w ∈ zr_T, w.before ([.ref (ad 0), .int p1, .int p2] : List Value).toArray s = true := fun w hw => atoms_spec (ws := .code yX11_hole cX11_hole 3 (some .int) :: zr_T) B.pre w (List.mem_cons_of_mem _ hw)
  have hown : s.vm.findClass RX11 = some m.cls := findClass_of_methodNamed B.named
  have hlocks := B.notSynchronized
  subst hsz
  have hD := hD0.self (sz := s.heap.size)
  generalize hAe : va_A [zr_o ad f_thrown f_taped f_at f_behind f_size f_kind f_number f_wrong f_wrongAt f_faultKind f_faultPlace f_reading f_toldWhy f_x f_standMany f_bestMany f_tail f_round1, (ad 2, .inl (dA 0, 2982, .inl b_all))] s.heap.size = A at hD ⊢
  have hA : ∀ q : Nat, s.heap.size ≤ q → A q := fun q h => by rw [← hAe]; exact Or.inr h
  clear hAe hD0
  have hS : va_S A s.heap s.heap [] := va_S.rf
  have hl := lv_entry ([.ref (ad 0), .int p1, .int p2]) (n := 3) (Nat.le_of_ble_eq_true rfl)
  rw [lg_entry_eq]
  generalize (lg_sl ([.ref (ad 0), .int p1, .int p2]) ++ List.replicate (3 - (lg_sl ([.ref (ad 0), .int p1, .int p2])).length) Slot.unset).toArray = ls at hl ⊢
  have hl : lv_has ls 3 [(0, .ref (ad 0)), (1, .int p1), (2, .int p2)] := hl
  refine lv_aload_n (pc := 0) hx hb dX11_hole_0 rfl (lv_at hl 0 rfl) ?_
  refine lv_iconst (v := (0 : Int32)) (pc := 1) hx hb dX11_hole_1 (by decide) ?_
  refine va_put (pc := 2) (D := (dC, dI)) (ci := 0) (v := .int (0 : Int32)) (ty := .int) (C := RX11) (T := TX11) (N := 42) hx hb ht zr_lay tyX11 tyX11_ok nmX11 hown hK hP hD hS 0 rfl rfl 0 (by decide) (ht _ zr_39) (fun _ h9 => h9) rfl (by decide +kernel) rfl rfl (Nat.le_of_ble_eq_true rfl) dX11_hole_2 (fun H locs hP hD hS => ?_)
  have hP : va_P (dC, dI) zz_cls [zr_o ad (0 : Int32) f_taped f_at f_behind f_size f_kind f_number f_wrong f_wrongAt f_faultKind f_faultPlace f_reading f_toldWhy f_x f_standMany f_bestMany f_tail f_round1, (ad 2, .inl (dA 0, 2982, .inl b_all))] H := hP
  have hD : va_D A [zr_o ad (0 : Int32) f_taped f_at f_behind f_size f_kind f_number f_wrong f_wrongAt f_faultKind f_faultPlace f_reading f_toldWhy f_x f_standMany f_bestMany f_tail f_round1, (ad 2, .inl (dA 0, 2982, .inl b_all))] := hD
  refine lv_aload_n (pc := 5) hx hb dX11_hole_5 rfl (lv_at hl 0 rfl) ?_
  refine lv_iload_n (pc := 6) hx hb dX11_hole_6 rfl (lv_at hl 1 rfl) ?_
  obtain ⟨v1, hv1, hf⟩ := zc_1 hf
  refine zw_Vi (pc := 7) (wc := [zr_o ad (0 : Int32) f_taped f_at f_behind f_size f_kind f_number f_wrong f_wrongAt f_faultKind f_faultPlace f_reading f_toldWhy f_x f_standMany f_bestMany f_tail f_round1, (ad 2, .inl (dA 0, 2982, .inl b_all))]) (wr := []) (w1 := [zr_o ad (0 : Int32) f_taped f_at f_behind f_size f_kind f_number f_wrong f_wrongAt f_faultKind f_faultPlace f_reading f_toldWhy f_x f_standMany f_bestMany f_tail f_round1, (ad 2, .inl (dA 0, 2982, .inl b_all))]) (As := [.int p1]) (rest := []) ⟨hx, hb, hml, hown, ht⟩ (zt_X11_isRung l dC dI dA ad _ (0 : Int32) f_taped f_at f_behind f_size f_kind f_number f_wrong f_wrongAt f_faultKind f_faultPlace f_reading f_toldWhy f_x f_standMany f_bestMany f_tail f_round1 b_all p1 v1 hv1) (cwV 1 ht (zr_V zr_255 zr_256 zr_257 zr_36 zr_206) rfl rfl rfl zk_X11_isRung ⟨Nat.le_of_ble_eq_true rfl, Nat.le_of_ble_eq_true rfl⟩) rfl rfl hK hP hD hS hA [0, 1] [] (by decide) (by decide) (by decide) rfl rfl rfl hl.1 (Nat.le_of_ble_eq_true rfl) dX11_hole_7 ⟨Nat.zero_le _, Nat.zero_le _⟩ rfl (fun H locs hP hD hS => ?_)
  have hP : va_P (dC, dI) zz_cls [zr_o ad (0 : Int32) f_taped f_at f_behind f_size f_kind f_number f_wrong f_wrongAt f_faultKind f_faultPlace f_reading f_toldWhy f_x f_standMany f_bestMany f_tail f_round1, (ad 2, .inl (dA 0, 2982, .inl b_all))] H := hP
  have hD : va_D A [zr_o ad (0 : Int32) f_taped f_at f_behind f_size f_kind f_number f_wrong f_wrongAt f_faultKind f_faultPlace f_reading f_toldWhy f_x f_standMany f_bestMany f_tail f_round1, (ad 2, .inl (dA 0, 2982, .inl b_all))] := hD
  refine lv_if_ne (tgt := 16) (pc := 10) hx hb dX11_hole_10 rfl (fun hc => ?_) (fun hc => ?_)
  · have hf := za_f hf hc
    refine lv_iload_n (pc := 16) hx hb dX11_hole_16 rfl (lv_at hl 2 rfl) ?_
    by_cases hc0 : p2 = (0 : Int32)
    · have hf := za_t hf hc0
      refine lv_tableIn (tgt := 44) (off := 27) (pc := 17) hx hb dX11_hole_17 (by rw [hc0]; decide) (by rw [hc0]; decide) (by rw [hc0]; decide) rfl ?_
      refine lv_aload_n (pc := 44) hx hb dX11_hole_44 rfl (lv_at hl 0 rfl) ?_
      refine va_get (pc := 45) (D := (dC, dI)) (ci := 0) (v := .ref (ad 2)) (C := RX11) (T := TX11) (N := 42) hx hb ht zr_lay hown hK hP 0 rfl rfl 1 (by decide) (ht _ zr_6) (fun _ h9 => h9) rfl dX11_hole_45 ?_
      refine lv_bipush (v := (10 : Int32)) (pc := 48) hx hb dX11_hole_48 (by decide) ?_
      refine lv_iload_n (pc := 50) hx hb dX11_hole_50 rfl (lv_at hl 1 rfl) ?_
      refine lv_iadd (pc := 51) hx hb dX11_hole_51 ?_
      obtain ⟨v2, hv2, hf⟩ := zc_1 hf
      refine zw_iald (pc := 52) hx hb hK hP 1 0 rfl rfl hv2 dX11_hole_52 ?_
      obtain ⟨rfl, rfl⟩ := zi_2 hf
      exact W.iret (pc := 53) hx hb hr (fun t ht hW => ⟨⟨_, (), rfl, rfl, zz_Bi (by rw [ht]; exact hP) (va_K.moved hW.alike hK) (hD)⟩, hS.F ht⟩) hS.2.2 dX11_hole_53
    have hf := za_f hf hc0
    by_cases hc1 : p2 = (1 : Int32)
    · have hf := za_t hf hc1
      refine lv_tableIn (tgt := 54) (off := 37) (pc := 17) hx hb dX11_hole_17 (by rw [hc1]; decide) (by rw [hc1]; decide) (by rw [hc1]; decide) rfl ?_
      refine lv_aload_n (pc := 54) hx hb dX11_hole_54 rfl (lv_at hl 0 rfl) ?_
      refine va_get (pc := 55) (D := (dC, dI)) (ci := 0) (v := .ref (ad 2)) (C := RX11) (T := TX11) (N := 42) hx hb ht zr_lay hown hK hP 0 rfl rfl 1 (by decide) (ht _ zr_6) (fun _ h9 => h9) rfl dX11_hole_55 ?_
      refine lv_bipush (v := (19 : Int32)) (pc := 58) hx hb dX11_hole_58 (by decide) ?_
      refine lv_iload_n (pc := 60) hx hb dX11_hole_60 rfl (lv_at hl 1 rfl) ?_
      refine lv_iadd (pc := 61) hx hb dX11_hole_61 ?_
      obtain ⟨v3, hv3, hf⟩ := zc_1 hf
      refine zw_iald (pc := 62) hx hb hK hP 1 0 rfl rfl hv3 dX11_hole_62 ?_
      obtain ⟨rfl, rfl⟩ := zi_2 hf
      exact W.iret (pc := 63) hx hb hr (fun t ht hW => ⟨⟨_, (), rfl, rfl, zz_Bi (by rw [ht]; exact hP) (va_K.moved hW.alike hK) (hD)⟩, hS.F ht⟩) hS.2.2 dX11_hole_63
    have hf := za_f hf hc1
    by_cases hc2 : p2 = (2 : Int32)
    · have hf := za_t hf hc2
      refine lv_tableIn (tgt := 64) (off := 47) (pc := 17) hx hb dX11_hole_17 (by rw [hc2]; decide) (by rw [hc2]; decide) (by rw [hc2]; decide) rfl ?_
      refine lv_aload_n (pc := 64) hx hb dX11_hole_64 rfl (lv_at hl 0 rfl) ?_
      refine va_get (pc := 65) (D := (dC, dI)) (ci := 0) (v := .ref (ad 2)) (C := RX11) (T := TX11) (N := 42) hx hb ht zr_lay hown hK hP 0 rfl rfl 1 (by decide) (ht _ zr_6) (fun _ h9 => h9) rfl dX11_hole_65 ?_
      refine lv_bipush (v := (28 : Int32)) (pc := 68) hx hb dX11_hole_68 (by decide) ?_
      refine lv_iload_n (pc := 70) hx hb dX11_hole_70 rfl (lv_at hl 1 rfl) ?_
      refine lv_iadd (pc := 71) hx hb dX11_hole_71 ?_
      obtain ⟨v4, hv4, hf⟩ := zc_1 hf
      refine zw_iald (pc := 72) hx hb hK hP 1 0 rfl rfl hv4 dX11_hole_72 ?_
      obtain ⟨rfl, rfl⟩ := zi_2 hf
      exact W.iret (pc := 73) hx hb hr (fun t ht hW => ⟨⟨_, (), rfl, rfl, zz_Bi (by rw [ht]; exact hP) (va_K.moved hW.alike hK) (hD)⟩, hS.F ht⟩) hS.2.2 dX11_hole_73
    have hf := za_f hf hc2
    refine lv_tableOut (tgt := 74) (pc := 17) hx hb dX11_hole_17 (by have q0 := lv_neT (a := 0) hc0 (by decide); have q1 := lv_neT (a := 1) hc1 (by decide); have q2 := lv_neT (a := 2) hc2 (by decide); omega) rfl ?_
    refine lv_bipush (v := (-2 : Int32)) (pc := 74) hx hb dX11_hole_74 (by decide) ?_
    obtain ⟨rfl, rfl⟩ := zi_2 hf
    exact W.iret (pc := 76) hx hb hr (fun t ht hW => ⟨⟨_, (), rfl, rfl, zz_Bi (by rw [ht]; exact hP) (va_K.moved hW.alike hK) (hD)⟩, hS.F ht⟩) hS.2.2 dX11_hole_76
  · have hf := za_t hf hc
    refine lv_bipush (v := (-2 : Int32)) (pc := 13) hx hb dX11_hole_13 (by decide) ?_
    obtain ⟨rfl, rfl⟩ := zi_2 hf
    exact W.iret (pc := 15) hx hb hr (fun t ht hW => ⟨⟨_, (), rfl, rfl, zz_Bi (by rw [ht]; exact hP) (va_K.moved hW.alike hK) (hD)⟩, hS.F ht⟩) hS.2.2 dX11_hole_15

def zf_X11_whyAct (n : Nat) (b_all : (Nat → Int32)) (b_reckoned : (Nat → Int32)) (b_words : (Nat → Int32)) (p1 : Int64) : Option (Int32 × (Nat → Int32) × (Nat → Int32)) :=
  zd_1 (zf_X11_moveOf b_all p1) (fun v1 =>
  if v1 = (-1 : Int32) then
    some ((1 : Int32), b_reckoned, b_words)
  else
    zd_1 (zf_X11_standNow b_all) (fun v2 =>
    zd_1 (za_ld b_all 2982 (40 : Int32)) (fun v3 =>
    zd_3 (zf_X11_whyBy n b_all b_reckoned b_words v2 v1 v3) (fun v4 a5 a6 =>
    some (v4, a5, a6)))))
theorem zk_X11_whyAct : yX11_whyAct.cls = RX11 ∧ yX11_whyAct.cls ≠ "java/lang/invoke/MethodHandle" ∧ yX11_whyAct.cls ≠ "java/lang/invoke/VarHandle" ∧ (parseMethodDescriptor yX11_whyAct.desc).map (fun d => d.parameters.length) = some 1 := by decide +kernel
set_option maxHeartbeats 4000000 in
set_option maxRecDepth 100000 in
theorem zt_X11_whyAct (l : Launch) (dC : Nat → ClassId) (dI : Nat → Nat → Nat) (dA : Nat → ClassId) (ad : Nat → Nat) (sz : Nat) (n : Nat) (f_thrown f_taped f_at f_behind f_size f_kind f_number f_wrong f_wrongAt f_faultKind f_faultPlace f_reading f_toldWhy f_x f_standMany f_bestMany f_tail f_round1 : Int32) (b_all : (Nat → Int32)) (b_reckoned : (Nat → Int32)) (b_words : (Nat → Int32)) (p1 : Int64) (r0 : Int32) (o1 : (Nat → Int32)) (o2 : (Nat → Int32)) (hf : zf_X11_whyAct n b_all b_reckoned b_words p1 = some (r0, o1, o2)) : Met l yX11_whyAct (.code yX11_whyAct cX11_whyAct 4 (some .int) :: zr_T) ({ frames := 3, cells := 0, slots := 0, locals := 77 }) (va_Pc [.ref (ad 0), .long p1] (zz_M dC dI dA [zr_o ad f_thrown f_taped f_at f_behind f_size f_kind f_number f_wrong f_wrongAt f_faultKind f_faultPlace f_reading f_toldWhy f_x f_standMany f_bestMany f_tail f_round1, (ad 2, .inl (dA 0, 2982, .inl b_all)), (ad 17, .inl (dA 0, 900, .inl b_reckoned)), (ad 18, .inl (dA 0, 6, .inl b_words))] sz)) (va_Qi (fun (r : Int32) (_ : Unit) => r = r0) (fun _ t => zz_B dC dI dA (va_A [zr_o ad f_thrown f_taped f_at f_behind f_size f_kind f_number f_wrong f_wrongAt f_faultKind f_faultPlace f_reading f_toldWhy f_x f_standMany f_bestMany f_tail f_round1, (ad 2, .inl (dA 0, 2982, .inl b_all)), (ad 17, .inl (dA 0, 900, .inl b_reckoned)), (ad 18, .inl (dA 0, 6, .inl b_words))] sz) [zr_o ad f_thrown f_taped f_at f_behind f_size f_kind f_number f_wrong f_wrongAt f_faultKind f_faultPlace f_reading f_toldWhy f_x f_standMany f_bestMany f_tail f_round1, (ad 2, .inl (dA 0, 2982, .inl b_all)), (ad 17, .inl (dA 0, 900, .inl o1)), (ad 18, .inl (dA 0, 6, .inl o2))] t) (va_A [zr_o ad f_thrown f_taped f_at f_behind f_size f_kind f_number f_wrong f_wrongAt f_faultKind f_faultPlace f_reading f_toldWhy f_x f_standMany f_bestMany f_tail f_round1, (ad 2, .inl (dA 0, 2982, .inl b_all)), (ad 17, .inl (dA 0, 900, .inl b_reckoned)), (ad 18, .inl (dA 0, 6, .inl b_words))] sz)) 0 0 (va_A [zr_o ad f_thrown f_taped f_at f_behind f_size f_kind f_number f_wrong f_wrongAt f_faultKind f_faultPlace f_reading f_toldWhy f_x f_standMany f_bestMany f_tail f_round1, (ad 2, .inl (dA 0, 2982, .inl b_all)), (ad 17, .inl (dA 0, 900, .inl b_reckoned)), (ad 18, .inl (dA 0, 6, .inl b_words))] sz) := by
  unfold zf_X11_whyAct at hf
  refine Met.ofW (cc := cX11_whyAct) (maxL := 4) (ret := (some .int)) (by decide) rfl ?_
  intro p e s m args below meth c s₁ B hml hv
  obtain ⟨rfl, hsz, hP, hK, hD0⟩ := hv
  have hx := B.exec
  have hb := B.bytes
  have hr := B.returns
  have ht : ∀ w ∈ zr_T, w.before ([.ref (ad 0), .long p1] : List Value).toArray s = true := fun w hw => atoms_spec (ws := .code yX11_whyAct cX11_whyAct 4 (some .int) :: zr_T) B.pre w (List.mem_cons_of_mem _ hw)
  have hown : s.vm.findClass RX11 = some m.cls := findClass_of_methodNamed B.named
  have hlocks := B.notSynchronized
  subst hsz
  have hD := hD0.self (sz := s.heap.size)
  generalize hAe : va_A [zr_o ad f_thrown f_taped f_at f_behind f_size f_kind f_number f_wrong f_wrongAt f_faultKind f_faultPlace f_reading f_toldWhy f_x f_standMany f_bestMany f_tail f_round1, (ad 2, .inl (dA 0, 2982, .inl b_all)), (ad 17, .inl (dA 0, 900, .inl b_reckoned)), (ad 18, .inl (dA 0, 6, .inl b_words))] s.heap.size = A at hD ⊢
  have hA : ∀ q : Nat, s.heap.size ≤ q → A q := fun q h => by rw [← hAe]; exact Or.inr h
  clear hAe hD0
  have hS : va_S A s.heap s.heap [] := va_S.rf
  have hl := lv_entry ([.ref (ad 0), .long p1]) (n := 4) (Nat.le_of_ble_eq_true rfl)
  rw [lg_entry_eq]
  generalize (lg_sl ([.ref (ad 0), .long p1]) ++ List.replicate (4 - (lg_sl ([.ref (ad 0), .long p1])).length) Slot.unset).toArray = ls at hl ⊢
  have hl : lv_has ls 4 [(0, .ref (ad 0)), (1, .long p1)] := hl
  refine lv_aload_n (pc := 0) hx hb dX11_whyAct_0 rfl (lv_at hl 0 rfl) ?_
  refine lv_lload_n (pc := 1) hx hb dX11_whyAct_1 rfl (lv_at hl 1 rfl) ?_
  obtain ⟨v1, hv1, hf⟩ := zc_1 hf
  refine zw_Vi (pc := 2) (wc := [zr_o ad f_thrown f_taped f_at f_behind f_size f_kind f_number f_wrong f_wrongAt f_faultKind f_faultPlace f_reading f_toldWhy f_x f_standMany f_bestMany f_tail f_round1, (ad 2, .inl (dA 0, 2982, .inl b_all))]) (wr := [(ad 17, .inl (dA 0, 900, .inl b_reckoned)), (ad 18, .inl (dA 0, 6, .inl b_words))]) (w1 := [zr_o ad f_thrown f_taped f_at f_behind f_size f_kind f_number f_wrong f_wrongAt f_faultKind f_faultPlace f_reading f_toldWhy f_x f_standMany f_bestMany f_tail f_round1, (ad 2, .inl (dA 0, 2982, .inl b_all))]) (As := [.long p1]) (rest := []) ⟨hx, hb, hml, hown, ht⟩ (zt_X11_moveOf l dC dI dA ad _ f_thrown f_taped f_at f_behind f_size f_kind f_number f_wrong f_wrongAt f_faultKind f_faultPlace f_reading f_toldWhy f_x f_standMany f_bestMany f_tail f_round1 b_all p1 v1 hv1) (cwV 1 ht (zr_V zr_258 zr_259 zr_260 zr_36 zr_230) rfl rfl rfl zk_X11_moveOf ⟨Nat.le_of_ble_eq_true rfl, Nat.le_of_ble_eq_true rfl⟩) rfl rfl hK hP hD hS hA [0, 1] [2, 3] (by decide) (by decide) (by decide) rfl rfl rfl hl.1 (Nat.le_of_ble_eq_true rfl) dX11_whyAct_2 ⟨Nat.zero_le _, Nat.zero_le _⟩ rfl (fun H locs hP hD hS => ?_)
  have hP : va_P (dC, dI) zz_cls [(ad 17, .inl (dA 0, 900, .inl b_reckoned)), (ad 18, .inl (dA 0, 6, .inl b_words)), zr_o ad f_thrown f_taped f_at f_behind f_size f_kind f_number f_wrong f_wrongAt f_faultKind f_faultPlace f_reading f_toldWhy f_x f_standMany f_bestMany f_tail f_round1, (ad 2, .inl (dA 0, 2982, .inl b_all))] H := hP
  have hD : va_D A [(ad 17, .inl (dA 0, 900, .inl b_reckoned)), (ad 18, .inl (dA 0, 6, .inl b_words)), zr_o ad f_thrown f_taped f_at f_behind f_size f_kind f_number f_wrong f_wrongAt f_faultKind f_faultPlace f_reading f_toldWhy f_x f_standMany f_bestMany f_tail f_round1, (ad 2, .inl (dA 0, 2982, .inl b_all))] := hD
  refine lv_istore_n (lv' := [(3, .int v1), (0, .ref (ad 0)), (1, .long p1)]) (pc := 5) hx hb dX11_whyAct_5 rfl hl (by decide) rfl (fun ls hl => ?_)
  refine lv_iload_n (pc := 6) hx hb dX11_whyAct_6 rfl (lv_at hl 0 rfl) ?_
  refine lv_iconst (v := (-1 : Int32)) (pc := 7) hx hb dX11_whyAct_7 (by decide) ?_
  refine lv_icmp_ne (tgt := 15) (pc := 8) hx hb dX11_whyAct_8 rfl (fun hc => ?_) (fun hc => ?_)
  · have hf := za_f hf hc
    refine lv_aload_n (pc := 15) hx hb dX11_whyAct_15 rfl (lv_at hl 1 rfl) ?_
    refine lv_aload_n (pc := 16) hx hb dX11_whyAct_16 rfl (lv_at hl 1 rfl) ?_
    obtain ⟨v2, hv2, hf⟩ := zc_1 hf
    refine zw_Vi (pc := 17) (wc := [zr_o ad f_thrown f_taped f_at f_behind f_size f_kind f_number f_wrong f_wrongAt f_faultKind f_faultPlace f_reading f_toldWhy f_x f_standMany f_bestMany f_tail f_round1, (ad 2, .inl (dA 0, 2982, .inl b_all))]) (wr := [(ad 17, .inl (dA 0, 900, .inl b_reckoned)), (ad 18, .inl (dA 0, 6, .inl b_words))]) (w1 := [zr_o ad f_thrown f_taped f_at f_behind f_size f_kind f_number f_wrong f_wrongAt f_faultKind f_faultPlace f_reading f_toldWhy f_x f_standMany f_bestMany f_tail f_round1, (ad 2, .inl (dA 0, 2982, .inl b_all))]) (As := []) (rest := [.ref (ad 0)]) ⟨hx, hb, hml, hown, ht⟩ (zt_X11_standNow l dC dI dA ad _ f_thrown f_taped f_at f_behind f_size f_kind f_number f_wrong f_wrongAt f_faultKind f_faultPlace f_reading f_toldWhy f_x f_standMany f_bestMany f_tail f_round1 b_all v2 hv2) (cwV 0 ht (zr_V zr_261 zr_262 zr_263 zr_36 zr_213) rfl rfl rfl zk_X11_standNow ⟨Nat.le_of_ble_eq_true rfl, Nat.le_of_ble_eq_true rfl⟩) rfl rfl hK hP hD hS hA [2, 3] [0, 1] (by decide) (by decide) (by decide) rfl rfl rfl hl.1 (Nat.le_of_ble_eq_true rfl) dX11_whyAct_17 ⟨Nat.zero_le _, Nat.zero_le _⟩ rfl (fun H locs hP hD hS => ?_)
    have hP : va_P (dC, dI) zz_cls [(ad 17, .inl (dA 0, 900, .inl b_reckoned)), (ad 18, .inl (dA 0, 6, .inl b_words)), zr_o ad f_thrown f_taped f_at f_behind f_size f_kind f_number f_wrong f_wrongAt f_faultKind f_faultPlace f_reading f_toldWhy f_x f_standMany f_bestMany f_tail f_round1, (ad 2, .inl (dA 0, 2982, .inl b_all))] H := hP
    have hD : va_D A [(ad 17, .inl (dA 0, 900, .inl b_reckoned)), (ad 18, .inl (dA 0, 6, .inl b_words)), zr_o ad f_thrown f_taped f_at f_behind f_size f_kind f_number f_wrong f_wrongAt f_faultKind f_faultPlace f_reading f_toldWhy f_x f_standMany f_bestMany f_tail f_round1, (ad 2, .inl (dA 0, 2982, .inl b_all))] := hD
    refine lv_iload_n (pc := 20) hx hb dX11_whyAct_20 rfl (lv_at hl 0 rfl) ?_
    refine lv_aload_n (pc := 21) hx hb dX11_whyAct_21 rfl (lv_at hl 1 rfl) ?_
    refine va_get (pc := 22) (D := (dC, dI)) (ci := 0) (v := .ref (ad 2)) (C := RX11) (T := TX11) (N := 42) hx hb ht zr_lay hown hK hP 2 rfl rfl 1 (by decide) (ht _ zr_6) (fun _ h9 => h9) rfl dX11_whyAct_22 ?_
    refine lv_bipush (v := (40 : Int32)) (pc := 25) hx hb dX11_whyAct_25 (by decide) ?_
    obtain ⟨v3, hv3, hf⟩ := zc_1 hf
    refine zw_iald (pc := 27) hx hb hK hP 3 0 rfl rfl hv3 dX11_whyAct_27 ?_
    obtain ⟨v4, a5, a6, hv4, hf⟩ := zc_3 hf
    refine zw_Vi (pc := 28) (wc := [zr_o ad f_thrown f_taped f_at f_behind f_size f_kind f_number f_wrong f_wrongAt f_faultKind f_faultPlace f_reading f_toldWhy f_x f_standMany f_bestMany f_tail f_round1, (ad 2, .inl (dA 0, 2982, .inl b_all)), (ad 17, .inl (dA 0, 900, .inl b_reckoned)), (ad 18, .inl (dA 0, 6, .inl b_words))]) (wr := []) (w1 := [zr_o ad f_thrown f_taped f_at f_behind f_size f_kind f_number f_wrong f_wrongAt f_faultKind f_faultPlace f_reading f_toldWhy f_x f_standMany f_bestMany f_tail f_round1, (ad 2, .inl (dA 0, 2982, .inl b_all)), (ad 17, .inl (dA 0, 900, .inl a5)), (ad 18, .inl (dA 0, 6, .inl a6))]) (As := [.int v2, .int v1, .int v3]) (rest := []) ⟨hx, hb, hml, hown, ht⟩ (zt_X11_whyBy l dC dI dA ad _ n f_thrown f_taped f_at f_behind f_size f_kind f_number f_wrong f_wrongAt f_faultKind f_faultPlace f_reading f_toldWhy f_x f_standMany f_bestMany f_tail f_round1 b_all b_reckoned b_words v2 v1 v3 v4 a5 a6 hv4) (cwV 3 ht (zr_V zr_264 zr_265 zr_266 zr_36 zr_248) rfl rfl rfl zk_X11_whyBy ⟨Nat.le_of_ble_eq_true rfl, Nat.le_of_ble_eq_true rfl⟩) rfl rfl hK hP hD hS hA [2, 3, 0, 1] [] (by decide) (by decide) (by decide) rfl rfl rfl hl.1 (Nat.le_of_ble_eq_true rfl) dX11_whyAct_28 ⟨Nat.zero_le _, Nat.zero_le _⟩ rfl (fun H locs hP hD hS => ?_)
    have hP : va_P (dC, dI) zz_cls [zr_o ad f_thrown f_taped f_at f_behind f_size f_kind f_number f_wrong f_wrongAt f_faultKind f_faultPlace f_reading f_toldWhy f_x f_standMany f_bestMany f_tail f_round1, (ad 2, .inl (dA 0, 2982, .inl b_all)), (ad 17, .inl (dA 0, 900, .inl a5)), (ad 18, .inl (dA 0, 6, .inl a6))] H := hP
    have hD : va_D A [zr_o ad f_thrown f_taped f_at f_behind f_size f_kind f_number f_wrong f_wrongAt f_faultKind f_faultPlace f_reading f_toldWhy f_x f_standMany f_bestMany f_tail f_round1, (ad 2, .inl (dA 0, 2982, .inl b_all)), (ad 17, .inl (dA 0, 900, .inl a5)), (ad 18, .inl (dA 0, 6, .inl a6))] := hD
    obtain ⟨rfl, rfl, rfl⟩ := zi_3 hf
    exact W.iret (pc := 31) hx hb hr (fun t ht hW => ⟨⟨_, (), rfl, rfl, zz_Bi (by rw [ht]; exact hP) (va_K.moved hW.alike hK) (hD)⟩, hS.F ht⟩) hS.2.2 dX11_whyAct_31
  · have hf := za_t hf hc
    refine lv_iconst (v := (1 : Int32)) (pc := 11) hx hb dX11_whyAct_11 (by decide) ?_
    refine lv_goto (tgt := 31) (pc := 12) hx hb dX11_whyAct_12 rfl ?_
    obtain ⟨rfl, rfl, rfl⟩ := zi_3 hf
    exact W.iret (pc := 31) hx hb hr (fun t ht hW => ⟨⟨_, (), rfl, rfl, zz_Bi (by rw [ht]; exact hP.sub [2, 3, 0, 1] rfl) (va_K.moved hW.alike hK) (hD.sub [2, 3, 0, 1] (by decide) rfl)⟩, hS.F ht⟩) hS.2.2 dX11_whyAct_31

def zf_X11_why (n : Nat) (f_thrown : Int32) (b_all : (Nat → Int32)) (b_reckoned : (Nat → Int32)) (b_words : (Nat → Int32)) (p1 : Int32) : Option (Int32 × Int32 × (Nat → Int32) × (Nat → Int32)) :=
  zd_3 (zf_X11_whyAct n b_all b_reckoned b_words (Int32.toInt64 p1)) (fun v1 a2 a3 =>
  some (v1, (0 : Int32), a2, a3))
theorem zk_X11_why : yX11_why.cls = RX11 ∧ yX11_why.cls ≠ "java/lang/invoke/MethodHandle" ∧ yX11_why.cls ≠ "java/lang/invoke/VarHandle" ∧ (parseMethodDescriptor yX11_why.desc).map (fun d => d.parameters.length) = some 1 := by decide +kernel
set_option maxHeartbeats 4000000 in
set_option maxRecDepth 100000 in
theorem zt_X11_why (l : Launch) (dC : Nat → ClassId) (dI : Nat → Nat → Nat) (dA : Nat → ClassId) (ad : Nat → Nat) (sz : Nat) (n : Nat) (f_thrown f_taped f_at f_behind f_size f_kind f_number f_wrong f_wrongAt f_faultKind f_faultPlace f_reading f_toldWhy f_x f_standMany f_bestMany f_tail f_round1 : Int32) (b_all : (Nat → Int32)) (b_reckoned : (Nat → Int32)) (b_words : (Nat → Int32)) (p1 : Int32) (r0 : Int32) (o1 : Int32) (o2 : (Nat → Int32)) (o3 : (Nat → Int32)) (hf : zf_X11_why n f_thrown b_all b_reckoned b_words p1 = some (r0, o1, o2, o3)) : Met l yX11_why (.code yX11_why cX11_why 2 (some .int) :: zr_T) ({ frames := 4, cells := 0, slots := 0, locals := 100 }) (va_Pc [.ref (ad 0), .int p1] (zz_M dC dI dA [zr_o ad f_thrown f_taped f_at f_behind f_size f_kind f_number f_wrong f_wrongAt f_faultKind f_faultPlace f_reading f_toldWhy f_x f_standMany f_bestMany f_tail f_round1, (ad 2, .inl (dA 0, 2982, .inl b_all)), (ad 17, .inl (dA 0, 900, .inl b_reckoned)), (ad 18, .inl (dA 0, 6, .inl b_words))] sz)) (va_Qi (fun (r : Int32) (_ : Unit) => r = r0) (fun _ t => zz_B dC dI dA (va_A [zr_o ad f_thrown f_taped f_at f_behind f_size f_kind f_number f_wrong f_wrongAt f_faultKind f_faultPlace f_reading f_toldWhy f_x f_standMany f_bestMany f_tail f_round1, (ad 2, .inl (dA 0, 2982, .inl b_all)), (ad 17, .inl (dA 0, 900, .inl b_reckoned)), (ad 18, .inl (dA 0, 6, .inl b_words))] sz) [zr_o ad o1 f_taped f_at f_behind f_size f_kind f_number f_wrong f_wrongAt f_faultKind f_faultPlace f_reading f_toldWhy f_x f_standMany f_bestMany f_tail f_round1, (ad 2, .inl (dA 0, 2982, .inl b_all)), (ad 17, .inl (dA 0, 900, .inl o2)), (ad 18, .inl (dA 0, 6, .inl o3))] t) (va_A [zr_o ad f_thrown f_taped f_at f_behind f_size f_kind f_number f_wrong f_wrongAt f_faultKind f_faultPlace f_reading f_toldWhy f_x f_standMany f_bestMany f_tail f_round1, (ad 2, .inl (dA 0, 2982, .inl b_all)), (ad 17, .inl (dA 0, 900, .inl b_reckoned)), (ad 18, .inl (dA 0, 6, .inl b_words))] sz)) 0 0 (va_A [zr_o ad f_thrown f_taped f_at f_behind f_size f_kind f_number f_wrong f_wrongAt f_faultKind f_faultPlace f_reading f_toldWhy f_x f_standMany f_bestMany f_tail f_round1, (ad 2, .inl (dA 0, 2982, .inl b_all)), (ad 17, .inl (dA 0, 900, .inl b_reckoned)), (ad 18, .inl (dA 0, 6, .inl b_words))] sz) := by
  unfold zf_X11_why at hf
  refine Met.ofW (cc := cX11_why) (maxL := 2) (ret := (some .int)) (by decide) rfl ?_
  intro p e s m args below meth c s₁ B hml hv
  obtain ⟨rfl, hsz, hP, hK, hD0⟩ := hv
  have hx := B.exec
  have hb := B.bytes
  have hr := B.returns
  have ht : ∀ w ∈ zr_T, w.before ([.ref (ad 0), .int p1] : List Value).toArray s = true := fun w hw => atoms_spec (ws := .code yX11_why cX11_why 2 (some .int) :: zr_T) B.pre w (List.mem_cons_of_mem _ hw)
  have hown : s.vm.findClass RX11 = some m.cls := findClass_of_methodNamed B.named
  have hlocks := B.notSynchronized
  subst hsz
  have hD := hD0.self (sz := s.heap.size)
  generalize hAe : va_A [zr_o ad f_thrown f_taped f_at f_behind f_size f_kind f_number f_wrong f_wrongAt f_faultKind f_faultPlace f_reading f_toldWhy f_x f_standMany f_bestMany f_tail f_round1, (ad 2, .inl (dA 0, 2982, .inl b_all)), (ad 17, .inl (dA 0, 900, .inl b_reckoned)), (ad 18, .inl (dA 0, 6, .inl b_words))] s.heap.size = A at hD ⊢
  have hA : ∀ q : Nat, s.heap.size ≤ q → A q := fun q h => by rw [← hAe]; exact Or.inr h
  clear hAe hD0
  have hS : va_S A s.heap s.heap [] := va_S.rf
  have hl := lv_entry ([.ref (ad 0), .int p1]) (n := 2) (Nat.le_of_ble_eq_true rfl)
  rw [lg_entry_eq]
  generalize (lg_sl ([.ref (ad 0), .int p1]) ++ List.replicate (2 - (lg_sl ([.ref (ad 0), .int p1])).length) Slot.unset).toArray = ls at hl ⊢
  have hl : lv_has ls 2 [(0, .ref (ad 0)), (1, .int p1)] := hl
  refine lv_aload_n (pc := 0) hx hb dX11_why_0 rfl (lv_at hl 0 rfl) ?_
  refine lv_iconst (v := (0 : Int32)) (pc := 1) hx hb dX11_why_1 (by decide) ?_
  refine va_put (pc := 2) (D := (dC, dI)) (ci := 0) (v := .int (0 : Int32)) (ty := .int) (C := RX11) (T := TX11) (N := 42) hx hb ht zr_lay tyX11 tyX11_ok nmX11 hown hK hP hD hS 0 rfl rfl 0 (by decide) (ht _ zr_39) (fun _ h9 => h9) rfl (by decide +kernel) rfl rfl (Nat.le_of_ble_eq_true rfl) dX11_why_2 (fun H locs hP hD hS => ?_)
  have hP : va_P (dC, dI) zz_cls [zr_o ad (0 : Int32) f_taped f_at f_behind f_size f_kind f_number f_wrong f_wrongAt f_faultKind f_faultPlace f_reading f_toldWhy f_x f_standMany f_bestMany f_tail f_round1, (ad 2, .inl (dA 0, 2982, .inl b_all)), (ad 17, .inl (dA 0, 900, .inl b_reckoned)), (ad 18, .inl (dA 0, 6, .inl b_words))] H := hP
  have hD : va_D A [zr_o ad (0 : Int32) f_taped f_at f_behind f_size f_kind f_number f_wrong f_wrongAt f_faultKind f_faultPlace f_reading f_toldWhy f_x f_standMany f_bestMany f_tail f_round1, (ad 2, .inl (dA 0, 2982, .inl b_all)), (ad 17, .inl (dA 0, 900, .inl b_reckoned)), (ad 18, .inl (dA 0, 6, .inl b_words))] := hD
  refine lv_aload_n (pc := 5) hx hb dX11_why_5 rfl (lv_at hl 0 rfl) ?_
  refine lv_iload_n (pc := 6) hx hb dX11_why_6 rfl (lv_at hl 1 rfl) ?_
  refine lv_i2l (pc := 7) hx hb dX11_why_7 rfl ?_
  obtain ⟨v1, a2, a3, hv1, hf⟩ := zc_3 hf
  refine zw_Vi (pc := 8) (wc := [zr_o ad (0 : Int32) f_taped f_at f_behind f_size f_kind f_number f_wrong f_wrongAt f_faultKind f_faultPlace f_reading f_toldWhy f_x f_standMany f_bestMany f_tail f_round1, (ad 2, .inl (dA 0, 2982, .inl b_all)), (ad 17, .inl (dA 0, 900, .inl b_reckoned)), (ad 18, .inl (dA 0, 6, .inl b_words))]) (wr := []) (w1 := [zr_o ad (0 : Int32) f_taped f_at f_behind f_size f_kind f_number f_wrong f_wrongAt f_faultKind f_faultPlace f_reading f_toldWhy f_x f_standMany f_bestMany f_tail f_round1, (ad 2, .inl (dA 0, 2982, .inl b_all)), (ad 17, .inl (dA 0, 900, .inl a2)), (ad 18, .inl (dA 0, 6, .inl a3))]) (As := [.long (Int32.toInt64 p1)]) (rest := []) ⟨hx, hb, hml, hown, ht⟩ (zt_X11_whyAct l dC dI dA ad _ n (0 : Int32) f_taped f_at f_behind f_size f_kind f_number f_wrong f_wrongAt f_faultKind f_faultPlace f_reading f_toldWhy f_x f_standMany f_bestMany f_tail f_round1 b_all b_reckoned b_words (Int32.toInt64 p1) v1 a2 a3 hv1) (cwV 1 ht (zr_V zr_268 zr_269 zr_270 zr_36 zr_267) rfl rfl rfl zk_X11_whyAct ⟨Nat.le_of_ble_eq_true rfl, Nat.le_of_ble_eq_true rfl⟩) rfl rfl hK hP hD hS hA [0, 1, 2, 3] [] (by decide) (by decide) (by decide) rfl rfl rfl hl.1 (Nat.le_of_ble_eq_true rfl) dX11_why_8 ⟨Nat.zero_le _, Nat.zero_le _⟩ rfl (fun H locs hP hD hS => ?_)
  have hP : va_P (dC, dI) zz_cls [zr_o ad (0 : Int32) f_taped f_at f_behind f_size f_kind f_number f_wrong f_wrongAt f_faultKind f_faultPlace f_reading f_toldWhy f_x f_standMany f_bestMany f_tail f_round1, (ad 2, .inl (dA 0, 2982, .inl b_all)), (ad 17, .inl (dA 0, 900, .inl a2)), (ad 18, .inl (dA 0, 6, .inl a3))] H := hP
  have hD : va_D A [zr_o ad (0 : Int32) f_taped f_at f_behind f_size f_kind f_number f_wrong f_wrongAt f_faultKind f_faultPlace f_reading f_toldWhy f_x f_standMany f_bestMany f_tail f_round1, (ad 2, .inl (dA 0, 2982, .inl b_all)), (ad 17, .inl (dA 0, 900, .inl a2)), (ad 18, .inl (dA 0, 6, .inl a3))] := hD
  obtain ⟨rfl, rfl, rfl, rfl⟩ := zi_4 hf
  exact W.iret (pc := 11) hx hb hr (fun t ht hW => ⟨⟨_, (), rfl, rfl, zz_Bi (by rw [ht]; exact hP) (va_K.moved hW.alike hK) (hD)⟩, hS.F ht⟩) hS.2.2 dX11_why_11

def zf_X11_by (n : Nat) (f_thrown : Int32) (b_all : (Nat → Int32)) (b_reckoned : (Nat → Int32)) (b_words : (Nat → Int32)) (p1 : Int32) (p2 : Int32) : Option (Int32 × Int32 × (Nat → Int32) × (Nat → Int32)) :=
  zd_1 (zf_X11_within (Int32.toInt64 p2) (0 : Int64) (2 : Int64)) (fun v1 =>
  if v1 = 0 then
    some ((-2 : Int32), (0 : Int32), b_reckoned, b_words)
  else
    zd_3 (zf_X11_whyAct n b_all b_reckoned b_words (Int32.toInt64 p1)) (fun v2 a3 a4 =>
    if v2 = 0 then
      zd_1 (zf_X11_standNow b_all) (fun v5 =>
      zd_1 (zf_X11_moveOf b_all (Int32.toInt64 p1)) (fun v6 =>
      zd_1 (za_ld b_all 2982 (40 : Int32)) (fun v7 =>
      zd_3 (zf_X11_actedTo n b_all a3 a4 v5 v6 v7) (fun v8 a9 a10 =>
      if p2 = 0 then
        zd_1 (zf_X11_rungIn v8) (fun v11 =>
        some (v11, (0 : Int32), a9, a10))
      else
        if p2 = (1 : Int32) then
          zd_1 (zf_X11_hasIn v8) (fun v12 =>
          some (v12, (0 : Int32), a9, a10))
        else
          some ((za_rem v8 (5 : Int32)), (0 : Int32), a9, a10)))))
    else
      some ((-5 : Int32), (0 : Int32), a3, a4)))
theorem zk_X11_by : yX11_by.cls = RX11 ∧ yX11_by.cls ≠ "java/lang/invoke/MethodHandle" ∧ yX11_by.cls ≠ "java/lang/invoke/VarHandle" ∧ (parseMethodDescriptor yX11_by.desc).map (fun d => d.parameters.length) = some 2 := by decide +kernel
set_option maxHeartbeats 4000000 in
set_option maxRecDepth 100000 in
theorem zt_X11_by (l : Launch) (dC : Nat → ClassId) (dI : Nat → Nat → Nat) (dA : Nat → ClassId) (ad : Nat → Nat) (sz : Nat) (n : Nat) (f_thrown f_taped f_at f_behind f_size f_kind f_number f_wrong f_wrongAt f_faultKind f_faultPlace f_reading f_toldWhy f_x f_standMany f_bestMany f_tail f_round1 : Int32) (b_all : (Nat → Int32)) (b_reckoned : (Nat → Int32)) (b_words : (Nat → Int32)) (p1 : Int32) (p2 : Int32) (r0 : Int32) (o1 : Int32) (o2 : (Nat → Int32)) (o3 : (Nat → Int32)) (hf : zf_X11_by n f_thrown b_all b_reckoned b_words p1 p2 = some (r0, o1, o2, o3)) : Met l yX11_by (.code yX11_by cX11_by 4 (some .int) :: zr_T) ({ frames := 4, cells := 0, slots := 0, locals := 100 }) (va_Pc [.ref (ad 0), .int p1, .int p2] (zz_M dC dI dA [zr_o ad f_thrown f_taped f_at f_behind f_size f_kind f_number f_wrong f_wrongAt f_faultKind f_faultPlace f_reading f_toldWhy f_x f_standMany f_bestMany f_tail f_round1, (ad 2, .inl (dA 0, 2982, .inl b_all)), (ad 17, .inl (dA 0, 900, .inl b_reckoned)), (ad 18, .inl (dA 0, 6, .inl b_words))] sz)) (va_Qi (fun (r : Int32) (_ : Unit) => r = r0) (fun _ t => zz_B dC dI dA (va_A [zr_o ad f_thrown f_taped f_at f_behind f_size f_kind f_number f_wrong f_wrongAt f_faultKind f_faultPlace f_reading f_toldWhy f_x f_standMany f_bestMany f_tail f_round1, (ad 2, .inl (dA 0, 2982, .inl b_all)), (ad 17, .inl (dA 0, 900, .inl b_reckoned)), (ad 18, .inl (dA 0, 6, .inl b_words))] sz) [zr_o ad o1 f_taped f_at f_behind f_size f_kind f_number f_wrong f_wrongAt f_faultKind f_faultPlace f_reading f_toldWhy f_x f_standMany f_bestMany f_tail f_round1, (ad 2, .inl (dA 0, 2982, .inl b_all)), (ad 17, .inl (dA 0, 900, .inl o2)), (ad 18, .inl (dA 0, 6, .inl o3))] t) (va_A [zr_o ad f_thrown f_taped f_at f_behind f_size f_kind f_number f_wrong f_wrongAt f_faultKind f_faultPlace f_reading f_toldWhy f_x f_standMany f_bestMany f_tail f_round1, (ad 2, .inl (dA 0, 2982, .inl b_all)), (ad 17, .inl (dA 0, 900, .inl b_reckoned)), (ad 18, .inl (dA 0, 6, .inl b_words))] sz)) 0 0 (va_A [zr_o ad f_thrown f_taped f_at f_behind f_size f_kind f_number f_wrong f_wrongAt f_faultKind f_faultPlace f_reading f_toldWhy f_x f_standMany f_bestMany f_tail f_round1, (ad 2, .inl (dA 0, 2982, .inl b_all)), (ad 17, .inl (dA 0, 900, .inl b_reckoned)), (ad 18, .inl (dA 0, 6, .inl b_words))] sz) := by
  unfold zf_X11_by at hf
  refine Met.ofW (cc := cX11_by) (maxL := 4) (ret := (some .int)) (by decide) rfl ?_
  intro p e s m args below meth c s₁ B hml hv
  obtain ⟨rfl, hsz, hP, hK, hD0⟩ := hv
  have hx := B.exec
  have hb := B.bytes
  have hr := B.returns
  have ht : ∀ w ∈ zr_T, w.before ([.ref (ad 0), .int p1, .int p2] : List Value).toArray s = true := fun w hw => atoms_spec (ws := .code yX11_by cX11_by 4 (some .int) :: zr_T) B.pre w (List.mem_cons_of_mem _ hw)
  have hown : s.vm.findClass RX11 = some m.cls := findClass_of_methodNamed B.named
  have hlocks := B.notSynchronized
  subst hsz
  have hD := hD0.self (sz := s.heap.size)
  generalize hAe : va_A [zr_o ad f_thrown f_taped f_at f_behind f_size f_kind f_number f_wrong f_wrongAt f_faultKind f_faultPlace f_reading f_toldWhy f_x f_standMany f_bestMany f_tail f_round1, (ad 2, .inl (dA 0, 2982, .inl b_all)), (ad 17, .inl (dA 0, 900, .inl b_reckoned)), (ad 18, .inl (dA 0, 6, .inl b_words))] s.heap.size = A at hD ⊢
  have hA : ∀ q : Nat, s.heap.size ≤ q → A q := fun q h => by rw [← hAe]; exact Or.inr h
  clear hAe hD0
  have hS : va_S A s.heap s.heap [] := va_S.rf
  have hl := lv_entry ([.ref (ad 0), .int p1, .int p2]) (n := 4) (Nat.le_of_ble_eq_true rfl)
  rw [lg_entry_eq]
  generalize (lg_sl ([.ref (ad 0), .int p1, .int p2]) ++ List.replicate (4 - (lg_sl ([.ref (ad 0), .int p1, .int p2])).length) Slot.unset).toArray = ls at hl ⊢
  have hl : lv_has ls 4 [(0, .ref (ad 0)), (1, .int p1), (2, .int p2)] := hl
  refine lv_aload_n (pc := 0) hx hb dX11_by_0 rfl (lv_at hl 0 rfl) ?_
  refine lv_iconst (v := (0 : Int32)) (pc := 1) hx hb dX11_by_1 (by decide) ?_
  refine va_put (pc := 2) (D := (dC, dI)) (ci := 0) (v := .int (0 : Int32)) (ty := .int) (C := RX11) (T := TX11) (N := 42) hx hb ht zr_lay tyX11 tyX11_ok nmX11 hown hK hP hD hS 0 rfl rfl 0 (by decide) (ht _ zr_39) (fun _ h9 => h9) rfl (by decide +kernel) rfl rfl (Nat.le_of_ble_eq_true rfl) dX11_by_2 (fun H locs hP hD hS => ?_)
  have hP : va_P (dC, dI) zz_cls [zr_o ad (0 : Int32) f_taped f_at f_behind f_size f_kind f_number f_wrong f_wrongAt f_faultKind f_faultPlace f_reading f_toldWhy f_x f_standMany f_bestMany f_tail f_round1, (ad 2, .inl (dA 0, 2982, .inl b_all)), (ad 17, .inl (dA 0, 900, .inl b_reckoned)), (ad 18, .inl (dA 0, 6, .inl b_words))] H := hP
  have hD : va_D A [zr_o ad (0 : Int32) f_taped f_at f_behind f_size f_kind f_number f_wrong f_wrongAt f_faultKind f_faultPlace f_reading f_toldWhy f_x f_standMany f_bestMany f_tail f_round1, (ad 2, .inl (dA 0, 2982, .inl b_all)), (ad 17, .inl (dA 0, 900, .inl b_reckoned)), (ad 18, .inl (dA 0, 6, .inl b_words))] := hD
  refine lv_iload_n (pc := 5) hx hb dX11_by_5 rfl (lv_at hl 2 rfl) ?_
  refine lv_i2l (pc := 6) hx hb dX11_by_6 rfl ?_
  refine lv_lconst (v := (0 : Int64)) (pc := 7) hx hb dX11_by_7 (by decide) ?_
  refine lv_ldc2 (v := (2 : Int64)) (pc := 8) hx hb hown (ht _ zr_231) dX11_by_8 ?_
  obtain ⟨v1, hv1, hf⟩ := zc_1 hf
  refine zw_Si (pc := 11) (wc := []) (wr := [zr_o ad (0 : Int32) f_taped f_at f_behind f_size f_kind f_number f_wrong f_wrongAt f_faultKind f_faultPlace f_reading f_toldWhy f_x f_standMany f_bestMany f_tail f_round1, (ad 2, .inl (dA 0, 2982, .inl b_all)), (ad 17, .inl (dA 0, 900, .inl b_reckoned)), (ad 18, .inl (dA 0, 6, .inl b_words))]) (w1 := []) (As := [.long (Int32.toInt64 p2), .long (0 : Int64), .long (2 : Int64)]) (rest := []) ⟨hx, hb, hml, hown, ht⟩ (zt_X11_within l dC dI dA ad _ (Int32.toInt64 p2) (0 : Int64) (2 : Int64) v1 hv1) (cwS 3 ht (zr_S zr_124 zr_125 zr_36 zr_0) rfl rfl rfl zk_X11_within ⟨Nat.le_of_ble_eq_true rfl, Nat.le_of_ble_eq_true rfl⟩) hK hP hD hS hA [] [0, 1, 2, 3] (by decide) (by decide) (by decide) rfl rfl rfl hl.1 (Nat.le_of_ble_eq_true rfl) dX11_by_11 ⟨Nat.zero_le _, Nat.zero_le _⟩ rfl (fun H locs hP hD hS => ?_)
  have hP : va_P (dC, dI) zz_cls [zr_o ad (0 : Int32) f_taped f_at f_behind f_size f_kind f_number f_wrong f_wrongAt f_faultKind f_faultPlace f_reading f_toldWhy f_x f_standMany f_bestMany f_tail f_round1, (ad 2, .inl (dA 0, 2982, .inl b_all)), (ad 17, .inl (dA 0, 900, .inl b_reckoned)), (ad 18, .inl (dA 0, 6, .inl b_words))] H := hP
  have hD : va_D A [zr_o ad (0 : Int32) f_taped f_at f_behind f_size f_kind f_number f_wrong f_wrongAt f_faultKind f_faultPlace f_reading f_toldWhy f_x f_standMany f_bestMany f_tail f_round1, (ad 2, .inl (dA 0, 2982, .inl b_all)), (ad 17, .inl (dA 0, 900, .inl b_reckoned)), (ad 18, .inl (dA 0, 6, .inl b_words))] := hD
  refine lv_if_ne (tgt := 20) (pc := 14) hx hb dX11_by_14 rfl (fun hc => ?_) (fun hc => ?_)
  · have hf := za_f hf hc
    refine lv_aload_n (pc := 20) hx hb dX11_by_20 rfl (lv_at hl 0 rfl) ?_
    refine lv_iload_n (pc := 21) hx hb dX11_by_21 rfl (lv_at hl 1 rfl) ?_
    refine lv_i2l (pc := 22) hx hb dX11_by_22 rfl ?_
    obtain ⟨v2, a3, a4, hv2, hf⟩ := zc_3 hf
    refine zw_Vi (pc := 23) (wc := [zr_o ad (0 : Int32) f_taped f_at f_behind f_size f_kind f_number f_wrong f_wrongAt f_faultKind f_faultPlace f_reading f_toldWhy f_x f_standMany f_bestMany f_tail f_round1, (ad 2, .inl (dA 0, 2982, .inl b_all)), (ad 17, .inl (dA 0, 900, .inl b_reckoned)), (ad 18, .inl (dA 0, 6, .inl b_words))]) (wr := []) (w1 := [zr_o ad (0 : Int32) f_taped f_at f_behind f_size f_kind f_number f_wrong f_wrongAt f_faultKind f_faultPlace f_reading f_toldWhy f_x f_standMany f_bestMany f_tail f_round1, (ad 2, .inl (dA 0, 2982, .inl b_all)), (ad 17, .inl (dA 0, 900, .inl a3)), (ad 18, .inl (dA 0, 6, .inl a4))]) (As := [.long (Int32.toInt64 p1)]) (rest := []) ⟨hx, hb, hml, hown, ht⟩ (zt_X11_whyAct l dC dI dA ad _ n (0 : Int32) f_taped f_at f_behind f_size f_kind f_number f_wrong f_wrongAt f_faultKind f_faultPlace f_reading f_toldWhy f_x f_standMany f_bestMany f_tail f_round1 b_all b_reckoned b_words (Int32.toInt64 p1) v2 a3 a4 hv2) (cwV 1 ht (zr_V zr_268 zr_269 zr_270 zr_36 zr_267) rfl rfl rfl zk_X11_whyAct ⟨Nat.le_of_ble_eq_true rfl, Nat.le_of_ble_eq_true rfl⟩) rfl rfl hK hP hD hS hA [0, 1, 2, 3] [] (by decide) (by decide) (by decide) rfl rfl rfl hl.1 (Nat.le_of_ble_eq_true rfl) dX11_by_23 ⟨Nat.zero_le _, Nat.zero_le _⟩ rfl (fun H locs hP hD hS => ?_)
    have hP : va_P (dC, dI) zz_cls [zr_o ad (0 : Int32) f_taped f_at f_behind f_size f_kind f_number f_wrong f_wrongAt f_faultKind f_faultPlace f_reading f_toldWhy f_x f_standMany f_bestMany f_tail f_round1, (ad 2, .inl (dA 0, 2982, .inl b_all)), (ad 17, .inl (dA 0, 900, .inl a3)), (ad 18, .inl (dA 0, 6, .inl a4))] H := hP
    have hD : va_D A [zr_o ad (0 : Int32) f_taped f_at f_behind f_size f_kind f_number f_wrong f_wrongAt f_faultKind f_faultPlace f_reading f_toldWhy f_x f_standMany f_bestMany f_tail f_round1, (ad 2, .inl (dA 0, 2982, .inl b_all)), (ad 17, .inl (dA 0, 900, .inl a3)), (ad 18, .inl (dA 0, 6, .inl a4))] := hD
    refine lv_if_eq (tgt := 32) (pc := 26) hx hb dX11_by_26 rfl (fun hc => ?_) (fun hc => ?_)
    · have hf := za_t hf hc
      refine lv_aload_n (pc := 32) hx hb dX11_by_32 rfl (lv_at hl 0 rfl) ?_
      refine lv_aload_n (pc := 33) hx hb dX11_by_33 rfl (lv_at hl 0 rfl) ?_
      obtain ⟨v5, hv5, hf⟩ := zc_1 hf
      refine zw_Vi (pc := 34) (wc := [zr_o ad (0 : Int32) f_taped f_at f_behind f_size f_kind f_number f_wrong f_wrongAt f_faultKind f_faultPlace f_reading f_toldWhy f_x f_standMany f_bestMany f_tail f_round1, (ad 2, .inl (dA 0, 2982, .inl b_all))]) (wr := [(ad 17, .inl (dA 0, 900, .inl a3)), (ad 18, .inl (dA 0, 6, .inl a4))]) (w1 := [zr_o ad (0 : Int32) f_taped f_at f_behind f_size f_kind f_number f_wrong f_wrongAt f_faultKind f_faultPlace f_reading f_toldWhy f_x f_standMany f_bestMany f_tail f_round1, (ad 2, .inl (dA 0, 2982, .inl b_all))]) (As := []) (rest := [.ref (ad 0)]) ⟨hx, hb, hml, hown, ht⟩ (zt_X11_standNow l dC dI dA ad _ (0 : Int32) f_taped f_at f_behind f_size f_kind f_number f_wrong f_wrongAt f_faultKind f_faultPlace f_reading f_toldWhy f_x f_standMany f_bestMany f_tail f_round1 b_all v5 hv5) (cwV 0 ht (zr_V zr_261 zr_262 zr_263 zr_36 zr_213) rfl rfl rfl zk_X11_standNow ⟨Nat.le_of_ble_eq_true rfl, Nat.le_of_ble_eq_true rfl⟩) rfl rfl hK hP hD hS hA [0, 1] [2, 3] (by decide) (by decide) (by decide) rfl rfl rfl hl.1 (Nat.le_of_ble_eq_true rfl) dX11_by_34 ⟨Nat.zero_le _, Nat.zero_le _⟩ rfl (fun H locs hP hD hS => ?_)
      have hP : va_P (dC, dI) zz_cls [(ad 17, .inl (dA 0, 900, .inl a3)), (ad 18, .inl (dA 0, 6, .inl a4)), zr_o ad (0 : Int32) f_taped f_at f_behind f_size f_kind f_number f_wrong f_wrongAt f_faultKind f_faultPlace f_reading f_toldWhy f_x f_standMany f_bestMany f_tail f_round1, (ad 2, .inl (dA 0, 2982, .inl b_all))] H := hP
      have hD : va_D A [(ad 17, .inl (dA 0, 900, .inl a3)), (ad 18, .inl (dA 0, 6, .inl a4)), zr_o ad (0 : Int32) f_taped f_at f_behind f_size f_kind f_number f_wrong f_wrongAt f_faultKind f_faultPlace f_reading f_toldWhy f_x f_standMany f_bestMany f_tail f_round1, (ad 2, .inl (dA 0, 2982, .inl b_all))] := hD
      refine lv_aload_n (pc := 37) hx hb dX11_by_37 rfl (lv_at hl 0 rfl) ?_
      refine lv_iload_n (pc := 38) hx hb dX11_by_38 rfl (lv_at hl 1 rfl) ?_
      refine lv_i2l (pc := 39) hx hb dX11_by_39 rfl ?_
      obtain ⟨v6, hv6, hf⟩ := zc_1 hf
      refine zw_Vi (pc := 40) (wc := [zr_o ad (0 : Int32) f_taped f_at f_behind f_size f_kind f_number f_wrong f_wrongAt f_faultKind f_faultPlace f_reading f_toldWhy f_x f_standMany f_bestMany f_tail f_round1, (ad 2, .inl (dA 0, 2982, .inl b_all))]) (wr := [(ad 17, .inl (dA 0, 900, .inl a3)), (ad 18, .inl (dA 0, 6, .inl a4))]) (w1 := [zr_o ad (0 : Int32) f_taped f_at f_behind f_size f_kind f_number f_wrong f_wrongAt f_faultKind f_faultPlace f_reading f_toldWhy f_x f_standMany f_bestMany f_tail f_round1, (ad 2, .inl (dA 0, 2982, .inl b_all))]) (As := [.long (Int32.toInt64 p1)]) (rest := [.int v5, .ref (ad 0)]) ⟨hx, hb, hml, hown, ht⟩ (zt_X11_moveOf l dC dI dA ad _ (0 : Int32) f_taped f_at f_behind f_size f_kind f_number f_wrong f_wrongAt f_faultKind f_faultPlace f_reading f_toldWhy f_x f_standMany f_bestMany f_tail f_round1 b_all (Int32.toInt64 p1) v6 hv6) (cwV 1 ht (zr_V zr_258 zr_259 zr_260 zr_36 zr_230) rfl rfl rfl zk_X11_moveOf ⟨Nat.le_of_ble_eq_true rfl, Nat.le_of_ble_eq_true rfl⟩) rfl rfl hK hP hD hS hA [2, 3] [0, 1] (by decide) (by decide) (by decide) rfl rfl rfl hl.1 (Nat.le_of_ble_eq_true rfl) dX11_by_40 ⟨Nat.zero_le _, Nat.zero_le _⟩ rfl (fun H locs hP hD hS => ?_)
      have hP : va_P (dC, dI) zz_cls [(ad 17, .inl (dA 0, 900, .inl a3)), (ad 18, .inl (dA 0, 6, .inl a4)), zr_o ad (0 : Int32) f_taped f_at f_behind f_size f_kind f_number f_wrong f_wrongAt f_faultKind f_faultPlace f_reading f_toldWhy f_x f_standMany f_bestMany f_tail f_round1, (ad 2, .inl (dA 0, 2982, .inl b_all))] H := hP
      have hD : va_D A [(ad 17, .inl (dA 0, 900, .inl a3)), (ad 18, .inl (dA 0, 6, .inl a4)), zr_o ad (0 : Int32) f_taped f_at f_behind f_size f_kind f_number f_wrong f_wrongAt f_faultKind f_faultPlace f_reading f_toldWhy f_x f_standMany f_bestMany f_tail f_round1, (ad 2, .inl (dA 0, 2982, .inl b_all))] := hD
      refine lv_aload_n (pc := 43) hx hb dX11_by_43 rfl (lv_at hl 0 rfl) ?_
      refine va_get (pc := 44) (D := (dC, dI)) (ci := 0) (v := .ref (ad 2)) (C := RX11) (T := TX11) (N := 42) hx hb ht zr_lay hown hK hP 2 rfl rfl 1 (by decide) (ht _ zr_6) (fun _ h9 => h9) rfl dX11_by_44 ?_
      refine lv_bipush (v := (40 : Int32)) (pc := 47) hx hb dX11_by_47 (by decide) ?_
      obtain ⟨v7, hv7, hf⟩ := zc_1 hf
      refine zw_iald (pc := 49) hx hb hK hP 3 0 rfl rfl hv7 dX11_by_49 ?_
      obtain ⟨v8, a9, a10, hv8, hf⟩ := zc_3 hf
      refine zw_Vi (pc := 50) (wc := [zr_o ad (0 : Int32) f_taped f_at f_behind f_size f_kind f_number f_wrong f_wrongAt f_faultKind f_faultPlace f_reading f_toldWhy f_x f_standMany f_bestMany f_tail f_round1, (ad 2, .inl (dA 0, 2982, .inl b_all)), (ad 17, .inl (dA 0, 900, .inl a3)), (ad 18, .inl (dA 0, 6, .inl a4))]) (wr := []) (w1 := [zr_o ad (0 : Int32) f_taped f_at f_behind f_size f_kind f_number f_wrong f_wrongAt f_faultKind f_faultPlace f_reading f_toldWhy f_x f_standMany f_bestMany f_tail f_round1, (ad 2, .inl (dA 0, 2982, .inl b_all)), (ad 17, .inl (dA 0, 900, .inl a9)), (ad 18, .inl (dA 0, 6, .inl a10))]) (As := [.int v5, .int v6, .int v7]) (rest := []) ⟨hx, hb, hml, hown, ht⟩ (zt_X11_actedTo l dC dI dA ad _ n (0 : Int32) f_taped f_at f_behind f_size f_kind f_number f_wrong f_wrongAt f_faultKind f_faultPlace f_reading f_toldWhy f_x f_standMany f_bestMany f_tail f_round1 b_all a3 a4 v5 v6 v7 v8 a9 a10 hv8) (cwV 3 ht (zr_V zr_272 zr_273 zr_274 zr_36 zr_253) rfl rfl rfl zk_X11_actedTo ⟨Nat.le_of_ble_eq_true rfl, Nat.le_of_ble_eq_true rfl⟩) rfl rfl hK hP hD hS hA [2, 3, 0, 1] [] (by decide) (by decide) (by decide) rfl rfl rfl hl.1 (Nat.le_of_ble_eq_true rfl) dX11_by_50 ⟨Nat.zero_le _, Nat.zero_le _⟩ rfl (fun H locs hP hD hS => ?_)
      have hP : va_P (dC, dI) zz_cls [zr_o ad (0 : Int32) f_taped f_at f_behind f_size f_kind f_number f_wrong f_wrongAt f_faultKind f_faultPlace f_reading f_toldWhy f_x f_standMany f_bestMany f_tail f_round1, (ad 2, .inl (dA 0, 2982, .inl b_all)), (ad 17, .inl (dA 0, 900, .inl a9)), (ad 18, .inl (dA 0, 6, .inl a10))] H := hP
      have hD : va_D A [zr_o ad (0 : Int32) f_taped f_at f_behind f_size f_kind f_number f_wrong f_wrongAt f_faultKind f_faultPlace f_reading f_toldWhy f_x f_standMany f_bestMany f_tail f_round1, (ad 2, .inl (dA 0, 2982, .inl b_all)), (ad 17, .inl (dA 0, 900, .inl a9)), (ad 18, .inl (dA 0, 6, .inl a10))] := hD
      refine lv_istore_n (lv' := [(3, .int v8), (0, .ref (ad 0)), (1, .int p1), (2, .int p2)]) (pc := 53) hx hb dX11_by_53 rfl hl (by decide) rfl (fun ls hl => ?_)
      refine lv_iload_n (pc := 54) hx hb dX11_by_54 rfl (lv_at hl 3 rfl) ?_
      refine lv_if_ne (tgt := 65) (pc := 55) hx hb dX11_by_55 rfl (fun hc => ?_) (fun hc => ?_)
      · have hf := za_f hf hc
        refine lv_iload_n (pc := 65) hx hb dX11_by_65 rfl (lv_at hl 3 rfl) ?_
        refine lv_iconst (v := (1 : Int32)) (pc := 66) hx hb dX11_by_66 (by decide) ?_
        refine lv_icmp_ne (tgt := 77) (pc := 67) hx hb dX11_by_67 rfl (fun hc => ?_) (fun hc => ?_)
        · have hf := za_f hf hc
          refine lv_iload_n (pc := 77) hx hb dX11_by_77 rfl (lv_at hl 0 rfl) ?_
          refine lv_iconst (v := (5 : Int32)) (pc := 78) hx hb dX11_by_78 (by decide) ?_
          refine lv_irem (pc := 79) hx hb dX11_by_79 (by decide) ?_
          obtain ⟨rfl, rfl, rfl, rfl⟩ := zi_4 hf
          exact W.iret (pc := 80) hx hb hr (fun t ht hW => ⟨⟨_, (), rfl, rfl, zz_Bi (by rw [ht]; exact hP) (va_K.moved hW.alike hK) (hD)⟩, hS.F ht⟩) hS.2.2 dX11_by_80
        · have hf := za_t hf hc
          refine lv_iload_n (pc := 70) hx hb dX11_by_70 rfl (lv_at hl 0 rfl) ?_
          obtain ⟨v12, hv12, hf⟩ := zc_1 hf
          refine zw_Si (pc := 71) (wc := []) (wr := [zr_o ad (0 : Int32) f_taped f_at f_behind f_size f_kind f_number f_wrong f_wrongAt f_faultKind f_faultPlace f_reading f_toldWhy f_x f_standMany f_bestMany f_tail f_round1, (ad 2, .inl (dA 0, 2982, .inl b_all)), (ad 17, .inl (dA 0, 900, .inl a9)), (ad 18, .inl (dA 0, 6, .inl a10))]) (w1 := []) (As := [.int v8]) (rest := []) ⟨hx, hb, hml, hown, ht⟩ (zt_X11_hasIn l dC dI dA ad _ v8 v12 hv12) (cwS 1 ht (zr_S zr_219 zr_220 zr_36 zr_211) rfl rfl rfl zk_X11_hasIn ⟨Nat.le_of_ble_eq_true rfl, Nat.le_of_ble_eq_true rfl⟩) hK hP hD hS hA [] [0, 1, 2, 3] (by decide) (by decide) (by decide) rfl rfl rfl hl.1 (Nat.le_of_ble_eq_true rfl) dX11_by_71 ⟨Nat.zero_le _, Nat.zero_le _⟩ rfl (fun H locs hP hD hS => ?_)
          have hP : va_P (dC, dI) zz_cls [zr_o ad (0 : Int32) f_taped f_at f_behind f_size f_kind f_number f_wrong f_wrongAt f_faultKind f_faultPlace f_reading f_toldWhy f_x f_standMany f_bestMany f_tail f_round1, (ad 2, .inl (dA 0, 2982, .inl b_all)), (ad 17, .inl (dA 0, 900, .inl a9)), (ad 18, .inl (dA 0, 6, .inl a10))] H := hP
          have hD : va_D A [zr_o ad (0 : Int32) f_taped f_at f_behind f_size f_kind f_number f_wrong f_wrongAt f_faultKind f_faultPlace f_reading f_toldWhy f_x f_standMany f_bestMany f_tail f_round1, (ad 2, .inl (dA 0, 2982, .inl b_all)), (ad 17, .inl (dA 0, 900, .inl a9)), (ad 18, .inl (dA 0, 6, .inl a10))] := hD
          refine lv_goto (tgt := 80) (pc := 74) hx hb dX11_by_74 rfl ?_
          obtain ⟨rfl, rfl, rfl, rfl⟩ := zi_4 hf
          exact W.iret (pc := 80) hx hb hr (fun t ht hW => ⟨⟨_, (), rfl, rfl, zz_Bi (by rw [ht]; exact hP) (va_K.moved hW.alike hK) (hD)⟩, hS.F ht⟩) hS.2.2 dX11_by_80
      · have hf := za_t hf hc
        refine lv_iload_n (pc := 58) hx hb dX11_by_58 rfl (lv_at hl 0 rfl) ?_
        obtain ⟨v11, hv11, hf⟩ := zc_1 hf
        refine zw_Si (pc := 59) (wc := []) (wr := [zr_o ad (0 : Int32) f_taped f_at f_behind f_size f_kind f_number f_wrong f_wrongAt f_faultKind f_faultPlace f_reading f_toldWhy f_x f_standMany f_bestMany f_tail f_round1, (ad 2, .inl (dA 0, 2982, .inl b_all)), (ad 17, .inl (dA 0, 900, .inl a9)), (ad 18, .inl (dA 0, 6, .inl a10))]) (w1 := []) (As := [.int v8]) (rest := []) ⟨hx, hb, hml, hown, ht⟩ (zt_X11_rungIn l dC dI dA ad _ v8 v11 hv11) (cwS 1 ht (zr_S zr_217 zr_218 zr_36 zr_210) rfl rfl rfl zk_X11_rungIn ⟨Nat.le_of_ble_eq_true rfl, Nat.le_of_ble_eq_true rfl⟩) hK hP hD hS hA [] [0, 1, 2, 3] (by decide) (by decide) (by decide) rfl rfl rfl hl.1 (Nat.le_of_ble_eq_true rfl) dX11_by_59 ⟨Nat.zero_le _, Nat.zero_le _⟩ rfl (fun H locs hP hD hS => ?_)
        have hP : va_P (dC, dI) zz_cls [zr_o ad (0 : Int32) f_taped f_at f_behind f_size f_kind f_number f_wrong f_wrongAt f_faultKind f_faultPlace f_reading f_toldWhy f_x f_standMany f_bestMany f_tail f_round1, (ad 2, .inl (dA 0, 2982, .inl b_all)), (ad 17, .inl (dA 0, 900, .inl a9)), (ad 18, .inl (dA 0, 6, .inl a10))] H := hP
        have hD : va_D A [zr_o ad (0 : Int32) f_taped f_at f_behind f_size f_kind f_number f_wrong f_wrongAt f_faultKind f_faultPlace f_reading f_toldWhy f_x f_standMany f_bestMany f_tail f_round1, (ad 2, .inl (dA 0, 2982, .inl b_all)), (ad 17, .inl (dA 0, 900, .inl a9)), (ad 18, .inl (dA 0, 6, .inl a10))] := hD
        refine lv_goto (tgt := 80) (pc := 62) hx hb dX11_by_62 rfl ?_
        obtain ⟨rfl, rfl, rfl, rfl⟩ := zi_4 hf
        exact W.iret (pc := 80) hx hb hr (fun t ht hW => ⟨⟨_, (), rfl, rfl, zz_Bi (by rw [ht]; exact hP) (va_K.moved hW.alike hK) (hD)⟩, hS.F ht⟩) hS.2.2 dX11_by_80
    · have hf := za_f hf hc
      refine lv_bipush (v := (-5 : Int32)) (pc := 29) hx hb dX11_by_29 (by decide) ?_
      obtain ⟨rfl, rfl, rfl, rfl⟩ := zi_4 hf
      exact W.iret (pc := 31) hx hb hr (fun t ht hW => ⟨⟨_, (), rfl, rfl, zz_Bi (by rw [ht]; exact hP) (va_K.moved hW.alike hK) (hD)⟩, hS.F ht⟩) hS.2.2 dX11_by_31
  · have hf := za_t hf hc
    refine lv_bipush (v := (-2 : Int32)) (pc := 17) hx hb dX11_by_17 (by decide) ?_
    obtain ⟨rfl, rfl, rfl, rfl⟩ := zi_4 hf
    exact W.iret (pc := 19) hx hb hr (fun t ht hW => ⟨⟨_, (), rfl, rfl, zz_Bi (by rw [ht]; exact hP) (va_K.moved hW.alike hK) (hD)⟩, hS.F ht⟩) hS.2.2 dX11_by_19

def zb_X11_keeps_2 (b_all : (Nat → Int32)) (v1 : Int32) (a2 : (Nat → Int32)) : Option (Nat × Int32 × (Nat → Int32)) :=
  if (5 : Int32) ≤ v1 then
    some (1, v1, a2)
  else
    zd_1 (za_ld b_all 2982 ((37 : Int32) + v1)) (fun v3 =>
    zd_1 (za_st a2 5 v1 v3) (fun a4 =>
    zd_1 (some (v1 + (1 : Int32))) (fun v5 =>
    some (0, v5, a4))))
def zf_X11_keeps (n : Nat) (b_all : (Nat → Int32)) (b_was : (Nat → Int32)) : Option ((Nat → Int32)) :=
  zd_3 (za_it (fun v => zb_X11_keeps_2 b_all v.1 v.2) n ((0 : Int32), b_was)) (fun g8 v6 a7 =>
  some a7)
theorem zk_X11_keeps : yX11_keeps.cls = RX11 ∧ yX11_keeps.cls ≠ "java/lang/invoke/MethodHandle" ∧ yX11_keeps.cls ≠ "java/lang/invoke/VarHandle" ∧ (parseMethodDescriptor yX11_keeps.desc).map (fun d => d.parameters.length) = some 0 := by decide +kernel
set_option maxHeartbeats 4000000 in
set_option maxRecDepth 100000 in
theorem zt_X11_keeps (l : Launch) (dC : Nat → ClassId) (dI : Nat → Nat → Nat) (dA : Nat → ClassId) (ad : Nat → Nat) (sz : Nat) (n : Nat) (f_thrown f_taped f_at f_behind f_size f_kind f_number f_wrong f_wrongAt f_faultKind f_faultPlace f_reading f_toldWhy f_x f_standMany f_bestMany f_tail f_round1 : Int32) (b_all : (Nat → Int32)) (b_was : (Nat → Int32)) (o1 : (Nat → Int32)) (hf : zf_X11_keeps n b_all b_was = some o1) : Met l yX11_keeps (.code yX11_keeps cX11_keeps 2 none :: zr_T) ({ frames := 0, cells := 0, slots := 0, locals := 0 }) (va_Pc [.ref (ad 0)] (zz_M dC dI dA [zr_o ad f_thrown f_taped f_at f_behind f_size f_kind f_number f_wrong f_wrongAt f_faultKind f_faultPlace f_reading f_toldWhy f_x f_standMany f_bestMany f_tail f_round1, (ad 2, .inl (dA 0, 2982, .inl b_all)), (ad 19, .inl (dA 0, 5, .inl b_was))] sz)) (va_Qv (fun _ : Unit => True) (fun _ t => zz_B dC dI dA (va_A [zr_o ad f_thrown f_taped f_at f_behind f_size f_kind f_number f_wrong f_wrongAt f_faultKind f_faultPlace f_reading f_toldWhy f_x f_standMany f_bestMany f_tail f_round1, (ad 2, .inl (dA 0, 2982, .inl b_all)), (ad 19, .inl (dA 0, 5, .inl b_was))] sz) [zr_o ad f_thrown f_taped f_at f_behind f_size f_kind f_number f_wrong f_wrongAt f_faultKind f_faultPlace f_reading f_toldWhy f_x f_standMany f_bestMany f_tail f_round1, (ad 2, .inl (dA 0, 2982, .inl b_all)), (ad 19, .inl (dA 0, 5, .inl o1))] t) (va_A [zr_o ad f_thrown f_taped f_at f_behind f_size f_kind f_number f_wrong f_wrongAt f_faultKind f_faultPlace f_reading f_toldWhy f_x f_standMany f_bestMany f_tail f_round1, (ad 2, .inl (dA 0, 2982, .inl b_all)), (ad 19, .inl (dA 0, 5, .inl b_was))] sz)) 0 0 (va_A [zr_o ad f_thrown f_taped f_at f_behind f_size f_kind f_number f_wrong f_wrongAt f_faultKind f_faultPlace f_reading f_toldWhy f_x f_standMany f_bestMany f_tail f_round1, (ad 2, .inl (dA 0, 2982, .inl b_all)), (ad 19, .inl (dA 0, 5, .inl b_was))] sz) := by
  unfold zf_X11_keeps at hf
  refine Met.ofW (cc := cX11_keeps) (maxL := 2) (ret := none) (by decide) rfl ?_
  intro p e s m args below meth c s₁ B hml hv
  obtain ⟨rfl, hsz, hP, hK, hD0⟩ := hv
  have hx := B.exec
  have hb := B.bytes
  have hr := B.returns
  have ht : ∀ w ∈ zr_T, w.before ([.ref (ad 0)] : List Value).toArray s = true := fun w hw => atoms_spec (ws := .code yX11_keeps cX11_keeps 2 none :: zr_T) B.pre w (List.mem_cons_of_mem _ hw)
  have hown : s.vm.findClass RX11 = some m.cls := findClass_of_methodNamed B.named
  have hlocks := B.notSynchronized
  subst hsz
  have hD := hD0.self (sz := s.heap.size)
  generalize hAe : va_A [zr_o ad f_thrown f_taped f_at f_behind f_size f_kind f_number f_wrong f_wrongAt f_faultKind f_faultPlace f_reading f_toldWhy f_x f_standMany f_bestMany f_tail f_round1, (ad 2, .inl (dA 0, 2982, .inl b_all)), (ad 19, .inl (dA 0, 5, .inl b_was))] s.heap.size = A at hD ⊢
  have hA : ∀ q : Nat, s.heap.size ≤ q → A q := fun q h => by rw [← hAe]; exact Or.inr h
  clear hAe hD0
  have hS : va_S A s.heap s.heap [] := va_S.rf
  have hl := lv_entry ([.ref (ad 0)]) (n := 2) (Nat.le_of_ble_eq_true rfl)
  rw [lg_entry_eq]
  generalize (lg_sl ([.ref (ad 0)]) ++ List.replicate (2 - (lg_sl ([.ref (ad 0)])).length) Slot.unset).toArray = ls at hl ⊢
  have hl : lv_has ls 2 [(0, .ref (ad 0))] := hl
  refine lv_iconst (v := (0 : Int32)) (pc := 0) hx hb dX11_keeps_0 (by decide) ?_
  refine lv_istore_n (lv' := [(1, .int (0 : Int32)), (0, .ref (ad 0))]) (pc := 1) hx hb dX11_keeps_1 rfl hl (by decide) rfl (fun ls hl => ?_)
  obtain ⟨g8, v6, a7, hj, hf⟩ := zc_3 hf
  refine zj_join (pcJ := 28) (stk := []) (X := fun H locs ls => lv_has ls 2 [] ∧ va_P (dC, dI) zz_cls [zr_o ad f_thrown f_taped f_at f_behind f_size f_kind f_number f_wrong f_wrongAt f_faultKind f_faultPlace f_reading f_toldWhy f_x f_standMany f_bestMany f_tail f_round1, (ad 2, .inl (dA 0, 2982, .inl b_all)), (ad 19, .inl (dA 0, 5, .inl a7))] H ∧ va_D A [zr_o ad f_thrown f_taped f_at f_behind f_size f_kind f_number f_wrong f_wrongAt f_faultKind f_faultPlace f_reading f_toldWhy f_x f_standMany f_bestMany f_tail f_round1, (ad 2, .inl (dA 0, 2982, .inl b_all)), (ad 19, .inl (dA 0, 5, .inl a7))] ∧ va_S A s.heap H locs) (fun H locs ls hX => ?_) (fun E28 => ?_)
  · obtain ⟨hl, hP, hD, hS⟩ := hX
    clear hj
    obtain rfl := Option.some.inj hf
    exact W.vret (pc := 28) hx hb hr (fun t ht hW => ⟨⟨(), rfl, trivial, zz_Bi (by rw [ht]; exact hP) (va_K.moved hW.alike hK) (hD)⟩, hS.F ht⟩) hS.2.2 dX11_keeps_28
  clear hf
  refine zw_loop (pcH := 2) (X := fun v H locs ls => lv_has ls 2 [(0, .ref (ad 0)), (1, .int v.1)] ∧ va_P (dC, dI) zz_cls [zr_o ad f_thrown f_taped f_at f_behind f_size f_kind f_number f_wrong f_wrongAt f_faultKind f_faultPlace f_reading f_toldWhy f_x f_standMany f_bestMany f_tail f_round1, (ad 2, .inl (dA 0, 2982, .inl b_all)), (ad 19, .inl (dA 0, 5, .inl v.2))] H ∧ va_D A [zr_o ad f_thrown f_taped f_at f_behind f_size f_kind f_number f_wrong f_wrongAt f_faultKind f_faultPlace f_reading f_toldWhy f_x f_standMany f_bestMany f_tail f_round1, (ad 2, .inl (dA 0, 2982, .inl b_all)), (ad 19, .inl (dA 0, 5, .inl v.2))] ∧ va_S A s.heap H locs) hj (fun v w hf ih ex H locs ls hX => ?_) _ _ _ ⟨lv_sub hl [1, 0] rfl, hP, hD, hS⟩
  clear hj
  obtain ⟨v1, a2⟩ := v
  obtain ⟨hl, hP, hD, hS⟩ := hX
  have hl : lv_has ls 2 [(0, .ref (ad 0)), (1, .int v1)] := hl
  have hP : va_P (dC, dI) zz_cls [zr_o ad f_thrown f_taped f_at f_behind f_size f_kind f_number f_wrong f_wrongAt f_faultKind f_faultPlace f_reading f_toldWhy f_x f_standMany f_bestMany f_tail f_round1, (ad 2, .inl (dA 0, 2982, .inl b_all)), (ad 19, .inl (dA 0, 5, .inl a2))] H := hP
  have hD : va_D A [zr_o ad f_thrown f_taped f_at f_behind f_size f_kind f_number f_wrong f_wrongAt f_faultKind f_faultPlace f_reading f_toldWhy f_x f_standMany f_bestMany f_tail f_round1, (ad 2, .inl (dA 0, 2982, .inl b_all)), (ad 19, .inl (dA 0, 5, .inl a2))] := hD
  replace hf : zb_X11_keeps_2 b_all v1 a2 = some w := hf
  unfold zb_X11_keeps_2 at hf
  refine lv_iload_n (pc := 2) hx hb dX11_keeps_2 rfl (lv_at hl 1 rfl) ?_
  refine lv_iconst (v := (5 : Int32)) (pc := 3) hx hb dX11_keeps_3 (by decide) ?_
  refine lv_icmp_ge (tgt := 28) (pc := 4) hx hb dX11_keeps_4 rfl (fun hc => ?_) (fun hc => ?_)
  · have hf := za_t hf hc
    obtain rfl := Option.some.inj hf
    obtain ⟨rfl, rfl, rfl⟩ := zp_3 (ex (show ¬ (1 : Nat) = 0 by decide))
    exact E28 _ _ _ ⟨lv_sub hl [] rfl, hP, hD, hS⟩
  · have hf := za_f hf hc
    refine lv_aload_n (pc := 7) hx hb dX11_keeps_7 rfl (lv_at hl 0 rfl) ?_
    refine va_get (pc := 8) (D := (dC, dI)) (ci := 0) (v := .ref (ad 19)) (C := RX11) (T := TX11) (N := 42) hx hb ht zr_lay hown hK hP 0 rfl rfl 18 (by decide) (ht _ zr_14) (fun _ h9 => h9) rfl dX11_keeps_8 ?_
    refine lv_iload_n (pc := 11) hx hb dX11_keeps_11 rfl (lv_at hl 1 rfl) ?_
    refine lv_aload_n (pc := 12) hx hb dX11_keeps_12 rfl (lv_at hl 0 rfl) ?_
    refine va_get (pc := 13) (D := (dC, dI)) (ci := 0) (v := .ref (ad 2)) (C := RX11) (T := TX11) (N := 42) hx hb ht zr_lay hown hK hP 0 rfl rfl 1 (by decide) (ht _ zr_6) (fun _ h9 => h9) rfl dX11_keeps_13 ?_
    refine lv_bipush (v := (37 : Int32)) (pc := 16) hx hb dX11_keeps_16 (by decide) ?_
    refine lv_iload_n (pc := 18) hx hb dX11_keeps_18 rfl (lv_at hl 1 rfl) ?_
    refine lv_iadd (pc := 19) hx hb dX11_keeps_19 ?_
    obtain ⟨v3, hv3, hf⟩ := zc_1 hf
    refine zw_iald (pc := 20) hx hb hK hP 1 0 rfl rfl hv3 dX11_keeps_20 ?_
    obtain ⟨a4, ha4, hf⟩ := zc_1 hf
    refine zw_iast (pc := 21) hx hb hK hP hD hS 2 0 rfl rfl ha4 dX11_keeps_21 (fun H locs hP hD hS => ?_)
    have hP : va_P (dC, dI) zz_cls [zr_o ad f_thrown f_taped f_at f_behind f_size f_kind f_number f_wrong f_wrongAt f_faultKind f_faultPlace f_reading f_toldWhy f_x f_standMany f_bestMany f_tail f_round1, (ad 2, .inl (dA 0, 2982, .inl b_all)), (ad 19, .inl (dA 0, 5, .inl a4))] H := hP
    have hD : va_D A [zr_o ad f_thrown f_taped f_at f_behind f_size f_kind f_number f_wrong f_wrongAt f_faultKind f_faultPlace f_reading f_toldWhy f_x f_standMany f_bestMany f_tail f_round1, (ad 2, .inl (dA 0, 2982, .inl b_all)), (ad 19, .inl (dA 0, 5, .inl a4))] := hD
    obtain ⟨v5, hv5, hf⟩ := zc_1 hf
    refine lv_iinc (v := v5) (lv' := [(1, .int v5), (0, .ref (ad 0))]) (k := 1) (pc := 22) hx hb dX11_keeps_22 hl rfl (Option.some.inj hv5) (by decide) rfl (fun ls hl => ?_)
    refine lv_goto (tgt := 2) (pc := 25) hx hb dX11_keeps_25 rfl ?_
    obtain rfl := Option.some.inj hf
    exact ih rfl _ _ _ ⟨lv_sub hl [1, 0] rfl, hP, hD, hS⟩

def zb_X11_isAgain_2 (b_was : (Nat → Int32)) (v1 : Int32) (a2 : (Nat → Int32)) : Option (Nat × Int32 × (Nat → Int32)) :=
  if (5 : Int32) ≤ v1 then
    some (1, v1, a2)
  else
    zd_1 (za_ld b_was 5 v1) (fun v3 =>
    zd_1 (za_st a2 2982 ((37 : Int32) + v1) v3) (fun a4 =>
    zd_1 (some (v1 + (1 : Int32))) (fun v5 =>
    some (0, v5, a4))))
def zf_X11_isAgain (n : Nat) (b_all : (Nat → Int32)) (b_was : (Nat → Int32)) : Option ((Nat → Int32)) :=
  zd_3 (za_it (fun v => zb_X11_isAgain_2 b_was v.1 v.2) n ((0 : Int32), b_all)) (fun g8 v6 a7 =>
  some a7)
theorem zk_X11_isAgain : yX11_isAgain.cls = RX11 ∧ yX11_isAgain.cls ≠ "java/lang/invoke/MethodHandle" ∧ yX11_isAgain.cls ≠ "java/lang/invoke/VarHandle" ∧ (parseMethodDescriptor yX11_isAgain.desc).map (fun d => d.parameters.length) = some 0 := by decide +kernel
set_option maxHeartbeats 4000000 in
set_option maxRecDepth 100000 in
theorem zt_X11_isAgain (l : Launch) (dC : Nat → ClassId) (dI : Nat → Nat → Nat) (dA : Nat → ClassId) (ad : Nat → Nat) (sz : Nat) (n : Nat) (f_thrown f_taped f_at f_behind f_size f_kind f_number f_wrong f_wrongAt f_faultKind f_faultPlace f_reading f_toldWhy f_x f_standMany f_bestMany f_tail f_round1 : Int32) (b_all : (Nat → Int32)) (b_was : (Nat → Int32)) (o1 : (Nat → Int32)) (hf : zf_X11_isAgain n b_all b_was = some o1) : Met l yX11_isAgain (.code yX11_isAgain cX11_isAgain 2 none :: zr_T) ({ frames := 0, cells := 0, slots := 0, locals := 0 }) (va_Pc [.ref (ad 0)] (zz_M dC dI dA [zr_o ad f_thrown f_taped f_at f_behind f_size f_kind f_number f_wrong f_wrongAt f_faultKind f_faultPlace f_reading f_toldWhy f_x f_standMany f_bestMany f_tail f_round1, (ad 2, .inl (dA 0, 2982, .inl b_all)), (ad 19, .inl (dA 0, 5, .inl b_was))] sz)) (va_Qv (fun _ : Unit => True) (fun _ t => zz_B dC dI dA (va_A [zr_o ad f_thrown f_taped f_at f_behind f_size f_kind f_number f_wrong f_wrongAt f_faultKind f_faultPlace f_reading f_toldWhy f_x f_standMany f_bestMany f_tail f_round1, (ad 2, .inl (dA 0, 2982, .inl b_all)), (ad 19, .inl (dA 0, 5, .inl b_was))] sz) [zr_o ad f_thrown f_taped f_at f_behind f_size f_kind f_number f_wrong f_wrongAt f_faultKind f_faultPlace f_reading f_toldWhy f_x f_standMany f_bestMany f_tail f_round1, (ad 2, .inl (dA 0, 2982, .inl o1)), (ad 19, .inl (dA 0, 5, .inl b_was))] t) (va_A [zr_o ad f_thrown f_taped f_at f_behind f_size f_kind f_number f_wrong f_wrongAt f_faultKind f_faultPlace f_reading f_toldWhy f_x f_standMany f_bestMany f_tail f_round1, (ad 2, .inl (dA 0, 2982, .inl b_all)), (ad 19, .inl (dA 0, 5, .inl b_was))] sz)) 0 0 (va_A [zr_o ad f_thrown f_taped f_at f_behind f_size f_kind f_number f_wrong f_wrongAt f_faultKind f_faultPlace f_reading f_toldWhy f_x f_standMany f_bestMany f_tail f_round1, (ad 2, .inl (dA 0, 2982, .inl b_all)), (ad 19, .inl (dA 0, 5, .inl b_was))] sz) := by
  unfold zf_X11_isAgain at hf
  refine Met.ofW (cc := cX11_isAgain) (maxL := 2) (ret := none) (by decide) rfl ?_
  intro p e s m args below meth c s₁ B hml hv
  obtain ⟨rfl, hsz, hP, hK, hD0⟩ := hv
  have hx := B.exec
  have hb := B.bytes
  have hr := B.returns
  have ht : ∀ w ∈ zr_T, w.before ([.ref (ad 0)] : List Value).toArray s = true := fun w hw => atoms_spec (ws := .code yX11_isAgain cX11_isAgain 2 none :: zr_T) B.pre w (List.mem_cons_of_mem _ hw)
  have hown : s.vm.findClass RX11 = some m.cls := findClass_of_methodNamed B.named
  have hlocks := B.notSynchronized
  subst hsz
  have hD := hD0.self (sz := s.heap.size)
  generalize hAe : va_A [zr_o ad f_thrown f_taped f_at f_behind f_size f_kind f_number f_wrong f_wrongAt f_faultKind f_faultPlace f_reading f_toldWhy f_x f_standMany f_bestMany f_tail f_round1, (ad 2, .inl (dA 0, 2982, .inl b_all)), (ad 19, .inl (dA 0, 5, .inl b_was))] s.heap.size = A at hD ⊢
  have hA : ∀ q : Nat, s.heap.size ≤ q → A q := fun q h => by rw [← hAe]; exact Or.inr h
  clear hAe hD0
  have hS : va_S A s.heap s.heap [] := va_S.rf
  have hl := lv_entry ([.ref (ad 0)]) (n := 2) (Nat.le_of_ble_eq_true rfl)
  rw [lg_entry_eq]
  generalize (lg_sl ([.ref (ad 0)]) ++ List.replicate (2 - (lg_sl ([.ref (ad 0)])).length) Slot.unset).toArray = ls at hl ⊢
  have hl : lv_has ls 2 [(0, .ref (ad 0))] := hl
  refine lv_iconst (v := (0 : Int32)) (pc := 0) hx hb dX11_isAgain_0 (by decide) ?_
  refine lv_istore_n (lv' := [(1, .int (0 : Int32)), (0, .ref (ad 0))]) (pc := 1) hx hb dX11_isAgain_1 rfl hl (by decide) rfl (fun ls hl => ?_)
  obtain ⟨g8, v6, a7, hj, hf⟩ := zc_3 hf
  refine zj_join (pcJ := 28) (stk := []) (X := fun H locs ls => lv_has ls 2 [] ∧ va_P (dC, dI) zz_cls [zr_o ad f_thrown f_taped f_at f_behind f_size f_kind f_number f_wrong f_wrongAt f_faultKind f_faultPlace f_reading f_toldWhy f_x f_standMany f_bestMany f_tail f_round1, (ad 2, .inl (dA 0, 2982, .inl a7)), (ad 19, .inl (dA 0, 5, .inl b_was))] H ∧ va_D A [zr_o ad f_thrown f_taped f_at f_behind f_size f_kind f_number f_wrong f_wrongAt f_faultKind f_faultPlace f_reading f_toldWhy f_x f_standMany f_bestMany f_tail f_round1, (ad 2, .inl (dA 0, 2982, .inl a7)), (ad 19, .inl (dA 0, 5, .inl b_was))] ∧ va_S A s.heap H locs) (fun H locs ls hX => ?_) (fun E28 => ?_)
  · obtain ⟨hl, hP, hD, hS⟩ := hX
    clear hj
    obtain rfl := Option.some.inj hf
    exact W.vret (pc := 28) hx hb hr (fun t ht hW => ⟨⟨(), rfl, trivial, zz_Bi (by rw [ht]; exact hP) (va_K.moved hW.alike hK) (hD)⟩, hS.F ht⟩) hS.2.2 dX11_isAgain_28
  clear hf
  refine zw_loop (pcH := 2) (X := fun v H locs ls => lv_has ls 2 [(0, .ref (ad 0)), (1, .int v.1)] ∧ va_P (dC, dI) zz_cls [zr_o ad f_thrown f_taped f_at f_behind f_size f_kind f_number f_wrong f_wrongAt f_faultKind f_faultPlace f_reading f_toldWhy f_x f_standMany f_bestMany f_tail f_round1, (ad 2, .inl (dA 0, 2982, .inl v.2)), (ad 19, .inl (dA 0, 5, .inl b_was))] H ∧ va_D A [zr_o ad f_thrown f_taped f_at f_behind f_size f_kind f_number f_wrong f_wrongAt f_faultKind f_faultPlace f_reading f_toldWhy f_x f_standMany f_bestMany f_tail f_round1, (ad 2, .inl (dA 0, 2982, .inl v.2)), (ad 19, .inl (dA 0, 5, .inl b_was))] ∧ va_S A s.heap H locs) hj (fun v w hf ih ex H locs ls hX => ?_) _ _ _ ⟨lv_sub hl [1, 0] rfl, hP, hD, hS⟩
  clear hj
  obtain ⟨v1, a2⟩ := v
  obtain ⟨hl, hP, hD, hS⟩ := hX
  have hl : lv_has ls 2 [(0, .ref (ad 0)), (1, .int v1)] := hl
  have hP : va_P (dC, dI) zz_cls [zr_o ad f_thrown f_taped f_at f_behind f_size f_kind f_number f_wrong f_wrongAt f_faultKind f_faultPlace f_reading f_toldWhy f_x f_standMany f_bestMany f_tail f_round1, (ad 2, .inl (dA 0, 2982, .inl a2)), (ad 19, .inl (dA 0, 5, .inl b_was))] H := hP
  have hD : va_D A [zr_o ad f_thrown f_taped f_at f_behind f_size f_kind f_number f_wrong f_wrongAt f_faultKind f_faultPlace f_reading f_toldWhy f_x f_standMany f_bestMany f_tail f_round1, (ad 2, .inl (dA 0, 2982, .inl a2)), (ad 19, .inl (dA 0, 5, .inl b_was))] := hD
  replace hf : zb_X11_isAgain_2 b_was v1 a2 = some w := hf
  unfold zb_X11_isAgain_2 at hf
  refine lv_iload_n (pc := 2) hx hb dX11_isAgain_2 rfl (lv_at hl 1 rfl) ?_
  refine lv_iconst (v := (5 : Int32)) (pc := 3) hx hb dX11_isAgain_3 (by decide) ?_
  refine lv_icmp_ge (tgt := 28) (pc := 4) hx hb dX11_isAgain_4 rfl (fun hc => ?_) (fun hc => ?_)
  · have hf := za_t hf hc
    obtain rfl := Option.some.inj hf
    obtain ⟨rfl, rfl, rfl⟩ := zp_3 (ex (show ¬ (1 : Nat) = 0 by decide))
    exact E28 _ _ _ ⟨lv_sub hl [] rfl, hP, hD, hS⟩
  · have hf := za_f hf hc
    refine lv_aload_n (pc := 7) hx hb dX11_isAgain_7 rfl (lv_at hl 0 rfl) ?_
    refine va_get (pc := 8) (D := (dC, dI)) (ci := 0) (v := .ref (ad 2)) (C := RX11) (T := TX11) (N := 42) hx hb ht zr_lay hown hK hP 0 rfl rfl 1 (by decide) (ht _ zr_6) (fun _ h9 => h9) rfl dX11_isAgain_8 ?_
    refine lv_bipush (v := (37 : Int32)) (pc := 11) hx hb dX11_isAgain_11 (by decide) ?_
    refine lv_iload_n (pc := 13) hx hb dX11_isAgain_13 rfl (lv_at hl 1 rfl) ?_
    refine lv_iadd (pc := 14) hx hb dX11_isAgain_14 ?_
    refine lv_aload_n (pc := 15) hx hb dX11_isAgain_15 rfl (lv_at hl 0 rfl) ?_
    refine va_get (pc := 16) (D := (dC, dI)) (ci := 0) (v := .ref (ad 19)) (C := RX11) (T := TX11) (N := 42) hx hb ht zr_lay hown hK hP 0 rfl rfl 18 (by decide) (ht _ zr_14) (fun _ h9 => h9) rfl dX11_isAgain_16 ?_
    refine lv_iload_n (pc := 19) hx hb dX11_isAgain_19 rfl (lv_at hl 1 rfl) ?_
    obtain ⟨v3, hv3, hf⟩ := zc_1 hf
    refine zw_iald (pc := 20) hx hb hK hP 2 0 rfl rfl hv3 dX11_isAgain_20 ?_
    obtain ⟨a4, ha4, hf⟩ := zc_1 hf
    refine zw_iast (pc := 21) hx hb hK hP hD hS 1 0 rfl rfl ha4 dX11_isAgain_21 (fun H locs hP hD hS => ?_)
    have hP : va_P (dC, dI) zz_cls [zr_o ad f_thrown f_taped f_at f_behind f_size f_kind f_number f_wrong f_wrongAt f_faultKind f_faultPlace f_reading f_toldWhy f_x f_standMany f_bestMany f_tail f_round1, (ad 2, .inl (dA 0, 2982, .inl a4)), (ad 19, .inl (dA 0, 5, .inl b_was))] H := hP
    have hD : va_D A [zr_o ad f_thrown f_taped f_at f_behind f_size f_kind f_number f_wrong f_wrongAt f_faultKind f_faultPlace f_reading f_toldWhy f_x f_standMany f_bestMany f_tail f_round1, (ad 2, .inl (dA 0, 2982, .inl a4)), (ad 19, .inl (dA 0, 5, .inl b_was))] := hD
    obtain ⟨v5, hv5, hf⟩ := zc_1 hf
    refine lv_iinc (v := v5) (lv' := [(1, .int v5), (0, .ref (ad 0))]) (k := 1) (pc := 22) hx hb dX11_isAgain_22 hl rfl (Option.some.inj hv5) (by decide) rfl (fun ls hl => ?_)
    refine lv_goto (tgt := 2) (pc := 25) hx hb dX11_isAgain_25 rfl ?_
    obtain rfl := Option.some.inj hf
    exact ih rfl _ _ _ ⟨lv_sub hl [1, 0] rfl, hP, hD, hS⟩

def zb_X11_notes_14 (v2 : Int32) (a3 : (Nat → Int32)) : Option (Nat × Int32 × (Nat → Int32)) :=
  if (45 : Int32) ≤ v2 then
    some (1, v2, a3)
  else
    zd_1 (za_ld a3 2982 ((48 : Int32) + v2)) (fun v4 =>
    zd_1 (za_st a3 2982 ((43 : Int32) + v2) v4) (fun a5 =>
    zd_1 (some (v2 + (1 : Int32))) (fun v6 =>
    some (0, v6, a5))))
def zb_X11_notes_57 (b_was : (Nat → Int32)) (v13 : Int32) (a14 : (Nat → Int32)) : Option (Nat × Int32 × (Nat → Int32)) :=
  if (5 : Int32) ≤ v13 then
    some (1, v13, a14)
  else
    zd_1 (za_ld a14 2982 (42 : Int32)) (fun v15 =>
    zd_1 (za_ld b_was 5 v13) (fun v16 =>
    zd_1 (za_st a14 2982 (((43 : Int32) + ((5 : Int32) * v15)) + v13) v16) (fun a17 =>
    zd_1 (some (v13 + (1 : Int32))) (fun v18 =>
    some (0, v18, a17)))))
def zf_X11_notes (n : Nat) (b_all : (Nat → Int32)) (b_was : (Nat → Int32)) : Option ((Nat → Int32)) :=
  zd_1 (za_ld b_all 2982 (42 : Int32)) (fun v1 =>
  zd_1 (
    if v1 = (10 : Int32) then
      zd_3 (za_it (fun v => zb_X11_notes_14 v.1 v.2) n ((0 : Int32), b_all)) (fun g9 v7 a8 =>
      zd_1 (za_ld a8 2982 (42 : Int32)) (fun v10 =>
      zd_1 (za_st a8 2982 (42 : Int32) (v10 - (1 : Int32))) (fun a11 =>
      some a11)))
    else
      some b_all) (fun a12 =>
  zd_3 (za_it (fun v => zb_X11_notes_57 b_was v.1 v.2) n ((0 : Int32), a12)) (fun g21 v19 a20 =>
  zd_1 (za_ld a20 2982 (42 : Int32)) (fun v22 =>
  zd_1 (za_st a20 2982 (42 : Int32) (v22 + (1 : Int32))) (fun a23 =>
  some a23)))))
theorem zk_X11_notes : yX11_notes.cls = RX11 ∧ yX11_notes.cls ≠ "java/lang/invoke/MethodHandle" ∧ yX11_notes.cls ≠ "java/lang/invoke/VarHandle" ∧ (parseMethodDescriptor yX11_notes.desc).map (fun d => d.parameters.length) = some 0 := by decide +kernel
set_option maxHeartbeats 4000000 in
set_option maxRecDepth 100000 in
theorem zt_X11_notes (l : Launch) (dC : Nat → ClassId) (dI : Nat → Nat → Nat) (dA : Nat → ClassId) (ad : Nat → Nat) (sz : Nat) (n : Nat) (f_thrown f_taped f_at f_behind f_size f_kind f_number f_wrong f_wrongAt f_faultKind f_faultPlace f_reading f_toldWhy f_x f_standMany f_bestMany f_tail f_round1 : Int32) (b_all : (Nat → Int32)) (b_was : (Nat → Int32)) (o1 : (Nat → Int32)) (hf : zf_X11_notes n b_all b_was = some o1) : Met l yX11_notes (.code yX11_notes cX11_notes 2 none :: zr_T) ({ frames := 0, cells := 0, slots := 0, locals := 0 }) (va_Pc [.ref (ad 0)] (zz_M dC dI dA [zr_o ad f_thrown f_taped f_at f_behind f_size f_kind f_number f_wrong f_wrongAt f_faultKind f_faultPlace f_reading f_toldWhy f_x f_standMany f_bestMany f_tail f_round1, (ad 2, .inl (dA 0, 2982, .inl b_all)), (ad 19, .inl (dA 0, 5, .inl b_was))] sz)) (va_Qv (fun _ : Unit => True) (fun _ t => zz_B dC dI dA (va_A [zr_o ad f_thrown f_taped f_at f_behind f_size f_kind f_number f_wrong f_wrongAt f_faultKind f_faultPlace f_reading f_toldWhy f_x f_standMany f_bestMany f_tail f_round1, (ad 2, .inl (dA 0, 2982, .inl b_all)), (ad 19, .inl (dA 0, 5, .inl b_was))] sz) [zr_o ad f_thrown f_taped f_at f_behind f_size f_kind f_number f_wrong f_wrongAt f_faultKind f_faultPlace f_reading f_toldWhy f_x f_standMany f_bestMany f_tail f_round1, (ad 2, .inl (dA 0, 2982, .inl o1)), (ad 19, .inl (dA 0, 5, .inl b_was))] t) (va_A [zr_o ad f_thrown f_taped f_at f_behind f_size f_kind f_number f_wrong f_wrongAt f_faultKind f_faultPlace f_reading f_toldWhy f_x f_standMany f_bestMany f_tail f_round1, (ad 2, .inl (dA 0, 2982, .inl b_all)), (ad 19, .inl (dA 0, 5, .inl b_was))] sz)) 0 0 (va_A [zr_o ad f_thrown f_taped f_at f_behind f_size f_kind f_number f_wrong f_wrongAt f_faultKind f_faultPlace f_reading f_toldWhy f_x f_standMany f_bestMany f_tail f_round1, (ad 2, .inl (dA 0, 2982, .inl b_all)), (ad 19, .inl (dA 0, 5, .inl b_was))] sz) := by
  unfold zf_X11_notes at hf
  refine Met.ofW (cc := cX11_notes) (maxL := 2) (ret := none) (by decide) rfl ?_
  intro p e s m args below meth c s₁ B hml hv
  obtain ⟨rfl, hsz, hP, hK, hD0⟩ := hv
  have hx := B.exec
  have hb := B.bytes
  have hr := B.returns
  have ht : ∀ w ∈ zr_T, w.before ([.ref (ad 0)] : List Value).toArray s = true := fun w hw => atoms_spec (ws := .code yX11_notes cX11_notes 2 none :: zr_T) B.pre w (List.mem_cons_of_mem _ hw)
  have hown : s.vm.findClass RX11 = some m.cls := findClass_of_methodNamed B.named
  have hlocks := B.notSynchronized
  subst hsz
  have hD := hD0.self (sz := s.heap.size)
  generalize hAe : va_A [zr_o ad f_thrown f_taped f_at f_behind f_size f_kind f_number f_wrong f_wrongAt f_faultKind f_faultPlace f_reading f_toldWhy f_x f_standMany f_bestMany f_tail f_round1, (ad 2, .inl (dA 0, 2982, .inl b_all)), (ad 19, .inl (dA 0, 5, .inl b_was))] s.heap.size = A at hD ⊢
  have hA : ∀ q : Nat, s.heap.size ≤ q → A q := fun q h => by rw [← hAe]; exact Or.inr h
  clear hAe hD0
  have hS : va_S A s.heap s.heap [] := va_S.rf
  have hl := lv_entry ([.ref (ad 0)]) (n := 2) (Nat.le_of_ble_eq_true rfl)
  rw [lg_entry_eq]
  generalize (lg_sl ([.ref (ad 0)]) ++ List.replicate (2 - (lg_sl ([.ref (ad 0)])).length) Slot.unset).toArray = ls at hl ⊢
  have hl : lv_has ls 2 [(0, .ref (ad 0))] := hl
  refine lv_aload_n (pc := 0) hx hb dX11_notes_0 rfl (lv_at hl 0 rfl) ?_
  refine va_get (pc := 1) (D := (dC, dI)) (ci := 0) (v := .ref (ad 2)) (C := RX11) (T := TX11) (N := 42) hx hb ht zr_lay hown hK hP 0 rfl rfl 1 (by decide) (ht _ zr_6) (fun _ h9 => h9) rfl dX11_notes_1 ?_
  refine lv_bipush (v := (42 : Int32)) (pc := 4) hx hb dX11_notes_4 (by decide) ?_
  obtain ⟨v1, hv1, hf⟩ := zc_1 hf
  refine zw_iald (pc := 6) hx hb hK hP 1 0 rfl rfl hv1 dX11_notes_6 ?_
  refine lv_bipush (v := (10 : Int32)) (pc := 7) hx hb dX11_notes_7 (by decide) ?_
  obtain ⟨a12, hj, hf⟩ := zc_1 hf
  refine zj_join (pcJ := 55) (stk := []) (X := fun H locs ls => lv_has ls 2 [(0, .ref (ad 0))] ∧ va_P (dC, dI) zz_cls [zr_o ad f_thrown f_taped f_at f_behind f_size f_kind f_number f_wrong f_wrongAt f_faultKind f_faultPlace f_reading f_toldWhy f_x f_standMany f_bestMany f_tail f_round1, (ad 2, .inl (dA 0, 2982, .inl a12)), (ad 19, .inl (dA 0, 5, .inl b_was))] H ∧ va_D A [zr_o ad f_thrown f_taped f_at f_behind f_size f_kind f_number f_wrong f_wrongAt f_faultKind f_faultPlace f_reading f_toldWhy f_x f_standMany f_bestMany f_tail f_round1, (ad 2, .inl (dA 0, 2982, .inl a12)), (ad 19, .inl (dA 0, 5, .inl b_was))] ∧ va_S A s.heap H locs) (fun H locs ls hX => ?_) (fun J55 => ?_)
  · obtain ⟨hl, hP, hD, hS⟩ := hX
    clear hj
    refine lv_iconst (v := (0 : Int32)) (pc := 55) hx hb dX11_notes_55 (by decide) ?_
    refine lv_istore_n (lv' := [(1, .int (0 : Int32)), (0, .ref (ad 0))]) (pc := 56) hx hb dX11_notes_56 rfl hl (by decide) rfl (fun ls hl => ?_)
    obtain ⟨g21, v19, a20, hj, hf⟩ := zc_3 hf
    refine zj_join (pcJ := 93) (stk := []) (X := fun H locs ls => lv_has ls 2 [(0, .ref (ad 0))] ∧ va_P (dC, dI) zz_cls [zr_o ad f_thrown f_taped f_at f_behind f_size f_kind f_number f_wrong f_wrongAt f_faultKind f_faultPlace f_reading f_toldWhy f_x f_standMany f_bestMany f_tail f_round1, (ad 2, .inl (dA 0, 2982, .inl a20)), (ad 19, .inl (dA 0, 5, .inl b_was))] H ∧ va_D A [zr_o ad f_thrown f_taped f_at f_behind f_size f_kind f_number f_wrong f_wrongAt f_faultKind f_faultPlace f_reading f_toldWhy f_x f_standMany f_bestMany f_tail f_round1, (ad 2, .inl (dA 0, 2982, .inl a20)), (ad 19, .inl (dA 0, 5, .inl b_was))] ∧ va_S A s.heap H locs) (fun H locs ls hX => ?_) (fun E93 => ?_)
    · obtain ⟨hl, hP, hD, hS⟩ := hX
      clear hj
      refine lv_aload_n (pc := 93) hx hb dX11_notes_93 rfl (lv_at hl 0 rfl) ?_
      refine va_get (pc := 94) (D := (dC, dI)) (ci := 0) (v := .ref (ad 2)) (C := RX11) (T := TX11) (N := 42) hx hb ht zr_lay hown hK hP 0 rfl rfl 1 (by decide) (ht _ zr_6) (fun _ h9 => h9) rfl dX11_notes_94 ?_
      refine lv_bipush (v := (42 : Int32)) (pc := 97) hx hb dX11_notes_97 (by decide) ?_
      refine lv_dup2_11 (pc := 99) hx hb dX11_notes_99 rfl rfl ?_
      obtain ⟨v22, hv22, hf⟩ := zc_1 hf
      refine zw_iald (pc := 100) hx hb hK hP 1 0 rfl rfl hv22 dX11_notes_100 ?_
      refine lv_iconst (v := (1 : Int32)) (pc := 101) hx hb dX11_notes_101 (by decide) ?_
      refine lv_iadd (pc := 102) hx hb dX11_notes_102 ?_
      obtain ⟨a23, ha23, hf⟩ := zc_1 hf
      refine zw_iast (pc := 103) hx hb hK hP hD hS 1 0 rfl rfl ha23 dX11_notes_103 (fun H locs hP hD hS => ?_)
      have hP : va_P (dC, dI) zz_cls [zr_o ad f_thrown f_taped f_at f_behind f_size f_kind f_number f_wrong f_wrongAt f_faultKind f_faultPlace f_reading f_toldWhy f_x f_standMany f_bestMany f_tail f_round1, (ad 2, .inl (dA 0, 2982, .inl a23)), (ad 19, .inl (dA 0, 5, .inl b_was))] H := hP
      have hD : va_D A [zr_o ad f_thrown f_taped f_at f_behind f_size f_kind f_number f_wrong f_wrongAt f_faultKind f_faultPlace f_reading f_toldWhy f_x f_standMany f_bestMany f_tail f_round1, (ad 2, .inl (dA 0, 2982, .inl a23)), (ad 19, .inl (dA 0, 5, .inl b_was))] := hD
      obtain rfl := Option.some.inj hf
      exact W.vret (pc := 104) hx hb hr (fun t ht hW => ⟨⟨(), rfl, trivial, zz_Bi (by rw [ht]; exact hP) (va_K.moved hW.alike hK) (hD)⟩, hS.F ht⟩) hS.2.2 dX11_notes_104
    clear hf
    refine zw_loop (pcH := 57) (X := fun v H locs ls => lv_has ls 2 [(0, .ref (ad 0)), (1, .int v.1)] ∧ va_P (dC, dI) zz_cls [zr_o ad f_thrown f_taped f_at f_behind f_size f_kind f_number f_wrong f_wrongAt f_faultKind f_faultPlace f_reading f_toldWhy f_x f_standMany f_bestMany f_tail f_round1, (ad 2, .inl (dA 0, 2982, .inl v.2)), (ad 19, .inl (dA 0, 5, .inl b_was))] H ∧ va_D A [zr_o ad f_thrown f_taped f_at f_behind f_size f_kind f_number f_wrong f_wrongAt f_faultKind f_faultPlace f_reading f_toldWhy f_x f_standMany f_bestMany f_tail f_round1, (ad 2, .inl (dA 0, 2982, .inl v.2)), (ad 19, .inl (dA 0, 5, .inl b_was))] ∧ va_S A s.heap H locs) hj (fun v w hf ih ex H locs ls hX => ?_) _ _ _ ⟨lv_sub hl [1, 0] rfl, hP, hD, hS⟩
    clear hj
    obtain ⟨v13, a14⟩ := v
    obtain ⟨hl, hP, hD, hS⟩ := hX
    have hl : lv_has ls 2 [(0, .ref (ad 0)), (1, .int v13)] := hl
    have hP : va_P (dC, dI) zz_cls [zr_o ad f_thrown f_taped f_at f_behind f_size f_kind f_number f_wrong f_wrongAt f_faultKind f_faultPlace f_reading f_toldWhy f_x f_standMany f_bestMany f_tail f_round1, (ad 2, .inl (dA 0, 2982, .inl a14)), (ad 19, .inl (dA 0, 5, .inl b_was))] H := hP
    have hD : va_D A [zr_o ad f_thrown f_taped f_at f_behind f_size f_kind f_number f_wrong f_wrongAt f_faultKind f_faultPlace f_reading f_toldWhy f_x f_standMany f_bestMany f_tail f_round1, (ad 2, .inl (dA 0, 2982, .inl a14)), (ad 19, .inl (dA 0, 5, .inl b_was))] := hD
    replace hf : zb_X11_notes_57 b_was v13 a14 = some w := hf
    unfold zb_X11_notes_57 at hf
    refine lv_iload_n (pc := 57) hx hb dX11_notes_57 rfl (lv_at hl 1 rfl) ?_
    refine lv_iconst (v := (5 : Int32)) (pc := 58) hx hb dX11_notes_58 (by decide) ?_
    refine lv_icmp_ge (tgt := 93) (pc := 59) hx hb dX11_notes_59 rfl (fun hc => ?_) (fun hc => ?_)
    · have hf := za_t hf hc
      obtain rfl := Option.some.inj hf
      obtain ⟨rfl, rfl, rfl⟩ := zp_3 (ex (show ¬ (1 : Nat) = 0 by decide))
      exact E93 _ _ _ ⟨lv_sub hl [0] rfl, hP, hD, hS⟩
    · have hf := za_f hf hc
      refine lv_aload_n (pc := 62) hx hb dX11_notes_62 rfl (lv_at hl 0 rfl) ?_
      refine va_get (pc := 63) (D := (dC, dI)) (ci := 0) (v := .ref (ad 2)) (C := RX11) (T := TX11) (N := 42) hx hb ht zr_lay hown hK hP 0 rfl rfl 1 (by decide) (ht _ zr_6) (fun _ h9 => h9) rfl dX11_notes_63 ?_
      refine lv_bipush (v := (43 : Int32)) (pc := 66) hx hb dX11_notes_66 (by decide) ?_
      refine lv_iconst (v := (5 : Int32)) (pc := 68) hx hb dX11_notes_68 (by decide) ?_
      refine lv_aload_n (pc := 69) hx hb dX11_notes_69 rfl (lv_at hl 0 rfl) ?_
      refine va_get (pc := 70) (D := (dC, dI)) (ci := 0) (v := .ref (ad 2)) (C := RX11) (T := TX11) (N := 42) hx hb ht zr_lay hown hK hP 0 rfl rfl 1 (by decide) (ht _ zr_6) (fun _ h9 => h9) rfl dX11_notes_70 ?_
      refine lv_bipush (v := (42 : Int32)) (pc := 73) hx hb dX11_notes_73 (by decide) ?_
      obtain ⟨v15, hv15, hf⟩ := zc_1 hf
      refine zw_iald (pc := 75) hx hb hK hP 1 0 rfl rfl hv15 dX11_notes_75 ?_
      refine lv_imul (pc := 76) hx hb dX11_notes_76 ?_
      refine lv_iadd (pc := 77) hx hb dX11_notes_77 ?_
      refine lv_iload_n (pc := 78) hx hb dX11_notes_78 rfl (lv_at hl 1 rfl) ?_
      refine lv_iadd (pc := 79) hx hb dX11_notes_79 ?_
      refine lv_aload_n (pc := 80) hx hb dX11_notes_80 rfl (lv_at hl 0 rfl) ?_
      refine va_get (pc := 81) (D := (dC, dI)) (ci := 0) (v := .ref (ad 19)) (C := RX11) (T := TX11) (N := 42) hx hb ht zr_lay hown hK hP 0 rfl rfl 18 (by decide) (ht _ zr_14) (fun _ h9 => h9) rfl dX11_notes_81 ?_
      refine lv_iload_n (pc := 84) hx hb dX11_notes_84 rfl (lv_at hl 1 rfl) ?_
      obtain ⟨v16, hv16, hf⟩ := zc_1 hf
      refine zw_iald (pc := 85) hx hb hK hP 2 0 rfl rfl hv16 dX11_notes_85 ?_
      obtain ⟨a17, ha17, hf⟩ := zc_1 hf
      refine zw_iast (pc := 86) hx hb hK hP hD hS 1 0 rfl rfl ha17 dX11_notes_86 (fun H locs hP hD hS => ?_)
      have hP : va_P (dC, dI) zz_cls [zr_o ad f_thrown f_taped f_at f_behind f_size f_kind f_number f_wrong f_wrongAt f_faultKind f_faultPlace f_reading f_toldWhy f_x f_standMany f_bestMany f_tail f_round1, (ad 2, .inl (dA 0, 2982, .inl a17)), (ad 19, .inl (dA 0, 5, .inl b_was))] H := hP
      have hD : va_D A [zr_o ad f_thrown f_taped f_at f_behind f_size f_kind f_number f_wrong f_wrongAt f_faultKind f_faultPlace f_reading f_toldWhy f_x f_standMany f_bestMany f_tail f_round1, (ad 2, .inl (dA 0, 2982, .inl a17)), (ad 19, .inl (dA 0, 5, .inl b_was))] := hD
      obtain ⟨v18, hv18, hf⟩ := zc_1 hf
      refine lv_iinc (v := v18) (lv' := [(1, .int v18), (0, .ref (ad 0))]) (k := 1) (pc := 87) hx hb dX11_notes_87 hl rfl (Option.some.inj hv18) (by decide) rfl (fun ls hl => ?_)
      refine lv_goto (tgt := 57) (pc := 90) hx hb dX11_notes_90 rfl ?_
      obtain rfl := Option.some.inj hf
      exact ih rfl _ _ _ ⟨lv_sub hl [1, 0] rfl, hP, hD, hS⟩
  · clear hf
    have hf := hj
    clear hj
    refine lv_icmp_ne (tgt := 55) (pc := 9) hx hb dX11_notes_9 rfl (fun hc => ?_) (fun hc => ?_)
    · have hf := za_f hf hc
      obtain rfl := Option.some.inj hf
      exact J55 _ _ _ ⟨lv_sub hl [0] rfl, hP, hD, hS⟩
    · have hf := za_t hf hc
      refine lv_iconst (v := (0 : Int32)) (pc := 12) hx hb dX11_notes_12 (by decide) ?_
      refine lv_istore_n (lv' := [(1, .int (0 : Int32)), (0, .ref (ad 0))]) (pc := 13) hx hb dX11_notes_13 rfl hl (by decide) rfl (fun ls hl => ?_)
      obtain ⟨g9, v7, a8, hj, hf⟩ := zc_3 hf
      refine zj_join (pcJ := 44) (stk := []) (X := fun H locs ls => lv_has ls 2 [(0, .ref (ad 0))] ∧ va_P (dC, dI) zz_cls [zr_o ad f_thrown f_taped f_at f_behind f_size f_kind f_number f_wrong f_wrongAt f_faultKind f_faultPlace f_reading f_toldWhy f_x f_standMany f_bestMany f_tail f_round1, (ad 2, .inl (dA 0, 2982, .inl a8)), (ad 19, .inl (dA 0, 5, .inl b_was))] H ∧ va_D A [zr_o ad f_thrown f_taped f_at f_behind f_size f_kind f_number f_wrong f_wrongAt f_faultKind f_faultPlace f_reading f_toldWhy f_x f_standMany f_bestMany f_tail f_round1, (ad 2, .inl (dA 0, 2982, .inl a8)), (ad 19, .inl (dA 0, 5, .inl b_was))] ∧ va_S A s.heap H locs) (fun H locs ls hX => ?_) (fun E44 => ?_)
      · obtain ⟨hl, hP, hD, hS⟩ := hX
        clear hj
        refine lv_aload_n (pc := 44) hx hb dX11_notes_44 rfl (lv_at hl 0 rfl) ?_
        refine va_get (pc := 45) (D := (dC, dI)) (ci := 0) (v := .ref (ad 2)) (C := RX11) (T := TX11) (N := 42) hx hb ht zr_lay hown hK hP 0 rfl rfl 1 (by decide) (ht _ zr_6) (fun _ h9 => h9) rfl dX11_notes_45 ?_
        refine lv_bipush (v := (42 : Int32)) (pc := 48) hx hb dX11_notes_48 (by decide) ?_
        refine lv_dup2_11 (pc := 50) hx hb dX11_notes_50 rfl rfl ?_
        obtain ⟨v10, hv10, hf⟩ := zc_1 hf
        refine zw_iald (pc := 51) hx hb hK hP 1 0 rfl rfl hv10 dX11_notes_51 ?_
        refine lv_iconst (v := (1 : Int32)) (pc := 52) hx hb dX11_notes_52 (by decide) ?_
        refine lv_isub (pc := 53) hx hb dX11_notes_53 ?_
        obtain ⟨a11, ha11, hf⟩ := zc_1 hf
        refine zw_iast (pc := 54) hx hb hK hP hD hS 1 0 rfl rfl ha11 dX11_notes_54 (fun H locs hP hD hS => ?_)
        have hP : va_P (dC, dI) zz_cls [zr_o ad f_thrown f_taped f_at f_behind f_size f_kind f_number f_wrong f_wrongAt f_faultKind f_faultPlace f_reading f_toldWhy f_x f_standMany f_bestMany f_tail f_round1, (ad 2, .inl (dA 0, 2982, .inl a11)), (ad 19, .inl (dA 0, 5, .inl b_was))] H := hP
        have hD : va_D A [zr_o ad f_thrown f_taped f_at f_behind f_size f_kind f_number f_wrong f_wrongAt f_faultKind f_faultPlace f_reading f_toldWhy f_x f_standMany f_bestMany f_tail f_round1, (ad 2, .inl (dA 0, 2982, .inl a11)), (ad 19, .inl (dA 0, 5, .inl b_was))] := hD
        obtain rfl := Option.some.inj hf
        exact J55 _ _ _ ⟨lv_sub hl [0] rfl, hP, hD, hS⟩
      clear hf
      refine zw_loop (pcH := 14) (X := fun v H locs ls => lv_has ls 2 [(0, .ref (ad 0)), (1, .int v.1)] ∧ va_P (dC, dI) zz_cls [zr_o ad f_thrown f_taped f_at f_behind f_size f_kind f_number f_wrong f_wrongAt f_faultKind f_faultPlace f_reading f_toldWhy f_x f_standMany f_bestMany f_tail f_round1, (ad 2, .inl (dA 0, 2982, .inl v.2)), (ad 19, .inl (dA 0, 5, .inl b_was))] H ∧ va_D A [zr_o ad f_thrown f_taped f_at f_behind f_size f_kind f_number f_wrong f_wrongAt f_faultKind f_faultPlace f_reading f_toldWhy f_x f_standMany f_bestMany f_tail f_round1, (ad 2, .inl (dA 0, 2982, .inl v.2)), (ad 19, .inl (dA 0, 5, .inl b_was))] ∧ va_S A s.heap H locs) hj (fun v w hf ih ex H locs ls hX => ?_) _ _ _ ⟨lv_sub hl [1, 0] rfl, hP, hD, hS⟩
      clear hj
      obtain ⟨v2, a3⟩ := v
      obtain ⟨hl, hP, hD, hS⟩ := hX
      have hl : lv_has ls 2 [(0, .ref (ad 0)), (1, .int v2)] := hl
      have hP : va_P (dC, dI) zz_cls [zr_o ad f_thrown f_taped f_at f_behind f_size f_kind f_number f_wrong f_wrongAt f_faultKind f_faultPlace f_reading f_toldWhy f_x f_standMany f_bestMany f_tail f_round1, (ad 2, .inl (dA 0, 2982, .inl a3)), (ad 19, .inl (dA 0, 5, .inl b_was))] H := hP
      have hD : va_D A [zr_o ad f_thrown f_taped f_at f_behind f_size f_kind f_number f_wrong f_wrongAt f_faultKind f_faultPlace f_reading f_toldWhy f_x f_standMany f_bestMany f_tail f_round1, (ad 2, .inl (dA 0, 2982, .inl a3)), (ad 19, .inl (dA 0, 5, .inl b_was))] := hD
      replace hf : zb_X11_notes_14 v2 a3 = some w := hf
      unfold zb_X11_notes_14 at hf
      refine lv_iload_n (pc := 14) hx hb dX11_notes_14 rfl (lv_at hl 1 rfl) ?_
      refine lv_bipush (v := (45 : Int32)) (pc := 15) hx hb dX11_notes_15 (by decide) ?_
      refine lv_icmp_ge (tgt := 44) (pc := 17) hx hb dX11_notes_17 rfl (fun hc => ?_) (fun hc => ?_)
      · have hf := za_t hf hc
        obtain rfl := Option.some.inj hf
        obtain ⟨rfl, rfl, rfl⟩ := zp_3 (ex (show ¬ (1 : Nat) = 0 by decide))
        exact E44 _ _ _ ⟨lv_sub hl [0] rfl, hP, hD, hS⟩
      · have hf := za_f hf hc
        refine lv_aload_n (pc := 20) hx hb dX11_notes_20 rfl (lv_at hl 0 rfl) ?_
        refine va_get (pc := 21) (D := (dC, dI)) (ci := 0) (v := .ref (ad 2)) (C := RX11) (T := TX11) (N := 42) hx hb ht zr_lay hown hK hP 0 rfl rfl 1 (by decide) (ht _ zr_6) (fun _ h9 => h9) rfl dX11_notes_21 ?_
        refine lv_bipush (v := (43 : Int32)) (pc := 24) hx hb dX11_notes_24 (by decide) ?_
        refine lv_iload_n (pc := 26) hx hb dX11_notes_26 rfl (lv_at hl 1 rfl) ?_
        refine lv_iadd (pc := 27) hx hb dX11_notes_27 ?_
        refine lv_aload_n (pc := 28) hx hb dX11_notes_28 rfl (lv_at hl 0 rfl) ?_
        refine va_get (pc := 29) (D := (dC, dI)) (ci := 0) (v := .ref (ad 2)) (C := RX11) (T := TX11) (N := 42) hx hb ht zr_lay hown hK hP 0 rfl rfl 1 (by decide) (ht _ zr_6) (fun _ h9 => h9) rfl dX11_notes_29 ?_
        refine lv_bipush (v := (48 : Int32)) (pc := 32) hx hb dX11_notes_32 (by decide) ?_
        refine lv_iload_n (pc := 34) hx hb dX11_notes_34 rfl (lv_at hl 1 rfl) ?_
        refine lv_iadd (pc := 35) hx hb dX11_notes_35 ?_
        obtain ⟨v4, hv4, hf⟩ := zc_1 hf
        refine zw_iald (pc := 36) hx hb hK hP 1 0 rfl rfl hv4 dX11_notes_36 ?_
        obtain ⟨a5, ha5, hf⟩ := zc_1 hf
        refine zw_iast (pc := 37) hx hb hK hP hD hS 1 0 rfl rfl ha5 dX11_notes_37 (fun H locs hP hD hS => ?_)
        have hP : va_P (dC, dI) zz_cls [zr_o ad f_thrown f_taped f_at f_behind f_size f_kind f_number f_wrong f_wrongAt f_faultKind f_faultPlace f_reading f_toldWhy f_x f_standMany f_bestMany f_tail f_round1, (ad 2, .inl (dA 0, 2982, .inl a5)), (ad 19, .inl (dA 0, 5, .inl b_was))] H := hP
        have hD : va_D A [zr_o ad f_thrown f_taped f_at f_behind f_size f_kind f_number f_wrong f_wrongAt f_faultKind f_faultPlace f_reading f_toldWhy f_x f_standMany f_bestMany f_tail f_round1, (ad 2, .inl (dA 0, 2982, .inl a5)), (ad 19, .inl (dA 0, 5, .inl b_was))] := hD
        obtain ⟨v6, hv6, hf⟩ := zc_1 hf
        refine lv_iinc (v := v6) (lv' := [(1, .int v6), (0, .ref (ad 0))]) (k := 1) (pc := 38) hx hb dX11_notes_38 hl rfl (Option.some.inj hv6) (by decide) rfl (fun ls hl => ?_)
        refine lv_goto (tgt := 14) (pc := 41) hx hb dX11_notes_41 rfl ?_
        obtain rfl := Option.some.inj hf
        exact ih rfl _ _ _ ⟨lv_sub hl [1, 0] rfl, hP, hD, hS⟩

def zf_X11_acts (n : Nat) (b_all : (Nat → Int32)) (b_reckoned : (Nat → Int32)) (b_words : (Nat → Int32)) (p1 : Int32) : Option ((Nat → Int32) × (Nat → Int32) × (Nat → Int32)) :=
  zd_1 (zf_X11_standNow b_all) (fun v1 =>
  zd_1 (za_ld b_all 2982 (40 : Int32)) (fun v2 =>
  zd_3 (zf_X11_actedTo n b_all b_reckoned b_words v1 p1 v2) (fun v3 a4 a5 =>
  zd_1 (zf_X11_isStand b_all v3) (fun a6 =>
  zd_1 (za_ld a6 2982 (41 : Int32)) (fun v7 =>
  zd_1 (za_st a6 2982 (41 : Int32) (v7 + (1 : Int32))) (fun a8 =>
  some (a8, a4, a5)))))))
theorem zk_X11_acts : yX11_acts.cls = RX11 ∧ yX11_acts.cls ≠ "java/lang/invoke/MethodHandle" ∧ yX11_acts.cls ≠ "java/lang/invoke/VarHandle" ∧ (parseMethodDescriptor yX11_acts.desc).map (fun d => d.parameters.length) = some 1 := by decide +kernel
set_option maxHeartbeats 4000000 in
set_option maxRecDepth 100000 in
theorem zt_X11_acts (l : Launch) (dC : Nat → ClassId) (dI : Nat → Nat → Nat) (dA : Nat → ClassId) (ad : Nat → Nat) (sz : Nat) (n : Nat) (f_thrown f_taped f_at f_behind f_size f_kind f_number f_wrong f_wrongAt f_faultKind f_faultPlace f_reading f_toldWhy f_x f_standMany f_bestMany f_tail f_round1 : Int32) (b_all : (Nat → Int32)) (b_reckoned : (Nat → Int32)) (b_words : (Nat → Int32)) (p1 : Int32) (o1 : (Nat → Int32)) (o2 : (Nat → Int32)) (o3 : (Nat → Int32)) (hf : zf_X11_acts n b_all b_reckoned b_words p1 = some (o1, o2, o3)) : Met l yX11_acts (.code yX11_acts cX11_acts 2 none :: zr_T) ({ frames := 4, cells := 0, slots := 0, locals := 99 }) (va_Pc [.ref (ad 0), .int p1] (zz_M dC dI dA [zr_o ad f_thrown f_taped f_at f_behind f_size f_kind f_number f_wrong f_wrongAt f_faultKind f_faultPlace f_reading f_toldWhy f_x f_standMany f_bestMany f_tail f_round1, (ad 2, .inl (dA 0, 2982, .inl b_all)), (ad 17, .inl (dA 0, 900, .inl b_reckoned)), (ad 18, .inl (dA 0, 6, .inl b_words))] sz)) (va_Qv (fun _ : Unit => True) (fun _ t => zz_B dC dI dA (va_A [zr_o ad f_thrown f_taped f_at f_behind f_size f_kind f_number f_wrong f_wrongAt f_faultKind f_faultPlace f_reading f_toldWhy f_x f_standMany f_bestMany f_tail f_round1, (ad 2, .inl (dA 0, 2982, .inl b_all)), (ad 17, .inl (dA 0, 900, .inl b_reckoned)), (ad 18, .inl (dA 0, 6, .inl b_words))] sz) [zr_o ad f_thrown f_taped f_at f_behind f_size f_kind f_number f_wrong f_wrongAt f_faultKind f_faultPlace f_reading f_toldWhy f_x f_standMany f_bestMany f_tail f_round1, (ad 2, .inl (dA 0, 2982, .inl o1)), (ad 17, .inl (dA 0, 900, .inl o2)), (ad 18, .inl (dA 0, 6, .inl o3))] t) (va_A [zr_o ad f_thrown f_taped f_at f_behind f_size f_kind f_number f_wrong f_wrongAt f_faultKind f_faultPlace f_reading f_toldWhy f_x f_standMany f_bestMany f_tail f_round1, (ad 2, .inl (dA 0, 2982, .inl b_all)), (ad 17, .inl (dA 0, 900, .inl b_reckoned)), (ad 18, .inl (dA 0, 6, .inl b_words))] sz)) 0 0 (va_A [zr_o ad f_thrown f_taped f_at f_behind f_size f_kind f_number f_wrong f_wrongAt f_faultKind f_faultPlace f_reading f_toldWhy f_x f_standMany f_bestMany f_tail f_round1, (ad 2, .inl (dA 0, 2982, .inl b_all)), (ad 17, .inl (dA 0, 900, .inl b_reckoned)), (ad 18, .inl (dA 0, 6, .inl b_words))] sz) := by
  unfold zf_X11_acts at hf
  refine Met.ofW (cc := cX11_acts) (maxL := 2) (ret := none) (by decide) rfl ?_
  intro p e s m args below meth c s₁ B hml hv
  obtain ⟨rfl, hsz, hP, hK, hD0⟩ := hv
  have hx := B.exec
  have hb := B.bytes
  have hr := B.returns
  have ht : ∀ w ∈ zr_T, w.before ([.ref (ad 0), .int p1] : List Value).toArray s = true := fun w hw => atoms_spec (ws := .code yX11_acts cX11_acts 2 none :: zr_T) B.pre w (List.mem_cons_of_mem _ hw)
  have hown : s.vm.findClass RX11 = some m.cls := findClass_of_methodNamed B.named
  have hlocks := B.notSynchronized
  subst hsz
  have hD := hD0.self (sz := s.heap.size)
  generalize hAe : va_A [zr_o ad f_thrown f_taped f_at f_behind f_size f_kind f_number f_wrong f_wrongAt f_faultKind f_faultPlace f_reading f_toldWhy f_x f_standMany f_bestMany f_tail f_round1, (ad 2, .inl (dA 0, 2982, .inl b_all)), (ad 17, .inl (dA 0, 900, .inl b_reckoned)), (ad 18, .inl (dA 0, 6, .inl b_words))] s.heap.size = A at hD ⊢
  have hA : ∀ q : Nat, s.heap.size ≤ q → A q := fun q h => by rw [← hAe]; exact Or.inr h
  clear hAe hD0
  have hS : va_S A s.heap s.heap [] := va_S.rf
  have hl := lv_entry ([.ref (ad 0), .int p1]) (n := 2) (Nat.le_of_ble_eq_true rfl)
  rw [lg_entry_eq]
  generalize (lg_sl ([.ref (ad 0), .int p1]) ++ List.replicate (2 - (lg_sl ([.ref (ad 0), .int p1])).length) Slot.unset).toArray = ls at hl ⊢
  have hl : lv_has ls 2 [(0, .ref (ad 0)), (1, .int p1)] := hl
  refine lv_aload_n (pc := 0) hx hb dX11_acts_0 rfl (lv_at hl 0 rfl) ?_
  refine lv_aload_n (pc := 1) hx hb dX11_acts_1 rfl (lv_at hl 0 rfl) ?_
  refine lv_aload_n (pc := 2) hx hb dX11_acts_2 rfl (lv_at hl 0 rfl) ?_
  obtain ⟨v1, hv1, hf⟩ := zc_1 hf
  refine zw_Vi (pc := 3) (wc := [zr_o ad f_thrown f_taped f_at f_behind f_size f_kind f_number f_wrong f_wrongAt f_faultKind f_faultPlace f_reading f_toldWhy f_x f_standMany f_bestMany f_tail f_round1, (ad 2, .inl (dA 0, 2982, .inl b_all))]) (wr := [(ad 17, .inl (dA 0, 900, .inl b_reckoned)), (ad 18, .inl (dA 0, 6, .inl b_words))]) (w1 := [zr_o ad f_thrown f_taped f_at f_behind f_size f_kind f_number f_wrong f_wrongAt f_faultKind f_faultPlace f_reading f_toldWhy f_x f_standMany f_bestMany f_tail f_round1, (ad 2, .inl (dA 0, 2982, .inl b_all))]) (As := []) (rest := [.ref (ad 0), .ref (ad 0)]) ⟨hx, hb, hml, hown, ht⟩ (zt_X11_standNow l dC dI dA ad _ f_thrown f_taped f_at f_behind f_size f_kind f_number f_wrong f_wrongAt f_faultKind f_faultPlace f_reading f_toldWhy f_x f_standMany f_bestMany f_tail f_round1 b_all v1 hv1) (cwV 0 ht (zr_V zr_261 zr_262 zr_263 zr_36 zr_213) rfl rfl rfl zk_X11_standNow ⟨Nat.le_of_ble_eq_true rfl, Nat.le_of_ble_eq_true rfl⟩) rfl rfl hK hP hD hS hA [0, 1] [2, 3] (by decide) (by decide) (by decide) rfl rfl rfl hl.1 (Nat.le_of_ble_eq_true rfl) dX11_acts_3 ⟨Nat.zero_le _, Nat.zero_le _⟩ rfl (fun H locs hP hD hS => ?_)
  have hP : va_P (dC, dI) zz_cls [(ad 17, .inl (dA 0, 900, .inl b_reckoned)), (ad 18, .inl (dA 0, 6, .inl b_words)), zr_o ad f_thrown f_taped f_at f_behind f_size f_kind f_number f_wrong f_wrongAt f_faultKind f_faultPlace f_reading f_toldWhy f_x f_standMany f_bestMany f_tail f_round1, (ad 2, .inl (dA 0, 2982, .inl b_all))] H := hP
  have hD : va_D A [(ad 17, .inl (dA 0, 900, .inl b_reckoned)), (ad 18, .inl (dA 0, 6, .inl b_words)), zr_o ad f_thrown f_taped f_at f_behind f_size f_kind f_number f_wrong f_wrongAt f_faultKind f_faultPlace f_reading f_toldWhy f_x f_standMany f_bestMany f_tail f_round1, (ad 2, .inl (dA 0, 2982, .inl b_all))] := hD
  refine lv_iload_n (pc := 6) hx hb dX11_acts_6 rfl (lv_at hl 1 rfl) ?_
  refine lv_aload_n (pc := 7) hx hb dX11_acts_7 rfl (lv_at hl 0 rfl) ?_
  refine va_get (pc := 8) (D := (dC, dI)) (ci := 0) (v := .ref (ad 2)) (C := RX11) (T := TX11) (N := 42) hx hb ht zr_lay hown hK hP 2 rfl rfl 1 (by decide) (ht _ zr_6) (fun _ h9 => h9) rfl dX11_acts_8 ?_
  refine lv_bipush (v := (40 : Int32)) (pc := 11) hx hb dX11_acts_11 (by decide) ?_
  obtain ⟨v2, hv2, hf⟩ := zc_1 hf
  refine zw_iald (pc := 13) hx hb hK hP 3 0 rfl rfl hv2 dX11_acts_13 ?_
  obtain ⟨v3, a4, a5, hv3, hf⟩ := zc_3 hf
  refine zw_Vi (pc := 14) (wc := [zr_o ad f_thrown f_taped f_at f_behind f_size f_kind f_number f_wrong f_wrongAt f_faultKind f_faultPlace f_reading f_toldWhy f_x f_standMany f_bestMany f_tail f_round1, (ad 2, .inl (dA 0, 2982, .inl b_all)), (ad 17, .inl (dA 0, 900, .inl b_reckoned)), (ad 18, .inl (dA 0, 6, .inl b_words))]) (wr := []) (w1 := [zr_o ad f_thrown f_taped f_at f_behind f_size f_kind f_number f_wrong f_wrongAt f_faultKind f_faultPlace f_reading f_toldWhy f_x f_standMany f_bestMany f_tail f_round1, (ad 2, .inl (dA 0, 2982, .inl b_all)), (ad 17, .inl (dA 0, 900, .inl a4)), (ad 18, .inl (dA 0, 6, .inl a5))]) (As := [.int v1, .int p1, .int v2]) (rest := [.ref (ad 0)]) ⟨hx, hb, hml, hown, ht⟩ (zt_X11_actedTo l dC dI dA ad _ n f_thrown f_taped f_at f_behind f_size f_kind f_number f_wrong f_wrongAt f_faultKind f_faultPlace f_reading f_toldWhy f_x f_standMany f_bestMany f_tail f_round1 b_all b_reckoned b_words v1 p1 v2 v3 a4 a5 hv3) (cwV 3 ht (zr_V zr_272 zr_273 zr_274 zr_36 zr_253) rfl rfl rfl zk_X11_actedTo ⟨Nat.le_of_ble_eq_true rfl, Nat.le_of_ble_eq_true rfl⟩) rfl rfl hK hP hD hS hA [2, 3, 0, 1] [] (by decide) (by decide) (by decide) rfl rfl rfl hl.1 (Nat.le_of_ble_eq_true rfl) dX11_acts_14 ⟨Nat.zero_le _, Nat.zero_le _⟩ rfl (fun H locs hP hD hS => ?_)
  have hP : va_P (dC, dI) zz_cls [zr_o ad f_thrown f_taped f_at f_behind f_size f_kind f_number f_wrong f_wrongAt f_faultKind f_faultPlace f_reading f_toldWhy f_x f_standMany f_bestMany f_tail f_round1, (ad 2, .inl (dA 0, 2982, .inl b_all)), (ad 17, .inl (dA 0, 900, .inl a4)), (ad 18, .inl (dA 0, 6, .inl a5))] H := hP
  have hD : va_D A [zr_o ad f_thrown f_taped f_at f_behind f_size f_kind f_number f_wrong f_wrongAt f_faultKind f_faultPlace f_reading f_toldWhy f_x f_standMany f_bestMany f_tail f_round1, (ad 2, .inl (dA 0, 2982, .inl b_all)), (ad 17, .inl (dA 0, 900, .inl a4)), (ad 18, .inl (dA 0, 6, .inl a5))] := hD
  obtain ⟨a6, ha6, hf⟩ := zc_1 hf
  refine zw_Vv (pc := 17) (wc := [zr_o ad f_thrown f_taped f_at f_behind f_size f_kind f_number f_wrong f_wrongAt f_faultKind f_faultPlace f_reading f_toldWhy f_x f_standMany f_bestMany f_tail f_round1, (ad 2, .inl (dA 0, 2982, .inl b_all))]) (wr := [(ad 17, .inl (dA 0, 900, .inl a4)), (ad 18, .inl (dA 0, 6, .inl a5))]) (w1 := [zr_o ad f_thrown f_taped f_at f_behind f_size f_kind f_number f_wrong f_wrongAt f_faultKind f_faultPlace f_reading f_toldWhy f_x f_standMany f_bestMany f_tail f_round1, (ad 2, .inl (dA 0, 2982, .inl a6))]) (As := [.int v3]) (rest := []) ⟨hx, hb, hml, hown, ht⟩ (zt_X11_isStand l dC dI dA ad _ f_thrown f_taped f_at f_behind f_size f_kind f_number f_wrong f_wrongAt f_faultKind f_faultPlace f_reading f_toldWhy f_x f_standMany f_bestMany f_tail f_round1 b_all v3 a6 ha6) (cwV 1 ht (zr_V zr_279 zr_280 zr_281 zr_36 zr_216) rfl rfl rfl zk_X11_isStand ⟨Nat.le_of_ble_eq_true rfl, Nat.le_of_ble_eq_true rfl⟩) rfl rfl hK hP hD hS hA [0, 1] [2, 3] (by decide) (by decide) (by decide) rfl rfl rfl hl.1 (Nat.le_of_ble_eq_true rfl) dX11_acts_17 ⟨Nat.zero_le _, Nat.zero_le _⟩ rfl (fun H locs hP hD hS => ?_)
  have hP : va_P (dC, dI) zz_cls [(ad 17, .inl (dA 0, 900, .inl a4)), (ad 18, .inl (dA 0, 6, .inl a5)), zr_o ad f_thrown f_taped f_at f_behind f_size f_kind f_number f_wrong f_wrongAt f_faultKind f_faultPlace f_reading f_toldWhy f_x f_standMany f_bestMany f_tail f_round1, (ad 2, .inl (dA 0, 2982, .inl a6))] H := hP
  have hD : va_D A [(ad 17, .inl (dA 0, 900, .inl a4)), (ad 18, .inl (dA 0, 6, .inl a5)), zr_o ad f_thrown f_taped f_at f_behind f_size f_kind f_number f_wrong f_wrongAt f_faultKind f_faultPlace f_reading f_toldWhy f_x f_standMany f_bestMany f_tail f_round1, (ad 2, .inl (dA 0, 2982, .inl a6))] := hD
  refine lv_aload_n (pc := 20) hx hb dX11_acts_20 rfl (lv_at hl 0 rfl) ?_
  refine va_get (pc := 21) (D := (dC, dI)) (ci := 0) (v := .ref (ad 2)) (C := RX11) (T := TX11) (N := 42) hx hb ht zr_lay hown hK hP 2 rfl rfl 1 (by decide) (ht _ zr_6) (fun _ h9 => h9) rfl dX11_acts_21 ?_
  refine lv_bipush (v := (41 : Int32)) (pc := 24) hx hb dX11_acts_24 (by decide) ?_
  refine lv_dup2_11 (pc := 26) hx hb dX11_acts_26 rfl rfl ?_
  obtain ⟨v7, hv7, hf⟩ := zc_1 hf
  refine zw_iald (pc := 27) hx hb hK hP 3 0 rfl rfl hv7 dX11_acts_27 ?_
  refine lv_iconst (v := (1 : Int32)) (pc := 28) hx hb dX11_acts_28 (by decide) ?_
  refine lv_iadd (pc := 29) hx hb dX11_acts_29 ?_
  obtain ⟨a8, ha8, hf⟩ := zc_1 hf
  refine zw_iast (pc := 30) hx hb hK hP hD hS 3 0 rfl rfl ha8 dX11_acts_30 (fun H locs hP hD hS => ?_)
  have hP : va_P (dC, dI) zz_cls [(ad 17, .inl (dA 0, 900, .inl a4)), (ad 18, .inl (dA 0, 6, .inl a5)), zr_o ad f_thrown f_taped f_at f_behind f_size f_kind f_number f_wrong f_wrongAt f_faultKind f_faultPlace f_reading f_toldWhy f_x f_standMany f_bestMany f_tail f_round1, (ad 2, .inl (dA 0, 2982, .inl a8))] H := hP
  have hD : va_D A [(ad 17, .inl (dA 0, 900, .inl a4)), (ad 18, .inl (dA 0, 6, .inl a5)), zr_o ad f_thrown f_taped f_at f_behind f_size f_kind f_number f_wrong f_wrongAt f_faultKind f_faultPlace f_reading f_toldWhy f_x f_standMany f_bestMany f_tail f_round1, (ad 2, .inl (dA 0, 2982, .inl a8))] := hD
  obtain ⟨rfl, rfl, rfl⟩ := zi_3 hf
  exact W.vret (pc := 31) hx hb hr (fun t ht hW => ⟨⟨(), rfl, trivial, zz_Bi (by rw [ht]; exact hP.sub [2, 3, 0, 1] rfl) (va_K.moved hW.alike hK) (hD.sub [2, 3, 0, 1] (by decide) rfl)⟩, hS.F ht⟩) hS.2.2 dX11_acts_31

def zf_X11_act (n : Nat) (f_thrown : Int32) (b_all : (Nat → Int32)) (b_reckoned : (Nat → Int32)) (b_words : (Nat → Int32)) (b_was : (Nat → Int32)) (p1 : Int32) : Option (Int32 × Int32 × (Nat → Int32) × (Nat → Int32) × (Nat → Int32) × (Nat → Int32)) :=
  zd_3 (zf_X11_whyAct n b_all b_reckoned b_words (Int32.toInt64 p1)) (fun v1 a2 a3 =>
  if v1 = 0 then
    zd_1 (zf_X11_keeps n b_all b_was) (fun a4 =>
    zd_1 (zf_X11_moveOf b_all (Int32.toInt64 p1)) (fun v5 =>
    zd_3 (zf_X11_acts n b_all a2 a3 v5) (fun a6 a7 a8 =>
    zd_1 (zf_X11_notes n a6 a4) (fun a9 =>
    zd_1 (za_ld a9 2982 (37 : Int32)) (fun v10 =>
    some (v10, (0 : Int32), a9, a7, a8, a4))))))
  else
    some (((-10 : Int32) - v1), (0 : Int32), b_all, a2, a3, b_was))
theorem zk_X11_act : yX11_act.cls = RX11 ∧ yX11_act.cls ≠ "java/lang/invoke/MethodHandle" ∧ yX11_act.cls ≠ "java/lang/invoke/VarHandle" ∧ (parseMethodDescriptor yX11_act.desc).map (fun d => d.parameters.length) = some 1 := by decide +kernel
set_option maxHeartbeats 4000000 in
set_option maxRecDepth 100000 in
theorem zt_X11_act (l : Launch) (dC : Nat → ClassId) (dI : Nat → Nat → Nat) (dA : Nat → ClassId) (ad : Nat → Nat) (sz : Nat) (n : Nat) (f_thrown f_taped f_at f_behind f_size f_kind f_number f_wrong f_wrongAt f_faultKind f_faultPlace f_reading f_toldWhy f_x f_standMany f_bestMany f_tail f_round1 : Int32) (b_all : (Nat → Int32)) (b_reckoned : (Nat → Int32)) (b_words : (Nat → Int32)) (b_was : (Nat → Int32)) (p1 : Int32) (r0 : Int32) (o1 : Int32) (o2 : (Nat → Int32)) (o3 : (Nat → Int32)) (o4 : (Nat → Int32)) (o5 : (Nat → Int32)) (hf : zf_X11_act n f_thrown b_all b_reckoned b_words b_was p1 = some (r0, o1, o2, o3, o4, o5)) : Met l yX11_act (.code yX11_act cX11_act 3 (some .int) :: zr_T) ({ frames := 5, cells := 0, slots := 0, locals := 120 }) (va_Pc [.ref (ad 0), .int p1] (zz_M dC dI dA [zr_o ad f_thrown f_taped f_at f_behind f_size f_kind f_number f_wrong f_wrongAt f_faultKind f_faultPlace f_reading f_toldWhy f_x f_standMany f_bestMany f_tail f_round1, (ad 2, .inl (dA 0, 2982, .inl b_all)), (ad 17, .inl (dA 0, 900, .inl b_reckoned)), (ad 18, .inl (dA 0, 6, .inl b_words)), (ad 19, .inl (dA 0, 5, .inl b_was))] sz)) (va_Qi (fun (r : Int32) (_ : Unit) => r = r0) (fun _ t => zz_B dC dI dA (va_A [zr_o ad f_thrown f_taped f_at f_behind f_size f_kind f_number f_wrong f_wrongAt f_faultKind f_faultPlace f_reading f_toldWhy f_x f_standMany f_bestMany f_tail f_round1, (ad 2, .inl (dA 0, 2982, .inl b_all)), (ad 17, .inl (dA 0, 900, .inl b_reckoned)), (ad 18, .inl (dA 0, 6, .inl b_words)), (ad 19, .inl (dA 0, 5, .inl b_was))] sz) [zr_o ad o1 f_taped f_at f_behind f_size f_kind f_number f_wrong f_wrongAt f_faultKind f_faultPlace f_reading f_toldWhy f_x f_standMany f_bestMany f_tail f_round1, (ad 2, .inl (dA 0, 2982, .inl o2)), (ad 17, .inl (dA 0, 900, .inl o3)), (ad 18, .inl (dA 0, 6, .inl o4)), (ad 19, .inl (dA 0, 5, .inl o5))] t) (va_A [zr_o ad f_thrown f_taped f_at f_behind f_size f_kind f_number f_wrong f_wrongAt f_faultKind f_faultPlace f_reading f_toldWhy f_x f_standMany f_bestMany f_tail f_round1, (ad 2, .inl (dA 0, 2982, .inl b_all)), (ad 17, .inl (dA 0, 900, .inl b_reckoned)), (ad 18, .inl (dA 0, 6, .inl b_words)), (ad 19, .inl (dA 0, 5, .inl b_was))] sz)) 0 0 (va_A [zr_o ad f_thrown f_taped f_at f_behind f_size f_kind f_number f_wrong f_wrongAt f_faultKind f_faultPlace f_reading f_toldWhy f_x f_standMany f_bestMany f_tail f_round1, (ad 2, .inl (dA 0, 2982, .inl b_all)), (ad 17, .inl (dA 0, 900, .inl b_reckoned)), (ad 18, .inl (dA 0, 6, .inl b_words)), (ad 19, .inl (dA 0, 5, .inl b_was))] sz) := by
  unfold zf_X11_act at hf
  refine Met.ofW (cc := cX11_act) (maxL := 3) (ret := (some .int)) (by decide) rfl ?_
  intro p e s m args below meth c s₁ B hml hv
  obtain ⟨rfl, hsz, hP, hK, hD0⟩ := hv
  have hx := B.exec
  have hb := B.bytes
  have hr := B.returns
  have ht : ∀ w ∈ zr_T, w.before ([.ref (ad 0), .int p1] : List Value).toArray s = true := fun w hw => atoms_spec (ws := .code yX11_act cX11_act 3 (some .int) :: zr_T) B.pre w (List.mem_cons_of_mem _ hw)
  have hown : s.vm.findClass RX11 = some m.cls := findClass_of_methodNamed B.named
  have hlocks := B.notSynchronized
  subst hsz
  have hD := hD0.self (sz := s.heap.size)
  generalize hAe : va_A [zr_o ad f_thrown f_taped f_at f_behind f_size f_kind f_number f_wrong f_wrongAt f_faultKind f_faultPlace f_reading f_toldWhy f_x f_standMany f_bestMany f_tail f_round1, (ad 2, .inl (dA 0, 2982, .inl b_all)), (ad 17, .inl (dA 0, 900, .inl b_reckoned)), (ad 18, .inl (dA 0, 6, .inl b_words)), (ad 19, .inl (dA 0, 5, .inl b_was))] s.heap.size = A at hD ⊢
  have hA : ∀ q : Nat, s.heap.size ≤ q → A q := fun q h => by rw [← hAe]; exact Or.inr h
  clear hAe hD0
  have hS : va_S A s.heap s.heap [] := va_S.rf
  have hl := lv_entry ([.ref (ad 0), .int p1]) (n := 3) (Nat.le_of_ble_eq_true rfl)
  rw [lg_entry_eq]
  generalize (lg_sl ([.ref (ad 0), .int p1]) ++ List.replicate (3 - (lg_sl ([.ref (ad 0), .int p1])).length) Slot.unset).toArray = ls at hl ⊢
  have hl : lv_has ls 3 [(0, .ref (ad 0)), (1, .int p1)] := hl
  refine lv_aload_n (pc := 0) hx hb dX11_act_0 rfl (lv_at hl 0 rfl) ?_
  refine lv_iconst (v := (0 : Int32)) (pc := 1) hx hb dX11_act_1 (by decide) ?_
  refine va_put (pc := 2) (D := (dC, dI)) (ci := 0) (v := .int (0 : Int32)) (ty := .int) (C := RX11) (T := TX11) (N := 42) hx hb ht zr_lay tyX11 tyX11_ok nmX11 hown hK hP hD hS 0 rfl rfl 0 (by decide) (ht _ zr_39) (fun _ h9 => h9) rfl (by decide +kernel) rfl rfl (Nat.le_of_ble_eq_true rfl) dX11_act_2 (fun H locs hP hD hS => ?_)
  have hP : va_P (dC, dI) zz_cls [zr_o ad (0 : Int32) f_taped f_at f_behind f_size f_kind f_number f_wrong f_wrongAt f_faultKind f_faultPlace f_reading f_toldWhy f_x f_standMany f_bestMany f_tail f_round1, (ad 2, .inl (dA 0, 2982, .inl b_all)), (ad 17, .inl (dA 0, 900, .inl b_reckoned)), (ad 18, .inl (dA 0, 6, .inl b_words)), (ad 19, .inl (dA 0, 5, .inl b_was))] H := hP
  have hD : va_D A [zr_o ad (0 : Int32) f_taped f_at f_behind f_size f_kind f_number f_wrong f_wrongAt f_faultKind f_faultPlace f_reading f_toldWhy f_x f_standMany f_bestMany f_tail f_round1, (ad 2, .inl (dA 0, 2982, .inl b_all)), (ad 17, .inl (dA 0, 900, .inl b_reckoned)), (ad 18, .inl (dA 0, 6, .inl b_words)), (ad 19, .inl (dA 0, 5, .inl b_was))] := hD
  refine lv_aload_n (pc := 5) hx hb dX11_act_5 rfl (lv_at hl 0 rfl) ?_
  refine lv_iload_n (pc := 6) hx hb dX11_act_6 rfl (lv_at hl 1 rfl) ?_
  refine lv_i2l (pc := 7) hx hb dX11_act_7 rfl ?_
  obtain ⟨v1, a2, a3, hv1, hf⟩ := zc_3 hf
  refine zw_Vi (pc := 8) (wc := [zr_o ad (0 : Int32) f_taped f_at f_behind f_size f_kind f_number f_wrong f_wrongAt f_faultKind f_faultPlace f_reading f_toldWhy f_x f_standMany f_bestMany f_tail f_round1, (ad 2, .inl (dA 0, 2982, .inl b_all)), (ad 17, .inl (dA 0, 900, .inl b_reckoned)), (ad 18, .inl (dA 0, 6, .inl b_words))]) (wr := [(ad 19, .inl (dA 0, 5, .inl b_was))]) (w1 := [zr_o ad (0 : Int32) f_taped f_at f_behind f_size f_kind f_number f_wrong f_wrongAt f_faultKind f_faultPlace f_reading f_toldWhy f_x f_standMany f_bestMany f_tail f_round1, (ad 2, .inl (dA 0, 2982, .inl b_all)), (ad 17, .inl (dA 0, 900, .inl a2)), (ad 18, .inl (dA 0, 6, .inl a3))]) (As := [.long (Int32.toInt64 p1)]) (rest := []) ⟨hx, hb, hml, hown, ht⟩ (zt_X11_whyAct l dC dI dA ad _ n (0 : Int32) f_taped f_at f_behind f_size f_kind f_number f_wrong f_wrongAt f_faultKind f_faultPlace f_reading f_toldWhy f_x f_standMany f_bestMany f_tail f_round1 b_all b_reckoned b_words (Int32.toInt64 p1) v1 a2 a3 hv1) (cwV 1 ht (zr_V zr_268 zr_269 zr_270 zr_36 zr_267) rfl rfl rfl zk_X11_whyAct ⟨Nat.le_of_ble_eq_true rfl, Nat.le_of_ble_eq_true rfl⟩) rfl rfl hK hP hD hS hA [0, 1, 2, 3] [4] (by decide) (by decide) (by decide) rfl rfl rfl hl.1 (Nat.le_of_ble_eq_true rfl) dX11_act_8 ⟨Nat.zero_le _, Nat.zero_le _⟩ rfl (fun H locs hP hD hS => ?_)
  have hP : va_P (dC, dI) zz_cls [(ad 19, .inl (dA 0, 5, .inl b_was)), zr_o ad (0 : Int32) f_taped f_at f_behind f_size f_kind f_number f_wrong f_wrongAt f_faultKind f_faultPlace f_reading f_toldWhy f_x f_standMany f_bestMany f_tail f_round1, (ad 2, .inl (dA 0, 2982, .inl b_all)), (ad 17, .inl (dA 0, 900, .inl a2)), (ad 18, .inl (dA 0, 6, .inl a3))] H := hP
  have hD : va_D A [(ad 19, .inl (dA 0, 5, .inl b_was)), zr_o ad (0 : Int32) f_taped f_at f_behind f_size f_kind f_number f_wrong f_wrongAt f_faultKind f_faultPlace f_reading f_toldWhy f_x f_standMany f_bestMany f_tail f_round1, (ad 2, .inl (dA 0, 2982, .inl b_all)), (ad 17, .inl (dA 0, 900, .inl a2)), (ad 18, .inl (dA 0, 6, .inl a3))] := hD
  refine lv_istore_n (lv' := [(2, .int v1), (0, .ref (ad 0)), (1, .int p1)]) (pc := 11) hx hb dX11_act_11 rfl hl (by decide) rfl (fun ls hl => ?_)
  refine lv_iload_n (pc := 12) hx hb dX11_act_12 rfl (lv_at hl 0 rfl) ?_
  refine lv_if_eq (tgt := 21) (pc := 13) hx hb dX11_act_13 rfl (fun hc => ?_) (fun hc => ?_)
  · have hf := za_t hf hc
    refine lv_aload_n (pc := 21) hx hb dX11_act_21 rfl (lv_at hl 1 rfl) ?_
    obtain ⟨a4, ha4, hf⟩ := zc_1 hf
    refine zw_Vv (pc := 22) (wc := [zr_o ad (0 : Int32) f_taped f_at f_behind f_size f_kind f_number f_wrong f_wrongAt f_faultKind f_faultPlace f_reading f_toldWhy f_x f_standMany f_bestMany f_tail f_round1, (ad 2, .inl (dA 0, 2982, .inl b_all)), (ad 19, .inl (dA 0, 5, .inl b_was))]) (wr := [(ad 17, .inl (dA 0, 900, .inl a2)), (ad 18, .inl (dA 0, 6, .inl a3))]) (w1 := [zr_o ad (0 : Int32) f_taped f_at f_behind f_size f_kind f_number f_wrong f_wrongAt f_faultKind f_faultPlace f_reading f_toldWhy f_x f_standMany f_bestMany f_tail f_round1, (ad 2, .inl (dA 0, 2982, .inl b_all)), (ad 19, .inl (dA 0, 5, .inl a4))]) (As := []) (rest := []) ⟨hx, hb, hml, hown, ht⟩ (zt_X11_keeps l dC dI dA ad _ n (0 : Int32) f_taped f_at f_behind f_size f_kind f_number f_wrong f_wrongAt f_faultKind f_faultPlace f_reading f_toldWhy f_x f_standMany f_bestMany f_tail f_round1 b_all b_was a4 ha4) (cwV 0 ht (zr_V zr_283 zr_284 zr_285 zr_36 zr_276) rfl rfl rfl zk_X11_keeps ⟨Nat.le_of_ble_eq_true rfl, Nat.le_of_ble_eq_true rfl⟩) rfl rfl hK hP hD hS hA [1, 2, 0] [3, 4] (by decide) (by decide) (by decide) rfl rfl rfl hl.1 (Nat.le_of_ble_eq_true rfl) dX11_act_22 ⟨Nat.zero_le _, Nat.zero_le _⟩ rfl (fun H locs hP hD hS => ?_)
    have hP : va_P (dC, dI) zz_cls [(ad 17, .inl (dA 0, 900, .inl a2)), (ad 18, .inl (dA 0, 6, .inl a3)), zr_o ad (0 : Int32) f_taped f_at f_behind f_size f_kind f_number f_wrong f_wrongAt f_faultKind f_faultPlace f_reading f_toldWhy f_x f_standMany f_bestMany f_tail f_round1, (ad 2, .inl (dA 0, 2982, .inl b_all)), (ad 19, .inl (dA 0, 5, .inl a4))] H := hP
    have hD : va_D A [(ad 17, .inl (dA 0, 900, .inl a2)), (ad 18, .inl (dA 0, 6, .inl a3)), zr_o ad (0 : Int32) f_taped f_at f_behind f_size f_kind f_number f_wrong f_wrongAt f_faultKind f_faultPlace f_reading f_toldWhy f_x f_standMany f_bestMany f_tail f_round1, (ad 2, .inl (dA 0, 2982, .inl b_all)), (ad 19, .inl (dA 0, 5, .inl a4))] := hD
    refine lv_aload_n (pc := 25) hx hb dX11_act_25 rfl (lv_at hl 1 rfl) ?_
    refine lv_aload_n (pc := 26) hx hb dX11_act_26 rfl (lv_at hl 1 rfl) ?_
    refine lv_iload_n (pc := 27) hx hb dX11_act_27 rfl (lv_at hl 2 rfl) ?_
    refine lv_i2l (pc := 28) hx hb dX11_act_28 rfl ?_
    obtain ⟨v5, hv5, hf⟩ := zc_1 hf
    refine zw_Vi (pc := 29) (wc := [zr_o ad (0 : Int32) f_taped f_at f_behind f_size f_kind f_number f_wrong f_wrongAt f_faultKind f_faultPlace f_reading f_toldWhy f_x f_standMany f_bestMany f_tail f_round1, (ad 2, .inl (dA 0, 2982, .inl b_all))]) (wr := [(ad 17, .inl (dA 0, 900, .inl a2)), (ad 18, .inl (dA 0, 6, .inl a3)), (ad 19, .inl (dA 0, 5, .inl a4))]) (w1 := [zr_o ad (0 : Int32) f_taped f_at f_behind f_size f_kind f_number f_wrong f_wrongAt f_faultKind f_faultPlace f_reading f_toldWhy f_x f_standMany f_bestMany f_tail f_round1, (ad 2, .inl (dA 0, 2982, .inl b_all))]) (As := [.long (Int32.toInt64 p1)]) (rest := [.ref (ad 0)]) ⟨hx, hb, hml, hown, ht⟩ (zt_X11_moveOf l dC dI dA ad _ (0 : Int32) f_taped f_at f_behind f_size f_kind f_number f_wrong f_wrongAt f_faultKind f_faultPlace f_reading f_toldWhy f_x f_standMany f_bestMany f_tail f_round1 b_all (Int32.toInt64 p1) v5 hv5) (cwV 1 ht (zr_V zr_258 zr_259 zr_260 zr_36 zr_230) rfl rfl rfl zk_X11_moveOf ⟨Nat.le_of_ble_eq_true rfl, Nat.le_of_ble_eq_true rfl⟩) rfl rfl hK hP hD hS hA [2, 3] [0, 1, 4] (by decide) (by decide) (by decide) rfl rfl rfl hl.1 (Nat.le_of_ble_eq_true rfl) dX11_act_29 ⟨Nat.zero_le _, Nat.zero_le _⟩ rfl (fun H locs hP hD hS => ?_)
    have hP : va_P (dC, dI) zz_cls [(ad 17, .inl (dA 0, 900, .inl a2)), (ad 18, .inl (dA 0, 6, .inl a3)), (ad 19, .inl (dA 0, 5, .inl a4)), zr_o ad (0 : Int32) f_taped f_at f_behind f_size f_kind f_number f_wrong f_wrongAt f_faultKind f_faultPlace f_reading f_toldWhy f_x f_standMany f_bestMany f_tail f_round1, (ad 2, .inl (dA 0, 2982, .inl b_all))] H := hP
    have hD : va_D A [(ad 17, .inl (dA 0, 900, .inl a2)), (ad 18, .inl (dA 0, 6, .inl a3)), (ad 19, .inl (dA 0, 5, .inl a4)), zr_o ad (0 : Int32) f_taped f_at f_behind f_size f_kind f_number f_wrong f_wrongAt f_faultKind f_faultPlace f_reading f_toldWhy f_x f_standMany f_bestMany f_tail f_round1, (ad 2, .inl (dA 0, 2982, .inl b_all))] := hD
    obtain ⟨a6, a7, a8, ha6, hf⟩ := zc_3 hf
    refine zw_Vv (pc := 32) (wc := [zr_o ad (0 : Int32) f_taped f_at f_behind f_size f_kind f_number f_wrong f_wrongAt f_faultKind f_faultPlace f_reading f_toldWhy f_x f_standMany f_bestMany f_tail f_round1, (ad 2, .inl (dA 0, 2982, .inl b_all)), (ad 17, .inl (dA 0, 900, .inl a2)), (ad 18, .inl (dA 0, 6, .inl a3))]) (wr := [(ad 19, .inl (dA 0, 5, .inl a4))]) (w1 := [zr_o ad (0 : Int32) f_taped f_at f_behind f_size f_kind f_number f_wrong f_wrongAt f_faultKind f_faultPlace f_reading f_toldWhy f_x f_standMany f_bestMany f_tail f_round1, (ad 2, .inl (dA 0, 2982, .inl a6)), (ad 17, .inl (dA 0, 900, .inl a7)), (ad 18, .inl (dA 0, 6, .inl a8))]) (As := [.int v5]) (rest := []) ⟨hx, hb, hml, hown, ht⟩ (zt_X11_acts l dC dI dA ad _ n (0 : Int32) f_taped f_at f_behind f_size f_kind f_number f_wrong f_wrongAt f_faultKind f_faultPlace f_reading f_toldWhy f_x f_standMany f_bestMany f_tail f_round1 b_all a2 a3 v5 a6 a7 a8 ha6) (cwV 1 ht (zr_V zr_286 zr_287 zr_288 zr_36 zr_282) rfl rfl rfl zk_X11_acts ⟨Nat.le_of_ble_eq_true rfl, Nat.le_of_ble_eq_true rfl⟩) rfl rfl hK hP hD hS hA [3, 4, 0, 1] [2] (by decide) (by decide) (by decide) rfl rfl rfl hl.1 (Nat.le_of_ble_eq_true rfl) dX11_act_32 ⟨Nat.zero_le _, Nat.zero_le _⟩ rfl (fun H locs hP hD hS => ?_)
    have hP : va_P (dC, dI) zz_cls [(ad 19, .inl (dA 0, 5, .inl a4)), zr_o ad (0 : Int32) f_taped f_at f_behind f_size f_kind f_number f_wrong f_wrongAt f_faultKind f_faultPlace f_reading f_toldWhy f_x f_standMany f_bestMany f_tail f_round1, (ad 2, .inl (dA 0, 2982, .inl a6)), (ad 17, .inl (dA 0, 900, .inl a7)), (ad 18, .inl (dA 0, 6, .inl a8))] H := hP
    have hD : va_D A [(ad 19, .inl (dA 0, 5, .inl a4)), zr_o ad (0 : Int32) f_taped f_at f_behind f_size f_kind f_number f_wrong f_wrongAt f_faultKind f_faultPlace f_reading f_toldWhy f_x f_standMany f_bestMany f_tail f_round1, (ad 2, .inl (dA 0, 2982, .inl a6)), (ad 17, .inl (dA 0, 900, .inl a7)), (ad 18, .inl (dA 0, 6, .inl a8))] := hD
    refine lv_aload_n (pc := 35) hx hb dX11_act_35 rfl (lv_at hl 1 rfl) ?_
    obtain ⟨a9, ha9, hf⟩ := zc_1 hf
    refine zw_Vv (pc := 36) (wc := [zr_o ad (0 : Int32) f_taped f_at f_behind f_size f_kind f_number f_wrong f_wrongAt f_faultKind f_faultPlace f_reading f_toldWhy f_x f_standMany f_bestMany f_tail f_round1, (ad 2, .inl (dA 0, 2982, .inl a6)), (ad 19, .inl (dA 0, 5, .inl a4))]) (wr := [(ad 17, .inl (dA 0, 900, .inl a7)), (ad 18, .inl (dA 0, 6, .inl a8))]) (w1 := [zr_o ad (0 : Int32) f_taped f_at f_behind f_size f_kind f_number f_wrong f_wrongAt f_faultKind f_faultPlace f_reading f_toldWhy f_x f_standMany f_bestMany f_tail f_round1, (ad 2, .inl (dA 0, 2982, .inl a9)), (ad 19, .inl (dA 0, 5, .inl a4))]) (As := []) (rest := []) ⟨hx, hb, hml, hown, ht⟩ (zt_X11_notes l dC dI dA ad _ n (0 : Int32) f_taped f_at f_behind f_size f_kind f_number f_wrong f_wrongAt f_faultKind f_faultPlace f_reading f_toldWhy f_x f_standMany f_bestMany f_tail f_round1 a6 a4 a9 ha9) (cwV 0 ht (zr_V zr_289 zr_290 zr_291 zr_36 zr_278) rfl rfl rfl zk_X11_notes ⟨Nat.le_of_ble_eq_true rfl, Nat.le_of_ble_eq_true rfl⟩) rfl rfl hK hP hD hS hA [1, 2, 0] [3, 4] (by decide) (by decide) (by decide) rfl rfl rfl hl.1 (Nat.le_of_ble_eq_true rfl) dX11_act_36 ⟨Nat.zero_le _, Nat.zero_le _⟩ rfl (fun H locs hP hD hS => ?_)
    have hP : va_P (dC, dI) zz_cls [(ad 17, .inl (dA 0, 900, .inl a7)), (ad 18, .inl (dA 0, 6, .inl a8)), zr_o ad (0 : Int32) f_taped f_at f_behind f_size f_kind f_number f_wrong f_wrongAt f_faultKind f_faultPlace f_reading f_toldWhy f_x f_standMany f_bestMany f_tail f_round1, (ad 2, .inl (dA 0, 2982, .inl a9)), (ad 19, .inl (dA 0, 5, .inl a4))] H := hP
    have hD : va_D A [(ad 17, .inl (dA 0, 900, .inl a7)), (ad 18, .inl (dA 0, 6, .inl a8)), zr_o ad (0 : Int32) f_taped f_at f_behind f_size f_kind f_number f_wrong f_wrongAt f_faultKind f_faultPlace f_reading f_toldWhy f_x f_standMany f_bestMany f_tail f_round1, (ad 2, .inl (dA 0, 2982, .inl a9)), (ad 19, .inl (dA 0, 5, .inl a4))] := hD
    refine lv_aload_n (pc := 39) hx hb dX11_act_39 rfl (lv_at hl 1 rfl) ?_
    refine va_get (pc := 40) (D := (dC, dI)) (ci := 0) (v := .ref (ad 2)) (C := RX11) (T := TX11) (N := 42) hx hb ht zr_lay hown hK hP 2 rfl rfl 1 (by decide) (ht _ zr_6) (fun _ h9 => h9) rfl dX11_act_40 ?_
    refine lv_bipush (v := (37 : Int32)) (pc := 43) hx hb dX11_act_43 (by decide) ?_
    obtain ⟨v10, hv10, hf⟩ := zc_1 hf
    refine zw_iald (pc := 45) hx hb hK hP 3 0 rfl rfl hv10 dX11_act_45 ?_
    obtain ⟨rfl, rfl, rfl, rfl, rfl, rfl⟩ := zi_6 hf
    exact W.iret (pc := 46) hx hb hr (fun t ht hW => ⟨⟨_, (), rfl, rfl, zz_Bi (by rw [ht]; exact hP.sub [2, 3, 0, 1, 4] rfl) (va_K.moved hW.alike hK) (hD.sub [2, 3, 0, 1, 4] (by decide) rfl)⟩, hS.F ht⟩) hS.2.2 dX11_act_46
  · have hf := za_f hf hc
    refine lv_bipush (v := (-10 : Int32)) (pc := 16) hx hb dX11_act_16 (by decide) ?_
    refine lv_iload_n (pc := 18) hx hb dX11_act_18 rfl (lv_at hl 0 rfl) ?_
    refine lv_isub (pc := 19) hx hb dX11_act_19 ?_
    obtain ⟨rfl, rfl, rfl, rfl, rfl, rfl⟩ := zi_6 hf
    exact W.iret (pc := 20) hx hb hr (fun t ht hW => ⟨⟨_, (), rfl, rfl, zz_Bi (by rw [ht]; exact hP.sub [1, 2, 3, 4, 0] rfl) (va_K.moved hW.alike hK) (hD.sub [1, 2, 3, 4, 0] (by decide) rfl)⟩, hS.F ht⟩) hS.2.2 dX11_act_20

def zf_X11_wind (n : Nat) (f_thrown : Int32) (b_all : (Nat → Int32)) (b_was : (Nat → Int32)) (p1 : Int32) : Option (Int32 × Int32 × (Nat → Int32) × (Nat → Int32)) :=
  zd_1 (zf_X11_within (Int32.toInt64 p1) (0 : Int64) (9 : Int64)) (fun v1 =>
  if v1 = 0 then
    some ((-11 : Int32), (0 : Int32), b_all, b_was)
  else
    zd_1 (zf_X11_keeps n b_all b_was) (fun a2 =>
    zd_1 (za_st b_all 2982 (40 : Int32) p1) (fun a3 =>
    zd_1 (zf_X11_notes n a3 a2) (fun a4 =>
    zd_1 (za_ld a2 5 (3 : Int32)) (fun v5 =>
    some (v5, (0 : Int32), a4, a2))))))
theorem zk_X11_wind : yX11_wind.cls = RX11 ∧ yX11_wind.cls ≠ "java/lang/invoke/MethodHandle" ∧ yX11_wind.cls ≠ "java/lang/invoke/VarHandle" ∧ (parseMethodDescriptor yX11_wind.desc).map (fun d => d.parameters.length) = some 1 := by decide +kernel
set_option maxHeartbeats 4000000 in
set_option maxRecDepth 100000 in
theorem zt_X11_wind (l : Launch) (dC : Nat → ClassId) (dI : Nat → Nat → Nat) (dA : Nat → ClassId) (ad : Nat → Nat) (sz : Nat) (n : Nat) (f_thrown f_taped f_at f_behind f_size f_kind f_number f_wrong f_wrongAt f_faultKind f_faultPlace f_reading f_toldWhy f_x f_standMany f_bestMany f_tail f_round1 : Int32) (b_all : (Nat → Int32)) (b_was : (Nat → Int32)) (p1 : Int32) (r0 : Int32) (o1 : Int32) (o2 : (Nat → Int32)) (o3 : (Nat → Int32)) (hf : zf_X11_wind n f_thrown b_all b_was p1 = some (r0, o1, o2, o3)) : Met l yX11_wind (.code yX11_wind cX11_wind 2 (some .int) :: zr_T) ({ frames := 1, cells := 0, slots := 0, locals := 25 }) (va_Pc [.ref (ad 0), .int p1] (zz_M dC dI dA [zr_o ad f_thrown f_taped f_at f_behind f_size f_kind f_number f_wrong f_wrongAt f_faultKind f_faultPlace f_reading f_toldWhy f_x f_standMany f_bestMany f_tail f_round1, (ad 2, .inl (dA 0, 2982, .inl b_all)), (ad 19, .inl (dA 0, 5, .inl b_was))] sz)) (va_Qi (fun (r : Int32) (_ : Unit) => r = r0) (fun _ t => zz_B dC dI dA (va_A [zr_o ad f_thrown f_taped f_at f_behind f_size f_kind f_number f_wrong f_wrongAt f_faultKind f_faultPlace f_reading f_toldWhy f_x f_standMany f_bestMany f_tail f_round1, (ad 2, .inl (dA 0, 2982, .inl b_all)), (ad 19, .inl (dA 0, 5, .inl b_was))] sz) [zr_o ad o1 f_taped f_at f_behind f_size f_kind f_number f_wrong f_wrongAt f_faultKind f_faultPlace f_reading f_toldWhy f_x f_standMany f_bestMany f_tail f_round1, (ad 2, .inl (dA 0, 2982, .inl o2)), (ad 19, .inl (dA 0, 5, .inl o3))] t) (va_A [zr_o ad f_thrown f_taped f_at f_behind f_size f_kind f_number f_wrong f_wrongAt f_faultKind f_faultPlace f_reading f_toldWhy f_x f_standMany f_bestMany f_tail f_round1, (ad 2, .inl (dA 0, 2982, .inl b_all)), (ad 19, .inl (dA 0, 5, .inl b_was))] sz)) 0 0 (va_A [zr_o ad f_thrown f_taped f_at f_behind f_size f_kind f_number f_wrong f_wrongAt f_faultKind f_faultPlace f_reading f_toldWhy f_x f_standMany f_bestMany f_tail f_round1, (ad 2, .inl (dA 0, 2982, .inl b_all)), (ad 19, .inl (dA 0, 5, .inl b_was))] sz) := by
  unfold zf_X11_wind at hf
  refine Met.ofW (cc := cX11_wind) (maxL := 2) (ret := (some .int)) (by decide) rfl ?_
  intro p e s m args below meth c s₁ B hml hv
  obtain ⟨rfl, hsz, hP, hK, hD0⟩ := hv
  have hx := B.exec
  have hb := B.bytes
  have hr := B.returns
  have ht : ∀ w ∈ zr_T, w.before ([.ref (ad 0), .int p1] : List Value).toArray s = true := fun w hw => atoms_spec (ws := .code yX11_wind cX11_wind 2 (some .int) :: zr_T) B.pre w (List.mem_cons_of_mem _ hw)
  have hown : s.vm.findClass RX11 = some m.cls := findClass_of_methodNamed B.named
  have hlocks := B.notSynchronized
  subst hsz
  have hD := hD0.self (sz := s.heap.size)
  generalize hAe : va_A [zr_o ad f_thrown f_taped f_at f_behind f_size f_kind f_number f_wrong f_wrongAt f_faultKind f_faultPlace f_reading f_toldWhy f_x f_standMany f_bestMany f_tail f_round1, (ad 2, .inl (dA 0, 2982, .inl b_all)), (ad 19, .inl (dA 0, 5, .inl b_was))] s.heap.size = A at hD ⊢
  have hA : ∀ q : Nat, s.heap.size ≤ q → A q := fun q h => by rw [← hAe]; exact Or.inr h
  clear hAe hD0
  have hS : va_S A s.heap s.heap [] := va_S.rf
  have hl := lv_entry ([.ref (ad 0), .int p1]) (n := 2) (Nat.le_of_ble_eq_true rfl)
  rw [lg_entry_eq]
  generalize (lg_sl ([.ref (ad 0), .int p1]) ++ List.replicate (2 - (lg_sl ([.ref (ad 0), .int p1])).length) Slot.unset).toArray = ls at hl ⊢
  have hl : lv_has ls 2 [(0, .ref (ad 0)), (1, .int p1)] := hl
  refine lv_aload_n (pc := 0) hx hb dX11_wind_0 rfl (lv_at hl 0 rfl) ?_
  refine lv_iconst (v := (0 : Int32)) (pc := 1) hx hb dX11_wind_1 (by decide) ?_
  refine va_put (pc := 2) (D := (dC, dI)) (ci := 0) (v := .int (0 : Int32)) (ty := .int) (C := RX11) (T := TX11) (N := 42) hx hb ht zr_lay tyX11 tyX11_ok nmX11 hown hK hP hD hS 0 rfl rfl 0 (by decide) (ht _ zr_39) (fun _ h9 => h9) rfl (by decide +kernel) rfl rfl (Nat.le_of_ble_eq_true rfl) dX11_wind_2 (fun H locs hP hD hS => ?_)
  have hP : va_P (dC, dI) zz_cls [zr_o ad (0 : Int32) f_taped f_at f_behind f_size f_kind f_number f_wrong f_wrongAt f_faultKind f_faultPlace f_reading f_toldWhy f_x f_standMany f_bestMany f_tail f_round1, (ad 2, .inl (dA 0, 2982, .inl b_all)), (ad 19, .inl (dA 0, 5, .inl b_was))] H := hP
  have hD : va_D A [zr_o ad (0 : Int32) f_taped f_at f_behind f_size f_kind f_number f_wrong f_wrongAt f_faultKind f_faultPlace f_reading f_toldWhy f_x f_standMany f_bestMany f_tail f_round1, (ad 2, .inl (dA 0, 2982, .inl b_all)), (ad 19, .inl (dA 0, 5, .inl b_was))] := hD
  refine lv_iload_n (pc := 5) hx hb dX11_wind_5 rfl (lv_at hl 1 rfl) ?_
  refine lv_i2l (pc := 6) hx hb dX11_wind_6 rfl ?_
  refine lv_lconst (v := (0 : Int64)) (pc := 7) hx hb dX11_wind_7 (by decide) ?_
  refine lv_ldc2 (v := (9 : Int64)) (pc := 8) hx hb hown (ht _ zr_294) dX11_wind_8 ?_
  obtain ⟨v1, hv1, hf⟩ := zc_1 hf
  refine zw_Si (pc := 11) (wc := []) (wr := [zr_o ad (0 : Int32) f_taped f_at f_behind f_size f_kind f_number f_wrong f_wrongAt f_faultKind f_faultPlace f_reading f_toldWhy f_x f_standMany f_bestMany f_tail f_round1, (ad 2, .inl (dA 0, 2982, .inl b_all)), (ad 19, .inl (dA 0, 5, .inl b_was))]) (w1 := []) (As := [.long (Int32.toInt64 p1), .long (0 : Int64), .long (9 : Int64)]) (rest := []) ⟨hx, hb, hml, hown, ht⟩ (zt_X11_within l dC dI dA ad _ (Int32.toInt64 p1) (0 : Int64) (9 : Int64) v1 hv1) (cwS 3 ht (zr_S zr_124 zr_125 zr_36 zr_0) rfl rfl rfl zk_X11_within ⟨Nat.le_of_ble_eq_true rfl, Nat.le_of_ble_eq_true rfl⟩) hK hP hD hS hA [] [0, 1, 2] (by decide) (by decide) (by decide) rfl rfl rfl hl.1 (Nat.le_of_ble_eq_true rfl) dX11_wind_11 ⟨Nat.zero_le _, Nat.zero_le _⟩ rfl (fun H locs hP hD hS => ?_)
  have hP : va_P (dC, dI) zz_cls [zr_o ad (0 : Int32) f_taped f_at f_behind f_size f_kind f_number f_wrong f_wrongAt f_faultKind f_faultPlace f_reading f_toldWhy f_x f_standMany f_bestMany f_tail f_round1, (ad 2, .inl (dA 0, 2982, .inl b_all)), (ad 19, .inl (dA 0, 5, .inl b_was))] H := hP
  have hD : va_D A [zr_o ad (0 : Int32) f_taped f_at f_behind f_size f_kind f_number f_wrong f_wrongAt f_faultKind f_faultPlace f_reading f_toldWhy f_x f_standMany f_bestMany f_tail f_round1, (ad 2, .inl (dA 0, 2982, .inl b_all)), (ad 19, .inl (dA 0, 5, .inl b_was))] := hD
  refine lv_if_ne (tgt := 20) (pc := 14) hx hb dX11_wind_14 rfl (fun hc => ?_) (fun hc => ?_)
  · have hf := za_f hf hc
    refine lv_aload_n (pc := 20) hx hb dX11_wind_20 rfl (lv_at hl 0 rfl) ?_
    obtain ⟨a2, ha2, hf⟩ := zc_1 hf
    refine zw_Vv (pc := 21) (wc := [zr_o ad (0 : Int32) f_taped f_at f_behind f_size f_kind f_number f_wrong f_wrongAt f_faultKind f_faultPlace f_reading f_toldWhy f_x f_standMany f_bestMany f_tail f_round1, (ad 2, .inl (dA 0, 2982, .inl b_all)), (ad 19, .inl (dA 0, 5, .inl b_was))]) (wr := []) (w1 := [zr_o ad (0 : Int32) f_taped f_at f_behind f_size f_kind f_number f_wrong f_wrongAt f_faultKind f_faultPlace f_reading f_toldWhy f_x f_standMany f_bestMany f_tail f_round1, (ad 2, .inl (dA 0, 2982, .inl b_all)), (ad 19, .inl (dA 0, 5, .inl a2))]) (As := []) (rest := []) ⟨hx, hb, hml, hown, ht⟩ (zt_X11_keeps l dC dI dA ad _ n (0 : Int32) f_taped f_at f_behind f_size f_kind f_number f_wrong f_wrongAt f_faultKind f_faultPlace f_reading f_toldWhy f_x f_standMany f_bestMany f_tail f_round1 b_all b_was a2 ha2) (cwV 0 ht (zr_V zr_283 zr_284 zr_285 zr_36 zr_276) rfl rfl rfl zk_X11_keeps ⟨Nat.le_of_ble_eq_true rfl, Nat.le_of_ble_eq_true rfl⟩) rfl rfl hK hP hD hS hA [0, 1, 2] [] (by decide) (by decide) (by decide) rfl rfl rfl hl.1 (Nat.le_of_ble_eq_true rfl) dX11_wind_21 ⟨Nat.zero_le _, Nat.zero_le _⟩ rfl (fun H locs hP hD hS => ?_)
    have hP : va_P (dC, dI) zz_cls [zr_o ad (0 : Int32) f_taped f_at f_behind f_size f_kind f_number f_wrong f_wrongAt f_faultKind f_faultPlace f_reading f_toldWhy f_x f_standMany f_bestMany f_tail f_round1, (ad 2, .inl (dA 0, 2982, .inl b_all)), (ad 19, .inl (dA 0, 5, .inl a2))] H := hP
    have hD : va_D A [zr_o ad (0 : Int32) f_taped f_at f_behind f_size f_kind f_number f_wrong f_wrongAt f_faultKind f_faultPlace f_reading f_toldWhy f_x f_standMany f_bestMany f_tail f_round1, (ad 2, .inl (dA 0, 2982, .inl b_all)), (ad 19, .inl (dA 0, 5, .inl a2))] := hD
    refine lv_aload_n (pc := 24) hx hb dX11_wind_24 rfl (lv_at hl 0 rfl) ?_
    refine va_get (pc := 25) (D := (dC, dI)) (ci := 0) (v := .ref (ad 2)) (C := RX11) (T := TX11) (N := 42) hx hb ht zr_lay hown hK hP 0 rfl rfl 1 (by decide) (ht _ zr_6) (fun _ h9 => h9) rfl dX11_wind_25 ?_
    refine lv_bipush (v := (40 : Int32)) (pc := 28) hx hb dX11_wind_28 (by decide) ?_
    refine lv_iload_n (pc := 30) hx hb dX11_wind_30 rfl (lv_at hl 1 rfl) ?_
    obtain ⟨a3, ha3, hf⟩ := zc_1 hf
    refine zw_iast (pc := 31) hx hb hK hP hD hS 1 0 rfl rfl ha3 dX11_wind_31 (fun H locs hP hD hS => ?_)
    have hP : va_P (dC, dI) zz_cls [zr_o ad (0 : Int32) f_taped f_at f_behind f_size f_kind f_number f_wrong f_wrongAt f_faultKind f_faultPlace f_reading f_toldWhy f_x f_standMany f_bestMany f_tail f_round1, (ad 2, .inl (dA 0, 2982, .inl a3)), (ad 19, .inl (dA 0, 5, .inl a2))] H := hP
    have hD : va_D A [zr_o ad (0 : Int32) f_taped f_at f_behind f_size f_kind f_number f_wrong f_wrongAt f_faultKind f_faultPlace f_reading f_toldWhy f_x f_standMany f_bestMany f_tail f_round1, (ad 2, .inl (dA 0, 2982, .inl a3)), (ad 19, .inl (dA 0, 5, .inl a2))] := hD
    refine lv_aload_n (pc := 32) hx hb dX11_wind_32 rfl (lv_at hl 0 rfl) ?_
    obtain ⟨a4, ha4, hf⟩ := zc_1 hf
    refine zw_Vv (pc := 33) (wc := [zr_o ad (0 : Int32) f_taped f_at f_behind f_size f_kind f_number f_wrong f_wrongAt f_faultKind f_faultPlace f_reading f_toldWhy f_x f_standMany f_bestMany f_tail f_round1, (ad 2, .inl (dA 0, 2982, .inl a3)), (ad 19, .inl (dA 0, 5, .inl a2))]) (wr := []) (w1 := [zr_o ad (0 : Int32) f_taped f_at f_behind f_size f_kind f_number f_wrong f_wrongAt f_faultKind f_faultPlace f_reading f_toldWhy f_x f_standMany f_bestMany f_tail f_round1, (ad 2, .inl (dA 0, 2982, .inl a4)), (ad 19, .inl (dA 0, 5, .inl a2))]) (As := []) (rest := []) ⟨hx, hb, hml, hown, ht⟩ (zt_X11_notes l dC dI dA ad _ n (0 : Int32) f_taped f_at f_behind f_size f_kind f_number f_wrong f_wrongAt f_faultKind f_faultPlace f_reading f_toldWhy f_x f_standMany f_bestMany f_tail f_round1 a3 a2 a4 ha4) (cwV 0 ht (zr_V zr_289 zr_290 zr_291 zr_36 zr_278) rfl rfl rfl zk_X11_notes ⟨Nat.le_of_ble_eq_true rfl, Nat.le_of_ble_eq_true rfl⟩) rfl rfl hK hP hD hS hA [0, 1, 2] [] (by decide) (by decide) (by decide) rfl rfl rfl hl.1 (Nat.le_of_ble_eq_true rfl) dX11_wind_33 ⟨Nat.zero_le _, Nat.zero_le _⟩ rfl (fun H locs hP hD hS => ?_)
    have hP : va_P (dC, dI) zz_cls [zr_o ad (0 : Int32) f_taped f_at f_behind f_size f_kind f_number f_wrong f_wrongAt f_faultKind f_faultPlace f_reading f_toldWhy f_x f_standMany f_bestMany f_tail f_round1, (ad 2, .inl (dA 0, 2982, .inl a4)), (ad 19, .inl (dA 0, 5, .inl a2))] H := hP
    have hD : va_D A [zr_o ad (0 : Int32) f_taped f_at f_behind f_size f_kind f_number f_wrong f_wrongAt f_faultKind f_faultPlace f_reading f_toldWhy f_x f_standMany f_bestMany f_tail f_round1, (ad 2, .inl (dA 0, 2982, .inl a4)), (ad 19, .inl (dA 0, 5, .inl a2))] := hD
    refine lv_aload_n (pc := 36) hx hb dX11_wind_36 rfl (lv_at hl 0 rfl) ?_
    refine va_get (pc := 37) (D := (dC, dI)) (ci := 0) (v := .ref (ad 19)) (C := RX11) (T := TX11) (N := 42) hx hb ht zr_lay hown hK hP 0 rfl rfl 18 (by decide) (ht _ zr_14) (fun _ h9 => h9) rfl dX11_wind_37 ?_
    refine lv_iconst (v := (3 : Int32)) (pc := 40) hx hb dX11_wind_40 (by decide) ?_
    obtain ⟨v5, hv5, hf⟩ := zc_1 hf
    refine zw_iald (pc := 41) hx hb hK hP 2 0 rfl rfl hv5 dX11_wind_41 ?_
    obtain ⟨rfl, rfl, rfl, rfl⟩ := zi_4 hf
    exact W.iret (pc := 42) hx hb hr (fun t ht hW => ⟨⟨_, (), rfl, rfl, zz_Bi (by rw [ht]; exact hP) (va_K.moved hW.alike hK) (hD)⟩, hS.F ht⟩) hS.2.2 dX11_wind_42
  · have hf := za_t hf hc
    refine lv_bipush (v := (-11 : Int32)) (pc := 17) hx hb dX11_wind_17 (by decide) ?_
    obtain ⟨rfl, rfl, rfl, rfl⟩ := zi_4 hf
    exact W.iret (pc := 19) hx hb hr (fun t ht hW => ⟨⟨_, (), rfl, rfl, zz_Bi (by rw [ht]; exact hP) (va_K.moved hW.alike hK) (hD)⟩, hS.F ht⟩) hS.2.2 dX11_wind_19

def zb_X11_habitOf_25 (b_all : (Nat → Int32)) (v5 : Int32) (p1 : Int32) (v6 : Int32) : Option (Nat × Int32) :=
  zd_1 (za_ld b_all 2982 (2 : Int32)) (fun v7 =>
  if v7 ≤ v6 then
    some (2, v6)
  else
    zd_1 (za_ld b_all 2982 (1 : Int32)) (fun v8 =>
    if v8 ≤ v5 then
      some (2, v6)
    else
      zd_1 (zf_X11_hasIn p1) (fun v9 =>
      zd_1 (za_ld b_all 2982 (((10 : Int32) + v5) + (1 : Int32))) (fun v10 =>
      zd_1 (zf_X11_isIn (Int32.toInt64 (v9 &&& v10)) v6) (fun v11 =>
      if v11 = 0 then
        zd_1 (some (v6 + (1 : Int32))) (fun v12 =>
        some (0, v12))
      else
        some (1, v6))))))
def zf_X11_habitOf (n : Nat) (b_all : (Nat → Int32)) (b_reckoned : (Nat → Int32)) (b_words : (Nat → Int32)) (p1 : Int32) : Option (Int32 × (Nat → Int32) × (Nat → Int32)) :=
  zd_1 (za_ld b_all 2982 (40 : Int32)) (fun v1 =>
  zd_3 (zf_X11_whyBy n b_all b_reckoned b_words p1 (1 : Int32) v1) (fun v2 a3 a4 =>
  if v2 = 0 then
    some ((1 : Int32), a3, a4)
  else
    zd_1 (zf_X11_rungIn p1) (fun v5 =>
    zd_2 (za_it (fun v => zb_X11_habitOf_25 b_all v5 p1 v) n (0 : Int32)) (fun g14 v13 =>
    if g14 = 1 then
      some (((3 : Int32) + v13), a3, a4)
    else if g14 = 2 then
      some ((0 : Int32), a3, a4)
    else none))))
theorem zk_X11_habitOf : yX11_habitOf.cls = RX11 ∧ yX11_habitOf.cls ≠ "java/lang/invoke/MethodHandle" ∧ yX11_habitOf.cls ≠ "java/lang/invoke/VarHandle" ∧ (parseMethodDescriptor yX11_habitOf.desc).map (fun d => d.parameters.length) = some 1 := by decide +kernel
set_option maxHeartbeats 4000000 in
set_option maxRecDepth 100000 in
theorem zt_X11_habitOf (l : Launch) (dC : Nat → ClassId) (dI : Nat → Nat → Nat) (dA : Nat → ClassId) (ad : Nat → Nat) (sz : Nat) (n : Nat) (f_thrown f_taped f_at f_behind f_size f_kind f_number f_wrong f_wrongAt f_faultKind f_faultPlace f_reading f_toldWhy f_x f_standMany f_bestMany f_tail f_round1 : Int32) (b_all : (Nat → Int32)) (b_reckoned : (Nat → Int32)) (b_words : (Nat → Int32)) (p1 : Int32) (r0 : Int32) (o1 : (Nat → Int32)) (o2 : (Nat → Int32)) (hf : zf_X11_habitOf n b_all b_reckoned b_words p1 = some (r0, o1, o2)) : Met l yX11_habitOf (.code yX11_habitOf cX11_habitOf 4 (some .int) :: zr_T) ({ frames := 3, cells := 0, slots := 0, locals := 77 }) (va_Pc [.ref (ad 0), .int p1] (zz_M dC dI dA [zr_o ad f_thrown f_taped f_at f_behind f_size f_kind f_number f_wrong f_wrongAt f_faultKind f_faultPlace f_reading f_toldWhy f_x f_standMany f_bestMany f_tail f_round1, (ad 2, .inl (dA 0, 2982, .inl b_all)), (ad 17, .inl (dA 0, 900, .inl b_reckoned)), (ad 18, .inl (dA 0, 6, .inl b_words))] sz)) (va_Qi (fun (r : Int32) (_ : Unit) => r = r0) (fun _ t => zz_B dC dI dA (va_A [zr_o ad f_thrown f_taped f_at f_behind f_size f_kind f_number f_wrong f_wrongAt f_faultKind f_faultPlace f_reading f_toldWhy f_x f_standMany f_bestMany f_tail f_round1, (ad 2, .inl (dA 0, 2982, .inl b_all)), (ad 17, .inl (dA 0, 900, .inl b_reckoned)), (ad 18, .inl (dA 0, 6, .inl b_words))] sz) [zr_o ad f_thrown f_taped f_at f_behind f_size f_kind f_number f_wrong f_wrongAt f_faultKind f_faultPlace f_reading f_toldWhy f_x f_standMany f_bestMany f_tail f_round1, (ad 2, .inl (dA 0, 2982, .inl b_all)), (ad 17, .inl (dA 0, 900, .inl o1)), (ad 18, .inl (dA 0, 6, .inl o2))] t) (va_A [zr_o ad f_thrown f_taped f_at f_behind f_size f_kind f_number f_wrong f_wrongAt f_faultKind f_faultPlace f_reading f_toldWhy f_x f_standMany f_bestMany f_tail f_round1, (ad 2, .inl (dA 0, 2982, .inl b_all)), (ad 17, .inl (dA 0, 900, .inl b_reckoned)), (ad 18, .inl (dA 0, 6, .inl b_words))] sz)) 0 0 (va_A [zr_o ad f_thrown f_taped f_at f_behind f_size f_kind f_number f_wrong f_wrongAt f_faultKind f_faultPlace f_reading f_toldWhy f_x f_standMany f_bestMany f_tail f_round1, (ad 2, .inl (dA 0, 2982, .inl b_all)), (ad 17, .inl (dA 0, 900, .inl b_reckoned)), (ad 18, .inl (dA 0, 6, .inl b_words))] sz) := by
  unfold zf_X11_habitOf at hf
  refine Met.ofW (cc := cX11_habitOf) (maxL := 4) (ret := (some .int)) (by decide) rfl ?_
  intro p e s m args below meth c s₁ B hml hv
  obtain ⟨rfl, hsz, hP, hK, hD0⟩ := hv
  have hx := B.exec
  have hb := B.bytes
  have hr := B.returns
  have ht : ∀ w ∈ zr_T, w.before ([.ref (ad 0), .int p1] : List Value).toArray s = true := fun w hw => atoms_spec (ws := .code yX11_habitOf cX11_habitOf 4 (some .int) :: zr_T) B.pre w (List.mem_cons_of_mem _ hw)
  have hown : s.vm.findClass RX11 = some m.cls := findClass_of_methodNamed B.named
  have hlocks := B.notSynchronized
  subst hsz
  have hD := hD0.self (sz := s.heap.size)
  generalize hAe : va_A [zr_o ad f_thrown f_taped f_at f_behind f_size f_kind f_number f_wrong f_wrongAt f_faultKind f_faultPlace f_reading f_toldWhy f_x f_standMany f_bestMany f_tail f_round1, (ad 2, .inl (dA 0, 2982, .inl b_all)), (ad 17, .inl (dA 0, 900, .inl b_reckoned)), (ad 18, .inl (dA 0, 6, .inl b_words))] s.heap.size = A at hD ⊢
  have hA : ∀ q : Nat, s.heap.size ≤ q → A q := fun q h => by rw [← hAe]; exact Or.inr h
  clear hAe hD0
  have hS : va_S A s.heap s.heap [] := va_S.rf
  have hl := lv_entry ([.ref (ad 0), .int p1]) (n := 4) (Nat.le_of_ble_eq_true rfl)
  rw [lg_entry_eq]
  generalize (lg_sl ([.ref (ad 0), .int p1]) ++ List.replicate (4 - (lg_sl ([.ref (ad 0), .int p1])).length) Slot.unset).toArray = ls at hl ⊢
  have hl : lv_has ls 4 [(0, .ref (ad 0)), (1, .int p1)] := hl
  refine lv_aload_n (pc := 0) hx hb dX11_habitOf_0 rfl (lv_at hl 0 rfl) ?_
  refine lv_iload_n (pc := 1) hx hb dX11_habitOf_1 rfl (lv_at hl 1 rfl) ?_
  refine lv_iconst (v := (1 : Int32)) (pc := 2) hx hb dX11_habitOf_2 (by decide) ?_
  refine lv_aload_n (pc := 3) hx hb dX11_habitOf_3 rfl (lv_at hl 0 rfl) ?_
  refine va_get (pc := 4) (D := (dC, dI)) (ci := 0) (v := .ref (ad 2)) (C := RX11) (T := TX11) (N := 42) hx hb ht zr_lay hown hK hP 0 rfl rfl 1 (by decide) (ht _ zr_6) (fun _ h9 => h9) rfl dX11_habitOf_4 ?_
  refine lv_bipush (v := (40 : Int32)) (pc := 7) hx hb dX11_habitOf_7 (by decide) ?_
  obtain ⟨v1, hv1, hf⟩ := zc_1 hf
  refine zw_iald (pc := 9) hx hb hK hP 1 0 rfl rfl hv1 dX11_habitOf_9 ?_
  obtain ⟨v2, a3, a4, hv2, hf⟩ := zc_3 hf
  refine zw_Vi (pc := 10) (wc := [zr_o ad f_thrown f_taped f_at f_behind f_size f_kind f_number f_wrong f_wrongAt f_faultKind f_faultPlace f_reading f_toldWhy f_x f_standMany f_bestMany f_tail f_round1, (ad 2, .inl (dA 0, 2982, .inl b_all)), (ad 17, .inl (dA 0, 900, .inl b_reckoned)), (ad 18, .inl (dA 0, 6, .inl b_words))]) (wr := []) (w1 := [zr_o ad f_thrown f_taped f_at f_behind f_size f_kind f_number f_wrong f_wrongAt f_faultKind f_faultPlace f_reading f_toldWhy f_x f_standMany f_bestMany f_tail f_round1, (ad 2, .inl (dA 0, 2982, .inl b_all)), (ad 17, .inl (dA 0, 900, .inl a3)), (ad 18, .inl (dA 0, 6, .inl a4))]) (As := [.int p1, .int (1 : Int32), .int v1]) (rest := []) ⟨hx, hb, hml, hown, ht⟩ (zt_X11_whyBy l dC dI dA ad _ n f_thrown f_taped f_at f_behind f_size f_kind f_number f_wrong f_wrongAt f_faultKind f_faultPlace f_reading f_toldWhy f_x f_standMany f_bestMany f_tail f_round1 b_all b_reckoned b_words p1 (1 : Int32) v1 v2 a3 a4 hv2) (cwV 3 ht (zr_V zr_264 zr_265 zr_266 zr_36 zr_248) rfl rfl rfl zk_X11_whyBy ⟨Nat.le_of_ble_eq_true rfl, Nat.le_of_ble_eq_true rfl⟩) rfl rfl hK hP hD hS hA [0, 1, 2, 3] [] (by decide) (by decide) (by decide) rfl rfl rfl hl.1 (Nat.le_of_ble_eq_true rfl) dX11_habitOf_10 ⟨Nat.zero_le _, Nat.zero_le _⟩ rfl (fun H locs hP hD hS => ?_)
  have hP : va_P (dC, dI) zz_cls [zr_o ad f_thrown f_taped f_at f_behind f_size f_kind f_number f_wrong f_wrongAt f_faultKind f_faultPlace f_reading f_toldWhy f_x f_standMany f_bestMany f_tail f_round1, (ad 2, .inl (dA 0, 2982, .inl b_all)), (ad 17, .inl (dA 0, 900, .inl a3)), (ad 18, .inl (dA 0, 6, .inl a4))] H := hP
  have hD : va_D A [zr_o ad f_thrown f_taped f_at f_behind f_size f_kind f_number f_wrong f_wrongAt f_faultKind f_faultPlace f_reading f_toldWhy f_x f_standMany f_bestMany f_tail f_round1, (ad 2, .inl (dA 0, 2982, .inl b_all)), (ad 17, .inl (dA 0, 900, .inl a3)), (ad 18, .inl (dA 0, 6, .inl a4))] := hD
  refine lv_if_ne (tgt := 18) (pc := 13) hx hb dX11_habitOf_13 rfl (fun hc => ?_) (fun hc => ?_)
  · have hf := za_f hf hc
    refine lv_iload_n (pc := 18) hx hb dX11_habitOf_18 rfl (lv_at hl 1 rfl) ?_
    obtain ⟨v5, hv5, hf⟩ := zc_1 hf
    refine zw_Si (pc := 19) (wc := []) (wr := [zr_o ad f_thrown f_taped f_at f_behind f_size f_kind f_number f_wrong f_wrongAt f_faultKind f_faultPlace f_reading f_toldWhy f_x f_standMany f_bestMany f_tail f_round1, (ad 2, .inl (dA 0, 2982, .inl b_all)), (ad 17, .inl (dA 0, 900, .inl a3)), (ad 18, .inl (dA 0, 6, .inl a4))]) (w1 := []) (As := [.int p1]) (rest := []) ⟨hx, hb, hml, hown, ht⟩ (zt_X11_rungIn l dC dI dA ad _ p1 v5 hv5) (cwS 1 ht (zr_S zr_217 zr_218 zr_36 zr_210) rfl rfl rfl zk_X11_rungIn ⟨Nat.le_of_ble_eq_true rfl, Nat.le_of_ble_eq_true rfl⟩) hK hP hD hS hA [] [0, 1, 2, 3] (by decide) (by decide) (by decide) rfl rfl rfl hl.1 (Nat.le_of_ble_eq_true rfl) dX11_habitOf_19 ⟨Nat.zero_le _, Nat.zero_le _⟩ rfl (fun H locs hP hD hS => ?_)
    have hP : va_P (dC, dI) zz_cls [zr_o ad f_thrown f_taped f_at f_behind f_size f_kind f_number f_wrong f_wrongAt f_faultKind f_faultPlace f_reading f_toldWhy f_x f_standMany f_bestMany f_tail f_round1, (ad 2, .inl (dA 0, 2982, .inl b_all)), (ad 17, .inl (dA 0, 900, .inl a3)), (ad 18, .inl (dA 0, 6, .inl a4))] H := hP
    have hD : va_D A [zr_o ad f_thrown f_taped f_at f_behind f_size f_kind f_number f_wrong f_wrongAt f_faultKind f_faultPlace f_reading f_toldWhy f_x f_standMany f_bestMany f_tail f_round1, (ad 2, .inl (dA 0, 2982, .inl b_all)), (ad 17, .inl (dA 0, 900, .inl a3)), (ad 18, .inl (dA 0, 6, .inl a4))] := hD
    refine lv_istore_n (lv' := [(2, .int v5), (0, .ref (ad 0)), (1, .int p1)]) (pc := 22) hx hb dX11_habitOf_22 rfl hl (by decide) rfl (fun ls hl => ?_)
    refine lv_iconst (v := (0 : Int32)) (pc := 23) hx hb dX11_habitOf_23 (by decide) ?_
    refine lv_istore_n (lv' := [(3, .int (0 : Int32)), (2, .int v5), (0, .ref (ad 0)), (1, .int p1)]) (pc := 24) hx hb dX11_habitOf_24 rfl hl (by decide) rfl (fun ls hl => ?_)
    obtain ⟨g14, v13, hj, hf⟩ := zc_2 hf
    refine zj_join (pcJ := 69) (stk := []) (X := fun H locs ls => g14 = 1 ∧ lv_has ls 4 [(3, .int v13)] ∧ va_P (dC, dI) zz_cls [zr_o ad f_thrown f_taped f_at f_behind f_size f_kind f_number f_wrong f_wrongAt f_faultKind f_faultPlace f_reading f_toldWhy f_x f_standMany f_bestMany f_tail f_round1, (ad 2, .inl (dA 0, 2982, .inl b_all)), (ad 17, .inl (dA 0, 900, .inl a3)), (ad 18, .inl (dA 0, 6, .inl a4))] H ∧ va_D A [zr_o ad f_thrown f_taped f_at f_behind f_size f_kind f_number f_wrong f_wrongAt f_faultKind f_faultPlace f_reading f_toldWhy f_x f_standMany f_bestMany f_tail f_round1, (ad 2, .inl (dA 0, 2982, .inl b_all)), (ad 17, .inl (dA 0, 900, .inl a3)), (ad 18, .inl (dA 0, 6, .inl a4))] ∧ va_S A s.heap H locs) (fun H locs ls hX => ?_) (fun E69 => ?_)
    · obtain ⟨htg, hl, hP, hD, hS⟩ := hX
      clear hj
      have hf := za_t hf htg
      refine lv_iconst (v := (3 : Int32)) (pc := 69) hx hb dX11_habitOf_69 (by decide) ?_
      refine lv_iload_n (pc := 70) hx hb dX11_habitOf_70 rfl (lv_at hl 0 rfl) ?_
      refine lv_iadd (pc := 71) hx hb dX11_habitOf_71 ?_
      obtain ⟨rfl, rfl, rfl⟩ := zi_3 hf
      exact W.iret (pc := 72) hx hb hr (fun t ht hW => ⟨⟨_, (), rfl, rfl, zz_Bi (by rw [ht]; exact hP) (va_K.moved hW.alike hK) (hD)⟩, hS.F ht⟩) hS.2.2 dX11_habitOf_72
    refine zj_join (pcJ := 79) (stk := []) (X := fun H locs ls => g14 = 2 ∧ lv_has ls 4 [] ∧ va_P (dC, dI) zz_cls [zr_o ad f_thrown f_taped f_at f_behind f_size f_kind f_number f_wrong f_wrongAt f_faultKind f_faultPlace f_reading f_toldWhy f_x f_standMany f_bestMany f_tail f_round1, (ad 2, .inl (dA 0, 2982, .inl b_all)), (ad 17, .inl (dA 0, 900, .inl a3)), (ad 18, .inl (dA 0, 6, .inl a4))] H ∧ va_D A [zr_o ad f_thrown f_taped f_at f_behind f_size f_kind f_number f_wrong f_wrongAt f_faultKind f_faultPlace f_reading f_toldWhy f_x f_standMany f_bestMany f_tail f_round1, (ad 2, .inl (dA 0, 2982, .inl b_all)), (ad 17, .inl (dA 0, 900, .inl a3)), (ad 18, .inl (dA 0, 6, .inl a4))] ∧ va_S A s.heap H locs) (fun H locs ls hX => ?_) (fun E79 => ?_)
    · obtain ⟨htg, hl, hP, hD, hS⟩ := hX
      clear hj
      have hf := za_f hf (by rw [htg]; decide)
      have hf := za_t hf htg
      refine lv_iconst (v := (0 : Int32)) (pc := 79) hx hb dX11_habitOf_79 (by decide) ?_
      obtain ⟨rfl, rfl, rfl⟩ := zi_3 hf
      exact W.iret (pc := 80) hx hb hr (fun t ht hW => ⟨⟨_, (), rfl, rfl, zz_Bi (by rw [ht]; exact hP) (va_K.moved hW.alike hK) (hD)⟩, hS.F ht⟩) hS.2.2 dX11_habitOf_80
    clear hf
    refine zw_loop (pcH := 25) (X := fun v H locs ls => lv_has ls 4 [(0, .ref (ad 0)), (1, .int p1), (2, .int v5), (3, .int v)] ∧ va_P (dC, dI) zz_cls [zr_o ad f_thrown f_taped f_at f_behind f_size f_kind f_number f_wrong f_wrongAt f_faultKind f_faultPlace f_reading f_toldWhy f_x f_standMany f_bestMany f_tail f_round1, (ad 2, .inl (dA 0, 2982, .inl b_all)), (ad 17, .inl (dA 0, 900, .inl a3)), (ad 18, .inl (dA 0, 6, .inl a4))] H ∧ va_D A [zr_o ad f_thrown f_taped f_at f_behind f_size f_kind f_number f_wrong f_wrongAt f_faultKind f_faultPlace f_reading f_toldWhy f_x f_standMany f_bestMany f_tail f_round1, (ad 2, .inl (dA 0, 2982, .inl b_all)), (ad 17, .inl (dA 0, 900, .inl a3)), (ad 18, .inl (dA 0, 6, .inl a4))] ∧ va_S A s.heap H locs) hj (fun v w hf ih ex H locs ls hX => ?_) _ _ _ ⟨lv_sub hl [2, 3, 1, 0] rfl, hP, hD, hS⟩
    clear hj
    generalize v = v6 at hf hX
    obtain ⟨hl, hP, hD, hS⟩ := hX
    have hl : lv_has ls 4 [(0, .ref (ad 0)), (1, .int p1), (2, .int v5), (3, .int v6)] := hl
    have hP : va_P (dC, dI) zz_cls [zr_o ad f_thrown f_taped f_at f_behind f_size f_kind f_number f_wrong f_wrongAt f_faultKind f_faultPlace f_reading f_toldWhy f_x f_standMany f_bestMany f_tail f_round1, (ad 2, .inl (dA 0, 2982, .inl b_all)), (ad 17, .inl (dA 0, 900, .inl a3)), (ad 18, .inl (dA 0, 6, .inl a4))] H := hP
    have hD : va_D A [zr_o ad f_thrown f_taped f_at f_behind f_size f_kind f_number f_wrong f_wrongAt f_faultKind f_faultPlace f_reading f_toldWhy f_x f_standMany f_bestMany f_tail f_round1, (ad 2, .inl (dA 0, 2982, .inl b_all)), (ad 17, .inl (dA 0, 900, .inl a3)), (ad 18, .inl (dA 0, 6, .inl a4))] := hD
    replace hf : zb_X11_habitOf_25 b_all v5 p1 v6 = some w := hf
    unfold zb_X11_habitOf_25 at hf
    refine lv_iload_n (pc := 25) hx hb dX11_habitOf_25 rfl (lv_at hl 3 rfl) ?_
    refine lv_aload_n (pc := 26) hx hb dX11_habitOf_26 rfl (lv_at hl 0 rfl) ?_
    refine va_get (pc := 27) (D := (dC, dI)) (ci := 0) (v := .ref (ad 2)) (C := RX11) (T := TX11) (N := 42) hx hb ht zr_lay hown hK hP 0 rfl rfl 1 (by decide) (ht _ zr_6) (fun _ h9 => h9) rfl dX11_habitOf_27 ?_
    refine lv_iconst (v := (2 : Int32)) (pc := 30) hx hb dX11_habitOf_30 (by decide) ?_
    obtain ⟨v7, hv7, hf⟩ := zc_1 hf
    refine zw_iald (pc := 31) hx hb hK hP 1 0 rfl rfl hv7 dX11_habitOf_31 ?_
    refine lv_icmp_ge (tgt := 79) (pc := 32) hx hb dX11_habitOf_32 rfl (fun hc => ?_) (fun hc => ?_)
    · have hf := za_t hf hc
      obtain rfl := Option.some.inj hf
      obtain ⟨rfl, rfl⟩ := zp_2 (ex (show ¬ (2 : Nat) = 0 by decide))
      exact E79 _ _ _ ⟨rfl, lv_sub hl [] rfl, hP, hD, hS⟩
    · have hf := za_f hf hc
      refine lv_iload_n (pc := 35) hx hb dX11_habitOf_35 rfl (lv_at hl 2 rfl) ?_
      refine lv_aload_n (pc := 36) hx hb dX11_habitOf_36 rfl (lv_at hl 0 rfl) ?_
      refine va_get (pc := 37) (D := (dC, dI)) (ci := 0) (v := .ref (ad 2)) (C := RX11) (T := TX11) (N := 42) hx hb ht zr_lay hown hK hP 0 rfl rfl 1 (by decide) (ht _ zr_6) (fun _ h9 => h9) rfl dX11_habitOf_37 ?_
      refine lv_iconst (v := (1 : Int32)) (pc := 40) hx hb dX11_habitOf_40 (by decide) ?_
      obtain ⟨v8, hv8, hf⟩ := zc_1 hf
      refine zw_iald (pc := 41) hx hb hK hP 1 0 rfl rfl hv8 dX11_habitOf_41 ?_
      refine lv_icmp_ge (tgt := 79) (pc := 42) hx hb dX11_habitOf_42 rfl (fun hc => ?_) (fun hc => ?_)
      · have hf := za_t hf hc
        obtain rfl := Option.some.inj hf
        obtain ⟨rfl, rfl⟩ := zp_2 (ex (show ¬ (2 : Nat) = 0 by decide))
        exact E79 _ _ _ ⟨rfl, lv_sub hl [] rfl, hP, hD, hS⟩
      · have hf := za_f hf hc
        refine lv_iload_n (pc := 45) hx hb dX11_habitOf_45 rfl (lv_at hl 1 rfl) ?_
        obtain ⟨v9, hv9, hf⟩ := zc_1 hf
        refine zw_Si (pc := 46) (wc := []) (wr := [zr_o ad f_thrown f_taped f_at f_behind f_size f_kind f_number f_wrong f_wrongAt f_faultKind f_faultPlace f_reading f_toldWhy f_x f_standMany f_bestMany f_tail f_round1, (ad 2, .inl (dA 0, 2982, .inl b_all)), (ad 17, .inl (dA 0, 900, .inl a3)), (ad 18, .inl (dA 0, 6, .inl a4))]) (w1 := []) (As := [.int p1]) (rest := []) ⟨hx, hb, hml, hown, ht⟩ (zt_X11_hasIn l dC dI dA ad _ p1 v9 hv9) (cwS 1 ht (zr_S zr_219 zr_220 zr_36 zr_211) rfl rfl rfl zk_X11_hasIn ⟨Nat.le_of_ble_eq_true rfl, Nat.le_of_ble_eq_true rfl⟩) hK hP hD hS hA [] [0, 1, 2, 3] (by decide) (by decide) (by decide) rfl rfl rfl hl.1 (Nat.le_of_ble_eq_true rfl) dX11_habitOf_46 ⟨Nat.zero_le _, Nat.zero_le _⟩ rfl (fun H locs hP hD hS => ?_)
        have hP : va_P (dC, dI) zz_cls [zr_o ad f_thrown f_taped f_at f_behind f_size f_kind f_number f_wrong f_wrongAt f_faultKind f_faultPlace f_reading f_toldWhy f_x f_standMany f_bestMany f_tail f_round1, (ad 2, .inl (dA 0, 2982, .inl b_all)), (ad 17, .inl (dA 0, 900, .inl a3)), (ad 18, .inl (dA 0, 6, .inl a4))] H := hP
        have hD : va_D A [zr_o ad f_thrown f_taped f_at f_behind f_size f_kind f_number f_wrong f_wrongAt f_faultKind f_faultPlace f_reading f_toldWhy f_x f_standMany f_bestMany f_tail f_round1, (ad 2, .inl (dA 0, 2982, .inl b_all)), (ad 17, .inl (dA 0, 900, .inl a3)), (ad 18, .inl (dA 0, 6, .inl a4))] := hD
        refine lv_aload_n (pc := 49) hx hb dX11_habitOf_49 rfl (lv_at hl 0 rfl) ?_
        refine va_get (pc := 50) (D := (dC, dI)) (ci := 0) (v := .ref (ad 2)) (C := RX11) (T := TX11) (N := 42) hx hb ht zr_lay hown hK hP 0 rfl rfl 1 (by decide) (ht _ zr_6) (fun _ h9 => h9) rfl dX11_habitOf_50 ?_
        refine lv_bipush (v := (10 : Int32)) (pc := 53) hx hb dX11_habitOf_53 (by decide) ?_
        refine lv_iload_n (pc := 55) hx hb dX11_habitOf_55 rfl (lv_at hl 2 rfl) ?_
        refine lv_iadd (pc := 56) hx hb dX11_habitOf_56 ?_
        refine lv_iconst (v := (1 : Int32)) (pc := 57) hx hb dX11_habitOf_57 (by decide) ?_
        refine lv_iadd (pc := 58) hx hb dX11_habitOf_58 ?_
        obtain ⟨v10, hv10, hf⟩ := zc_1 hf
        refine zw_iald (pc := 59) hx hb hK hP 1 0 rfl rfl hv10 dX11_habitOf_59 ?_
        refine lv_iand (pc := 60) hx hb dX11_habitOf_60 ?_
        refine lv_i2l (pc := 61) hx hb dX11_habitOf_61 rfl ?_
        refine lv_iload_n (pc := 62) hx hb dX11_habitOf_62 rfl (lv_at hl 3 rfl) ?_
        obtain ⟨v11, hv11, hf⟩ := zc_1 hf
        refine zw_Si (pc := 63) (wc := []) (wr := [zr_o ad f_thrown f_taped f_at f_behind f_size f_kind f_number f_wrong f_wrongAt f_faultKind f_faultPlace f_reading f_toldWhy f_x f_standMany f_bestMany f_tail f_round1, (ad 2, .inl (dA 0, 2982, .inl b_all)), (ad 17, .inl (dA 0, 900, .inl a3)), (ad 18, .inl (dA 0, 6, .inl a4))]) (w1 := []) (As := [.long (Int32.toInt64 (v9 &&& v10)), .int v6]) (rest := []) ⟨hx, hb, hml, hown, ht⟩ (zt_X11_isIn l dC dI dA ad _ (Int32.toInt64 (v9 &&& v10)) v6 v11 hv11) (cwS 2 ht (zr_S zr_246 zr_247 zr_36 zr_127) rfl rfl rfl zk_X11_isIn ⟨Nat.le_of_ble_eq_true rfl, Nat.le_of_ble_eq_true rfl⟩) hK hP hD hS hA [] [0, 1, 2, 3] (by decide) (by decide) (by decide) rfl rfl rfl hl.1 (Nat.le_of_ble_eq_true rfl) dX11_habitOf_63 ⟨Nat.zero_le _, Nat.zero_le _⟩ rfl (fun H locs hP hD hS => ?_)
        have hP : va_P (dC, dI) zz_cls [zr_o ad f_thrown f_taped f_at f_behind f_size f_kind f_number f_wrong f_wrongAt f_faultKind f_faultPlace f_reading f_toldWhy f_x f_standMany f_bestMany f_tail f_round1, (ad 2, .inl (dA 0, 2982, .inl b_all)), (ad 17, .inl (dA 0, 900, .inl a3)), (ad 18, .inl (dA 0, 6, .inl a4))] H := hP
        have hD : va_D A [zr_o ad f_thrown f_taped f_at f_behind f_size f_kind f_number f_wrong f_wrongAt f_faultKind f_faultPlace f_reading f_toldWhy f_x f_standMany f_bestMany f_tail f_round1, (ad 2, .inl (dA 0, 2982, .inl b_all)), (ad 17, .inl (dA 0, 900, .inl a3)), (ad 18, .inl (dA 0, 6, .inl a4))] := hD
        refine lv_if_eq (tgt := 73) (pc := 66) hx hb dX11_habitOf_66 rfl (fun hc => ?_) (fun hc => ?_)
        · have hf := za_t hf hc
          obtain ⟨v12, hv12, hf⟩ := zc_1 hf
          refine lv_iinc (v := v12) (lv' := [(3, .int v12), (0, .ref (ad 0)), (1, .int p1), (2, .int v5)]) (k := 3) (pc := 73) hx hb dX11_habitOf_73 hl rfl (Option.some.inj hv12) (by decide) rfl (fun ls hl => ?_)
          refine lv_goto (tgt := 25) (pc := 76) hx hb dX11_habitOf_76 rfl ?_
          obtain rfl := Option.some.inj hf
          exact ih rfl _ _ _ ⟨lv_sub hl [1, 2, 3, 0] rfl, hP, hD, hS⟩
        · have hf := za_f hf hc
          obtain rfl := Option.some.inj hf
          obtain ⟨rfl, rfl⟩ := zp_2 (ex (show ¬ (1 : Nat) = 0 by decide))
          exact E69 _ _ _ ⟨rfl, lv_sub hl [3] rfl, hP, hD, hS⟩
  · have hf := za_t hf hc
    refine lv_iconst (v := (1 : Int32)) (pc := 16) hx hb dX11_habitOf_16 (by decide) ?_
    obtain ⟨rfl, rfl, rfl⟩ := zi_3 hf
    exact W.iret (pc := 17) hx hb hr (fun t ht hW => ⟨⟨_, (), rfl, rfl, zz_Bi (by rw [ht]; exact hP) (va_K.moved hW.alike hK) (hD)⟩, hS.F ht⟩) hS.2.2 dX11_habitOf_17

def zb_X11_habit_26 (p1 : Int32) (n : Nat) (v3 : Int32) (a4 : (Nat → Int32)) (a5 : (Nat → Int32)) (a6 : (Nat → Int32)) : Option (Nat × Int32 × (Nat → Int32) × (Nat → Int32) × (Nat → Int32)) :=
  if p1 ≤ v3 then
    some (1, v3, a4, a5, a6)
  else
    zd_1 (zf_X11_standNow a4) (fun v7 =>
    zd_3 (zf_X11_habitOf n a4 a5 a6 v7) (fun v8 a9 a10 =>
    zd_3 (zf_X11_acts n a4 a9 a10 v8) (fun a11 a12 a13 =>
    zd_1 (some (v3 + (1 : Int32))) (fun v14 =>
    some (0, v14, a11, a12, a13)))))
def zf_X11_habit (n : Nat) (f_thrown : Int32) (b_all : (Nat → Int32)) (b_reckoned : (Nat → Int32)) (b_words : (Nat → Int32)) (b_was : (Nat → Int32)) (p1 : Int32) : Option (Int32 × Int32 × (Nat → Int32) × (Nat → Int32) × (Nat → Int32) × (Nat → Int32)) :=
  zd_1 (zf_X11_within (Int32.toInt64 p1) (1 : Int64) (99 : Int64)) (fun v1 =>
  if v1 = 0 then
    some ((-3 : Int32), (0 : Int32), b_all, b_reckoned, b_words, b_was)
  else
    zd_1 (zf_X11_keeps n b_all b_was) (fun a2 =>
    zd_5 (za_it (fun v => zb_X11_habit_26 p1 n v.1 v.2.1 v.2.2.1 v.2.2.2) n ((0 : Int32), b_all, b_reckoned, b_words)) (fun g19 v15 a16 a17 a18 =>
    zd_1 (zf_X11_notes n a16 a2) (fun a20 =>
    zd_1 (za_ld a20 2982 (37 : Int32)) (fun v21 =>
    some (v21, (0 : Int32), a20, a17, a18, a2))))))
theorem zk_X11_habit : yX11_habit.cls = RX11 ∧ yX11_habit.cls ≠ "java/lang/invoke/MethodHandle" ∧ yX11_habit.cls ≠ "java/lang/invoke/VarHandle" ∧ (parseMethodDescriptor yX11_habit.desc).map (fun d => d.parameters.length) = some 1 := by decide +kernel
set_option maxHeartbeats 4000000 in
set_option maxRecDepth 100000 in
theorem zt_X11_habit (l : Launch) (dC : Nat → ClassId) (dI : Nat → Nat → Nat) (dA : Nat → ClassId) (ad : Nat → Nat) (sz : Nat) (n : Nat) (f_thrown f_taped f_at f_behind f_size f_kind f_number f_wrong f_wrongAt f_faultKind f_faultPlace f_reading f_toldWhy f_x f_standMany f_bestMany f_tail f_round1 : Int32) (b_all : (Nat → Int32)) (b_reckoned : (Nat → Int32)) (b_words : (Nat → Int32)) (b_was : (Nat → Int32)) (p1 : Int32) (r0 : Int32) (o1 : Int32) (o2 : (Nat → Int32)) (o3 : (Nat → Int32)) (o4 : (Nat → Int32)) (o5 : (Nat → Int32)) (hf : zf_X11_habit n f_thrown b_all b_reckoned b_words b_was p1 = some (r0, o1, o2, o3, o4, o5)) : Met l yX11_habit (.code yX11_habit cX11_habit 3 (some .int) :: zr_T) ({ frames := 5, cells := 0, slots := 0, locals := 120 }) (va_Pc [.ref (ad 0), .int p1] (zz_M dC dI dA [zr_o ad f_thrown f_taped f_at f_behind f_size f_kind f_number f_wrong f_wrongAt f_faultKind f_faultPlace f_reading f_toldWhy f_x f_standMany f_bestMany f_tail f_round1, (ad 2, .inl (dA 0, 2982, .inl b_all)), (ad 17, .inl (dA 0, 900, .inl b_reckoned)), (ad 18, .inl (dA 0, 6, .inl b_words)), (ad 19, .inl (dA 0, 5, .inl b_was))] sz)) (va_Qi (fun (r : Int32) (_ : Unit) => r = r0) (fun _ t => zz_B dC dI dA (va_A [zr_o ad f_thrown f_taped f_at f_behind f_size f_kind f_number f_wrong f_wrongAt f_faultKind f_faultPlace f_reading f_toldWhy f_x f_standMany f_bestMany f_tail f_round1, (ad 2, .inl (dA 0, 2982, .inl b_all)), (ad 17, .inl (dA 0, 900, .inl b_reckoned)), (ad 18, .inl (dA 0, 6, .inl b_words)), (ad 19, .inl (dA 0, 5, .inl b_was))] sz) [zr_o ad o1 f_taped f_at f_behind f_size f_kind f_number f_wrong f_wrongAt f_faultKind f_faultPlace f_reading f_toldWhy f_x f_standMany f_bestMany f_tail f_round1, (ad 2, .inl (dA 0, 2982, .inl o2)), (ad 17, .inl (dA 0, 900, .inl o3)), (ad 18, .inl (dA 0, 6, .inl o4)), (ad 19, .inl (dA 0, 5, .inl o5))] t) (va_A [zr_o ad f_thrown f_taped f_at f_behind f_size f_kind f_number f_wrong f_wrongAt f_faultKind f_faultPlace f_reading f_toldWhy f_x f_standMany f_bestMany f_tail f_round1, (ad 2, .inl (dA 0, 2982, .inl b_all)), (ad 17, .inl (dA 0, 900, .inl b_reckoned)), (ad 18, .inl (dA 0, 6, .inl b_words)), (ad 19, .inl (dA 0, 5, .inl b_was))] sz)) 0 0 (va_A [zr_o ad f_thrown f_taped f_at f_behind f_size f_kind f_number f_wrong f_wrongAt f_faultKind f_faultPlace f_reading f_toldWhy f_x f_standMany f_bestMany f_tail f_round1, (ad 2, .inl (dA 0, 2982, .inl b_all)), (ad 17, .inl (dA 0, 900, .inl b_reckoned)), (ad 18, .inl (dA 0, 6, .inl b_words)), (ad 19, .inl (dA 0, 5, .inl b_was))] sz) := by
  unfold zf_X11_habit at hf
  refine Met.ofW (cc := cX11_habit) (maxL := 3) (ret := (some .int)) (by decide) rfl ?_
  intro p e s m args below meth c s₁ B hml hv
  obtain ⟨rfl, hsz, hP, hK, hD0⟩ := hv
  have hx := B.exec
  have hb := B.bytes
  have hr := B.returns
  have ht : ∀ w ∈ zr_T, w.before ([.ref (ad 0), .int p1] : List Value).toArray s = true := fun w hw => atoms_spec (ws := .code yX11_habit cX11_habit 3 (some .int) :: zr_T) B.pre w (List.mem_cons_of_mem _ hw)
  have hown : s.vm.findClass RX11 = some m.cls := findClass_of_methodNamed B.named
  have hlocks := B.notSynchronized
  subst hsz
  have hD := hD0.self (sz := s.heap.size)
  generalize hAe : va_A [zr_o ad f_thrown f_taped f_at f_behind f_size f_kind f_number f_wrong f_wrongAt f_faultKind f_faultPlace f_reading f_toldWhy f_x f_standMany f_bestMany f_tail f_round1, (ad 2, .inl (dA 0, 2982, .inl b_all)), (ad 17, .inl (dA 0, 900, .inl b_reckoned)), (ad 18, .inl (dA 0, 6, .inl b_words)), (ad 19, .inl (dA 0, 5, .inl b_was))] s.heap.size = A at hD ⊢
  have hA : ∀ q : Nat, s.heap.size ≤ q → A q := fun q h => by rw [← hAe]; exact Or.inr h
  clear hAe hD0
  have hS : va_S A s.heap s.heap [] := va_S.rf
  have hl := lv_entry ([.ref (ad 0), .int p1]) (n := 3) (Nat.le_of_ble_eq_true rfl)
  rw [lg_entry_eq]
  generalize (lg_sl ([.ref (ad 0), .int p1]) ++ List.replicate (3 - (lg_sl ([.ref (ad 0), .int p1])).length) Slot.unset).toArray = ls at hl ⊢
  have hl : lv_has ls 3 [(0, .ref (ad 0)), (1, .int p1)] := hl
  refine lv_aload_n (pc := 0) hx hb dX11_habit_0 rfl (lv_at hl 0 rfl) ?_
  refine lv_iconst (v := (0 : Int32)) (pc := 1) hx hb dX11_habit_1 (by decide) ?_
  refine va_put (pc := 2) (D := (dC, dI)) (ci := 0) (v := .int (0 : Int32)) (ty := .int) (C := RX11) (T := TX11) (N := 42) hx hb ht zr_lay tyX11 tyX11_ok nmX11 hown hK hP hD hS 0 rfl rfl 0 (by decide) (ht _ zr_39) (fun _ h9 => h9) rfl (by decide +kernel) rfl rfl (Nat.le_of_ble_eq_true rfl) dX11_habit_2 (fun H locs hP hD hS => ?_)
  have hP : va_P (dC, dI) zz_cls [zr_o ad (0 : Int32) f_taped f_at f_behind f_size f_kind f_number f_wrong f_wrongAt f_faultKind f_faultPlace f_reading f_toldWhy f_x f_standMany f_bestMany f_tail f_round1, (ad 2, .inl (dA 0, 2982, .inl b_all)), (ad 17, .inl (dA 0, 900, .inl b_reckoned)), (ad 18, .inl (dA 0, 6, .inl b_words)), (ad 19, .inl (dA 0, 5, .inl b_was))] H := hP
  have hD : va_D A [zr_o ad (0 : Int32) f_taped f_at f_behind f_size f_kind f_number f_wrong f_wrongAt f_faultKind f_faultPlace f_reading f_toldWhy f_x f_standMany f_bestMany f_tail f_round1, (ad 2, .inl (dA 0, 2982, .inl b_all)), (ad 17, .inl (dA 0, 900, .inl b_reckoned)), (ad 18, .inl (dA 0, 6, .inl b_words)), (ad 19, .inl (dA 0, 5, .inl b_was))] := hD
  refine lv_iload_n (pc := 5) hx hb dX11_habit_5 rfl (lv_at hl 1 rfl) ?_
  refine lv_i2l (pc := 6) hx hb dX11_habit_6 rfl ?_
  refine lv_lconst (v := (1 : Int64)) (pc := 7) hx hb dX11_habit_7 (by decide) ?_
  refine lv_ldc2 (v := (99 : Int64)) (pc := 8) hx hb hown (ht _ zr_296) dX11_habit_8 ?_
  obtain ⟨v1, hv1, hf⟩ := zc_1 hf
  refine zw_Si (pc := 11) (wc := []) (wr := [zr_o ad (0 : Int32) f_taped f_at f_behind f_size f_kind f_number f_wrong f_wrongAt f_faultKind f_faultPlace f_reading f_toldWhy f_x f_standMany f_bestMany f_tail f_round1, (ad 2, .inl (dA 0, 2982, .inl b_all)), (ad 17, .inl (dA 0, 900, .inl b_reckoned)), (ad 18, .inl (dA 0, 6, .inl b_words)), (ad 19, .inl (dA 0, 5, .inl b_was))]) (w1 := []) (As := [.long (Int32.toInt64 p1), .long (1 : Int64), .long (99 : Int64)]) (rest := []) ⟨hx, hb, hml, hown, ht⟩ (zt_X11_within l dC dI dA ad _ (Int32.toInt64 p1) (1 : Int64) (99 : Int64) v1 hv1) (cwS 3 ht (zr_S zr_124 zr_125 zr_36 zr_0) rfl rfl rfl zk_X11_within ⟨Nat.le_of_ble_eq_true rfl, Nat.le_of_ble_eq_true rfl⟩) hK hP hD hS hA [] [0, 1, 2, 3, 4] (by decide) (by decide) (by decide) rfl rfl rfl hl.1 (Nat.le_of_ble_eq_true rfl) dX11_habit_11 ⟨Nat.zero_le _, Nat.zero_le _⟩ rfl (fun H locs hP hD hS => ?_)
  have hP : va_P (dC, dI) zz_cls [zr_o ad (0 : Int32) f_taped f_at f_behind f_size f_kind f_number f_wrong f_wrongAt f_faultKind f_faultPlace f_reading f_toldWhy f_x f_standMany f_bestMany f_tail f_round1, (ad 2, .inl (dA 0, 2982, .inl b_all)), (ad 17, .inl (dA 0, 900, .inl b_reckoned)), (ad 18, .inl (dA 0, 6, .inl b_words)), (ad 19, .inl (dA 0, 5, .inl b_was))] H := hP
  have hD : va_D A [zr_o ad (0 : Int32) f_taped f_at f_behind f_size f_kind f_number f_wrong f_wrongAt f_faultKind f_faultPlace f_reading f_toldWhy f_x f_standMany f_bestMany f_tail f_round1, (ad 2, .inl (dA 0, 2982, .inl b_all)), (ad 17, .inl (dA 0, 900, .inl b_reckoned)), (ad 18, .inl (dA 0, 6, .inl b_words)), (ad 19, .inl (dA 0, 5, .inl b_was))] := hD
  refine lv_if_ne (tgt := 20) (pc := 14) hx hb dX11_habit_14 rfl (fun hc => ?_) (fun hc => ?_)
  · have hf := za_f hf hc
    refine lv_aload_n (pc := 20) hx hb dX11_habit_20 rfl (lv_at hl 0 rfl) ?_
    obtain ⟨a2, ha2, hf⟩ := zc_1 hf
    refine zw_Vv (pc := 21) (wc := [zr_o ad (0 : Int32) f_taped f_at f_behind f_size f_kind f_number f_wrong f_wrongAt f_faultKind f_faultPlace f_reading f_toldWhy f_x f_standMany f_bestMany f_tail f_round1, (ad 2, .inl (dA 0, 2982, .inl b_all)), (ad 19, .inl (dA 0, 5, .inl b_was))]) (wr := [(ad 17, .inl (dA 0, 900, .inl b_reckoned)), (ad 18, .inl (dA 0, 6, .inl b_words))]) (w1 := [zr_o ad (0 : Int32) f_taped f_at f_behind f_size f_kind f_number f_wrong f_wrongAt f_faultKind f_faultPlace f_reading f_toldWhy f_x f_standMany f_bestMany f_tail f_round1, (ad 2, .inl (dA 0, 2982, .inl b_all)), (ad 19, .inl (dA 0, 5, .inl a2))]) (As := []) (rest := []) ⟨hx, hb, hml, hown, ht⟩ (zt_X11_keeps l dC dI dA ad _ n (0 : Int32) f_taped f_at f_behind f_size f_kind f_number f_wrong f_wrongAt f_faultKind f_faultPlace f_reading f_toldWhy f_x f_standMany f_bestMany f_tail f_round1 b_all b_was a2 ha2) (cwV 0 ht (zr_V zr_283 zr_284 zr_285 zr_36 zr_276) rfl rfl rfl zk_X11_keeps ⟨Nat.le_of_ble_eq_true rfl, Nat.le_of_ble_eq_true rfl⟩) rfl rfl hK hP hD hS hA [0, 1, 4] [2, 3] (by decide) (by decide) (by decide) rfl rfl rfl hl.1 (Nat.le_of_ble_eq_true rfl) dX11_habit_21 ⟨Nat.zero_le _, Nat.zero_le _⟩ rfl (fun H locs hP hD hS => ?_)
    have hP : va_P (dC, dI) zz_cls [(ad 17, .inl (dA 0, 900, .inl b_reckoned)), (ad 18, .inl (dA 0, 6, .inl b_words)), zr_o ad (0 : Int32) f_taped f_at f_behind f_size f_kind f_number f_wrong f_wrongAt f_faultKind f_faultPlace f_reading f_toldWhy f_x f_standMany f_bestMany f_tail f_round1, (ad 2, .inl (dA 0, 2982, .inl b_all)), (ad 19, .inl (dA 0, 5, .inl a2))] H := hP
    have hD : va_D A [(ad 17, .inl (dA 0, 900, .inl b_reckoned)), (ad 18, .inl (dA 0, 6, .inl b_words)), zr_o ad (0 : Int32) f_taped f_at f_behind f_size f_kind f_number f_wrong f_wrongAt f_faultKind f_faultPlace f_reading f_toldWhy f_x f_standMany f_bestMany f_tail f_round1, (ad 2, .inl (dA 0, 2982, .inl b_all)), (ad 19, .inl (dA 0, 5, .inl a2))] := hD
    refine lv_iconst (v := (0 : Int32)) (pc := 24) hx hb dX11_habit_24 (by decide) ?_
    refine lv_istore_n (lv' := [(2, .int (0 : Int32)), (0, .ref (ad 0)), (1, .int p1)]) (pc := 25) hx hb dX11_habit_25 rfl hl (by decide) rfl (fun ls hl => ?_)
    obtain ⟨g19, v15, a16, a17, a18, hj, hf⟩ := zc_5 hf
    refine zj_join (pcJ := 49) (stk := []) (X := fun H locs ls => lv_has ls 3 [(0, .ref (ad 0))] ∧ va_P (dC, dI) zz_cls [zr_o ad (0 : Int32) f_taped f_at f_behind f_size f_kind f_number f_wrong f_wrongAt f_faultKind f_faultPlace f_reading f_toldWhy f_x f_standMany f_bestMany f_tail f_round1, (ad 2, .inl (dA 0, 2982, .inl a16)), (ad 17, .inl (dA 0, 900, .inl a17)), (ad 18, .inl (dA 0, 6, .inl a18)), (ad 19, .inl (dA 0, 5, .inl a2))] H ∧ va_D A [zr_o ad (0 : Int32) f_taped f_at f_behind f_size f_kind f_number f_wrong f_wrongAt f_faultKind f_faultPlace f_reading f_toldWhy f_x f_standMany f_bestMany f_tail f_round1, (ad 2, .inl (dA 0, 2982, .inl a16)), (ad 17, .inl (dA 0, 900, .inl a17)), (ad 18, .inl (dA 0, 6, .inl a18)), (ad 19, .inl (dA 0, 5, .inl a2))] ∧ va_S A s.heap H locs) (fun H locs ls hX => ?_) (fun E49 => ?_)
    · obtain ⟨hl, hP, hD, hS⟩ := hX
      clear hj
      refine lv_aload_n (pc := 49) hx hb dX11_habit_49 rfl (lv_at hl 0 rfl) ?_
      obtain ⟨a20, ha20, hf⟩ := zc_1 hf
      refine zw_Vv (pc := 50) (wc := [zr_o ad (0 : Int32) f_taped f_at f_behind f_size f_kind f_number f_wrong f_wrongAt f_faultKind f_faultPlace f_reading f_toldWhy f_x f_standMany f_bestMany f_tail f_round1, (ad 2, .inl (dA 0, 2982, .inl a16)), (ad 19, .inl (dA 0, 5, .inl a2))]) (wr := [(ad 17, .inl (dA 0, 900, .inl a17)), (ad 18, .inl (dA 0, 6, .inl a18))]) (w1 := [zr_o ad (0 : Int32) f_taped f_at f_behind f_size f_kind f_number f_wrong f_wrongAt f_faultKind f_faultPlace f_reading f_toldWhy f_x f_standMany f_bestMany f_tail f_round1, (ad 2, .inl (dA 0, 2982, .inl a20)), (ad 19, .inl (dA 0, 5, .inl a2))]) (As := []) (rest := []) ⟨hx, hb, hml, hown, ht⟩ (zt_X11_notes l dC dI dA ad _ n (0 : Int32) f_taped f_at f_behind f_size f_kind f_number f_wrong f_wrongAt f_faultKind f_faultPlace f_reading f_toldWhy f_x f_standMany f_bestMany f_tail f_round1 a16 a2 a20 ha20) (cwV 0 ht (zr_V zr_289 zr_290 zr_291 zr_36 zr_278) rfl rfl rfl zk_X11_notes ⟨Nat.le_of_ble_eq_true rfl, Nat.le_of_ble_eq_true rfl⟩) rfl rfl hK hP hD hS hA [0, 1, 4] [2, 3] (by decide) (by decide) (by decide) rfl rfl rfl hl.1 (Nat.le_of_ble_eq_true rfl) dX11_habit_50 ⟨Nat.zero_le _, Nat.zero_le _⟩ rfl (fun H locs hP hD hS => ?_)
      have hP : va_P (dC, dI) zz_cls [(ad 17, .inl (dA 0, 900, .inl a17)), (ad 18, .inl (dA 0, 6, .inl a18)), zr_o ad (0 : Int32) f_taped f_at f_behind f_size f_kind f_number f_wrong f_wrongAt f_faultKind f_faultPlace f_reading f_toldWhy f_x f_standMany f_bestMany f_tail f_round1, (ad 2, .inl (dA 0, 2982, .inl a20)), (ad 19, .inl (dA 0, 5, .inl a2))] H := hP
      have hD : va_D A [(ad 17, .inl (dA 0, 900, .inl a17)), (ad 18, .inl (dA 0, 6, .inl a18)), zr_o ad (0 : Int32) f_taped f_at f_behind f_size f_kind f_number f_wrong f_wrongAt f_faultKind f_faultPlace f_reading f_toldWhy f_x f_standMany f_bestMany f_tail f_round1, (ad 2, .inl (dA 0, 2982, .inl a20)), (ad 19, .inl (dA 0, 5, .inl a2))] := hD
      refine lv_aload_n (pc := 53) hx hb dX11_habit_53 rfl (lv_at hl 0 rfl) ?_
      refine va_get (pc := 54) (D := (dC, dI)) (ci := 0) (v := .ref (ad 2)) (C := RX11) (T := TX11) (N := 42) hx hb ht zr_lay hown hK hP 2 rfl rfl 1 (by decide) (ht _ zr_6) (fun _ h9 => h9) rfl dX11_habit_54 ?_
      refine lv_bipush (v := (37 : Int32)) (pc := 57) hx hb dX11_habit_57 (by decide) ?_
      obtain ⟨v21, hv21, hf⟩ := zc_1 hf
      refine zw_iald (pc := 59) hx hb hK hP 3 0 rfl rfl hv21 dX11_habit_59 ?_
      obtain ⟨rfl, rfl, rfl, rfl, rfl, rfl⟩ := zi_6 hf
      exact W.iret (pc := 60) hx hb hr (fun t ht hW => ⟨⟨_, (), rfl, rfl, zz_Bi (by rw [ht]; exact hP.sub [2, 3, 0, 1, 4] rfl) (va_K.moved hW.alike hK) (hD.sub [2, 3, 0, 1, 4] (by decide) rfl)⟩, hS.F ht⟩) hS.2.2 dX11_habit_60
    clear hf
    refine zw_loop (pcH := 26) (X := fun v H locs ls => lv_has ls 3 [(0, .ref (ad 0)), (1, .int p1), (2, .int v.1)] ∧ va_P (dC, dI) zz_cls [zr_o ad (0 : Int32) f_taped f_at f_behind f_size f_kind f_number f_wrong f_wrongAt f_faultKind f_faultPlace f_reading f_toldWhy f_x f_standMany f_bestMany f_tail f_round1, (ad 2, .inl (dA 0, 2982, .inl v.2.1)), (ad 17, .inl (dA 0, 900, .inl v.2.2.1)), (ad 18, .inl (dA 0, 6, .inl v.2.2.2)), (ad 19, .inl (dA 0, 5, .inl a2))] H ∧ va_D A [zr_o ad (0 : Int32) f_taped f_at f_behind f_size f_kind f_number f_wrong f_wrongAt f_faultKind f_faultPlace f_reading f_toldWhy f_x f_standMany f_bestMany f_tail f_round1, (ad 2, .inl (dA 0, 2982, .inl v.2.1)), (ad 17, .inl (dA 0, 900, .inl v.2.2.1)), (ad 18, .inl (dA 0, 6, .inl v.2.2.2)), (ad 19, .inl (dA 0, 5, .inl a2))] ∧ va_S A s.heap H locs) hj (fun v w hf ih ex H locs ls hX => ?_) _ _ _ ⟨lv_sub hl [1, 2, 0] rfl, hP.sub [2, 3, 0, 1, 4] rfl, hD.sub [2, 3, 0, 1, 4] (by decide) rfl, hS⟩
    clear hj
    obtain ⟨v3, a4, a5, a6⟩ := v
    obtain ⟨hl, hP, hD, hS⟩ := hX
    have hl : lv_has ls 3 [(0, .ref (ad 0)), (1, .int p1), (2, .int v3)] := hl
    have hP : va_P (dC, dI) zz_cls [zr_o ad (0 : Int32) f_taped f_at f_behind f_size f_kind f_number f_wrong f_wrongAt f_faultKind f_faultPlace f_reading f_toldWhy f_x f_standMany f_bestMany f_tail f_round1, (ad 2, .inl (dA 0, 2982, .inl a4)), (ad 17, .inl (dA 0, 900, .inl a5)), (ad 18, .inl (dA 0, 6, .inl a6)), (ad 19, .inl (dA 0, 5, .inl a2))] H := hP
    have hD : va_D A [zr_o ad (0 : Int32) f_taped f_at f_behind f_size f_kind f_number f_wrong f_wrongAt f_faultKind f_faultPlace f_reading f_toldWhy f_x f_standMany f_bestMany f_tail f_round1, (ad 2, .inl (dA 0, 2982, .inl a4)), (ad 17, .inl (dA 0, 900, .inl a5)), (ad 18, .inl (dA 0, 6, .inl a6)), (ad 19, .inl (dA 0, 5, .inl a2))] := hD
    replace hf : zb_X11_habit_26 p1 n v3 a4 a5 a6 = some w := hf
    unfold zb_X11_habit_26 at hf
    refine lv_iload_n (pc := 26) hx hb dX11_habit_26 rfl (lv_at hl 2 rfl) ?_
    refine lv_iload_n (pc := 27) hx hb dX11_habit_27 rfl (lv_at hl 1 rfl) ?_
    refine lv_icmp_ge (tgt := 49) (pc := 28) hx hb dX11_habit_28 rfl (fun hc => ?_) (fun hc => ?_)
    · have hf := za_t hf hc
      obtain rfl := Option.some.inj hf
      obtain ⟨rfl, rfl, rfl, rfl, rfl⟩ := zp_5 (ex (show ¬ (1 : Nat) = 0 by decide))
      exact E49 _ _ _ ⟨lv_sub hl [0] rfl, hP, hD, hS⟩
    · have hf := za_f hf hc
      refine lv_aload_n (pc := 31) hx hb dX11_habit_31 rfl (lv_at hl 0 rfl) ?_
      refine lv_aload_n (pc := 32) hx hb dX11_habit_32 rfl (lv_at hl 0 rfl) ?_
      refine lv_aload_n (pc := 33) hx hb dX11_habit_33 rfl (lv_at hl 0 rfl) ?_
      obtain ⟨v7, hv7, hf⟩ := zc_1 hf
      refine zw_Vi (pc := 34) (wc := [zr_o ad (0 : Int32) f_taped f_at f_behind f_size f_kind f_number f_wrong f_wrongAt f_faultKind f_faultPlace f_reading f_toldWhy f_x f_standMany f_bestMany f_tail f_round1, (ad 2, .inl (dA 0, 2982, .inl a4))]) (wr := [(ad 17, .inl (dA 0, 900, .inl a5)), (ad 18, .inl (dA 0, 6, .inl a6)), (ad 19, .inl (dA 0, 5, .inl a2))]) (w1 := [zr_o ad (0 : Int32) f_taped f_at f_behind f_size f_kind f_number f_wrong f_wrongAt f_faultKind f_faultPlace f_reading f_toldWhy f_x f_standMany f_bestMany f_tail f_round1, (ad 2, .inl (dA 0, 2982, .inl a4))]) (As := []) (rest := [.ref (ad 0), .ref (ad 0)]) ⟨hx, hb, hml, hown, ht⟩ (zt_X11_standNow l dC dI dA ad _ (0 : Int32) f_taped f_at f_behind f_size f_kind f_number f_wrong f_wrongAt f_faultKind f_faultPlace f_reading f_toldWhy f_x f_standMany f_bestMany f_tail f_round1 a4 v7 hv7) (cwV 0 ht (zr_V zr_261 zr_262 zr_263 zr_36 zr_213) rfl rfl rfl zk_X11_standNow ⟨Nat.le_of_ble_eq_true rfl, Nat.le_of_ble_eq_true rfl⟩) rfl rfl hK hP hD hS hA [0, 1] [2, 3, 4] (by decide) (by decide) (by decide) rfl rfl rfl hl.1 (Nat.le_of_ble_eq_true rfl) dX11_habit_34 ⟨Nat.zero_le _, Nat.zero_le _⟩ rfl (fun H locs hP hD hS => ?_)
      have hP : va_P (dC, dI) zz_cls [(ad 17, .inl (dA 0, 900, .inl a5)), (ad 18, .inl (dA 0, 6, .inl a6)), (ad 19, .inl (dA 0, 5, .inl a2)), zr_o ad (0 : Int32) f_taped f_at f_behind f_size f_kind f_number f_wrong f_wrongAt f_faultKind f_faultPlace f_reading f_toldWhy f_x f_standMany f_bestMany f_tail f_round1, (ad 2, .inl (dA 0, 2982, .inl a4))] H := hP
      have hD : va_D A [(ad 17, .inl (dA 0, 900, .inl a5)), (ad 18, .inl (dA 0, 6, .inl a6)), (ad 19, .inl (dA 0, 5, .inl a2)), zr_o ad (0 : Int32) f_taped f_at f_behind f_size f_kind f_number f_wrong f_wrongAt f_faultKind f_faultPlace f_reading f_toldWhy f_x f_standMany f_bestMany f_tail f_round1, (ad 2, .inl (dA 0, 2982, .inl a4))] := hD
      obtain ⟨v8, a9, a10, hv8, hf⟩ := zc_3 hf
      refine zw_Vi (pc := 37) (wc := [zr_o ad (0 : Int32) f_taped f_at f_behind f_size f_kind f_number f_wrong f_wrongAt f_faultKind f_faultPlace f_reading f_toldWhy f_x f_standMany f_bestMany f_tail f_round1, (ad 2, .inl (dA 0, 2982, .inl a4)), (ad 17, .inl (dA 0, 900, .inl a5)), (ad 18, .inl (dA 0, 6, .inl a6))]) (wr := [(ad 19, .inl (dA 0, 5, .inl a2))]) (w1 := [zr_o ad (0 : Int32) f_taped f_at f_behind f_size f_kind f_number f_wrong f_wrongAt f_faultKind f_faultPlace f_reading f_toldWhy f_x f_standMany f_bestMany f_tail f_round1, (ad 2, .inl (dA 0, 2982, .inl a4)), (ad 17, .inl (dA 0, 900, .inl a9)), (ad 18, .inl (dA 0, 6, .inl a10))]) (As := [.int v7]) (rest := [.ref (ad 0)]) ⟨hx, hb, hml, hown, ht⟩ (zt_X11_habitOf l dC dI dA ad _ n (0 : Int32) f_taped f_at f_behind f_size f_kind f_number f_wrong f_wrongAt f_faultKind f_faultPlace f_reading f_toldWhy f_x f_standMany f_bestMany f_tail f_round1 a4 a5 a6 v7 v8 a9 a10 hv8) (cwV 1 ht (zr_V zr_297 zr_298 zr_299 zr_36 zr_295) rfl rfl rfl zk_X11_habitOf ⟨Nat.le_of_ble_eq_true rfl, Nat.le_of_ble_eq_true rfl⟩) rfl rfl hK hP hD hS hA [3, 4, 0, 1] [2] (by decide) (by decide) (by decide) rfl rfl rfl hl.1 (Nat.le_of_ble_eq_true rfl) dX11_habit_37 ⟨Nat.zero_le _, Nat.zero_le _⟩ rfl (fun H locs hP hD hS => ?_)
      have hP : va_P (dC, dI) zz_cls [(ad 19, .inl (dA 0, 5, .inl a2)), zr_o ad (0 : Int32) f_taped f_at f_behind f_size f_kind f_number f_wrong f_wrongAt f_faultKind f_faultPlace f_reading f_toldWhy f_x f_standMany f_bestMany f_tail f_round1, (ad 2, .inl (dA 0, 2982, .inl a4)), (ad 17, .inl (dA 0, 900, .inl a9)), (ad 18, .inl (dA 0, 6, .inl a10))] H := hP
      have hD : va_D A [(ad 19, .inl (dA 0, 5, .inl a2)), zr_o ad (0 : Int32) f_taped f_at f_behind f_size f_kind f_number f_wrong f_wrongAt f_faultKind f_faultPlace f_reading f_toldWhy f_x f_standMany f_bestMany f_tail f_round1, (ad 2, .inl (dA 0, 2982, .inl a4)), (ad 17, .inl (dA 0, 900, .inl a9)), (ad 18, .inl (dA 0, 6, .inl a10))] := hD
      obtain ⟨a11, a12, a13, ha11, hf⟩ := zc_3 hf
      refine zw_Vv (pc := 40) (wc := [zr_o ad (0 : Int32) f_taped f_at f_behind f_size f_kind f_number f_wrong f_wrongAt f_faultKind f_faultPlace f_reading f_toldWhy f_x f_standMany f_bestMany f_tail f_round1, (ad 2, .inl (dA 0, 2982, .inl a4)), (ad 17, .inl (dA 0, 900, .inl a9)), (ad 18, .inl (dA 0, 6, .inl a10))]) (wr := [(ad 19, .inl (dA 0, 5, .inl a2))]) (w1 := [zr_o ad (0 : Int32) f_taped f_at f_behind f_size f_kind f_number f_wrong f_wrongAt f_faultKind f_faultPlace f_reading f_toldWhy f_x f_standMany f_bestMany f_tail f_round1, (ad 2, .inl (dA 0, 2982, .inl a11)), (ad 17, .inl (dA 0, 900, .inl a12)), (ad 18, .inl (dA 0, 6, .inl a13))]) (As := [.int v8]) (rest := []) ⟨hx, hb, hml, hown, ht⟩ (zt_X11_acts l dC dI dA ad _ n (0 : Int32) f_taped f_at f_behind f_size f_kind f_number f_wrong f_wrongAt f_faultKind f_faultPlace f_reading f_toldWhy f_x f_standMany f_bestMany f_tail f_round1 a4 a9 a10 v8 a11 a12 a13 ha11) (cwV 1 ht (zr_V zr_286 zr_287 zr_288 zr_36 zr_282) rfl rfl rfl zk_X11_acts ⟨Nat.le_of_ble_eq_true rfl, Nat.le_of_ble_eq_true rfl⟩) rfl rfl hK hP hD hS hA [1, 2, 3, 4] [0] (by decide) (by decide) (by decide) rfl rfl rfl hl.1 (Nat.le_of_ble_eq_true rfl) dX11_habit_40 ⟨Nat.zero_le _, Nat.zero_le _⟩ rfl (fun H locs hP hD hS => ?_)
      have hP : va_P (dC, dI) zz_cls [(ad 19, .inl (dA 0, 5, .inl a2)), zr_o ad (0 : Int32) f_taped f_at f_behind f_size f_kind f_number f_wrong f_wrongAt f_faultKind f_faultPlace f_reading f_toldWhy f_x f_standMany f_bestMany f_tail f_round1, (ad 2, .inl (dA 0, 2982, .inl a11)), (ad 17, .inl (dA 0, 900, .inl a12)), (ad 18, .inl (dA 0, 6, .inl a13))] H := hP
      have hD : va_D A [(ad 19, .inl (dA 0, 5, .inl a2)), zr_o ad (0 : Int32) f_taped f_at f_behind f_size f_kind f_number f_wrong f_wrongAt f_faultKind f_faultPlace f_reading f_toldWhy f_x f_standMany f_bestMany f_tail f_round1, (ad 2, .inl (dA 0, 2982, .inl a11)), (ad 17, .inl (dA 0, 900, .inl a12)), (ad 18, .inl (dA 0, 6, .inl a13))] := hD
      obtain ⟨v14, hv14, hf⟩ := zc_1 hf
      refine lv_iinc (v := v14) (lv' := [(2, .int v14), (0, .ref (ad 0)), (1, .int p1)]) (k := 2) (pc := 43) hx hb dX11_habit_43 hl rfl (Option.some.inj hv14) (by decide) rfl (fun ls hl => ?_)
      refine lv_goto (tgt := 26) (pc := 46) hx hb dX11_habit_46 rfl ?_
      obtain rfl := Option.some.inj hf
      exact ih rfl _ _ _ ⟨lv_sub hl [1, 2, 0] rfl, hP.sub [1, 2, 3, 4, 0] rfl, hD.sub [1, 2, 3, 4, 0] (by decide) rfl, hS⟩
  · have hf := za_t hf hc
    refine lv_bipush (v := (-3 : Int32)) (pc := 17) hx hb dX11_habit_17 (by decide) ?_
    obtain ⟨rfl, rfl, rfl, rfl, rfl, rfl⟩ := zi_6 hf
    exact W.iret (pc := 19) hx hb hr (fun t ht hW => ⟨⟨_, (), rfl, rfl, zz_Bi (by rw [ht]; exact hP) (va_K.moved hW.alike hK) (hD)⟩, hS.F ht⟩) hS.2.2 dX11_habit_19
