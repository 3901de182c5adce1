def zb_X11_keyAt_15 (v2 : Int32) (f_behind : Int32) (f_at : Int32) (b_tape : (Nat → Int32)) (v4 : Int32) : Option (Nat × Int32) :=
  zd_1 (zf_J0_charAt_5068e 37 (v2 + v4)) (fun v5 =>
  if v5 = (32 : Int32) then
    some (1, v4)
  else
    if f_behind ≤ (f_at + v4) then
      some (1, v4)
    else
      zd_1 (za_ld b_tape 900 (f_at + v4)) (fun v6 =>
      zd_1 (zf_J0_charAt_5068e 37 (v2 + v4)) (fun v7 =>
      if v6 = v7 then
        zd_1 (some (v4 + (1 : Int32))) (fun v8 =>
        some (0, v8))
      else
        some (1, v4))))
def zb_X11_keyAt_97 (v12 : Int32) : Option (Nat × Int32) :=
  zd_1 (zf_J0_charAt_5068e 37 v12) (fun v13 =>
  if v13 = (32 : Int32) then
    some (1, v12)
  else
    zd_1 (some (v12 + (1 : Int32))) (fun v14 =>
    some (0, v14)))
def zb_X11_keyAt_97_2 (v19 : Int32) : Option (Nat × Int32) :=
  zd_1 (zf_J0_charAt_5068e 37 v19) (fun v20 =>
  if v20 = (32 : Int32) then
    some (1, v19)
  else
    zd_1 (some (v19 + (1 : Int32))) (fun v21 =>
    some (0, v21)))
def zb_X11_keyAt_4 (f_behind : Int32) (f_at : Int32) (b_tape : (Nat → Int32)) (n : Nat) (v1 : Int32) (v2 : Int32) : Option (Nat × Int32 × Int32) :=
  zd_1 (zf_J0_length_8abf5 37) (fun v3 =>
  if v3 ≤ v2 then
    some (2, v1, v2)
  else
    zd_2 (za_it (fun v => zb_X11_keyAt_15 v2 f_behind f_at b_tape v) n (0 : Int32)) (fun g10 v9 =>
    zd_1 (zf_J0_charAt_5068e 37 (v2 + v9)) (fun v11 =>
    if v11 = (32 : Int32) then
      if (f_at + v9) = f_behind then
        some (1, v1, v2)
      else
        zd_2 (za_it (fun v => zb_X11_keyAt_97 v) n v2) (fun g16 v15 =>
        zd_1 (some (v15 + (1 : Int32))) (fun v17 =>
        zd_1 (some (v1 + (1 : Int32))) (fun v18 =>
        some (0, v18, v17))))
    else
      zd_2 (za_it (fun v => zb_X11_keyAt_97_2 v) n v2) (fun g23 v22 =>
      zd_1 (some (v22 + (1 : Int32))) (fun v24 =>
      zd_1 (some (v1 + (1 : Int32))) (fun v25 =>
      some (0, v25, v24)))))))
def zf_X11_keyAt (n : Nat) (f_at : Int32) (f_behind : Int32) (b_tape : (Nat → Int32)) : Option (Int32) :=
  zd_3 (za_it (fun v => zb_X11_keyAt_4 f_behind f_at b_tape n v.1 v.2) n ((0 : Int32), (1 : Int32))) (fun g28 v26 v27 =>
  if g28 = 1 then
    some v26
  else if g28 = 2 then
    some (24 : Int32)
  else none)
theorem zk_X11_keyAt : yX11_keyAt.cls = RX11 ∧ yX11_keyAt.cls ≠ "java/lang/invoke/MethodHandle" ∧ yX11_keyAt.cls ≠ "java/lang/invoke/VarHandle" ∧ (parseMethodDescriptor yX11_keyAt.desc).map (fun d => d.parameters.length) = some 0 := by decide +kernel
set_option maxHeartbeats 4000000 in
set_option maxRecDepth 100000 in
theorem zt_X11_keyAt (l : Launch) (dC : Nat → ClassId) (dI : Nat → Nat → Nat) (dA : Nat → ClassId) (ad : Nat → Nat) (adK adV : Nat → Nat) (sz : Nat) (n : Nat) (f_thrown : Int32) (f_taped : Int32) (f_at : Int32) (f_behind : Int32) (f_size : Int32) (f_kind : Int32) (f_number : Int32) (f_wrong : Int32) (f_wrongAt : Int32) (f_faultKind : Int32) (f_faultPlace : Int32) (f_reading : Int32) (f_toldWhy : Int32) (f_x : Int32) (f_standMany : Int32) (f_bestMany : Int32) (f_tail : Int32) (f_round1 : Int32) (b_tape : (Nat → Int32)) (r0 : Int32) (hf : zf_X11_keyAt n f_at f_behind b_tape = some r0) : Met l yX11_keyAt (.code yX11_keyAt cX11_keyAt 4 (some .int) :: zb_T) ({ frames := 4, cells := 0, slots := 0, locals := 85 }) (va_Pc [.ref (ad 0)] (zx_M dC dI dA adK adV [zr_o ad f_thrown f_taped f_at f_behind f_size f_kind f_number f_wrong f_wrongAt f_faultKind f_faultPlace f_reading f_toldWhy f_x f_standMany f_bestMany f_tail f_round1, (ad 4, .inl (dA 0, 900, .inl b_tape))] sz)) (va_Qi (fun (r : Int32) (_ : Unit) => r = r0) (fun _ t => zz_B dC dI dA (va_A [zr_o ad f_thrown f_taped f_at f_behind f_size f_kind f_number f_wrong f_wrongAt f_faultKind f_faultPlace f_reading f_toldWhy f_x f_standMany f_bestMany f_tail f_round1, (ad 4, .inl (dA 0, 900, .inl b_tape))] sz) [zr_o ad f_thrown f_taped f_at f_behind f_size f_kind f_number f_wrong f_wrongAt f_faultKind f_faultPlace f_reading f_toldWhy f_x f_standMany f_bestMany f_tail f_round1, (ad 4, .inl (dA 0, 900, .inl b_tape))] t) (va_A [zr_o ad f_thrown f_taped f_at f_behind f_size f_kind f_number f_wrong f_wrongAt f_faultKind f_faultPlace f_reading f_toldWhy f_x f_standMany f_bestMany f_tail f_round1, (ad 4, .inl (dA 0, 900, .inl b_tape))] sz)) 0 0 (va_A [zr_o ad f_thrown f_taped f_at f_behind f_size f_kind f_number f_wrong f_wrongAt f_faultKind f_faultPlace f_reading f_toldWhy f_x f_standMany f_bestMany f_tail f_round1, (ad 4, .inl (dA 0, 900, .inl b_tape))] sz) := by
  unfold zf_X11_keyAt at hf
  refine Met.ofW (cc := cX11_keyAt) (maxL := 4) (ret := (some .int)) (by decide) rfl ?_
  intro p e s m args below meth c s₁ B hml hv
  obtain ⟨rfl, ⟨hsz, hP, hK, hD0⟩, hZ⟩ := hv
  have hx := B.exec
  have hb := B.bytes
  have hr := B.returns
  have ht : ∀ w ∈ zb_T, w.before ([.ref (ad 0)] : List Value).toArray s = true := fun w hw => atoms_spec (ws := .code yX11_keyAt cX11_keyAt 4 (some .int) :: zb_T) B.pre w (List.mem_cons_of_mem _ hw)
  have hown : s.vm.findClass RX11 = some m.cls := findClass_of_methodNamed B.named
  have hlocks := B.notSynchronized
  subst hsz
  have hD := hD0.self (sz := s.heap.size)
  generalize hAe : va_A [zr_o ad f_thrown f_taped f_at f_behind f_size f_kind f_number f_wrong f_wrongAt f_faultKind f_faultPlace f_reading f_toldWhy f_x f_standMany f_bestMany f_tail f_round1, (ad 4, .inl (dA 0, 900, .inl b_tape))] s.heap.size = A at hD hZ ⊢
  have hA : ∀ q : Nat, s.heap.size ≤ q → A q := fun q h => by rw [← hAe]; exact Or.inr h
  clear hAe hD0
  have hS : va_S A s.heap s.heap [] := va_S.rf
  have hl := lv_entry ([.ref (ad 0)]) (n := 4) (Nat.le_of_ble_eq_true rfl)
  rw [lg_entry_eq]
  generalize (lg_sl ([.ref (ad 0)]) ++ List.replicate (4 - (lg_sl ([.ref (ad 0)])).length) Slot.unset).toArray = ls at hl ⊢
  have hl : lv_has ls 4 [(0, .ref (ad 0))] := hl
  refine lv_iconst (v := (0 : Int32)) (pc := 0) hx hb dX11_keyAt_0 (by decide) ?_
  refine lv_istore_n (lv' := [(1, .int (0 : Int32)), (0, .ref (ad 0))]) (pc := 1) hx hb dX11_keyAt_1 rfl hl (by decide) rfl (fun ls hl => ?_)
  refine lv_iconst (v := (1 : Int32)) (pc := 2) hx hb dX11_keyAt_2 (by decide) ?_
  refine lv_istore_n (lv' := [(2, .int (1 : Int32)), (1, .int (0 : Int32)), (0, .ref (ad 0))]) (pc := 3) hx hb dX11_keyAt_3 rfl hl (by decide) rfl (fun ls hl => ?_)
  obtain ⟨g28, v26, v27, hj, hf⟩ := zc_3 hf
  refine zj_join (pcJ := 95) (stk := []) (X := fun H locs ls => g28 = 1 ∧ lv_has ls 4 [(1, .int v26)] ∧ va_P (dC, dI) zz_cls [zr_o ad f_thrown f_taped f_at f_behind f_size f_kind f_number f_wrong f_wrongAt f_faultKind f_faultPlace f_reading f_toldWhy f_x f_standMany f_bestMany f_tail f_round1, (ad 4, .inl (dA 0, 900, .inl b_tape))] H ∧ va_D A [zr_o ad f_thrown f_taped f_at f_behind f_size f_kind f_number f_wrong f_wrongAt f_faultKind f_faultPlace f_reading f_toldWhy f_x f_standMany f_bestMany f_tail f_round1, (ad 4, .inl (dA 0, 900, .inl b_tape))] ∧ va_S A s.heap H locs) (fun H locs ls hX => ?_) (fun E95 => ?_)
  · obtain ⟨htg, hl, hP, hD, hS⟩ := hX
    clear hj
    have hf := za_t hf htg
    refine lv_iload_n (pc := 95) hx hb dX11_keyAt_95 rfl (lv_at hl 0 rfl) ?_
    obtain rfl := Option.some.inj hf
    exact W.iret (pc := 96) hx hb hr (fun t ht hW => ⟨⟨_, (), rfl, rfl, zz_Bi (by rw [ht]; exact hP) (va_K.moved hW.alike hK) (hD)⟩, hS.F ht⟩) hS.2.2 dX11_keyAt_96
  refine zj_join (pcJ := 123) (stk := []) (X := fun H locs ls => g28 = 2 ∧ lv_has ls 4 [] ∧ va_P (dC, dI) zz_cls [zr_o ad f_thrown f_taped f_at f_behind f_size f_kind f_number f_wrong f_wrongAt f_faultKind f_faultPlace f_reading f_toldWhy f_x f_standMany f_bestMany f_tail f_round1, (ad 4, .inl (dA 0, 900, .inl b_tape))] H ∧ va_D A [zr_o ad f_thrown f_taped f_at f_behind f_size f_kind f_number f_wrong f_wrongAt f_faultKind f_faultPlace f_reading f_toldWhy f_x f_standMany f_bestMany f_tail f_round1, (ad 4, .inl (dA 0, 900, .inl b_tape))] ∧ va_S A s.heap H locs) (fun H locs ls hX => ?_) (fun E123 => ?_)
  · obtain ⟨htg, hl, hP, hD, hS⟩ := hX
    clear hj
    have hf := za_f hf (by rw [htg]; decide)
    have hf := za_t hf htg
    refine lv_bipush (v := (24 : Int32)) (pc := 123) hx hb dX11_keyAt_123 (by decide) ?_
    obtain rfl := Option.some.inj hf
    exact W.iret (pc := 125) hx hb hr (fun t ht hW => ⟨⟨_, (), rfl, rfl, zz_Bi (by rw [ht]; exact hP) (va_K.moved hW.alike hK) (hD)⟩, hS.F ht⟩) hS.2.2 dX11_keyAt_125
  clear hf
  refine zw_loop (pcH := 4) (X := fun v H locs ls => lv_has ls 4 [(0, .ref (ad 0)), (1, .int v.1), (2, .int v.2)] ∧ va_P (dC, dI) zz_cls [zr_o ad f_thrown f_taped f_at f_behind f_size f_kind f_number f_wrong f_wrongAt f_faultKind f_faultPlace f_reading f_toldWhy f_x f_standMany f_bestMany f_tail f_round1, (ad 4, .inl (dA 0, 900, .inl b_tape))] H ∧ va_D A [zr_o ad f_thrown f_taped f_at f_behind f_size f_kind f_number f_wrong f_wrongAt f_faultKind f_faultPlace f_reading f_toldWhy f_x f_standMany f_bestMany f_tail f_round1, (ad 4, .inl (dA 0, 900, .inl b_tape))] ∧ va_S A s.heap H locs) hj (fun v w hf ih ex H locs ls hX => ?_) _ _ _ ⟨lv_sub hl [2, 1, 0] rfl, hP, hD, hS⟩
  clear hj
  obtain ⟨v1, v2⟩ := v
  obtain ⟨hl, hP, hD, hS⟩ := hX
  have hl : lv_has ls 4 [(0, .ref (ad 0)), (1, .int v1), (2, .int v2)] := hl
  have hP : va_P (dC, dI) zz_cls [zr_o ad f_thrown f_taped f_at f_behind f_size f_kind f_number f_wrong f_wrongAt f_faultKind f_faultPlace f_reading f_toldWhy f_x f_standMany f_bestMany f_tail f_round1, (ad 4, .inl (dA 0, 900, .inl b_tape))] H := hP
  have hD : va_D A [zr_o ad f_thrown f_taped f_at f_behind f_size f_kind f_number f_wrong f_wrongAt f_faultKind f_faultPlace f_reading f_toldWhy f_x f_standMany f_bestMany f_tail f_round1, (ad 4, .inl (dA 0, 900, .inl b_tape))] := hD
  replace hf : zb_X11_keyAt_4 f_behind f_at b_tape n v1 v2 = some w := hf
  unfold zb_X11_keyAt_4 at hf
  refine lv_iload_n (pc := 4) hx hb dX11_keyAt_4 rfl (lv_at hl 2 rfl) ?_
  refine va_ldcS (pc := 5) hx hb hown (zx_r37 hZ) dX11_keyAt_5 ?_
  obtain ⟨v3, hv3, hf⟩ := zc_1 hf
  refine zx_Ki (pc := 7) (wc := []) (wr := [zr_o ad f_thrown f_taped f_at f_behind f_size f_kind f_number f_wrong f_wrongAt f_faultKind f_faultPlace f_reading f_toldWhy f_x f_standMany f_bestMany f_tail f_round1, (ad 4, .inl (dA 0, 900, .inl b_tape))]) (w1 := []) (As := []) (rest := [.int v2]) ⟨hx, hb, hml, hown, ht⟩ (zt_J0_length_8abf5 l dC dI dA adK adV _ 37 (by decide) v3 hv3) (cwV 0 ht (zb_V (fun _ h => zb_q h) (zb_l zr_47) (zb_l zr_48) (zb_l zr_49) (zb_l zr_50) (zb_l zr_51)) rfl rfl rfl zk_J0_length_8abf5 ⟨Nat.le_of_ble_eq_true rfl, Nat.le_of_ble_eq_true rfl⟩) (vk_recv (adK := fun _ => adK 37) (i := 0) (hZ.2.2.1 37 (by decide)) (by decide) hS) hZ hK hP hD hS hA [] [0, 1] (by decide) (by decide) (by decide) rfl rfl rfl hl.1 (Nat.le_of_ble_eq_true rfl) dX11_keyAt_7 ⟨Nat.zero_le _, Nat.zero_le _⟩ rfl (fun H locs hP hD hS => ?_)
  have hP : va_P (dC, dI) zz_cls [zr_o ad f_thrown f_taped f_at f_behind f_size f_kind f_number f_wrong f_wrongAt f_faultKind f_faultPlace f_reading f_toldWhy f_x f_standMany f_bestMany f_tail f_round1, (ad 4, .inl (dA 0, 900, .inl b_tape))] H := hP
  have hD : va_D A [zr_o ad f_thrown f_taped f_at f_behind f_size f_kind f_number f_wrong f_wrongAt f_faultKind f_faultPlace f_reading f_toldWhy f_x f_standMany f_bestMany f_tail f_round1, (ad 4, .inl (dA 0, 900, .inl b_tape))] := hD
  refine lv_icmp_ge (tgt := 123) (pc := 10) hx hb dX11_keyAt_10 rfl (fun hc => ?_) (fun hc => ?_)
  · have hf := za_t hf hc
    obtain rfl := Option.some.inj hf
    obtain ⟨rfl, rfl, rfl⟩ := zp_3 (ex (show ¬ (2 : Nat) = 0 by decide))
    exact E123 _ _ _ ⟨rfl, lv_sub hl [] rfl, hP, hD, hS⟩
  · have hf := za_f hf hc
    refine lv_iconst (v := (0 : Int32)) (pc := 13) hx hb dX11_keyAt_13 (by decide) ?_
    refine lv_istore_n (lv' := [(3, .int (0 : Int32)), (0, .ref (ad 0)), (1, .int v1), (2, .int v2)]) (pc := 14) hx hb dX11_keyAt_14 rfl hl (by decide) rfl (fun ls hl => ?_)
    obtain ⟨g10, v9, hj, hf⟩ := zc_2 hf
    refine zj_join (pcJ := 69) (stk := []) (X := fun H locs ls => lv_has ls 4 [(0, .ref (ad 0)), (1, .int v1), (2, .int v2), (3, .int v9)] ∧ va_P (dC, dI) zz_cls [zr_o ad f_thrown f_taped f_at f_behind f_size f_kind f_number f_wrong f_wrongAt f_faultKind f_faultPlace f_reading f_toldWhy f_x f_standMany f_bestMany f_tail f_round1, (ad 4, .inl (dA 0, 900, .inl b_tape))] H ∧ va_D A [zr_o ad f_thrown f_taped f_at f_behind f_size f_kind f_number f_wrong f_wrongAt f_faultKind f_faultPlace f_reading f_toldWhy f_x f_standMany f_bestMany f_tail f_round1, (ad 4, .inl (dA 0, 900, .inl b_tape))] ∧ va_S A s.heap H locs) (fun H locs ls hX => ?_) (fun E69 => ?_)
    · obtain ⟨hl, hP, hD, hS⟩ := hX
      clear hj
      refine va_ldcS (pc := 69) hx hb hown (zx_r37 hZ) dX11_keyAt_69 ?_
      refine lv_iload_n (pc := 71) hx hb dX11_keyAt_71 rfl (lv_at hl 2 rfl) ?_
      refine lv_iload_n (pc := 72) hx hb dX11_keyAt_72 rfl (lv_at hl 3 rfl) ?_
      refine lv_iadd (pc := 73) hx hb dX11_keyAt_73 ?_
      obtain ⟨v11, hv11, hf⟩ := zc_1 hf
      refine zx_Ki (pc := 74) (wc := []) (wr := [zr_o ad f_thrown f_taped f_at f_behind f_size f_kind f_number f_wrong f_wrongAt f_faultKind f_faultPlace f_reading f_toldWhy f_x f_standMany f_bestMany f_tail f_round1, (ad 4, .inl (dA 0, 900, .inl b_tape))]) (w1 := []) (As := [.int (v2 + v9)]) (rest := []) ⟨hx, hb, hml, hown, ht⟩ (zt_J0_charAt_5068e l dC dI dA adK adV _ 37 (v2 + v9) (by decide) v11 hv11) (cwV 1 ht (zb_V (fun _ h => zb_q h) (zb_l zr_59) (zb_l zr_60) (zb_l zr_61) (zb_l zr_50) (zb_l zr_62)) rfl rfl rfl zk_J0_charAt_5068e ⟨Nat.le_of_ble_eq_true rfl, Nat.le_of_ble_eq_true rfl⟩) (vk_recv (adK := fun _ => adK 37) (i := 0) (hZ.2.2.1 37 (by decide)) (by decide) hS) hZ hK hP hD hS hA [] [0, 1] (by decide) (by decide) (by decide) rfl rfl rfl hl.1 (Nat.le_of_ble_eq_true rfl) dX11_keyAt_74 ⟨Nat.zero_le _, Nat.zero_le _⟩ rfl (fun H locs hP hD hS => ?_)
      have hP : va_P (dC, dI) zz_cls [zr_o ad f_thrown f_taped f_at f_behind f_size f_kind f_number f_wrong f_wrongAt f_faultKind f_faultPlace f_reading f_toldWhy f_x f_standMany f_bestMany f_tail f_round1, (ad 4, .inl (dA 0, 900, .inl b_tape))] H := hP
      have hD : va_D A [zr_o ad f_thrown f_taped f_at f_behind f_size f_kind f_number f_wrong f_wrongAt f_faultKind f_faultPlace f_reading f_toldWhy f_x f_standMany f_bestMany f_tail f_round1, (ad 4, .inl (dA 0, 900, .inl b_tape))] := hD
      refine lv_bipush (v := (32 : Int32)) (pc := 77) hx hb dX11_keyAt_77 (by decide) ?_
      refine lv_icmp_ne (tgt := 97) (pc := 79) hx hb dX11_keyAt_79 rfl (fun hc => ?_) (fun hc => ?_)
      · have hf := za_f hf hc
        obtain ⟨g23, v22, hj, hf⟩ := zc_2 hf
        refine zj_join (pcJ := 114) (stk := []) (X := fun H locs ls => lv_has ls 4 [(0, .ref (ad 0)), (1, .int v1), (2, .int v22)] ∧ va_P (dC, dI) zz_cls [zr_o ad f_thrown f_taped f_at f_behind f_size f_kind f_number f_wrong f_wrongAt f_faultKind f_faultPlace f_reading f_toldWhy f_x f_standMany f_bestMany f_tail f_round1, (ad 4, .inl (dA 0, 900, .inl b_tape))] H ∧ va_D A [zr_o ad f_thrown f_taped f_at f_behind f_size f_kind f_number f_wrong f_wrongAt f_faultKind f_faultPlace f_reading f_toldWhy f_x f_standMany f_bestMany f_tail f_round1, (ad 4, .inl (dA 0, 900, .inl b_tape))] ∧ va_S A s.heap H locs) (fun H locs ls hX => ?_) (fun E114 => ?_)
        · obtain ⟨hl, hP, hD, hS⟩ := hX
          clear hj
          obtain ⟨v24, hv24, hf⟩ := zc_1 hf
          refine lv_iinc (v := v24) (lv' := [(2, .int v24), (0, .ref (ad 0)), (1, .int v1)]) (k := 2) (pc := 114) hx hb dX11_keyAt_114 hl rfl (Option.some.inj hv24) (by decide) rfl (fun ls hl => ?_)
          obtain ⟨v25, hv25, hf⟩ := zc_1 hf
          refine lv_iinc (v := v25) (lv' := [(1, .int v25), (2, .int v24), (0, .ref (ad 0))]) (k := 2) (pc := 117) hx hb dX11_keyAt_117 hl rfl (Option.some.inj hv25) (by decide) rfl (fun ls hl => ?_)
          refine lv_goto (tgt := 4) (pc := 120) hx hb dX11_keyAt_120 rfl ?_
          obtain rfl := Option.some.inj hf
          exact ih rfl _ _ _ ⟨lv_sub hl [2, 0, 1] rfl, hP, hD, hS⟩
        clear hf
        refine zw_loop (pcH := 97) (X := fun v H locs ls => lv_has ls 4 [(0, .ref (ad 0)), (1, .int v1), (2, .int v)] ∧ va_P (dC, dI) zz_cls [zr_o ad f_thrown f_taped f_at f_behind f_size f_kind f_number f_wrong f_wrongAt f_faultKind f_faultPlace f_reading f_toldWhy f_x f_standMany f_bestMany f_tail f_round1, (ad 4, .inl (dA 0, 900, .inl b_tape))] H ∧ va_D A [zr_o ad f_thrown f_taped f_at f_behind f_size f_kind f_number f_wrong f_wrongAt f_faultKind f_faultPlace f_reading f_toldWhy f_x f_standMany f_bestMany f_tail f_round1, (ad 4, .inl (dA 0, 900, .inl b_tape))] ∧ va_S A s.heap H locs) hj (fun v w hf ih ex H locs ls hX => ?_) _ _ _ ⟨lv_sub hl [0, 1, 2] rfl, hP, hD, hS⟩
        clear hj
        generalize v = v19 at hf hX
        obtain ⟨hl, hP, hD, hS⟩ := hX
        have hl : lv_has ls 4 [(0, .ref (ad 0)), (1, .int v1), (2, .int v19)] := hl
        have hP : va_P (dC, dI) zz_cls [zr_o ad f_thrown f_taped f_at f_behind f_size f_kind f_number f_wrong f_wrongAt f_faultKind f_faultPlace f_reading f_toldWhy f_x f_standMany f_bestMany f_tail f_round1, (ad 4, .inl (dA 0, 900, .inl b_tape))] H := hP
        have hD : va_D A [zr_o ad f_thrown f_taped f_at f_behind f_size f_kind f_number f_wrong f_wrongAt f_faultKind f_faultPlace f_reading f_toldWhy f_x f_standMany f_bestMany f_tail f_round1, (ad 4, .inl (dA 0, 900, .inl b_tape))] := hD
        replace hf : zb_X11_keyAt_97_2 v19 = some w := hf
        unfold zb_X11_keyAt_97_2 at hf
        refine va_ldcS (pc := 97) hx hb hown (zx_r37 hZ) dX11_keyAt_97 ?_
        refine lv_iload_n (pc := 99) hx hb dX11_keyAt_99 rfl (lv_at hl 2 rfl) ?_
        obtain ⟨v20, hv20, hf⟩ := zc_1 hf
        refine zx_Ki (pc := 100) (wc := []) (wr := [zr_o ad f_thrown f_taped f_at f_behind f_size f_kind f_number f_wrong f_wrongAt f_faultKind f_faultPlace f_reading f_toldWhy f_x f_standMany f_bestMany f_tail f_round1, (ad 4, .inl (dA 0, 900, .inl b_tape))]) (w1 := []) (As := [.int v19]) (rest := []) ⟨hx, hb, hml, hown, ht⟩ (zt_J0_charAt_5068e l dC dI dA adK adV _ 37 v19 (by decide) v20 hv20) (cwV 1 ht (zb_V (fun _ h => zb_q h) (zb_l zr_59) (zb_l zr_60) (zb_l zr_61) (zb_l zr_50) (zb_l zr_62)) rfl rfl rfl zk_J0_charAt_5068e ⟨Nat.le_of_ble_eq_true rfl, Nat.le_of_ble_eq_true rfl⟩) (vk_recv (adK := fun _ => adK 37) (i := 0) (hZ.2.2.1 37 (by decide)) (by decide) hS) hZ hK hP hD hS hA [] [0, 1] (by decide) (by decide) (by decide) rfl rfl rfl hl.1 (Nat.le_of_ble_eq_true rfl) dX11_keyAt_100 ⟨Nat.zero_le _, Nat.zero_le _⟩ rfl (fun H locs hP hD hS => ?_)
        have hP : va_P (dC, dI) zz_cls [zr_o ad f_thrown f_taped f_at f_behind f_size f_kind f_number f_wrong f_wrongAt f_faultKind f_faultPlace f_reading f_toldWhy f_x f_standMany f_bestMany f_tail f_round1, (ad 4, .inl (dA 0, 900, .inl b_tape))] H := hP
        have hD : va_D A [zr_o ad f_thrown f_taped f_at f_behind f_size f_kind f_number f_wrong f_wrongAt f_faultKind f_faultPlace f_reading f_toldWhy f_x f_standMany f_bestMany f_tail f_round1, (ad 4, .inl (dA 0, 900, .inl b_tape))] := hD
        refine lv_bipush (v := (32 : Int32)) (pc := 103) hx hb dX11_keyAt_103 (by decide) ?_
        refine lv_icmp_eq (tgt := 114) (pc := 105) hx hb dX11_keyAt_105 rfl (fun hc => ?_) (fun hc => ?_)
        · have hf := za_t hf hc
          obtain rfl := Option.some.inj hf
          obtain ⟨rfl, rfl⟩ := zp_2 (ex (show ¬ (1 : Nat) = 0 by decide))
          exact E114 _ _ _ ⟨lv_sub hl [0, 1, 2] rfl, hP, hD, hS⟩
        · have hf := za_f hf hc
          obtain ⟨v21, hv21, hf⟩ := zc_1 hf
          refine lv_iinc (v := v21) (lv' := [(2, .int v21), (0, .ref (ad 0)), (1, .int v1)]) (k := 2) (pc := 108) hx hb dX11_keyAt_108 hl rfl (Option.some.inj hv21) (by decide) rfl (fun ls hl => ?_)
          refine lv_goto (tgt := 97) (pc := 111) hx hb dX11_keyAt_111 rfl ?_
          obtain rfl := Option.some.inj hf
          exact ih rfl _ _ _ ⟨lv_sub hl [1, 2, 0] rfl, hP, hD, hS⟩
      · have hf := za_t hf hc
        refine lv_aload_n (pc := 82) hx hb dX11_keyAt_82 rfl (lv_at hl 0 rfl) ?_
        refine va_get (pc := 83) (D := (dC, dI)) (ci := 0) (v := .int f_at) (C := RX11) (T := TX11) (N := 42) hx hb ht zb_lay hown hK hP 0 rfl rfl 6 (by decide) (ht _ (zb_l zr_45)) (fun _ h9 => h9) rfl dX11_keyAt_83 ?_
        refine lv_iload_n (pc := 86) hx hb dX11_keyAt_86 rfl (lv_at hl 3 rfl) ?_
        refine lv_iadd (pc := 87) hx hb dX11_keyAt_87 ?_
        refine lv_aload_n (pc := 88) hx hb dX11_keyAt_88 rfl (lv_at hl 0 rfl) ?_
        refine va_get (pc := 89) (D := (dC, dI)) (ci := 0) (v := .int f_behind) (C := RX11) (T := TX11) (N := 42) hx hb ht zb_lay hown hK hP 0 rfl rfl 7 (by decide) (ht _ (zb_l zr_46)) (fun _ h9 => h9) rfl dX11_keyAt_89 ?_
        refine lv_icmp_ne (tgt := 97) (pc := 92) hx hb dX11_keyAt_92 rfl (fun hc => ?_) (fun hc => ?_)
        · have hf := za_f hf hc
          obtain ⟨g16, v15, hj, hf⟩ := zc_2 hf
          refine zj_join (pcJ := 114) (stk := []) (X := fun H locs ls => lv_has ls 4 [(0, .ref (ad 0)), (1, .int v1), (2, .int v15)] ∧ va_P (dC, dI) zz_cls [zr_o ad f_thrown f_taped f_at f_behind f_size f_kind f_number f_wrong f_wrongAt f_faultKind f_faultPlace f_reading f_toldWhy f_x f_standMany f_bestMany f_tail f_round1, (ad 4, .inl (dA 0, 900, .inl b_tape))] H ∧ va_D A [zr_o ad f_thrown f_taped f_at f_behind f_size f_kind f_number f_wrong f_wrongAt f_faultKind f_faultPlace f_reading f_toldWhy f_x f_standMany f_bestMany f_tail f_round1, (ad 4, .inl (dA 0, 900, .inl b_tape))] ∧ va_S A s.heap H locs) (fun H locs ls hX => ?_) (fun E114 => ?_)
          · obtain ⟨hl, hP, hD, hS⟩ := hX
            clear hj
            obtain ⟨v17, hv17, hf⟩ := zc_1 hf
            refine lv_iinc (v := v17) (lv' := [(2, .int v17), (0, .ref (ad 0)), (1, .int v1)]) (k := 2) (pc := 114) hx hb dX11_keyAt_114 hl rfl (Option.some.inj hv17) (by decide) rfl (fun ls hl => ?_)
            obtain ⟨v18, hv18, hf⟩ := zc_1 hf
            refine lv_iinc (v := v18) (lv' := [(1, .int v18), (2, .int v17), (0, .ref (ad 0))]) (k := 2) (pc := 117) hx hb dX11_keyAt_117 hl rfl (Option.some.inj hv18) (by decide) rfl (fun ls hl => ?_)
            refine lv_goto (tgt := 4) (pc := 120) hx hb dX11_keyAt_120 rfl ?_
            obtain rfl := Option.some.inj hf
            exact ih rfl _ _ _ ⟨lv_sub hl [2, 0, 1] rfl, hP, hD, hS⟩
          clear hf
          refine zw_loop (pcH := 97) (X := fun v H locs ls => lv_has ls 4 [(0, .ref (ad 0)), (1, .int v1), (2, .int v)] ∧ va_P (dC, dI) zz_cls [zr_o ad f_thrown f_taped f_at f_behind f_size f_kind f_number f_wrong f_wrongAt f_faultKind f_faultPlace f_reading f_toldWhy f_x f_standMany f_bestMany f_tail f_round1, (ad 4, .inl (dA 0, 900, .inl b_tape))] H ∧ va_D A [zr_o ad f_thrown f_taped f_at f_behind f_size f_kind f_number f_wrong f_wrongAt f_faultKind f_faultPlace f_reading f_toldWhy f_x f_standMany f_bestMany f_tail f_round1, (ad 4, .inl (dA 0, 900, .inl b_tape))] ∧ va_S A s.heap H locs) hj (fun v w hf ih ex H locs ls hX => ?_) _ _ _ ⟨lv_sub hl [0, 1, 2] rfl, hP, hD, hS⟩
          clear hj
          generalize v = v12 at hf hX
          obtain ⟨hl, hP, hD, hS⟩ := hX
          have hl : lv_has ls 4 [(0, .ref (ad 0)), (1, .int v1), (2, .int v12)] := hl
          have hP : va_P (dC, dI) zz_cls [zr_o ad f_thrown f_taped f_at f_behind f_size f_kind f_number f_wrong f_wrongAt f_faultKind f_faultPlace f_reading f_toldWhy f_x f_standMany f_bestMany f_tail f_round1, (ad 4, .inl (dA 0, 900, .inl b_tape))] H := hP
          have hD : va_D A [zr_o ad f_thrown f_taped f_at f_behind f_size f_kind f_number f_wrong f_wrongAt f_faultKind f_faultPlace f_reading f_toldWhy f_x f_standMany f_bestMany f_tail f_round1, (ad 4, .inl (dA 0, 900, .inl b_tape))] := hD
          replace hf : zb_X11_keyAt_97 v12 = some w := hf
          unfold zb_X11_keyAt_97 at hf
          refine va_ldcS (pc := 97) hx hb hown (zx_r37 hZ) dX11_keyAt_97 ?_
          refine lv_iload_n (pc := 99) hx hb dX11_keyAt_99 rfl (lv_at hl 2 rfl) ?_
          obtain ⟨v13, hv13, hf⟩ := zc_1 hf
          refine zx_Ki (pc := 100) (wc := []) (wr := [zr_o ad f_thrown f_taped f_at f_behind f_size f_kind f_number f_wrong f_wrongAt f_faultKind f_faultPlace f_reading f_toldWhy f_x f_standMany f_bestMany f_tail f_round1, (ad 4, .inl (dA 0, 900, .inl b_tape))]) (w1 := []) (As := [.int v12]) (rest := []) ⟨hx, hb, hml, hown, ht⟩ (zt_J0_charAt_5068e l dC dI dA adK adV _ 37 v12 (by decide) v13 hv13) (cwV 1 ht (zb_V (fun _ h => zb_q h) (zb_l zr_59) (zb_l zr_60) (zb_l zr_61) (zb_l zr_50) (zb_l zr_62)) rfl rfl rfl zk_J0_charAt_5068e ⟨Nat.le_of_ble_eq_true rfl, Nat.le_of_ble_eq_true rfl⟩) (vk_recv (adK := fun _ => adK 37) (i := 0) (hZ.2.2.1 37 (by decide)) (by decide) hS) hZ hK hP hD hS hA [] [0, 1] (by decide) (by decide) (by decide) rfl rfl rfl hl.1 (Nat.le_of_ble_eq_true rfl) dX11_keyAt_100 ⟨Nat.zero_le _, Nat.zero_le _⟩ rfl (fun H locs hP hD hS => ?_)
          have hP : va_P (dC, dI) zz_cls [zr_o ad f_thrown f_taped f_at f_behind f_size f_kind f_number f_wrong f_wrongAt f_faultKind f_faultPlace f_reading f_toldWhy f_x f_standMany f_bestMany f_tail f_round1, (ad 4, .inl (dA 0, 900, .inl b_tape))] H := hP
          have hD : va_D A [zr_o ad f_thrown f_taped f_at f_behind f_size f_kind f_number f_wrong f_wrongAt f_faultKind f_faultPlace f_reading f_toldWhy f_x f_standMany f_bestMany f_tail f_round1, (ad 4, .inl (dA 0, 900, .inl b_tape))] := hD
          refine lv_bipush (v := (32 : Int32)) (pc := 103) hx hb dX11_keyAt_103 (by decide) ?_
          refine lv_icmp_eq (tgt := 114) (pc := 105) hx hb dX11_keyAt_105 rfl (fun hc => ?_) (fun hc => ?_)
          · have hf := za_t hf hc
            obtain rfl := Option.some.inj hf
            obtain ⟨rfl, rfl⟩ := zp_2 (ex (show ¬ (1 : Nat) = 0 by decide))
            exact E114 _ _ _ ⟨lv_sub hl [0, 1, 2] rfl, hP, hD, hS⟩
          · have hf := za_f hf hc
            obtain ⟨v14, hv14, hf⟩ := zc_1 hf
            refine lv_iinc (v := v14) (lv' := [(2, .int v14), (0, .ref (ad 0)), (1, .int v1)]) (k := 2) (pc := 108) hx hb dX11_keyAt_108 hl rfl (Option.some.inj hv14) (by decide) rfl (fun ls hl => ?_)
            refine lv_goto (tgt := 97) (pc := 111) hx hb dX11_keyAt_111 rfl ?_
            obtain rfl := Option.some.inj hf
            exact ih rfl _ _ _ ⟨lv_sub hl [1, 2, 0] rfl, hP, hD, hS⟩
        · have hf := za_t hf hc
          obtain rfl := Option.some.inj hf
          obtain ⟨rfl, rfl, rfl⟩ := zp_3 (ex (show ¬ (1 : Nat) = 0 by decide))
          exact E95 _ _ _ ⟨rfl, lv_sub hl [1] rfl, hP, hD, hS⟩
    clear hf
    refine zw_loop (pcH := 15) (X := fun v H locs ls => lv_has ls 4 [(0, .ref (ad 0)), (1, .int v1), (2, .int v2), (3, .int v)] ∧ va_P (dC, dI) zz_cls [zr_o ad f_thrown f_taped f_at f_behind f_size f_kind f_number f_wrong f_wrongAt f_faultKind f_faultPlace f_reading f_toldWhy f_x f_standMany f_bestMany f_tail f_round1, (ad 4, .inl (dA 0, 900, .inl b_tape))] H ∧ va_D A [zr_o ad f_thrown f_taped f_at f_behind f_size f_kind f_number f_wrong f_wrongAt f_faultKind f_faultPlace f_reading f_toldWhy f_x f_standMany f_bestMany f_tail f_round1, (ad 4, .inl (dA 0, 900, .inl b_tape))] ∧ va_S A s.heap H locs) hj (fun v w hf ih ex H locs ls hX => ?_) _ _ _ ⟨lv_sub hl [1, 2, 3, 0] rfl, hP, hD, hS⟩
    clear hj
    generalize v = v4 at hf hX
    obtain ⟨hl, hP, hD, hS⟩ := hX
    have hl : lv_has ls 4 [(0, .ref (ad 0)), (1, .int v1), (2, .int v2), (3, .int v4)] := hl
    have hP : va_P (dC, dI) zz_cls [zr_o ad f_thrown f_taped f_at f_behind f_size f_kind f_number f_wrong f_wrongAt f_faultKind f_faultPlace f_reading f_toldWhy f_x f_standMany f_bestMany f_tail f_round1, (ad 4, .inl (dA 0, 900, .inl b_tape))] H := hP
    have hD : va_D A [zr_o ad f_thrown f_taped f_at f_behind f_size f_kind f_number f_wrong f_wrongAt f_faultKind f_faultPlace f_reading f_toldWhy f_x f_standMany f_bestMany f_tail f_round1, (ad 4, .inl (dA 0, 900, .inl b_tape))] := hD
    replace hf : zb_X11_keyAt_15 v2 f_behind f_at b_tape v4 = some w := hf
    unfold zb_X11_keyAt_15 at hf
    refine va_ldcS (pc := 15) hx hb hown (zx_r37 hZ) dX11_keyAt_15 ?_
    refine lv_iload_n (pc := 17) hx hb dX11_keyAt_17 rfl (lv_at hl 2 rfl) ?_
    refine lv_iload_n (pc := 18) hx hb dX11_keyAt_18 rfl (lv_at hl 3 rfl) ?_
    refine lv_iadd (pc := 19) hx hb dX11_keyAt_19 ?_
    obtain ⟨v5, hv5, hf⟩ := zc_1 hf
    refine zx_Ki (pc := 20) (wc := []) (wr := [zr_o ad f_thrown f_taped f_at f_behind f_size f_kind f_number f_wrong f_wrongAt f_faultKind f_faultPlace f_reading f_toldWhy f_x f_standMany f_bestMany f_tail f_round1, (ad 4, .inl (dA 0, 900, .inl b_tape))]) (w1 := []) (As := [.int (v2 + v4)]) (rest := []) ⟨hx, hb, hml, hown, ht⟩ (zt_J0_charAt_5068e l dC dI dA adK adV _ 37 (v2 + v4) (by decide) v5 hv5) (cwV 1 ht (zb_V (fun _ h => zb_q h) (zb_l zr_59) (zb_l zr_60) (zb_l zr_61) (zb_l zr_50) (zb_l zr_62)) rfl rfl rfl zk_J0_charAt_5068e ⟨Nat.le_of_ble_eq_true rfl, Nat.le_of_ble_eq_true rfl⟩) (vk_recv (adK := fun _ => adK 37) (i := 0) (hZ.2.2.1 37 (by decide)) (by decide) hS) hZ hK hP hD hS hA [] [0, 1] (by decide) (by decide) (by decide) rfl rfl rfl hl.1 (Nat.le_of_ble_eq_true rfl) dX11_keyAt_20 ⟨Nat.zero_le _, Nat.zero_le _⟩ rfl (fun H locs hP hD hS => ?_)
    have hP : va_P (dC, dI) zz_cls [zr_o ad f_thrown f_taped f_at f_behind f_size f_kind f_number f_wrong f_wrongAt f_faultKind f_faultPlace f_reading f_toldWhy f_x f_standMany f_bestMany f_tail f_round1, (ad 4, .inl (dA 0, 900, .inl b_tape))] H := hP
    have hD : va_D A [zr_o ad f_thrown f_taped f_at f_behind f_size f_kind f_number f_wrong f_wrongAt f_faultKind f_faultPlace f_reading f_toldWhy f_x f_standMany f_bestMany f_tail f_round1, (ad 4, .inl (dA 0, 900, .inl b_tape))] := hD
    refine lv_bipush (v := (32 : Int32)) (pc := 23) hx hb dX11_keyAt_23 (by decide) ?_
    refine lv_icmp_eq (tgt := 69) (pc := 25) hx hb dX11_keyAt_25 rfl (fun hc => ?_) (fun hc => ?_)
    · have hf := za_t hf hc
      obtain rfl := Option.some.inj hf
      obtain ⟨rfl, rfl⟩ := zp_2 (ex (show ¬ (1 : Nat) = 0 by decide))
      exact E69 _ _ _ ⟨lv_sub hl [0, 1, 2, 3] rfl, hP, hD, hS⟩
    · have hf := za_f hf hc
      refine lv_aload_n (pc := 28) hx hb dX11_keyAt_28 rfl (lv_at hl 0 rfl) ?_
      refine va_get (pc := 29) (D := (dC, dI)) (ci := 0) (v := .int f_at) (C := RX11) (T := TX11) (N := 42) hx hb ht zb_lay hown hK hP 0 rfl rfl 6 (by decide) (ht _ (zb_l zr_45)) (fun _ h9 => h9) rfl dX11_keyAt_29 ?_
      refine lv_iload_n (pc := 32) hx hb dX11_keyAt_32 rfl (lv_at hl 3 rfl) ?_
      refine lv_iadd (pc := 33) hx hb dX11_keyAt_33 ?_
      refine lv_aload_n (pc := 34) hx hb dX11_keyAt_34 rfl (lv_at hl 0 rfl) ?_
      refine va_get (pc := 35) (D := (dC, dI)) (ci := 0) (v := .int f_behind) (C := RX11) (T := TX11) (N := 42) hx hb ht zb_lay hown hK hP 0 rfl rfl 7 (by decide) (ht _ (zb_l zr_46)) (fun _ h9 => h9) rfl dX11_keyAt_35 ?_
      refine lv_icmp_ge (tgt := 69) (pc := 38) hx hb dX11_keyAt_38 rfl (fun hc => ?_) (fun hc => ?_)
      · have hf := za_t hf hc
        obtain rfl := Option.some.inj hf
        obtain ⟨rfl, rfl⟩ := zp_2 (ex (show ¬ (1 : Nat) = 0 by decide))
        exact E69 _ _ _ ⟨lv_sub hl [0, 1, 2, 3] rfl, hP, hD, hS⟩
      · have hf := za_f hf hc
        refine lv_aload_n (pc := 41) hx hb dX11_keyAt_41 rfl (lv_at hl 0 rfl) ?_
        refine va_get (pc := 42) (D := (dC, dI)) (ci := 0) (v := .ref (ad 4)) (C := RX11) (T := TX11) (N := 42) hx hb ht zb_lay hown hK hP 0 rfl rfl 3 (by decide) (ht _ (zb_l zr_9)) (fun _ h9 => h9) rfl dX11_keyAt_42 ?_
        refine lv_aload_n (pc := 45) hx hb dX11_keyAt_45 rfl (lv_at hl 0 rfl) ?_
        refine va_get (pc := 46) (D := (dC, dI)) (ci := 0) (v := .int f_at) (C := RX11) (T := TX11) (N := 42) hx hb ht zb_lay hown hK hP 0 rfl rfl 6 (by decide) (ht _ (zb_l zr_45)) (fun _ h9 => h9) rfl dX11_keyAt_46 ?_
        refine lv_iload_n (pc := 49) hx hb dX11_keyAt_49 rfl (lv_at hl 3 rfl) ?_
        refine lv_iadd (pc := 50) hx hb dX11_keyAt_50 ?_
        obtain ⟨v6, hv6, hf⟩ := zc_1 hf
        refine zw_iald (pc := 51) hx hb hK hP 1 0 rfl rfl hv6 dX11_keyAt_51 ?_
        refine va_ldcS (pc := 52) hx hb hown (zx_r37 hZ) dX11_keyAt_52 ?_
        refine lv_iload_n (pc := 54) hx hb dX11_keyAt_54 rfl (lv_at hl 2 rfl) ?_
        refine lv_iload_n (pc := 55) hx hb dX11_keyAt_55 rfl (lv_at hl 3 rfl) ?_
        refine lv_iadd (pc := 56) hx hb dX11_keyAt_56 ?_
        obtain ⟨v7, hv7, hf⟩ := zc_1 hf
        refine zx_Ki (pc := 57) (wc := []) (wr := [zr_o ad f_thrown f_taped f_at f_behind f_size f_kind f_number f_wrong f_wrongAt f_faultKind f_faultPlace f_reading f_toldWhy f_x f_standMany f_bestMany f_tail f_round1, (ad 4, .inl (dA 0, 900, .inl b_tape))]) (w1 := []) (As := [.int (v2 + v4)]) (rest := [.int v6]) ⟨hx, hb, hml, hown, ht⟩ (zt_J0_charAt_5068e l dC dI dA adK adV _ 37 (v2 + v4) (by decide) v7 hv7) (cwV 1 ht (zb_V (fun _ h => zb_q h) (zb_l zr_59) (zb_l zr_60) (zb_l zr_61) (zb_l zr_50) (zb_l zr_62)) rfl rfl rfl zk_J0_charAt_5068e ⟨Nat.le_of_ble_eq_true rfl, Nat.le_of_ble_eq_true rfl⟩) (vk_recv (adK := fun _ => adK 37) (i := 0) (hZ.2.2.1 37 (by decide)) (by decide) hS) hZ hK hP hD hS hA [] [0, 1] (by decide) (by decide) (by decide) rfl rfl rfl hl.1 (Nat.le_of_ble_eq_true rfl) dX11_keyAt_57 ⟨Nat.zero_le _, Nat.zero_le _⟩ rfl (fun H locs hP hD hS => ?_)
        have hP : va_P (dC, dI) zz_cls [zr_o ad f_thrown f_taped f_at f_behind f_size f_kind f_number f_wrong f_wrongAt f_faultKind f_faultPlace f_reading f_toldWhy f_x f_standMany f_bestMany f_tail f_round1, (ad 4, .inl (dA 0, 900, .inl b_tape))] H := hP
        have hD : va_D A [zr_o ad f_thrown f_taped f_at f_behind f_size f_kind f_number f_wrong f_wrongAt f_faultKind f_faultPlace f_reading f_toldWhy f_x f_standMany f_bestMany f_tail f_round1, (ad 4, .inl (dA 0, 900, .inl b_tape))] := hD
        refine lv_icmp_ne (tgt := 69) (pc := 60) hx hb dX11_keyAt_60 rfl (fun hc => ?_) (fun hc => ?_)
        · have hf := za_f hf hc
          obtain rfl := Option.some.inj hf
          obtain ⟨rfl, rfl⟩ := zp_2 (ex (show ¬ (1 : Nat) = 0 by decide))
          exact E69 _ _ _ ⟨lv_sub hl [0, 1, 2, 3] rfl, hP, hD, hS⟩
        · have hf := za_t hf hc
          obtain ⟨v8, hv8, hf⟩ := zc_1 hf
          refine lv_iinc (v := v8) (lv' := [(3, .int v8), (0, .ref (ad 0)), (1, .int v1), (2, .int v2)]) (k := 3) (pc := 63) hx hb dX11_keyAt_63 hl rfl (Option.some.inj hv8) (by decide) rfl (fun ls hl => ?_)
          refine lv_goto (tgt := 15) (pc := 66) hx hb dX11_keyAt_66 rfl ?_
          obtain rfl := Option.some.inj hf
          exact ih rfl _ _ _ ⟨lv_sub hl [1, 2, 3, 0] rfl, hP, hD, hS⟩

def zb_X11_next_8 (f_size : Int32) (b_tape : (Nat → Int32)) (v1 : Int32) : Option (Nat × Int32) :=
  zd_1 (zf_X11_see f_size b_tape v1) (fun v2 =>
  if v2 = (10 : Int32) then
    zd_1 (some ((v1 + (1 : Int32)))) (fun v3 =>
    some (0, v3))
  else
    zd_1 (zf_X11_see f_size b_tape v1) (fun v4 =>
    if v4 = (32 : Int32) then
      zd_1 (some ((v1 + (1 : Int32)))) (fun v5 =>
      some (0, v5))
    else
      some (1, v1)))
def zb_X11_next_254 (f_size : Int32) (b_tape : (Nat → Int32)) (v6 : Int32) (v13 : Int32) (v14 : Int32) : Option (Nat × Int32 × Int32) :=
  zd_1 (zf_J0_length_8abf5 0) (fun v15 =>
  if v15 ≤ v13 then
    some (1, v13, v14)
  else
    zd_1 (zf_X11_see f_size b_tape v6) (fun v16 =>
    zd_1 (zf_J0_charAt_5068e 0 v13) (fun v17 =>
    zd_1 (
      if v16 = v17 then
        zd_1 (some (((30 : Int32) + v13))) (fun v18 =>
        some v18)
      else
        some v14) (fun v19 =>
    zd_1 (some (v13 + (1 : Int32))) (fun v20 =>
    some (0, v20, v19))))))
def zb_X11_next_146 (f_size : Int32) (b_tape : (Nat → Int32)) (v6 : Int32) (v24 : Int32) (v25 : Int32) : Option (Nat × Int32 × Int32) :=
  zd_1 (zf_X11_see f_size b_tape v24) (fun v26 =>
  zd_1 (zf_X11_isDigit v26) (fun v27 =>
  if v27 = 0 then
    some (1, v24, v25)
  else
    zd_1 (
      if (3 : Int32) ≤ (v24 - v6) then
        some v25
      else
        zd_1 (zf_X11_see f_size b_tape v24) (fun v28 =>
        zd_1 (some (((((10 : Int32) * v25) + v28) - (48 : Int32)))) (fun v29 =>
        some v29))) (fun v30 =>
    zd_1 (some ((v24 + (1 : Int32)))) (fun v31 =>
    some (0, v31, v30)))))
def zb_X11_next_89 (f_size : Int32) (b_tape : (Nat → Int32)) (v36 : Int32) : Option (Nat × Int32) :=
  zd_1 (zf_X11_see f_size b_tape v36) (fun v37 =>
  zd_1 (zf_X11_isSmall v37) (fun v38 =>
  if v38 = 0 then
    some (1, v36)
  else
    zd_1 (some ((v36 + (1 : Int32)))) (fun v39 =>
    some (0, v39))))
def zf_X11_next (n : Nat) (f_at : Int32) (f_behind : Int32) (f_size : Int32) (f_kind : Int32) (f_number : Int32) (b_tape : (Nat → Int32)) : Option (Int32 × Int32 × Int32 × Int32) :=
  zd_2 (za_it (fun v => zb_X11_next_8 f_size b_tape v) n f_behind) (fun g7 v6 =>
  if v6 < f_size then
    zd_1 (zf_X11_see f_size b_tape v6) (fun v8 =>
    zd_1 (zf_X11_isSmall v8) (fun v9 =>
    if v9 = 0 then
      zd_1 (zf_X11_see f_size b_tape v6) (fun v10 =>
      zd_1 (zf_X11_isDigit v10) (fun v11 =>
      if v11 = 0 then
        zd_1 (some ((v6 + (1 : Int32)))) (fun v12 =>
        zd_3 (za_it (fun v => zb_X11_next_254 f_size b_tape v6 v.1 v.2) n ((0 : Int32), (27 : Int32))) (fun g23 v21 v22 =>
        some (v6, v12, v22, f_number)))
      else
        zd_3 (za_it (fun v => zb_X11_next_146 f_size b_tape v6 v.1 v.2) n (v6, (0 : Int32))) (fun g34 v32 v33 =>
        zd_1 (
          if (v32 - v6) ≤ (3 : Int32) then
            some (25 : Int32)
          else
            some (27 : Int32)) (fun v35 =>
        some (v6, v32, v35, v33)))))
    else
      zd_2 (za_it (fun v => zb_X11_next_89 f_size b_tape v) n v6) (fun g41 v40 =>
      zd_1 (zf_X11_keyAt n v6 v40 b_tape) (fun v42 =>
      some (v6, v40, v42, f_number)))))
  else
    some (v6, v6, (26 : Int32), f_number))
theorem zk_X11_next : yX11_next.cls = RX11 ∧ yX11_next.cls ≠ "java/lang/invoke/MethodHandle" ∧ yX11_next.cls ≠ "java/lang/invoke/VarHandle" ∧ (parseMethodDescriptor yX11_next.desc).map (fun d => d.parameters.length) = some 0 := by decide +kernel
set_option maxHeartbeats 4000000 in
set_option maxRecDepth 100000 in
theorem zt_X11_next (l : Launch) (dC : Nat → ClassId) (dI : Nat → Nat → Nat) (dA : Nat → ClassId) (ad : Nat → Nat) (adK adV : Nat → Nat) (sz : Nat) (n : Nat) (f_thrown : Int32) (f_taped : Int32) (f_at : Int32) (f_behind : Int32) (f_size : Int32) (f_kind : Int32) (f_number : Int32) (f_wrong : Int32) (f_wrongAt : Int32) (f_faultKind : Int32) (f_faultPlace : Int32) (f_reading : Int32) (f_toldWhy : Int32) (f_x : Int32) (f_standMany : Int32) (f_bestMany : Int32) (f_tail : Int32) (f_round1 : Int32) (b_tape : (Nat → Int32)) (o1 : Int32) (o2 : Int32) (o3 : Int32) (o4 : Int32) (hf : zf_X11_next n f_at f_behind f_size f_kind f_number b_tape = some (o1, o2, o3, o4)) : Met l yX11_next (.code yX11_next cX11_next 2 none :: zb_T) ({ frames := 5, cells := 0, slots := 0, locals := 108 }) (va_Pc [.ref (ad 0)] (zx_M dC dI dA adK adV [zr_o ad f_thrown f_taped f_at f_behind f_size f_kind f_number f_wrong f_wrongAt f_faultKind f_faultPlace f_reading f_toldWhy f_x f_standMany f_bestMany f_tail f_round1, (ad 4, .inl (dA 0, 900, .inl b_tape))] sz)) (va_Qv (fun _ : Unit => True) (fun _ t => zz_B dC dI dA (va_A [zr_o ad f_thrown f_taped f_at f_behind f_size f_kind f_number f_wrong f_wrongAt f_faultKind f_faultPlace f_reading f_toldWhy f_x f_standMany f_bestMany f_tail f_round1, (ad 4, .inl (dA 0, 900, .inl b_tape))] sz) [zr_o ad f_thrown f_taped o1 o2 f_size o3 o4 f_wrong f_wrongAt f_faultKind f_faultPlace f_reading f_toldWhy f_x f_standMany f_bestMany f_tail f_round1, (ad 4, .inl (dA 0, 900, .inl b_tape))] t) (va_A [zr_o ad f_thrown f_taped f_at f_behind f_size f_kind f_number f_wrong f_wrongAt f_faultKind f_faultPlace f_reading f_toldWhy f_x f_standMany f_bestMany f_tail f_round1, (ad 4, .inl (dA 0, 900, .inl b_tape))] sz)) 0 0 (va_A [zr_o ad f_thrown f_taped f_at f_behind f_size f_kind f_number f_wrong f_wrongAt f_faultKind f_faultPlace f_reading f_toldWhy f_x f_standMany f_bestMany f_tail f_round1, (ad 4, .inl (dA 0, 900, .inl b_tape))] sz) := by
  unfold zf_X11_next at hf
  refine Met.ofW (cc := cX11_next) (maxL := 2) (ret := none) (by decide) rfl ?_
  intro p e s m args below meth c s₁ B hml hv
  obtain ⟨rfl, ⟨hsz, hP, hK, hD0⟩, hZ⟩ := hv
  have hx := B.exec
  have hb := B.bytes
  have hr := B.returns
  have ht : ∀ w ∈ zb_T, w.before ([.ref (ad 0)] : List Value).toArray s = true := fun w hw => atoms_spec (ws := .code yX11_next cX11_next 2 none :: zb_T) B.pre w (List.mem_cons_of_mem _ hw)
  have hown : s.vm.findClass RX11 = some m.cls := findClass_of_methodNamed B.named
  have hlocks := B.notSynchronized
  subst hsz
  have hD := hD0.self (sz := s.heap.size)
  generalize hAe : va_A [zr_o ad f_thrown f_taped f_at f_behind f_size f_kind f_number f_wrong f_wrongAt f_faultKind f_faultPlace f_reading f_toldWhy f_x f_standMany f_bestMany f_tail f_round1, (ad 4, .inl (dA 0, 900, .inl b_tape))] s.heap.size = A at hD hZ ⊢
  have hA : ∀ q : Nat, s.heap.size ≤ q → A q := fun q h => by rw [← hAe]; exact Or.inr h
  clear hAe hD0
  have hS : va_S A s.heap s.heap [] := va_S.rf
  have hl := lv_entry ([.ref (ad 0)]) (n := 2) (Nat.le_of_ble_eq_true rfl)
  rw [lg_entry_eq]
  generalize (lg_sl ([.ref (ad 0)]) ++ List.replicate (2 - (lg_sl ([.ref (ad 0)])).length) Slot.unset).toArray = ls at hl ⊢
  have hl : lv_has ls 2 [(0, .ref (ad 0))] := hl
  refine lv_aload_n (pc := 0) hx hb dX11_next_0 rfl (lv_at hl 0 rfl) ?_
  refine lv_aload_n (pc := 1) hx hb dX11_next_1 rfl (lv_at hl 0 rfl) ?_
  refine va_get (pc := 2) (D := (dC, dI)) (ci := 0) (v := .int f_behind) (C := RX11) (T := TX11) (N := 42) hx hb ht zb_lay hown hK hP 0 rfl rfl 7 (by decide) (ht _ (zb_l zr_46)) (fun _ h9 => h9) rfl dX11_next_2 ?_
  refine va_put (pc := 5) (D := (dC, dI)) (ci := 0) (v := .int f_behind) (ty := .int) (C := RX11) (T := TX11) (N := 42) hx hb ht zb_lay tyX11 tyX11_ok nmX11 hown hK hP hD hS 0 rfl rfl 6 (by decide) (ht _ (zb_l zr_45)) (fun _ h9 => h9) rfl (by decide +kernel) rfl rfl (Nat.le_of_ble_eq_true rfl) dX11_next_5 (fun H locs hP hD hS => ?_)
  have hP : va_P (dC, dI) zz_cls [zr_o ad f_thrown f_taped f_behind f_behind f_size f_kind f_number f_wrong f_wrongAt f_faultKind f_faultPlace f_reading f_toldWhy f_x f_standMany f_bestMany f_tail f_round1, (ad 4, .inl (dA 0, 900, .inl b_tape))] H := hP
  have hD : va_D A [zr_o ad f_thrown f_taped f_behind f_behind f_size f_kind f_number f_wrong f_wrongAt f_faultKind f_faultPlace f_reading f_toldWhy f_x f_standMany f_bestMany f_tail f_round1, (ad 4, .inl (dA 0, 900, .inl b_tape))] := hD
  obtain ⟨g7, v6, hj, hf⟩ := zc_2 hf
  refine zj_join (pcJ := 47) (stk := []) (X := fun H locs ls => lv_has ls 2 [(0, .ref (ad 0))] ∧ va_P (dC, dI) zz_cls [zr_o ad f_thrown f_taped v6 f_behind f_size f_kind f_number f_wrong f_wrongAt f_faultKind f_faultPlace f_reading f_toldWhy f_x f_standMany f_bestMany f_tail f_round1, (ad 4, .inl (dA 0, 900, .inl b_tape))] H ∧ va_D A [zr_o ad f_thrown f_taped v6 f_behind f_size f_kind f_number f_wrong f_wrongAt f_faultKind f_faultPlace f_reading f_toldWhy f_x f_standMany f_bestMany f_tail f_round1, (ad 4, .inl (dA 0, 900, .inl b_tape))] ∧ va_S A s.heap H locs) (fun H locs ls hX => ?_) (fun E47 => ?_)
  · obtain ⟨hl, hP, hD, hS⟩ := hX
    clear hj
    refine lv_aload_n (pc := 47) hx hb dX11_next_47 rfl (lv_at hl 0 rfl) ?_
    refine lv_aload_n (pc := 48) hx hb dX11_next_48 rfl (lv_at hl 0 rfl) ?_
    refine va_get (pc := 49) (D := (dC, dI)) (ci := 0) (v := .int v6) (C := RX11) (T := TX11) (N := 42) hx hb ht zb_lay hown hK hP 0 rfl rfl 6 (by decide) (ht _ (zb_l zr_45)) (fun _ h9 => h9) rfl dX11_next_49 ?_
    refine va_put (pc := 52) (D := (dC, dI)) (ci := 0) (v := .int v6) (ty := .int) (C := RX11) (T := TX11) (N := 42) hx hb ht zb_lay tyX11 tyX11_ok nmX11 hown hK hP hD hS 0 rfl rfl 7 (by decide) (ht _ (zb_l zr_46)) (fun _ h9 => h9) rfl (by decide +kernel) rfl rfl (Nat.le_of_ble_eq_true rfl) dX11_next_52 (fun H locs hP hD hS => ?_)
    have hP : va_P (dC, dI) zz_cls [zr_o ad f_thrown f_taped v6 v6 f_size f_kind f_number f_wrong f_wrongAt f_faultKind f_faultPlace f_reading f_toldWhy f_x f_standMany f_bestMany f_tail f_round1, (ad 4, .inl (dA 0, 900, .inl b_tape))] H := hP
    have hD : va_D A [zr_o ad f_thrown f_taped v6 v6 f_size f_kind f_number f_wrong f_wrongAt f_faultKind f_faultPlace f_reading f_toldWhy f_x f_standMany f_bestMany f_tail f_round1, (ad 4, .inl (dA 0, 900, .inl b_tape))] := hD
    refine lv_aload_n (pc := 55) hx hb dX11_next_55 rfl (lv_at hl 0 rfl) ?_
    refine va_get (pc := 56) (D := (dC, dI)) (ci := 0) (v := .int v6) (C := RX11) (T := TX11) (N := 42) hx hb ht zb_lay hown hK hP 0 rfl rfl 6 (by decide) (ht _ (zb_l zr_45)) (fun _ h9 => h9) rfl dX11_next_56 ?_
    refine lv_aload_n (pc := 59) hx hb dX11_next_59 rfl (lv_at hl 0 rfl) ?_
    refine va_get (pc := 60) (D := (dC, dI)) (ci := 0) (v := .int f_size) (C := RX11) (T := TX11) (N := 42) hx hb ht zb_lay hown hK hP 0 rfl rfl 8 (by decide) (ht _ (zb_l zr_42)) (fun _ h9 => h9) rfl dX11_next_60 ?_
    refine lv_icmp_lt (tgt := 75) (pc := 63) hx hb dX11_next_63 rfl (fun hc => ?_) (fun hc => ?_)
    · have hf := za_t hf hc
      refine lv_aload_n (pc := 75) hx hb dX11_next_75 rfl (lv_at hl 0 rfl) ?_
      refine lv_aload_n (pc := 76) hx hb dX11_next_76 rfl (lv_at hl 0 rfl) ?_
      refine va_get (pc := 77) (D := (dC, dI)) (ci := 0) (v := .int v6) (C := RX11) (T := TX11) (N := 42) hx hb ht zb_lay hown hK hP 0 rfl rfl 6 (by decide) (ht _ (zb_l zr_45)) (fun _ h9 => h9) rfl dX11_next_77 ?_
      obtain ⟨v8, hv8, hf⟩ := zc_1 hf
      refine zw_Vi (pc := 80) (wc := [zr_o ad f_thrown f_taped v6 v6 f_size f_kind f_number f_wrong f_wrongAt f_faultKind f_faultPlace f_reading f_toldWhy f_x f_standMany f_bestMany f_tail f_round1, (ad 4, .inl (dA 0, 900, .inl b_tape))]) (wr := []) (w1 := [zr_o ad f_thrown f_taped v6 v6 f_size f_kind f_number f_wrong f_wrongAt f_faultKind f_faultPlace f_reading f_toldWhy f_x f_standMany f_bestMany f_tail f_round1, (ad 4, .inl (dA 0, 900, .inl b_tape))]) (As := [.int v6]) (rest := []) ⟨hx, hb, hml, hown, ht⟩ (zt_X11_see l dC dI dA ad _ f_thrown f_taped v6 v6 f_size f_kind f_number f_wrong f_wrongAt f_faultKind f_faultPlace f_reading f_toldWhy f_x f_standMany f_bestMany f_tail f_round1 b_tape v6 v8 hv8) (cwV 1 ht (zb_V (fun _ h => zb_l h) (zb_l zr_99) (zb_l zr_100) (zb_l zr_101) (zb_l zr_36) (zb_l zr_41)) rfl rfl rfl zk_X11_see ⟨Nat.le_of_ble_eq_true rfl, Nat.le_of_ble_eq_true rfl⟩) rfl rfl hK hP hD hS hA [0, 1] [] (by decide) (by decide) (by decide) rfl rfl rfl hl.1 (Nat.le_of_ble_eq_true rfl) dX11_next_80 ⟨Nat.zero_le _, Nat.zero_le _⟩ rfl (fun H locs hP hD hS => ?_)
      have hP : va_P (dC, dI) zz_cls [zr_o ad f_thrown f_taped v6 v6 f_size f_kind f_number f_wrong f_wrongAt f_faultKind f_faultPlace f_reading f_toldWhy f_x f_standMany f_bestMany f_tail f_round1, (ad 4, .inl (dA 0, 900, .inl b_tape))] H := hP
      have hD : va_D A [zr_o ad f_thrown f_taped v6 v6 f_size f_kind f_number f_wrong f_wrongAt f_faultKind f_faultPlace f_reading f_toldWhy f_x f_standMany f_bestMany f_tail f_round1, (ad 4, .inl (dA 0, 900, .inl b_tape))] := hD
      obtain ⟨v9, hv9, hf⟩ := zc_1 hf
      refine zw_Si (pc := 83) (wc := []) (wr := [zr_o ad f_thrown f_taped v6 v6 f_size f_kind f_number f_wrong f_wrongAt f_faultKind f_faultPlace f_reading f_toldWhy f_x f_standMany f_bestMany f_tail f_round1, (ad 4, .inl (dA 0, 900, .inl b_tape))]) (w1 := []) (As := [.int v8]) (rest := []) ⟨hx, hb, hml, hown, ht⟩ (zt_X11_isSmall l dC dI dA ad _ v8 v9 hv9) (cwS 1 ht (zb_S (fun _ h => zb_l h) (zb_l zr_102) (zb_l zr_103) (zb_l zr_36) (zb_l zr_43)) rfl rfl rfl zk_X11_isSmall ⟨Nat.le_of_ble_eq_true rfl, Nat.le_of_ble_eq_true rfl⟩) hK hP hD hS hA [] [0, 1] (by decide) (by decide) (by decide) rfl rfl rfl hl.1 (Nat.le_of_ble_eq_true rfl) dX11_next_83 ⟨Nat.zero_le _, Nat.zero_le _⟩ rfl (fun H locs hP hD hS => ?_)
      have hP : va_P (dC, dI) zz_cls [zr_o ad f_thrown f_taped v6 v6 f_size f_kind f_number f_wrong f_wrongAt f_faultKind f_faultPlace f_reading f_toldWhy f_x f_standMany f_bestMany f_tail f_round1, (ad 4, .inl (dA 0, 900, .inl b_tape))] H := hP
      have hD : va_D A [zr_o ad f_thrown f_taped v6 v6 f_size f_kind f_number f_wrong f_wrongAt f_faultKind f_faultPlace f_reading f_toldWhy f_x f_standMany f_bestMany f_tail f_round1, (ad 4, .inl (dA 0, 900, .inl b_tape))] := hD
      refine lv_if_eq (tgt := 127) (pc := 86) hx hb dX11_next_86 rfl (fun hc => ?_) (fun hc => ?_)
      · have hf := za_t hf hc
        refine lv_aload_n (pc := 127) hx hb dX11_next_127 rfl (lv_at hl 0 rfl) ?_
        refine lv_aload_n (pc := 128) hx hb dX11_next_128 rfl (lv_at hl 0 rfl) ?_
        refine va_get (pc := 129) (D := (dC, dI)) (ci := 0) (v := .int v6) (C := RX11) (T := TX11) (N := 42) hx hb ht zb_lay hown hK hP 0 rfl rfl 6 (by decide) (ht _ (zb_l zr_45)) (fun _ h9 => h9) rfl dX11_next_129 ?_
        obtain ⟨v10, hv10, hf⟩ := zc_1 hf
        refine zw_Vi (pc := 132) (wc := [zr_o ad f_thrown f_taped v6 v6 f_size f_kind f_number f_wrong f_wrongAt f_faultKind f_faultPlace f_reading f_toldWhy f_x f_standMany f_bestMany f_tail f_round1, (ad 4, .inl (dA 0, 900, .inl b_tape))]) (wr := []) (w1 := [zr_o ad f_thrown f_taped v6 v6 f_size f_kind f_number f_wrong f_wrongAt f_faultKind f_faultPlace f_reading f_toldWhy f_x f_standMany f_bestMany f_tail f_round1, (ad 4, .inl (dA 0, 900, .inl b_tape))]) (As := [.int v6]) (rest := []) ⟨hx, hb, hml, hown, ht⟩ (zt_X11_see l dC dI dA ad _ f_thrown f_taped v6 v6 f_size f_kind f_number f_wrong f_wrongAt f_faultKind f_faultPlace f_reading f_toldWhy f_x f_standMany f_bestMany f_tail f_round1 b_tape v6 v10 hv10) (cwV 1 ht (zb_V (fun _ h => zb_l h) (zb_l zr_99) (zb_l zr_100) (zb_l zr_101) (zb_l zr_36) (zb_l zr_41)) rfl rfl rfl zk_X11_see ⟨Nat.le_of_ble_eq_true rfl, Nat.le_of_ble_eq_true rfl⟩) rfl rfl hK hP hD hS hA [0, 1] [] (by decide) (by decide) (by decide) rfl rfl rfl hl.1 (Nat.le_of_ble_eq_true rfl) dX11_next_132 ⟨Nat.zero_le _, Nat.zero_le _⟩ rfl (fun H locs hP hD hS => ?_)
        have hP : va_P (dC, dI) zz_cls [zr_o ad f_thrown f_taped v6 v6 f_size f_kind f_number f_wrong f_wrongAt f_faultKind f_faultPlace f_reading f_toldWhy f_x f_standMany f_bestMany f_tail f_round1, (ad 4, .inl (dA 0, 900, .inl b_tape))] H := hP
        have hD : va_D A [zr_o ad f_thrown f_taped v6 v6 f_size f_kind f_number f_wrong f_wrongAt f_faultKind f_faultPlace f_reading f_toldWhy f_x f_standMany f_bestMany f_tail f_round1, (ad 4, .inl (dA 0, 900, .inl b_tape))] := hD
        obtain ⟨v11, hv11, hf⟩ := zc_1 hf
        refine zw_Si (pc := 135) (wc := []) (wr := [zr_o ad f_thrown f_taped v6 v6 f_size f_kind f_number f_wrong f_wrongAt f_faultKind f_faultPlace f_reading f_toldWhy f_x f_standMany f_bestMany f_tail f_round1, (ad 4, .inl (dA 0, 900, .inl b_tape))]) (w1 := []) (As := [.int v10]) (rest := []) ⟨hx, hb, hml, hown, ht⟩ (zt_X11_isDigit l dC dI dA ad _ v10 v11 hv11) (cwS 1 ht (zb_S (fun _ h => zb_l h) (zb_l zr_107) (zb_l zr_108) (zb_l zr_36) (zb_l zr_44)) rfl rfl rfl zk_X11_isDigit ⟨Nat.le_of_ble_eq_true rfl, Nat.le_of_ble_eq_true rfl⟩) hK hP hD hS hA [] [0, 1] (by decide) (by decide) (by decide) rfl rfl rfl hl.1 (Nat.le_of_ble_eq_true rfl) dX11_next_135 ⟨Nat.zero_le _, Nat.zero_le _⟩ rfl (fun H locs hP hD hS => ?_)
        have hP : va_P (dC, dI) zz_cls [zr_o ad f_thrown f_taped v6 v6 f_size f_kind f_number f_wrong f_wrongAt f_faultKind f_faultPlace f_reading f_toldWhy f_x f_standMany f_bestMany f_tail f_round1, (ad 4, .inl (dA 0, 900, .inl b_tape))] H := hP
        have hD : va_D A [zr_o ad f_thrown f_taped v6 v6 f_size f_kind f_number f_wrong f_wrongAt f_faultKind f_faultPlace f_reading f_toldWhy f_x f_standMany f_bestMany f_tail f_round1, (ad 4, .inl (dA 0, 900, .inl b_tape))] := hD
        refine lv_if_eq (tgt := 236) (pc := 138) hx hb dX11_next_138 rfl (fun hc => ?_) (fun hc => ?_)
        · have hf := za_t hf hc
          refine lv_aload_n (pc := 236) hx hb dX11_next_236 rfl (lv_at hl 0 rfl) ?_
          refine lv_dup (pc := 237) hx hb dX11_next_237 rfl ?_
          refine va_get (pc := 238) (D := (dC, dI)) (ci := 0) (v := .int v6) (C := RX11) (T := TX11) (N := 42) hx hb ht zb_lay hown hK hP 0 rfl rfl 7 (by decide) (ht _ (zb_l zr_46)) (fun _ h9 => h9) rfl dX11_next_238 ?_
          refine lv_iconst (v := (1 : Int32)) (pc := 241) hx hb dX11_next_241 (by decide) ?_
          refine lv_iadd (pc := 242) hx hb dX11_next_242 ?_
          obtain ⟨v12, hv12, hf⟩ := zc_1 hf
          refine zw_top (hv12) ?_
          refine va_put (pc := 243) (D := (dC, dI)) (ci := 0) (v := .int v12) (ty := .int) (C := RX11) (T := TX11) (N := 42) hx hb ht zb_lay tyX11 tyX11_ok nmX11 hown hK hP hD hS 0 rfl rfl 7 (by decide) (ht _ (zb_l zr_46)) (fun _ h9 => h9) rfl (by decide +kernel) rfl rfl (Nat.le_of_ble_eq_true rfl) dX11_next_243 (fun H locs hP hD hS => ?_)
          have hP : va_P (dC, dI) zz_cls [zr_o ad f_thrown f_taped v6 v12 f_size f_kind f_number f_wrong f_wrongAt f_faultKind f_faultPlace f_reading f_toldWhy f_x f_standMany f_bestMany f_tail f_round1, (ad 4, .inl (dA 0, 900, .inl b_tape))] H := hP
          have hD : va_D A [zr_o ad f_thrown f_taped v6 v12 f_size f_kind f_number f_wrong f_wrongAt f_faultKind f_faultPlace f_reading f_toldWhy f_x f_standMany f_bestMany f_tail f_round1, (ad 4, .inl (dA 0, 900, .inl b_tape))] := hD
          refine lv_aload_n (pc := 246) hx hb dX11_next_246 rfl (lv_at hl 0 rfl) ?_
          refine lv_bipush (v := (27 : Int32)) (pc := 247) hx hb dX11_next_247 (by decide) ?_
          refine va_put (pc := 249) (D := (dC, dI)) (ci := 0) (v := .int (27 : Int32)) (ty := .int) (C := RX11) (T := TX11) (N := 42) hx hb ht zb_lay tyX11 tyX11_ok nmX11 hown hK hP hD hS 0 rfl rfl 9 (by decide) (ht _ (zb_l zr_97)) (fun _ h9 => h9) rfl (by decide +kernel) rfl rfl (Nat.le_of_ble_eq_true rfl) dX11_next_249 (fun H locs hP hD hS => ?_)
          have hP : va_P (dC, dI) zz_cls [zr_o ad f_thrown f_taped v6 v12 f_size (27 : Int32) f_number f_wrong f_wrongAt f_faultKind f_faultPlace f_reading f_toldWhy f_x f_standMany f_bestMany f_tail f_round1, (ad 4, .inl (dA 0, 900, .inl b_tape))] H := hP
          have hD : va_D A [zr_o ad f_thrown f_taped v6 v12 f_size (27 : Int32) f_number f_wrong f_wrongAt f_faultKind f_faultPlace f_reading f_toldWhy f_x f_standMany f_bestMany f_tail f_round1, (ad 4, .inl (dA 0, 900, .inl b_tape))] := hD
          refine lv_iconst (v := (0 : Int32)) (pc := 252) hx hb dX11_next_252 (by decide) ?_
          refine lv_istore_n (lv' := [(1, .int (0 : Int32)), (0, .ref (ad 0))]) (pc := 253) hx hb dX11_next_253 rfl hl (by decide) rfl (fun ls hl => ?_)
          obtain ⟨g23, v21, v22, hj, hf⟩ := zc_3 hf
          refine zj_join (pcJ := 294) (stk := []) (X := fun H locs ls => lv_has ls 2 [] ∧ va_P (dC, dI) zz_cls [zr_o ad f_thrown f_taped v6 v12 f_size v22 f_number f_wrong f_wrongAt f_faultKind f_faultPlace f_reading f_toldWhy f_x f_standMany f_bestMany f_tail f_round1, (ad 4, .inl (dA 0, 900, .inl b_tape))] H ∧ va_D A [zr_o ad f_thrown f_taped v6 v12 f_size v22 f_number f_wrong f_wrongAt f_faultKind f_faultPlace f_reading f_toldWhy f_x f_standMany f_bestMany f_tail f_round1, (ad 4, .inl (dA 0, 900, .inl b_tape))] ∧ va_S A s.heap H locs) (fun H locs ls hX => ?_) (fun E294 => ?_)
          · obtain ⟨hl, hP, hD, hS⟩ := hX
            clear hj
            obtain ⟨rfl, rfl, rfl, rfl⟩ := zi_4 hf
            exact W.vret (pc := 294) hx hb hr (fun t ht hW => ⟨⟨(), rfl, trivial, zz_Bi (by rw [ht]; exact hP) (va_K.moved hW.alike hK) (hD)⟩, hS.F ht⟩) hS.2.2 dX11_next_294
          clear hf
          refine zw_loop (pcH := 254) (X := fun v H locs ls => lv_has ls 2 [(0, .ref (ad 0)), (1, .int v.1)] ∧ va_P (dC, dI) zz_cls [zr_o ad f_thrown f_taped v6 v12 f_size v.2 f_number f_wrong f_wrongAt f_faultKind f_faultPlace f_reading f_toldWhy f_x f_standMany f_bestMany f_tail f_round1, (ad 4, .inl (dA 0, 900, .inl b_tape))] H ∧ va_D A [zr_o ad f_thrown f_taped v6 v12 f_size v.2 f_number f_wrong f_wrongAt f_faultKind f_faultPlace f_reading f_toldWhy f_x f_standMany f_bestMany f_tail f_round1, (ad 4, .inl (dA 0, 900, .inl b_tape))] ∧ va_S A s.heap H locs) hj (fun v w hf ih ex H locs ls hX => ?_) _ _ _ ⟨lv_sub hl [1, 0] rfl, hP, hD, hS⟩
          clear hj
          obtain ⟨v13, v14⟩ := v
          obtain ⟨hl, hP, hD, hS⟩ := hX
          have hl : lv_has ls 2 [(0, .ref (ad 0)), (1, .int v13)] := hl
          have hP : va_P (dC, dI) zz_cls [zr_o ad f_thrown f_taped v6 v12 f_size v14 f_number f_wrong f_wrongAt f_faultKind f_faultPlace f_reading f_toldWhy f_x f_standMany f_bestMany f_tail f_round1, (ad 4, .inl (dA 0, 900, .inl b_tape))] H := hP
          have hD : va_D A [zr_o ad f_thrown f_taped v6 v12 f_size v14 f_number f_wrong f_wrongAt f_faultKind f_faultPlace f_reading f_toldWhy f_x f_standMany f_bestMany f_tail f_round1, (ad 4, .inl (dA 0, 900, .inl b_tape))] := hD
          replace hf : zb_X11_next_254 f_size b_tape v6 v13 v14 = some w := hf
          unfold zb_X11_next_254 at hf
          refine lv_iload_n (pc := 254) hx hb dX11_next_254 rfl (lv_at hl 1 rfl) ?_
          refine va_ldcS (pc := 255) hx hb hown (zx_r38 hZ) dX11_next_255 ?_
          obtain ⟨v15, hv15, hf⟩ := zc_1 hf
          refine zx_Ki (pc := 257) (wc := []) (wr := [zr_o ad f_thrown f_taped v6 v12 f_size v14 f_number f_wrong f_wrongAt f_faultKind f_faultPlace f_reading f_toldWhy f_x f_standMany f_bestMany f_tail f_round1, (ad 4, .inl (dA 0, 900, .inl b_tape))]) (w1 := []) (As := []) (rest := [.int v13]) ⟨hx, hb, hml, hown, ht⟩ (zt_J0_length_8abf5 l dC dI dA adK adV _ 0 (by decide) v15 hv15) (cwV 0 ht (zb_V (fun _ h => zb_q h) (zb_l zr_47) (zb_l zr_48) (zb_l zr_49) (zb_l zr_50) (zb_l zr_51)) rfl rfl rfl zk_J0_length_8abf5 ⟨Nat.le_of_ble_eq_true rfl, Nat.le_of_ble_eq_true rfl⟩) (vk_recv (adK := fun _ => adK 0) (i := 0) (hZ.2.2.1 0 (by decide)) (by decide) hS) hZ hK hP hD hS hA [] [0, 1] (by decide) (by decide) (by decide) rfl rfl rfl hl.1 (Nat.le_of_ble_eq_true rfl) dX11_next_257 ⟨Nat.zero_le _, Nat.zero_le _⟩ rfl (fun H locs hP hD hS => ?_)
          have hP : va_P (dC, dI) zz_cls [zr_o ad f_thrown f_taped v6 v12 f_size v14 f_number f_wrong f_wrongAt f_faultKind f_faultPlace f_reading f_toldWhy f_x f_standMany f_bestMany f_tail f_round1, (ad 4, .inl (dA 0, 900, .inl b_tape))] H := hP
          have hD : va_D A [zr_o ad f_thrown f_taped v6 v12 f_size v14 f_number f_wrong f_wrongAt f_faultKind f_faultPlace f_reading f_toldWhy f_x f_standMany f_bestMany f_tail f_round1, (ad 4, .inl (dA 0, 900, .inl b_tape))] := hD
          refine lv_icmp_ge (tgt := 294) (pc := 260) hx hb dX11_next_260 rfl (fun hc => ?_) (fun hc => ?_)
          · have hf := za_t hf hc
            obtain rfl := Option.some.inj hf
            obtain ⟨rfl, rfl, rfl⟩ := zp_3 (ex (show ¬ (1 : Nat) = 0 by decide))
            exact E294 _ _ _ ⟨lv_sub hl [] rfl, hP, hD, hS⟩
          · have hf := za_f hf hc
            refine lv_aload_n (pc := 263) hx hb dX11_next_263 rfl (lv_at hl 0 rfl) ?_
            refine lv_aload_n (pc := 264) hx hb dX11_next_264 rfl (lv_at hl 0 rfl) ?_
            refine va_get (pc := 265) (D := (dC, dI)) (ci := 0) (v := .int v6) (C := RX11) (T := TX11) (N := 42) hx hb ht zb_lay hown hK hP 0 rfl rfl 6 (by decide) (ht _ (zb_l zr_45)) (fun _ h9 => h9) rfl dX11_next_265 ?_
            obtain ⟨v16, hv16, hf⟩ := zc_1 hf
            refine zw_Vi (pc := 268) (wc := [zr_o ad f_thrown f_taped v6 v12 f_size v14 f_number f_wrong f_wrongAt f_faultKind f_faultPlace f_reading f_toldWhy f_x f_standMany f_bestMany f_tail f_round1, (ad 4, .inl (dA 0, 900, .inl b_tape))]) (wr := []) (w1 := [zr_o ad f_thrown f_taped v6 v12 f_size v14 f_number f_wrong f_wrongAt f_faultKind f_faultPlace f_reading f_toldWhy f_x f_standMany f_bestMany f_tail f_round1, (ad 4, .inl (dA 0, 900, .inl b_tape))]) (As := [.int v6]) (rest := []) ⟨hx, hb, hml, hown, ht⟩ (zt_X11_see l dC dI dA ad _ f_thrown f_taped v6 v12 f_size v14 f_number f_wrong f_wrongAt f_faultKind f_faultPlace f_reading f_toldWhy f_x f_standMany f_bestMany f_tail f_round1 b_tape v6 v16 hv16) (cwV 1 ht (zb_V (fun _ h => zb_l h) (zb_l zr_99) (zb_l zr_100) (zb_l zr_101) (zb_l zr_36) (zb_l zr_41)) rfl rfl rfl zk_X11_see ⟨Nat.le_of_ble_eq_true rfl, Nat.le_of_ble_eq_true rfl⟩) rfl rfl hK hP hD hS hA [0, 1] [] (by decide) (by decide) (by decide) rfl rfl rfl hl.1 (Nat.le_of_ble_eq_true rfl) dX11_next_268 ⟨Nat.zero_le _, Nat.zero_le _⟩ rfl (fun H locs hP hD hS => ?_)
            have hP : va_P (dC, dI) zz_cls [zr_o ad f_thrown f_taped v6 v12 f_size v14 f_number f_wrong f_wrongAt f_faultKind f_faultPlace f_reading f_toldWhy f_x f_standMany f_bestMany f_tail f_round1, (ad 4, .inl (dA 0, 900, .inl b_tape))] H := hP
            have hD : va_D A [zr_o ad f_thrown f_taped v6 v12 f_size v14 f_number f_wrong f_wrongAt f_faultKind f_faultPlace f_reading f_toldWhy f_x f_standMany f_bestMany f_tail f_round1, (ad 4, .inl (dA 0, 900, .inl b_tape))] := hD
            refine va_ldcS (pc := 271) hx hb hown (zx_r38 hZ) dX11_next_271 ?_
            refine lv_iload_n (pc := 273) hx hb dX11_next_273 rfl (lv_at hl 1 rfl) ?_
            obtain ⟨v17, hv17, hf⟩ := zc_1 hf
            refine zx_Ki (pc := 274) (wc := []) (wr := [zr_o ad f_thrown f_taped v6 v12 f_size v14 f_number f_wrong f_wrongAt f_faultKind f_faultPlace f_reading f_toldWhy f_x f_standMany f_bestMany f_tail f_round1, (ad 4, .inl (dA 0, 900, .inl b_tape))]) (w1 := []) (As := [.int v13]) (rest := [.int v16]) ⟨hx, hb, hml, hown, ht⟩ (zt_J0_charAt_5068e l dC dI dA adK adV _ 0 v13 (by decide) v17 hv17) (cwV 1 ht (zb_V (fun _ h => zb_q h) (zb_l zr_59) (zb_l zr_60) (zb_l zr_61) (zb_l zr_50) (zb_l zr_62)) rfl rfl rfl zk_J0_charAt_5068e ⟨Nat.le_of_ble_eq_true rfl, Nat.le_of_ble_eq_true rfl⟩) (vk_recv (adK := fun _ => adK 0) (i := 0) (hZ.2.2.1 0 (by decide)) (by decide) hS) hZ hK hP hD hS hA [] [0, 1] (by decide) (by decide) (by decide) rfl rfl rfl hl.1 (Nat.le_of_ble_eq_true rfl) dX11_next_274 ⟨Nat.zero_le _, Nat.zero_le _⟩ rfl (fun H locs hP hD hS => ?_)
            have hP : va_P (dC, dI) zz_cls [zr_o ad f_thrown f_taped v6 v12 f_size v14 f_number f_wrong f_wrongAt f_faultKind f_faultPlace f_reading f_toldWhy f_x f_standMany f_bestMany f_tail f_round1, (ad 4, .inl (dA 0, 900, .inl b_tape))] H := hP
            have hD : va_D A [zr_o ad f_thrown f_taped v6 v12 f_size v14 f_number f_wrong f_wrongAt f_faultKind f_faultPlace f_reading f_toldWhy f_x f_standMany f_bestMany f_tail f_round1, (ad 4, .inl (dA 0, 900, .inl b_tape))] := hD
            obtain ⟨v19, hj, hf⟩ := zc_1 hf
            refine zj_join (pcJ := 288) (stk := []) (X := fun H locs ls => lv_has ls 2 [(0, .ref (ad 0)), (1, .int v13)] ∧ va_P (dC, dI) zz_cls [zr_o ad f_thrown f_taped v6 v12 f_size v19 f_number f_wrong f_wrongAt f_faultKind f_faultPlace f_reading f_toldWhy f_x f_standMany f_bestMany f_tail f_round1, (ad 4, .inl (dA 0, 900, .inl b_tape))] H ∧ va_D A [zr_o ad f_thrown f_taped v6 v12 f_size v19 f_number f_wrong f_wrongAt f_faultKind f_faultPlace f_reading f_toldWhy f_x f_standMany f_bestMany f_tail f_round1, (ad 4, .inl (dA 0, 900, .inl b_tape))] ∧ va_S A s.heap H locs) (fun H locs ls hX => ?_) (fun J288 => ?_)
            · obtain ⟨hl, hP, hD, hS⟩ := hX
              clear hj
              obtain ⟨v20, hv20, hf⟩ := zc_1 hf
              refine lv_iinc (v := v20) (lv' := [(1, .int v20), (0, .ref (ad 0))]) (k := 1) (pc := 288) hx hb dX11_next_288 hl rfl (Option.some.inj hv20) (by decide) rfl (fun ls hl => ?_)
              refine lv_goto (tgt := 254) (pc := 291) hx hb dX11_next_291 rfl ?_
              obtain rfl := Option.some.inj hf
              exact ih rfl _ _ _ ⟨lv_sub hl [1, 0] rfl, hP, hD, hS⟩
            · clear hf
              have hf := hj
              clear hj
              refine lv_icmp_ne (tgt := 288) (pc := 277) hx hb dX11_next_277 rfl (fun hc => ?_) (fun hc => ?_)
              · have hf := za_f hf hc
                obtain rfl := Option.some.inj hf
                exact J288 _ _ _ ⟨lv_sub hl [0, 1] rfl, hP, hD, hS⟩
              · have hf := za_t hf hc
                refine lv_aload_n (pc := 280) hx hb dX11_next_280 rfl (lv_at hl 0 rfl) ?_
                refine lv_bipush (v := (30 : Int32)) (pc := 281) hx hb dX11_next_281 (by decide) ?_
                refine lv_iload_n (pc := 283) hx hb dX11_next_283 rfl (lv_at hl 1 rfl) ?_
                refine lv_iadd (pc := 284) hx hb dX11_next_284 ?_
                obtain ⟨v18, hv18, hf⟩ := zc_1 hf
                refine zw_top (hv18) ?_
                refine va_put (pc := 285) (D := (dC, dI)) (ci := 0) (v := .int v18) (ty := .int) (C := RX11) (T := TX11) (N := 42) hx hb ht zb_lay tyX11 tyX11_ok nmX11 hown hK hP hD hS 0 rfl rfl 9 (by decide) (ht _ (zb_l zr_97)) (fun _ h9 => h9) rfl (by decide +kernel) rfl rfl (Nat.le_of_ble_eq_true rfl) dX11_next_285 (fun H locs hP hD hS => ?_)
                have hP : va_P (dC, dI) zz_cls [zr_o ad f_thrown f_taped v6 v12 f_size v18 f_number f_wrong f_wrongAt f_faultKind f_faultPlace f_reading f_toldWhy f_x f_standMany f_bestMany f_tail f_round1, (ad 4, .inl (dA 0, 900, .inl b_tape))] H := hP
                have hD : va_D A [zr_o ad f_thrown f_taped v6 v12 f_size v18 f_number f_wrong f_wrongAt f_faultKind f_faultPlace f_reading f_toldWhy f_x f_standMany f_bestMany f_tail f_round1, (ad 4, .inl (dA 0, 900, .inl b_tape))] := hD
                obtain rfl := Option.some.inj hf
                exact J288 _ _ _ ⟨lv_sub hl [0, 1] rfl, hP, hD, hS⟩
        · have hf := za_f hf hc
          refine lv_aload_n (pc := 141) hx hb dX11_next_141 rfl (lv_at hl 0 rfl) ?_
          refine lv_iconst (v := (0 : Int32)) (pc := 142) hx hb dX11_next_142 (by decide) ?_
          refine va_put (pc := 143) (D := (dC, dI)) (ci := 0) (v := .int (0 : Int32)) (ty := .int) (C := RX11) (T := TX11) (N := 42) hx hb ht zb_lay tyX11 tyX11_ok nmX11 hown hK hP hD hS 0 rfl rfl 10 (by decide) (ht _ (zb_l zr_98)) (fun _ h9 => h9) rfl (by decide +kernel) rfl rfl (Nat.le_of_ble_eq_true rfl) dX11_next_143 (fun H locs hP hD hS => ?_)
          have hP : va_P (dC, dI) zz_cls [zr_o ad f_thrown f_taped v6 v6 f_size f_kind (0 : Int32) f_wrong f_wrongAt f_faultKind f_faultPlace f_reading f_toldWhy f_x f_standMany f_bestMany f_tail f_round1, (ad 4, .inl (dA 0, 900, .inl b_tape))] H := hP
          have hD : va_D A [zr_o ad f_thrown f_taped v6 v6 f_size f_kind (0 : Int32) f_wrong f_wrongAt f_faultKind f_faultPlace f_reading f_toldWhy f_x f_standMany f_bestMany f_tail f_round1, (ad 4, .inl (dA 0, 900, .inl b_tape))] := hD
          obtain ⟨g34, v32, v33, hj, hf⟩ := zc_3 hf
          refine zj_join (pcJ := 209) (stk := []) (X := fun H locs ls => lv_has ls 2 [(0, .ref (ad 0))] ∧ va_P (dC, dI) zz_cls [zr_o ad f_thrown f_taped v6 v32 f_size f_kind v33 f_wrong f_wrongAt f_faultKind f_faultPlace f_reading f_toldWhy f_x f_standMany f_bestMany f_tail f_round1, (ad 4, .inl (dA 0, 900, .inl b_tape))] H ∧ va_D A [zr_o ad f_thrown f_taped v6 v32 f_size f_kind v33 f_wrong f_wrongAt f_faultKind f_faultPlace f_reading f_toldWhy f_x f_standMany f_bestMany f_tail f_round1, (ad 4, .inl (dA 0, 900, .inl b_tape))] ∧ va_S A s.heap H locs) (fun H locs ls hX => ?_) (fun E209 => ?_)
          · obtain ⟨hl, hP, hD, hS⟩ := hX
            clear hj
            refine lv_aload_n (pc := 209) hx hb dX11_next_209 rfl (lv_at hl 0 rfl) ?_
            refine lv_aload_n (pc := 210) hx hb dX11_next_210 rfl (lv_at hl 0 rfl) ?_
            refine va_get (pc := 211) (D := (dC, dI)) (ci := 0) (v := .int v32) (C := RX11) (T := TX11) (N := 42) hx hb ht zb_lay hown hK hP 0 rfl rfl 7 (by decide) (ht _ (zb_l zr_46)) (fun _ h9 => h9) rfl dX11_next_211 ?_
            refine lv_aload_n (pc := 214) hx hb dX11_next_214 rfl (lv_at hl 0 rfl) ?_
            refine va_get (pc := 215) (D := (dC, dI)) (ci := 0) (v := .int v6) (C := RX11) (T := TX11) (N := 42) hx hb ht zb_lay hown hK hP 0 rfl rfl 6 (by decide) (ht _ (zb_l zr_45)) (fun _ h9 => h9) rfl dX11_next_215 ?_
            refine lv_isub (pc := 218) hx hb dX11_next_218 ?_
            refine lv_iconst (v := (3 : Int32)) (pc := 219) hx hb dX11_next_219 (by decide) ?_
            obtain ⟨v35, hj, hf⟩ := zc_1 hf
            refine zj_join (pcJ := 230) (stk := [.int v35, .ref (ad 0)]) (X := fun H locs ls => lv_has ls 2 [] ∧ va_P (dC, dI) zz_cls [zr_o ad f_thrown f_taped v6 v32 f_size f_kind v33 f_wrong f_wrongAt f_faultKind f_faultPlace f_reading f_toldWhy f_x f_standMany f_bestMany f_tail f_round1, (ad 4, .inl (dA 0, 900, .inl b_tape))] H ∧ va_D A [zr_o ad f_thrown f_taped v6 v32 f_size f_kind v33 f_wrong f_wrongAt f_faultKind f_faultPlace f_reading f_toldWhy f_x f_standMany f_bestMany f_tail f_round1, (ad 4, .inl (dA 0, 900, .inl b_tape))] ∧ va_S A s.heap H locs) (fun H locs ls hX => ?_) (fun J230 => ?_)
            · obtain ⟨hl, hP, hD, hS⟩ := hX
              clear hj
              refine va_put (pc := 230) (D := (dC, dI)) (ci := 0) (v := .int v35) (ty := .int) (C := RX11) (T := TX11) (N := 42) hx hb ht zb_lay tyX11 tyX11_ok nmX11 hown hK hP hD hS 0 rfl rfl 9 (by decide) (ht _ (zb_l zr_97)) (fun _ h9 => h9) rfl (by decide +kernel) rfl rfl (Nat.le_of_ble_eq_true rfl) dX11_next_230 (fun H locs hP hD hS => ?_)
              have hP : va_P (dC, dI) zz_cls [zr_o ad f_thrown f_taped v6 v32 f_size v35 v33 f_wrong f_wrongAt f_faultKind f_faultPlace f_reading f_toldWhy f_x f_standMany f_bestMany f_tail f_round1, (ad 4, .inl (dA 0, 900, .inl b_tape))] H := hP
              have hD : va_D A [zr_o ad f_thrown f_taped v6 v32 f_size v35 v33 f_wrong f_wrongAt f_faultKind f_faultPlace f_reading f_toldWhy f_x f_standMany f_bestMany f_tail f_round1, (ad 4, .inl (dA 0, 900, .inl b_tape))] := hD
              refine lv_goto (tgt := 294) (pc := 233) hx hb dX11_next_233 rfl ?_
              obtain ⟨rfl, rfl, rfl, rfl⟩ := zi_4 hf
              exact W.vret (pc := 294) hx hb hr (fun t ht hW => ⟨⟨(), rfl, trivial, zz_Bi (by rw [ht]; exact hP) (va_K.moved hW.alike hK) (hD)⟩, hS.F ht⟩) hS.2.2 dX11_next_294
            · clear hf
              have hf := hj
              clear hj
              refine lv_icmp_le (tgt := 228) (pc := 220) hx hb dX11_next_220 rfl (fun hc => ?_) (fun hc => ?_)
              · have hf := za_t hf hc
                refine lv_bipush (v := (25 : Int32)) (pc := 228) hx hb dX11_next_228 (by decide) ?_
                obtain rfl := Option.some.inj hf
                exact J230 _ _ _ ⟨lv_sub hl [] rfl, hP, hD, hS⟩
              · have hf := za_f hf hc
                refine lv_bipush (v := (27 : Int32)) (pc := 223) hx hb dX11_next_223 (by decide) ?_
                refine lv_goto (tgt := 230) (pc := 225) hx hb dX11_next_225 rfl ?_
                obtain rfl := Option.some.inj hf
                exact J230 _ _ _ ⟨lv_sub hl [] rfl, hP, hD, hS⟩
          clear hf
          refine zw_loop (pcH := 146) (X := fun v H locs ls => lv_has ls 2 [(0, .ref (ad 0))] ∧ va_P (dC, dI) zz_cls [zr_o ad f_thrown f_taped v6 v.1 f_size f_kind v.2 f_wrong f_wrongAt f_faultKind f_faultPlace f_reading f_toldWhy f_x f_standMany f_bestMany f_tail f_round1, (ad 4, .inl (dA 0, 900, .inl b_tape))] H ∧ va_D A [zr_o ad f_thrown f_taped v6 v.1 f_size f_kind v.2 f_wrong f_wrongAt f_faultKind f_faultPlace f_reading f_toldWhy f_x f_standMany f_bestMany f_tail f_round1, (ad 4, .inl (dA 0, 900, .inl b_tape))] ∧ va_S A s.heap H locs) hj (fun v w hf ih ex H locs ls hX => ?_) _ _ _ ⟨lv_sub hl [0] rfl, hP, hD, hS⟩
          clear hj
          obtain ⟨v24, v25⟩ := v
          obtain ⟨hl, hP, hD, hS⟩ := hX
          have hl : lv_has ls 2 [(0, .ref (ad 0))] := hl
          have hP : va_P (dC, dI) zz_cls [zr_o ad f_thrown f_taped v6 v24 f_size f_kind v25 f_wrong f_wrongAt f_faultKind f_faultPlace f_reading f_toldWhy f_x f_standMany f_bestMany f_tail f_round1, (ad 4, .inl (dA 0, 900, .inl b_tape))] H := hP
          have hD : va_D A [zr_o ad f_thrown f_taped v6 v24 f_size f_kind v25 f_wrong f_wrongAt f_faultKind f_faultPlace f_reading f_toldWhy f_x f_standMany f_bestMany f_tail f_round1, (ad 4, .inl (dA 0, 900, .inl b_tape))] := hD
          replace hf : zb_X11_next_146 f_size b_tape v6 v24 v25 = some w := hf
          unfold zb_X11_next_146 at hf
          refine lv_aload_n (pc := 146) hx hb dX11_next_146 rfl (lv_at hl 0 rfl) ?_
          refine lv_aload_n (pc := 147) hx hb dX11_next_147 rfl (lv_at hl 0 rfl) ?_
          refine va_get (pc := 148) (D := (dC, dI)) (ci := 0) (v := .int v24) (C := RX11) (T := TX11) (N := 42) hx hb ht zb_lay hown hK hP 0 rfl rfl 7 (by decide) (ht _ (zb_l zr_46)) (fun _ h9 => h9) rfl dX11_next_148 ?_
          obtain ⟨v26, hv26, hf⟩ := zc_1 hf
          refine zw_Vi (pc := 151) (wc := [zr_o ad f_thrown f_taped v6 v24 f_size f_kind v25 f_wrong f_wrongAt f_faultKind f_faultPlace f_reading f_toldWhy f_x f_standMany f_bestMany f_tail f_round1, (ad 4, .inl (dA 0, 900, .inl b_tape))]) (wr := []) (w1 := [zr_o ad f_thrown f_taped v6 v24 f_size f_kind v25 f_wrong f_wrongAt f_faultKind f_faultPlace f_reading f_toldWhy f_x f_standMany f_bestMany f_tail f_round1, (ad 4, .inl (dA 0, 900, .inl b_tape))]) (As := [.int v24]) (rest := []) ⟨hx, hb, hml, hown, ht⟩ (zt_X11_see l dC dI dA ad _ f_thrown f_taped v6 v24 f_size f_kind v25 f_wrong f_wrongAt f_faultKind f_faultPlace f_reading f_toldWhy f_x f_standMany f_bestMany f_tail f_round1 b_tape v24 v26 hv26) (cwV 1 ht (zb_V (fun _ h => zb_l h) (zb_l zr_99) (zb_l zr_100) (zb_l zr_101) (zb_l zr_36) (zb_l zr_41)) rfl rfl rfl zk_X11_see ⟨Nat.le_of_ble_eq_true rfl, Nat.le_of_ble_eq_true rfl⟩) rfl rfl hK hP hD hS hA [0, 1] [] (by decide) (by decide) (by decide) rfl rfl rfl hl.1 (Nat.le_of_ble_eq_true rfl) dX11_next_151 ⟨Nat.zero_le _, Nat.zero_le _⟩ rfl (fun H locs hP hD hS => ?_)
          have hP : va_P (dC, dI) zz_cls [zr_o ad f_thrown f_taped v6 v24 f_size f_kind v25 f_wrong f_wrongAt f_faultKind f_faultPlace f_reading f_toldWhy f_x f_standMany f_bestMany f_tail f_round1, (ad 4, .inl (dA 0, 900, .inl b_tape))] H := hP
          have hD : va_D A [zr_o ad f_thrown f_taped v6 v24 f_size f_kind v25 f_wrong f_wrongAt f_faultKind f_faultPlace f_reading f_toldWhy f_x f_standMany f_bestMany f_tail f_round1, (ad 4, .inl (dA 0, 900, .inl b_tape))] := hD
          obtain ⟨v27, hv27, hf⟩ := zc_1 hf
          refine zw_Si (pc := 154) (wc := []) (wr := [zr_o ad f_thrown f_taped v6 v24 f_size f_kind v25 f_wrong f_wrongAt f_faultKind f_faultPlace f_reading f_toldWhy f_x f_standMany f_bestMany f_tail f_round1, (ad 4, .inl (dA 0, 900, .inl b_tape))]) (w1 := []) (As := [.int v26]) (rest := []) ⟨hx, hb, hml, hown, ht⟩ (zt_X11_isDigit l dC dI dA ad _ v26 v27 hv27) (cwS 1 ht (zb_S (fun _ h => zb_l h) (zb_l zr_107) (zb_l zr_108) (zb_l zr_36) (zb_l zr_44)) rfl rfl rfl zk_X11_isDigit ⟨Nat.le_of_ble_eq_true rfl, Nat.le_of_ble_eq_true rfl⟩) hK hP hD hS hA [] [0, 1] (by decide) (by decide) (by decide) rfl rfl rfl hl.1 (Nat.le_of_ble_eq_true rfl) dX11_next_154 ⟨Nat.zero_le _, Nat.zero_le _⟩ rfl (fun H locs hP hD hS => ?_)
          have hP : va_P (dC, dI) zz_cls [zr_o ad f_thrown f_taped v6 v24 f_size f_kind v25 f_wrong f_wrongAt f_faultKind f_faultPlace f_reading f_toldWhy f_x f_standMany f_bestMany f_tail f_round1, (ad 4, .inl (dA 0, 900, .inl b_tape))] H := hP
          have hD : va_D A [zr_o ad f_thrown f_taped v6 v24 f_size f_kind v25 f_wrong f_wrongAt f_faultKind f_faultPlace f_reading f_toldWhy f_x f_standMany f_bestMany f_tail f_round1, (ad 4, .inl (dA 0, 900, .inl b_tape))] := hD
          refine lv_if_eq (tgt := 209) (pc := 157) hx hb dX11_next_157 rfl (fun hc => ?_) (fun hc => ?_)
          · have hf := za_t hf hc
            obtain rfl := Option.some.inj hf
            obtain ⟨rfl, rfl, rfl⟩ := zp_3 (ex (show ¬ (1 : Nat) = 0 by decide))
            exact E209 _ _ _ ⟨lv_sub hl [0] rfl, hP, hD, hS⟩
          · have hf := za_f hf hc
            refine lv_aload_n (pc := 160) hx hb dX11_next_160 rfl (lv_at hl 0 rfl) ?_
            refine va_get (pc := 161) (D := (dC, dI)) (ci := 0) (v := .int v24) (C := RX11) (T := TX11) (N := 42) hx hb ht zb_lay hown hK hP 0 rfl rfl 7 (by decide) (ht _ (zb_l zr_46)) (fun _ h9 => h9) rfl dX11_next_161 ?_
            refine lv_aload_n (pc := 164) hx hb dX11_next_164 rfl (lv_at hl 0 rfl) ?_
            refine va_get (pc := 165) (D := (dC, dI)) (ci := 0) (v := .int v6) (C := RX11) (T := TX11) (N := 42) hx hb ht zb_lay hown hK hP 0 rfl rfl 6 (by decide) (ht _ (zb_l zr_45)) (fun _ h9 => h9) rfl dX11_next_165 ?_
            refine lv_isub (pc := 168) hx hb dX11_next_168 ?_
            refine lv_iconst (v := (3 : Int32)) (pc := 169) hx hb dX11_next_169 (by decide) ?_
            obtain ⟨v30, hj, hf⟩ := zc_1 hf
            refine zj_join (pcJ := 196) (stk := []) (X := fun H locs ls => lv_has ls 2 [(0, .ref (ad 0))] ∧ va_P (dC, dI) zz_cls [zr_o ad f_thrown f_taped v6 v24 f_size f_kind v30 f_wrong f_wrongAt f_faultKind f_faultPlace f_reading f_toldWhy f_x f_standMany f_bestMany f_tail f_round1, (ad 4, .inl (dA 0, 900, .inl b_tape))] H ∧ va_D A [zr_o ad f_thrown f_taped v6 v24 f_size f_kind v30 f_wrong f_wrongAt f_faultKind f_faultPlace f_reading f_toldWhy f_x f_standMany f_bestMany f_tail f_round1, (ad 4, .inl (dA 0, 900, .inl b_tape))] ∧ va_S A s.heap H locs) (fun H locs ls hX => ?_) (fun J196 => ?_)
            · obtain ⟨hl, hP, hD, hS⟩ := hX
              clear hj
              refine lv_aload_n (pc := 196) hx hb dX11_next_196 rfl (lv_at hl 0 rfl) ?_
              refine lv_dup (pc := 197) hx hb dX11_next_197 rfl ?_
              refine va_get (pc := 198) (D := (dC, dI)) (ci := 0) (v := .int v24) (C := RX11) (T := TX11) (N := 42) hx hb ht zb_lay hown hK hP 0 rfl rfl 7 (by decide) (ht _ (zb_l zr_46)) (fun _ h9 => h9) rfl dX11_next_198 ?_
              refine lv_iconst (v := (1 : Int32)) (pc := 201) hx hb dX11_next_201 (by decide) ?_
              refine lv_iadd (pc := 202) hx hb dX11_next_202 ?_
              obtain ⟨v31, hv31, hf⟩ := zc_1 hf
              refine zw_top (hv31) ?_
              refine va_put (pc := 203) (D := (dC, dI)) (ci := 0) (v := .int v31) (ty := .int) (C := RX11) (T := TX11) (N := 42) hx hb ht zb_lay tyX11 tyX11_ok nmX11 hown hK hP hD hS 0 rfl rfl 7 (by decide) (ht _ (zb_l zr_46)) (fun _ h9 => h9) rfl (by decide +kernel) rfl rfl (Nat.le_of_ble_eq_true rfl) dX11_next_203 (fun H locs hP hD hS => ?_)
              have hP : va_P (dC, dI) zz_cls [zr_o ad f_thrown f_taped v6 v31 f_size f_kind v30 f_wrong f_wrongAt f_faultKind f_faultPlace f_reading f_toldWhy f_x f_standMany f_bestMany f_tail f_round1, (ad 4, .inl (dA 0, 900, .inl b_tape))] H := hP
              have hD : va_D A [zr_o ad f_thrown f_taped v6 v31 f_size f_kind v30 f_wrong f_wrongAt f_faultKind f_faultPlace f_reading f_toldWhy f_x f_standMany f_bestMany f_tail f_round1, (ad 4, .inl (dA 0, 900, .inl b_tape))] := hD
              refine lv_goto (tgt := 146) (pc := 206) hx hb dX11_next_206 rfl ?_
              obtain rfl := Option.some.inj hf
              exact ih rfl _ _ _ ⟨lv_sub hl [0] rfl, hP, hD, hS⟩
            · clear hf
              have hf := hj
              clear hj
              refine lv_icmp_ge (tgt := 196) (pc := 170) hx hb dX11_next_170 rfl (fun hc => ?_) (fun hc => ?_)
              · have hf := za_t hf hc
                obtain rfl := Option.some.inj hf
                exact J196 _ _ _ ⟨lv_sub hl [0] rfl, hP, hD, hS⟩
              · have hf := za_f hf hc
                refine lv_aload_n (pc := 173) hx hb dX11_next_173 rfl (lv_at hl 0 rfl) ?_
                refine lv_bipush (v := (10 : Int32)) (pc := 174) hx hb dX11_next_174 (by decide) ?_
                refine lv_aload_n (pc := 176) hx hb dX11_next_176 rfl (lv_at hl 0 rfl) ?_
                refine va_get (pc := 177) (D := (dC, dI)) (ci := 0) (v := .int v25) (C := RX11) (T := TX11) (N := 42) hx hb ht zb_lay hown hK hP 0 rfl rfl 10 (by decide) (ht _ (zb_l zr_98)) (fun _ h9 => h9) rfl dX11_next_177 ?_
                refine lv_imul (pc := 180) hx hb dX11_next_180 ?_
                refine lv_aload_n (pc := 181) hx hb dX11_next_181 rfl (lv_at hl 0 rfl) ?_
                refine lv_aload_n (pc := 182) hx hb dX11_next_182 rfl (lv_at hl 0 rfl) ?_
                refine va_get (pc := 183) (D := (dC, dI)) (ci := 0) (v := .int v24) (C := RX11) (T := TX11) (N := 42) hx hb ht zb_lay hown hK hP 0 rfl rfl 7 (by decide) (ht _ (zb_l zr_46)) (fun _ h9 => h9) rfl dX11_next_183 ?_
                obtain ⟨v28, hv28, hf⟩ := zc_1 hf
                refine zw_Vi (pc := 186) (wc := [zr_o ad f_thrown f_taped v6 v24 f_size f_kind v25 f_wrong f_wrongAt f_faultKind f_faultPlace f_reading f_toldWhy f_x f_standMany f_bestMany f_tail f_round1, (ad 4, .inl (dA 0, 900, .inl b_tape))]) (wr := []) (w1 := [zr_o ad f_thrown f_taped v6 v24 f_size f_kind v25 f_wrong f_wrongAt f_faultKind f_faultPlace f_reading f_toldWhy f_x f_standMany f_bestMany f_tail f_round1, (ad 4, .inl (dA 0, 900, .inl b_tape))]) (As := [.int v24]) (rest := [.int ((10 : Int32) * v25), .ref (ad 0)]) ⟨hx, hb, hml, hown, ht⟩ (zt_X11_see l dC dI dA ad _ f_thrown f_taped v6 v24 f_size f_kind v25 f_wrong f_wrongAt f_faultKind f_faultPlace f_reading f_toldWhy f_x f_standMany f_bestMany f_tail f_round1 b_tape v24 v28 hv28) (cwV 1 ht (zb_V (fun _ h => zb_l h) (zb_l zr_99) (zb_l zr_100) (zb_l zr_101) (zb_l zr_36) (zb_l zr_41)) rfl rfl rfl zk_X11_see ⟨Nat.le_of_ble_eq_true rfl, Nat.le_of_ble_eq_true rfl⟩) rfl rfl hK hP hD hS hA [0, 1] [] (by decide) (by decide) (by decide) rfl rfl rfl hl.1 (Nat.le_of_ble_eq_true rfl) dX11_next_186 ⟨Nat.zero_le _, Nat.zero_le _⟩ rfl (fun H locs hP hD hS => ?_)
                have hP : va_P (dC, dI) zz_cls [zr_o ad f_thrown f_taped v6 v24 f_size f_kind v25 f_wrong f_wrongAt f_faultKind f_faultPlace f_reading f_toldWhy f_x f_standMany f_bestMany f_tail f_round1, (ad 4, .inl (dA 0, 900, .inl b_tape))] H := hP
                have hD : va_D A [zr_o ad f_thrown f_taped v6 v24 f_size f_kind v25 f_wrong f_wrongAt f_faultKind f_faultPlace f_reading f_toldWhy f_x f_standMany f_bestMany f_tail f_round1, (ad 4, .inl (dA 0, 900, .inl b_tape))] := hD
                refine lv_iadd (pc := 189) hx hb dX11_next_189 ?_
                refine lv_bipush (v := (48 : Int32)) (pc := 190) hx hb dX11_next_190 (by decide) ?_
                refine lv_isub (pc := 192) hx hb dX11_next_192 ?_
                obtain ⟨v29, hv29, hf⟩ := zc_1 hf
                refine zw_top (hv29) ?_
                refine va_put (pc := 193) (D := (dC, dI)) (ci := 0) (v := .int v29) (ty := .int) (C := RX11) (T := TX11) (N := 42) hx hb ht zb_lay tyX11 tyX11_ok nmX11 hown hK hP hD hS 0 rfl rfl 10 (by decide) (ht _ (zb_l zr_98)) (fun _ h9 => h9) rfl (by decide +kernel) rfl rfl (Nat.le_of_ble_eq_true rfl) dX11_next_193 (fun H locs hP hD hS => ?_)
                have hP : va_P (dC, dI) zz_cls [zr_o ad f_thrown f_taped v6 v24 f_size f_kind v29 f_wrong f_wrongAt f_faultKind f_faultPlace f_reading f_toldWhy f_x f_standMany f_bestMany f_tail f_round1, (ad 4, .inl (dA 0, 900, .inl b_tape))] H := hP
                have hD : va_D A [zr_o ad f_thrown f_taped v6 v24 f_size f_kind v29 f_wrong f_wrongAt f_faultKind f_faultPlace f_reading f_toldWhy f_x f_standMany f_bestMany f_tail f_round1, (ad 4, .inl (dA 0, 900, .inl b_tape))] := hD
                obtain rfl := Option.some.inj hf
                exact J196 _ _ _ ⟨lv_sub hl [0] rfl, hP, hD, hS⟩
      · have hf := za_f hf hc
        obtain ⟨g41, v40, hj, hf⟩ := zc_2 hf
        refine zj_join (pcJ := 116) (stk := []) (X := fun H locs ls => lv_has ls 2 [(0, .ref (ad 0))] ∧ va_P (dC, dI) zz_cls [zr_o ad f_thrown f_taped v6 v40 f_size f_kind f_number f_wrong f_wrongAt f_faultKind f_faultPlace f_reading f_toldWhy f_x f_standMany f_bestMany f_tail f_round1, (ad 4, .inl (dA 0, 900, .inl b_tape))] H ∧ va_D A [zr_o ad f_thrown f_taped v6 v40 f_size f_kind f_number f_wrong f_wrongAt f_faultKind f_faultPlace f_reading f_toldWhy f_x f_standMany f_bestMany f_tail f_round1, (ad 4, .inl (dA 0, 900, .inl b_tape))] ∧ va_S A s.heap H locs) (fun H locs ls hX => ?_) (fun E116 => ?_)
        · obtain ⟨hl, hP, hD, hS⟩ := hX
          clear hj
          refine lv_aload_n (pc := 116) hx hb dX11_next_116 rfl (lv_at hl 0 rfl) ?_
          refine lv_aload_n (pc := 117) hx hb dX11_next_117 rfl (lv_at hl 0 rfl) ?_
          obtain ⟨v42, hv42, hf⟩ := zc_1 hf
          refine zx_Vi (pc := 118) (wc := [zr_o ad f_thrown f_taped v6 v40 f_size f_kind f_number f_wrong f_wrongAt f_faultKind f_faultPlace f_reading f_toldWhy f_x f_standMany f_bestMany f_tail f_round1, (ad 4, .inl (dA 0, 900, .inl b_tape))]) (wr := []) (w1 := [zr_o ad f_thrown f_taped v6 v40 f_size f_kind f_number f_wrong f_wrongAt f_faultKind f_faultPlace f_reading f_toldWhy f_x f_standMany f_bestMany f_tail f_round1, (ad 4, .inl (dA 0, 900, .inl b_tape))]) (As := []) (rest := [.ref (ad 0)]) ⟨hx, hb, hml, hown, ht⟩ (zt_X11_keyAt l dC dI dA ad adK adV _ n f_thrown f_taped v6 v40 f_size f_kind f_number f_wrong f_wrongAt f_faultKind f_faultPlace f_reading f_toldWhy f_x f_standMany f_bestMany f_tail f_round1 b_tape v42 hv42) (cwV 0 ht (zb_V (fun _ h => zb_i h) (zb_l zr_104) (zb_l zr_105) (zb_l zr_106) (zb_l zr_36) (zb_l zr_96)) rfl rfl rfl zk_X11_keyAt ⟨Nat.le_of_ble_eq_true rfl, Nat.le_of_ble_eq_true rfl⟩) rfl rfl hZ hK hP hD hS hA [0, 1] [] (by decide) (by decide) (by decide) rfl rfl rfl hl.1 (Nat.le_of_ble_eq_true rfl) dX11_next_118 ⟨Nat.zero_le _, Nat.zero_le _⟩ rfl (fun H locs hP hD hS => ?_)
          have hP : va_P (dC, dI) zz_cls [zr_o ad f_thrown f_taped v6 v40 f_size f_kind f_number f_wrong f_wrongAt f_faultKind f_faultPlace f_reading f_toldWhy f_x f_standMany f_bestMany f_tail f_round1, (ad 4, .inl (dA 0, 900, .inl b_tape))] H := hP
          have hD : va_D A [zr_o ad f_thrown f_taped v6 v40 f_size f_kind f_number f_wrong f_wrongAt f_faultKind f_faultPlace f_reading f_toldWhy f_x f_standMany f_bestMany f_tail f_round1, (ad 4, .inl (dA 0, 900, .inl b_tape))] := hD
          refine va_put (pc := 121) (D := (dC, dI)) (ci := 0) (v := .int v42) (ty := .int) (C := RX11) (T := TX11) (N := 42) hx hb ht zb_lay tyX11 tyX11_ok nmX11 hown hK hP hD hS 0 rfl rfl 9 (by decide) (ht _ (zb_l zr_97)) (fun _ h9 => h9) rfl (by decide +kernel) rfl rfl (Nat.le_of_ble_eq_true rfl) dX11_next_121 (fun H locs hP hD hS => ?_)
          have hP : va_P (dC, dI) zz_cls [zr_o ad f_thrown f_taped v6 v40 f_size v42 f_number f_wrong f_wrongAt f_faultKind f_faultPlace f_reading f_toldWhy f_x f_standMany f_bestMany f_tail f_round1, (ad 4, .inl (dA 0, 900, .inl b_tape))] H := hP
          have hD : va_D A [zr_o ad f_thrown f_taped v6 v40 f_size v42 f_number f_wrong f_wrongAt f_faultKind f_faultPlace f_reading f_toldWhy f_x f_standMany f_bestMany f_tail f_round1, (ad 4, .inl (dA 0, 900, .inl b_tape))] := hD
          refine lv_goto (tgt := 294) (pc := 124) hx hb dX11_next_124 rfl ?_
          obtain ⟨rfl, rfl, rfl, rfl⟩ := zi_4 hf
          exact W.vret (pc := 294) hx hb hr (fun t ht hW => ⟨⟨(), rfl, trivial, zz_Bi (by rw [ht]; exact hP) (va_K.moved hW.alike hK) (hD)⟩, hS.F ht⟩) hS.2.2 dX11_next_294
        clear hf
        refine zw_loop (pcH := 89) (X := fun v H locs ls => lv_has ls 2 [(0, .ref (ad 0))] ∧ va_P (dC, dI) zz_cls [zr_o ad f_thrown f_taped v6 v f_size f_kind f_number f_wrong f_wrongAt f_faultKind f_faultPlace f_reading f_toldWhy f_x f_standMany f_bestMany f_tail f_round1, (ad 4, .inl (dA 0, 900, .inl b_tape))] H ∧ va_D A [zr_o ad f_thrown f_taped v6 v f_size f_kind f_number f_wrong f_wrongAt f_faultKind f_faultPlace f_reading f_toldWhy f_x f_standMany f_bestMany f_tail f_round1, (ad 4, .inl (dA 0, 900, .inl b_tape))] ∧ va_S A s.heap H locs) hj (fun v w hf ih ex H locs ls hX => ?_) _ _ _ ⟨lv_sub hl [0] rfl, hP, hD, hS⟩
        clear hj
        generalize v = v36 at hf hX
        obtain ⟨hl, hP, hD, hS⟩ := hX
        have hl : lv_has ls 2 [(0, .ref (ad 0))] := hl
        have hP : va_P (dC, dI) zz_cls [zr_o ad f_thrown f_taped v6 v36 f_size f_kind f_number f_wrong f_wrongAt f_faultKind f_faultPlace f_reading f_toldWhy f_x f_standMany f_bestMany f_tail f_round1, (ad 4, .inl (dA 0, 900, .inl b_tape))] H := hP
        have hD : va_D A [zr_o ad f_thrown f_taped v6 v36 f_size f_kind f_number f_wrong f_wrongAt f_faultKind f_faultPlace f_reading f_toldWhy f_x f_standMany f_bestMany f_tail f_round1, (ad 4, .inl (dA 0, 900, .inl b_tape))] := hD
        replace hf : zb_X11_next_89 f_size b_tape v36 = some w := hf
        unfold zb_X11_next_89 at hf
        refine lv_aload_n (pc := 89) hx hb dX11_next_89 rfl (lv_at hl 0 rfl) ?_
        refine lv_aload_n (pc := 90) hx hb dX11_next_90 rfl (lv_at hl 0 rfl) ?_
        refine va_get (pc := 91) (D := (dC, dI)) (ci := 0) (v := .int v36) (C := RX11) (T := TX11) (N := 42) hx hb ht zb_lay hown hK hP 0 rfl rfl 7 (by decide) (ht _ (zb_l zr_46)) (fun _ h9 => h9) rfl dX11_next_91 ?_
        obtain ⟨v37, hv37, hf⟩ := zc_1 hf
        refine zw_Vi (pc := 94) (wc := [zr_o ad f_thrown f_taped v6 v36 f_size f_kind f_number f_wrong f_wrongAt f_faultKind f_faultPlace f_reading f_toldWhy f_x f_standMany f_bestMany f_tail f_round1, (ad 4, .inl (dA 0, 900, .inl b_tape))]) (wr := []) (w1 := [zr_o ad f_thrown f_taped v6 v36 f_size f_kind f_number f_wrong f_wrongAt f_faultKind f_faultPlace f_reading f_toldWhy f_x f_standMany f_bestMany f_tail f_round1, (ad 4, .inl (dA 0, 900, .inl b_tape))]) (As := [.int v36]) (rest := []) ⟨hx, hb, hml, hown, ht⟩ (zt_X11_see l dC dI dA ad _ f_thrown f_taped v6 v36 f_size f_kind f_number f_wrong f_wrongAt f_faultKind f_faultPlace f_reading f_toldWhy f_x f_standMany f_bestMany f_tail f_round1 b_tape v36 v37 hv37) (cwV 1 ht (zb_V (fun _ h => zb_l h) (zb_l zr_99) (zb_l zr_100) (zb_l zr_101) (zb_l zr_36) (zb_l zr_41)) rfl rfl rfl zk_X11_see ⟨Nat.le_of_ble_eq_true rfl, Nat.le_of_ble_eq_true rfl⟩) rfl rfl hK hP hD hS hA [0, 1] [] (by decide) (by decide) (by decide) rfl rfl rfl hl.1 (Nat.le_of_ble_eq_true rfl) dX11_next_94 ⟨Nat.zero_le _, Nat.zero_le _⟩ rfl (fun H locs hP hD hS => ?_)
        have hP : va_P (dC, dI) zz_cls [zr_o ad f_thrown f_taped v6 v36 f_size f_kind f_number f_wrong f_wrongAt f_faultKind f_faultPlace f_reading f_toldWhy f_x f_standMany f_bestMany f_tail f_round1, (ad 4, .inl (dA 0, 900, .inl b_tape))] H := hP
        have hD : va_D A [zr_o ad f_thrown f_taped v6 v36 f_size f_kind f_number f_wrong f_wrongAt f_faultKind f_faultPlace f_reading f_toldWhy f_x f_standMany f_bestMany f_tail f_round1, (ad 4, .inl (dA 0, 900, .inl b_tape))] := hD
        obtain ⟨v38, hv38, hf⟩ := zc_1 hf
        refine zw_Si (pc := 97) (wc := []) (wr := [zr_o ad f_thrown f_taped v6 v36 f_size f_kind f_number f_wrong f_wrongAt f_faultKind f_faultPlace f_reading f_toldWhy f_x f_standMany f_bestMany f_tail f_round1, (ad 4, .inl (dA 0, 900, .inl b_tape))]) (w1 := []) (As := [.int v37]) (rest := []) ⟨hx, hb, hml, hown, ht⟩ (zt_X11_isSmall l dC dI dA ad _ v37 v38 hv38) (cwS 1 ht (zb_S (fun _ h => zb_l h) (zb_l zr_102) (zb_l zr_103) (zb_l zr_36) (zb_l zr_43)) rfl rfl rfl zk_X11_isSmall ⟨Nat.le_of_ble_eq_true rfl, Nat.le_of_ble_eq_true rfl⟩) hK hP hD hS hA [] [0, 1] (by decide) (by decide) (by decide) rfl rfl rfl hl.1 (Nat.le_of_ble_eq_true rfl) dX11_next_97 ⟨Nat.zero_le _, Nat.zero_le _⟩ rfl (fun H locs hP hD hS => ?_)
        have hP : va_P (dC, dI) zz_cls [zr_o ad f_thrown f_taped v6 v36 f_size f_kind f_number f_wrong f_wrongAt f_faultKind f_faultPlace f_reading f_toldWhy f_x f_standMany f_bestMany f_tail f_round1, (ad 4, .inl (dA 0, 900, .inl b_tape))] H := hP
        have hD : va_D A [zr_o ad f_thrown f_taped v6 v36 f_size f_kind f_number f_wrong f_wrongAt f_faultKind f_faultPlace f_reading f_toldWhy f_x f_standMany f_bestMany f_tail f_round1, (ad 4, .inl (dA 0, 900, .inl b_tape))] := hD
        refine lv_if_eq (tgt := 116) (pc := 100) hx hb dX11_next_100 rfl (fun hc => ?_) (fun hc => ?_)
        · have hf := za_t hf hc
          obtain rfl := Option.some.inj hf
          obtain ⟨rfl, rfl⟩ := zp_2 (ex (show ¬ (1 : Nat) = 0 by decide))
          exact E116 _ _ _ ⟨lv_sub hl [0] rfl, hP, hD, hS⟩
        · have hf := za_f hf hc
          refine lv_aload_n (pc := 103) hx hb dX11_next_103 rfl (lv_at hl 0 rfl) ?_
          refine lv_dup (pc := 104) hx hb dX11_next_104 rfl ?_
          refine va_get (pc := 105) (D := (dC, dI)) (ci := 0) (v := .int v36) (C := RX11) (T := TX11) (N := 42) hx hb ht zb_lay hown hK hP 0 rfl rfl 7 (by decide) (ht _ (zb_l zr_46)) (fun _ h9 => h9) rfl dX11_next_105 ?_
          refine lv_iconst (v := (1 : Int32)) (pc := 108) hx hb dX11_next_108 (by decide) ?_
          refine lv_iadd (pc := 109) hx hb dX11_next_109 ?_
          obtain ⟨v39, hv39, hf⟩ := zc_1 hf
          refine zw_top (hv39) ?_
          refine va_put (pc := 110) (D := (dC, dI)) (ci := 0) (v := .int v39) (ty := .int) (C := RX11) (T := TX11) (N := 42) hx hb ht zb_lay tyX11 tyX11_ok nmX11 hown hK hP hD hS 0 rfl rfl 7 (by decide) (ht _ (zb_l zr_46)) (fun _ h9 => h9) rfl (by decide +kernel) rfl rfl (Nat.le_of_ble_eq_true rfl) dX11_next_110 (fun H locs hP hD hS => ?_)
          have hP : va_P (dC, dI) zz_cls [zr_o ad f_thrown f_taped v6 v39 f_size f_kind f_number f_wrong f_wrongAt f_faultKind f_faultPlace f_reading f_toldWhy f_x f_standMany f_bestMany f_tail f_round1, (ad 4, .inl (dA 0, 900, .inl b_tape))] H := hP
          have hD : va_D A [zr_o ad f_thrown f_taped v6 v39 f_size f_kind f_number f_wrong f_wrongAt f_faultKind f_faultPlace f_reading f_toldWhy f_x f_standMany f_bestMany f_tail f_round1, (ad 4, .inl (dA 0, 900, .inl b_tape))] := hD
          refine lv_goto (tgt := 89) (pc := 113) hx hb dX11_next_113 rfl ?_
          obtain rfl := Option.some.inj hf
          exact ih rfl _ _ _ ⟨lv_sub hl [0] rfl, hP, hD, hS⟩
    · have hf := za_f hf hc
      refine lv_aload_n (pc := 66) hx hb dX11_next_66 rfl (lv_at hl 0 rfl) ?_
      refine lv_bipush (v := (26 : Int32)) (pc := 67) hx hb dX11_next_67 (by decide) ?_
      refine va_put (pc := 69) (D := (dC, dI)) (ci := 0) (v := .int (26 : Int32)) (ty := .int) (C := RX11) (T := TX11) (N := 42) hx hb ht zb_lay tyX11 tyX11_ok nmX11 hown hK hP hD hS 0 rfl rfl 9 (by decide) (ht _ (zb_l zr_97)) (fun _ h9 => h9) rfl (by decide +kernel) rfl rfl (Nat.le_of_ble_eq_true rfl) dX11_next_69 (fun H locs hP hD hS => ?_)
      have hP : va_P (dC, dI) zz_cls [zr_o ad f_thrown f_taped v6 v6 f_size (26 : Int32) f_number f_wrong f_wrongAt f_faultKind f_faultPlace f_reading f_toldWhy f_x f_standMany f_bestMany f_tail f_round1, (ad 4, .inl (dA 0, 900, .inl b_tape))] H := hP
      have hD : va_D A [zr_o ad f_thrown f_taped v6 v6 f_size (26 : Int32) f_number f_wrong f_wrongAt f_faultKind f_faultPlace f_reading f_toldWhy f_x f_standMany f_bestMany f_tail f_round1, (ad 4, .inl (dA 0, 900, .inl b_tape))] := hD
      refine lv_goto (tgt := 294) (pc := 72) hx hb dX11_next_72 rfl ?_
      obtain ⟨rfl, rfl, rfl, rfl⟩ := zi_4 hf
      exact W.vret (pc := 294) hx hb hr (fun t ht hW => ⟨⟨(), rfl, trivial, zz_Bi (by rw [ht]; exact hP) (va_K.moved hW.alike hK) (hD)⟩, hS.F ht⟩) hS.2.2 dX11_next_294
  clear hf
  refine zw_loop (pcH := 8) (X := fun v H locs ls => lv_has ls 2 [(0, .ref (ad 0))] ∧ va_P (dC, dI) zz_cls [zr_o ad f_thrown f_taped v f_behind f_size f_kind f_number f_wrong f_wrongAt f_faultKind f_faultPlace f_reading f_toldWhy f_x f_standMany f_bestMany f_tail f_round1, (ad 4, .inl (dA 0, 900, .inl b_tape))] H ∧ va_D A [zr_o ad f_thrown f_taped v f_behind f_size f_kind f_number f_wrong f_wrongAt f_faultKind f_faultPlace f_reading f_toldWhy f_x f_standMany f_bestMany f_tail f_round1, (ad 4, .inl (dA 0, 900, .inl b_tape))] ∧ va_S A s.heap H locs) hj (fun v w hf ih ex H locs ls hX => ?_) _ _ _ ⟨lv_sub hl [0] rfl, hP, hD, hS⟩
  clear hj
  generalize v = v1 at hf hX
  obtain ⟨hl, hP, hD, hS⟩ := hX
  have hl : lv_has ls 2 [(0, .ref (ad 0))] := hl
  have hP : va_P (dC, dI) zz_cls [zr_o ad f_thrown f_taped v1 f_behind f_size f_kind f_number f_wrong f_wrongAt f_faultKind f_faultPlace f_reading f_toldWhy f_x f_standMany f_bestMany f_tail f_round1, (ad 4, .inl (dA 0, 900, .inl b_tape))] H := hP
  have hD : va_D A [zr_o ad f_thrown f_taped v1 f_behind f_size f_kind f_number f_wrong f_wrongAt f_faultKind f_faultPlace f_reading f_toldWhy f_x f_standMany f_bestMany f_tail f_round1, (ad 4, .inl (dA 0, 900, .inl b_tape))] := hD
  replace hf : zb_X11_next_8 f_size b_tape v1 = some w := hf
  unfold zb_X11_next_8 at hf
  refine lv_aload_n (pc := 8) hx hb dX11_next_8 rfl (lv_at hl 0 rfl) ?_
  refine lv_aload_n (pc := 9) hx hb dX11_next_9 rfl (lv_at hl 0 rfl) ?_
  refine va_get (pc := 10) (D := (dC, dI)) (ci := 0) (v := .int v1) (C := RX11) (T := TX11) (N := 42) hx hb ht zb_lay hown hK hP 0 rfl rfl 6 (by decide) (ht _ (zb_l zr_45)) (fun _ h9 => h9) rfl dX11_next_10 ?_
  obtain ⟨v2, hv2, hf⟩ := zc_1 hf
  refine zw_Vi (pc := 13) (wc := [zr_o ad f_thrown f_taped v1 f_behind f_size f_kind f_number f_wrong f_wrongAt f_faultKind f_faultPlace f_reading f_toldWhy f_x f_standMany f_bestMany f_tail f_round1, (ad 4, .inl (dA 0, 900, .inl b_tape))]) (wr := []) (w1 := [zr_o ad f_thrown f_taped v1 f_behind f_size f_kind f_number f_wrong f_wrongAt f_faultKind f_faultPlace f_reading f_toldWhy f_x f_standMany f_bestMany f_tail f_round1, (ad 4, .inl (dA 0, 900, .inl b_tape))]) (As := [.int v1]) (rest := []) ⟨hx, hb, hml, hown, ht⟩ (zt_X11_see l dC dI dA ad _ f_thrown f_taped v1 f_behind f_size f_kind f_number f_wrong f_wrongAt f_faultKind f_faultPlace f_reading f_toldWhy f_x f_standMany f_bestMany f_tail f_round1 b_tape v1 v2 hv2) (cwV 1 ht (zb_V (fun _ h => zb_l h) (zb_l zr_99) (zb_l zr_100) (zb_l zr_101) (zb_l zr_36) (zb_l zr_41)) rfl rfl rfl zk_X11_see ⟨Nat.le_of_ble_eq_true rfl, Nat.le_of_ble_eq_true rfl⟩) rfl rfl hK hP hD hS hA [0, 1] [] (by decide) (by decide) (by decide) rfl rfl rfl hl.1 (Nat.le_of_ble_eq_true rfl) dX11_next_13 ⟨Nat.zero_le _, Nat.zero_le _⟩ rfl (fun H locs hP hD hS => ?_)
  have hP : va_P (dC, dI) zz_cls [zr_o ad f_thrown f_taped v1 f_behind f_size f_kind f_number f_wrong f_wrongAt f_faultKind f_faultPlace f_reading f_toldWhy f_x f_standMany f_bestMany f_tail f_round1, (ad 4, .inl (dA 0, 900, .inl b_tape))] H := hP
  have hD : va_D A [zr_o ad f_thrown f_taped v1 f_behind f_size f_kind f_number f_wrong f_wrongAt f_faultKind f_faultPlace f_reading f_toldWhy f_x f_standMany f_bestMany f_tail f_round1, (ad 4, .inl (dA 0, 900, .inl b_tape))] := hD
  refine lv_bipush (v := (10 : Int32)) (pc := 16) hx hb dX11_next_16 (by decide) ?_
  refine lv_icmp_eq (tgt := 34) (pc := 18) hx hb dX11_next_18 rfl (fun hc => ?_) (fun hc => ?_)
  · have hf := za_t hf hc
    refine lv_aload_n (pc := 34) hx hb dX11_next_34 rfl (lv_at hl 0 rfl) ?_
    refine lv_dup (pc := 35) hx hb dX11_next_35 rfl ?_
    refine va_get (pc := 36) (D := (dC, dI)) (ci := 0) (v := .int v1) (C := RX11) (T := TX11) (N := 42) hx hb ht zb_lay hown hK hP 0 rfl rfl 6 (by decide) (ht _ (zb_l zr_45)) (fun _ h9 => h9) rfl dX11_next_36 ?_
    refine lv_iconst (v := (1 : Int32)) (pc := 39) hx hb dX11_next_39 (by decide) ?_
    refine lv_iadd (pc := 40) hx hb dX11_next_40 ?_
    obtain ⟨v3, hv3, hf⟩ := zc_1 hf
    refine zw_top (hv3) ?_
    refine va_put (pc := 41) (D := (dC, dI)) (ci := 0) (v := .int v3) (ty := .int) (C := RX11) (T := TX11) (N := 42) hx hb ht zb_lay tyX11 tyX11_ok nmX11 hown hK hP hD hS 0 rfl rfl 6 (by decide) (ht _ (zb_l zr_45)) (fun _ h9 => h9) rfl (by decide +kernel) rfl rfl (Nat.le_of_ble_eq_true rfl) dX11_next_41 (fun H locs hP hD hS => ?_)
    have hP : va_P (dC, dI) zz_cls [zr_o ad f_thrown f_taped v3 f_behind f_size f_kind f_number f_wrong f_wrongAt f_faultKind f_faultPlace f_reading f_toldWhy f_x f_standMany f_bestMany f_tail f_round1, (ad 4, .inl (dA 0, 900, .inl b_tape))] H := hP
    have hD : va_D A [zr_o ad f_thrown f_taped v3 f_behind f_size f_kind f_number f_wrong f_wrongAt f_faultKind f_faultPlace f_reading f_toldWhy f_x f_standMany f_bestMany f_tail f_round1, (ad 4, .inl (dA 0, 900, .inl b_tape))] := hD
    refine lv_goto (tgt := 8) (pc := 44) hx hb dX11_next_44 rfl ?_
    obtain rfl := Option.some.inj hf
    exact ih rfl _ _ _ ⟨lv_sub hl [0] rfl, hP, hD, hS⟩
  · have hf := za_f hf hc
    refine lv_aload_n (pc := 21) hx hb dX11_next_21 rfl (lv_at hl 0 rfl) ?_
    refine lv_aload_n (pc := 22) hx hb dX11_next_22 rfl (lv_at hl 0 rfl) ?_
    refine va_get (pc := 23) (D := (dC, dI)) (ci := 0) (v := .int v1) (C := RX11) (T := TX11) (N := 42) hx hb ht zb_lay hown hK hP 0 rfl rfl 6 (by decide) (ht _ (zb_l zr_45)) (fun _ h9 => h9) rfl dX11_next_23 ?_
    obtain ⟨v4, hv4, hf⟩ := zc_1 hf
    refine zw_Vi (pc := 26) (wc := [zr_o ad f_thrown f_taped v1 f_behind f_size f_kind f_number f_wrong f_wrongAt f_faultKind f_faultPlace f_reading f_toldWhy f_x f_standMany f_bestMany f_tail f_round1, (ad 4, .inl (dA 0, 900, .inl b_tape))]) (wr := []) (w1 := [zr_o ad f_thrown f_taped v1 f_behind f_size f_kind f_number f_wrong f_wrongAt f_faultKind f_faultPlace f_reading f_toldWhy f_x f_standMany f_bestMany f_tail f_round1, (ad 4, .inl (dA 0, 900, .inl b_tape))]) (As := [.int v1]) (rest := []) ⟨hx, hb, hml, hown, ht⟩ (zt_X11_see l dC dI dA ad _ f_thrown f_taped v1 f_behind f_size f_kind f_number f_wrong f_wrongAt f_faultKind f_faultPlace f_reading f_toldWhy f_x f_standMany f_bestMany f_tail f_round1 b_tape v1 v4 hv4) (cwV 1 ht (zb_V (fun _ h => zb_l h) (zb_l zr_99) (zb_l zr_100) (zb_l zr_101) (zb_l zr_36) (zb_l zr_41)) rfl rfl rfl zk_X11_see ⟨Nat.le_of_ble_eq_true rfl, Nat.le_of_ble_eq_true rfl⟩) rfl rfl hK hP hD hS hA [0, 1] [] (by decide) (by decide) (by decide) rfl rfl rfl hl.1 (Nat.le_of_ble_eq_true rfl) dX11_next_26 ⟨Nat.zero_le _, Nat.zero_le _⟩ rfl (fun H locs hP hD hS => ?_)
    have hP : va_P (dC, dI) zz_cls [zr_o ad f_thrown f_taped v1 f_behind f_size f_kind f_number f_wrong f_wrongAt f_faultKind f_faultPlace f_reading f_toldWhy f_x f_standMany f_bestMany f_tail f_round1, (ad 4, .inl (dA 0, 900, .inl b_tape))] H := hP
    have hD : va_D A [zr_o ad f_thrown f_taped v1 f_behind f_size f_kind f_number f_wrong f_wrongAt f_faultKind f_faultPlace f_reading f_toldWhy f_x f_standMany f_bestMany f_tail f_round1, (ad 4, .inl (dA 0, 900, .inl b_tape))] := hD
    refine lv_bipush (v := (32 : Int32)) (pc := 29) hx hb dX11_next_29 (by decide) ?_
    refine lv_icmp_ne (tgt := 47) (pc := 31) hx hb dX11_next_31 rfl (fun hc => ?_) (fun hc => ?_)
    · have hf := za_f hf hc
      obtain rfl := Option.some.inj hf
      obtain ⟨rfl, rfl⟩ := zp_2 (ex (show ¬ (1 : Nat) = 0 by decide))
      exact E47 _ _ _ ⟨lv_sub hl [0] rfl, hP, hD, hS⟩
    · have hf := za_t hf hc
      refine lv_aload_n (pc := 34) hx hb dX11_next_34 rfl (lv_at hl 0 rfl) ?_
      refine lv_dup (pc := 35) hx hb dX11_next_35 rfl ?_
      refine va_get (pc := 36) (D := (dC, dI)) (ci := 0) (v := .int v1) (C := RX11) (T := TX11) (N := 42) hx hb ht zb_lay hown hK hP 0 rfl rfl 6 (by decide) (ht _ (zb_l zr_45)) (fun _ h9 => h9) rfl dX11_next_36 ?_
      refine lv_iconst (v := (1 : Int32)) (pc := 39) hx hb dX11_next_39 (by decide) ?_
      refine lv_iadd (pc := 40) hx hb dX11_next_40 ?_
      obtain ⟨v5, hv5, hf⟩ := zc_1 hf
      refine zw_top (hv5) ?_
      refine va_put (pc := 41) (D := (dC, dI)) (ci := 0) (v := .int v5) (ty := .int) (C := RX11) (T := TX11) (N := 42) hx hb ht zb_lay tyX11 tyX11_ok nmX11 hown hK hP hD hS 0 rfl rfl 6 (by decide) (ht _ (zb_l zr_45)) (fun _ h9 => h9) rfl (by decide +kernel) rfl rfl (Nat.le_of_ble_eq_true rfl) dX11_next_41 (fun H locs hP hD hS => ?_)
      have hP : va_P (dC, dI) zz_cls [zr_o ad f_thrown f_taped v5 f_behind f_size f_kind f_number f_wrong f_wrongAt f_faultKind f_faultPlace f_reading f_toldWhy f_x f_standMany f_bestMany f_tail f_round1, (ad 4, .inl (dA 0, 900, .inl b_tape))] H := hP
      have hD : va_D A [zr_o ad f_thrown f_taped v5 f_behind f_size f_kind f_number f_wrong f_wrongAt f_faultKind f_faultPlace f_reading f_toldWhy f_x f_standMany f_bestMany f_tail f_round1, (ad 4, .inl (dA 0, 900, .inl b_tape))] := hD
      refine lv_goto (tgt := 8) (pc := 44) hx hb dX11_next_44 rfl ?_
      obtain rfl := Option.some.inj hf
      exact ih rfl _ _ _ ⟨lv_sub hl [0] rfl, hP, hD, hS⟩

def zf_X11_eats (n : Nat) (f_at : Int32) (f_behind : Int32) (f_size : Int32) (f_kind : Int32) (f_number : Int32) (f_wrong : Int32) (b_tape : (Nat → Int32)) (p1 : Int32) : Option (Int32 × Int32 × Int32 × Int32 × Int32) :=
  zd_1 (zf_X11_is f_kind f_wrong p1) (fun v1 =>
  if v1 = 0 then
    some ((0 : Int32), f_at, f_behind, f_kind, f_number)
  else
    zd_4 (zf_X11_next n f_at f_behind f_size f_kind f_number b_tape) (fun v2 v3 v4 v5 =>
    some ((1 : Int32), v2, v3, v4, v5)))
theorem zk_X11_eats : yX11_eats.cls = RX11 ∧ yX11_eats.cls ≠ "java/lang/invoke/MethodHandle" ∧ yX11_eats.cls ≠ "java/lang/invoke/VarHandle" ∧ (parseMethodDescriptor yX11_eats.desc).map (fun d => d.parameters.length) = some 1 := by decide +kernel
set_option maxHeartbeats 4000000 in
set_option maxRecDepth 100000 in
theorem zt_X11_eats (l : Launch) (dC : Nat → ClassId) (dI : Nat → Nat → Nat) (dA : Nat → ClassId) (ad : Nat → Nat) (adK adV : Nat → Nat) (sz : Nat) (n : Nat) (f_thrown : Int32) (f_taped : Int32) (f_at : Int32) (f_behind : Int32) (f_size : Int32) (f_kind : Int32) (f_number : Int32) (f_wrong : Int32) (f_wrongAt : Int32) (f_faultKind : Int32) (f_faultPlace : Int32) (f_reading : Int32) (f_toldWhy : Int32) (f_x : Int32) (f_standMany : Int32) (f_bestMany : Int32) (f_tail : Int32) (f_round1 : Int32) (b_tape : (Nat → Int32)) (p1 : Int32) (r0 : Int32) (o1 : Int32) (o2 : Int32) (o3 : Int32) (o4 : Int32) (hf : zf_X11_eats n f_at f_behind f_size f_kind f_number f_wrong b_tape p1 = some (r0, o1, o2, o3, o4)) : Met l yX11_eats (.code yX11_eats cX11_eats 2 (some .boolean) :: zb_T) ({ frames := 6, cells := 0, slots := 0, locals := 129 }) (va_Pc [.ref (ad 0), .int p1] (zx_M dC dI dA adK adV [zr_o ad f_thrown f_taped f_at f_behind f_size f_kind f_number f_wrong f_wrongAt f_faultKind f_faultPlace f_reading f_toldWhy f_x f_standMany f_bestMany f_tail f_round1, (ad 4, .inl (dA 0, 900, .inl b_tape))] sz)) (va_Qi (fun (r : Int32) (_ : Unit) => r = r0) (fun _ t => zz_B dC dI dA (va_A [zr_o ad f_thrown f_taped f_at f_behind f_size f_kind f_number f_wrong f_wrongAt f_faultKind f_faultPlace f_reading f_toldWhy f_x f_standMany f_bestMany f_tail f_round1, (ad 4, .inl (dA 0, 900, .inl b_tape))] sz) [zr_o ad f_thrown f_taped o1 o2 f_size o3 o4 f_wrong f_wrongAt f_faultKind f_faultPlace f_reading f_toldWhy f_x f_standMany f_bestMany f_tail f_round1, (ad 4, .inl (dA 0, 900, .inl b_tape))] t) (va_A [zr_o ad f_thrown f_taped f_at f_behind f_size f_kind f_number f_wrong f_wrongAt f_faultKind f_faultPlace f_reading f_toldWhy f_x f_standMany f_bestMany f_tail f_round1, (ad 4, .inl (dA 0, 900, .inl b_tape))] sz)) 0 0 (va_A [zr_o ad f_thrown f_taped f_at f_behind f_size f_kind f_number f_wrong f_wrongAt f_faultKind f_faultPlace f_reading f_toldWhy f_x f_standMany f_bestMany f_tail f_round1, (ad 4, .inl (dA 0, 900, .inl b_tape))] sz) := by
  unfold zf_X11_eats at hf
  refine Met.ofW (cc := cX11_eats) (maxL := 2) (ret := (some .boolean)) (by decide) rfl ?_
  intro p e s m args below meth c s₁ B hml hv
  obtain ⟨rfl, ⟨hsz, hP, hK, hD0⟩, hZ⟩ := hv
  have hx := B.exec
  have hb := B.bytes
  have hr := B.returns
  have ht : ∀ w ∈ zb_T, w.before ([.ref (ad 0), .int p1] : List Value).toArray s = true := fun w hw => atoms_spec (ws := .code yX11_eats cX11_eats 2 (some .boolean) :: zb_T) B.pre w (List.mem_cons_of_mem _ hw)
  have hown : s.vm.findClass RX11 = some m.cls := findClass_of_methodNamed B.named
  have hlocks := B.notSynchronized
  subst hsz
  have hD := hD0.self (sz := s.heap.size)
  generalize hAe : va_A [zr_o ad f_thrown f_taped f_at f_behind f_size f_kind f_number f_wrong f_wrongAt f_faultKind f_faultPlace f_reading f_toldWhy f_x f_standMany f_bestMany f_tail f_round1, (ad 4, .inl (dA 0, 900, .inl b_tape))] s.heap.size = A at hD hZ ⊢
  have hA : ∀ q : Nat, s.heap.size ≤ q → A q := fun q h => by rw [← hAe]; exact Or.inr h
  clear hAe hD0
  have hS : va_S A s.heap s.heap [] := va_S.rf
  have hl := lv_entry ([.ref (ad 0), .int p1]) (n := 2) (Nat.le_of_ble_eq_true rfl)
  rw [lg_entry_eq]
  generalize (lg_sl ([.ref (ad 0), .int p1]) ++ List.replicate (2 - (lg_sl ([.ref (ad 0), .int p1])).length) Slot.unset).toArray = ls at hl ⊢
  have hl : lv_has ls 2 [(0, .ref (ad 0)), (1, .int p1)] := hl
  refine lv_aload_n (pc := 0) hx hb dX11_eats_0 rfl (lv_at hl 0 rfl) ?_
  refine lv_iload_n (pc := 1) hx hb dX11_eats_1 rfl (lv_at hl 1 rfl) ?_
  obtain ⟨v1, hv1, hf⟩ := zc_1 hf
  refine zw_Vi (pc := 2) (wc := [zr_o ad f_thrown f_taped f_at f_behind f_size f_kind f_number f_wrong f_wrongAt f_faultKind f_faultPlace f_reading f_toldWhy f_x f_standMany f_bestMany f_tail f_round1]) (wr := [(ad 4, .inl (dA 0, 900, .inl b_tape))]) (w1 := [zr_o ad f_thrown f_taped f_at f_behind f_size f_kind f_number f_wrong f_wrongAt f_faultKind f_faultPlace f_reading f_toldWhy f_x f_standMany f_bestMany f_tail f_round1]) (As := [.int p1]) (rest := []) ⟨hx, hb, hml, hown, ht⟩ (zt_X11_is l dC dI dA ad _ f_thrown f_taped f_at f_behind f_size f_kind f_number f_wrong f_wrongAt f_faultKind f_faultPlace f_reading f_toldWhy f_x f_standMany f_bestMany f_tail f_round1 p1 v1 hv1) (cwV 1 ht (zb_V (fun _ h => zb_l h) (zb_l zr_114) (zb_l zr_115) (zb_l zr_116) (zb_l zr_36) (zb_l zr_113)) rfl rfl rfl zk_X11_is ⟨Nat.le_of_ble_eq_true rfl, Nat.le_of_ble_eq_true rfl⟩) rfl rfl hK hP hD hS hA [0] [1] (by decide) (by decide) (by decide) rfl rfl rfl hl.1 (Nat.le_of_ble_eq_true rfl) dX11_eats_2 ⟨Nat.zero_le _, Nat.zero_le _⟩ rfl (fun H locs hP hD hS => ?_)
  have hP : va_P (dC, dI) zz_cls [(ad 4, .inl (dA 0, 900, .inl b_tape)), zr_o ad f_thrown f_taped f_at f_behind f_size f_kind f_number f_wrong f_wrongAt f_faultKind f_faultPlace f_reading f_toldWhy f_x f_standMany f_bestMany f_tail f_round1] H := hP
  have hD : va_D A [(ad 4, .inl (dA 0, 900, .inl b_tape)), zr_o ad f_thrown f_taped f_at f_behind f_size f_kind f_number f_wrong f_wrongAt f_faultKind f_faultPlace f_reading f_toldWhy f_x f_standMany f_bestMany f_tail f_round1] := hD
  refine lv_if_ne (tgt := 10) (pc := 5) hx hb dX11_eats_5 rfl (fun hc => ?_) (fun hc => ?_)
  · have hf := za_f hf hc
    refine lv_aload_n (pc := 10) hx hb dX11_eats_10 rfl (lv_at hl 0 rfl) ?_
    obtain ⟨v2, v3, v4, v5, hv2, hf⟩ := zc_4 hf
    refine zx_Vv (pc := 11) (wc := [zr_o ad f_thrown f_taped f_at f_behind f_size f_kind f_number f_wrong f_wrongAt f_faultKind f_faultPlace f_reading f_toldWhy f_x f_standMany f_bestMany f_tail f_round1, (ad 4, .inl (dA 0, 900, .inl b_tape))]) (wr := []) (w1 := [zr_o ad f_thrown f_taped v2 v3 f_size v4 v5 f_wrong f_wrongAt f_faultKind f_faultPlace f_reading f_toldWhy f_x f_standMany f_bestMany f_tail f_round1, (ad 4, .inl (dA 0, 900, .inl b_tape))]) (As := []) (rest := []) ⟨hx, hb, hml, hown, ht⟩ (zt_X11_next l dC dI dA ad adK adV _ n f_thrown f_taped f_at f_behind f_size f_kind f_number f_wrong f_wrongAt f_faultKind f_faultPlace f_reading f_toldWhy f_x f_standMany f_bestMany f_tail f_round1 b_tape v2 v3 v4 v5 hv2) (cwV 0 ht (zb_V (fun _ h => zb_i h) (zb_l zr_117) (zb_l zr_118) (zb_l zr_119) (zb_l zr_36) (zb_l zr_109)) rfl rfl rfl zk_X11_next ⟨Nat.le_of_ble_eq_true rfl, Nat.le_of_ble_eq_true rfl⟩) rfl rfl hZ hK hP hD hS hA [1, 0] [] (by decide) (by decide) (by decide) rfl rfl rfl hl.1 (Nat.le_of_ble_eq_true rfl) dX11_eats_11 ⟨Nat.zero_le _, Nat.zero_le _⟩ rfl (fun H locs hP hD hS => ?_)
    have hP : va_P (dC, dI) zz_cls [zr_o ad f_thrown f_taped v2 v3 f_size v4 v5 f_wrong f_wrongAt f_faultKind f_faultPlace f_reading f_toldWhy f_x f_standMany f_bestMany f_tail f_round1, (ad 4, .inl (dA 0, 900, .inl b_tape))] H := hP
    have hD : va_D A [zr_o ad f_thrown f_taped v2 v3 f_size v4 v5 f_wrong f_wrongAt f_faultKind f_faultPlace f_reading f_toldWhy f_x f_standMany f_bestMany f_tail f_round1, (ad 4, .inl (dA 0, 900, .inl b_tape))] := hD
    refine lv_iconst (v := (1 : Int32)) (pc := 14) hx hb dX11_eats_14 (by decide) ?_
    obtain ⟨rfl, rfl, rfl, rfl, rfl⟩ := zi_5 hf
    exact W.zret (pc := 15) hx hb hr rfl (fun t ht hW => ⟨⟨_, (), rfl, rfl, zz_Bi (by rw [ht]; exact hP) (va_K.moved hW.alike hK) (hD)⟩, hS.F ht⟩) hS.2.2 dX11_eats_15
  · have hf := za_t hf hc
    refine lv_iconst (v := (0 : Int32)) (pc := 8) hx hb dX11_eats_8 (by decide) ?_
    obtain ⟨rfl, rfl, rfl, rfl, rfl⟩ := zi_5 hf
    exact W.zret (pc := 9) hx hb hr rfl (fun t ht hW => ⟨⟨_, (), rfl, rfl, zz_Bi (by rw [ht]; exact hP.sub [1, 0] rfl) (va_K.moved hW.alike hK) (hD.sub [1, 0] (by decide) rfl)⟩, hS.F ht⟩) hS.2.2 dX11_eats_9

def zf_X11_takes (n : Nat) (f_at : Int32) (f_behind : Int32) (f_size : Int32) (f_kind : Int32) (f_number : Int32) (f_wrong : Int32) (f_wrongAt : Int32) (b_tape : (Nat → Int32)) (p1 : Int32) (p2 : Int32) : Option (Int32 × Int32 × Int32 × Int32 × Int32 × Int32 × Int32) :=
  zd_1 (zf_X11_is f_kind f_wrong (25 : Int32)) (fun v1 =>
  zd_2 (
    if v1 = 0 then
      zd_2 (zf_X11_fails f_at f_kind f_wrong f_wrongAt (2 : Int32)) (fun v2 v3 =>
      some (v2, v3))
    else
      zd_1 (zf_X11_within (Int32.toInt64 f_number) (Int32.toInt64 p1) (Int32.toInt64 p2)) (fun v4 =>
      if v4 = 0 then
        zd_2 (zf_X11_fails f_at f_kind f_wrong f_wrongAt (3 : Int32)) (fun v5 v6 =>
        some (v5, v6))
      else
        some (f_wrong, f_wrongAt))) (fun v7 v8 =>
  zd_4 (
    if v7 = 0 then
      zd_4 (zf_X11_next n f_at f_behind f_size f_kind f_number b_tape) (fun v9 v10 v11 v12 =>
      some (v9, v10, v11, v12))
    else
      some (f_at, f_behind, f_kind, f_number)) (fun v13 v14 v15 v16 =>
  some (f_number, v13, v14, v15, v16, v7, v8))))
theorem zk_X11_takes : yX11_takes.cls = RX11 ∧ yX11_takes.cls ≠ "java/lang/invoke/MethodHandle" ∧ yX11_takes.cls ≠ "java/lang/invoke/VarHandle" ∧ (parseMethodDescriptor yX11_takes.desc).map (fun d => d.parameters.length) = some 2 := by decide +kernel
set_option maxHeartbeats 4000000 in
set_option maxRecDepth 100000 in
theorem zt_X11_takes (l : Launch) (dC : Nat → ClassId) (dI : Nat → Nat → Nat) (dA : Nat → ClassId) (ad : Nat → Nat) (adK adV : Nat → Nat) (sz : Nat) (n : Nat) (f_thrown : Int32) (f_taped : Int32) (f_at : Int32) (f_behind : Int32) (f_size : Int32) (f_kind : Int32) (f_number : Int32) (f_wrong : Int32) (f_wrongAt : Int32) (f_faultKind : Int32) (f_faultPlace : Int32) (f_reading : Int32) (f_toldWhy : Int32) (f_x : Int32) (f_standMany : Int32) (f_bestMany : Int32) (f_tail : Int32) (f_round1 : Int32) (b_tape : (Nat → Int32)) (p1 : Int32) (p2 : Int32) (r0 : Int32) (o1 : Int32) (o2 : Int32) (o3 : Int32) (o4 : Int32) (o5 : Int32) (o6 : Int32) (hf : zf_X11_takes n f_at f_behind f_size f_kind f_number f_wrong f_wrongAt b_tape p1 p2 = some (r0, o1, o2, o3, o4, o5, o6)) : Met l yX11_takes (.code yX11_takes cX11_takes 4 (some .int) :: zb_T) ({ frames := 6, cells := 0, slots := 0, locals := 129 }) (va_Pc [.ref (ad 0), .int p1, .int p2] (zx_M dC dI dA adK adV [zr_o ad f_thrown f_taped f_at f_behind f_size f_kind f_number f_wrong f_wrongAt f_faultKind f_faultPlace f_reading f_toldWhy f_x f_standMany f_bestMany f_tail f_round1, (ad 4, .inl (dA 0, 900, .inl b_tape))] sz)) (va_Qi (fun (r : Int32) (_ : Unit) => r = r0) (fun _ t => zz_B dC dI dA (va_A [zr_o ad f_thrown f_taped f_at f_behind f_size f_kind f_number f_wrong f_wrongAt f_faultKind f_faultPlace f_reading f_toldWhy f_x f_standMany f_bestMany f_tail f_round1, (ad 4, .inl (dA 0, 900, .inl b_tape))] sz) [zr_o ad f_thrown f_taped o1 o2 f_size o3 o4 o5 o6 f_faultKind f_faultPlace f_reading f_toldWhy f_x f_standMany f_bestMany f_tail f_round1, (ad 4, .inl (dA 0, 900, .inl b_tape))] t) (va_A [zr_o ad f_thrown f_taped f_at f_behind f_size f_kind f_number f_wrong f_wrongAt f_faultKind f_faultPlace f_reading f_toldWhy f_x f_standMany f_bestMany f_tail f_round1, (ad 4, .inl (dA 0, 900, .inl b_tape))] sz)) 0 0 (va_A [zr_o ad f_thrown f_taped f_at f_behind f_size f_kind f_number f_wrong f_wrongAt f_faultKind f_faultPlace f_reading f_toldWhy f_x f_standMany f_bestMany f_tail f_round1, (ad 4, .inl (dA 0, 900, .inl b_tape))] sz) := by
  unfold zf_X11_takes at hf
  refine Met.ofW (cc := cX11_takes) (maxL := 4) (ret := (some .int)) (by decide) rfl ?_
  intro p e s m args below meth c s₁ B hml hv
  obtain ⟨rfl, ⟨hsz, hP, hK, hD0⟩, hZ⟩ := hv
  have hx := B.exec
  have hb := B.bytes
  have hr := B.returns
  have ht : ∀ w ∈ zb_T, w.before ([.ref (ad 0), .int p1, .int p2] : List Value).toArray s = true := fun w hw => atoms_spec (ws := .code yX11_takes cX11_takes 4 (some .int) :: zb_T) B.pre w (List.mem_cons_of_mem _ hw)
  have hown : s.vm.findClass RX11 = some m.cls := findClass_of_methodNamed B.named
  have hlocks := B.notSynchronized
  subst hsz
  have hD := hD0.self (sz := s.heap.size)
  generalize hAe : va_A [zr_o ad f_thrown f_taped f_at f_behind f_size f_kind f_number f_wrong f_wrongAt f_faultKind f_faultPlace f_reading f_toldWhy f_x f_standMany f_bestMany f_tail f_round1, (ad 4, .inl (dA 0, 900, .inl b_tape))] s.heap.size = A at hD hZ ⊢
  have hA : ∀ q : Nat, s.heap.size ≤ q → A q := fun q h => by rw [← hAe]; exact Or.inr h
  clear hAe hD0
  have hS : va_S A s.heap s.heap [] := va_S.rf
  have hl := lv_entry ([.ref (ad 0), .int p1, .int p2]) (n := 4) (Nat.le_of_ble_eq_true rfl)
  rw [lg_entry_eq]
  generalize (lg_sl ([.ref (ad 0), .int p1, .int p2]) ++ List.replicate (4 - (lg_sl ([.ref (ad 0), .int p1, .int p2])).length) Slot.unset).toArray = ls at hl ⊢
  have hl : lv_has ls 4 [(0, .ref (ad 0)), (1, .int p1), (2, .int p2)] := hl
  refine lv_aload_n (pc := 0) hx hb dX11_takes_0 rfl (lv_at hl 0 rfl) ?_
  refine lv_bipush (v := (25 : Int32)) (pc := 1) hx hb dX11_takes_1 (by decide) ?_
  obtain ⟨v1, hv1, hf⟩ := zc_1 hf
  refine zw_Vi (pc := 3) (wc := [zr_o ad f_thrown f_taped f_at f_behind f_size f_kind f_number f_wrong f_wrongAt f_faultKind f_faultPlace f_reading f_toldWhy f_x f_standMany f_bestMany f_tail f_round1]) (wr := [(ad 4, .inl (dA 0, 900, .inl b_tape))]) (w1 := [zr_o ad f_thrown f_taped f_at f_behind f_size f_kind f_number f_wrong f_wrongAt f_faultKind f_faultPlace f_reading f_toldWhy f_x f_standMany f_bestMany f_tail f_round1]) (As := [.int (25 : Int32)]) (rest := []) ⟨hx, hb, hml, hown, ht⟩ (zt_X11_is l dC dI dA ad _ f_thrown f_taped f_at f_behind f_size f_kind f_number f_wrong f_wrongAt f_faultKind f_faultPlace f_reading f_toldWhy f_x f_standMany f_bestMany f_tail f_round1 (25 : Int32) v1 hv1) (cwV 1 ht (zb_V (fun _ h => zb_l h) (zb_l zr_114) (zb_l zr_115) (zb_l zr_116) (zb_l zr_36) (zb_l zr_113)) rfl rfl rfl zk_X11_is ⟨Nat.le_of_ble_eq_true rfl, Nat.le_of_ble_eq_true rfl⟩) rfl rfl hK hP hD hS hA [0] [1] (by decide) (by decide) (by decide) rfl rfl rfl hl.1 (Nat.le_of_ble_eq_true rfl) dX11_takes_3 ⟨Nat.zero_le _, Nat.zero_le _⟩ rfl (fun H locs hP hD hS => ?_)
  have hP : va_P (dC, dI) zz_cls [(ad 4, .inl (dA 0, 900, .inl b_tape)), zr_o ad f_thrown f_taped f_at f_behind f_size f_kind f_number f_wrong f_wrongAt f_faultKind f_faultPlace f_reading f_toldWhy f_x f_standMany f_bestMany f_tail f_round1] H := hP
  have hD : va_D A [(ad 4, .inl (dA 0, 900, .inl b_tape)), zr_o ad f_thrown f_taped f_at f_behind f_size f_kind f_number f_wrong f_wrongAt f_faultKind f_faultPlace f_reading f_toldWhy f_x f_standMany f_bestMany f_tail f_round1] := hD
  obtain ⟨v7, v8, hj, hf⟩ := zc_2 hf
  refine zj_join (pcJ := 37) (stk := []) (X := fun H locs ls => lv_has ls 4 [(0, .ref (ad 0))] ∧ va_P (dC, dI) zz_cls [zr_o ad f_thrown f_taped f_at f_behind f_size f_kind f_number v7 v8 f_faultKind f_faultPlace f_reading f_toldWhy f_x f_standMany f_bestMany f_tail f_round1, (ad 4, .inl (dA 0, 900, .inl b_tape))] H ∧ va_D A [zr_o ad f_thrown f_taped f_at f_behind f_size f_kind f_number v7 v8 f_faultKind f_faultPlace f_reading f_toldWhy f_x f_standMany f_bestMany f_tail f_round1, (ad 4, .inl (dA 0, 900, .inl b_tape))] ∧ va_S A s.heap H locs) (fun H locs ls hX => ?_) (fun J37 => ?_)
  · obtain ⟨hl, hP, hD, hS⟩ := hX
    clear hj
    refine lv_aload_n (pc := 37) hx hb dX11_takes_37 rfl (lv_at hl 0 rfl) ?_
    refine va_get (pc := 38) (D := (dC, dI)) (ci := 0) (v := .int f_number) (C := RX11) (T := TX11) (N := 42) hx hb ht zb_lay hown hK hP 0 rfl rfl 10 (by decide) (ht _ (zb_l zr_98)) (fun _ h9 => h9) rfl dX11_takes_38 ?_
    refine lv_istore_n (lv' := [(3, .int f_number), (0, .ref (ad 0))]) (pc := 41) hx hb dX11_takes_41 rfl hl (by decide) rfl (fun ls hl => ?_)
    refine lv_aload_n (pc := 42) hx hb dX11_takes_42 rfl (lv_at hl 1 rfl) ?_
    refine va_get (pc := 43) (D := (dC, dI)) (ci := 0) (v := .int v7) (C := RX11) (T := TX11) (N := 42) hx hb ht zb_lay hown hK hP 0 rfl rfl 11 (by decide) (ht _ (zb_l zr_111)) (fun _ h9 => h9) rfl dX11_takes_43 ?_
    obtain ⟨v13, v14, v15, v16, hj, hf⟩ := zc_4 hf
    refine zj_join (pcJ := 53) (stk := []) (X := fun H locs ls => lv_has ls 4 [(3, .int f_number)] ∧ va_P (dC, dI) zz_cls [zr_o ad f_thrown f_taped v13 v14 f_size v15 v16 v7 v8 f_faultKind f_faultPlace f_reading f_toldWhy f_x f_standMany f_bestMany f_tail f_round1, (ad 4, .inl (dA 0, 900, .inl b_tape))] H ∧ va_D A [zr_o ad f_thrown f_taped v13 v14 f_size v15 v16 v7 v8 f_faultKind f_faultPlace f_reading f_toldWhy f_x f_standMany f_bestMany f_tail f_round1, (ad 4, .inl (dA 0, 900, .inl b_tape))] ∧ va_S A s.heap H locs) (fun H locs ls hX => ?_) (fun J53 => ?_)
    · obtain ⟨hl, hP, hD, hS⟩ := hX
      clear hj
      refine lv_iload_n (pc := 53) hx hb dX11_takes_53 rfl (lv_at hl 0 rfl) ?_
      obtain ⟨rfl, rfl, rfl, rfl, rfl, rfl, rfl⟩ := zi_7 hf
      exact W.iret (pc := 54) hx hb hr (fun t ht hW => ⟨⟨_, (), rfl, rfl, zz_Bi (by rw [ht]; exact hP) (va_K.moved hW.alike hK) (hD)⟩, hS.F ht⟩) hS.2.2 dX11_takes_54
    · clear hf
      have hf := hj
      clear hj
      refine lv_if_ne (tgt := 53) (pc := 46) hx hb dX11_takes_46 rfl (fun hc => ?_) (fun hc => ?_)
      · have hf := za_f hf hc
        obtain ⟨rfl, rfl, rfl, rfl⟩ := zi_4 hf
        exact J53 _ _ _ ⟨lv_sub hl [0] rfl, hP, hD, hS⟩
      · have hf := za_t hf hc
        refine lv_aload_n (pc := 49) hx hb dX11_takes_49 rfl (lv_at hl 1 rfl) ?_
        obtain ⟨v9, v10, v11, v12, hv9, hf⟩ := zc_4 hf
        refine zx_Vv (pc := 50) (wc := [zr_o ad f_thrown f_taped f_at f_behind f_size f_kind f_number v7 v8 f_faultKind f_faultPlace f_reading f_toldWhy f_x f_standMany f_bestMany f_tail f_round1, (ad 4, .inl (dA 0, 900, .inl b_tape))]) (wr := []) (w1 := [zr_o ad f_thrown f_taped v9 v10 f_size v11 v12 v7 v8 f_faultKind f_faultPlace f_reading f_toldWhy f_x f_standMany f_bestMany f_tail f_round1, (ad 4, .inl (dA 0, 900, .inl b_tape))]) (As := []) (rest := []) ⟨hx, hb, hml, hown, ht⟩ (zt_X11_next l dC dI dA ad adK adV _ n f_thrown f_taped f_at f_behind f_size f_kind f_number v7 v8 f_faultKind f_faultPlace f_reading f_toldWhy f_x f_standMany f_bestMany f_tail f_round1 b_tape v9 v10 v11 v12 hv9) (cwV 0 ht (zb_V (fun _ h => zb_i h) (zb_l zr_117) (zb_l zr_118) (zb_l zr_119) (zb_l zr_36) (zb_l zr_109)) rfl rfl rfl zk_X11_next ⟨Nat.le_of_ble_eq_true rfl, Nat.le_of_ble_eq_true rfl⟩) rfl rfl hZ hK hP hD hS hA [0, 1] [] (by decide) (by decide) (by decide) rfl rfl rfl hl.1 (Nat.le_of_ble_eq_true rfl) dX11_takes_50 ⟨Nat.zero_le _, Nat.zero_le _⟩ rfl (fun H locs hP hD hS => ?_)
        have hP : va_P (dC, dI) zz_cls [zr_o ad f_thrown f_taped v9 v10 f_size v11 v12 v7 v8 f_faultKind f_faultPlace f_reading f_toldWhy f_x f_standMany f_bestMany f_tail f_round1, (ad 4, .inl (dA 0, 900, .inl b_tape))] H := hP
        have hD : va_D A [zr_o ad f_thrown f_taped v9 v10 f_size v11 v12 v7 v8 f_faultKind f_faultPlace f_reading f_toldWhy f_x f_standMany f_bestMany f_tail f_round1, (ad 4, .inl (dA 0, 900, .inl b_tape))] := hD
        obtain ⟨rfl, rfl, rfl, rfl⟩ := zi_4 hf
        exact J53 _ _ _ ⟨lv_sub hl [0] rfl, hP, hD, hS⟩
  · clear hf
    have hf := hj
    clear hj
    refine lv_if_ne (tgt := 17) (pc := 6) hx hb dX11_takes_6 rfl (fun hc => ?_) (fun hc => ?_)
    · have hf := za_f hf hc
      refine lv_aload_n (pc := 17) hx hb dX11_takes_17 rfl (lv_at hl 0 rfl) ?_
      refine va_get (pc := 18) (D := (dC, dI)) (ci := 0) (v := .int f_number) (C := RX11) (T := TX11) (N := 42) hx hb ht zb_lay hown hK hP 1 rfl rfl 10 (by decide) (ht _ (zb_l zr_98)) (fun _ h9 => h9) rfl dX11_takes_18 ?_
      refine lv_i2l (pc := 21) hx hb dX11_takes_21 rfl ?_
      refine lv_iload_n (pc := 22) hx hb dX11_takes_22 rfl (lv_at hl 1 rfl) ?_
      refine lv_i2l (pc := 23) hx hb dX11_takes_23 rfl ?_
      refine lv_iload_n (pc := 24) hx hb dX11_takes_24 rfl (lv_at hl 2 rfl) ?_
      refine lv_i2l (pc := 25) hx hb dX11_takes_25 rfl ?_
      obtain ⟨v4, hv4, hf⟩ := zc_1 hf
      refine zw_Si (pc := 26) (wc := []) (wr := [(ad 4, .inl (dA 0, 900, .inl b_tape)), zr_o ad f_thrown f_taped f_at f_behind f_size f_kind f_number f_wrong f_wrongAt f_faultKind f_faultPlace f_reading f_toldWhy f_x f_standMany f_bestMany f_tail f_round1]) (w1 := []) (As := [.long (Int32.toInt64 f_number), .long (Int32.toInt64 p1), .long (Int32.toInt64 p2)]) (rest := []) ⟨hx, hb, hml, hown, ht⟩ (zt_X11_within l dC dI dA ad _ (Int32.toInt64 f_number) (Int32.toInt64 p1) (Int32.toInt64 p2) v4 hv4) (cwS 3 ht (zb_S (fun _ h => zb_l h) (zb_l zr_124) (zb_l zr_125) (zb_l zr_36) (zb_l zr_0)) rfl rfl rfl zk_X11_within ⟨Nat.le_of_ble_eq_true rfl, Nat.le_of_ble_eq_true rfl⟩) hK hP hD hS hA [] [0, 1] (by decide) (by decide) (by decide) rfl rfl rfl hl.1 (Nat.le_of_ble_eq_true rfl) dX11_takes_26 ⟨Nat.zero_le _, Nat.zero_le _⟩ rfl (fun H locs hP hD hS => ?_)
      have hP : va_P (dC, dI) zz_cls [(ad 4, .inl (dA 0, 900, .inl b_tape)), zr_o ad f_thrown f_taped f_at f_behind f_size f_kind f_number f_wrong f_wrongAt f_faultKind f_faultPlace f_reading f_toldWhy f_x f_standMany f_bestMany f_tail f_round1] H := hP
      have hD : va_D A [(ad 4, .inl (dA 0, 900, .inl b_tape)), zr_o ad f_thrown f_taped f_at f_behind f_size f_kind f_number f_wrong f_wrongAt f_faultKind f_faultPlace f_reading f_toldWhy f_x f_standMany f_bestMany f_tail f_round1] := hD
      refine lv_if_ne (tgt := 37) (pc := 29) hx hb dX11_takes_29 rfl (fun hc => ?_) (fun hc => ?_)
      · have hf := za_f hf hc
        obtain ⟨rfl, rfl⟩ := zi_2 hf
        exact J37 _ _ _ ⟨lv_sub hl [0] rfl, hP.sub [1, 0] rfl, hD.sub [1, 0] (by decide) rfl, hS⟩
      · have hf := za_t hf hc
        refine lv_aload_n (pc := 32) hx hb dX11_takes_32 rfl (lv_at hl 0 rfl) ?_
        refine lv_iconst (v := (3 : Int32)) (pc := 33) hx hb dX11_takes_33 (by decide) ?_
        obtain ⟨v5, v6, hv5, hf⟩ := zc_2 hf
        refine zw_Vv (pc := 34) (wc := [zr_o ad f_thrown f_taped f_at f_behind f_size f_kind f_number f_wrong f_wrongAt f_faultKind f_faultPlace f_reading f_toldWhy f_x f_standMany f_bestMany f_tail f_round1]) (wr := [(ad 4, .inl (dA 0, 900, .inl b_tape))]) (w1 := [zr_o ad f_thrown f_taped f_at f_behind f_size f_kind f_number v5 v6 f_faultKind f_faultPlace f_reading f_toldWhy f_x f_standMany f_bestMany f_tail f_round1]) (As := [.int (3 : Int32)]) (rest := []) ⟨hx, hb, hml, hown, ht⟩ (zt_X11_fails l dC dI dA ad _ f_thrown f_taped f_at f_behind f_size f_kind f_number f_wrong f_wrongAt f_faultKind f_faultPlace f_reading f_toldWhy f_x f_standMany f_bestMany f_tail f_round1 (3 : Int32) v5 v6 hv5) (cwV 1 ht (zb_V (fun _ h => zb_l h) (zb_l zr_121) (zb_l zr_122) (zb_l zr_123) (zb_l zr_36) (zb_l zr_110)) rfl rfl rfl zk_X11_fails ⟨Nat.le_of_ble_eq_true rfl, Nat.le_of_ble_eq_true rfl⟩) rfl rfl hK hP hD hS hA [1] [0] (by decide) (by decide) (by decide) rfl rfl rfl hl.1 (Nat.le_of_ble_eq_true rfl) dX11_takes_34 ⟨Nat.zero_le _, Nat.zero_le _⟩ rfl (fun H locs hP hD hS => ?_)
        have hP : va_P (dC, dI) zz_cls [(ad 4, .inl (dA 0, 900, .inl b_tape)), zr_o ad f_thrown f_taped f_at f_behind f_size f_kind f_number v5 v6 f_faultKind f_faultPlace f_reading f_toldWhy f_x f_standMany f_bestMany f_tail f_round1] H := hP
        have hD : va_D A [(ad 4, .inl (dA 0, 900, .inl b_tape)), zr_o ad f_thrown f_taped f_at f_behind f_size f_kind f_number v5 v6 f_faultKind f_faultPlace f_reading f_toldWhy f_x f_standMany f_bestMany f_tail f_round1] := hD
        obtain ⟨rfl, rfl⟩ := zi_2 hf
        exact J37 _ _ _ ⟨lv_sub hl [0] rfl, hP.sub [1, 0] rfl, hD.sub [1, 0] (by decide) rfl, hS⟩
    · have hf := za_t hf hc
      refine lv_aload_n (pc := 9) hx hb dX11_takes_9 rfl (lv_at hl 0 rfl) ?_
      refine lv_iconst (v := (2 : Int32)) (pc := 10) hx hb dX11_takes_10 (by decide) ?_
      obtain ⟨v2, v3, hv2, hf⟩ := zc_2 hf
      refine zw_Vv (pc := 11) (wc := [zr_o ad f_thrown f_taped f_at f_behind f_size f_kind f_number f_wrong f_wrongAt f_faultKind f_faultPlace f_reading f_toldWhy f_x f_standMany f_bestMany f_tail f_round1]) (wr := [(ad 4, .inl (dA 0, 900, .inl b_tape))]) (w1 := [zr_o ad f_thrown f_taped f_at f_behind f_size f_kind f_number v2 v3 f_faultKind f_faultPlace f_reading f_toldWhy f_x f_standMany f_bestMany f_tail f_round1]) (As := [.int (2 : Int32)]) (rest := []) ⟨hx, hb, hml, hown, ht⟩ (zt_X11_fails l dC dI dA ad _ f_thrown f_taped f_at f_behind f_size f_kind f_number f_wrong f_wrongAt f_faultKind f_faultPlace f_reading f_toldWhy f_x f_standMany f_bestMany f_tail f_round1 (2 : Int32) v2 v3 hv2) (cwV 1 ht (zb_V (fun _ h => zb_l h) (zb_l zr_121) (zb_l zr_122) (zb_l zr_123) (zb_l zr_36) (zb_l zr_110)) rfl rfl rfl zk_X11_fails ⟨Nat.le_of_ble_eq_true rfl, Nat.le_of_ble_eq_true rfl⟩) rfl rfl hK hP hD hS hA [1] [0] (by decide) (by decide) (by decide) rfl rfl rfl hl.1 (Nat.le_of_ble_eq_true rfl) dX11_takes_11 ⟨Nat.zero_le _, Nat.zero_le _⟩ rfl (fun H locs hP hD hS => ?_)
      have hP : va_P (dC, dI) zz_cls [(ad 4, .inl (dA 0, 900, .inl b_tape)), zr_o ad f_thrown f_taped f_at f_behind f_size f_kind f_number v2 v3 f_faultKind f_faultPlace f_reading f_toldWhy f_x f_standMany f_bestMany f_tail f_round1] H := hP
      have hD : va_D A [(ad 4, .inl (dA 0, 900, .inl b_tape)), zr_o ad f_thrown f_taped f_at f_behind f_size f_kind f_number v2 v3 f_faultKind f_faultPlace f_reading f_toldWhy f_x f_standMany f_bestMany f_tail f_round1] := hD
      refine lv_goto (tgt := 37) (pc := 14) hx hb dX11_takes_14 rfl ?_
      obtain ⟨rfl, rfl⟩ := zi_2 hf
      exact J37 _ _ _ ⟨lv_sub hl [0] rfl, hP.sub [1, 0] rfl, hD.sub [1, 0] (by decide) rfl, hS⟩

def zf_X11_goesIn (n : Nat) (f_at : Int32) (f_behind : Int32) (f_size : Int32) (f_kind : Int32) (f_number : Int32) (f_wrong : Int32) (f_wrongAt : Int32) (b_tape : (Nat → Int32)) (p1 : Int32) : Option (Int32 × Int32 × Int32 × Int32 × Int32 × Int32 × Int32) :=
  zd_2 (
    if p1 = (6 : Int32) then
      zd_2 (zf_X11_fails f_at f_kind f_wrong f_wrongAt (4 : Int32)) (fun v1 v2 =>
      some (v1, v2))
    else
      some (f_wrong, f_wrongAt)) (fun v3 v4 =>
  zd_4 (
    if v3 = 0 then
      zd_4 (zf_X11_next n f_at f_behind f_size f_kind f_number b_tape) (fun v5 v6 v7 v8 =>
      some (v5, v6, v7, v8))
    else
      some (f_at, f_behind, f_kind, f_number)) (fun v9 v10 v11 v12 =>
  if v3 = 0 then
    some ((1 : Int32), v9, v10, v11, v12, v3, v4)
  else
    some ((0 : Int32), v9, v10, v11, v12, v3, v4)))
theorem zk_X11_goesIn : yX11_goesIn.cls = RX11 ∧ yX11_goesIn.cls ≠ "java/lang/invoke/MethodHandle" ∧ yX11_goesIn.cls ≠ "java/lang/invoke/VarHandle" ∧ (parseMethodDescriptor yX11_goesIn.desc).map (fun d => d.parameters.length) = some 1 := by decide +kernel
set_option maxHeartbeats 4000000 in
set_option maxRecDepth 100000 in
theorem zt_X11_goesIn (l : Launch) (dC : Nat → ClassId) (dI : Nat → Nat → Nat) (dA : Nat → ClassId) (ad : Nat → Nat) (adK adV : Nat → Nat) (sz : Nat) (n : Nat) (f_thrown : Int32) (f_taped : Int32) (f_at : Int32) (f_behind : Int32) (f_size : Int32) (f_kind : Int32) (f_number : Int32) (f_wrong : Int32) (f_wrongAt : Int32) (f_faultKind : Int32) (f_faultPlace : Int32) (f_reading : Int32) (f_toldWhy : Int32) (f_x : Int32) (f_standMany : Int32) (f_bestMany : Int32) (f_tail : Int32) (f_round1 : Int32) (b_tape : (Nat → Int32)) (p1 : Int32) (r0 : Int32) (o1 : Int32) (o2 : Int32) (o3 : Int32) (o4 : Int32) (o5 : Int32) (o6 : Int32) (hf : zf_X11_goesIn n f_at f_behind f_size f_kind f_number f_wrong f_wrongAt b_tape p1 = some (r0, o1, o2, o3, o4, o5, o6)) : Met l yX11_goesIn (.code yX11_goesIn cX11_goesIn 2 (some .boolean) :: zb_T) ({ frames := 6, cells := 0, slots := 0, locals := 129 }) (va_Pc [.ref (ad 0), .int p1] (zx_M dC dI dA adK adV [zr_o ad f_thrown f_taped f_at f_behind f_size f_kind f_number f_wrong f_wrongAt f_faultKind f_faultPlace f_reading f_toldWhy f_x f_standMany f_bestMany f_tail f_round1, (ad 4, .inl (dA 0, 900, .inl b_tape))] sz)) (va_Qi (fun (r : Int32) (_ : Unit) => r = r0) (fun _ t => zz_B dC dI dA (va_A [zr_o ad f_thrown f_taped f_at f_behind f_size f_kind f_number f_wrong f_wrongAt f_faultKind f_faultPlace f_reading f_toldWhy f_x f_standMany f_bestMany f_tail f_round1, (ad 4, .inl (dA 0, 900, .inl b_tape))] sz) [zr_o ad f_thrown f_taped o1 o2 f_size o3 o4 o5 o6 f_faultKind f_faultPlace f_reading f_toldWhy f_x f_standMany f_bestMany f_tail f_round1, (ad 4, .inl (dA 0, 900, .inl b_tape))] t) (va_A [zr_o ad f_thrown f_taped f_at f_behind f_size f_kind f_number f_wrong f_wrongAt f_faultKind f_faultPlace f_reading f_toldWhy f_x f_standMany f_bestMany f_tail f_round1, (ad 4, .inl (dA 0, 900, .inl b_tape))] sz)) 0 0 (va_A [zr_o ad f_thrown f_taped f_at f_behind f_size f_kind f_number f_wrong f_wrongAt f_faultKind f_faultPlace f_reading f_toldWhy f_x f_standMany f_bestMany f_tail f_round1, (ad 4, .inl (dA 0, 900, .inl b_tape))] sz) := by
  unfold zf_X11_goesIn at hf
  refine Met.ofW (cc := cX11_goesIn) (maxL := 2) (ret := (some .boolean)) (by decide) rfl ?_
  intro p e s m args below meth c s₁ B hml hv
  obtain ⟨rfl, ⟨hsz, hP, hK, hD0⟩, hZ⟩ := hv
  have hx := B.exec
  have hb := B.bytes
  have hr := B.returns
  have ht : ∀ w ∈ zb_T, w.before ([.ref (ad 0), .int p1] : List Value).toArray s = true := fun w hw => atoms_spec (ws := .code yX11_goesIn cX11_goesIn 2 (some .boolean) :: zb_T) B.pre w (List.mem_cons_of_mem _ hw)
  have hown : s.vm.findClass RX11 = some m.cls := findClass_of_methodNamed B.named
  have hlocks := B.notSynchronized
  subst hsz
  have hD := hD0.self (sz := s.heap.size)
  generalize hAe : va_A [zr_o ad f_thrown f_taped f_at f_behind f_size f_kind f_number f_wrong f_wrongAt f_faultKind f_faultPlace f_reading f_toldWhy f_x f_standMany f_bestMany f_tail f_round1, (ad 4, .inl (dA 0, 900, .inl b_tape))] s.heap.size = A at hD hZ ⊢
  have hA : ∀ q : Nat, s.heap.size ≤ q → A q := fun q h => by rw [← hAe]; exact Or.inr h
  clear hAe hD0
  have hS : va_S A s.heap s.heap [] := va_S.rf
  have hl := lv_entry ([.ref (ad 0), .int p1]) (n := 2) (Nat.le_of_ble_eq_true rfl)
  rw [lg_entry_eq]
  generalize (lg_sl ([.ref (ad 0), .int p1]) ++ List.replicate (2 - (lg_sl ([.ref (ad 0), .int p1])).length) Slot.unset).toArray = ls at hl ⊢
  have hl : lv_has ls 2 [(0, .ref (ad 0)), (1, .int p1)] := hl
  refine lv_iload_n (pc := 0) hx hb dX11_goesIn_0 rfl (lv_at hl 1 rfl) ?_
  refine lv_bipush (v := (6 : Int32)) (pc := 1) hx hb dX11_goesIn_1 (by decide) ?_
  obtain ⟨v3, v4, hj, hf⟩ := zc_2 hf
  refine zj_join (pcJ := 11) (stk := []) (X := fun H locs ls => lv_has ls 2 [(0, .ref (ad 0))] ∧ va_P (dC, dI) zz_cls [zr_o ad f_thrown f_taped f_at f_behind f_size f_kind f_number v3 v4 f_faultKind f_faultPlace f_reading f_toldWhy f_x f_standMany f_bestMany f_tail f_round1, (ad 4, .inl (dA 0, 900, .inl b_tape))] H ∧ va_D A [zr_o ad f_thrown f_taped f_at f_behind f_size f_kind f_number v3 v4 f_faultKind f_faultPlace f_reading f_toldWhy f_x f_standMany f_bestMany f_tail f_round1, (ad 4, .inl (dA 0, 900, .inl b_tape))] ∧ va_S A s.heap H locs) (fun H locs ls hX => ?_) (fun J11 => ?_)
  · obtain ⟨hl, hP, hD, hS⟩ := hX
    clear hj
    refine lv_aload_n (pc := 11) hx hb dX11_goesIn_11 rfl (lv_at hl 0 rfl) ?_
    refine va_get (pc := 12) (D := (dC, dI)) (ci := 0) (v := .int v3) (C := RX11) (T := TX11) (N := 42) hx hb ht zb_lay hown hK hP 0 rfl rfl 11 (by decide) (ht _ (zb_l zr_111)) (fun _ h9 => h9) rfl dX11_goesIn_12 ?_
    obtain ⟨v9, v10, v11, v12, hj, hf⟩ := zc_4 hf
    refine zj_join (pcJ := 22) (stk := []) (X := fun H locs ls => lv_has ls 2 [(0, .ref (ad 0))] ∧ va_P (dC, dI) zz_cls [zr_o ad f_thrown f_taped v9 v10 f_size v11 v12 v3 v4 f_faultKind f_faultPlace f_reading f_toldWhy f_x f_standMany f_bestMany f_tail f_round1, (ad 4, .inl (dA 0, 900, .inl b_tape))] H ∧ va_D A [zr_o ad f_thrown f_taped v9 v10 f_size v11 v12 v3 v4 f_faultKind f_faultPlace f_reading f_toldWhy f_x f_standMany f_bestMany f_tail f_round1, (ad 4, .inl (dA 0, 900, .inl b_tape))] ∧ va_S A s.heap H locs) (fun H locs ls hX => ?_) (fun J22 => ?_)
    · obtain ⟨hl, hP, hD, hS⟩ := hX
      clear hj
      refine lv_aload_n (pc := 22) hx hb dX11_goesIn_22 rfl (lv_at hl 0 rfl) ?_
      refine va_get (pc := 23) (D := (dC, dI)) (ci := 0) (v := .int v3) (C := RX11) (T := TX11) (N := 42) hx hb ht zb_lay hown hK hP 0 rfl rfl 11 (by decide) (ht _ (zb_l zr_111)) (fun _ h9 => h9) rfl dX11_goesIn_23 ?_
      refine lv_if_ne (tgt := 33) (pc := 26) hx hb dX11_goesIn_26 rfl (fun hc => ?_) (fun hc => ?_)
      · have hf := za_f hf hc
        refine lv_iconst (v := (0 : Int32)) (pc := 33) hx hb dX11_goesIn_33 (by decide) ?_
        obtain ⟨rfl, rfl, rfl, rfl, rfl, rfl, rfl⟩ := zi_7 hf
        exact W.zret (pc := 34) hx hb hr rfl (fun t ht hW => ⟨⟨_, (), rfl, rfl, zz_Bi (by rw [ht]; exact hP) (va_K.moved hW.alike hK) (hD)⟩, hS.F ht⟩) hS.2.2 dX11_goesIn_34
      · have hf := za_t hf hc
        refine lv_iconst (v := (1 : Int32)) (pc := 29) hx hb dX11_goesIn_29 (by decide) ?_
        refine lv_goto (tgt := 34) (pc := 30) hx hb dX11_goesIn_30 rfl ?_
        obtain ⟨rfl, rfl, rfl, rfl, rfl, rfl, rfl⟩ := zi_7 hf
        exact W.zret (pc := 34) hx hb hr rfl (fun t ht hW => ⟨⟨_, (), rfl, rfl, zz_Bi (by rw [ht]; exact hP) (va_K.moved hW.alike hK) (hD)⟩, hS.F ht⟩) hS.2.2 dX11_goesIn_34
    · clear hf
      have hf := hj
      clear hj
      refine lv_if_ne (tgt := 22) (pc := 15) hx hb dX11_goesIn_15 rfl (fun hc => ?_) (fun hc => ?_)
      · have hf := za_f hf hc
        obtain ⟨rfl, rfl, rfl, rfl⟩ := zi_4 hf
        exact J22 _ _ _ ⟨lv_sub hl [0] rfl, hP, hD, hS⟩
      · have hf := za_t hf hc
        refine lv_aload_n (pc := 18) hx hb dX11_goesIn_18 rfl (lv_at hl 0 rfl) ?_
        obtain ⟨v5, v6, v7, v8, hv5, hf⟩ := zc_4 hf
        refine zx_Vv (pc := 19) (wc := [zr_o ad f_thrown f_taped f_at f_behind f_size f_kind f_number v3 v4 f_faultKind f_faultPlace f_reading f_toldWhy f_x f_standMany f_bestMany f_tail f_round1, (ad 4, .inl (dA 0, 900, .inl b_tape))]) (wr := []) (w1 := [zr_o ad f_thrown f_taped v5 v6 f_size v7 v8 v3 v4 f_faultKind f_faultPlace f_reading f_toldWhy f_x f_standMany f_bestMany f_tail f_round1, (ad 4, .inl (dA 0, 900, .inl b_tape))]) (As := []) (rest := []) ⟨hx, hb, hml, hown, ht⟩ (zt_X11_next l dC dI dA ad adK adV _ n f_thrown f_taped f_at f_behind f_size f_kind f_number v3 v4 f_faultKind f_faultPlace f_reading f_toldWhy f_x f_standMany f_bestMany f_tail f_round1 b_tape v5 v6 v7 v8 hv5) (cwV 0 ht (zb_V (fun _ h => zb_i h) (zb_l zr_117) (zb_l zr_118) (zb_l zr_119) (zb_l zr_36) (zb_l zr_109)) rfl rfl rfl zk_X11_next ⟨Nat.le_of_ble_eq_true rfl, Nat.le_of_ble_eq_true rfl⟩) rfl rfl hZ hK hP hD hS hA [0, 1] [] (by decide) (by decide) (by decide) rfl rfl rfl hl.1 (Nat.le_of_ble_eq_true rfl) dX11_goesIn_19 ⟨Nat.zero_le _, Nat.zero_le _⟩ rfl (fun H locs hP hD hS => ?_)
        have hP : va_P (dC, dI) zz_cls [zr_o ad f_thrown f_taped v5 v6 f_size v7 v8 v3 v4 f_faultKind f_faultPlace f_reading f_toldWhy f_x f_standMany f_bestMany f_tail f_round1, (ad 4, .inl (dA 0, 900, .inl b_tape))] H := hP
        have hD : va_D A [zr_o ad f_thrown f_taped v5 v6 f_size v7 v8 v3 v4 f_faultKind f_faultPlace f_reading f_toldWhy f_x f_standMany f_bestMany f_tail f_round1, (ad 4, .inl (dA 0, 900, .inl b_tape))] := hD
        obtain ⟨rfl, rfl, rfl, rfl⟩ := zi_4 hf
        exact J22 _ _ _ ⟨lv_sub hl [0] rfl, hP, hD, hS⟩
  · clear hf
    have hf := hj
    clear hj
    refine lv_icmp_ne (tgt := 11) (pc := 3) hx hb dX11_goesIn_3 rfl (fun hc => ?_) (fun hc => ?_)
    · have hf := za_f hf hc
      obtain ⟨rfl, rfl⟩ := zi_2 hf
      exact J11 _ _ _ ⟨lv_sub hl [0] rfl, hP, hD, hS⟩
    · have hf := za_t hf hc
      refine lv_aload_n (pc := 6) hx hb dX11_goesIn_6 rfl (lv_at hl 0 rfl) ?_
      refine lv_iconst (v := (4 : Int32)) (pc := 7) hx hb dX11_goesIn_7 (by decide) ?_
      obtain ⟨v1, v2, hv1, hf⟩ := zc_2 hf
      refine zw_Vv (pc := 8) (wc := [zr_o ad f_thrown f_taped f_at f_behind f_size f_kind f_number f_wrong f_wrongAt f_faultKind f_faultPlace f_reading f_toldWhy f_x f_standMany f_bestMany f_tail f_round1]) (wr := [(ad 4, .inl (dA 0, 900, .inl b_tape))]) (w1 := [zr_o ad f_thrown f_taped f_at f_behind f_size f_kind f_number v1 v2 f_faultKind f_faultPlace f_reading f_toldWhy f_x f_standMany f_bestMany f_tail f_round1]) (As := [.int (4 : Int32)]) (rest := []) ⟨hx, hb, hml, hown, ht⟩ (zt_X11_fails l dC dI dA ad _ f_thrown f_taped f_at f_behind f_size f_kind f_number f_wrong f_wrongAt f_faultKind f_faultPlace f_reading f_toldWhy f_x f_standMany f_bestMany f_tail f_round1 (4 : Int32) v1 v2 hv1) (cwV 1 ht (zb_V (fun _ h => zb_l h) (zb_l zr_121) (zb_l zr_122) (zb_l zr_123) (zb_l zr_36) (zb_l zr_110)) rfl rfl rfl zk_X11_fails ⟨Nat.le_of_ble_eq_true rfl, Nat.le_of_ble_eq_true rfl⟩) rfl rfl hK hP hD hS hA [0] [1] (by decide) (by decide) (by decide) rfl rfl rfl hl.1 (Nat.le_of_ble_eq_true rfl) dX11_goesIn_8 ⟨Nat.zero_le _, Nat.zero_le _⟩ rfl (fun H locs hP hD hS => ?_)
      have hP : va_P (dC, dI) zz_cls [(ad 4, .inl (dA 0, 900, .inl b_tape)), zr_o ad f_thrown f_taped f_at f_behind f_size f_kind f_number v1 v2 f_faultKind f_faultPlace f_reading f_toldWhy f_x f_standMany f_bestMany f_tail f_round1] H := hP
      have hD : va_D A [(ad 4, .inl (dA 0, 900, .inl b_tape)), zr_o ad f_thrown f_taped f_at f_behind f_size f_kind f_number v1 v2 f_faultKind f_faultPlace f_reading f_toldWhy f_x f_standMany f_bestMany f_tail f_round1] := hD
      obtain ⟨rfl, rfl⟩ := zi_2 hf
      exact J11 _ _ _ ⟨lv_sub hl [0] rfl, hP.sub [1, 0] rfl, hD.sub [1, 0] (by decide) rfl, hS⟩
