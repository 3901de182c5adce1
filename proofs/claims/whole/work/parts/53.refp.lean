def zf_X11_readThing (n : Nat) (f_at : Int32) (f_behind : Int32) (f_size : Int32) (f_kind : Int32) (f_number : Int32) (f_wrong : Int32) (f_wrongAt : Int32) (b_tape : (Nat → Int32)) (b_fresh : (Nat → Int32)) : Option (Int32 × Int32 × Int32 × Int32 × Int32 × Int32 × Int32) :=
  zd_1 (za_ld b_fresh 994 (2 : Int32)) (fun v1 =>
  zd_7 (zf_X11_takes n f_at f_behind f_size f_kind f_number f_wrong f_wrongAt b_tape (0 : Int32) (v1 - (1 : Int32))) (fun v2 v3 v4 v5 v6 v7 v8 =>
  some (((1 : Int32) <<< (v2 &&& 31)), v3, v4, v5, v6, v7, v8)))
theorem zk_X11_readThing : yX11_readThing.cls = RX11 ∧ yX11_readThing.cls ≠ "java/lang/invoke/MethodHandle" ∧ yX11_readThing.cls ≠ "java/lang/invoke/VarHandle" ∧ (parseMethodDescriptor yX11_readThing.desc).map (fun d => d.parameters.length) = some 0 := by decide +kernel
set_option maxHeartbeats 4000000 in
set_option maxRecDepth 100000 in
theorem zt_X11_readThing (l : Launch) (dC : Nat → ClassId) (dI : Nat → Nat → Nat) (dA : Nat → ClassId) (ad : Nat → Nat) (adK adV : Nat → Nat) (sz : Nat) (n : Nat) (f_thrown : Int32) (f_taped : Int32) (f_at : Int32) (f_behind : Int32) (f_size : Int32) (f_kind : Int32) (f_number : Int32) (f_wrong : Int32) (f_wrongAt : Int32) (f_faultKind : Int32) (f_faultPlace : Int32) (f_reading : Int32) (f_toldWhy : Int32) (f_x : Int32) (f_standMany : Int32) (f_bestMany : Int32) (f_tail : Int32) (f_round1 : Int32) (b_tape : (Nat → Int32)) (b_fresh : (Nat → Int32)) (r0 : Int32) (o1 : Int32) (o2 : Int32) (o3 : Int32) (o4 : Int32) (o5 : Int32) (o6 : Int32) (hf : zf_X11_readThing n f_at f_behind f_size f_kind f_number f_wrong f_wrongAt b_tape b_fresh = some (r0, o1, o2, o3, o4, o5, o6)) : Met l yX11_readThing (.code yX11_readThing cX11_readThing 1 (some .int) :: zb_T) ({ frames := 7, cells := 0, slots := 0, locals := 152 }) (va_Pc [.ref (ad 0)] (zx_M dC dI dA adK adV [zr_o ad f_thrown f_taped f_at f_behind f_size f_kind f_number f_wrong f_wrongAt f_faultKind f_faultPlace f_reading f_toldWhy f_x f_standMany f_bestMany f_tail f_round1, (ad 4, .inl (dA 0, 900, .inl b_tape)), (ad 5, .inl (dA 0, 994, .inl b_fresh))] sz)) (va_Qi (fun (r : Int32) (_ : Unit) => r = r0) (fun _ t => zz_B dC dI dA (va_A [zr_o ad f_thrown f_taped f_at f_behind f_size f_kind f_number f_wrong f_wrongAt f_faultKind f_faultPlace f_reading f_toldWhy f_x f_standMany f_bestMany f_tail f_round1, (ad 4, .inl (dA 0, 900, .inl b_tape)), (ad 5, .inl (dA 0, 994, .inl b_fresh))] sz) [zr_o ad f_thrown f_taped o1 o2 f_size o3 o4 o5 o6 f_faultKind f_faultPlace f_reading f_toldWhy f_x f_standMany f_bestMany f_tail f_round1, (ad 4, .inl (dA 0, 900, .inl b_tape)), (ad 5, .inl (dA 0, 994, .inl b_fresh))] t) (va_A [zr_o ad f_thrown f_taped f_at f_behind f_size f_kind f_number f_wrong f_wrongAt f_faultKind f_faultPlace f_reading f_toldWhy f_x f_standMany f_bestMany f_tail f_round1, (ad 4, .inl (dA 0, 900, .inl b_tape)), (ad 5, .inl (dA 0, 994, .inl b_fresh))] sz)) 0 0 (va_A [zr_o ad f_thrown f_taped f_at f_behind f_size f_kind f_number f_wrong f_wrongAt f_faultKind f_faultPlace f_reading f_toldWhy f_x f_standMany f_bestMany f_tail f_round1, (ad 4, .inl (dA 0, 900, .inl b_tape)), (ad 5, .inl (dA 0, 994, .inl b_fresh))] sz) := by
  unfold zf_X11_readThing at hf
  refine Met.ofW (cc := cX11_readThing) (maxL := 1) (ret := (some .int)) (by decide) rfl ?_
  intro p e s m args below meth c s₁ B hml hv
  obtain ⟨rfl, ⟨hsz, hP, hK, hD0⟩, hZ⟩ := hv
  have hx := B.exec
  have hb := B.bytes
  have hr := B.returns
  have ht : ∀ w ∈ zb_T, w.before ([.ref (ad 0)] : List Value).toArray s = true := fun w hw => atoms_spec (ws := .code yX11_readThing cX11_readThing 1 (some .int) :: zb_T) B.pre w (List.mem_cons_of_mem _ hw)
  have hown : s.vm.findClass RX11 = some m.cls := findClass_of_methodNamed B.named
  have hlocks := B.notSynchronized
  subst hsz
  have hD := hD0.self (sz := s.heap.size)
  generalize hAe : va_A [zr_o ad f_thrown f_taped f_at f_behind f_size f_kind f_number f_wrong f_wrongAt f_faultKind f_faultPlace f_reading f_toldWhy f_x f_standMany f_bestMany f_tail f_round1, (ad 4, .inl (dA 0, 900, .inl b_tape)), (ad 5, .inl (dA 0, 994, .inl b_fresh))] s.heap.size = A at hD hZ ⊢
  have hA : ∀ q : Nat, s.heap.size ≤ q → A q := fun q h => by rw [← hAe]; exact Or.inr h
  clear hAe hD0
  have hS : va_S A s.heap s.heap [] := va_S.rf
  have hl := lv_entry ([.ref (ad 0)]) (n := 1) (Nat.le_of_ble_eq_true rfl)
  rw [lg_entry_eq]
  generalize (lg_sl ([.ref (ad 0)]) ++ List.replicate (1 - (lg_sl ([.ref (ad 0)])).length) Slot.unset).toArray = ls at hl ⊢
  have hl : lv_has ls 1 [(0, .ref (ad 0))] := hl
  refine lv_iconst (v := (1 : Int32)) (pc := 0) hx hb dX11_readThing_0 (by decide) ?_
  refine lv_aload_n (pc := 1) hx hb dX11_readThing_1 rfl (lv_at hl 0 rfl) ?_
  refine lv_iconst (v := (0 : Int32)) (pc := 2) hx hb dX11_readThing_2 (by decide) ?_
  refine lv_aload_n (pc := 3) hx hb dX11_readThing_3 rfl (lv_at hl 0 rfl) ?_
  refine va_get (pc := 4) (D := (dC, dI)) (ci := 0) (v := .ref (ad 5)) (C := RX11) (T := TX11) (N := 42) hx hb ht zb_lay hown hK hP 0 rfl rfl 4 (by decide) (ht _ (zb_l zr_10)) (fun _ h9 => h9) rfl dX11_readThing_4 ?_
  refine lv_iconst (v := (2 : Int32)) (pc := 7) hx hb dX11_readThing_7 (by decide) ?_
  obtain ⟨v1, hv1, hf⟩ := zc_1 hf
  refine zw_iald (pc := 8) hx hb hK hP 2 0 rfl rfl hv1 dX11_readThing_8 ?_
  refine lv_iconst (v := (1 : Int32)) (pc := 9) hx hb dX11_readThing_9 (by decide) ?_
  refine lv_isub (pc := 10) hx hb dX11_readThing_10 ?_
  obtain ⟨v2, v3, v4, v5, v6, v7, v8, hv2, hf⟩ := zc_7 hf
  refine zx_Vi (pc := 11) (wc := [zr_o ad f_thrown f_taped f_at f_behind f_size f_kind f_number f_wrong f_wrongAt f_faultKind f_faultPlace f_reading f_toldWhy f_x f_standMany f_bestMany f_tail f_round1, (ad 4, .inl (dA 0, 900, .inl b_tape))]) (wr := [(ad 5, .inl (dA 0, 994, .inl b_fresh))]) (w1 := [zr_o ad f_thrown f_taped v3 v4 f_size v5 v6 v7 v8 f_faultKind f_faultPlace f_reading f_toldWhy f_x f_standMany f_bestMany f_tail f_round1, (ad 4, .inl (dA 0, 900, .inl b_tape))]) (As := [.int (0 : Int32), .int (v1 - (1 : Int32))]) (rest := [.int (1 : Int32)]) ⟨hx, hb, hml, hown, ht⟩ (zt_X11_takes l dC dI dA ad adK adV _ n f_thrown f_taped f_at f_behind f_size f_kind f_number f_wrong f_wrongAt f_faultKind f_faultPlace f_reading f_toldWhy f_x f_standMany f_bestMany f_tail f_round1 b_tape (0 : Int32) (v1 - (1 : Int32)) v2 v3 v4 v5 v6 v7 v8 hv2) (cwV 2 ht (zb_V (fun _ h => zb_i h) (zb_l zr_172) (zb_l zr_173) (zb_l zr_174) (zb_l zr_36) (zb_l zr_126)) rfl rfl rfl zk_X11_takes ⟨Nat.le_of_ble_eq_true rfl, Nat.le_of_ble_eq_true rfl⟩) rfl rfl hZ hK hP hD hS hA [0, 1] [2] (by decide) (by decide) (by decide) rfl rfl rfl hl.1 (Nat.le_of_ble_eq_true rfl) dX11_readThing_11 ⟨Nat.zero_le _, Nat.zero_le _⟩ rfl (fun H locs hP hD hS => ?_)
  have hP : va_P (dC, dI) zz_cls [(ad 5, .inl (dA 0, 994, .inl b_fresh)), zr_o ad f_thrown f_taped v3 v4 f_size v5 v6 v7 v8 f_faultKind f_faultPlace f_reading f_toldWhy f_x f_standMany f_bestMany f_tail f_round1, (ad 4, .inl (dA 0, 900, .inl b_tape))] H := hP
  have hD : va_D A [(ad 5, .inl (dA 0, 994, .inl b_fresh)), zr_o ad f_thrown f_taped v3 v4 f_size v5 v6 v7 v8 f_faultKind f_faultPlace f_reading f_toldWhy f_x f_standMany f_bestMany f_tail f_round1, (ad 4, .inl (dA 0, 900, .inl b_tape))] := hD
  refine lv_ishl (pc := 14) hx hb dX11_readThing_14 ?_
  obtain ⟨rfl, rfl, rfl, rfl, rfl, rfl, rfl⟩ := zi_7 hf
  exact W.iret (pc := 15) hx hb hr (fun t ht hW => ⟨⟨_, (), rfl, rfl, zz_Bi (by rw [ht]; exact hP.sub [1, 2, 0] rfl) (va_K.moved hW.alike hK) (hD.sub [1, 2, 0] (by decide) rfl)⟩, hS.F ht⟩) hS.2.2 dX11_readThing_15

def zf_X11_readFlag (n : Nat) (f_at : Int32) (f_behind : Int32) (f_size : Int32) (f_kind : Int32) (f_number : Int32) (f_wrong : Int32) (f_wrongAt : Int32) (b_tape : (Nat → Int32)) (b_fresh : (Nat → Int32)) (p1 : Int32) : Option (Int32 × Int32 × Int32 × Int32 × Int32 × Int32 × Int32 × (Nat → Int32)) :=
  zd_5 (zf_X11_eats n f_at f_behind f_size f_kind f_number f_wrong b_tape (4 : Int32)) (fun v1 v2 v3 v4 v5 =>
  if v1 = 0 then
    zd_5 (zf_X11_eats n v2 v3 f_size v4 v5 f_wrong b_tape (5 : Int32)) (fun v6 v7 v8 v9 v10 =>
    if v6 = 0 then
      zd_5 (zf_X11_eats n v7 v8 f_size v9 v10 f_wrong b_tape (6 : Int32)) (fun v11 v12 v13 v14 v15 =>
      if v11 = 0 then
        some ((0 : Int32), v12, v13, v14, v15, f_wrong, f_wrongAt, b_fresh)
      else
        zd_7 (zf_X11_takes n v12 v13 f_size v14 v15 f_wrong f_wrongAt b_tape (0 : Int32) (9 : Int32)) (fun v16 v17 v18 v19 v20 v21 v22 =>
        zd_1 (za_st b_fresh 994 ((28 : Int32) + p1) v16) (fun a23 =>
        if v21 = 0 then
          some ((1 : Int32), v17, v18, v19, v20, v21, v22, a23)
        else
          some ((0 : Int32), v17, v18, v19, v20, v21, v22, a23))))
    else
      zd_1 (za_ld b_fresh 994 ((19 : Int32) + p1)) (fun v24 =>
      zd_7 (zf_X11_readThing n v7 v8 f_size v9 v10 f_wrong f_wrongAt b_tape b_fresh) (fun v25 v26 v27 v28 v29 v30 v31 =>
      zd_1 (za_st b_fresh 994 ((19 : Int32) + p1) (v24 ||| v25)) (fun a32 =>
      if v30 = 0 then
        some ((1 : Int32), v26, v27, v28, v29, v30, v31, a32)
      else
        some ((0 : Int32), v26, v27, v28, v29, v30, v31, a32)))))
  else
    zd_1 (za_ld b_fresh 994 ((10 : Int32) + p1)) (fun v33 =>
    zd_7 (zf_X11_readThing n v2 v3 f_size v4 v5 f_wrong f_wrongAt b_tape b_fresh) (fun v34 v35 v36 v37 v38 v39 v40 =>
    zd_1 (za_st b_fresh 994 ((10 : Int32) + p1) (v33 ||| v34)) (fun a41 =>
    if v39 = 0 then
      some ((1 : Int32), v35, v36, v37, v38, v39, v40, a41)
    else
      some ((0 : Int32), v35, v36, v37, v38, v39, v40, a41)))))
theorem zk_X11_readFlag : yX11_readFlag.cls = RX11 ∧ yX11_readFlag.cls ≠ "java/lang/invoke/MethodHandle" ∧ yX11_readFlag.cls ≠ "java/lang/invoke/VarHandle" ∧ (parseMethodDescriptor yX11_readFlag.desc).map (fun d => d.parameters.length) = some 1 := by decide +kernel
set_option maxHeartbeats 4000000 in
set_option maxRecDepth 100000 in
theorem zt_X11_readFlag (l : Launch) (dC : Nat → ClassId) (dI : Nat → Nat → Nat) (dA : Nat → ClassId) (ad : Nat → Nat) (adK adV : Nat → Nat) (sz : Nat) (n : Nat) (f_thrown : Int32) (f_taped : Int32) (f_at : Int32) (f_behind : Int32) (f_size : Int32) (f_kind : Int32) (f_number : Int32) (f_wrong : Int32) (f_wrongAt : Int32) (f_faultKind : Int32) (f_faultPlace : Int32) (f_reading : Int32) (f_toldWhy : Int32) (f_x : Int32) (f_standMany : Int32) (f_bestMany : Int32) (f_tail : Int32) (f_round1 : Int32) (b_tape : (Nat → Int32)) (b_fresh : (Nat → Int32)) (p1 : Int32) (r0 : Int32) (o1 : Int32) (o2 : Int32) (o3 : Int32) (o4 : Int32) (o5 : Int32) (o6 : Int32) (o7 : (Nat → Int32)) (hf : zf_X11_readFlag n f_at f_behind f_size f_kind f_number f_wrong f_wrongAt b_tape b_fresh p1 = some (r0, o1, o2, o3, o4, o5, o6, o7)) : Met l yX11_readFlag (.code yX11_readFlag cX11_readFlag 2 (some .boolean) :: zb_T) ({ frames := 8, cells := 0, slots := 0, locals := 172 }) (va_Pc [.ref (ad 0), .int p1] (zx_M dC dI dA adK adV [zr_o ad f_thrown f_taped f_at f_behind f_size f_kind f_number f_wrong f_wrongAt f_faultKind f_faultPlace f_reading f_toldWhy f_x f_standMany f_bestMany f_tail f_round1, (ad 4, .inl (dA 0, 900, .inl b_tape)), (ad 5, .inl (dA 0, 994, .inl b_fresh))] sz)) (va_Qi (fun (r : Int32) (_ : Unit) => r = r0) (fun _ t => zz_B dC dI dA (va_A [zr_o ad f_thrown f_taped f_at f_behind f_size f_kind f_number f_wrong f_wrongAt f_faultKind f_faultPlace f_reading f_toldWhy f_x f_standMany f_bestMany f_tail f_round1, (ad 4, .inl (dA 0, 900, .inl b_tape)), (ad 5, .inl (dA 0, 994, .inl b_fresh))] sz) [zr_o ad f_thrown f_taped o1 o2 f_size o3 o4 o5 o6 f_faultKind f_faultPlace f_reading f_toldWhy f_x f_standMany f_bestMany f_tail f_round1, (ad 4, .inl (dA 0, 900, .inl b_tape)), (ad 5, .inl (dA 0, 994, .inl o7))] t) (va_A [zr_o ad f_thrown f_taped f_at f_behind f_size f_kind f_number f_wrong f_wrongAt f_faultKind f_faultPlace f_reading f_toldWhy f_x f_standMany f_bestMany f_tail f_round1, (ad 4, .inl (dA 0, 900, .inl b_tape)), (ad 5, .inl (dA 0, 994, .inl b_fresh))] sz)) 0 0 (va_A [zr_o ad f_thrown f_taped f_at f_behind f_size f_kind f_number f_wrong f_wrongAt f_faultKind f_faultPlace f_reading f_toldWhy f_x f_standMany f_bestMany f_tail f_round1, (ad 4, .inl (dA 0, 900, .inl b_tape)), (ad 5, .inl (dA 0, 994, .inl b_fresh))] sz) := by
  unfold zf_X11_readFlag at hf
  refine Met.ofW (cc := cX11_readFlag) (maxL := 2) (ret := (some .boolean)) (by decide) rfl ?_
  intro p e s m args below meth c s₁ B hml hv
  obtain ⟨rfl, ⟨hsz, hP, hK, hD0⟩, hZ⟩ := hv
  have hx := B.exec
  have hb := B.bytes
  have hr := B.returns
  have ht : ∀ w ∈ zb_T, w.before ([.ref (ad 0), .int p1] : List Value).toArray s = true := fun w hw => atoms_spec (ws := .code yX11_readFlag cX11_readFlag 2 (some .boolean) :: zb_T) B.pre w (List.mem_cons_of_mem _ hw)
  have hown : s.vm.findClass RX11 = some m.cls := findClass_of_methodNamed B.named
  have hlocks := B.notSynchronized
  subst hsz
  have hD := hD0.self (sz := s.heap.size)
  generalize hAe : va_A [zr_o ad f_thrown f_taped f_at f_behind f_size f_kind f_number f_wrong f_wrongAt f_faultKind f_faultPlace f_reading f_toldWhy f_x f_standMany f_bestMany f_tail f_round1, (ad 4, .inl (dA 0, 900, .inl b_tape)), (ad 5, .inl (dA 0, 994, .inl b_fresh))] s.heap.size = A at hD hZ ⊢
  have hA : ∀ q : Nat, s.heap.size ≤ q → A q := fun q h => by rw [← hAe]; exact Or.inr h
  clear hAe hD0
  have hS : va_S A s.heap s.heap [] := va_S.rf
  have hl := lv_entry ([.ref (ad 0), .int p1]) (n := 2) (Nat.le_of_ble_eq_true rfl)
  rw [lg_entry_eq]
  generalize (lg_sl ([.ref (ad 0), .int p1]) ++ List.replicate (2 - (lg_sl ([.ref (ad 0), .int p1])).length) Slot.unset).toArray = ls at hl ⊢
  have hl : lv_has ls 2 [(0, .ref (ad 0)), (1, .int p1)] := hl
  refine lv_aload_n (pc := 0) hx hb dX11_readFlag_0 rfl (lv_at hl 0 rfl) ?_
  refine lv_iconst (v := (4 : Int32)) (pc := 1) hx hb dX11_readFlag_1 (by decide) ?_
  obtain ⟨v1, v2, v3, v4, v5, hv1, hf⟩ := zc_5 hf
  refine zx_Vi (pc := 2) (wc := [zr_o ad f_thrown f_taped f_at f_behind f_size f_kind f_number f_wrong f_wrongAt f_faultKind f_faultPlace f_reading f_toldWhy f_x f_standMany f_bestMany f_tail f_round1, (ad 4, .inl (dA 0, 900, .inl b_tape))]) (wr := [(ad 5, .inl (dA 0, 994, .inl b_fresh))]) (w1 := [zr_o ad f_thrown f_taped v2 v3 f_size v4 v5 f_wrong f_wrongAt f_faultKind f_faultPlace f_reading f_toldWhy f_x f_standMany f_bestMany f_tail f_round1, (ad 4, .inl (dA 0, 900, .inl b_tape))]) (As := [.int (4 : Int32)]) (rest := []) ⟨hx, hb, hml, hown, ht⟩ (zt_X11_eats l dC dI dA ad adK adV _ n f_thrown f_taped f_at f_behind f_size f_kind f_number f_wrong f_wrongAt f_faultKind f_faultPlace f_reading f_toldWhy f_x f_standMany f_bestMany f_tail f_round1 b_tape (4 : Int32) v1 v2 v3 v4 v5 hv1) (cwV 1 ht (zb_V (fun _ h => zb_i h) (zb_l zr_144) (zb_l zr_145) (zb_l zr_146) (zb_l zr_36) (zb_l zr_120)) rfl rfl rfl zk_X11_eats ⟨Nat.le_of_ble_eq_true rfl, Nat.le_of_ble_eq_true rfl⟩) rfl rfl hZ hK hP hD hS hA [0, 1] [2] (by decide) (by decide) (by decide) rfl rfl rfl hl.1 (Nat.le_of_ble_eq_true rfl) dX11_readFlag_2 ⟨Nat.zero_le _, Nat.zero_le _⟩ rfl (fun H locs hP hD hS => ?_)
  have hP : va_P (dC, dI) zz_cls [(ad 5, .inl (dA 0, 994, .inl b_fresh)), zr_o ad f_thrown f_taped v2 v3 f_size v4 v5 f_wrong f_wrongAt f_faultKind f_faultPlace f_reading f_toldWhy f_x f_standMany f_bestMany f_tail f_round1, (ad 4, .inl (dA 0, 900, .inl b_tape))] H := hP
  have hD : va_D A [(ad 5, .inl (dA 0, 994, .inl b_fresh)), zr_o ad f_thrown f_taped v2 v3 f_size v4 v5 f_wrong f_wrongAt f_faultKind f_faultPlace f_reading f_toldWhy f_x f_standMany f_bestMany f_tail f_round1, (ad 4, .inl (dA 0, 900, .inl b_tape))] := hD
  refine lv_if_eq (tgt := 27) (pc := 5) hx hb dX11_readFlag_5 rfl (fun hc => ?_) (fun hc => ?_)
  · have hf := za_t hf hc
    refine lv_aload_n (pc := 27) hx hb dX11_readFlag_27 rfl (lv_at hl 0 rfl) ?_
    refine lv_iconst (v := (5 : Int32)) (pc := 28) hx hb dX11_readFlag_28 (by decide) ?_
    obtain ⟨v6, v7, v8, v9, v10, hv6, hf⟩ := zc_5 hf
    refine zx_Vi (pc := 29) (wc := [zr_o ad f_thrown f_taped v2 v3 f_size v4 v5 f_wrong f_wrongAt f_faultKind f_faultPlace f_reading f_toldWhy f_x f_standMany f_bestMany f_tail f_round1, (ad 4, .inl (dA 0, 900, .inl b_tape))]) (wr := [(ad 5, .inl (dA 0, 994, .inl b_fresh))]) (w1 := [zr_o ad f_thrown f_taped v7 v8 f_size v9 v10 f_wrong f_wrongAt f_faultKind f_faultPlace f_reading f_toldWhy f_x f_standMany f_bestMany f_tail f_round1, (ad 4, .inl (dA 0, 900, .inl b_tape))]) (As := [.int (5 : Int32)]) (rest := []) ⟨hx, hb, hml, hown, ht⟩ (zt_X11_eats l dC dI dA ad adK adV _ n f_thrown f_taped v2 v3 f_size v4 v5 f_wrong f_wrongAt f_faultKind f_faultPlace f_reading f_toldWhy f_x f_standMany f_bestMany f_tail f_round1 b_tape (5 : Int32) v6 v7 v8 v9 v10 hv6) (cwV 1 ht (zb_V (fun _ h => zb_i h) (zb_l zr_144) (zb_l zr_145) (zb_l zr_146) (zb_l zr_36) (zb_l zr_120)) rfl rfl rfl zk_X11_eats ⟨Nat.le_of_ble_eq_true rfl, Nat.le_of_ble_eq_true rfl⟩) rfl rfl hZ hK hP hD hS hA [1, 2] [0] (by decide) (by decide) (by decide) rfl rfl rfl hl.1 (Nat.le_of_ble_eq_true rfl) dX11_readFlag_29 ⟨Nat.zero_le _, Nat.zero_le _⟩ rfl (fun H locs hP hD hS => ?_)
    have hP : va_P (dC, dI) zz_cls [(ad 5, .inl (dA 0, 994, .inl b_fresh)), zr_o ad f_thrown f_taped v7 v8 f_size v9 v10 f_wrong f_wrongAt f_faultKind f_faultPlace f_reading f_toldWhy f_x f_standMany f_bestMany f_tail f_round1, (ad 4, .inl (dA 0, 900, .inl b_tape))] H := hP
    have hD : va_D A [(ad 5, .inl (dA 0, 994, .inl b_fresh)), zr_o ad f_thrown f_taped v7 v8 f_size v9 v10 f_wrong f_wrongAt f_faultKind f_faultPlace f_reading f_toldWhy f_x f_standMany f_bestMany f_tail f_round1, (ad 4, .inl (dA 0, 900, .inl b_tape))] := hD
    refine lv_if_eq (tgt := 54) (pc := 32) hx hb dX11_readFlag_32 rfl (fun hc => ?_) (fun hc => ?_)
    · have hf := za_t hf hc
      refine lv_aload_n (pc := 54) hx hb dX11_readFlag_54 rfl (lv_at hl 0 rfl) ?_
      refine lv_bipush (v := (6 : Int32)) (pc := 55) hx hb dX11_readFlag_55 (by decide) ?_
      obtain ⟨v11, v12, v13, v14, v15, hv11, hf⟩ := zc_5 hf
      refine zx_Vi (pc := 57) (wc := [zr_o ad f_thrown f_taped v7 v8 f_size v9 v10 f_wrong f_wrongAt f_faultKind f_faultPlace f_reading f_toldWhy f_x f_standMany f_bestMany f_tail f_round1, (ad 4, .inl (dA 0, 900, .inl b_tape))]) (wr := [(ad 5, .inl (dA 0, 994, .inl b_fresh))]) (w1 := [zr_o ad f_thrown f_taped v12 v13 f_size v14 v15 f_wrong f_wrongAt f_faultKind f_faultPlace f_reading f_toldWhy f_x f_standMany f_bestMany f_tail f_round1, (ad 4, .inl (dA 0, 900, .inl b_tape))]) (As := [.int (6 : Int32)]) (rest := []) ⟨hx, hb, hml, hown, ht⟩ (zt_X11_eats l dC dI dA ad adK adV _ n f_thrown f_taped v7 v8 f_size v9 v10 f_wrong f_wrongAt f_faultKind f_faultPlace f_reading f_toldWhy f_x f_standMany f_bestMany f_tail f_round1 b_tape (6 : Int32) v11 v12 v13 v14 v15 hv11) (cwV 1 ht (zb_V (fun _ h => zb_i h) (zb_l zr_144) (zb_l zr_145) (zb_l zr_146) (zb_l zr_36) (zb_l zr_120)) rfl rfl rfl zk_X11_eats ⟨Nat.le_of_ble_eq_true rfl, Nat.le_of_ble_eq_true rfl⟩) rfl rfl hZ hK hP hD hS hA [1, 2] [0] (by decide) (by decide) (by decide) rfl rfl rfl hl.1 (Nat.le_of_ble_eq_true rfl) dX11_readFlag_57 ⟨Nat.zero_le _, Nat.zero_le _⟩ rfl (fun H locs hP hD hS => ?_)
      have hP : va_P (dC, dI) zz_cls [(ad 5, .inl (dA 0, 994, .inl b_fresh)), zr_o ad f_thrown f_taped v12 v13 f_size v14 v15 f_wrong f_wrongAt f_faultKind f_faultPlace f_reading f_toldWhy f_x f_standMany f_bestMany f_tail f_round1, (ad 4, .inl (dA 0, 900, .inl b_tape))] H := hP
      have hD : va_D A [(ad 5, .inl (dA 0, 994, .inl b_fresh)), zr_o ad f_thrown f_taped v12 v13 f_size v14 v15 f_wrong f_wrongAt f_faultKind f_faultPlace f_reading f_toldWhy f_x f_standMany f_bestMany f_tail f_round1, (ad 4, .inl (dA 0, 900, .inl b_tape))] := hD
      refine lv_if_eq (tgt := 82) (pc := 60) hx hb dX11_readFlag_60 rfl (fun hc => ?_) (fun hc => ?_)
      · have hf := za_t hf hc
        refine lv_iconst (v := (0 : Int32)) (pc := 82) hx hb dX11_readFlag_82 (by decide) ?_
        obtain ⟨rfl, rfl, rfl, rfl, rfl, rfl, rfl, rfl⟩ := zi_8 hf
        exact W.zret (pc := 83) hx hb hr rfl (fun t ht hW => ⟨⟨_, (), rfl, rfl, zz_Bi (by rw [ht]; exact hP.sub [1, 2, 0] rfl) (va_K.moved hW.alike hK) (hD.sub [1, 2, 0] (by decide) rfl)⟩, hS.F ht⟩) hS.2.2 dX11_readFlag_83
      · have hf := za_f hf hc
        refine lv_aload_n (pc := 63) hx hb dX11_readFlag_63 rfl (lv_at hl 0 rfl) ?_
        refine va_get (pc := 64) (D := (dC, dI)) (ci := 0) (v := .ref (ad 5)) (C := RX11) (T := TX11) (N := 42) hx hb ht zb_lay hown hK hP 1 rfl rfl 4 (by decide) (ht _ (zb_l zr_10)) (fun _ h9 => h9) rfl dX11_readFlag_64 ?_
        refine lv_bipush (v := (28 : Int32)) (pc := 67) hx hb dX11_readFlag_67 (by decide) ?_
        refine lv_iload_n (pc := 69) hx hb dX11_readFlag_69 rfl (lv_at hl 1 rfl) ?_
        refine lv_iadd (pc := 70) hx hb dX11_readFlag_70 ?_
        refine lv_aload_n (pc := 71) hx hb dX11_readFlag_71 rfl (lv_at hl 0 rfl) ?_
        refine lv_iconst (v := (0 : Int32)) (pc := 72) hx hb dX11_readFlag_72 (by decide) ?_
        refine lv_bipush (v := (9 : Int32)) (pc := 73) hx hb dX11_readFlag_73 (by decide) ?_
        obtain ⟨v16, v17, v18, v19, v20, v21, v22, hv16, hf⟩ := zc_7 hf
        refine zx_Vi (pc := 75) (wc := [zr_o ad f_thrown f_taped v12 v13 f_size v14 v15 f_wrong f_wrongAt f_faultKind f_faultPlace f_reading f_toldWhy f_x f_standMany f_bestMany f_tail f_round1, (ad 4, .inl (dA 0, 900, .inl b_tape))]) (wr := [(ad 5, .inl (dA 0, 994, .inl b_fresh))]) (w1 := [zr_o ad f_thrown f_taped v17 v18 f_size v19 v20 v21 v22 f_faultKind f_faultPlace f_reading f_toldWhy f_x f_standMany f_bestMany f_tail f_round1, (ad 4, .inl (dA 0, 900, .inl b_tape))]) (As := [.int (0 : Int32), .int (9 : Int32)]) (rest := [.int ((28 : Int32) + p1), .ref (ad 5)]) ⟨hx, hb, hml, hown, ht⟩ (zt_X11_takes l dC dI dA ad adK adV _ n f_thrown f_taped v12 v13 f_size v14 v15 f_wrong f_wrongAt f_faultKind f_faultPlace f_reading f_toldWhy f_x f_standMany f_bestMany f_tail f_round1 b_tape (0 : Int32) (9 : Int32) v16 v17 v18 v19 v20 v21 v22 hv16) (cwV 2 ht (zb_V (fun _ h => zb_i h) (zb_l zr_172) (zb_l zr_173) (zb_l zr_174) (zb_l zr_36) (zb_l zr_126)) rfl rfl rfl zk_X11_takes ⟨Nat.le_of_ble_eq_true rfl, Nat.le_of_ble_eq_true rfl⟩) rfl rfl hZ hK hP hD hS hA [1, 2] [0] (by decide) (by decide) (by decide) rfl rfl rfl hl.1 (Nat.le_of_ble_eq_true rfl) dX11_readFlag_75 ⟨Nat.zero_le _, Nat.zero_le _⟩ rfl (fun H locs hP hD hS => ?_)
        have hP : va_P (dC, dI) zz_cls [(ad 5, .inl (dA 0, 994, .inl b_fresh)), zr_o ad f_thrown f_taped v17 v18 f_size v19 v20 v21 v22 f_faultKind f_faultPlace f_reading f_toldWhy f_x f_standMany f_bestMany f_tail f_round1, (ad 4, .inl (dA 0, 900, .inl b_tape))] H := hP
        have hD : va_D A [(ad 5, .inl (dA 0, 994, .inl b_fresh)), zr_o ad f_thrown f_taped v17 v18 f_size v19 v20 v21 v22 f_faultKind f_faultPlace f_reading f_toldWhy f_x f_standMany f_bestMany f_tail f_round1, (ad 4, .inl (dA 0, 900, .inl b_tape))] := hD
        obtain ⟨a23, ha23, hf⟩ := zc_1 hf
        refine zw_iast (pc := 78) hx hb hK hP hD hS 0 0 rfl rfl ha23 dX11_readFlag_78 (fun H locs hP hD hS => ?_)
        have hP : va_P (dC, dI) zz_cls [(ad 5, .inl (dA 0, 994, .inl a23)), zr_o ad f_thrown f_taped v17 v18 f_size v19 v20 v21 v22 f_faultKind f_faultPlace f_reading f_toldWhy f_x f_standMany f_bestMany f_tail f_round1, (ad 4, .inl (dA 0, 900, .inl b_tape))] H := hP
        have hD : va_D A [(ad 5, .inl (dA 0, 994, .inl a23)), zr_o ad f_thrown f_taped v17 v18 f_size v19 v20 v21 v22 f_faultKind f_faultPlace f_reading f_toldWhy f_x f_standMany f_bestMany f_tail f_round1, (ad 4, .inl (dA 0, 900, .inl b_tape))] := hD
        refine lv_goto (tgt := 84) (pc := 79) hx hb dX11_readFlag_79 rfl ?_
        refine lv_aload_n (pc := 84) hx hb dX11_readFlag_84 rfl (lv_at hl 0 rfl) ?_
        refine va_get (pc := 85) (D := (dC, dI)) (ci := 0) (v := .int v21) (C := RX11) (T := TX11) (N := 42) hx hb ht zb_lay hown hK hP 1 rfl rfl 11 (by decide) (ht _ (zb_l zr_111)) (fun _ h9 => h9) rfl dX11_readFlag_85 ?_
        refine lv_if_ne (tgt := 95) (pc := 88) hx hb dX11_readFlag_88 rfl (fun hc => ?_) (fun hc => ?_)
        · have hf := za_f hf hc
          refine lv_iconst (v := (0 : Int32)) (pc := 95) hx hb dX11_readFlag_95 (by decide) ?_
          obtain ⟨rfl, rfl, rfl, rfl, rfl, rfl, rfl, rfl⟩ := zi_8 hf
          exact W.zret (pc := 96) hx hb hr rfl (fun t ht hW => ⟨⟨_, (), rfl, rfl, zz_Bi (by rw [ht]; exact hP.sub [1, 2, 0] rfl) (va_K.moved hW.alike hK) (hD.sub [1, 2, 0] (by decide) rfl)⟩, hS.F ht⟩) hS.2.2 dX11_readFlag_96
        · have hf := za_t hf hc
          refine lv_iconst (v := (1 : Int32)) (pc := 91) hx hb dX11_readFlag_91 (by decide) ?_
          refine lv_goto (tgt := 96) (pc := 92) hx hb dX11_readFlag_92 rfl ?_
          obtain ⟨rfl, rfl, rfl, rfl, rfl, rfl, rfl, rfl⟩ := zi_8 hf
          exact W.zret (pc := 96) hx hb hr rfl (fun t ht hW => ⟨⟨_, (), rfl, rfl, zz_Bi (by rw [ht]; exact hP.sub [1, 2, 0] rfl) (va_K.moved hW.alike hK) (hD.sub [1, 2, 0] (by decide) rfl)⟩, hS.F ht⟩) hS.2.2 dX11_readFlag_96
    · have hf := za_f hf hc
      refine lv_aload_n (pc := 35) hx hb dX11_readFlag_35 rfl (lv_at hl 0 rfl) ?_
      refine va_get (pc := 36) (D := (dC, dI)) (ci := 0) (v := .ref (ad 5)) (C := RX11) (T := TX11) (N := 42) hx hb ht zb_lay hown hK hP 1 rfl rfl 4 (by decide) (ht _ (zb_l zr_10)) (fun _ h9 => h9) rfl dX11_readFlag_36 ?_
      refine lv_bipush (v := (19 : Int32)) (pc := 39) hx hb dX11_readFlag_39 (by decide) ?_
      refine lv_iload_n (pc := 41) hx hb dX11_readFlag_41 rfl (lv_at hl 1 rfl) ?_
      refine lv_iadd (pc := 42) hx hb dX11_readFlag_42 ?_
      refine lv_dup2_11 (pc := 43) hx hb dX11_readFlag_43 rfl rfl ?_
      obtain ⟨v24, hv24, hf⟩ := zc_1 hf
      refine zw_iald (pc := 44) hx hb hK hP 0 0 rfl rfl hv24 dX11_readFlag_44 ?_
      refine lv_aload_n (pc := 45) hx hb dX11_readFlag_45 rfl (lv_at hl 0 rfl) ?_
      obtain ⟨v25, v26, v27, v28, v29, v30, v31, hv25, hf⟩ := zc_7 hf
      refine zx_Vi (pc := 46) (wc := [zr_o ad f_thrown f_taped v7 v8 f_size v9 v10 f_wrong f_wrongAt f_faultKind f_faultPlace f_reading f_toldWhy f_x f_standMany f_bestMany f_tail f_round1, (ad 4, .inl (dA 0, 900, .inl b_tape)), (ad 5, .inl (dA 0, 994, .inl b_fresh))]) (wr := []) (w1 := [zr_o ad f_thrown f_taped v26 v27 f_size v28 v29 v30 v31 f_faultKind f_faultPlace f_reading f_toldWhy f_x f_standMany f_bestMany f_tail f_round1, (ad 4, .inl (dA 0, 900, .inl b_tape)), (ad 5, .inl (dA 0, 994, .inl b_fresh))]) (As := []) (rest := [.int v24, .int ((19 : Int32) + p1), .ref (ad 5)]) ⟨hx, hb, hml, hown, ht⟩ (zt_X11_readThing l dC dI dA ad adK adV _ n f_thrown f_taped v7 v8 f_size v9 v10 f_wrong f_wrongAt f_faultKind f_faultPlace f_reading f_toldWhy f_x f_standMany f_bestMany f_tail f_round1 b_tape b_fresh v25 v26 v27 v28 v29 v30 v31 hv25) (cwV 0 ht (zb_V (fun _ h => zb_i h) (zb_l zr_176) (zb_l zr_177) (zb_l zr_178) (zb_l zr_36) (zb_l zr_175)) rfl rfl rfl zk_X11_readThing ⟨Nat.le_of_ble_eq_true rfl, Nat.le_of_ble_eq_true rfl⟩) rfl rfl hZ hK hP hD hS hA [1, 2, 0] [] (by decide) (by decide) (by decide) rfl rfl rfl hl.1 (Nat.le_of_ble_eq_true rfl) dX11_readFlag_46 ⟨Nat.zero_le _, Nat.zero_le _⟩ rfl (fun H locs hP hD hS => ?_)
      have hP : va_P (dC, dI) zz_cls [zr_o ad f_thrown f_taped v26 v27 f_size v28 v29 v30 v31 f_faultKind f_faultPlace f_reading f_toldWhy f_x f_standMany f_bestMany f_tail f_round1, (ad 4, .inl (dA 0, 900, .inl b_tape)), (ad 5, .inl (dA 0, 994, .inl b_fresh))] H := hP
      have hD : va_D A [zr_o ad f_thrown f_taped v26 v27 f_size v28 v29 v30 v31 f_faultKind f_faultPlace f_reading f_toldWhy f_x f_standMany f_bestMany f_tail f_round1, (ad 4, .inl (dA 0, 900, .inl b_tape)), (ad 5, .inl (dA 0, 994, .inl b_fresh))] := hD
      refine lv_ior (pc := 49) hx hb dX11_readFlag_49 ?_
      obtain ⟨a32, ha32, hf⟩ := zc_1 hf
      refine zw_iast (pc := 50) hx hb hK hP hD hS 2 0 rfl rfl ha32 dX11_readFlag_50 (fun H locs hP hD hS => ?_)
      have hP : va_P (dC, dI) zz_cls [zr_o ad f_thrown f_taped v26 v27 f_size v28 v29 v30 v31 f_faultKind f_faultPlace f_reading f_toldWhy f_x f_standMany f_bestMany f_tail f_round1, (ad 4, .inl (dA 0, 900, .inl b_tape)), (ad 5, .inl (dA 0, 994, .inl a32))] H := hP
      have hD : va_D A [zr_o ad f_thrown f_taped v26 v27 f_size v28 v29 v30 v31 f_faultKind f_faultPlace f_reading f_toldWhy f_x f_standMany f_bestMany f_tail f_round1, (ad 4, .inl (dA 0, 900, .inl b_tape)), (ad 5, .inl (dA 0, 994, .inl a32))] := hD
      refine lv_goto (tgt := 84) (pc := 51) hx hb dX11_readFlag_51 rfl ?_
      refine lv_aload_n (pc := 84) hx hb dX11_readFlag_84 rfl (lv_at hl 0 rfl) ?_
      refine va_get (pc := 85) (D := (dC, dI)) (ci := 0) (v := .int v30) (C := RX11) (T := TX11) (N := 42) hx hb ht zb_lay hown hK hP 0 rfl rfl 11 (by decide) (ht _ (zb_l zr_111)) (fun _ h9 => h9) rfl dX11_readFlag_85 ?_
      refine lv_if_ne (tgt := 95) (pc := 88) hx hb dX11_readFlag_88 rfl (fun hc => ?_) (fun hc => ?_)
      · have hf := za_f hf hc
        refine lv_iconst (v := (0 : Int32)) (pc := 95) hx hb dX11_readFlag_95 (by decide) ?_
        obtain ⟨rfl, rfl, rfl, rfl, rfl, rfl, rfl, rfl⟩ := zi_8 hf
        exact W.zret (pc := 96) hx hb hr rfl (fun t ht hW => ⟨⟨_, (), rfl, rfl, zz_Bi (by rw [ht]; exact hP) (va_K.moved hW.alike hK) (hD)⟩, hS.F ht⟩) hS.2.2 dX11_readFlag_96
      · have hf := za_t hf hc
        refine lv_iconst (v := (1 : Int32)) (pc := 91) hx hb dX11_readFlag_91 (by decide) ?_
        refine lv_goto (tgt := 96) (pc := 92) hx hb dX11_readFlag_92 rfl ?_
        obtain ⟨rfl, rfl, rfl, rfl, rfl, rfl, rfl, rfl⟩ := zi_8 hf
        exact W.zret (pc := 96) hx hb hr rfl (fun t ht hW => ⟨⟨_, (), rfl, rfl, zz_Bi (by rw [ht]; exact hP) (va_K.moved hW.alike hK) (hD)⟩, hS.F ht⟩) hS.2.2 dX11_readFlag_96
  · have hf := za_f hf hc
    refine lv_aload_n (pc := 8) hx hb dX11_readFlag_8 rfl (lv_at hl 0 rfl) ?_
    refine va_get (pc := 9) (D := (dC, dI)) (ci := 0) (v := .ref (ad 5)) (C := RX11) (T := TX11) (N := 42) hx hb ht zb_lay hown hK hP 1 rfl rfl 4 (by decide) (ht _ (zb_l zr_10)) (fun _ h9 => h9) rfl dX11_readFlag_9 ?_
    refine lv_bipush (v := (10 : Int32)) (pc := 12) hx hb dX11_readFlag_12 (by decide) ?_
    refine lv_iload_n (pc := 14) hx hb dX11_readFlag_14 rfl (lv_at hl 1 rfl) ?_
    refine lv_iadd (pc := 15) hx hb dX11_readFlag_15 ?_
    refine lv_dup2_11 (pc := 16) hx hb dX11_readFlag_16 rfl rfl ?_
    obtain ⟨v33, hv33, hf⟩ := zc_1 hf
    refine zw_iald (pc := 17) hx hb hK hP 0 0 rfl rfl hv33 dX11_readFlag_17 ?_
    refine lv_aload_n (pc := 18) hx hb dX11_readFlag_18 rfl (lv_at hl 0 rfl) ?_
    obtain ⟨v34, v35, v36, v37, v38, v39, v40, hv34, hf⟩ := zc_7 hf
    refine zx_Vi (pc := 19) (wc := [zr_o ad f_thrown f_taped v2 v3 f_size v4 v5 f_wrong f_wrongAt f_faultKind f_faultPlace f_reading f_toldWhy f_x f_standMany f_bestMany f_tail f_round1, (ad 4, .inl (dA 0, 900, .inl b_tape)), (ad 5, .inl (dA 0, 994, .inl b_fresh))]) (wr := []) (w1 := [zr_o ad f_thrown f_taped v35 v36 f_size v37 v38 v39 v40 f_faultKind f_faultPlace f_reading f_toldWhy f_x f_standMany f_bestMany f_tail f_round1, (ad 4, .inl (dA 0, 900, .inl b_tape)), (ad 5, .inl (dA 0, 994, .inl b_fresh))]) (As := []) (rest := [.int v33, .int ((10 : Int32) + p1), .ref (ad 5)]) ⟨hx, hb, hml, hown, ht⟩ (zt_X11_readThing l dC dI dA ad adK adV _ n f_thrown f_taped v2 v3 f_size v4 v5 f_wrong f_wrongAt f_faultKind f_faultPlace f_reading f_toldWhy f_x f_standMany f_bestMany f_tail f_round1 b_tape b_fresh v34 v35 v36 v37 v38 v39 v40 hv34) (cwV 0 ht (zb_V (fun _ h => zb_i h) (zb_l zr_176) (zb_l zr_177) (zb_l zr_178) (zb_l zr_36) (zb_l zr_175)) rfl rfl rfl zk_X11_readThing ⟨Nat.le_of_ble_eq_true rfl, Nat.le_of_ble_eq_true rfl⟩) rfl rfl hZ hK hP hD hS hA [1, 2, 0] [] (by decide) (by decide) (by decide) rfl rfl rfl hl.1 (Nat.le_of_ble_eq_true rfl) dX11_readFlag_19 ⟨Nat.zero_le _, Nat.zero_le _⟩ rfl (fun H locs hP hD hS => ?_)
    have hP : va_P (dC, dI) zz_cls [zr_o ad f_thrown f_taped v35 v36 f_size v37 v38 v39 v40 f_faultKind f_faultPlace f_reading f_toldWhy f_x f_standMany f_bestMany f_tail f_round1, (ad 4, .inl (dA 0, 900, .inl b_tape)), (ad 5, .inl (dA 0, 994, .inl b_fresh))] H := hP
    have hD : va_D A [zr_o ad f_thrown f_taped v35 v36 f_size v37 v38 v39 v40 f_faultKind f_faultPlace f_reading f_toldWhy f_x f_standMany f_bestMany f_tail f_round1, (ad 4, .inl (dA 0, 900, .inl b_tape)), (ad 5, .inl (dA 0, 994, .inl b_fresh))] := hD
    refine lv_ior (pc := 22) hx hb dX11_readFlag_22 ?_
    obtain ⟨a41, ha41, hf⟩ := zc_1 hf
    refine zw_iast (pc := 23) hx hb hK hP hD hS 2 0 rfl rfl ha41 dX11_readFlag_23 (fun H locs hP hD hS => ?_)
    have hP : va_P (dC, dI) zz_cls [zr_o ad f_thrown f_taped v35 v36 f_size v37 v38 v39 v40 f_faultKind f_faultPlace f_reading f_toldWhy f_x f_standMany f_bestMany f_tail f_round1, (ad 4, .inl (dA 0, 900, .inl b_tape)), (ad 5, .inl (dA 0, 994, .inl a41))] H := hP
    have hD : va_D A [zr_o ad f_thrown f_taped v35 v36 f_size v37 v38 v39 v40 f_faultKind f_faultPlace f_reading f_toldWhy f_x f_standMany f_bestMany f_tail f_round1, (ad 4, .inl (dA 0, 900, .inl b_tape)), (ad 5, .inl (dA 0, 994, .inl a41))] := hD
    refine lv_goto (tgt := 84) (pc := 24) hx hb dX11_readFlag_24 rfl ?_
    refine lv_aload_n (pc := 84) hx hb dX11_readFlag_84 rfl (lv_at hl 0 rfl) ?_
    refine va_get (pc := 85) (D := (dC, dI)) (ci := 0) (v := .int v39) (C := RX11) (T := TX11) (N := 42) hx hb ht zb_lay hown hK hP 0 rfl rfl 11 (by decide) (ht _ (zb_l zr_111)) (fun _ h9 => h9) rfl dX11_readFlag_85 ?_
    refine lv_if_ne (tgt := 95) (pc := 88) hx hb dX11_readFlag_88 rfl (fun hc => ?_) (fun hc => ?_)
    · have hf := za_f hf hc
      refine lv_iconst (v := (0 : Int32)) (pc := 95) hx hb dX11_readFlag_95 (by decide) ?_
      obtain ⟨rfl, rfl, rfl, rfl, rfl, rfl, rfl, rfl⟩ := zi_8 hf
      exact W.zret (pc := 96) hx hb hr rfl (fun t ht hW => ⟨⟨_, (), rfl, rfl, zz_Bi (by rw [ht]; exact hP) (va_K.moved hW.alike hK) (hD)⟩, hS.F ht⟩) hS.2.2 dX11_readFlag_96
    · have hf := za_t hf hc
      refine lv_iconst (v := (1 : Int32)) (pc := 91) hx hb dX11_readFlag_91 (by decide) ?_
      refine lv_goto (tgt := 96) (pc := 92) hx hb dX11_readFlag_92 rfl ?_
      obtain ⟨rfl, rfl, rfl, rfl, rfl, rfl, rfl, rfl⟩ := zi_8 hf
      exact W.zret (pc := 96) hx hb hr rfl (fun t ht hW => ⟨⟨_, (), rfl, rfl, zz_Bi (by rw [ht]; exact hP) (va_K.moved hW.alike hK) (hD)⟩, hS.F ht⟩) hS.2.2 dX11_readFlag_96

def zb_X11_readHole_16 (n : Nat) (f_size : Int32) (b_tape : (Nat → Int32)) (v6 : Int32) (v13 : Int32) (v14 : Int32) (v15 : Int32) (v16 : Int32) (v17 : Int32) (v18 : Int32) (a19 : (Nat → Int32)) : Option (Nat × Int32 × Int32 × Int32 × Int32 × Int32 × Int32 × (Nat → Int32)) :=
  if v17 = 0 then
    zd_8 (zf_X11_readFlag n v13 v14 f_size v15 v16 v17 v18 b_tape a19 v6) (fun v20 v21 v22 v23 v24 v25 v26 a27 =>
    if v20 = 0 then
      some (1, v21, v22, v23, v24, v25, v26, a27)
    else
      some (0, v21, v22, v23, v24, v25, v26, a27))
  else
    some (1, v13, v14, v15, v16, v17, v18, a19)
def zf_X11_readHole (n : Nat) (f_at : Int32) (f_behind : Int32) (f_size : Int32) (f_kind : Int32) (f_number : Int32) (f_wrong : Int32) (f_wrongAt : Int32) (b_tape : (Nat → Int32)) (b_fresh : (Nat → Int32)) : Option (Int32 × Int32 × Int32 × Int32 × Int32 × Int32 × (Nat → Int32)) :=
  zd_4 (zf_X11_next n f_at f_behind f_size f_kind f_number b_tape) (fun v1 v2 v3 v4 =>
  zd_1 (za_ld b_fresh 994 (1 : Int32)) (fun v5 =>
  zd_7 (zf_X11_takes n v1 v2 f_size v3 v4 f_wrong f_wrongAt b_tape (0 : Int32) v5) (fun v6 v7 v8 v9 v10 v11 v12 =>
  zd_8 (za_it (fun v => zb_X11_readHole_16 n f_size b_tape v6 v.1 v.2.1 v.2.2.1 v.2.2.2.1 v.2.2.2.2.1 v.2.2.2.2.2.1 v.2.2.2.2.2.2) n (v7, v8, v9, v10, v11, v12, b_fresh)) (fun g35 v28 v29 v30 v31 v32 v33 a34 =>
  some (v28, v29, v30, v31, v32, v33, a34)))))
theorem zk_X11_readHole : yX11_readHole.cls = RX11 ∧ yX11_readHole.cls ≠ "java/lang/invoke/MethodHandle" ∧ yX11_readHole.cls ≠ "java/lang/invoke/VarHandle" ∧ (parseMethodDescriptor yX11_readHole.desc).map (fun d => d.parameters.length) = some 0 := by decide +kernel
set_option maxHeartbeats 4000000 in
set_option maxRecDepth 100000 in
theorem zt_X11_readHole (l : Launch) (dC : Nat → ClassId) (dI : Nat → Nat → Nat) (dA : Nat → ClassId) (ad : Nat → Nat) (adK adV : Nat → Nat) (sz : Nat) (n : Nat) (f_thrown : Int32) (f_taped : Int32) (f_at : Int32) (f_behind : Int32) (f_size : Int32) (f_kind : Int32) (f_number : Int32) (f_wrong : Int32) (f_wrongAt : Int32) (f_faultKind : Int32) (f_faultPlace : Int32) (f_reading : Int32) (f_toldWhy : Int32) (f_x : Int32) (f_standMany : Int32) (f_bestMany : Int32) (f_tail : Int32) (f_round1 : Int32) (b_tape : (Nat → Int32)) (b_fresh : (Nat → Int32)) (o1 : Int32) (o2 : Int32) (o3 : Int32) (o4 : Int32) (o5 : Int32) (o6 : Int32) (o7 : (Nat → Int32)) (hf : zf_X11_readHole n f_at f_behind f_size f_kind f_number f_wrong f_wrongAt b_tape b_fresh = some (o1, o2, o3, o4, o5, o6, o7)) : Met l yX11_readHole (.code yX11_readHole cX11_readHole 2 none :: zb_T) ({ frames := 9, cells := 0, slots := 0, locals := 193 }) (va_Pc [.ref (ad 0)] (zx_M dC dI dA adK adV [zr_o ad f_thrown f_taped f_at f_behind f_size f_kind f_number f_wrong f_wrongAt f_faultKind f_faultPlace f_reading f_toldWhy f_x f_standMany f_bestMany f_tail f_round1, (ad 4, .inl (dA 0, 900, .inl b_tape)), (ad 5, .inl (dA 0, 994, .inl b_fresh))] sz)) (va_Qv (fun _ : Unit => True) (fun _ t => zz_B dC dI dA (va_A [zr_o ad f_thrown f_taped f_at f_behind f_size f_kind f_number f_wrong f_wrongAt f_faultKind f_faultPlace f_reading f_toldWhy f_x f_standMany f_bestMany f_tail f_round1, (ad 4, .inl (dA 0, 900, .inl b_tape)), (ad 5, .inl (dA 0, 994, .inl b_fresh))] sz) [zr_o ad f_thrown f_taped o1 o2 f_size o3 o4 o5 o6 f_faultKind f_faultPlace f_reading f_toldWhy f_x f_standMany f_bestMany f_tail f_round1, (ad 4, .inl (dA 0, 900, .inl b_tape)), (ad 5, .inl (dA 0, 994, .inl o7))] t) (va_A [zr_o ad f_thrown f_taped f_at f_behind f_size f_kind f_number f_wrong f_wrongAt f_faultKind f_faultPlace f_reading f_toldWhy f_x f_standMany f_bestMany f_tail f_round1, (ad 4, .inl (dA 0, 900, .inl b_tape)), (ad 5, .inl (dA 0, 994, .inl b_fresh))] sz)) 0 0 (va_A [zr_o ad f_thrown f_taped f_at f_behind f_size f_kind f_number f_wrong f_wrongAt f_faultKind f_faultPlace f_reading f_toldWhy f_x f_standMany f_bestMany f_tail f_round1, (ad 4, .inl (dA 0, 900, .inl b_tape)), (ad 5, .inl (dA 0, 994, .inl b_fresh))] sz) := by
  unfold zf_X11_readHole at hf
  refine Met.ofW (cc := cX11_readHole) (maxL := 2) (ret := none) (by decide) rfl ?_
  intro p e s m args below meth c s₁ B hml hv
  obtain ⟨rfl, ⟨hsz, hP, hK, hD0⟩, hZ⟩ := hv
  have hx := B.exec
  have hb := B.bytes
  have hr := B.returns
  have ht : ∀ w ∈ zb_T, w.before ([.ref (ad 0)] : List Value).toArray s = true := fun w hw => atoms_spec (ws := .code yX11_readHole cX11_readHole 2 none :: zb_T) B.pre w (List.mem_cons_of_mem _ hw)
  have hown : s.vm.findClass RX11 = some m.cls := findClass_of_methodNamed B.named
  have hlocks := B.notSynchronized
  subst hsz
  have hD := hD0.self (sz := s.heap.size)
  generalize hAe : va_A [zr_o ad f_thrown f_taped f_at f_behind f_size f_kind f_number f_wrong f_wrongAt f_faultKind f_faultPlace f_reading f_toldWhy f_x f_standMany f_bestMany f_tail f_round1, (ad 4, .inl (dA 0, 900, .inl b_tape)), (ad 5, .inl (dA 0, 994, .inl b_fresh))] s.heap.size = A at hD hZ ⊢
  have hA : ∀ q : Nat, s.heap.size ≤ q → A q := fun q h => by rw [← hAe]; exact Or.inr h
  clear hAe hD0
  have hS : va_S A s.heap s.heap [] := va_S.rf
  have hl := lv_entry ([.ref (ad 0)]) (n := 2) (Nat.le_of_ble_eq_true rfl)
  rw [lg_entry_eq]
  generalize (lg_sl ([.ref (ad 0)]) ++ List.replicate (2 - (lg_sl ([.ref (ad 0)])).length) Slot.unset).toArray = ls at hl ⊢
  have hl : lv_has ls 2 [(0, .ref (ad 0))] := hl
  refine lv_aload_n (pc := 0) hx hb dX11_readHole_0 rfl (lv_at hl 0 rfl) ?_
  obtain ⟨v1, v2, v3, v4, hv1, hf⟩ := zc_4 hf
  refine zx_Vv (pc := 1) (wc := [zr_o ad f_thrown f_taped f_at f_behind f_size f_kind f_number f_wrong f_wrongAt f_faultKind f_faultPlace f_reading f_toldWhy f_x f_standMany f_bestMany f_tail f_round1, (ad 4, .inl (dA 0, 900, .inl b_tape))]) (wr := [(ad 5, .inl (dA 0, 994, .inl b_fresh))]) (w1 := [zr_o ad f_thrown f_taped v1 v2 f_size v3 v4 f_wrong f_wrongAt f_faultKind f_faultPlace f_reading f_toldWhy f_x f_standMany f_bestMany f_tail f_round1, (ad 4, .inl (dA 0, 900, .inl b_tape))]) (As := []) (rest := []) ⟨hx, hb, hml, hown, ht⟩ (zt_X11_next l dC dI dA ad adK adV _ n f_thrown f_taped f_at f_behind f_size f_kind f_number f_wrong f_wrongAt f_faultKind f_faultPlace f_reading f_toldWhy f_x f_standMany f_bestMany f_tail f_round1 b_tape v1 v2 v3 v4 hv1) (cwV 0 ht (zb_V (fun _ h => zb_i h) (zb_l zr_117) (zb_l zr_118) (zb_l zr_119) (zb_l zr_36) (zb_l zr_109)) rfl rfl rfl zk_X11_next ⟨Nat.le_of_ble_eq_true rfl, Nat.le_of_ble_eq_true rfl⟩) rfl rfl hZ hK hP hD hS hA [0, 1] [2] (by decide) (by decide) (by decide) rfl rfl rfl hl.1 (Nat.le_of_ble_eq_true rfl) dX11_readHole_1 ⟨Nat.zero_le _, Nat.zero_le _⟩ rfl (fun H locs hP hD hS => ?_)
  have hP : va_P (dC, dI) zz_cls [(ad 5, .inl (dA 0, 994, .inl b_fresh)), zr_o ad f_thrown f_taped v1 v2 f_size v3 v4 f_wrong f_wrongAt f_faultKind f_faultPlace f_reading f_toldWhy f_x f_standMany f_bestMany f_tail f_round1, (ad 4, .inl (dA 0, 900, .inl b_tape))] H := hP
  have hD : va_D A [(ad 5, .inl (dA 0, 994, .inl b_fresh)), zr_o ad f_thrown f_taped v1 v2 f_size v3 v4 f_wrong f_wrongAt f_faultKind f_faultPlace f_reading f_toldWhy f_x f_standMany f_bestMany f_tail f_round1, (ad 4, .inl (dA 0, 900, .inl b_tape))] := hD
  refine lv_aload_n (pc := 4) hx hb dX11_readHole_4 rfl (lv_at hl 0 rfl) ?_
  refine lv_iconst (v := (0 : Int32)) (pc := 5) hx hb dX11_readHole_5 (by decide) ?_
  refine lv_aload_n (pc := 6) hx hb dX11_readHole_6 rfl (lv_at hl 0 rfl) ?_
  refine va_get (pc := 7) (D := (dC, dI)) (ci := 0) (v := .ref (ad 5)) (C := RX11) (T := TX11) (N := 42) hx hb ht zb_lay hown hK hP 1 rfl rfl 4 (by decide) (ht _ (zb_l zr_10)) (fun _ h9 => h9) rfl dX11_readHole_7 ?_
  refine lv_iconst (v := (1 : Int32)) (pc := 10) hx hb dX11_readHole_10 (by decide) ?_
  obtain ⟨v5, hv5, hf⟩ := zc_1 hf
  refine zw_iald (pc := 11) hx hb hK hP 0 0 rfl rfl hv5 dX11_readHole_11 ?_
  obtain ⟨v6, v7, v8, v9, v10, v11, v12, hv6, hf⟩ := zc_7 hf
  refine zx_Vi (pc := 12) (wc := [zr_o ad f_thrown f_taped v1 v2 f_size v3 v4 f_wrong f_wrongAt f_faultKind f_faultPlace f_reading f_toldWhy f_x f_standMany f_bestMany f_tail f_round1, (ad 4, .inl (dA 0, 900, .inl b_tape))]) (wr := [(ad 5, .inl (dA 0, 994, .inl b_fresh))]) (w1 := [zr_o ad f_thrown f_taped v7 v8 f_size v9 v10 v11 v12 f_faultKind f_faultPlace f_reading f_toldWhy f_x f_standMany f_bestMany f_tail f_round1, (ad 4, .inl (dA 0, 900, .inl b_tape))]) (As := [.int (0 : Int32), .int v5]) (rest := []) ⟨hx, hb, hml, hown, ht⟩ (zt_X11_takes l dC dI dA ad adK adV _ n f_thrown f_taped v1 v2 f_size v3 v4 f_wrong f_wrongAt f_faultKind f_faultPlace f_reading f_toldWhy f_x f_standMany f_bestMany f_tail f_round1 b_tape (0 : Int32) v5 v6 v7 v8 v9 v10 v11 v12 hv6) (cwV 2 ht (zb_V (fun _ h => zb_i h) (zb_l zr_172) (zb_l zr_173) (zb_l zr_174) (zb_l zr_36) (zb_l zr_126)) rfl rfl rfl zk_X11_takes ⟨Nat.le_of_ble_eq_true rfl, Nat.le_of_ble_eq_true rfl⟩) rfl rfl hZ hK hP hD hS hA [1, 2] [0] (by decide) (by decide) (by decide) rfl rfl rfl hl.1 (Nat.le_of_ble_eq_true rfl) dX11_readHole_12 ⟨Nat.zero_le _, Nat.zero_le _⟩ rfl (fun H locs hP hD hS => ?_)
  have hP : va_P (dC, dI) zz_cls [(ad 5, .inl (dA 0, 994, .inl b_fresh)), zr_o ad f_thrown f_taped v7 v8 f_size v9 v10 v11 v12 f_faultKind f_faultPlace f_reading f_toldWhy f_x f_standMany f_bestMany f_tail f_round1, (ad 4, .inl (dA 0, 900, .inl b_tape))] H := hP
  have hD : va_D A [(ad 5, .inl (dA 0, 994, .inl b_fresh)), zr_o ad f_thrown f_taped v7 v8 f_size v9 v10 v11 v12 f_faultKind f_faultPlace f_reading f_toldWhy f_x f_standMany f_bestMany f_tail f_round1, (ad 4, .inl (dA 0, 900, .inl b_tape))] := hD
  refine lv_istore_n (lv' := [(1, .int v6), (0, .ref (ad 0))]) (pc := 15) hx hb dX11_readHole_15 rfl hl (by decide) rfl (fun ls hl => ?_)
  obtain ⟨g35, v28, v29, v30, v31, v32, v33, a34, hj, hf⟩ := zc_8 hf
  refine zj_join (pcJ := 34) (stk := []) (X := fun H locs ls => lv_has ls 2 [] ∧ va_P (dC, dI) zz_cls [zr_o ad f_thrown f_taped v28 v29 f_size v30 v31 v32 v33 f_faultKind f_faultPlace f_reading f_toldWhy f_x f_standMany f_bestMany f_tail f_round1, (ad 4, .inl (dA 0, 900, .inl b_tape)), (ad 5, .inl (dA 0, 994, .inl a34))] H ∧ va_D A [zr_o ad f_thrown f_taped v28 v29 f_size v30 v31 v32 v33 f_faultKind f_faultPlace f_reading f_toldWhy f_x f_standMany f_bestMany f_tail f_round1, (ad 4, .inl (dA 0, 900, .inl b_tape)), (ad 5, .inl (dA 0, 994, .inl a34))] ∧ va_S A s.heap H locs) (fun H locs ls hX => ?_) (fun E34 => ?_)
  · obtain ⟨hl, hP, hD, hS⟩ := hX
    clear hj
    obtain ⟨rfl, rfl, rfl, rfl, rfl, rfl, rfl⟩ := zi_7 hf
    exact W.vret (pc := 34) hx hb hr (fun t ht hW => ⟨⟨(), rfl, trivial, zz_Bi (by rw [ht]; exact hP) (va_K.moved hW.alike hK) (hD)⟩, hS.F ht⟩) hS.2.2 dX11_readHole_34
  clear hf
  refine zw_loop (pcH := 16) (X := fun v H locs ls => lv_has ls 2 [(0, .ref (ad 0)), (1, .int v6)] ∧ va_P (dC, dI) zz_cls [zr_o ad f_thrown f_taped v.1 v.2.1 f_size v.2.2.1 v.2.2.2.1 v.2.2.2.2.1 v.2.2.2.2.2.1 f_faultKind f_faultPlace f_reading f_toldWhy f_x f_standMany f_bestMany f_tail f_round1, (ad 4, .inl (dA 0, 900, .inl b_tape)), (ad 5, .inl (dA 0, 994, .inl v.2.2.2.2.2.2))] H ∧ va_D A [zr_o ad f_thrown f_taped v.1 v.2.1 f_size v.2.2.1 v.2.2.2.1 v.2.2.2.2.1 v.2.2.2.2.2.1 f_faultKind f_faultPlace f_reading f_toldWhy f_x f_standMany f_bestMany f_tail f_round1, (ad 4, .inl (dA 0, 900, .inl b_tape)), (ad 5, .inl (dA 0, 994, .inl v.2.2.2.2.2.2))] ∧ va_S A s.heap H locs) hj (fun v w hf ih ex H locs ls hX => ?_) _ _ _ ⟨lv_sub hl [1, 0] rfl, hP.sub [1, 2, 0] rfl, hD.sub [1, 2, 0] (by decide) rfl, hS⟩
  clear hj
  obtain ⟨v13, v14, v15, v16, v17, v18, a19⟩ := v
  obtain ⟨hl, hP, hD, hS⟩ := hX
  have hl : lv_has ls 2 [(0, .ref (ad 0)), (1, .int v6)] := hl
  have hP : va_P (dC, dI) zz_cls [zr_o ad f_thrown f_taped v13 v14 f_size v15 v16 v17 v18 f_faultKind f_faultPlace f_reading f_toldWhy f_x f_standMany f_bestMany f_tail f_round1, (ad 4, .inl (dA 0, 900, .inl b_tape)), (ad 5, .inl (dA 0, 994, .inl a19))] H := hP
  have hD : va_D A [zr_o ad f_thrown f_taped v13 v14 f_size v15 v16 v17 v18 f_faultKind f_faultPlace f_reading f_toldWhy f_x f_standMany f_bestMany f_tail f_round1, (ad 4, .inl (dA 0, 900, .inl b_tape)), (ad 5, .inl (dA 0, 994, .inl a19))] := hD
  replace hf : zb_X11_readHole_16 n f_size b_tape v6 v13 v14 v15 v16 v17 v18 a19 = some w := hf
  unfold zb_X11_readHole_16 at hf
  refine lv_aload_n (pc := 16) hx hb dX11_readHole_16 rfl (lv_at hl 0 rfl) ?_
  refine va_get (pc := 17) (D := (dC, dI)) (ci := 0) (v := .int v17) (C := RX11) (T := TX11) (N := 42) hx hb ht zb_lay hown hK hP 0 rfl rfl 11 (by decide) (ht _ (zb_l zr_111)) (fun _ h9 => h9) rfl dX11_readHole_17 ?_
  refine lv_if_ne (tgt := 34) (pc := 20) hx hb dX11_readHole_20 rfl (fun hc => ?_) (fun hc => ?_)
  · have hf := za_f hf hc
    obtain rfl := Option.some.inj hf
    obtain ⟨rfl, rfl, rfl, rfl, rfl, rfl, rfl, rfl⟩ := zp_8 (ex (show ¬ (1 : Nat) = 0 by decide))
    exact E34 _ _ _ ⟨lv_sub hl [] rfl, hP, hD, hS⟩
  · have hf := za_t hf hc
    refine lv_aload_n (pc := 23) hx hb dX11_readHole_23 rfl (lv_at hl 0 rfl) ?_
    refine lv_iload_n (pc := 24) hx hb dX11_readHole_24 rfl (lv_at hl 1 rfl) ?_
    obtain ⟨v20, v21, v22, v23, v24, v25, v26, a27, hv20, hf⟩ := zc_8 hf
    refine zx_Vi (pc := 25) (wc := [zr_o ad f_thrown f_taped v13 v14 f_size v15 v16 v17 v18 f_faultKind f_faultPlace f_reading f_toldWhy f_x f_standMany f_bestMany f_tail f_round1, (ad 4, .inl (dA 0, 900, .inl b_tape)), (ad 5, .inl (dA 0, 994, .inl a19))]) (wr := []) (w1 := [zr_o ad f_thrown f_taped v21 v22 f_size v23 v24 v25 v26 f_faultKind f_faultPlace f_reading f_toldWhy f_x f_standMany f_bestMany f_tail f_round1, (ad 4, .inl (dA 0, 900, .inl b_tape)), (ad 5, .inl (dA 0, 994, .inl a27))]) (As := [.int v6]) (rest := []) ⟨hx, hb, hml, hown, ht⟩ (zt_X11_readFlag l dC dI dA ad adK adV _ n f_thrown f_taped v13 v14 f_size v15 v16 v17 v18 f_faultKind f_faultPlace f_reading f_toldWhy f_x f_standMany f_bestMany f_tail f_round1 b_tape a19 v6 v20 v21 v22 v23 v24 v25 v26 a27 hv20) (cwV 1 ht (zb_V (fun _ h => zb_i h) (zb_l zr_180) (zb_l zr_181) (zb_l zr_182) (zb_l zr_36) (zb_l zr_179)) rfl rfl rfl zk_X11_readFlag ⟨Nat.le_of_ble_eq_true rfl, Nat.le_of_ble_eq_true rfl⟩) rfl rfl hZ hK hP hD hS hA [0, 1, 2] [] (by decide) (by decide) (by decide) rfl rfl rfl hl.1 (Nat.le_of_ble_eq_true rfl) dX11_readHole_25 ⟨Nat.zero_le _, Nat.zero_le _⟩ rfl (fun H locs hP hD hS => ?_)
    have hP : va_P (dC, dI) zz_cls [zr_o ad f_thrown f_taped v21 v22 f_size v23 v24 v25 v26 f_faultKind f_faultPlace f_reading f_toldWhy f_x f_standMany f_bestMany f_tail f_round1, (ad 4, .inl (dA 0, 900, .inl b_tape)), (ad 5, .inl (dA 0, 994, .inl a27))] H := hP
    have hD : va_D A [zr_o ad f_thrown f_taped v21 v22 f_size v23 v24 v25 v26 f_faultKind f_faultPlace f_reading f_toldWhy f_x f_standMany f_bestMany f_tail f_round1, (ad 4, .inl (dA 0, 900, .inl b_tape)), (ad 5, .inl (dA 0, 994, .inl a27))] := hD
    refine lv_if_eq (tgt := 34) (pc := 28) hx hb dX11_readHole_28 rfl (fun hc => ?_) (fun hc => ?_)
    · have hf := za_t hf hc
      obtain rfl := Option.some.inj hf
      obtain ⟨rfl, rfl, rfl, rfl, rfl, rfl, rfl, rfl⟩ := zp_8 (ex (show ¬ (1 : Nat) = 0 by decide))
      exact E34 _ _ _ ⟨lv_sub hl [] rfl, hP, hD, hS⟩
    · have hf := za_f hf hc
      refine lv_goto (tgt := 16) (pc := 31) hx hb dX11_readHole_31 rfl ?_
      obtain rfl := Option.some.inj hf
      exact ih rfl _ _ _ ⟨lv_sub hl [0, 1] rfl, hP, hD, hS⟩

def zb_X11_readPilgrim_71 (n : Nat) (f_size : Int32) (b_tape : (Nat → Int32)) (v41 : Int32) (v42 : Int32) (v43 : Int32) (v44 : Int32) (v45 : Int32) (v46 : Int32) (a47 : (Nat → Int32)) : Option (Nat × Int32 × Int32 × Int32 × Int32 × Int32 × Int32 × (Nat → Int32)) :=
  if v45 = 0 then
    zd_5 (zf_X11_eats n v41 v42 f_size v43 v44 v45 b_tape (10 : Int32)) (fun v48 v49 v50 v51 v52 =>
    if v48 = 0 then
      some (1, v49, v50, v51, v52, v45, v46, a47)
    else
      zd_1 (za_ld a47 994 (38 : Int32)) (fun v53 =>
      zd_7 (zf_X11_readThing n v49 v50 f_size v51 v52 v45 v46 b_tape a47) (fun v54 v55 v56 v57 v58 v59 v60 =>
      zd_1 (za_st a47 994 (38 : Int32) (v53 ||| v54)) (fun a61 =>
      some (0, v55, v56, v57, v58, v59, v60, a61)))))
  else
    some (1, v41, v42, v43, v44, v45, v46, a47)
def zf_X11_readPilgrim (n : Nat) (f_at : Int32) (f_behind : Int32) (f_size : Int32) (f_kind : Int32) (f_number : Int32) (f_wrong : Int32) (f_wrongAt : Int32) (b_tape : (Nat → Int32)) (b_fresh : (Nat → Int32)) : Option (Int32 × Int32 × Int32 × Int32 × Int32 × Int32 × (Nat → Int32)) :=
  zd_4 (zf_X11_next n f_at f_behind f_size f_kind f_number b_tape) (fun v1 v2 v3 v4 =>
  zd_5 (zf_X11_eats n v1 v2 f_size v3 v4 f_wrong b_tape (8 : Int32)) (fun v5 v6 v7 v8 v9 =>
  zd_2 (
    if v5 = 0 then
      zd_2 (zf_X11_fails v6 v8 f_wrong f_wrongAt (2 : Int32)) (fun v10 v11 =>
      some (v10, v11))
    else
      some (f_wrong, f_wrongAt)) (fun v12 v13 =>
  zd_1 (za_ld b_fresh 994 (1 : Int32)) (fun v14 =>
  zd_7 (zf_X11_takes n v6 v7 f_size v8 v9 v12 v13 b_tape (0 : Int32) v14) (fun v15 v16 v17 v18 v19 v20 v21 =>
  zd_1 (za_st b_fresh 994 (37 : Int32) v15) (fun a22 =>
  zd_5 (zf_X11_eats n v16 v17 f_size v18 v19 v20 b_tape (9 : Int32)) (fun v23 v24 v25 v26 v27 =>
  zd_2 (
    if v23 = 0 then
      zd_2 (zf_X11_fails v24 v26 v20 v21 (2 : Int32)) (fun v28 v29 =>
      some (v28, v29))
    else
      some (v20, v21)) (fun v30 v31 =>
  zd_7 (zf_X11_takes n v24 v25 f_size v26 v27 v30 v31 b_tape (0 : Int32) (4 : Int32)) (fun v32 v33 v34 v35 v36 v37 v38 =>
  zd_1 (za_st a22 994 (39 : Int32) v32) (fun a39 =>
  zd_1 (za_st a39 994 (38 : Int32) (0 : Int32)) (fun a40 =>
  zd_8 (za_it (fun v => zb_X11_readPilgrim_71 n f_size b_tape v.1 v.2.1 v.2.2.1 v.2.2.2.1 v.2.2.2.2.1 v.2.2.2.2.2.1 v.2.2.2.2.2.2) n (v33, v34, v35, v36, v37, v38, a40)) (fun g69 v62 v63 v64 v65 v66 v67 a68 =>
  some (v62, v63, v64, v65, v66, v67, a68)))))))))))))
theorem zk_X11_readPilgrim : yX11_readPilgrim.cls = RX11 ∧ yX11_readPilgrim.cls ≠ "java/lang/invoke/MethodHandle" ∧ yX11_readPilgrim.cls ≠ "java/lang/invoke/VarHandle" ∧ (parseMethodDescriptor yX11_readPilgrim.desc).map (fun d => d.parameters.length) = some 0 := by decide +kernel
set_option maxHeartbeats 4000000 in
set_option maxRecDepth 100000 in
theorem zt_X11_readPilgrim (l : Launch) (dC : Nat → ClassId) (dI : Nat → Nat → Nat) (dA : Nat → ClassId) (ad : Nat → Nat) (adK adV : Nat → Nat) (sz : Nat) (n : Nat) (f_thrown : Int32) (f_taped : Int32) (f_at : Int32) (f_behind : Int32) (f_size : Int32) (f_kind : Int32) (f_number : Int32) (f_wrong : Int32) (f_wrongAt : Int32) (f_faultKind : Int32) (f_faultPlace : Int32) (f_reading : Int32) (f_toldWhy : Int32) (f_x : Int32) (f_standMany : Int32) (f_bestMany : Int32) (f_tail : Int32) (f_round1 : Int32) (b_tape : (Nat → Int32)) (b_fresh : (Nat → Int32)) (o1 : Int32) (o2 : Int32) (o3 : Int32) (o4 : Int32) (o5 : Int32) (o6 : Int32) (o7 : (Nat → Int32)) (hf : zf_X11_readPilgrim n f_at f_behind f_size f_kind f_number f_wrong f_wrongAt b_tape b_fresh = some (o1, o2, o3, o4, o5, o6, o7)) : Met l yX11_readPilgrim (.code yX11_readPilgrim cX11_readPilgrim 1 none :: zb_T) ({ frames := 8, cells := 0, slots := 0, locals := 172 }) (va_Pc [.ref (ad 0)] (zx_M dC dI dA adK adV [zr_o ad f_thrown f_taped f_at f_behind f_size f_kind f_number f_wrong f_wrongAt f_faultKind f_faultPlace f_reading f_toldWhy f_x f_standMany f_bestMany f_tail f_round1, (ad 4, .inl (dA 0, 900, .inl b_tape)), (ad 5, .inl (dA 0, 994, .inl b_fresh))] sz)) (va_Qv (fun _ : Unit => True) (fun _ t => zz_B dC dI dA (va_A [zr_o ad f_thrown f_taped f_at f_behind f_size f_kind f_number f_wrong f_wrongAt f_faultKind f_faultPlace f_reading f_toldWhy f_x f_standMany f_bestMany f_tail f_round1, (ad 4, .inl (dA 0, 900, .inl b_tape)), (ad 5, .inl (dA 0, 994, .inl b_fresh))] sz) [zr_o ad f_thrown f_taped o1 o2 f_size o3 o4 o5 o6 f_faultKind f_faultPlace f_reading f_toldWhy f_x f_standMany f_bestMany f_tail f_round1, (ad 4, .inl (dA 0, 900, .inl b_tape)), (ad 5, .inl (dA 0, 994, .inl o7))] t) (va_A [zr_o ad f_thrown f_taped f_at f_behind f_size f_kind f_number f_wrong f_wrongAt f_faultKind f_faultPlace f_reading f_toldWhy f_x f_standMany f_bestMany f_tail f_round1, (ad 4, .inl (dA 0, 900, .inl b_tape)), (ad 5, .inl (dA 0, 994, .inl b_fresh))] sz)) 0 0 (va_A [zr_o ad f_thrown f_taped f_at f_behind f_size f_kind f_number f_wrong f_wrongAt f_faultKind f_faultPlace f_reading f_toldWhy f_x f_standMany f_bestMany f_tail f_round1, (ad 4, .inl (dA 0, 900, .inl b_tape)), (ad 5, .inl (dA 0, 994, .inl b_fresh))] sz) := by
  unfold zf_X11_readPilgrim at hf
  refine Met.ofW (cc := cX11_readPilgrim) (maxL := 1) (ret := none) (by decide) rfl ?_
  intro p e s m args below meth c s₁ B hml hv
  obtain ⟨rfl, ⟨hsz, hP, hK, hD0⟩, hZ⟩ := hv
  have hx := B.exec
  have hb := B.bytes
  have hr := B.returns
  have ht : ∀ w ∈ zb_T, w.before ([.ref (ad 0)] : List Value).toArray s = true := fun w hw => atoms_spec (ws := .code yX11_readPilgrim cX11_readPilgrim 1 none :: zb_T) B.pre w (List.mem_cons_of_mem _ hw)
  have hown : s.vm.findClass RX11 = some m.cls := findClass_of_methodNamed B.named
  have hlocks := B.notSynchronized
  subst hsz
  have hD := hD0.self (sz := s.heap.size)
  generalize hAe : va_A [zr_o ad f_thrown f_taped f_at f_behind f_size f_kind f_number f_wrong f_wrongAt f_faultKind f_faultPlace f_reading f_toldWhy f_x f_standMany f_bestMany f_tail f_round1, (ad 4, .inl (dA 0, 900, .inl b_tape)), (ad 5, .inl (dA 0, 994, .inl b_fresh))] s.heap.size = A at hD hZ ⊢
  have hA : ∀ q : Nat, s.heap.size ≤ q → A q := fun q h => by rw [← hAe]; exact Or.inr h
  clear hAe hD0
  have hS : va_S A s.heap s.heap [] := va_S.rf
  have hl := lv_entry ([.ref (ad 0)]) (n := 1) (Nat.le_of_ble_eq_true rfl)
  rw [lg_entry_eq]
  generalize (lg_sl ([.ref (ad 0)]) ++ List.replicate (1 - (lg_sl ([.ref (ad 0)])).length) Slot.unset).toArray = ls at hl ⊢
  have hl : lv_has ls 1 [(0, .ref (ad 0))] := hl
  refine lv_aload_n (pc := 0) hx hb dX11_readPilgrim_0 rfl (lv_at hl 0 rfl) ?_
  obtain ⟨v1, v2, v3, v4, hv1, hf⟩ := zc_4 hf
  refine zx_Vv (pc := 1) (wc := [zr_o ad f_thrown f_taped f_at f_behind f_size f_kind f_number f_wrong f_wrongAt f_faultKind f_faultPlace f_reading f_toldWhy f_x f_standMany f_bestMany f_tail f_round1, (ad 4, .inl (dA 0, 900, .inl b_tape))]) (wr := [(ad 5, .inl (dA 0, 994, .inl b_fresh))]) (w1 := [zr_o ad f_thrown f_taped v1 v2 f_size v3 v4 f_wrong f_wrongAt f_faultKind f_faultPlace f_reading f_toldWhy f_x f_standMany f_bestMany f_tail f_round1, (ad 4, .inl (dA 0, 900, .inl b_tape))]) (As := []) (rest := []) ⟨hx, hb, hml, hown, ht⟩ (zt_X11_next l dC dI dA ad adK adV _ n f_thrown f_taped f_at f_behind f_size f_kind f_number f_wrong f_wrongAt f_faultKind f_faultPlace f_reading f_toldWhy f_x f_standMany f_bestMany f_tail f_round1 b_tape v1 v2 v3 v4 hv1) (cwV 0 ht (zb_V (fun _ h => zb_i h) (zb_l zr_117) (zb_l zr_118) (zb_l zr_119) (zb_l zr_36) (zb_l zr_109)) rfl rfl rfl zk_X11_next ⟨Nat.le_of_ble_eq_true rfl, Nat.le_of_ble_eq_true rfl⟩) rfl rfl hZ hK hP hD hS hA [0, 1] [2] (by decide) (by decide) (by decide) rfl rfl rfl hl.1 (Nat.le_of_ble_eq_true rfl) dX11_readPilgrim_1 ⟨Nat.zero_le _, Nat.zero_le _⟩ rfl (fun H locs hP hD hS => ?_)
  have hP : va_P (dC, dI) zz_cls [(ad 5, .inl (dA 0, 994, .inl b_fresh)), zr_o ad f_thrown f_taped v1 v2 f_size v3 v4 f_wrong f_wrongAt f_faultKind f_faultPlace f_reading f_toldWhy f_x f_standMany f_bestMany f_tail f_round1, (ad 4, .inl (dA 0, 900, .inl b_tape))] H := hP
  have hD : va_D A [(ad 5, .inl (dA 0, 994, .inl b_fresh)), zr_o ad f_thrown f_taped v1 v2 f_size v3 v4 f_wrong f_wrongAt f_faultKind f_faultPlace f_reading f_toldWhy f_x f_standMany f_bestMany f_tail f_round1, (ad 4, .inl (dA 0, 900, .inl b_tape))] := hD
  refine lv_aload_n (pc := 4) hx hb dX11_readPilgrim_4 rfl (lv_at hl 0 rfl) ?_
  refine lv_bipush (v := (8 : Int32)) (pc := 5) hx hb dX11_readPilgrim_5 (by decide) ?_
  obtain ⟨v5, v6, v7, v8, v9, hv5, hf⟩ := zc_5 hf
  refine zx_Vi (pc := 7) (wc := [zr_o ad f_thrown f_taped v1 v2 f_size v3 v4 f_wrong f_wrongAt f_faultKind f_faultPlace f_reading f_toldWhy f_x f_standMany f_bestMany f_tail f_round1, (ad 4, .inl (dA 0, 900, .inl b_tape))]) (wr := [(ad 5, .inl (dA 0, 994, .inl b_fresh))]) (w1 := [zr_o ad f_thrown f_taped v6 v7 f_size v8 v9 f_wrong f_wrongAt f_faultKind f_faultPlace f_reading f_toldWhy f_x f_standMany f_bestMany f_tail f_round1, (ad 4, .inl (dA 0, 900, .inl b_tape))]) (As := [.int (8 : Int32)]) (rest := []) ⟨hx, hb, hml, hown, ht⟩ (zt_X11_eats l dC dI dA ad adK adV _ n f_thrown f_taped v1 v2 f_size v3 v4 f_wrong f_wrongAt f_faultKind f_faultPlace f_reading f_toldWhy f_x f_standMany f_bestMany f_tail f_round1 b_tape (8 : Int32) v5 v6 v7 v8 v9 hv5) (cwV 1 ht (zb_V (fun _ h => zb_i h) (zb_l zr_144) (zb_l zr_145) (zb_l zr_146) (zb_l zr_36) (zb_l zr_120)) rfl rfl rfl zk_X11_eats ⟨Nat.le_of_ble_eq_true rfl, Nat.le_of_ble_eq_true rfl⟩) rfl rfl hZ hK hP hD hS hA [1, 2] [0] (by decide) (by decide) (by decide) rfl rfl rfl hl.1 (Nat.le_of_ble_eq_true rfl) dX11_readPilgrim_7 ⟨Nat.zero_le _, Nat.zero_le _⟩ rfl (fun H locs hP hD hS => ?_)
  have hP : va_P (dC, dI) zz_cls [(ad 5, .inl (dA 0, 994, .inl b_fresh)), zr_o ad f_thrown f_taped v6 v7 f_size v8 v9 f_wrong f_wrongAt f_faultKind f_faultPlace f_reading f_toldWhy f_x f_standMany f_bestMany f_tail f_round1, (ad 4, .inl (dA 0, 900, .inl b_tape))] H := hP
  have hD : va_D A [(ad 5, .inl (dA 0, 994, .inl b_fresh)), zr_o ad f_thrown f_taped v6 v7 f_size v8 v9 f_wrong f_wrongAt f_faultKind f_faultPlace f_reading f_toldWhy f_x f_standMany f_bestMany f_tail f_round1, (ad 4, .inl (dA 0, 900, .inl b_tape))] := hD
  obtain ⟨v12, v13, hj, hf⟩ := zc_2 hf
  refine zj_join (pcJ := 18) (stk := []) (X := fun H locs ls => lv_has ls 1 [(0, .ref (ad 0))] ∧ va_P (dC, dI) zz_cls [zr_o ad f_thrown f_taped v6 v7 f_size v8 v9 v12 v13 f_faultKind f_faultPlace f_reading f_toldWhy f_x f_standMany f_bestMany f_tail f_round1, (ad 4, .inl (dA 0, 900, .inl b_tape)), (ad 5, .inl (dA 0, 994, .inl b_fresh))] H ∧ va_D A [zr_o ad f_thrown f_taped v6 v7 f_size v8 v9 v12 v13 f_faultKind f_faultPlace f_reading f_toldWhy f_x f_standMany f_bestMany f_tail f_round1, (ad 4, .inl (dA 0, 900, .inl b_tape)), (ad 5, .inl (dA 0, 994, .inl b_fresh))] ∧ va_S A s.heap H locs) (fun H locs ls hX => ?_) (fun J18 => ?_)
  · obtain ⟨hl, hP, hD, hS⟩ := hX
    clear hj
    refine lv_aload_n (pc := 18) hx hb dX11_readPilgrim_18 rfl (lv_at hl 0 rfl) ?_
    refine va_get (pc := 19) (D := (dC, dI)) (ci := 0) (v := .ref (ad 5)) (C := RX11) (T := TX11) (N := 42) hx hb ht zb_lay hown hK hP 0 rfl rfl 4 (by decide) (ht _ (zb_l zr_10)) (fun _ h9 => h9) rfl dX11_readPilgrim_19 ?_
    refine lv_bipush (v := (37 : Int32)) (pc := 22) hx hb dX11_readPilgrim_22 (by decide) ?_
    refine lv_aload_n (pc := 24) hx hb dX11_readPilgrim_24 rfl (lv_at hl 0 rfl) ?_
    refine lv_iconst (v := (0 : Int32)) (pc := 25) hx hb dX11_readPilgrim_25 (by decide) ?_
    refine lv_aload_n (pc := 26) hx hb dX11_readPilgrim_26 rfl (lv_at hl 0 rfl) ?_
    refine va_get (pc := 27) (D := (dC, dI)) (ci := 0) (v := .ref (ad 5)) (C := RX11) (T := TX11) (N := 42) hx hb ht zb_lay hown hK hP 0 rfl rfl 4 (by decide) (ht _ (zb_l zr_10)) (fun _ h9 => h9) rfl dX11_readPilgrim_27 ?_
    refine lv_iconst (v := (1 : Int32)) (pc := 30) hx hb dX11_readPilgrim_30 (by decide) ?_
    obtain ⟨v14, hv14, hf⟩ := zc_1 hf
    refine zw_iald (pc := 31) hx hb hK hP 2 0 rfl rfl hv14 dX11_readPilgrim_31 ?_
    obtain ⟨v15, v16, v17, v18, v19, v20, v21, hv15, hf⟩ := zc_7 hf
    refine zx_Vi (pc := 32) (wc := [zr_o ad f_thrown f_taped v6 v7 f_size v8 v9 v12 v13 f_faultKind f_faultPlace f_reading f_toldWhy f_x f_standMany f_bestMany f_tail f_round1, (ad 4, .inl (dA 0, 900, .inl b_tape))]) (wr := [(ad 5, .inl (dA 0, 994, .inl b_fresh))]) (w1 := [zr_o ad f_thrown f_taped v16 v17 f_size v18 v19 v20 v21 f_faultKind f_faultPlace f_reading f_toldWhy f_x f_standMany f_bestMany f_tail f_round1, (ad 4, .inl (dA 0, 900, .inl b_tape))]) (As := [.int (0 : Int32), .int v14]) (rest := [.int (37 : Int32), .ref (ad 5)]) ⟨hx, hb, hml, hown, ht⟩ (zt_X11_takes l dC dI dA ad adK adV _ n f_thrown f_taped v6 v7 f_size v8 v9 v12 v13 f_faultKind f_faultPlace f_reading f_toldWhy f_x f_standMany f_bestMany f_tail f_round1 b_tape (0 : Int32) v14 v15 v16 v17 v18 v19 v20 v21 hv15) (cwV 2 ht (zb_V (fun _ h => zb_i h) (zb_l zr_172) (zb_l zr_173) (zb_l zr_174) (zb_l zr_36) (zb_l zr_126)) rfl rfl rfl zk_X11_takes ⟨Nat.le_of_ble_eq_true rfl, Nat.le_of_ble_eq_true rfl⟩) rfl rfl hZ hK hP hD hS hA [0, 1] [2] (by decide) (by decide) (by decide) rfl rfl rfl hl.1 (Nat.le_of_ble_eq_true rfl) dX11_readPilgrim_32 ⟨Nat.zero_le _, Nat.zero_le _⟩ rfl (fun H locs hP hD hS => ?_)
    have hP : va_P (dC, dI) zz_cls [(ad 5, .inl (dA 0, 994, .inl b_fresh)), zr_o ad f_thrown f_taped v16 v17 f_size v18 v19 v20 v21 f_faultKind f_faultPlace f_reading f_toldWhy f_x f_standMany f_bestMany f_tail f_round1, (ad 4, .inl (dA 0, 900, .inl b_tape))] H := hP
    have hD : va_D A [(ad 5, .inl (dA 0, 994, .inl b_fresh)), zr_o ad f_thrown f_taped v16 v17 f_size v18 v19 v20 v21 f_faultKind f_faultPlace f_reading f_toldWhy f_x f_standMany f_bestMany f_tail f_round1, (ad 4, .inl (dA 0, 900, .inl b_tape))] := hD
    obtain ⟨a22, ha22, hf⟩ := zc_1 hf
    refine zw_iast (pc := 35) hx hb hK hP hD hS 0 0 rfl rfl ha22 dX11_readPilgrim_35 (fun H locs hP hD hS => ?_)
    have hP : va_P (dC, dI) zz_cls [(ad 5, .inl (dA 0, 994, .inl a22)), zr_o ad f_thrown f_taped v16 v17 f_size v18 v19 v20 v21 f_faultKind f_faultPlace f_reading f_toldWhy f_x f_standMany f_bestMany f_tail f_round1, (ad 4, .inl (dA 0, 900, .inl b_tape))] H := hP
    have hD : va_D A [(ad 5, .inl (dA 0, 994, .inl a22)), zr_o ad f_thrown f_taped v16 v17 f_size v18 v19 v20 v21 f_faultKind f_faultPlace f_reading f_toldWhy f_x f_standMany f_bestMany f_tail f_round1, (ad 4, .inl (dA 0, 900, .inl b_tape))] := hD
    refine lv_aload_n (pc := 36) hx hb dX11_readPilgrim_36 rfl (lv_at hl 0 rfl) ?_
    refine lv_bipush (v := (9 : Int32)) (pc := 37) hx hb dX11_readPilgrim_37 (by decide) ?_
    obtain ⟨v23, v24, v25, v26, v27, hv23, hf⟩ := zc_5 hf
    refine zx_Vi (pc := 39) (wc := [zr_o ad f_thrown f_taped v16 v17 f_size v18 v19 v20 v21 f_faultKind f_faultPlace f_reading f_toldWhy f_x f_standMany f_bestMany f_tail f_round1, (ad 4, .inl (dA 0, 900, .inl b_tape))]) (wr := [(ad 5, .inl (dA 0, 994, .inl a22))]) (w1 := [zr_o ad f_thrown f_taped v24 v25 f_size v26 v27 v20 v21 f_faultKind f_faultPlace f_reading f_toldWhy f_x f_standMany f_bestMany f_tail f_round1, (ad 4, .inl (dA 0, 900, .inl b_tape))]) (As := [.int (9 : Int32)]) (rest := []) ⟨hx, hb, hml, hown, ht⟩ (zt_X11_eats l dC dI dA ad adK adV _ n f_thrown f_taped v16 v17 f_size v18 v19 v20 v21 f_faultKind f_faultPlace f_reading f_toldWhy f_x f_standMany f_bestMany f_tail f_round1 b_tape (9 : Int32) v23 v24 v25 v26 v27 hv23) (cwV 1 ht (zb_V (fun _ h => zb_i h) (zb_l zr_144) (zb_l zr_145) (zb_l zr_146) (zb_l zr_36) (zb_l zr_120)) rfl rfl rfl zk_X11_eats ⟨Nat.le_of_ble_eq_true rfl, Nat.le_of_ble_eq_true rfl⟩) rfl rfl hZ hK hP hD hS hA [1, 2] [0] (by decide) (by decide) (by decide) rfl rfl rfl hl.1 (Nat.le_of_ble_eq_true rfl) dX11_readPilgrim_39 ⟨Nat.zero_le _, Nat.zero_le _⟩ rfl (fun H locs hP hD hS => ?_)
    have hP : va_P (dC, dI) zz_cls [(ad 5, .inl (dA 0, 994, .inl a22)), zr_o ad f_thrown f_taped v24 v25 f_size v26 v27 v20 v21 f_faultKind f_faultPlace f_reading f_toldWhy f_x f_standMany f_bestMany f_tail f_round1, (ad 4, .inl (dA 0, 900, .inl b_tape))] H := hP
    have hD : va_D A [(ad 5, .inl (dA 0, 994, .inl a22)), zr_o ad f_thrown f_taped v24 v25 f_size v26 v27 v20 v21 f_faultKind f_faultPlace f_reading f_toldWhy f_x f_standMany f_bestMany f_tail f_round1, (ad 4, .inl (dA 0, 900, .inl b_tape))] := hD
    obtain ⟨v30, v31, hj, hf⟩ := zc_2 hf
    refine zj_join (pcJ := 50) (stk := []) (X := fun H locs ls => lv_has ls 1 [(0, .ref (ad 0))] ∧ va_P (dC, dI) zz_cls [zr_o ad f_thrown f_taped v24 v25 f_size v26 v27 v30 v31 f_faultKind f_faultPlace f_reading f_toldWhy f_x f_standMany f_bestMany f_tail f_round1, (ad 4, .inl (dA 0, 900, .inl b_tape)), (ad 5, .inl (dA 0, 994, .inl a22))] H ∧ va_D A [zr_o ad f_thrown f_taped v24 v25 f_size v26 v27 v30 v31 f_faultKind f_faultPlace f_reading f_toldWhy f_x f_standMany f_bestMany f_tail f_round1, (ad 4, .inl (dA 0, 900, .inl b_tape)), (ad 5, .inl (dA 0, 994, .inl a22))] ∧ va_S A s.heap H locs) (fun H locs ls hX => ?_) (fun J50 => ?_)
    · obtain ⟨hl, hP, hD, hS⟩ := hX
      clear hj
      refine lv_aload_n (pc := 50) hx hb dX11_readPilgrim_50 rfl (lv_at hl 0 rfl) ?_
      refine va_get (pc := 51) (D := (dC, dI)) (ci := 0) (v := .ref (ad 5)) (C := RX11) (T := TX11) (N := 42) hx hb ht zb_lay hown hK hP 0 rfl rfl 4 (by decide) (ht _ (zb_l zr_10)) (fun _ h9 => h9) rfl dX11_readPilgrim_51 ?_
      refine lv_bipush (v := (39 : Int32)) (pc := 54) hx hb dX11_readPilgrim_54 (by decide) ?_
      refine lv_aload_n (pc := 56) hx hb dX11_readPilgrim_56 rfl (lv_at hl 0 rfl) ?_
      refine lv_iconst (v := (0 : Int32)) (pc := 57) hx hb dX11_readPilgrim_57 (by decide) ?_
      refine lv_iconst (v := (4 : Int32)) (pc := 58) hx hb dX11_readPilgrim_58 (by decide) ?_
      obtain ⟨v32, v33, v34, v35, v36, v37, v38, hv32, hf⟩ := zc_7 hf
      refine zx_Vi (pc := 59) (wc := [zr_o ad f_thrown f_taped v24 v25 f_size v26 v27 v30 v31 f_faultKind f_faultPlace f_reading f_toldWhy f_x f_standMany f_bestMany f_tail f_round1, (ad 4, .inl (dA 0, 900, .inl b_tape))]) (wr := [(ad 5, .inl (dA 0, 994, .inl a22))]) (w1 := [zr_o ad f_thrown f_taped v33 v34 f_size v35 v36 v37 v38 f_faultKind f_faultPlace f_reading f_toldWhy f_x f_standMany f_bestMany f_tail f_round1, (ad 4, .inl (dA 0, 900, .inl b_tape))]) (As := [.int (0 : Int32), .int (4 : Int32)]) (rest := [.int (39 : Int32), .ref (ad 5)]) ⟨hx, hb, hml, hown, ht⟩ (zt_X11_takes l dC dI dA ad adK adV _ n f_thrown f_taped v24 v25 f_size v26 v27 v30 v31 f_faultKind f_faultPlace f_reading f_toldWhy f_x f_standMany f_bestMany f_tail f_round1 b_tape (0 : Int32) (4 : Int32) v32 v33 v34 v35 v36 v37 v38 hv32) (cwV 2 ht (zb_V (fun _ h => zb_i h) (zb_l zr_172) (zb_l zr_173) (zb_l zr_174) (zb_l zr_36) (zb_l zr_126)) rfl rfl rfl zk_X11_takes ⟨Nat.le_of_ble_eq_true rfl, Nat.le_of_ble_eq_true rfl⟩) rfl rfl hZ hK hP hD hS hA [0, 1] [2] (by decide) (by decide) (by decide) rfl rfl rfl hl.1 (Nat.le_of_ble_eq_true rfl) dX11_readPilgrim_59 ⟨Nat.zero_le _, Nat.zero_le _⟩ rfl (fun H locs hP hD hS => ?_)
      have hP : va_P (dC, dI) zz_cls [(ad 5, .inl (dA 0, 994, .inl a22)), zr_o ad f_thrown f_taped v33 v34 f_size v35 v36 v37 v38 f_faultKind f_faultPlace f_reading f_toldWhy f_x f_standMany f_bestMany f_tail f_round1, (ad 4, .inl (dA 0, 900, .inl b_tape))] H := hP
      have hD : va_D A [(ad 5, .inl (dA 0, 994, .inl a22)), zr_o ad f_thrown f_taped v33 v34 f_size v35 v36 v37 v38 f_faultKind f_faultPlace f_reading f_toldWhy f_x f_standMany f_bestMany f_tail f_round1, (ad 4, .inl (dA 0, 900, .inl b_tape))] := hD
      obtain ⟨a39, ha39, hf⟩ := zc_1 hf
      refine zw_iast (pc := 62) hx hb hK hP hD hS 0 0 rfl rfl ha39 dX11_readPilgrim_62 (fun H locs hP hD hS => ?_)
      have hP : va_P (dC, dI) zz_cls [(ad 5, .inl (dA 0, 994, .inl a39)), zr_o ad f_thrown f_taped v33 v34 f_size v35 v36 v37 v38 f_faultKind f_faultPlace f_reading f_toldWhy f_x f_standMany f_bestMany f_tail f_round1, (ad 4, .inl (dA 0, 900, .inl b_tape))] H := hP
      have hD : va_D A [(ad 5, .inl (dA 0, 994, .inl a39)), zr_o ad f_thrown f_taped v33 v34 f_size v35 v36 v37 v38 f_faultKind f_faultPlace f_reading f_toldWhy f_x f_standMany f_bestMany f_tail f_round1, (ad 4, .inl (dA 0, 900, .inl b_tape))] := hD
      refine lv_aload_n (pc := 63) hx hb dX11_readPilgrim_63 rfl (lv_at hl 0 rfl) ?_
      refine va_get (pc := 64) (D := (dC, dI)) (ci := 0) (v := .ref (ad 5)) (C := RX11) (T := TX11) (N := 42) hx hb ht zb_lay hown hK hP 1 rfl rfl 4 (by decide) (ht _ (zb_l zr_10)) (fun _ h9 => h9) rfl dX11_readPilgrim_64 ?_
      refine lv_bipush (v := (38 : Int32)) (pc := 67) hx hb dX11_readPilgrim_67 (by decide) ?_
      refine lv_iconst (v := (0 : Int32)) (pc := 69) hx hb dX11_readPilgrim_69 (by decide) ?_
      obtain ⟨a40, ha40, hf⟩ := zc_1 hf
      refine zw_iast (pc := 70) hx hb hK hP hD hS 0 0 rfl rfl ha40 dX11_readPilgrim_70 (fun H locs hP hD hS => ?_)
      have hP : va_P (dC, dI) zz_cls [(ad 5, .inl (dA 0, 994, .inl a40)), zr_o ad f_thrown f_taped v33 v34 f_size v35 v36 v37 v38 f_faultKind f_faultPlace f_reading f_toldWhy f_x f_standMany f_bestMany f_tail f_round1, (ad 4, .inl (dA 0, 900, .inl b_tape))] H := hP
      have hD : va_D A [(ad 5, .inl (dA 0, 994, .inl a40)), zr_o ad f_thrown f_taped v33 v34 f_size v35 v36 v37 v38 f_faultKind f_faultPlace f_reading f_toldWhy f_x f_standMany f_bestMany f_tail f_round1, (ad 4, .inl (dA 0, 900, .inl b_tape))] := hD
      obtain ⟨g69, v62, v63, v64, v65, v66, v67, a68, hj, hf⟩ := zc_8 hf
      refine zj_join (pcJ := 104) (stk := []) (X := fun H locs ls => lv_has ls 1 [] ∧ va_P (dC, dI) zz_cls [zr_o ad f_thrown f_taped v62 v63 f_size v64 v65 v66 v67 f_faultKind f_faultPlace f_reading f_toldWhy f_x f_standMany f_bestMany f_tail f_round1, (ad 4, .inl (dA 0, 900, .inl b_tape)), (ad 5, .inl (dA 0, 994, .inl a68))] H ∧ va_D A [zr_o ad f_thrown f_taped v62 v63 f_size v64 v65 v66 v67 f_faultKind f_faultPlace f_reading f_toldWhy f_x f_standMany f_bestMany f_tail f_round1, (ad 4, .inl (dA 0, 900, .inl b_tape)), (ad 5, .inl (dA 0, 994, .inl a68))] ∧ va_S A s.heap H locs) (fun H locs ls hX => ?_) (fun E104 => ?_)
      · obtain ⟨hl, hP, hD, hS⟩ := hX
        clear hj
        obtain ⟨rfl, rfl, rfl, rfl, rfl, rfl, rfl⟩ := zi_7 hf
        exact W.vret (pc := 104) hx hb hr (fun t ht hW => ⟨⟨(), rfl, trivial, zz_Bi (by rw [ht]; exact hP) (va_K.moved hW.alike hK) (hD)⟩, hS.F ht⟩) hS.2.2 dX11_readPilgrim_104
      clear hf
      refine zw_loop (pcH := 71) (X := fun v H locs ls => lv_has ls 1 [(0, .ref (ad 0))] ∧ va_P (dC, dI) zz_cls [zr_o ad f_thrown f_taped v.1 v.2.1 f_size v.2.2.1 v.2.2.2.1 v.2.2.2.2.1 v.2.2.2.2.2.1 f_faultKind f_faultPlace f_reading f_toldWhy f_x f_standMany f_bestMany f_tail f_round1, (ad 4, .inl (dA 0, 900, .inl b_tape)), (ad 5, .inl (dA 0, 994, .inl v.2.2.2.2.2.2))] H ∧ va_D A [zr_o ad f_thrown f_taped v.1 v.2.1 f_size v.2.2.1 v.2.2.2.1 v.2.2.2.2.1 v.2.2.2.2.2.1 f_faultKind f_faultPlace f_reading f_toldWhy f_x f_standMany f_bestMany f_tail f_round1, (ad 4, .inl (dA 0, 900, .inl b_tape)), (ad 5, .inl (dA 0, 994, .inl v.2.2.2.2.2.2))] ∧ va_S A s.heap H locs) hj (fun v w hf ih ex H locs ls hX => ?_) _ _ _ ⟨lv_sub hl [0] rfl, hP.sub [1, 2, 0] rfl, hD.sub [1, 2, 0] (by decide) rfl, hS⟩
      clear hj
      obtain ⟨v41, v42, v43, v44, v45, v46, a47⟩ := v
      obtain ⟨hl, hP, hD, hS⟩ := hX
      have hl : lv_has ls 1 [(0, .ref (ad 0))] := hl
      have hP : va_P (dC, dI) zz_cls [zr_o ad f_thrown f_taped v41 v42 f_size v43 v44 v45 v46 f_faultKind f_faultPlace f_reading f_toldWhy f_x f_standMany f_bestMany f_tail f_round1, (ad 4, .inl (dA 0, 900, .inl b_tape)), (ad 5, .inl (dA 0, 994, .inl a47))] H := hP
      have hD : va_D A [zr_o ad f_thrown f_taped v41 v42 f_size v43 v44 v45 v46 f_faultKind f_faultPlace f_reading f_toldWhy f_x f_standMany f_bestMany f_tail f_round1, (ad 4, .inl (dA 0, 900, .inl b_tape)), (ad 5, .inl (dA 0, 994, .inl a47))] := hD
      replace hf : zb_X11_readPilgrim_71 n f_size b_tape v41 v42 v43 v44 v45 v46 a47 = some w := hf
      unfold zb_X11_readPilgrim_71 at hf
      refine lv_aload_n (pc := 71) hx hb dX11_readPilgrim_71 rfl (lv_at hl 0 rfl) ?_
      refine va_get (pc := 72) (D := (dC, dI)) (ci := 0) (v := .int v45) (C := RX11) (T := TX11) (N := 42) hx hb ht zb_lay hown hK hP 0 rfl rfl 11 (by decide) (ht _ (zb_l zr_111)) (fun _ h9 => h9) rfl dX11_readPilgrim_72 ?_
      refine lv_if_ne (tgt := 104) (pc := 75) hx hb dX11_readPilgrim_75 rfl (fun hc => ?_) (fun hc => ?_)
      · have hf := za_f hf hc
        obtain rfl := Option.some.inj hf
        obtain ⟨rfl, rfl, rfl, rfl, rfl, rfl, rfl, rfl⟩ := zp_8 (ex (show ¬ (1 : Nat) = 0 by decide))
        exact E104 _ _ _ ⟨lv_sub hl [] rfl, hP, hD, hS⟩
      · have hf := za_t hf hc
        refine lv_aload_n (pc := 78) hx hb dX11_readPilgrim_78 rfl (lv_at hl 0 rfl) ?_
        refine lv_bipush (v := (10 : Int32)) (pc := 79) hx hb dX11_readPilgrim_79 (by decide) ?_
        obtain ⟨v48, v49, v50, v51, v52, hv48, hf⟩ := zc_5 hf
        refine zx_Vi (pc := 81) (wc := [zr_o ad f_thrown f_taped v41 v42 f_size v43 v44 v45 v46 f_faultKind f_faultPlace f_reading f_toldWhy f_x f_standMany f_bestMany f_tail f_round1, (ad 4, .inl (dA 0, 900, .inl b_tape))]) (wr := [(ad 5, .inl (dA 0, 994, .inl a47))]) (w1 := [zr_o ad f_thrown f_taped v49 v50 f_size v51 v52 v45 v46 f_faultKind f_faultPlace f_reading f_toldWhy f_x f_standMany f_bestMany f_tail f_round1, (ad 4, .inl (dA 0, 900, .inl b_tape))]) (As := [.int (10 : Int32)]) (rest := []) ⟨hx, hb, hml, hown, ht⟩ (zt_X11_eats l dC dI dA ad adK adV _ n f_thrown f_taped v41 v42 f_size v43 v44 v45 v46 f_faultKind f_faultPlace f_reading f_toldWhy f_x f_standMany f_bestMany f_tail f_round1 b_tape (10 : Int32) v48 v49 v50 v51 v52 hv48) (cwV 1 ht (zb_V (fun _ h => zb_i h) (zb_l zr_144) (zb_l zr_145) (zb_l zr_146) (zb_l zr_36) (zb_l zr_120)) rfl rfl rfl zk_X11_eats ⟨Nat.le_of_ble_eq_true rfl, Nat.le_of_ble_eq_true rfl⟩) rfl rfl hZ hK hP hD hS hA [0, 1] [2] (by decide) (by decide) (by decide) rfl rfl rfl hl.1 (Nat.le_of_ble_eq_true rfl) dX11_readPilgrim_81 ⟨Nat.zero_le _, Nat.zero_le _⟩ rfl (fun H locs hP hD hS => ?_)
        have hP : va_P (dC, dI) zz_cls [(ad 5, .inl (dA 0, 994, .inl a47)), zr_o ad f_thrown f_taped v49 v50 f_size v51 v52 v45 v46 f_faultKind f_faultPlace f_reading f_toldWhy f_x f_standMany f_bestMany f_tail f_round1, (ad 4, .inl (dA 0, 900, .inl b_tape))] H := hP
        have hD : va_D A [(ad 5, .inl (dA 0, 994, .inl a47)), zr_o ad f_thrown f_taped v49 v50 f_size v51 v52 v45 v46 f_faultKind f_faultPlace f_reading f_toldWhy f_x f_standMany f_bestMany f_tail f_round1, (ad 4, .inl (dA 0, 900, .inl b_tape))] := hD
        refine lv_if_eq (tgt := 104) (pc := 84) hx hb dX11_readPilgrim_84 rfl (fun hc => ?_) (fun hc => ?_)
        · have hf := za_t hf hc
          obtain rfl := Option.some.inj hf
          obtain ⟨rfl, rfl, rfl, rfl, rfl, rfl, rfl, rfl⟩ := zp_8 (ex (show ¬ (1 : Nat) = 0 by decide))
          exact E104 _ _ _ ⟨lv_sub hl [] rfl, hP.sub [1, 2, 0] rfl, hD.sub [1, 2, 0] (by decide) rfl, hS⟩
        · have hf := za_f hf hc
          refine lv_aload_n (pc := 87) hx hb dX11_readPilgrim_87 rfl (lv_at hl 0 rfl) ?_
          refine va_get (pc := 88) (D := (dC, dI)) (ci := 0) (v := .ref (ad 5)) (C := RX11) (T := TX11) (N := 42) hx hb ht zb_lay hown hK hP 1 rfl rfl 4 (by decide) (ht _ (zb_l zr_10)) (fun _ h9 => h9) rfl dX11_readPilgrim_88 ?_
          refine lv_bipush (v := (38 : Int32)) (pc := 91) hx hb dX11_readPilgrim_91 (by decide) ?_
          refine lv_dup2_11 (pc := 93) hx hb dX11_readPilgrim_93 rfl rfl ?_
          obtain ⟨v53, hv53, hf⟩ := zc_1 hf
          refine zw_iald (pc := 94) hx hb hK hP 0 0 rfl rfl hv53 dX11_readPilgrim_94 ?_
          refine lv_aload_n (pc := 95) hx hb dX11_readPilgrim_95 rfl (lv_at hl 0 rfl) ?_
          obtain ⟨v54, v55, v56, v57, v58, v59, v60, hv54, hf⟩ := zc_7 hf
          refine zx_Vi (pc := 96) (wc := [zr_o ad f_thrown f_taped v49 v50 f_size v51 v52 v45 v46 f_faultKind f_faultPlace f_reading f_toldWhy f_x f_standMany f_bestMany f_tail f_round1, (ad 4, .inl (dA 0, 900, .inl b_tape)), (ad 5, .inl (dA 0, 994, .inl a47))]) (wr := []) (w1 := [zr_o ad f_thrown f_taped v55 v56 f_size v57 v58 v59 v60 f_faultKind f_faultPlace f_reading f_toldWhy f_x f_standMany f_bestMany f_tail f_round1, (ad 4, .inl (dA 0, 900, .inl b_tape)), (ad 5, .inl (dA 0, 994, .inl a47))]) (As := []) (rest := [.int v53, .int (38 : Int32), .ref (ad 5)]) ⟨hx, hb, hml, hown, ht⟩ (zt_X11_readThing l dC dI dA ad adK adV _ n f_thrown f_taped v49 v50 f_size v51 v52 v45 v46 f_faultKind f_faultPlace f_reading f_toldWhy f_x f_standMany f_bestMany f_tail f_round1 b_tape a47 v54 v55 v56 v57 v58 v59 v60 hv54) (cwV 0 ht (zb_V (fun _ h => zb_i h) (zb_l zr_176) (zb_l zr_177) (zb_l zr_178) (zb_l zr_36) (zb_l zr_175)) rfl rfl rfl zk_X11_readThing ⟨Nat.le_of_ble_eq_true rfl, Nat.le_of_ble_eq_true rfl⟩) rfl rfl hZ hK hP hD hS hA [1, 2, 0] [] (by decide) (by decide) (by decide) rfl rfl rfl hl.1 (Nat.le_of_ble_eq_true rfl) dX11_readPilgrim_96 ⟨Nat.zero_le _, Nat.zero_le _⟩ rfl (fun H locs hP hD hS => ?_)
          have hP : va_P (dC, dI) zz_cls [zr_o ad f_thrown f_taped v55 v56 f_size v57 v58 v59 v60 f_faultKind f_faultPlace f_reading f_toldWhy f_x f_standMany f_bestMany f_tail f_round1, (ad 4, .inl (dA 0, 900, .inl b_tape)), (ad 5, .inl (dA 0, 994, .inl a47))] H := hP
          have hD : va_D A [zr_o ad f_thrown f_taped v55 v56 f_size v57 v58 v59 v60 f_faultKind f_faultPlace f_reading f_toldWhy f_x f_standMany f_bestMany f_tail f_round1, (ad 4, .inl (dA 0, 900, .inl b_tape)), (ad 5, .inl (dA 0, 994, .inl a47))] := hD
          refine lv_ior (pc := 99) hx hb dX11_readPilgrim_99 ?_
          obtain ⟨a61, ha61, hf⟩ := zc_1 hf
          refine zw_iast (pc := 100) hx hb hK hP hD hS 2 0 rfl rfl ha61 dX11_readPilgrim_100 (fun H locs hP hD hS => ?_)
          have hP : va_P (dC, dI) zz_cls [zr_o ad f_thrown f_taped v55 v56 f_size v57 v58 v59 v60 f_faultKind f_faultPlace f_reading f_toldWhy f_x f_standMany f_bestMany f_tail f_round1, (ad 4, .inl (dA 0, 900, .inl b_tape)), (ad 5, .inl (dA 0, 994, .inl a61))] H := hP
          have hD : va_D A [zr_o ad f_thrown f_taped v55 v56 f_size v57 v58 v59 v60 f_faultKind f_faultPlace f_reading f_toldWhy f_x f_standMany f_bestMany f_tail f_round1, (ad 4, .inl (dA 0, 900, .inl b_tape)), (ad 5, .inl (dA 0, 994, .inl a61))] := hD
          refine lv_goto (tgt := 71) (pc := 101) hx hb dX11_readPilgrim_101 rfl ?_
          obtain rfl := Option.some.inj hf
          exact ih rfl _ _ _ ⟨lv_sub hl [0] rfl, hP, hD, hS⟩
    · clear hf
      have hf := hj
      clear hj
      refine lv_if_ne (tgt := 50) (pc := 42) hx hb dX11_readPilgrim_42 rfl (fun hc => ?_) (fun hc => ?_)
      · have hf := za_f hf hc
        obtain ⟨rfl, rfl⟩ := zi_2 hf
        exact J50 _ _ _ ⟨lv_sub hl [0] rfl, hP.sub [1, 2, 0] rfl, hD.sub [1, 2, 0] (by decide) rfl, hS⟩
      · have hf := za_t hf hc
        refine lv_aload_n (pc := 45) hx hb dX11_readPilgrim_45 rfl (lv_at hl 0 rfl) ?_
        refine lv_iconst (v := (2 : Int32)) (pc := 46) hx hb dX11_readPilgrim_46 (by decide) ?_
        obtain ⟨v28, v29, hv28, hf⟩ := zc_2 hf
        refine zw_Vv (pc := 47) (wc := [zr_o ad f_thrown f_taped v24 v25 f_size v26 v27 v20 v21 f_faultKind f_faultPlace f_reading f_toldWhy f_x f_standMany f_bestMany f_tail f_round1]) (wr := [(ad 5, .inl (dA 0, 994, .inl a22)), (ad 4, .inl (dA 0, 900, .inl b_tape))]) (w1 := [zr_o ad f_thrown f_taped v24 v25 f_size v26 v27 v28 v29 f_faultKind f_faultPlace f_reading f_toldWhy f_x f_standMany f_bestMany f_tail f_round1]) (As := [.int (2 : Int32)]) (rest := []) ⟨hx, hb, hml, hown, ht⟩ (zt_X11_fails l dC dI dA ad _ f_thrown f_taped v24 v25 f_size v26 v27 v20 v21 f_faultKind f_faultPlace f_reading f_toldWhy f_x f_standMany f_bestMany f_tail f_round1 (2 : Int32) v28 v29 hv28) (cwV 1 ht (zb_V (fun _ h => zb_l h) (zb_l zr_121) (zb_l zr_122) (zb_l zr_123) (zb_l zr_36) (zb_l zr_110)) rfl rfl rfl zk_X11_fails ⟨Nat.le_of_ble_eq_true rfl, Nat.le_of_ble_eq_true rfl⟩) rfl rfl hK hP hD hS hA [1] [0, 2] (by decide) (by decide) (by decide) rfl rfl rfl hl.1 (Nat.le_of_ble_eq_true rfl) dX11_readPilgrim_47 ⟨Nat.zero_le _, Nat.zero_le _⟩ rfl (fun H locs hP hD hS => ?_)
        have hP : va_P (dC, dI) zz_cls [(ad 5, .inl (dA 0, 994, .inl a22)), (ad 4, .inl (dA 0, 900, .inl b_tape)), zr_o ad f_thrown f_taped v24 v25 f_size v26 v27 v28 v29 f_faultKind f_faultPlace f_reading f_toldWhy f_x f_standMany f_bestMany f_tail f_round1] H := hP
        have hD : va_D A [(ad 5, .inl (dA 0, 994, .inl a22)), (ad 4, .inl (dA 0, 900, .inl b_tape)), zr_o ad f_thrown f_taped v24 v25 f_size v26 v27 v28 v29 f_faultKind f_faultPlace f_reading f_toldWhy f_x f_standMany f_bestMany f_tail f_round1] := hD
        obtain ⟨rfl, rfl⟩ := zi_2 hf
        exact J50 _ _ _ ⟨lv_sub hl [0] rfl, hP.sub [2, 1, 0] rfl, hD.sub [2, 1, 0] (by decide) rfl, hS⟩
  · clear hf
    have hf := hj
    clear hj
    refine lv_if_ne (tgt := 18) (pc := 10) hx hb dX11_readPilgrim_10 rfl (fun hc => ?_) (fun hc => ?_)
    · have hf := za_f hf hc
      obtain ⟨rfl, rfl⟩ := zi_2 hf
      exact J18 _ _ _ ⟨lv_sub hl [0] rfl, hP.sub [1, 2, 0] rfl, hD.sub [1, 2, 0] (by decide) rfl, hS⟩
    · have hf := za_t hf hc
      refine lv_aload_n (pc := 13) hx hb dX11_readPilgrim_13 rfl (lv_at hl 0 rfl) ?_
      refine lv_iconst (v := (2 : Int32)) (pc := 14) hx hb dX11_readPilgrim_14 (by decide) ?_
      obtain ⟨v10, v11, hv10, hf⟩ := zc_2 hf
      refine zw_Vv (pc := 15) (wc := [zr_o ad f_thrown f_taped v6 v7 f_size v8 v9 f_wrong f_wrongAt f_faultKind f_faultPlace f_reading f_toldWhy f_x f_standMany f_bestMany f_tail f_round1]) (wr := [(ad 5, .inl (dA 0, 994, .inl b_fresh)), (ad 4, .inl (dA 0, 900, .inl b_tape))]) (w1 := [zr_o ad f_thrown f_taped v6 v7 f_size v8 v9 v10 v11 f_faultKind f_faultPlace f_reading f_toldWhy f_x f_standMany f_bestMany f_tail f_round1]) (As := [.int (2 : Int32)]) (rest := []) ⟨hx, hb, hml, hown, ht⟩ (zt_X11_fails l dC dI dA ad _ f_thrown f_taped v6 v7 f_size v8 v9 f_wrong f_wrongAt f_faultKind f_faultPlace f_reading f_toldWhy f_x f_standMany f_bestMany f_tail f_round1 (2 : Int32) v10 v11 hv10) (cwV 1 ht (zb_V (fun _ h => zb_l h) (zb_l zr_121) (zb_l zr_122) (zb_l zr_123) (zb_l zr_36) (zb_l zr_110)) rfl rfl rfl zk_X11_fails ⟨Nat.le_of_ble_eq_true rfl, Nat.le_of_ble_eq_true rfl⟩) rfl rfl hK hP hD hS hA [1] [0, 2] (by decide) (by decide) (by decide) rfl rfl rfl hl.1 (Nat.le_of_ble_eq_true rfl) dX11_readPilgrim_15 ⟨Nat.zero_le _, Nat.zero_le _⟩ rfl (fun H locs hP hD hS => ?_)
      have hP : va_P (dC, dI) zz_cls [(ad 5, .inl (dA 0, 994, .inl b_fresh)), (ad 4, .inl (dA 0, 900, .inl b_tape)), zr_o ad f_thrown f_taped v6 v7 f_size v8 v9 v10 v11 f_faultKind f_faultPlace f_reading f_toldWhy f_x f_standMany f_bestMany f_tail f_round1] H := hP
      have hD : va_D A [(ad 5, .inl (dA 0, 994, .inl b_fresh)), (ad 4, .inl (dA 0, 900, .inl b_tape)), zr_o ad f_thrown f_taped v6 v7 f_size v8 v9 v10 v11 f_faultKind f_faultPlace f_reading f_toldWhy f_x f_standMany f_bestMany f_tail f_round1] := hD
      obtain ⟨rfl, rfl⟩ := zi_2 hf
      exact J18 _ _ _ ⟨lv_sub hl [0] rfl, hP.sub [2, 1, 0] rfl, hD.sub [2, 1, 0] (by decide) rfl, hS⟩

def zf_X11_readLaw (n : Nat) (f_at : Int32) (f_behind : Int32) (f_size : Int32) (f_kind : Int32) (f_number : Int32) (f_wrong : Int32) (f_wrongAt : Int32) (f_reading : Int32) (b_tape : (Nat → Int32)) (b_fresh : (Nat → Int32)) (p1 : Int32) : Option (Int32 × Int32 × Int32 × Int32 × Int32 × Int32 × Int32 × (Nat → Int32)) :=
  zd_4 (zf_X11_next n f_at f_behind f_size f_kind f_number b_tape) (fun v1 v2 v3 v4 =>
  zd_5 (zf_X11_eats n v1 v2 f_size v3 v4 f_wrong b_tape (31 : Int32)) (fun v5 v6 v7 v8 v9 =>
  zd_2 (
    if v5 = 0 then
      zd_2 (zf_X11_fails v6 v8 f_wrong f_wrongAt (2 : Int32)) (fun v10 v11 =>
      some (v10, v11))
    else
      some (f_wrong, f_wrongAt)) (fun v12 v13 =>
  zd_1 (za_ld b_fresh 994 (93 : Int32)) (fun v14 =>
  zd_7 (
    if p1 = 0 then
      zd_7 (zf_X11_readSum n v6 v7 f_size v8 v9 v12 v13 p1 b_tape b_fresh (0 : Int32)) (fun v15 v16 v17 v18 v19 v20 a21 =>
      some (v15, v16, v17, v18, v19, v20, a21))
    else
      zd_7 (zf_X11_readTruth n v6 v7 f_size v8 v9 v12 v13 p1 b_tape b_fresh (0 : Int32)) (fun v22 v23 v24 v25 v26 v27 a28 =>
      some (v22, v23, v24, v25, v26, v27, a28))) (fun v29 v30 v31 v32 v33 v34 a35 =>
  if v33 = 0 then
    zd_1 (za_st a35 994 ((4 : Int32) + p1) (1 : Int32)) (fun a36 =>
    zd_1 (za_st a36 994 ((6 : Int32) + p1) v14) (fun a37 =>
    zd_1 (za_ld a37 994 (93 : Int32)) (fun v38 =>
    zd_1 (za_st a37 994 ((8 : Int32) + p1) (v38 - v14)) (fun a39 =>
    some (v29, v30, v31, v32, v33, v34, p1, a39)))))
  else
    some (v29, v30, v31, v32, v33, v34, p1, a35))))))
theorem zk_X11_readLaw : yX11_readLaw.cls = RX11 ∧ yX11_readLaw.cls ≠ "java/lang/invoke/MethodHandle" ∧ yX11_readLaw.cls ≠ "java/lang/invoke/VarHandle" ∧ (parseMethodDescriptor yX11_readLaw.desc).map (fun d => d.parameters.length) = some 1 := by decide +kernel
set_option maxHeartbeats 4000000 in
set_option maxRecDepth 100000 in
theorem zt_X11_readLaw (l : Launch) (dC : Nat → ClassId) (dI : Nat → Nat → Nat) (dA : Nat → ClassId) (ad : Nat → Nat) (adK adV : Nat → Nat) (sz : Nat) (n : Nat) (f_thrown : Int32) (f_taped : Int32) (f_at : Int32) (f_behind : Int32) (f_size : Int32) (f_kind : Int32) (f_number : Int32) (f_wrong : Int32) (f_wrongAt : Int32) (f_faultKind : Int32) (f_faultPlace : Int32) (f_reading : Int32) (f_toldWhy : Int32) (f_x : Int32) (f_standMany : Int32) (f_bestMany : Int32) (f_tail : Int32) (f_round1 : Int32) (b_tape : (Nat → Int32)) (b_fresh : (Nat → Int32)) (p1 : Int32) (o1 : Int32) (o2 : Int32) (o3 : Int32) (o4 : Int32) (o5 : Int32) (o6 : Int32) (o7 : Int32) (o8 : (Nat → Int32)) (hf : zf_X11_readLaw n f_at f_behind f_size f_kind f_number f_wrong f_wrongAt f_reading b_tape b_fresh p1 = some (o1, o2, o3, o4, o5, o6, o7, o8)) : Met l yX11_readLaw (.code yX11_readLaw cX11_readLaw 3 none :: zb_T) ({ frames := 68, cells := 0, slots := 0, locals := 2572 }) (va_Pc [.ref (ad 0), .int p1] (zx_M dC dI dA adK adV [zr_o ad f_thrown f_taped f_at f_behind f_size f_kind f_number f_wrong f_wrongAt f_faultKind f_faultPlace f_reading f_toldWhy f_x f_standMany f_bestMany f_tail f_round1, (ad 4, .inl (dA 0, 900, .inl b_tape)), (ad 5, .inl (dA 0, 994, .inl b_fresh))] sz)) (va_Qv (fun _ : Unit => True) (fun _ t => zz_B dC dI dA (va_A [zr_o ad f_thrown f_taped f_at f_behind f_size f_kind f_number f_wrong f_wrongAt f_faultKind f_faultPlace f_reading f_toldWhy f_x f_standMany f_bestMany f_tail f_round1, (ad 4, .inl (dA 0, 900, .inl b_tape)), (ad 5, .inl (dA 0, 994, .inl b_fresh))] sz) [zr_o ad f_thrown f_taped o1 o2 f_size o3 o4 o5 o6 f_faultKind f_faultPlace o7 f_toldWhy f_x f_standMany f_bestMany f_tail f_round1, (ad 4, .inl (dA 0, 900, .inl b_tape)), (ad 5, .inl (dA 0, 994, .inl o8))] t) (va_A [zr_o ad f_thrown f_taped f_at f_behind f_size f_kind f_number f_wrong f_wrongAt f_faultKind f_faultPlace f_reading f_toldWhy f_x f_standMany f_bestMany f_tail f_round1, (ad 4, .inl (dA 0, 900, .inl b_tape)), (ad 5, .inl (dA 0, 994, .inl b_fresh))] sz)) 0 0 (va_A [zr_o ad f_thrown f_taped f_at f_behind f_size f_kind f_number f_wrong f_wrongAt f_faultKind f_faultPlace f_reading f_toldWhy f_x f_standMany f_bestMany f_tail f_round1, (ad 4, .inl (dA 0, 900, .inl b_tape)), (ad 5, .inl (dA 0, 994, .inl b_fresh))] sz) := by
  unfold zf_X11_readLaw at hf
  refine Met.ofW (cc := cX11_readLaw) (maxL := 3) (ret := none) (by decide) rfl ?_
  intro p e s m args below meth c s₁ B hml hv
  obtain ⟨rfl, ⟨hsz, hP, hK, hD0⟩, hZ⟩ := hv
  have hx := B.exec
  have hb := B.bytes
  have hr := B.returns
  have ht : ∀ w ∈ zb_T, w.before ([.ref (ad 0), .int p1] : List Value).toArray s = true := fun w hw => atoms_spec (ws := .code yX11_readLaw cX11_readLaw 3 none :: zb_T) B.pre w (List.mem_cons_of_mem _ hw)
  have hown : s.vm.findClass RX11 = some m.cls := findClass_of_methodNamed B.named
  have hlocks := B.notSynchronized
  subst hsz
  have hD := hD0.self (sz := s.heap.size)
  generalize hAe : va_A [zr_o ad f_thrown f_taped f_at f_behind f_size f_kind f_number f_wrong f_wrongAt f_faultKind f_faultPlace f_reading f_toldWhy f_x f_standMany f_bestMany f_tail f_round1, (ad 4, .inl (dA 0, 900, .inl b_tape)), (ad 5, .inl (dA 0, 994, .inl b_fresh))] s.heap.size = A at hD hZ ⊢
  have hA : ∀ q : Nat, s.heap.size ≤ q → A q := fun q h => by rw [← hAe]; exact Or.inr h
  clear hAe hD0
  have hS : va_S A s.heap s.heap [] := va_S.rf
  have hl := lv_entry ([.ref (ad 0), .int p1]) (n := 3) (Nat.le_of_ble_eq_true rfl)
  rw [lg_entry_eq]
  generalize (lg_sl ([.ref (ad 0), .int p1]) ++ List.replicate (3 - (lg_sl ([.ref (ad 0), .int p1])).length) Slot.unset).toArray = ls at hl ⊢
  have hl : lv_has ls 3 [(0, .ref (ad 0)), (1, .int p1)] := hl
  refine lv_aload_n (pc := 0) hx hb dX11_readLaw_0 rfl (lv_at hl 0 rfl) ?_
  obtain ⟨v1, v2, v3, v4, hv1, hf⟩ := zc_4 hf
  refine zx_Vv (pc := 1) (wc := [zr_o ad f_thrown f_taped f_at f_behind f_size f_kind f_number f_wrong f_wrongAt f_faultKind f_faultPlace f_reading f_toldWhy f_x f_standMany f_bestMany f_tail f_round1, (ad 4, .inl (dA 0, 900, .inl b_tape))]) (wr := [(ad 5, .inl (dA 0, 994, .inl b_fresh))]) (w1 := [zr_o ad f_thrown f_taped v1 v2 f_size v3 v4 f_wrong f_wrongAt f_faultKind f_faultPlace f_reading f_toldWhy f_x f_standMany f_bestMany f_tail f_round1, (ad 4, .inl (dA 0, 900, .inl b_tape))]) (As := []) (rest := []) ⟨hx, hb, hml, hown, ht⟩ (zt_X11_next l dC dI dA ad adK adV _ n f_thrown f_taped f_at f_behind f_size f_kind f_number f_wrong f_wrongAt f_faultKind f_faultPlace f_reading f_toldWhy f_x f_standMany f_bestMany f_tail f_round1 b_tape v1 v2 v3 v4 hv1) (cwV 0 ht (zb_V (fun _ h => zb_i h) (zb_l zr_117) (zb_l zr_118) (zb_l zr_119) (zb_l zr_36) (zb_l zr_109)) rfl rfl rfl zk_X11_next ⟨Nat.le_of_ble_eq_true rfl, Nat.le_of_ble_eq_true rfl⟩) rfl rfl hZ hK hP hD hS hA [0, 1] [2] (by decide) (by decide) (by decide) rfl rfl rfl hl.1 (Nat.le_of_ble_eq_true rfl) dX11_readLaw_1 ⟨Nat.zero_le _, Nat.zero_le _⟩ rfl (fun H locs hP hD hS => ?_)
  have hP : va_P (dC, dI) zz_cls [(ad 5, .inl (dA 0, 994, .inl b_fresh)), zr_o ad f_thrown f_taped v1 v2 f_size v3 v4 f_wrong f_wrongAt f_faultKind f_faultPlace f_reading f_toldWhy f_x f_standMany f_bestMany f_tail f_round1, (ad 4, .inl (dA 0, 900, .inl b_tape))] H := hP
  have hD : va_D A [(ad 5, .inl (dA 0, 994, .inl b_fresh)), zr_o ad f_thrown f_taped v1 v2 f_size v3 v4 f_wrong f_wrongAt f_faultKind f_faultPlace f_reading f_toldWhy f_x f_standMany f_bestMany f_tail f_round1, (ad 4, .inl (dA 0, 900, .inl b_tape))] := hD
  refine lv_aload_n (pc := 4) hx hb dX11_readLaw_4 rfl (lv_at hl 0 rfl) ?_
  refine lv_bipush (v := (31 : Int32)) (pc := 5) hx hb dX11_readLaw_5 (by decide) ?_
  obtain ⟨v5, v6, v7, v8, v9, hv5, hf⟩ := zc_5 hf
  refine zx_Vi (pc := 7) (wc := [zr_o ad f_thrown f_taped v1 v2 f_size v3 v4 f_wrong f_wrongAt f_faultKind f_faultPlace f_reading f_toldWhy f_x f_standMany f_bestMany f_tail f_round1, (ad 4, .inl (dA 0, 900, .inl b_tape))]) (wr := [(ad 5, .inl (dA 0, 994, .inl b_fresh))]) (w1 := [zr_o ad f_thrown f_taped v6 v7 f_size v8 v9 f_wrong f_wrongAt f_faultKind f_faultPlace f_reading f_toldWhy f_x f_standMany f_bestMany f_tail f_round1, (ad 4, .inl (dA 0, 900, .inl b_tape))]) (As := [.int (31 : Int32)]) (rest := []) ⟨hx, hb, hml, hown, ht⟩ (zt_X11_eats l dC dI dA ad adK adV _ n f_thrown f_taped v1 v2 f_size v3 v4 f_wrong f_wrongAt f_faultKind f_faultPlace f_reading f_toldWhy f_x f_standMany f_bestMany f_tail f_round1 b_tape (31 : Int32) v5 v6 v7 v8 v9 hv5) (cwV 1 ht (zb_V (fun _ h => zb_i h) (zb_l zr_144) (zb_l zr_145) (zb_l zr_146) (zb_l zr_36) (zb_l zr_120)) rfl rfl rfl zk_X11_eats ⟨Nat.le_of_ble_eq_true rfl, Nat.le_of_ble_eq_true rfl⟩) rfl rfl hZ hK hP hD hS hA [1, 2] [0] (by decide) (by decide) (by decide) rfl rfl rfl hl.1 (Nat.le_of_ble_eq_true rfl) dX11_readLaw_7 ⟨Nat.zero_le _, Nat.zero_le _⟩ rfl (fun H locs hP hD hS => ?_)
  have hP : va_P (dC, dI) zz_cls [(ad 5, .inl (dA 0, 994, .inl b_fresh)), zr_o ad f_thrown f_taped v6 v7 f_size v8 v9 f_wrong f_wrongAt f_faultKind f_faultPlace f_reading f_toldWhy f_x f_standMany f_bestMany f_tail f_round1, (ad 4, .inl (dA 0, 900, .inl b_tape))] H := hP
  have hD : va_D A [(ad 5, .inl (dA 0, 994, .inl b_fresh)), zr_o ad f_thrown f_taped v6 v7 f_size v8 v9 f_wrong f_wrongAt f_faultKind f_faultPlace f_reading f_toldWhy f_x f_standMany f_bestMany f_tail f_round1, (ad 4, .inl (dA 0, 900, .inl b_tape))] := hD
  obtain ⟨v12, v13, hj, hf⟩ := zc_2 hf
  refine zj_join (pcJ := 18) (stk := []) (X := fun H locs ls => lv_has ls 3 [(0, .ref (ad 0)), (1, .int p1)] ∧ va_P (dC, dI) zz_cls [zr_o ad f_thrown f_taped v6 v7 f_size v8 v9 v12 v13 f_faultKind f_faultPlace f_reading f_toldWhy f_x f_standMany f_bestMany f_tail f_round1, (ad 4, .inl (dA 0, 900, .inl b_tape)), (ad 5, .inl (dA 0, 994, .inl b_fresh))] H ∧ va_D A [zr_o ad f_thrown f_taped v6 v7 f_size v8 v9 v12 v13 f_faultKind f_faultPlace f_reading f_toldWhy f_x f_standMany f_bestMany f_tail f_round1, (ad 4, .inl (dA 0, 900, .inl b_tape)), (ad 5, .inl (dA 0, 994, .inl b_fresh))] ∧ va_S A s.heap H locs) (fun H locs ls hX => ?_) (fun J18 => ?_)
  · obtain ⟨hl, hP, hD, hS⟩ := hX
    clear hj
    refine lv_aload_n (pc := 18) hx hb dX11_readLaw_18 rfl (lv_at hl 0 rfl) ?_
    refine va_get (pc := 19) (D := (dC, dI)) (ci := 0) (v := .ref (ad 5)) (C := RX11) (T := TX11) (N := 42) hx hb ht zb_lay hown hK hP 0 rfl rfl 4 (by decide) (ht _ (zb_l zr_10)) (fun _ h9 => h9) rfl dX11_readLaw_19 ?_
    refine lv_bipush (v := (93 : Int32)) (pc := 22) hx hb dX11_readLaw_22 (by decide) ?_
    obtain ⟨v14, hv14, hf⟩ := zc_1 hf
    refine zw_iald (pc := 24) hx hb hK hP 2 0 rfl rfl hv14 dX11_readLaw_24 ?_
    refine lv_istore_n (lv' := [(2, .int v14), (0, .ref (ad 0)), (1, .int p1)]) (pc := 25) hx hb dX11_readLaw_25 rfl hl (by decide) rfl (fun ls hl => ?_)
    refine lv_aload_n (pc := 26) hx hb dX11_readLaw_26 rfl (lv_at hl 1 rfl) ?_
    refine lv_iload_n (pc := 27) hx hb dX11_readLaw_27 rfl (lv_at hl 2 rfl) ?_
    refine va_put (pc := 28) (D := (dC, dI)) (ci := 0) (v := .int p1) (ty := .int) (C := RX11) (T := TX11) (N := 42) hx hb ht zb_lay tyX11 tyX11_ok nmX11 hown hK hP hD hS 0 rfl rfl 15 (by decide) (ht _ (zb_l zr_129)) (fun _ h9 => h9) rfl (by decide +kernel) rfl rfl (Nat.le_of_ble_eq_true rfl) dX11_readLaw_28 (fun H locs hP hD hS => ?_)
    have hP : va_P (dC, dI) zz_cls [zr_o ad f_thrown f_taped v6 v7 f_size v8 v9 v12 v13 f_faultKind f_faultPlace p1 f_toldWhy f_x f_standMany f_bestMany f_tail f_round1, (ad 4, .inl (dA 0, 900, .inl b_tape)), (ad 5, .inl (dA 0, 994, .inl b_fresh))] H := hP
    have hD : va_D A [zr_o ad f_thrown f_taped v6 v7 f_size v8 v9 v12 v13 f_faultKind f_faultPlace p1 f_toldWhy f_x f_standMany f_bestMany f_tail f_round1, (ad 4, .inl (dA 0, 900, .inl b_tape)), (ad 5, .inl (dA 0, 994, .inl b_fresh))] := hD
    refine lv_iload_n (pc := 31) hx hb dX11_readLaw_31 rfl (lv_at hl 2 rfl) ?_
    obtain ⟨v29, v30, v31, v32, v33, v34, a35, hj, hf⟩ := zc_7 hf
    refine zj_join (pcJ := 48) (stk := []) (X := fun H locs ls => lv_has ls 3 [(0, .ref (ad 0)), (1, .int p1), (2, .int v14)] ∧ va_P (dC, dI) zz_cls [zr_o ad f_thrown f_taped v29 v30 f_size v31 v32 v33 v34 f_faultKind f_faultPlace p1 f_toldWhy f_x f_standMany f_bestMany f_tail f_round1, (ad 4, .inl (dA 0, 900, .inl b_tape)), (ad 5, .inl (dA 0, 994, .inl a35))] H ∧ va_D A [zr_o ad f_thrown f_taped v29 v30 f_size v31 v32 v33 v34 f_faultKind f_faultPlace p1 f_toldWhy f_x f_standMany f_bestMany f_tail f_round1, (ad 4, .inl (dA 0, 900, .inl b_tape)), (ad 5, .inl (dA 0, 994, .inl a35))] ∧ va_S A s.heap H locs) (fun H locs ls hX => ?_) (fun J48 => ?_)
    · obtain ⟨hl, hP, hD, hS⟩ := hX
      clear hj
      refine lv_aload_n (pc := 48) hx hb dX11_readLaw_48 rfl (lv_at hl 0 rfl) ?_
      refine va_get (pc := 49) (D := (dC, dI)) (ci := 0) (v := .int v33) (C := RX11) (T := TX11) (N := 42) hx hb ht zb_lay hown hK hP 0 rfl rfl 11 (by decide) (ht _ (zb_l zr_111)) (fun _ h9 => h9) rfl dX11_readLaw_49 ?_
      refine lv_if_eq (tgt := 56) (pc := 52) hx hb dX11_readLaw_52 rfl (fun hc => ?_) (fun hc => ?_)
      · have hf := za_t hf hc
        refine lv_aload_n (pc := 56) hx hb dX11_readLaw_56 rfl (lv_at hl 0 rfl) ?_
        refine va_get (pc := 57) (D := (dC, dI)) (ci := 0) (v := .ref (ad 5)) (C := RX11) (T := TX11) (N := 42) hx hb ht zb_lay hown hK hP 0 rfl rfl 4 (by decide) (ht _ (zb_l zr_10)) (fun _ h9 => h9) rfl dX11_readLaw_57 ?_
        refine lv_iconst (v := (4 : Int32)) (pc := 60) hx hb dX11_readLaw_60 (by decide) ?_
        refine lv_iload_n (pc := 61) hx hb dX11_readLaw_61 rfl (lv_at hl 1 rfl) ?_
        refine lv_iadd (pc := 62) hx hb dX11_readLaw_62 ?_
        refine lv_iconst (v := (1 : Int32)) (pc := 63) hx hb dX11_readLaw_63 (by decide) ?_
        obtain ⟨a36, ha36, hf⟩ := zc_1 hf
        refine zw_iast (pc := 64) hx hb hK hP hD hS 2 0 rfl rfl ha36 dX11_readLaw_64 (fun H locs hP hD hS => ?_)
        have hP : va_P (dC, dI) zz_cls [zr_o ad f_thrown f_taped v29 v30 f_size v31 v32 v33 v34 f_faultKind f_faultPlace p1 f_toldWhy f_x f_standMany f_bestMany f_tail f_round1, (ad 4, .inl (dA 0, 900, .inl b_tape)), (ad 5, .inl (dA 0, 994, .inl a36))] H := hP
        have hD : va_D A [zr_o ad f_thrown f_taped v29 v30 f_size v31 v32 v33 v34 f_faultKind f_faultPlace p1 f_toldWhy f_x f_standMany f_bestMany f_tail f_round1, (ad 4, .inl (dA 0, 900, .inl b_tape)), (ad 5, .inl (dA 0, 994, .inl a36))] := hD
        refine lv_aload_n (pc := 65) hx hb dX11_readLaw_65 rfl (lv_at hl 0 rfl) ?_
        refine va_get (pc := 66) (D := (dC, dI)) (ci := 0) (v := .ref (ad 5)) (C := RX11) (T := TX11) (N := 42) hx hb ht zb_lay hown hK hP 0 rfl rfl 4 (by decide) (ht _ (zb_l zr_10)) (fun _ h9 => h9) rfl dX11_readLaw_66 ?_
        refine lv_bipush (v := (6 : Int32)) (pc := 69) hx hb dX11_readLaw_69 (by decide) ?_
        refine lv_iload_n (pc := 71) hx hb dX11_readLaw_71 rfl (lv_at hl 1 rfl) ?_
        refine lv_iadd (pc := 72) hx hb dX11_readLaw_72 ?_
        refine lv_iload_n (pc := 73) hx hb dX11_readLaw_73 rfl (lv_at hl 2 rfl) ?_
        obtain ⟨a37, ha37, hf⟩ := zc_1 hf
        refine zw_iast (pc := 74) hx hb hK hP hD hS 2 0 rfl rfl ha37 dX11_readLaw_74 (fun H locs hP hD hS => ?_)
        have hP : va_P (dC, dI) zz_cls [zr_o ad f_thrown f_taped v29 v30 f_size v31 v32 v33 v34 f_faultKind f_faultPlace p1 f_toldWhy f_x f_standMany f_bestMany f_tail f_round1, (ad 4, .inl (dA 0, 900, .inl b_tape)), (ad 5, .inl (dA 0, 994, .inl a37))] H := hP
        have hD : va_D A [zr_o ad f_thrown f_taped v29 v30 f_size v31 v32 v33 v34 f_faultKind f_faultPlace p1 f_toldWhy f_x f_standMany f_bestMany f_tail f_round1, (ad 4, .inl (dA 0, 900, .inl b_tape)), (ad 5, .inl (dA 0, 994, .inl a37))] := hD
        refine lv_aload_n (pc := 75) hx hb dX11_readLaw_75 rfl (lv_at hl 0 rfl) ?_
        refine va_get (pc := 76) (D := (dC, dI)) (ci := 0) (v := .ref (ad 5)) (C := RX11) (T := TX11) (N := 42) hx hb ht zb_lay hown hK hP 0 rfl rfl 4 (by decide) (ht _ (zb_l zr_10)) (fun _ h9 => h9) rfl dX11_readLaw_76 ?_
        refine lv_bipush (v := (8 : Int32)) (pc := 79) hx hb dX11_readLaw_79 (by decide) ?_
        refine lv_iload_n (pc := 81) hx hb dX11_readLaw_81 rfl (lv_at hl 1 rfl) ?_
        refine lv_iadd (pc := 82) hx hb dX11_readLaw_82 ?_
        refine lv_aload_n (pc := 83) hx hb dX11_readLaw_83 rfl (lv_at hl 0 rfl) ?_
        refine va_get (pc := 84) (D := (dC, dI)) (ci := 0) (v := .ref (ad 5)) (C := RX11) (T := TX11) (N := 42) hx hb ht zb_lay hown hK hP 0 rfl rfl 4 (by decide) (ht _ (zb_l zr_10)) (fun _ h9 => h9) rfl dX11_readLaw_84 ?_
        refine lv_bipush (v := (93 : Int32)) (pc := 87) hx hb dX11_readLaw_87 (by decide) ?_
        obtain ⟨v38, hv38, hf⟩ := zc_1 hf
        refine zw_iald (pc := 89) hx hb hK hP 2 0 rfl rfl hv38 dX11_readLaw_89 ?_
        refine lv_iload_n (pc := 90) hx hb dX11_readLaw_90 rfl (lv_at hl 2 rfl) ?_
        refine lv_isub (pc := 91) hx hb dX11_readLaw_91 ?_
        obtain ⟨a39, ha39, hf⟩ := zc_1 hf
        refine zw_iast (pc := 92) hx hb hK hP hD hS 2 0 rfl rfl ha39 dX11_readLaw_92 (fun H locs hP hD hS => ?_)
        have hP : va_P (dC, dI) zz_cls [zr_o ad f_thrown f_taped v29 v30 f_size v31 v32 v33 v34 f_faultKind f_faultPlace p1 f_toldWhy f_x f_standMany f_bestMany f_tail f_round1, (ad 4, .inl (dA 0, 900, .inl b_tape)), (ad 5, .inl (dA 0, 994, .inl a39))] H := hP
        have hD : va_D A [zr_o ad f_thrown f_taped v29 v30 f_size v31 v32 v33 v34 f_faultKind f_faultPlace p1 f_toldWhy f_x f_standMany f_bestMany f_tail f_round1, (ad 4, .inl (dA 0, 900, .inl b_tape)), (ad 5, .inl (dA 0, 994, .inl a39))] := hD
        obtain ⟨rfl, rfl, rfl, rfl, rfl, rfl, rfl, rfl⟩ := zi_8 hf
        exact W.vret (pc := 93) hx hb hr (fun t ht hW => ⟨⟨(), rfl, trivial, zz_Bi (by rw [ht]; exact hP) (va_K.moved hW.alike hK) (hD)⟩, hS.F ht⟩) hS.2.2 dX11_readLaw_93
      · have hf := za_f hf hc
        obtain ⟨rfl, rfl, rfl, rfl, rfl, rfl, rfl, rfl⟩ := zi_8 hf
        exact W.vret (pc := 55) hx hb hr (fun t ht hW => ⟨⟨(), rfl, trivial, zz_Bi (by rw [ht]; exact hP) (va_K.moved hW.alike hK) (hD)⟩, hS.F ht⟩) hS.2.2 dX11_readLaw_55
    · clear hf
      have hf := hj
      clear hj
      refine lv_if_ne (tgt := 43) (pc := 32) hx hb dX11_readLaw_32 rfl (fun hc => ?_) (fun hc => ?_)
      · have hf := za_f hf hc
        refine lv_aload_n (pc := 43) hx hb dX11_readLaw_43 rfl (lv_at hl 1 rfl) ?_
        refine lv_iconst (v := (0 : Int32)) (pc := 44) hx hb dX11_readLaw_44 (by decide) ?_
        obtain ⟨v22, v23, v24, v25, v26, v27, a28, hv22, hf⟩ := zc_7 hf
        refine zx_Vv (pc := 45) (wc := [zr_o ad f_thrown f_taped v6 v7 f_size v8 v9 v12 v13 f_faultKind f_faultPlace p1 f_toldWhy f_x f_standMany f_bestMany f_tail f_round1, (ad 4, .inl (dA 0, 900, .inl b_tape)), (ad 5, .inl (dA 0, 994, .inl b_fresh))]) (wr := []) (w1 := [zr_o ad f_thrown f_taped v22 v23 f_size v24 v25 v26 v27 f_faultKind f_faultPlace p1 f_toldWhy f_x f_standMany f_bestMany f_tail f_round1, (ad 4, .inl (dA 0, 900, .inl b_tape)), (ad 5, .inl (dA 0, 994, .inl a28))]) (As := [.int (0 : Int32)]) (rest := []) ⟨hx, hb, hml, hown, ht⟩ (zt_X11_readTruth l dC dI dA ad adK adV _ n f_thrown f_taped v6 v7 f_size v8 v9 v12 v13 f_faultKind f_faultPlace p1 f_toldWhy f_x f_standMany f_bestMany f_tail f_round1 b_tape b_fresh (0 : Int32) v22 v23 v24 v25 v26 v27 a28 hv22) (cwV 1 ht (zb_V (fun _ h => zb_i h) (zb_l zr_155) (zb_l zr_156) (zb_l zr_157) (zb_l zr_36) (zb_l zr_166)) rfl rfl rfl zk_X11_readTruth ⟨Nat.le_of_ble_eq_true rfl, Nat.le_of_ble_eq_true rfl⟩) rfl rfl hZ hK hP hD hS hA [0, 1, 2] [] (by decide) (by decide) (by decide) rfl rfl rfl hl.1 (Nat.le_of_ble_eq_true rfl) dX11_readLaw_45 ⟨Nat.zero_le _, Nat.zero_le _⟩ rfl (fun H locs hP hD hS => ?_)
        have hP : va_P (dC, dI) zz_cls [zr_o ad f_thrown f_taped v22 v23 f_size v24 v25 v26 v27 f_faultKind f_faultPlace p1 f_toldWhy f_x f_standMany f_bestMany f_tail f_round1, (ad 4, .inl (dA 0, 900, .inl b_tape)), (ad 5, .inl (dA 0, 994, .inl a28))] H := hP
        have hD : va_D A [zr_o ad f_thrown f_taped v22 v23 f_size v24 v25 v26 v27 f_faultKind f_faultPlace p1 f_toldWhy f_x f_standMany f_bestMany f_tail f_round1, (ad 4, .inl (dA 0, 900, .inl b_tape)), (ad 5, .inl (dA 0, 994, .inl a28))] := hD
        obtain ⟨rfl, rfl, rfl, rfl, rfl, rfl, rfl⟩ := zi_7 hf
        exact J48 _ _ _ ⟨lv_sub hl [1, 2, 0] rfl, hP, hD, hS⟩
      · have hf := za_t hf hc
        refine lv_aload_n (pc := 35) hx hb dX11_readLaw_35 rfl (lv_at hl 1 rfl) ?_
        refine lv_iconst (v := (0 : Int32)) (pc := 36) hx hb dX11_readLaw_36 (by decide) ?_
        obtain ⟨v15, v16, v17, v18, v19, v20, a21, hv15, hf⟩ := zc_7 hf
        refine zx_Vv (pc := 37) (wc := [zr_o ad f_thrown f_taped v6 v7 f_size v8 v9 v12 v13 f_faultKind f_faultPlace p1 f_toldWhy f_x f_standMany f_bestMany f_tail f_round1, (ad 4, .inl (dA 0, 900, .inl b_tape)), (ad 5, .inl (dA 0, 994, .inl b_fresh))]) (wr := []) (w1 := [zr_o ad f_thrown f_taped v15 v16 f_size v17 v18 v19 v20 f_faultKind f_faultPlace p1 f_toldWhy f_x f_standMany f_bestMany f_tail f_round1, (ad 4, .inl (dA 0, 900, .inl b_tape)), (ad 5, .inl (dA 0, 994, .inl a21))]) (As := [.int (0 : Int32)]) (rest := []) ⟨hx, hb, hml, hown, ht⟩ (zt_X11_readSum l dC dI dA ad adK adV _ n f_thrown f_taped v6 v7 f_size v8 v9 v12 v13 f_faultKind f_faultPlace p1 f_toldWhy f_x f_standMany f_bestMany f_tail f_round1 b_tape b_fresh (0 : Int32) v15 v16 v17 v18 v19 v20 a21 hv15) (cwV 1 ht (zb_V (fun _ h => zb_i h) (zb_l zr_141) (zb_l zr_142) (zb_l zr_143) (zb_l zr_36) (zb_l zr_158)) rfl rfl rfl zk_X11_readSum ⟨Nat.le_of_ble_eq_true rfl, Nat.le_of_ble_eq_true rfl⟩) rfl rfl hZ hK hP hD hS hA [0, 1, 2] [] (by decide) (by decide) (by decide) rfl rfl rfl hl.1 (Nat.le_of_ble_eq_true rfl) dX11_readLaw_37 ⟨Nat.zero_le _, Nat.zero_le _⟩ rfl (fun H locs hP hD hS => ?_)
        have hP : va_P (dC, dI) zz_cls [zr_o ad f_thrown f_taped v15 v16 f_size v17 v18 v19 v20 f_faultKind f_faultPlace p1 f_toldWhy f_x f_standMany f_bestMany f_tail f_round1, (ad 4, .inl (dA 0, 900, .inl b_tape)), (ad 5, .inl (dA 0, 994, .inl a21))] H := hP
        have hD : va_D A [zr_o ad f_thrown f_taped v15 v16 f_size v17 v18 v19 v20 f_faultKind f_faultPlace p1 f_toldWhy f_x f_standMany f_bestMany f_tail f_round1, (ad 4, .inl (dA 0, 900, .inl b_tape)), (ad 5, .inl (dA 0, 994, .inl a21))] := hD
        refine lv_goto (tgt := 48) (pc := 40) hx hb dX11_readLaw_40 rfl ?_
        obtain ⟨rfl, rfl, rfl, rfl, rfl, rfl, rfl⟩ := zi_7 hf
        exact J48 _ _ _ ⟨lv_sub hl [1, 2, 0] rfl, hP, hD, hS⟩
  · clear hf
    have hf := hj
    clear hj
    refine lv_if_ne (tgt := 18) (pc := 10) hx hb dX11_readLaw_10 rfl (fun hc => ?_) (fun hc => ?_)
    · have hf := za_f hf hc
      obtain ⟨rfl, rfl⟩ := zi_2 hf
      exact J18 _ _ _ ⟨lv_sub hl [0, 1] rfl, hP.sub [1, 2, 0] rfl, hD.sub [1, 2, 0] (by decide) rfl, hS⟩
    · have hf := za_t hf hc
      refine lv_aload_n (pc := 13) hx hb dX11_readLaw_13 rfl (lv_at hl 0 rfl) ?_
      refine lv_iconst (v := (2 : Int32)) (pc := 14) hx hb dX11_readLaw_14 (by decide) ?_
      obtain ⟨v10, v11, hv10, hf⟩ := zc_2 hf
      refine zw_Vv (pc := 15) (wc := [zr_o ad f_thrown f_taped v6 v7 f_size v8 v9 f_wrong f_wrongAt f_faultKind f_faultPlace f_reading f_toldWhy f_x f_standMany f_bestMany f_tail f_round1]) (wr := [(ad 5, .inl (dA 0, 994, .inl b_fresh)), (ad 4, .inl (dA 0, 900, .inl b_tape))]) (w1 := [zr_o ad f_thrown f_taped v6 v7 f_size v8 v9 v10 v11 f_faultKind f_faultPlace f_reading f_toldWhy f_x f_standMany f_bestMany f_tail f_round1]) (As := [.int (2 : Int32)]) (rest := []) ⟨hx, hb, hml, hown, ht⟩ (zt_X11_fails l dC dI dA ad _ f_thrown f_taped v6 v7 f_size v8 v9 f_wrong f_wrongAt f_faultKind f_faultPlace f_reading f_toldWhy f_x f_standMany f_bestMany f_tail f_round1 (2 : Int32) v10 v11 hv10) (cwV 1 ht (zb_V (fun _ h => zb_l h) (zb_l zr_121) (zb_l zr_122) (zb_l zr_123) (zb_l zr_36) (zb_l zr_110)) rfl rfl rfl zk_X11_fails ⟨Nat.le_of_ble_eq_true rfl, Nat.le_of_ble_eq_true rfl⟩) rfl rfl hK hP hD hS hA [1] [0, 2] (by decide) (by decide) (by decide) rfl rfl rfl hl.1 (Nat.le_of_ble_eq_true rfl) dX11_readLaw_15 ⟨Nat.zero_le _, Nat.zero_le _⟩ rfl (fun H locs hP hD hS => ?_)
      have hP : va_P (dC, dI) zz_cls [(ad 5, .inl (dA 0, 994, .inl b_fresh)), (ad 4, .inl (dA 0, 900, .inl b_tape)), zr_o ad f_thrown f_taped v6 v7 f_size v8 v9 v10 v11 f_faultKind f_faultPlace f_reading f_toldWhy f_x f_standMany f_bestMany f_tail f_round1] H := hP
      have hD : va_D A [(ad 5, .inl (dA 0, 994, .inl b_fresh)), (ad 4, .inl (dA 0, 900, .inl b_tape)), zr_o ad f_thrown f_taped v6 v7 f_size v8 v9 v10 v11 f_faultKind f_faultPlace f_reading f_toldWhy f_x f_standMany f_bestMany f_tail f_round1] := hD
      obtain ⟨rfl, rfl⟩ := zi_2 hf
      exact J18 _ _ _ ⟨lv_sub hl [0, 1] rfl, hP.sub [2, 1, 0] rfl, hD.sub [2, 1, 0] (by decide) rfl, hS⟩

def zf_X11_readLine (n : Nat) (f_at : Int32) (f_behind : Int32) (f_size : Int32) (f_kind : Int32) (f_number : Int32) (f_wrong : Int32) (f_wrongAt : Int32) (f_reading : Int32) (b_tape : (Nat → Int32)) (b_fresh : (Nat → Int32)) : Option (Int32 × Int32 × Int32 × Int32 × Int32 × Int32 × Int32 × (Nat → Int32)) :=
  if f_wrong = 0 then
    zd_1 (zf_X11_is f_kind f_wrong (3 : Int32)) (fun v1 =>
    if v1 = 0 then
      zd_1 (zf_X11_is f_kind f_wrong (7 : Int32)) (fun v2 =>
      if v2 = 0 then
        zd_5 (zf_X11_eats n f_at f_behind f_size f_kind f_number f_wrong b_tape (11 : Int32)) (fun v3 v4 v5 v6 v7 =>
        if v3 = 0 then
          zd_5 (zf_X11_eats n v4 v5 f_size v6 v7 f_wrong b_tape (12 : Int32)) (fun v8 v9 v10 v11 v12 =>
          if v8 = 0 then
            zd_1 (zf_X11_is v11 f_wrong (13 : Int32)) (fun v13 =>
            if v13 = 0 then
              zd_1 (zf_X11_is v11 f_wrong (14 : Int32)) (fun v14 =>
              if v14 = 0 then
                zd_2 (zf_X11_fails v9 v11 f_wrong f_wrongAt (2 : Int32)) (fun v15 v16 =>
                some (v9, v10, v11, v12, v15, v16, f_reading, b_fresh))
              else
                zd_8 (zf_X11_readLaw n v9 v10 f_size v11 v12 f_wrong f_wrongAt f_reading b_tape b_fresh (v11 - (13 : Int32))) (fun v17 v18 v19 v20 v21 v22 v23 a24 =>
                some (v17, v18, v19, v20, v21, v22, v23, a24)))
            else
              zd_8 (zf_X11_readLaw n v9 v10 f_size v11 v12 f_wrong f_wrongAt f_reading b_tape b_fresh (v11 - (13 : Int32))) (fun v25 v26 v27 v28 v29 v30 v31 a32 =>
              some (v25, v26, v27, v28, v29, v30, v31, a32)))
          else
            zd_7 (zf_X11_takes n v9 v10 f_size v11 v12 f_wrong f_wrongAt b_tape (0 : Int32) (10 : Int32)) (fun v33 v34 v35 v36 v37 v38 v39 =>
            zd_1 (za_st b_fresh 994 (3 : Int32) v33) (fun a40 =>
            some (v34, v35, v36, v37, v38, v39, f_reading, a40))))
        else
          zd_7 (zf_X11_takes n v4 v5 f_size v6 v7 f_wrong f_wrongAt b_tape (0 : Int32) (9 : Int32)) (fun v41 v42 v43 v44 v45 v46 v47 =>
          zd_1 (za_st b_fresh 994 (40 : Int32) v41) (fun a48 =>
          some (v42, v43, v44, v45, v46, v47, f_reading, a48))))
      else
        zd_7 (zf_X11_readPilgrim n f_at f_behind f_size f_kind f_number f_wrong f_wrongAt b_tape b_fresh) (fun v49 v50 v51 v52 v53 v54 a55 =>
        some (v49, v50, v51, v52, v53, v54, f_reading, a55)))
    else
      zd_7 (zf_X11_readHole n f_at f_behind f_size f_kind f_number f_wrong f_wrongAt b_tape b_fresh) (fun v56 v57 v58 v59 v60 v61 a62 =>
      some (v56, v57, v58, v59, v60, v61, f_reading, a62)))
  else
    some (f_at, f_behind, f_kind, f_number, f_wrong, f_wrongAt, f_reading, b_fresh)
theorem zk_X11_readLine : yX11_readLine.cls = RX11 ∧ yX11_readLine.cls ≠ "java/lang/invoke/MethodHandle" ∧ yX11_readLine.cls ≠ "java/lang/invoke/VarHandle" ∧ (parseMethodDescriptor yX11_readLine.desc).map (fun d => d.parameters.length) = some 0 := by decide +kernel
set_option maxHeartbeats 4000000 in
set_option maxRecDepth 100000 in
theorem zt_X11_readLine (l : Launch) (dC : Nat → ClassId) (dI : Nat → Nat → Nat) (dA : Nat → ClassId) (ad : Nat → Nat) (adK adV : Nat → Nat) (sz : Nat) (n : Nat) (f_thrown : Int32) (f_taped : Int32) (f_at : Int32) (f_behind : Int32) (f_size : Int32) (f_kind : Int32) (f_number : Int32) (f_wrong : Int32) (f_wrongAt : Int32) (f_faultKind : Int32) (f_faultPlace : Int32) (f_reading : Int32) (f_toldWhy : Int32) (f_x : Int32) (f_standMany : Int32) (f_bestMany : Int32) (f_tail : Int32) (f_round1 : Int32) (b_tape : (Nat → Int32)) (b_fresh : (Nat → Int32)) (o1 : Int32) (o2 : Int32) (o3 : Int32) (o4 : Int32) (o5 : Int32) (o6 : Int32) (o7 : Int32) (o8 : (Nat → Int32)) (hf : zf_X11_readLine n f_at f_behind f_size f_kind f_number f_wrong f_wrongAt f_reading b_tape b_fresh = some (o1, o2, o3, o4, o5, o6, o7, o8)) : Met l yX11_readLine (.code yX11_readLine cX11_readLine 1 none :: zb_T) ({ frames := 69, cells := 0, slots := 0, locals := 2594 }) (va_Pc [.ref (ad 0)] (zx_M dC dI dA adK adV [zr_o ad f_thrown f_taped f_at f_behind f_size f_kind f_number f_wrong f_wrongAt f_faultKind f_faultPlace f_reading f_toldWhy f_x f_standMany f_bestMany f_tail f_round1, (ad 4, .inl (dA 0, 900, .inl b_tape)), (ad 5, .inl (dA 0, 994, .inl b_fresh))] sz)) (va_Qv (fun _ : Unit => True) (fun _ t => zz_B dC dI dA (va_A [zr_o ad f_thrown f_taped f_at f_behind f_size f_kind f_number f_wrong f_wrongAt f_faultKind f_faultPlace f_reading f_toldWhy f_x f_standMany f_bestMany f_tail f_round1, (ad 4, .inl (dA 0, 900, .inl b_tape)), (ad 5, .inl (dA 0, 994, .inl b_fresh))] sz) [zr_o ad f_thrown f_taped o1 o2 f_size o3 o4 o5 o6 f_faultKind f_faultPlace o7 f_toldWhy f_x f_standMany f_bestMany f_tail f_round1, (ad 4, .inl (dA 0, 900, .inl b_tape)), (ad 5, .inl (dA 0, 994, .inl o8))] t) (va_A [zr_o ad f_thrown f_taped f_at f_behind f_size f_kind f_number f_wrong f_wrongAt f_faultKind f_faultPlace f_reading f_toldWhy f_x f_standMany f_bestMany f_tail f_round1, (ad 4, .inl (dA 0, 900, .inl b_tape)), (ad 5, .inl (dA 0, 994, .inl b_fresh))] sz)) 0 0 (va_A [zr_o ad f_thrown f_taped f_at f_behind f_size f_kind f_number f_wrong f_wrongAt f_faultKind f_faultPlace f_reading f_toldWhy f_x f_standMany f_bestMany f_tail f_round1, (ad 4, .inl (dA 0, 900, .inl b_tape)), (ad 5, .inl (dA 0, 994, .inl b_fresh))] sz) := by
  unfold zf_X11_readLine at hf
  refine Met.ofW (cc := cX11_readLine) (maxL := 1) (ret := none) (by decide) rfl ?_
  intro p e s m args below meth c s₁ B hml hv
  obtain ⟨rfl, ⟨hsz, hP, hK, hD0⟩, hZ⟩ := hv
  have hx := B.exec
  have hb := B.bytes
  have hr := B.returns
  have ht : ∀ w ∈ zb_T, w.before ([.ref (ad 0)] : List Value).toArray s = true := fun w hw => atoms_spec (ws := .code yX11_readLine cX11_readLine 1 none :: zb_T) B.pre w (List.mem_cons_of_mem _ hw)
  have hown : s.vm.findClass RX11 = some m.cls := findClass_of_methodNamed B.named
  have hlocks := B.notSynchronized
  subst hsz
  have hD := hD0.self (sz := s.heap.size)
  generalize hAe : va_A [zr_o ad f_thrown f_taped f_at f_behind f_size f_kind f_number f_wrong f_wrongAt f_faultKind f_faultPlace f_reading f_toldWhy f_x f_standMany f_bestMany f_tail f_round1, (ad 4, .inl (dA 0, 900, .inl b_tape)), (ad 5, .inl (dA 0, 994, .inl b_fresh))] s.heap.size = A at hD hZ ⊢
  have hA : ∀ q : Nat, s.heap.size ≤ q → A q := fun q h => by rw [← hAe]; exact Or.inr h
  clear hAe hD0
  have hS : va_S A s.heap s.heap [] := va_S.rf
  have hl := lv_entry ([.ref (ad 0)]) (n := 1) (Nat.le_of_ble_eq_true rfl)
  rw [lg_entry_eq]
  generalize (lg_sl ([.ref (ad 0)]) ++ List.replicate (1 - (lg_sl ([.ref (ad 0)])).length) Slot.unset).toArray = ls at hl ⊢
  have hl : lv_has ls 1 [(0, .ref (ad 0))] := hl
  refine lv_aload_n (pc := 0) hx hb dX11_readLine_0 rfl (lv_at hl 0 rfl) ?_
  refine va_get (pc := 1) (D := (dC, dI)) (ci := 0) (v := .int f_wrong) (C := RX11) (T := TX11) (N := 42) hx hb ht zb_lay hown hK hP 0 rfl rfl 11 (by decide) (ht _ (zb_l zr_111)) (fun _ h9 => h9) rfl dX11_readLine_1 ?_
  refine lv_if_eq (tgt := 8) (pc := 4) hx hb dX11_readLine_4 rfl (fun hc => ?_) (fun hc => ?_)
  · have hf := za_t hf hc
    refine lv_aload_n (pc := 8) hx hb dX11_readLine_8 rfl (lv_at hl 0 rfl) ?_
    refine lv_iconst (v := (3 : Int32)) (pc := 9) hx hb dX11_readLine_9 (by decide) ?_
    obtain ⟨v1, hv1, hf⟩ := zc_1 hf
    refine zw_Vi (pc := 10) (wc := [zr_o ad f_thrown f_taped f_at f_behind f_size f_kind f_number f_wrong f_wrongAt f_faultKind f_faultPlace f_reading f_toldWhy f_x f_standMany f_bestMany f_tail f_round1]) (wr := [(ad 4, .inl (dA 0, 900, .inl b_tape)), (ad 5, .inl (dA 0, 994, .inl b_fresh))]) (w1 := [zr_o ad f_thrown f_taped f_at f_behind f_size f_kind f_number f_wrong f_wrongAt f_faultKind f_faultPlace f_reading f_toldWhy f_x f_standMany f_bestMany f_tail f_round1]) (As := [.int (3 : Int32)]) (rest := []) ⟨hx, hb, hml, hown, ht⟩ (zt_X11_is l dC dI dA ad _ f_thrown f_taped f_at f_behind f_size f_kind f_number f_wrong f_wrongAt f_faultKind f_faultPlace f_reading f_toldWhy f_x f_standMany f_bestMany f_tail f_round1 (3 : Int32) v1 hv1) (cwV 1 ht (zb_V (fun _ h => zb_l h) (zb_l zr_114) (zb_l zr_115) (zb_l zr_116) (zb_l zr_36) (zb_l zr_113)) rfl rfl rfl zk_X11_is ⟨Nat.le_of_ble_eq_true rfl, Nat.le_of_ble_eq_true rfl⟩) rfl rfl hK hP hD hS hA [0] [1, 2] (by decide) (by decide) (by decide) rfl rfl rfl hl.1 (Nat.le_of_ble_eq_true rfl) dX11_readLine_10 ⟨Nat.zero_le _, Nat.zero_le _⟩ rfl (fun H locs hP hD hS => ?_)
    have hP : va_P (dC, dI) zz_cls [(ad 4, .inl (dA 0, 900, .inl b_tape)), (ad 5, .inl (dA 0, 994, .inl b_fresh)), zr_o ad f_thrown f_taped f_at f_behind f_size f_kind f_number f_wrong f_wrongAt f_faultKind f_faultPlace f_reading f_toldWhy f_x f_standMany f_bestMany f_tail f_round1] H := hP
    have hD : va_D A [(ad 4, .inl (dA 0, 900, .inl b_tape)), (ad 5, .inl (dA 0, 994, .inl b_fresh)), zr_o ad f_thrown f_taped f_at f_behind f_size f_kind f_number f_wrong f_wrongAt f_faultKind f_faultPlace f_reading f_toldWhy f_x f_standMany f_bestMany f_tail f_round1] := hD
    refine lv_if_eq (tgt := 23) (pc := 13) hx hb dX11_readLine_13 rfl (fun hc => ?_) (fun hc => ?_)
    · have hf := za_t hf hc
      refine lv_aload_n (pc := 23) hx hb dX11_readLine_23 rfl (lv_at hl 0 rfl) ?_
      refine lv_bipush (v := (7 : Int32)) (pc := 24) hx hb dX11_readLine_24 (by decide) ?_
      obtain ⟨v2, hv2, hf⟩ := zc_1 hf
      refine zw_Vi (pc := 26) (wc := [zr_o ad f_thrown f_taped f_at f_behind f_size f_kind f_number f_wrong f_wrongAt f_faultKind f_faultPlace f_reading f_toldWhy f_x f_standMany f_bestMany f_tail f_round1]) (wr := [(ad 4, .inl (dA 0, 900, .inl b_tape)), (ad 5, .inl (dA 0, 994, .inl b_fresh))]) (w1 := [zr_o ad f_thrown f_taped f_at f_behind f_size f_kind f_number f_wrong f_wrongAt f_faultKind f_faultPlace f_reading f_toldWhy f_x f_standMany f_bestMany f_tail f_round1]) (As := [.int (7 : Int32)]) (rest := []) ⟨hx, hb, hml, hown, ht⟩ (zt_X11_is l dC dI dA ad _ f_thrown f_taped f_at f_behind f_size f_kind f_number f_wrong f_wrongAt f_faultKind f_faultPlace f_reading f_toldWhy f_x f_standMany f_bestMany f_tail f_round1 (7 : Int32) v2 hv2) (cwV 1 ht (zb_V (fun _ h => zb_l h) (zb_l zr_114) (zb_l zr_115) (zb_l zr_116) (zb_l zr_36) (zb_l zr_113)) rfl rfl rfl zk_X11_is ⟨Nat.le_of_ble_eq_true rfl, Nat.le_of_ble_eq_true rfl⟩) rfl rfl hK hP hD hS hA [2] [0, 1] (by decide) (by decide) (by decide) rfl rfl rfl hl.1 (Nat.le_of_ble_eq_true rfl) dX11_readLine_26 ⟨Nat.zero_le _, Nat.zero_le _⟩ rfl (fun H locs hP hD hS => ?_)
      have hP : va_P (dC, dI) zz_cls [(ad 4, .inl (dA 0, 900, .inl b_tape)), (ad 5, .inl (dA 0, 994, .inl b_fresh)), zr_o ad f_thrown f_taped f_at f_behind f_size f_kind f_number f_wrong f_wrongAt f_faultKind f_faultPlace f_reading f_toldWhy f_x f_standMany f_bestMany f_tail f_round1] H := hP
      have hD : va_D A [(ad 4, .inl (dA 0, 900, .inl b_tape)), (ad 5, .inl (dA 0, 994, .inl b_fresh)), zr_o ad f_thrown f_taped f_at f_behind f_size f_kind f_number f_wrong f_wrongAt f_faultKind f_faultPlace f_reading f_toldWhy f_x f_standMany f_bestMany f_tail f_round1] := hD
      refine lv_if_eq (tgt := 39) (pc := 29) hx hb dX11_readLine_29 rfl (fun hc => ?_) (fun hc => ?_)
      · have hf := za_t hf hc
        refine lv_aload_n (pc := 39) hx hb dX11_readLine_39 rfl (lv_at hl 0 rfl) ?_
        refine lv_bipush (v := (11 : Int32)) (pc := 40) hx hb dX11_readLine_40 (by decide) ?_
        obtain ⟨v3, v4, v5, v6, v7, hv3, hf⟩ := zc_5 hf
        refine zx_Vi (pc := 42) (wc := [zr_o ad f_thrown f_taped f_at f_behind f_size f_kind f_number f_wrong f_wrongAt f_faultKind f_faultPlace f_reading f_toldWhy f_x f_standMany f_bestMany f_tail f_round1, (ad 4, .inl (dA 0, 900, .inl b_tape))]) (wr := [(ad 5, .inl (dA 0, 994, .inl b_fresh))]) (w1 := [zr_o ad f_thrown f_taped v4 v5 f_size v6 v7 f_wrong f_wrongAt f_faultKind f_faultPlace f_reading f_toldWhy f_x f_standMany f_bestMany f_tail f_round1, (ad 4, .inl (dA 0, 900, .inl b_tape))]) (As := [.int (11 : Int32)]) (rest := []) ⟨hx, hb, hml, hown, ht⟩ (zt_X11_eats l dC dI dA ad adK adV _ n f_thrown f_taped f_at f_behind f_size f_kind f_number f_wrong f_wrongAt f_faultKind f_faultPlace f_reading f_toldWhy f_x f_standMany f_bestMany f_tail f_round1 b_tape (11 : Int32) v3 v4 v5 v6 v7 hv3) (cwV 1 ht (zb_V (fun _ h => zb_i h) (zb_l zr_144) (zb_l zr_145) (zb_l zr_146) (zb_l zr_36) (zb_l zr_120)) rfl rfl rfl zk_X11_eats ⟨Nat.le_of_ble_eq_true rfl, Nat.le_of_ble_eq_true rfl⟩) rfl rfl hZ hK hP hD hS hA [2, 0] [1] (by decide) (by decide) (by decide) rfl rfl rfl hl.1 (Nat.le_of_ble_eq_true rfl) dX11_readLine_42 ⟨Nat.zero_le _, Nat.zero_le _⟩ rfl (fun H locs hP hD hS => ?_)
        have hP : va_P (dC, dI) zz_cls [(ad 5, .inl (dA 0, 994, .inl b_fresh)), zr_o ad f_thrown f_taped v4 v5 f_size v6 v7 f_wrong f_wrongAt f_faultKind f_faultPlace f_reading f_toldWhy f_x f_standMany f_bestMany f_tail f_round1, (ad 4, .inl (dA 0, 900, .inl b_tape))] H := hP
        have hD : va_D A [(ad 5, .inl (dA 0, 994, .inl b_fresh)), zr_o ad f_thrown f_taped v4 v5 f_size v6 v7 f_wrong f_wrongAt f_faultKind f_faultPlace f_reading f_toldWhy f_x f_standMany f_bestMany f_tail f_round1, (ad 4, .inl (dA 0, 900, .inl b_tape))] := hD
        refine lv_if_eq (tgt := 65) (pc := 45) hx hb dX11_readLine_45 rfl (fun hc => ?_) (fun hc => ?_)
        · have hf := za_t hf hc
          refine lv_aload_n (pc := 65) hx hb dX11_readLine_65 rfl (lv_at hl 0 rfl) ?_
          refine lv_bipush (v := (12 : Int32)) (pc := 66) hx hb dX11_readLine_66 (by decide) ?_
          obtain ⟨v8, v9, v10, v11, v12, hv8, hf⟩ := zc_5 hf
          refine zx_Vi (pc := 68) (wc := [zr_o ad f_thrown f_taped v4 v5 f_size v6 v7 f_wrong f_wrongAt f_faultKind f_faultPlace f_reading f_toldWhy f_x f_standMany f_bestMany f_tail f_round1, (ad 4, .inl (dA 0, 900, .inl b_tape))]) (wr := [(ad 5, .inl (dA 0, 994, .inl b_fresh))]) (w1 := [zr_o ad f_thrown f_taped v9 v10 f_size v11 v12 f_wrong f_wrongAt f_faultKind f_faultPlace f_reading f_toldWhy f_x f_standMany f_bestMany f_tail f_round1, (ad 4, .inl (dA 0, 900, .inl b_tape))]) (As := [.int (12 : Int32)]) (rest := []) ⟨hx, hb, hml, hown, ht⟩ (zt_X11_eats l dC dI dA ad adK adV _ n f_thrown f_taped v4 v5 f_size v6 v7 f_wrong f_wrongAt f_faultKind f_faultPlace f_reading f_toldWhy f_x f_standMany f_bestMany f_tail f_round1 b_tape (12 : Int32) v8 v9 v10 v11 v12 hv8) (cwV 1 ht (zb_V (fun _ h => zb_i h) (zb_l zr_144) (zb_l zr_145) (zb_l zr_146) (zb_l zr_36) (zb_l zr_120)) rfl rfl rfl zk_X11_eats ⟨Nat.le_of_ble_eq_true rfl, Nat.le_of_ble_eq_true rfl⟩) rfl rfl hZ hK hP hD hS hA [1, 2] [0] (by decide) (by decide) (by decide) rfl rfl rfl hl.1 (Nat.le_of_ble_eq_true rfl) dX11_readLine_68 ⟨Nat.zero_le _, Nat.zero_le _⟩ rfl (fun H locs hP hD hS => ?_)
          have hP : va_P (dC, dI) zz_cls [(ad 5, .inl (dA 0, 994, .inl b_fresh)), zr_o ad f_thrown f_taped v9 v10 f_size v11 v12 f_wrong f_wrongAt f_faultKind f_faultPlace f_reading f_toldWhy f_x f_standMany f_bestMany f_tail f_round1, (ad 4, .inl (dA 0, 900, .inl b_tape))] H := hP
          have hD : va_D A [(ad 5, .inl (dA 0, 994, .inl b_fresh)), zr_o ad f_thrown f_taped v9 v10 f_size v11 v12 f_wrong f_wrongAt f_faultKind f_faultPlace f_reading f_toldWhy f_x f_standMany f_bestMany f_tail f_round1, (ad 4, .inl (dA 0, 900, .inl b_tape))] := hD
          refine lv_if_eq (tgt := 90) (pc := 71) hx hb dX11_readLine_71 rfl (fun hc => ?_) (fun hc => ?_)
          · have hf := za_t hf hc
            refine lv_aload_n (pc := 90) hx hb dX11_readLine_90 rfl (lv_at hl 0 rfl) ?_
            refine lv_bipush (v := (13 : Int32)) (pc := 91) hx hb dX11_readLine_91 (by decide) ?_
            obtain ⟨v13, hv13, hf⟩ := zc_1 hf
            refine zw_Vi (pc := 93) (wc := [zr_o ad f_thrown f_taped v9 v10 f_size v11 v12 f_wrong f_wrongAt f_faultKind f_faultPlace f_reading f_toldWhy f_x f_standMany f_bestMany f_tail f_round1]) (wr := [(ad 5, .inl (dA 0, 994, .inl b_fresh)), (ad 4, .inl (dA 0, 900, .inl b_tape))]) (w1 := [zr_o ad f_thrown f_taped v9 v10 f_size v11 v12 f_wrong f_wrongAt f_faultKind f_faultPlace f_reading f_toldWhy f_x f_standMany f_bestMany f_tail f_round1]) (As := [.int (13 : Int32)]) (rest := []) ⟨hx, hb, hml, hown, ht⟩ (zt_X11_is l dC dI dA ad _ f_thrown f_taped v9 v10 f_size v11 v12 f_wrong f_wrongAt f_faultKind f_faultPlace f_reading f_toldWhy f_x f_standMany f_bestMany f_tail f_round1 (13 : Int32) v13 hv13) (cwV 1 ht (zb_V (fun _ h => zb_l h) (zb_l zr_114) (zb_l zr_115) (zb_l zr_116) (zb_l zr_36) (zb_l zr_113)) rfl rfl rfl zk_X11_is ⟨Nat.le_of_ble_eq_true rfl, Nat.le_of_ble_eq_true rfl⟩) rfl rfl hK hP hD hS hA [1] [0, 2] (by decide) (by decide) (by decide) rfl rfl rfl hl.1 (Nat.le_of_ble_eq_true rfl) dX11_readLine_93 ⟨Nat.zero_le _, Nat.zero_le _⟩ rfl (fun H locs hP hD hS => ?_)
            have hP : va_P (dC, dI) zz_cls [(ad 5, .inl (dA 0, 994, .inl b_fresh)), (ad 4, .inl (dA 0, 900, .inl b_tape)), zr_o ad f_thrown f_taped v9 v10 f_size v11 v12 f_wrong f_wrongAt f_faultKind f_faultPlace f_reading f_toldWhy f_x f_standMany f_bestMany f_tail f_round1] H := hP
            have hD : va_D A [(ad 5, .inl (dA 0, 994, .inl b_fresh)), (ad 4, .inl (dA 0, 900, .inl b_tape)), zr_o ad f_thrown f_taped v9 v10 f_size v11 v12 f_wrong f_wrongAt f_faultKind f_faultPlace f_reading f_toldWhy f_x f_standMany f_bestMany f_tail f_round1] := hD
            refine lv_if_ne (tgt := 108) (pc := 96) hx hb dX11_readLine_96 rfl (fun hc => ?_) (fun hc => ?_)
            · have hf := za_f hf hc
              refine lv_aload_n (pc := 108) hx hb dX11_readLine_108 rfl (lv_at hl 0 rfl) ?_
              refine lv_aload_n (pc := 109) hx hb dX11_readLine_109 rfl (lv_at hl 0 rfl) ?_
              refine va_get (pc := 110) (D := (dC, dI)) (ci := 0) (v := .int v11) (C := RX11) (T := TX11) (N := 42) hx hb ht zb_lay hown hK hP 2 rfl rfl 9 (by decide) (ht _ (zb_l zr_97)) (fun _ h9 => h9) rfl dX11_readLine_110 ?_
              refine lv_bipush (v := (13 : Int32)) (pc := 113) hx hb dX11_readLine_113 (by decide) ?_
              refine lv_isub (pc := 115) hx hb dX11_readLine_115 ?_
              obtain ⟨v25, v26, v27, v28, v29, v30, v31, a32, hv25, hf⟩ := zc_8 hf
              refine zx_Vv (pc := 116) (wc := [zr_o ad f_thrown f_taped v9 v10 f_size v11 v12 f_wrong f_wrongAt f_faultKind f_faultPlace f_reading f_toldWhy f_x f_standMany f_bestMany f_tail f_round1, (ad 4, .inl (dA 0, 900, .inl b_tape)), (ad 5, .inl (dA 0, 994, .inl b_fresh))]) (wr := []) (w1 := [zr_o ad f_thrown f_taped v25 v26 f_size v27 v28 v29 v30 f_faultKind f_faultPlace v31 f_toldWhy f_x f_standMany f_bestMany f_tail f_round1, (ad 4, .inl (dA 0, 900, .inl b_tape)), (ad 5, .inl (dA 0, 994, .inl a32))]) (As := [.int (v11 - (13 : Int32))]) (rest := []) ⟨hx, hb, hml, hown, ht⟩ (zt_X11_readLaw l dC dI dA ad adK adV _ n f_thrown f_taped v9 v10 f_size v11 v12 f_wrong f_wrongAt f_faultKind f_faultPlace f_reading f_toldWhy f_x f_standMany f_bestMany f_tail f_round1 b_tape b_fresh (v11 - (13 : Int32)) v25 v26 v27 v28 v29 v30 v31 a32 hv25) (cwV 1 ht (zb_V (fun _ h => zb_i h) (zb_l zr_192) (zb_l zr_193) (zb_l zr_194) (zb_l zr_36) (zb_l zr_185)) rfl rfl rfl zk_X11_readLaw ⟨Nat.le_of_ble_eq_true rfl, Nat.le_of_ble_eq_true rfl⟩) rfl rfl hZ hK hP hD hS hA [2, 1, 0] [] (by decide) (by decide) (by decide) rfl rfl rfl hl.1 (Nat.le_of_ble_eq_true rfl) dX11_readLine_116 ⟨Nat.zero_le _, Nat.zero_le _⟩ rfl (fun H locs hP hD hS => ?_)
              have hP : va_P (dC, dI) zz_cls [zr_o ad f_thrown f_taped v25 v26 f_size v27 v28 v29 v30 f_faultKind f_faultPlace v31 f_toldWhy f_x f_standMany f_bestMany f_tail f_round1, (ad 4, .inl (dA 0, 900, .inl b_tape)), (ad 5, .inl (dA 0, 994, .inl a32))] H := hP
              have hD : va_D A [zr_o ad f_thrown f_taped v25 v26 f_size v27 v28 v29 v30 f_faultKind f_faultPlace v31 f_toldWhy f_x f_standMany f_bestMany f_tail f_round1, (ad 4, .inl (dA 0, 900, .inl b_tape)), (ad 5, .inl (dA 0, 994, .inl a32))] := hD
              refine lv_goto (tgt := 127) (pc := 119) hx hb dX11_readLine_119 rfl ?_
              obtain ⟨rfl, rfl, rfl, rfl, rfl, rfl, rfl, rfl⟩ := zi_8 hf
              exact W.vret (pc := 127) hx hb hr (fun t ht hW => ⟨⟨(), rfl, trivial, zz_Bi (by rw [ht]; exact hP) (va_K.moved hW.alike hK) (hD)⟩, hS.F ht⟩) hS.2.2 dX11_readLine_127
            · have hf := za_t hf hc
              refine lv_aload_n (pc := 99) hx hb dX11_readLine_99 rfl (lv_at hl 0 rfl) ?_
              refine lv_bipush (v := (14 : Int32)) (pc := 100) hx hb dX11_readLine_100 (by decide) ?_
              obtain ⟨v14, hv14, hf⟩ := zc_1 hf
              refine zw_Vi (pc := 102) (wc := [zr_o ad f_thrown f_taped v9 v10 f_size v11 v12 f_wrong f_wrongAt f_faultKind f_faultPlace f_reading f_toldWhy f_x f_standMany f_bestMany f_tail f_round1]) (wr := [(ad 5, .inl (dA 0, 994, .inl b_fresh)), (ad 4, .inl (dA 0, 900, .inl b_tape))]) (w1 := [zr_o ad f_thrown f_taped v9 v10 f_size v11 v12 f_wrong f_wrongAt f_faultKind f_faultPlace f_reading f_toldWhy f_x f_standMany f_bestMany f_tail f_round1]) (As := [.int (14 : Int32)]) (rest := []) ⟨hx, hb, hml, hown, ht⟩ (zt_X11_is l dC dI dA ad _ f_thrown f_taped v9 v10 f_size v11 v12 f_wrong f_wrongAt f_faultKind f_faultPlace f_reading f_toldWhy f_x f_standMany f_bestMany f_tail f_round1 (14 : Int32) v14 hv14) (cwV 1 ht (zb_V (fun _ h => zb_l h) (zb_l zr_114) (zb_l zr_115) (zb_l zr_116) (zb_l zr_36) (zb_l zr_113)) rfl rfl rfl zk_X11_is ⟨Nat.le_of_ble_eq_true rfl, Nat.le_of_ble_eq_true rfl⟩) rfl rfl hK hP hD hS hA [2] [0, 1] (by decide) (by decide) (by decide) rfl rfl rfl hl.1 (Nat.le_of_ble_eq_true rfl) dX11_readLine_102 ⟨Nat.zero_le _, Nat.zero_le _⟩ rfl (fun H locs hP hD hS => ?_)
              have hP : va_P (dC, dI) zz_cls [(ad 5, .inl (dA 0, 994, .inl b_fresh)), (ad 4, .inl (dA 0, 900, .inl b_tape)), zr_o ad f_thrown f_taped v9 v10 f_size v11 v12 f_wrong f_wrongAt f_faultKind f_faultPlace f_reading f_toldWhy f_x f_standMany f_bestMany f_tail f_round1] H := hP
              have hD : va_D A [(ad 5, .inl (dA 0, 994, .inl b_fresh)), (ad 4, .inl (dA 0, 900, .inl b_tape)), zr_o ad f_thrown f_taped v9 v10 f_size v11 v12 f_wrong f_wrongAt f_faultKind f_faultPlace f_reading f_toldWhy f_x f_standMany f_bestMany f_tail f_round1] := hD
              refine lv_if_eq (tgt := 122) (pc := 105) hx hb dX11_readLine_105 rfl (fun hc => ?_) (fun hc => ?_)
              · have hf := za_t hf hc
                refine lv_aload_n (pc := 122) hx hb dX11_readLine_122 rfl (lv_at hl 0 rfl) ?_
                refine lv_iconst (v := (2 : Int32)) (pc := 123) hx hb dX11_readLine_123 (by decide) ?_
                obtain ⟨v15, v16, hv15, hf⟩ := zc_2 hf
                refine zw_Vv (pc := 124) (wc := [zr_o ad f_thrown f_taped v9 v10 f_size v11 v12 f_wrong f_wrongAt f_faultKind f_faultPlace f_reading f_toldWhy f_x f_standMany f_bestMany f_tail f_round1]) (wr := [(ad 5, .inl (dA 0, 994, .inl b_fresh)), (ad 4, .inl (dA 0, 900, .inl b_tape))]) (w1 := [zr_o ad f_thrown f_taped v9 v10 f_size v11 v12 v15 v16 f_faultKind f_faultPlace f_reading f_toldWhy f_x f_standMany f_bestMany f_tail f_round1]) (As := [.int (2 : Int32)]) (rest := []) ⟨hx, hb, hml, hown, ht⟩ (zt_X11_fails l dC dI dA ad _ f_thrown f_taped v9 v10 f_size v11 v12 f_wrong f_wrongAt f_faultKind f_faultPlace f_reading f_toldWhy f_x f_standMany f_bestMany f_tail f_round1 (2 : Int32) v15 v16 hv15) (cwV 1 ht (zb_V (fun _ h => zb_l h) (zb_l zr_121) (zb_l zr_122) (zb_l zr_123) (zb_l zr_36) (zb_l zr_110)) rfl rfl rfl zk_X11_fails ⟨Nat.le_of_ble_eq_true rfl, Nat.le_of_ble_eq_true rfl⟩) rfl rfl hK hP hD hS hA [2] [0, 1] (by decide) (by decide) (by decide) rfl rfl rfl hl.1 (Nat.le_of_ble_eq_true rfl) dX11_readLine_124 ⟨Nat.zero_le _, Nat.zero_le _⟩ rfl (fun H locs hP hD hS => ?_)
                have hP : va_P (dC, dI) zz_cls [(ad 5, .inl (dA 0, 994, .inl b_fresh)), (ad 4, .inl (dA 0, 900, .inl b_tape)), zr_o ad f_thrown f_taped v9 v10 f_size v11 v12 v15 v16 f_faultKind f_faultPlace f_reading f_toldWhy f_x f_standMany f_bestMany f_tail f_round1] H := hP
                have hD : va_D A [(ad 5, .inl (dA 0, 994, .inl b_fresh)), (ad 4, .inl (dA 0, 900, .inl b_tape)), zr_o ad f_thrown f_taped v9 v10 f_size v11 v12 v15 v16 f_faultKind f_faultPlace f_reading f_toldWhy f_x f_standMany f_bestMany f_tail f_round1] := hD
                obtain ⟨rfl, rfl, rfl, rfl, rfl, rfl, rfl, rfl⟩ := zi_8 hf
                exact W.vret (pc := 127) hx hb hr (fun t ht hW => ⟨⟨(), rfl, trivial, zz_Bi (by rw [ht]; exact hP.sub [2, 1, 0] rfl) (va_K.moved hW.alike hK) (hD.sub [2, 1, 0] (by decide) rfl)⟩, hS.F ht⟩) hS.2.2 dX11_readLine_127
              · have hf := za_f hf hc
                refine lv_aload_n (pc := 108) hx hb dX11_readLine_108 rfl (lv_at hl 0 rfl) ?_
                refine lv_aload_n (pc := 109) hx hb dX11_readLine_109 rfl (lv_at hl 0 rfl) ?_
                refine va_get (pc := 110) (D := (dC, dI)) (ci := 0) (v := .int v11) (C := RX11) (T := TX11) (N := 42) hx hb ht zb_lay hown hK hP 2 rfl rfl 9 (by decide) (ht _ (zb_l zr_97)) (fun _ h9 => h9) rfl dX11_readLine_110 ?_
                refine lv_bipush (v := (13 : Int32)) (pc := 113) hx hb dX11_readLine_113 (by decide) ?_
                refine lv_isub (pc := 115) hx hb dX11_readLine_115 ?_
                obtain ⟨v17, v18, v19, v20, v21, v22, v23, a24, hv17, hf⟩ := zc_8 hf
                refine zx_Vv (pc := 116) (wc := [zr_o ad f_thrown f_taped v9 v10 f_size v11 v12 f_wrong f_wrongAt f_faultKind f_faultPlace f_reading f_toldWhy f_x f_standMany f_bestMany f_tail f_round1, (ad 4, .inl (dA 0, 900, .inl b_tape)), (ad 5, .inl (dA 0, 994, .inl b_fresh))]) (wr := []) (w1 := [zr_o ad f_thrown f_taped v17 v18 f_size v19 v20 v21 v22 f_faultKind f_faultPlace v23 f_toldWhy f_x f_standMany f_bestMany f_tail f_round1, (ad 4, .inl (dA 0, 900, .inl b_tape)), (ad 5, .inl (dA 0, 994, .inl a24))]) (As := [.int (v11 - (13 : Int32))]) (rest := []) ⟨hx, hb, hml, hown, ht⟩ (zt_X11_readLaw l dC dI dA ad adK adV _ n f_thrown f_taped v9 v10 f_size v11 v12 f_wrong f_wrongAt f_faultKind f_faultPlace f_reading f_toldWhy f_x f_standMany f_bestMany f_tail f_round1 b_tape b_fresh (v11 - (13 : Int32)) v17 v18 v19 v20 v21 v22 v23 a24 hv17) (cwV 1 ht (zb_V (fun _ h => zb_i h) (zb_l zr_192) (zb_l zr_193) (zb_l zr_194) (zb_l zr_36) (zb_l zr_185)) rfl rfl rfl zk_X11_readLaw ⟨Nat.le_of_ble_eq_true rfl, Nat.le_of_ble_eq_true rfl⟩) rfl rfl hZ hK hP hD hS hA [2, 1, 0] [] (by decide) (by decide) (by decide) rfl rfl rfl hl.1 (Nat.le_of_ble_eq_true rfl) dX11_readLine_116 ⟨Nat.zero_le _, Nat.zero_le _⟩ rfl (fun H locs hP hD hS => ?_)
                have hP : va_P (dC, dI) zz_cls [zr_o ad f_thrown f_taped v17 v18 f_size v19 v20 v21 v22 f_faultKind f_faultPlace v23 f_toldWhy f_x f_standMany f_bestMany f_tail f_round1, (ad 4, .inl (dA 0, 900, .inl b_tape)), (ad 5, .inl (dA 0, 994, .inl a24))] H := hP
                have hD : va_D A [zr_o ad f_thrown f_taped v17 v18 f_size v19 v20 v21 v22 f_faultKind f_faultPlace v23 f_toldWhy f_x f_standMany f_bestMany f_tail f_round1, (ad 4, .inl (dA 0, 900, .inl b_tape)), (ad 5, .inl (dA 0, 994, .inl a24))] := hD
                refine lv_goto (tgt := 127) (pc := 119) hx hb dX11_readLine_119 rfl ?_
                obtain ⟨rfl, rfl, rfl, rfl, rfl, rfl, rfl, rfl⟩ := zi_8 hf
                exact W.vret (pc := 127) hx hb hr (fun t ht hW => ⟨⟨(), rfl, trivial, zz_Bi (by rw [ht]; exact hP) (va_K.moved hW.alike hK) (hD)⟩, hS.F ht⟩) hS.2.2 dX11_readLine_127
          · have hf := za_f hf hc
            refine lv_aload_n (pc := 74) hx hb dX11_readLine_74 rfl (lv_at hl 0 rfl) ?_
            refine va_get (pc := 75) (D := (dC, dI)) (ci := 0) (v := .ref (ad 5)) (C := RX11) (T := TX11) (N := 42) hx hb ht zb_lay hown hK hP 1 rfl rfl 4 (by decide) (ht _ (zb_l zr_10)) (fun _ h9 => h9) rfl dX11_readLine_75 ?_
            refine lv_iconst (v := (3 : Int32)) (pc := 78) hx hb dX11_readLine_78 (by decide) ?_
            refine lv_aload_n (pc := 79) hx hb dX11_readLine_79 rfl (lv_at hl 0 rfl) ?_
            refine lv_iconst (v := (0 : Int32)) (pc := 80) hx hb dX11_readLine_80 (by decide) ?_
            refine lv_bipush (v := (10 : Int32)) (pc := 81) hx hb dX11_readLine_81 (by decide) ?_
            obtain ⟨v33, v34, v35, v36, v37, v38, v39, hv33, hf⟩ := zc_7 hf
            refine zx_Vi (pc := 83) (wc := [zr_o ad f_thrown f_taped v9 v10 f_size v11 v12 f_wrong f_wrongAt f_faultKind f_faultPlace f_reading f_toldWhy f_x f_standMany f_bestMany f_tail f_round1, (ad 4, .inl (dA 0, 900, .inl b_tape))]) (wr := [(ad 5, .inl (dA 0, 994, .inl b_fresh))]) (w1 := [zr_o ad f_thrown f_taped v34 v35 f_size v36 v37 v38 v39 f_faultKind f_faultPlace f_reading f_toldWhy f_x f_standMany f_bestMany f_tail f_round1, (ad 4, .inl (dA 0, 900, .inl b_tape))]) (As := [.int (0 : Int32), .int (10 : Int32)]) (rest := [.int (3 : Int32), .ref (ad 5)]) ⟨hx, hb, hml, hown, ht⟩ (zt_X11_takes l dC dI dA ad adK adV _ n f_thrown f_taped v9 v10 f_size v11 v12 f_wrong f_wrongAt f_faultKind f_faultPlace f_reading f_toldWhy f_x f_standMany f_bestMany f_tail f_round1 b_tape (0 : Int32) (10 : Int32) v33 v34 v35 v36 v37 v38 v39 hv33) (cwV 2 ht (zb_V (fun _ h => zb_i h) (zb_l zr_172) (zb_l zr_173) (zb_l zr_174) (zb_l zr_36) (zb_l zr_126)) rfl rfl rfl zk_X11_takes ⟨Nat.le_of_ble_eq_true rfl, Nat.le_of_ble_eq_true rfl⟩) rfl rfl hZ hK hP hD hS hA [1, 2] [0] (by decide) (by decide) (by decide) rfl rfl rfl hl.1 (Nat.le_of_ble_eq_true rfl) dX11_readLine_83 ⟨Nat.zero_le _, Nat.zero_le _⟩ rfl (fun H locs hP hD hS => ?_)
            have hP : va_P (dC, dI) zz_cls [(ad 5, .inl (dA 0, 994, .inl b_fresh)), zr_o ad f_thrown f_taped v34 v35 f_size v36 v37 v38 v39 f_faultKind f_faultPlace f_reading f_toldWhy f_x f_standMany f_bestMany f_tail f_round1, (ad 4, .inl (dA 0, 900, .inl b_tape))] H := hP
            have hD : va_D A [(ad 5, .inl (dA 0, 994, .inl b_fresh)), zr_o ad f_thrown f_taped v34 v35 f_size v36 v37 v38 v39 f_faultKind f_faultPlace f_reading f_toldWhy f_x f_standMany f_bestMany f_tail f_round1, (ad 4, .inl (dA 0, 900, .inl b_tape))] := hD
            obtain ⟨a40, ha40, hf⟩ := zc_1 hf
            refine zw_iast (pc := 86) hx hb hK hP hD hS 0 0 rfl rfl ha40 dX11_readLine_86 (fun H locs hP hD hS => ?_)
            have hP : va_P (dC, dI) zz_cls [(ad 5, .inl (dA 0, 994, .inl a40)), zr_o ad f_thrown f_taped v34 v35 f_size v36 v37 v38 v39 f_faultKind f_faultPlace f_reading f_toldWhy f_x f_standMany f_bestMany f_tail f_round1, (ad 4, .inl (dA 0, 900, .inl b_tape))] H := hP
            have hD : va_D A [(ad 5, .inl (dA 0, 994, .inl a40)), zr_o ad f_thrown f_taped v34 v35 f_size v36 v37 v38 v39 f_faultKind f_faultPlace f_reading f_toldWhy f_x f_standMany f_bestMany f_tail f_round1, (ad 4, .inl (dA 0, 900, .inl b_tape))] := hD
            refine lv_goto (tgt := 127) (pc := 87) hx hb dX11_readLine_87 rfl ?_
            obtain ⟨rfl, rfl, rfl, rfl, rfl, rfl, rfl, rfl⟩ := zi_8 hf
            exact W.vret (pc := 127) hx hb hr (fun t ht hW => ⟨⟨(), rfl, trivial, zz_Bi (by rw [ht]; exact hP.sub [1, 2, 0] rfl) (va_K.moved hW.alike hK) (hD.sub [1, 2, 0] (by decide) rfl)⟩, hS.F ht⟩) hS.2.2 dX11_readLine_127
        · have hf := za_f hf hc
          refine lv_aload_n (pc := 48) hx hb dX11_readLine_48 rfl (lv_at hl 0 rfl) ?_
          refine va_get (pc := 49) (D := (dC, dI)) (ci := 0) (v := .ref (ad 5)) (C := RX11) (T := TX11) (N := 42) hx hb ht zb_lay hown hK hP 1 rfl rfl 4 (by decide) (ht _ (zb_l zr_10)) (fun _ h9 => h9) rfl dX11_readLine_49 ?_
          refine lv_bipush (v := (40 : Int32)) (pc := 52) hx hb dX11_readLine_52 (by decide) ?_
          refine lv_aload_n (pc := 54) hx hb dX11_readLine_54 rfl (lv_at hl 0 rfl) ?_
          refine lv_iconst (v := (0 : Int32)) (pc := 55) hx hb dX11_readLine_55 (by decide) ?_
          refine lv_bipush (v := (9 : Int32)) (pc := 56) hx hb dX11_readLine_56 (by decide) ?_
          obtain ⟨v41, v42, v43, v44, v45, v46, v47, hv41, hf⟩ := zc_7 hf
          refine zx_Vi (pc := 58) (wc := [zr_o ad f_thrown f_taped v4 v5 f_size v6 v7 f_wrong f_wrongAt f_faultKind f_faultPlace f_reading f_toldWhy f_x f_standMany f_bestMany f_tail f_round1, (ad 4, .inl (dA 0, 900, .inl b_tape))]) (wr := [(ad 5, .inl (dA 0, 994, .inl b_fresh))]) (w1 := [zr_o ad f_thrown f_taped v42 v43 f_size v44 v45 v46 v47 f_faultKind f_faultPlace f_reading f_toldWhy f_x f_standMany f_bestMany f_tail f_round1, (ad 4, .inl (dA 0, 900, .inl b_tape))]) (As := [.int (0 : Int32), .int (9 : Int32)]) (rest := [.int (40 : Int32), .ref (ad 5)]) ⟨hx, hb, hml, hown, ht⟩ (zt_X11_takes l dC dI dA ad adK adV _ n f_thrown f_taped v4 v5 f_size v6 v7 f_wrong f_wrongAt f_faultKind f_faultPlace f_reading f_toldWhy f_x f_standMany f_bestMany f_tail f_round1 b_tape (0 : Int32) (9 : Int32) v41 v42 v43 v44 v45 v46 v47 hv41) (cwV 2 ht (zb_V (fun _ h => zb_i h) (zb_l zr_172) (zb_l zr_173) (zb_l zr_174) (zb_l zr_36) (zb_l zr_126)) rfl rfl rfl zk_X11_takes ⟨Nat.le_of_ble_eq_true rfl, Nat.le_of_ble_eq_true rfl⟩) rfl rfl hZ hK hP hD hS hA [1, 2] [0] (by decide) (by decide) (by decide) rfl rfl rfl hl.1 (Nat.le_of_ble_eq_true rfl) dX11_readLine_58 ⟨Nat.zero_le _, Nat.zero_le _⟩ rfl (fun H locs hP hD hS => ?_)
          have hP : va_P (dC, dI) zz_cls [(ad 5, .inl (dA 0, 994, .inl b_fresh)), zr_o ad f_thrown f_taped v42 v43 f_size v44 v45 v46 v47 f_faultKind f_faultPlace f_reading f_toldWhy f_x f_standMany f_bestMany f_tail f_round1, (ad 4, .inl (dA 0, 900, .inl b_tape))] H := hP
          have hD : va_D A [(ad 5, .inl (dA 0, 994, .inl b_fresh)), zr_o ad f_thrown f_taped v42 v43 f_size v44 v45 v46 v47 f_faultKind f_faultPlace f_reading f_toldWhy f_x f_standMany f_bestMany f_tail f_round1, (ad 4, .inl (dA 0, 900, .inl b_tape))] := hD
          obtain ⟨a48, ha48, hf⟩ := zc_1 hf
          refine zw_iast (pc := 61) hx hb hK hP hD hS 0 0 rfl rfl ha48 dX11_readLine_61 (fun H locs hP hD hS => ?_)
          have hP : va_P (dC, dI) zz_cls [(ad 5, .inl (dA 0, 994, .inl a48)), zr_o ad f_thrown f_taped v42 v43 f_size v44 v45 v46 v47 f_faultKind f_faultPlace f_reading f_toldWhy f_x f_standMany f_bestMany f_tail f_round1, (ad 4, .inl (dA 0, 900, .inl b_tape))] H := hP
          have hD : va_D A [(ad 5, .inl (dA 0, 994, .inl a48)), zr_o ad f_thrown f_taped v42 v43 f_size v44 v45 v46 v47 f_faultKind f_faultPlace f_reading f_toldWhy f_x f_standMany f_bestMany f_tail f_round1, (ad 4, .inl (dA 0, 900, .inl b_tape))] := hD
          refine lv_goto (tgt := 127) (pc := 62) hx hb dX11_readLine_62 rfl ?_
          obtain ⟨rfl, rfl, rfl, rfl, rfl, rfl, rfl, rfl⟩ := zi_8 hf
          exact W.vret (pc := 127) hx hb hr (fun t ht hW => ⟨⟨(), rfl, trivial, zz_Bi (by rw [ht]; exact hP.sub [1, 2, 0] rfl) (va_K.moved hW.alike hK) (hD.sub [1, 2, 0] (by decide) rfl)⟩, hS.F ht⟩) hS.2.2 dX11_readLine_127
      · have hf := za_f hf hc
        refine lv_aload_n (pc := 32) hx hb dX11_readLine_32 rfl (lv_at hl 0 rfl) ?_
        obtain ⟨v49, v50, v51, v52, v53, v54, a55, hv49, hf⟩ := zc_7 hf
        refine zx_Vv (pc := 33) (wc := [zr_o ad f_thrown f_taped f_at f_behind f_size f_kind f_number f_wrong f_wrongAt f_faultKind f_faultPlace f_reading f_toldWhy f_x f_standMany f_bestMany f_tail f_round1, (ad 4, .inl (dA 0, 900, .inl b_tape)), (ad 5, .inl (dA 0, 994, .inl b_fresh))]) (wr := []) (w1 := [zr_o ad f_thrown f_taped v49 v50 f_size v51 v52 v53 v54 f_faultKind f_faultPlace f_reading f_toldWhy f_x f_standMany f_bestMany f_tail f_round1, (ad 4, .inl (dA 0, 900, .inl b_tape)), (ad 5, .inl (dA 0, 994, .inl a55))]) (As := []) (rest := []) ⟨hx, hb, hml, hown, ht⟩ (zt_X11_readPilgrim l dC dI dA ad adK adV _ n f_thrown f_taped f_at f_behind f_size f_kind f_number f_wrong f_wrongAt f_faultKind f_faultPlace f_reading f_toldWhy f_x f_standMany f_bestMany f_tail f_round1 b_tape b_fresh v49 v50 v51 v52 v53 v54 a55 hv49) (cwV 0 ht (zb_V (fun _ h => zb_i h) (zb_l zr_189) (zb_l zr_190) (zb_l zr_191) (zb_l zr_36) (zb_l zr_184)) rfl rfl rfl zk_X11_readPilgrim ⟨Nat.le_of_ble_eq_true rfl, Nat.le_of_ble_eq_true rfl⟩) rfl rfl hZ hK hP hD hS hA [2, 0, 1] [] (by decide) (by decide) (by decide) rfl rfl rfl hl.1 (Nat.le_of_ble_eq_true rfl) dX11_readLine_33 ⟨Nat.zero_le _, Nat.zero_le _⟩ rfl (fun H locs hP hD hS => ?_)
        have hP : va_P (dC, dI) zz_cls [zr_o ad f_thrown f_taped v49 v50 f_size v51 v52 v53 v54 f_faultKind f_faultPlace f_reading f_toldWhy f_x f_standMany f_bestMany f_tail f_round1, (ad 4, .inl (dA 0, 900, .inl b_tape)), (ad 5, .inl (dA 0, 994, .inl a55))] H := hP
        have hD : va_D A [zr_o ad f_thrown f_taped v49 v50 f_size v51 v52 v53 v54 f_faultKind f_faultPlace f_reading f_toldWhy f_x f_standMany f_bestMany f_tail f_round1, (ad 4, .inl (dA 0, 900, .inl b_tape)), (ad 5, .inl (dA 0, 994, .inl a55))] := hD
        refine lv_goto (tgt := 127) (pc := 36) hx hb dX11_readLine_36 rfl ?_
        obtain ⟨rfl, rfl, rfl, rfl, rfl, rfl, rfl, rfl⟩ := zi_8 hf
        exact W.vret (pc := 127) hx hb hr (fun t ht hW => ⟨⟨(), rfl, trivial, zz_Bi (by rw [ht]; exact hP) (va_K.moved hW.alike hK) (hD)⟩, hS.F ht⟩) hS.2.2 dX11_readLine_127
    · have hf := za_f hf hc
      refine lv_aload_n (pc := 16) hx hb dX11_readLine_16 rfl (lv_at hl 0 rfl) ?_
      obtain ⟨v56, v57, v58, v59, v60, v61, a62, hv56, hf⟩ := zc_7 hf
      refine zx_Vv (pc := 17) (wc := [zr_o ad f_thrown f_taped f_at f_behind f_size f_kind f_number f_wrong f_wrongAt f_faultKind f_faultPlace f_reading f_toldWhy f_x f_standMany f_bestMany f_tail f_round1, (ad 4, .inl (dA 0, 900, .inl b_tape)), (ad 5, .inl (dA 0, 994, .inl b_fresh))]) (wr := []) (w1 := [zr_o ad f_thrown f_taped v56 v57 f_size v58 v59 v60 v61 f_faultKind f_faultPlace f_reading f_toldWhy f_x f_standMany f_bestMany f_tail f_round1, (ad 4, .inl (dA 0, 900, .inl b_tape)), (ad 5, .inl (dA 0, 994, .inl a62))]) (As := []) (rest := []) ⟨hx, hb, hml, hown, ht⟩ (zt_X11_readHole l dC dI dA ad adK adV _ n f_thrown f_taped f_at f_behind f_size f_kind f_number f_wrong f_wrongAt f_faultKind f_faultPlace f_reading f_toldWhy f_x f_standMany f_bestMany f_tail f_round1 b_tape b_fresh v56 v57 v58 v59 v60 v61 a62 hv56) (cwV 0 ht (zb_V (fun _ h => zb_i h) (zb_l zr_186) (zb_l zr_187) (zb_l zr_188) (zb_l zr_36) (zb_l zr_183)) rfl rfl rfl zk_X11_readHole ⟨Nat.le_of_ble_eq_true rfl, Nat.le_of_ble_eq_true rfl⟩) rfl rfl hZ hK hP hD hS hA [2, 0, 1] [] (by decide) (by decide) (by decide) rfl rfl rfl hl.1 (Nat.le_of_ble_eq_true rfl) dX11_readLine_17 ⟨Nat.zero_le _, Nat.zero_le _⟩ rfl (fun H locs hP hD hS => ?_)
      have hP : va_P (dC, dI) zz_cls [zr_o ad f_thrown f_taped v56 v57 f_size v58 v59 v60 v61 f_faultKind f_faultPlace f_reading f_toldWhy f_x f_standMany f_bestMany f_tail f_round1, (ad 4, .inl (dA 0, 900, .inl b_tape)), (ad 5, .inl (dA 0, 994, .inl a62))] H := hP
      have hD : va_D A [zr_o ad f_thrown f_taped v56 v57 f_size v58 v59 v60 v61 f_faultKind f_faultPlace f_reading f_toldWhy f_x f_standMany f_bestMany f_tail f_round1, (ad 4, .inl (dA 0, 900, .inl b_tape)), (ad 5, .inl (dA 0, 994, .inl a62))] := hD
      refine lv_goto (tgt := 127) (pc := 20) hx hb dX11_readLine_20 rfl ?_
      obtain ⟨rfl, rfl, rfl, rfl, rfl, rfl, rfl, rfl⟩ := zi_8 hf
      exact W.vret (pc := 127) hx hb hr (fun t ht hW => ⟨⟨(), rfl, trivial, zz_Bi (by rw [ht]; exact hP) (va_K.moved hW.alike hK) (hD)⟩, hS.F ht⟩) hS.2.2 dX11_readLine_127
  · have hf := za_f hf hc
    obtain ⟨rfl, rfl, rfl, rfl, rfl, rfl, rfl, rfl⟩ := zi_8 hf
    exact W.vret (pc := 7) hx hb hr (fun t ht hW => ⟨⟨(), rfl, trivial, zz_Bi (by rw [ht]; exact hP) (va_K.moved hW.alike hK) (hD)⟩, hS.F ht⟩) hS.2.2 dX11_readLine_7

def zf_X11_closes (n : Nat) (f_at : Int32) (f_behind : Int32) (f_size : Int32) (f_kind : Int32) (f_number : Int32) (f_wrong : Int32) (f_wrongAt : Int32) (b_tape : (Nat → Int32)) (b_fresh : (Nat → Int32)) : Option (Int32 × Int32 × Int32 × Int32 × Int32 × Int32 × (Nat → Int32)) :=
  zd_5 (zf_X11_eats n f_at f_behind f_size f_kind f_number f_wrong b_tape (30 : Int32)) (fun v1 v2 v3 v4 v5 =>
  zd_2 (
    if v1 = 0 then
      zd_2 (zf_X11_fails v2 v4 f_wrong f_wrongAt (2 : Int32)) (fun v6 v7 =>
      some (v6, v7))
    else
      some (f_wrong, f_wrongAt)) (fun v8 v9 =>
  zd_1 (za_ld b_fresh 994 (0 : Int32)) (fun v10 =>
  zd_1 (za_st b_fresh 994 (0 : Int32) (v10 + (1 : Int32))) (fun a11 =>
  some (v2, v3, v4, v5, v8, v9, a11)))))
theorem zk_X11_closes : yX11_closes.cls = RX11 ∧ yX11_closes.cls ≠ "java/lang/invoke/MethodHandle" ∧ yX11_closes.cls ≠ "java/lang/invoke/VarHandle" ∧ (parseMethodDescriptor yX11_closes.desc).map (fun d => d.parameters.length) = some 0 := by decide +kernel
set_option maxHeartbeats 4000000 in
set_option maxRecDepth 100000 in
theorem zt_X11_closes (l : Launch) (dC : Nat → ClassId) (dI : Nat → Nat → Nat) (dA : Nat → ClassId) (ad : Nat → Nat) (adK adV : Nat → Nat) (sz : Nat) (n : Nat) (f_thrown : Int32) (f_taped : Int32) (f_at : Int32) (f_behind : Int32) (f_size : Int32) (f_kind : Int32) (f_number : Int32) (f_wrong : Int32) (f_wrongAt : Int32) (f_faultKind : Int32) (f_faultPlace : Int32) (f_reading : Int32) (f_toldWhy : Int32) (f_x : Int32) (f_standMany : Int32) (f_bestMany : Int32) (f_tail : Int32) (f_round1 : Int32) (b_tape : (Nat → Int32)) (b_fresh : (Nat → Int32)) (o1 : Int32) (o2 : Int32) (o3 : Int32) (o4 : Int32) (o5 : Int32) (o6 : Int32) (o7 : (Nat → Int32)) (hf : zf_X11_closes n f_at f_behind f_size f_kind f_number f_wrong f_wrongAt b_tape b_fresh = some (o1, o2, o3, o4, o5, o6, o7)) : Met l yX11_closes (.code yX11_closes cX11_closes 1 none :: zb_T) ({ frames := 7, cells := 0, slots := 0, locals := 150 }) (va_Pc [.ref (ad 0)] (zx_M dC dI dA adK adV [zr_o ad f_thrown f_taped f_at f_behind f_size f_kind f_number f_wrong f_wrongAt f_faultKind f_faultPlace f_reading f_toldWhy f_x f_standMany f_bestMany f_tail f_round1, (ad 4, .inl (dA 0, 900, .inl b_tape)), (ad 5, .inl (dA 0, 994, .inl b_fresh))] sz)) (va_Qv (fun _ : Unit => True) (fun _ t => zz_B dC dI dA (va_A [zr_o ad f_thrown f_taped f_at f_behind f_size f_kind f_number f_wrong f_wrongAt f_faultKind f_faultPlace f_reading f_toldWhy f_x f_standMany f_bestMany f_tail f_round1, (ad 4, .inl (dA 0, 900, .inl b_tape)), (ad 5, .inl (dA 0, 994, .inl b_fresh))] sz) [zr_o ad f_thrown f_taped o1 o2 f_size o3 o4 o5 o6 f_faultKind f_faultPlace f_reading f_toldWhy f_x f_standMany f_bestMany f_tail f_round1, (ad 4, .inl (dA 0, 900, .inl b_tape)), (ad 5, .inl (dA 0, 994, .inl o7))] t) (va_A [zr_o ad f_thrown f_taped f_at f_behind f_size f_kind f_number f_wrong f_wrongAt f_faultKind f_faultPlace f_reading f_toldWhy f_x f_standMany f_bestMany f_tail f_round1, (ad 4, .inl (dA 0, 900, .inl b_tape)), (ad 5, .inl (dA 0, 994, .inl b_fresh))] sz)) 0 0 (va_A [zr_o ad f_thrown f_taped f_at f_behind f_size f_kind f_number f_wrong f_wrongAt f_faultKind f_faultPlace f_reading f_toldWhy f_x f_standMany f_bestMany f_tail f_round1, (ad 4, .inl (dA 0, 900, .inl b_tape)), (ad 5, .inl (dA 0, 994, .inl b_fresh))] sz) := by
  unfold zf_X11_closes at hf
  refine Met.ofW (cc := cX11_closes) (maxL := 1) (ret := none) (by decide) rfl ?_
  intro p e s m args below meth c s₁ B hml hv
  obtain ⟨rfl, ⟨hsz, hP, hK, hD0⟩, hZ⟩ := hv
  have hx := B.exec
  have hb := B.bytes
  have hr := B.returns
  have ht : ∀ w ∈ zb_T, w.before ([.ref (ad 0)] : List Value).toArray s = true := fun w hw => atoms_spec (ws := .code yX11_closes cX11_closes 1 none :: zb_T) B.pre w (List.mem_cons_of_mem _ hw)
  have hown : s.vm.findClass RX11 = some m.cls := findClass_of_methodNamed B.named
  have hlocks := B.notSynchronized
  subst hsz
  have hD := hD0.self (sz := s.heap.size)
  generalize hAe : va_A [zr_o ad f_thrown f_taped f_at f_behind f_size f_kind f_number f_wrong f_wrongAt f_faultKind f_faultPlace f_reading f_toldWhy f_x f_standMany f_bestMany f_tail f_round1, (ad 4, .inl (dA 0, 900, .inl b_tape)), (ad 5, .inl (dA 0, 994, .inl b_fresh))] s.heap.size = A at hD hZ ⊢
  have hA : ∀ q : Nat, s.heap.size ≤ q → A q := fun q h => by rw [← hAe]; exact Or.inr h
  clear hAe hD0
  have hS : va_S A s.heap s.heap [] := va_S.rf
  have hl := lv_entry ([.ref (ad 0)]) (n := 1) (Nat.le_of_ble_eq_true rfl)
  rw [lg_entry_eq]
  generalize (lg_sl ([.ref (ad 0)]) ++ List.replicate (1 - (lg_sl ([.ref (ad 0)])).length) Slot.unset).toArray = ls at hl ⊢
  have hl : lv_has ls 1 [(0, .ref (ad 0))] := hl
  refine lv_aload_n (pc := 0) hx hb dX11_closes_0 rfl (lv_at hl 0 rfl) ?_
  refine lv_bipush (v := (30 : Int32)) (pc := 1) hx hb dX11_closes_1 (by decide) ?_
  obtain ⟨v1, v2, v3, v4, v5, hv1, hf⟩ := zc_5 hf
  refine zx_Vi (pc := 3) (wc := [zr_o ad f_thrown f_taped f_at f_behind f_size f_kind f_number f_wrong f_wrongAt f_faultKind f_faultPlace f_reading f_toldWhy f_x f_standMany f_bestMany f_tail f_round1, (ad 4, .inl (dA 0, 900, .inl b_tape))]) (wr := [(ad 5, .inl (dA 0, 994, .inl b_fresh))]) (w1 := [zr_o ad f_thrown f_taped v2 v3 f_size v4 v5 f_wrong f_wrongAt f_faultKind f_faultPlace f_reading f_toldWhy f_x f_standMany f_bestMany f_tail f_round1, (ad 4, .inl (dA 0, 900, .inl b_tape))]) (As := [.int (30 : Int32)]) (rest := []) ⟨hx, hb, hml, hown, ht⟩ (zt_X11_eats l dC dI dA ad adK adV _ n f_thrown f_taped f_at f_behind f_size f_kind f_number f_wrong f_wrongAt f_faultKind f_faultPlace f_reading f_toldWhy f_x f_standMany f_bestMany f_tail f_round1 b_tape (30 : Int32) v1 v2 v3 v4 v5 hv1) (cwV 1 ht (zb_V (fun _ h => zb_i h) (zb_l zr_144) (zb_l zr_145) (zb_l zr_146) (zb_l zr_36) (zb_l zr_120)) rfl rfl rfl zk_X11_eats ⟨Nat.le_of_ble_eq_true rfl, Nat.le_of_ble_eq_true rfl⟩) rfl rfl hZ hK hP hD hS hA [0, 1] [2] (by decide) (by decide) (by decide) rfl rfl rfl hl.1 (Nat.le_of_ble_eq_true rfl) dX11_closes_3 ⟨Nat.zero_le _, Nat.zero_le _⟩ rfl (fun H locs hP hD hS => ?_)
  have hP : va_P (dC, dI) zz_cls [(ad 5, .inl (dA 0, 994, .inl b_fresh)), zr_o ad f_thrown f_taped v2 v3 f_size v4 v5 f_wrong f_wrongAt f_faultKind f_faultPlace f_reading f_toldWhy f_x f_standMany f_bestMany f_tail f_round1, (ad 4, .inl (dA 0, 900, .inl b_tape))] H := hP
  have hD : va_D A [(ad 5, .inl (dA 0, 994, .inl b_fresh)), zr_o ad f_thrown f_taped v2 v3 f_size v4 v5 f_wrong f_wrongAt f_faultKind f_faultPlace f_reading f_toldWhy f_x f_standMany f_bestMany f_tail f_round1, (ad 4, .inl (dA 0, 900, .inl b_tape))] := hD
  obtain ⟨v8, v9, hj, hf⟩ := zc_2 hf
  refine zj_join (pcJ := 14) (stk := []) (X := fun H locs ls => lv_has ls 1 [(0, .ref (ad 0))] ∧ va_P (dC, dI) zz_cls [zr_o ad f_thrown f_taped v2 v3 f_size v4 v5 v8 v9 f_faultKind f_faultPlace f_reading f_toldWhy f_x f_standMany f_bestMany f_tail f_round1, (ad 4, .inl (dA 0, 900, .inl b_tape)), (ad 5, .inl (dA 0, 994, .inl b_fresh))] H ∧ va_D A [zr_o ad f_thrown f_taped v2 v3 f_size v4 v5 v8 v9 f_faultKind f_faultPlace f_reading f_toldWhy f_x f_standMany f_bestMany f_tail f_round1, (ad 4, .inl (dA 0, 900, .inl b_tape)), (ad 5, .inl (dA 0, 994, .inl b_fresh))] ∧ va_S A s.heap H locs) (fun H locs ls hX => ?_) (fun J14 => ?_)
  · obtain ⟨hl, hP, hD, hS⟩ := hX
    clear hj
    refine lv_aload_n (pc := 14) hx hb dX11_closes_14 rfl (lv_at hl 0 rfl) ?_
    refine va_get (pc := 15) (D := (dC, dI)) (ci := 0) (v := .ref (ad 5)) (C := RX11) (T := TX11) (N := 42) hx hb ht zb_lay hown hK hP 0 rfl rfl 4 (by decide) (ht _ (zb_l zr_10)) (fun _ h9 => h9) rfl dX11_closes_15 ?_
    refine lv_iconst (v := (0 : Int32)) (pc := 18) hx hb dX11_closes_18 (by decide) ?_
    refine lv_dup2_11 (pc := 19) hx hb dX11_closes_19 rfl rfl ?_
    obtain ⟨v10, hv10, hf⟩ := zc_1 hf
    refine zw_iald (pc := 20) hx hb hK hP 2 0 rfl rfl hv10 dX11_closes_20 ?_
    refine lv_iconst (v := (1 : Int32)) (pc := 21) hx hb dX11_closes_21 (by decide) ?_
    refine lv_iadd (pc := 22) hx hb dX11_closes_22 ?_
    obtain ⟨a11, ha11, hf⟩ := zc_1 hf
    refine zw_iast (pc := 23) hx hb hK hP hD hS 2 0 rfl rfl ha11 dX11_closes_23 (fun H locs hP hD hS => ?_)
    have hP : va_P (dC, dI) zz_cls [zr_o ad f_thrown f_taped v2 v3 f_size v4 v5 v8 v9 f_faultKind f_faultPlace f_reading f_toldWhy f_x f_standMany f_bestMany f_tail f_round1, (ad 4, .inl (dA 0, 900, .inl b_tape)), (ad 5, .inl (dA 0, 994, .inl a11))] H := hP
    have hD : va_D A [zr_o ad f_thrown f_taped v2 v3 f_size v4 v5 v8 v9 f_faultKind f_faultPlace f_reading f_toldWhy f_x f_standMany f_bestMany f_tail f_round1, (ad 4, .inl (dA 0, 900, .inl b_tape)), (ad 5, .inl (dA 0, 994, .inl a11))] := hD
    obtain ⟨rfl, rfl, rfl, rfl, rfl, rfl, rfl⟩ := zi_7 hf
    exact W.vret (pc := 24) hx hb hr (fun t ht hW => ⟨⟨(), rfl, trivial, zz_Bi (by rw [ht]; exact hP) (va_K.moved hW.alike hK) (hD)⟩, hS.F ht⟩) hS.2.2 dX11_closes_24
  · clear hf
    have hf := hj
    clear hj
    refine lv_if_ne (tgt := 14) (pc := 6) hx hb dX11_closes_6 rfl (fun hc => ?_) (fun hc => ?_)
    · have hf := za_f hf hc
      obtain ⟨rfl, rfl⟩ := zi_2 hf
      exact J14 _ _ _ ⟨lv_sub hl [0] rfl, hP.sub [1, 2, 0] rfl, hD.sub [1, 2, 0] (by decide) rfl, hS⟩
    · have hf := za_t hf hc
      refine lv_aload_n (pc := 9) hx hb dX11_closes_9 rfl (lv_at hl 0 rfl) ?_
      refine lv_iconst (v := (2 : Int32)) (pc := 10) hx hb dX11_closes_10 (by decide) ?_
      obtain ⟨v6, v7, hv6, hf⟩ := zc_2 hf
      refine zw_Vv (pc := 11) (wc := [zr_o ad f_thrown f_taped v2 v3 f_size v4 v5 f_wrong f_wrongAt f_faultKind f_faultPlace f_reading f_toldWhy f_x f_standMany f_bestMany f_tail f_round1]) (wr := [(ad 5, .inl (dA 0, 994, .inl b_fresh)), (ad 4, .inl (dA 0, 900, .inl b_tape))]) (w1 := [zr_o ad f_thrown f_taped v2 v3 f_size v4 v5 v6 v7 f_faultKind f_faultPlace f_reading f_toldWhy f_x f_standMany f_bestMany f_tail f_round1]) (As := [.int (2 : Int32)]) (rest := []) ⟨hx, hb, hml, hown, ht⟩ (zt_X11_fails l dC dI dA ad _ f_thrown f_taped v2 v3 f_size v4 v5 f_wrong f_wrongAt f_faultKind f_faultPlace f_reading f_toldWhy f_x f_standMany f_bestMany f_tail f_round1 (2 : Int32) v6 v7 hv6) (cwV 1 ht (zb_V (fun _ h => zb_l h) (zb_l zr_121) (zb_l zr_122) (zb_l zr_123) (zb_l zr_36) (zb_l zr_110)) rfl rfl rfl zk_X11_fails ⟨Nat.le_of_ble_eq_true rfl, Nat.le_of_ble_eq_true rfl⟩) rfl rfl hK hP hD hS hA [1] [0, 2] (by decide) (by decide) (by decide) rfl rfl rfl hl.1 (Nat.le_of_ble_eq_true rfl) dX11_closes_11 ⟨Nat.zero_le _, Nat.zero_le _⟩ rfl (fun H locs hP hD hS => ?_)
      have hP : va_P (dC, dI) zz_cls [(ad 5, .inl (dA 0, 994, .inl b_fresh)), (ad 4, .inl (dA 0, 900, .inl b_tape)), zr_o ad f_thrown f_taped v2 v3 f_size v4 v5 v6 v7 f_faultKind f_faultPlace f_reading f_toldWhy f_x f_standMany f_bestMany f_tail f_round1] H := hP
      have hD : va_D A [(ad 5, .inl (dA 0, 994, .inl b_fresh)), (ad 4, .inl (dA 0, 900, .inl b_tape)), zr_o ad f_thrown f_taped v2 v3 f_size v4 v5 v6 v7 f_faultKind f_faultPlace f_reading f_toldWhy f_x f_standMany f_bestMany f_tail f_round1] := hD
      obtain ⟨rfl, rfl⟩ := zi_2 hf
      exact J14 _ _ _ ⟨lv_sub hl [0] rfl, hP.sub [2, 1, 0] rfl, hD.sub [2, 1, 0] (by decide) rfl, hS⟩

def zb_X11_cliff_117 (n : Nat) (p1 : Int32) (b_tape : (Nat → Int32)) (v59 : Int32) (v60 : Int32) (v61 : Int32) (v62 : Int32) (v63 : Int32) (v64 : Int32) (v65 : Int32) (a66 : (Nat → Int32)) : Option (Nat × Int32 × Int32 × Int32 × Int32 × Int32 × Int32 × Int32 × (Nat → Int32)) :=
  if v63 = 0 then
    if v61 = (26 : Int32) then
      some (1, v59, v60, v61, v62, v63, v64, v65, a66)
    else
      zd_8 (zf_X11_readLine n v59 v60 p1 v61 v62 v63 v64 v65 b_tape a66) (fun v67 v68 v69 v70 v71 v72 v73 a74 =>
      zd_7 (zf_X11_closes n v67 v68 p1 v69 v70 v71 v72 b_tape a74) (fun v75 v76 v77 v78 v79 v80 a81 =>
      some (0, v75, v76, v77, v78, v79, v80, v73, a81)))
  else
    some (1, v59, v60, v61, v62, v63, v64, v65, a66)
def zb_X11_cliff_188 (a89 : (Nat → Int32)) (v92 : Int32) (a93 : (Nat → Int32)) : Option (Nat × Int32 × (Nat → Int32)) :=
  if (994 : Int32) ≤ v92 then
    some (1, v92, a93)
  else
    zd_1 (za_ld a89 994 v92) (fun v94 =>
    zd_1 (za_st a93 2982 v92 v94) (fun a95 =>
    zd_1 (some (v92 + (1 : Int32))) (fun v96 =>
    some (0, v96, a95))))
def zf_X11_cliff (n : Nat) (f_thrown : Int32) (f_taped : Int32) (f_at : Int32) (f_behind : Int32) (f_size : Int32) (f_kind : Int32) (f_number : Int32) (f_wrong : Int32) (f_wrongAt : Int32) (f_faultKind : Int32) (f_faultPlace : Int32) (f_reading : Int32) (b_all : (Nat → Int32)) (b_tape : (Nat → Int32)) (b_fresh : (Nat → Int32)) (p1 : Int32) : Option (Int32 × Int32 × Int32 × Int32 × Int32 × Int32 × Int32 × Int32 × Int32 × Int32 × Int32 × Int32 × Int32 × (Nat → Int32) × (Nat → Int32)) :=
  zd_1 (zf_X11_within (Int32.toInt64 p1) (0 : Int64) (Int32.toInt64 f_taped)) (fun v1 =>
  if v1 = 0 then
    some ((-3 : Int32), (0 : Int32), f_taped, f_at, f_behind, f_size, f_kind, f_number, f_wrong, f_wrongAt, f_faultKind, f_faultPlace, f_reading, b_all, b_fresh)
  else
    zd_1 (zf_X11_plain n 994 b_fresh) (fun a2 =>
    zd_4 (zf_X11_next n f_at (0 : Int32) p1 f_kind f_number b_tape) (fun v3 v4 v5 v6 =>
    zd_5 (zf_X11_eats n v3 v4 p1 v5 v6 (0 : Int32) b_tape (0 : Int32)) (fun v7 v8 v9 v10 v11 =>
    zd_6 (
      if v7 = 0 then
        zd_2 (zf_X11_fails v8 v10 (0 : Int32) f_wrongAt (2 : Int32)) (fun v12 v13 =>
        some (v8, v9, v10, v11, v12, v13))
      else
        zd_5 (zf_X11_eats n v8 v9 p1 v10 v11 (0 : Int32) b_tape (1 : Int32)) (fun v14 v15 v16 v17 v18 =>
        if v14 = 0 then
          zd_2 (zf_X11_fails v15 v17 (0 : Int32) f_wrongAt (2 : Int32)) (fun v19 v20 =>
          some (v15, v16, v17, v18, v19, v20))
        else
          some (v15, v16, v17, v18, (0 : Int32), f_wrongAt))) (fun v21 v22 v23 v24 v25 v26 =>
    zd_7 (zf_X11_takes n v21 v22 p1 v23 v24 v25 v26 b_tape (1 : Int32) (8 : Int32)) (fun v27 v28 v29 v30 v31 v32 v33 =>
    zd_1 (za_st a2 994 (1 : Int32) v27) (fun a34 =>
    zd_5 (zf_X11_eats n v28 v29 p1 v30 v31 v32 b_tape (2 : Int32)) (fun v35 v36 v37 v38 v39 =>
    zd_2 (
      if v35 = 0 then
        zd_2 (zf_X11_fails v36 v38 v32 v33 (2 : Int32)) (fun v40 v41 =>
        some (v40, v41))
      else
        some (v32, v33)) (fun v42 v43 =>
    zd_7 (zf_X11_takes n v36 v37 p1 v38 v39 v42 v43 b_tape (0 : Int32) (6 : Int32)) (fun v44 v45 v46 v47 v48 v49 v50 =>
    zd_1 (za_st a34 994 (2 : Int32) v44) (fun a51 =>
    zd_7 (zf_X11_closes n v45 v46 p1 v47 v48 v49 v50 b_tape a51) (fun v52 v53 v54 v55 v56 v57 a58 =>
    zd_9 (za_it (fun v => zb_X11_cliff_117 n p1 b_tape v.1 v.2.1 v.2.2.1 v.2.2.2.1 v.2.2.2.2.1 v.2.2.2.2.2.1 v.2.2.2.2.2.2.1 v.2.2.2.2.2.2.2) n (v52, v53, v54, v55, v56, v57, f_reading, a58)) (fun g90 v82 v83 v84 v85 v86 v87 v88 a89 =>
    zd_1 (
      if v86 = 0 then
        some (-1 : Int32)
      else
        some v87) (fun v91 =>
    if v86 = 0 then
      zd_3 (za_it (fun v => zb_X11_cliff_188 a89 v.1 v.2) n ((0 : Int32), b_all)) (fun g99 v97 a98 =>
      zd_1 (za_ld a98 2982 (0 : Int32)) (fun v100 =>
      some (v100, (0 : Int32), (0 : Int32), v82, v83, p1, v84, v85, v86, v87, v86, v91, v88, a98, a89)))
    else
      some (((-30 : Int32) - v86), (0 : Int32), (0 : Int32), v82, v83, p1, v84, v85, v86, v87, v86, v91, v88, b_all, a89)))))))))))))))
theorem zk_X11_cliff : yX11_cliff.cls = RX11 ∧ yX11_cliff.cls ≠ "java/lang/invoke/MethodHandle" ∧ yX11_cliff.cls ≠ "java/lang/invoke/VarHandle" ∧ (parseMethodDescriptor yX11_cliff.desc).map (fun d => d.parameters.length) = some 1 := by decide +kernel
set_option maxHeartbeats 4000000 in
set_option maxRecDepth 100000 in
theorem zt_X11_cliff (l : Launch) (dC : Nat → ClassId) (dI : Nat → Nat → Nat) (dA : Nat → ClassId) (ad : Nat → Nat) (adK adV : Nat → Nat) (sz : Nat) (n : Nat) (f_thrown : Int32) (f_taped : Int32) (f_at : Int32) (f_behind : Int32) (f_size : Int32) (f_kind : Int32) (f_number : Int32) (f_wrong : Int32) (f_wrongAt : Int32) (f_faultKind : Int32) (f_faultPlace : Int32) (f_reading : Int32) (f_toldWhy : Int32) (f_x : Int32) (f_standMany : Int32) (f_bestMany : Int32) (f_tail : Int32) (f_round1 : Int32) (b_all : (Nat → Int32)) (b_tape : (Nat → Int32)) (b_fresh : (Nat → Int32)) (p1 : Int32) (r0 : Int32) (o1 : Int32) (o2 : Int32) (o3 : Int32) (o4 : Int32) (o5 : Int32) (o6 : Int32) (o7 : Int32) (o8 : Int32) (o9 : Int32) (o10 : Int32) (o11 : Int32) (o12 : Int32) (o13 : (Nat → Int32)) (o14 : (Nat → Int32)) (hf : zf_X11_cliff n f_thrown f_taped f_at f_behind f_size f_kind f_number f_wrong f_wrongAt f_faultKind f_faultPlace f_reading b_all b_tape b_fresh p1 = some (r0, o1, o2, o3, o4, o5, o6, o7, o8, o9, o10, o11, o12, o13, o14)) : Met l yX11_cliff (.code yX11_cliff cX11_cliff 3 (some .int) :: zb_T) ({ frames := 70, cells := 0, slots := 0, locals := 2614 }) (va_Pc [.ref (ad 0), .int p1] (zx_M dC dI dA adK adV [zr_o ad f_thrown f_taped f_at f_behind f_size f_kind f_number f_wrong f_wrongAt f_faultKind f_faultPlace f_reading f_toldWhy f_x f_standMany f_bestMany f_tail f_round1, (ad 2, .inl (dA 0, 2982, .inl b_all)), (ad 4, .inl (dA 0, 900, .inl b_tape)), (ad 5, .inl (dA 0, 994, .inl b_fresh))] sz)) (va_Qi (fun (r : Int32) (_ : Unit) => r = r0) (fun _ t => zz_B dC dI dA (va_A [zr_o ad f_thrown f_taped f_at f_behind f_size f_kind f_number f_wrong f_wrongAt f_faultKind f_faultPlace f_reading f_toldWhy f_x f_standMany f_bestMany f_tail f_round1, (ad 2, .inl (dA 0, 2982, .inl b_all)), (ad 4, .inl (dA 0, 900, .inl b_tape)), (ad 5, .inl (dA 0, 994, .inl b_fresh))] sz) [zr_o ad o1 o2 o3 o4 o5 o6 o7 o8 o9 o10 o11 o12 f_toldWhy f_x f_standMany f_bestMany f_tail f_round1, (ad 2, .inl (dA 0, 2982, .inl o13)), (ad 4, .inl (dA 0, 900, .inl b_tape)), (ad 5, .inl (dA 0, 994, .inl o14))] t) (va_A [zr_o ad f_thrown f_taped f_at f_behind f_size f_kind f_number f_wrong f_wrongAt f_faultKind f_faultPlace f_reading f_toldWhy f_x f_standMany f_bestMany f_tail f_round1, (ad 2, .inl (dA 0, 2982, .inl b_all)), (ad 4, .inl (dA 0, 900, .inl b_tape)), (ad 5, .inl (dA 0, 994, .inl b_fresh))] sz)) 0 0 (va_A [zr_o ad f_thrown f_taped f_at f_behind f_size f_kind f_number f_wrong f_wrongAt f_faultKind f_faultPlace f_reading f_toldWhy f_x f_standMany f_bestMany f_tail f_round1, (ad 2, .inl (dA 0, 2982, .inl b_all)), (ad 4, .inl (dA 0, 900, .inl b_tape)), (ad 5, .inl (dA 0, 994, .inl b_fresh))] sz) := by
  unfold zf_X11_cliff at hf
  refine Met.ofW (cc := cX11_cliff) (maxL := 3) (ret := (some .int)) (by decide) rfl ?_
  intro p e s m args below meth c s₁ B hml hv
  obtain ⟨rfl, ⟨hsz, hP, hK, hD0⟩, hZ⟩ := hv
  have hx := B.exec
  have hb := B.bytes
  have hr := B.returns
  have ht : ∀ w ∈ zb_T, w.before ([.ref (ad 0), .int p1] : List Value).toArray s = true := fun w hw => atoms_spec (ws := .code yX11_cliff cX11_cliff 3 (some .int) :: zb_T) B.pre w (List.mem_cons_of_mem _ hw)
  have hown : s.vm.findClass RX11 = some m.cls := findClass_of_methodNamed B.named
  have hlocks := B.notSynchronized
  subst hsz
  have hD := hD0.self (sz := s.heap.size)
  generalize hAe : va_A [zr_o ad f_thrown f_taped f_at f_behind f_size f_kind f_number f_wrong f_wrongAt f_faultKind f_faultPlace f_reading f_toldWhy f_x f_standMany f_bestMany f_tail f_round1, (ad 2, .inl (dA 0, 2982, .inl b_all)), (ad 4, .inl (dA 0, 900, .inl b_tape)), (ad 5, .inl (dA 0, 994, .inl b_fresh))] s.heap.size = A at hD hZ ⊢
  have hA : ∀ q : Nat, s.heap.size ≤ q → A q := fun q h => by rw [← hAe]; exact Or.inr h
  clear hAe hD0
  have hS : va_S A s.heap s.heap [] := va_S.rf
  have hl := lv_entry ([.ref (ad 0), .int p1]) (n := 3) (Nat.le_of_ble_eq_true rfl)
  rw [lg_entry_eq]
  generalize (lg_sl ([.ref (ad 0), .int p1]) ++ List.replicate (3 - (lg_sl ([.ref (ad 0), .int p1])).length) Slot.unset).toArray = ls at hl ⊢
  have hl : lv_has ls 3 [(0, .ref (ad 0)), (1, .int p1)] := hl
  refine lv_aload_n (pc := 0) hx hb dX11_cliff_0 rfl (lv_at hl 0 rfl) ?_
  refine lv_iconst (v := (0 : Int32)) (pc := 1) hx hb dX11_cliff_1 (by decide) ?_
  refine va_put (pc := 2) (D := (dC, dI)) (ci := 0) (v := .int (0 : Int32)) (ty := .int) (C := RX11) (T := TX11) (N := 42) hx hb ht zb_lay tyX11 tyX11_ok nmX11 hown hK hP hD hS 0 rfl rfl 0 (by decide) (ht _ (zb_l zr_39)) (fun _ h9 => h9) rfl (by decide +kernel) rfl rfl (Nat.le_of_ble_eq_true rfl) dX11_cliff_2 (fun H locs hP hD hS => ?_)
  have hP : va_P (dC, dI) zz_cls [zr_o ad (0 : Int32) f_taped f_at f_behind f_size f_kind f_number f_wrong f_wrongAt f_faultKind f_faultPlace f_reading f_toldWhy f_x f_standMany f_bestMany f_tail f_round1, (ad 2, .inl (dA 0, 2982, .inl b_all)), (ad 4, .inl (dA 0, 900, .inl b_tape)), (ad 5, .inl (dA 0, 994, .inl b_fresh))] H := hP
  have hD : va_D A [zr_o ad (0 : Int32) f_taped f_at f_behind f_size f_kind f_number f_wrong f_wrongAt f_faultKind f_faultPlace f_reading f_toldWhy f_x f_standMany f_bestMany f_tail f_round1, (ad 2, .inl (dA 0, 2982, .inl b_all)), (ad 4, .inl (dA 0, 900, .inl b_tape)), (ad 5, .inl (dA 0, 994, .inl b_fresh))] := hD
  refine lv_iload_n (pc := 5) hx hb dX11_cliff_5 rfl (lv_at hl 1 rfl) ?_
  refine lv_i2l (pc := 6) hx hb dX11_cliff_6 rfl ?_
  refine lv_lconst (v := (0 : Int64)) (pc := 7) hx hb dX11_cliff_7 (by decide) ?_
  refine lv_aload_n (pc := 8) hx hb dX11_cliff_8 rfl (lv_at hl 0 rfl) ?_
  refine va_get (pc := 9) (D := (dC, dI)) (ci := 0) (v := .int f_taped) (C := RX11) (T := TX11) (N := 42) hx hb ht zb_lay hown hK hP 0 rfl rfl 5 (by decide) (ht _ (zb_l zr_40)) (fun _ h9 => h9) rfl dX11_cliff_9 ?_
  refine lv_i2l (pc := 12) hx hb dX11_cliff_12 rfl ?_
  obtain ⟨v1, hv1, hf⟩ := zc_1 hf
  refine zw_Si (pc := 13) (wc := []) (wr := [zr_o ad (0 : Int32) f_taped f_at f_behind f_size f_kind f_number f_wrong f_wrongAt f_faultKind f_faultPlace f_reading f_toldWhy f_x f_standMany f_bestMany f_tail f_round1, (ad 2, .inl (dA 0, 2982, .inl b_all)), (ad 4, .inl (dA 0, 900, .inl b_tape)), (ad 5, .inl (dA 0, 994, .inl b_fresh))]) (w1 := []) (As := [.long (Int32.toInt64 p1), .long (0 : Int64), .long (Int32.toInt64 f_taped)]) (rest := []) ⟨hx, hb, hml, hown, ht⟩ (zt_X11_within l dC dI dA ad _ (Int32.toInt64 p1) (0 : Int64) (Int32.toInt64 f_taped) v1 hv1) (cwS 3 ht (zb_S (fun _ h => zb_l h) (zb_l zr_124) (zb_l zr_125) (zb_l zr_36) (zb_l zr_0)) rfl rfl rfl zk_X11_within ⟨Nat.le_of_ble_eq_true rfl, Nat.le_of_ble_eq_true rfl⟩) hK hP hD hS hA [] [0, 1, 2, 3] (by decide) (by decide) (by decide) rfl rfl rfl hl.1 (Nat.le_of_ble_eq_true rfl) dX11_cliff_13 ⟨Nat.zero_le _, Nat.zero_le _⟩ rfl (fun H locs hP hD hS => ?_)
  have hP : va_P (dC, dI) zz_cls [zr_o ad (0 : Int32) f_taped f_at f_behind f_size f_kind f_number f_wrong f_wrongAt f_faultKind f_faultPlace f_reading f_toldWhy f_x f_standMany f_bestMany f_tail f_round1, (ad 2, .inl (dA 0, 2982, .inl b_all)), (ad 4, .inl (dA 0, 900, .inl b_tape)), (ad 5, .inl (dA 0, 994, .inl b_fresh))] H := hP
  have hD : va_D A [zr_o ad (0 : Int32) f_taped f_at f_behind f_size f_kind f_number f_wrong f_wrongAt f_faultKind f_faultPlace f_reading f_toldWhy f_x f_standMany f_bestMany f_tail f_round1, (ad 2, .inl (dA 0, 2982, .inl b_all)), (ad 4, .inl (dA 0, 900, .inl b_tape)), (ad 5, .inl (dA 0, 994, .inl b_fresh))] := hD
  refine lv_if_ne (tgt := 22) (pc := 16) hx hb dX11_cliff_16 rfl (fun hc => ?_) (fun hc => ?_)
  · have hf := za_f hf hc
    refine lv_aload_n (pc := 22) hx hb dX11_cliff_22 rfl (lv_at hl 0 rfl) ?_
    refine lv_iload_n (pc := 23) hx hb dX11_cliff_23 rfl (lv_at hl 1 rfl) ?_
    refine va_put (pc := 24) (D := (dC, dI)) (ci := 0) (v := .int p1) (ty := .int) (C := RX11) (T := TX11) (N := 42) hx hb ht zb_lay tyX11 tyX11_ok nmX11 hown hK hP hD hS 0 rfl rfl 8 (by decide) (ht _ (zb_l zr_42)) (fun _ h9 => h9) rfl (by decide +kernel) rfl rfl (Nat.le_of_ble_eq_true rfl) dX11_cliff_24 (fun H locs hP hD hS => ?_)
    have hP : va_P (dC, dI) zz_cls [zr_o ad (0 : Int32) f_taped f_at f_behind p1 f_kind f_number f_wrong f_wrongAt f_faultKind f_faultPlace f_reading f_toldWhy f_x f_standMany f_bestMany f_tail f_round1, (ad 2, .inl (dA 0, 2982, .inl b_all)), (ad 4, .inl (dA 0, 900, .inl b_tape)), (ad 5, .inl (dA 0, 994, .inl b_fresh))] H := hP
    have hD : va_D A [zr_o ad (0 : Int32) f_taped f_at f_behind p1 f_kind f_number f_wrong f_wrongAt f_faultKind f_faultPlace f_reading f_toldWhy f_x f_standMany f_bestMany f_tail f_round1, (ad 2, .inl (dA 0, 2982, .inl b_all)), (ad 4, .inl (dA 0, 900, .inl b_tape)), (ad 5, .inl (dA 0, 994, .inl b_fresh))] := hD
    refine lv_aload_n (pc := 27) hx hb dX11_cliff_27 rfl (lv_at hl 0 rfl) ?_
    refine lv_iconst (v := (0 : Int32)) (pc := 28) hx hb dX11_cliff_28 (by decide) ?_
    refine va_put (pc := 29) (D := (dC, dI)) (ci := 0) (v := .int (0 : Int32)) (ty := .int) (C := RX11) (T := TX11) (N := 42) hx hb ht zb_lay tyX11 tyX11_ok nmX11 hown hK hP hD hS 0 rfl rfl 5 (by decide) (ht _ (zb_l zr_40)) (fun _ h9 => h9) rfl (by decide +kernel) rfl rfl (Nat.le_of_ble_eq_true rfl) dX11_cliff_29 (fun H locs hP hD hS => ?_)
    have hP : va_P (dC, dI) zz_cls [zr_o ad (0 : Int32) (0 : Int32) f_at f_behind p1 f_kind f_number f_wrong f_wrongAt f_faultKind f_faultPlace f_reading f_toldWhy f_x f_standMany f_bestMany f_tail f_round1, (ad 2, .inl (dA 0, 2982, .inl b_all)), (ad 4, .inl (dA 0, 900, .inl b_tape)), (ad 5, .inl (dA 0, 994, .inl b_fresh))] H := hP
    have hD : va_D A [zr_o ad (0 : Int32) (0 : Int32) f_at f_behind p1 f_kind f_number f_wrong f_wrongAt f_faultKind f_faultPlace f_reading f_toldWhy f_x f_standMany f_bestMany f_tail f_round1, (ad 2, .inl (dA 0, 2982, .inl b_all)), (ad 4, .inl (dA 0, 900, .inl b_tape)), (ad 5, .inl (dA 0, 994, .inl b_fresh))] := hD
    refine lv_aload_n (pc := 32) hx hb dX11_cliff_32 rfl (lv_at hl 0 rfl) ?_
    refine lv_iconst (v := (0 : Int32)) (pc := 33) hx hb dX11_cliff_33 (by decide) ?_
    refine va_put (pc := 34) (D := (dC, dI)) (ci := 0) (v := .int (0 : Int32)) (ty := .int) (C := RX11) (T := TX11) (N := 42) hx hb ht zb_lay tyX11 tyX11_ok nmX11 hown hK hP hD hS 0 rfl rfl 7 (by decide) (ht _ (zb_l zr_46)) (fun _ h9 => h9) rfl (by decide +kernel) rfl rfl (Nat.le_of_ble_eq_true rfl) dX11_cliff_34 (fun H locs hP hD hS => ?_)
    have hP : va_P (dC, dI) zz_cls [zr_o ad (0 : Int32) (0 : Int32) f_at (0 : Int32) p1 f_kind f_number f_wrong f_wrongAt f_faultKind f_faultPlace f_reading f_toldWhy f_x f_standMany f_bestMany f_tail f_round1, (ad 2, .inl (dA 0, 2982, .inl b_all)), (ad 4, .inl (dA 0, 900, .inl b_tape)), (ad 5, .inl (dA 0, 994, .inl b_fresh))] H := hP
    have hD : va_D A [zr_o ad (0 : Int32) (0 : Int32) f_at (0 : Int32) p1 f_kind f_number f_wrong f_wrongAt f_faultKind f_faultPlace f_reading f_toldWhy f_x f_standMany f_bestMany f_tail f_round1, (ad 2, .inl (dA 0, 2982, .inl b_all)), (ad 4, .inl (dA 0, 900, .inl b_tape)), (ad 5, .inl (dA 0, 994, .inl b_fresh))] := hD
    refine lv_aload_n (pc := 37) hx hb dX11_cliff_37 rfl (lv_at hl 0 rfl) ?_
    refine lv_iconst (v := (0 : Int32)) (pc := 38) hx hb dX11_cliff_38 (by decide) ?_
    refine va_put (pc := 39) (D := (dC, dI)) (ci := 0) (v := .int (0 : Int32)) (ty := .int) (C := RX11) (T := TX11) (N := 42) hx hb ht zb_lay tyX11 tyX11_ok nmX11 hown hK hP hD hS 0 rfl rfl 11 (by decide) (ht _ (zb_l zr_111)) (fun _ h9 => h9) rfl (by decide +kernel) rfl rfl (Nat.le_of_ble_eq_true rfl) dX11_cliff_39 (fun H locs hP hD hS => ?_)
    have hP : va_P (dC, dI) zz_cls [zr_o ad (0 : Int32) (0 : Int32) f_at (0 : Int32) p1 f_kind f_number (0 : Int32) f_wrongAt f_faultKind f_faultPlace f_reading f_toldWhy f_x f_standMany f_bestMany f_tail f_round1, (ad 2, .inl (dA 0, 2982, .inl b_all)), (ad 4, .inl (dA 0, 900, .inl b_tape)), (ad 5, .inl (dA 0, 994, .inl b_fresh))] H := hP
    have hD : va_D A [zr_o ad (0 : Int32) (0 : Int32) f_at (0 : Int32) p1 f_kind f_number (0 : Int32) f_wrongAt f_faultKind f_faultPlace f_reading f_toldWhy f_x f_standMany f_bestMany f_tail f_round1, (ad 2, .inl (dA 0, 2982, .inl b_all)), (ad 4, .inl (dA 0, 900, .inl b_tape)), (ad 5, .inl (dA 0, 994, .inl b_fresh))] := hD
    refine lv_aload_n (pc := 42) hx hb dX11_cliff_42 rfl (lv_at hl 0 rfl) ?_
    refine va_get (pc := 43) (D := (dC, dI)) (ci := 0) (v := .ref (ad 5)) (C := RX11) (T := TX11) (N := 42) hx hb ht zb_lay hown hK hP 0 rfl rfl 4 (by decide) (ht _ (zb_l zr_10)) (fun _ h9 => h9) rfl dX11_cliff_43 ?_
    obtain ⟨a2, ha2, hf⟩ := zc_1 hf
    refine zw_Sv (pc := 46) (wc := [(ad 5, .inl (dA 0, 994, .inl b_fresh))]) (wr := [zr_o ad (0 : Int32) (0 : Int32) f_at (0 : Int32) p1 f_kind f_number (0 : Int32) f_wrongAt f_faultKind f_faultPlace f_reading f_toldWhy f_x f_standMany f_bestMany f_tail f_round1, (ad 2, .inl (dA 0, 2982, .inl b_all)), (ad 4, .inl (dA 0, 900, .inl b_tape))]) (w1 := [(ad 5, .inl (dA 0, 994, .inl a2))]) (As := [.ref (ad 5)]) (rest := []) ⟨hx, hb, hml, hown, ht⟩ (zt_X11_plain l dC dI dA ad _ (ad 5) 994 n b_fresh a2 ha2) (cwS 1 ht (zb_S (fun _ h => zb_l h) (zb_l zr_34) (zb_l zr_35) (zb_l zr_36) (zb_l zr_1)) rfl rfl rfl zk_X11_plain ⟨Nat.le_of_ble_eq_true rfl, Nat.le_of_ble_eq_true rfl⟩) hK hP hD hS hA [3] [0, 1, 2] (by decide) (by decide) (by decide) rfl rfl rfl hl.1 (Nat.le_of_ble_eq_true rfl) dX11_cliff_46 ⟨Nat.zero_le _, Nat.zero_le _⟩ rfl (fun H locs hP hD hS => ?_)
    have hP : va_P (dC, dI) zz_cls [zr_o ad (0 : Int32) (0 : Int32) f_at (0 : Int32) p1 f_kind f_number (0 : Int32) f_wrongAt f_faultKind f_faultPlace f_reading f_toldWhy f_x f_standMany f_bestMany f_tail f_round1, (ad 2, .inl (dA 0, 2982, .inl b_all)), (ad 4, .inl (dA 0, 900, .inl b_tape)), (ad 5, .inl (dA 0, 994, .inl a2))] H := hP
    have hD : va_D A [zr_o ad (0 : Int32) (0 : Int32) f_at (0 : Int32) p1 f_kind f_number (0 : Int32) f_wrongAt f_faultKind f_faultPlace f_reading f_toldWhy f_x f_standMany f_bestMany f_tail f_round1, (ad 2, .inl (dA 0, 2982, .inl b_all)), (ad 4, .inl (dA 0, 900, .inl b_tape)), (ad 5, .inl (dA 0, 994, .inl a2))] := hD
    refine lv_aload_n (pc := 49) hx hb dX11_cliff_49 rfl (lv_at hl 0 rfl) ?_
    obtain ⟨v3, v4, v5, v6, hv3, hf⟩ := zc_4 hf
    refine zx_Vv (pc := 50) (wc := [zr_o ad (0 : Int32) (0 : Int32) f_at (0 : Int32) p1 f_kind f_number (0 : Int32) f_wrongAt f_faultKind f_faultPlace f_reading f_toldWhy f_x f_standMany f_bestMany f_tail f_round1, (ad 4, .inl (dA 0, 900, .inl b_tape))]) (wr := [(ad 2, .inl (dA 0, 2982, .inl b_all)), (ad 5, .inl (dA 0, 994, .inl a2))]) (w1 := [zr_o ad (0 : Int32) (0 : Int32) v3 v4 p1 v5 v6 (0 : Int32) f_wrongAt f_faultKind f_faultPlace f_reading f_toldWhy f_x f_standMany f_bestMany f_tail f_round1, (ad 4, .inl (dA 0, 900, .inl b_tape))]) (As := []) (rest := []) ⟨hx, hb, hml, hown, ht⟩ (zt_X11_next l dC dI dA ad adK adV _ n (0 : Int32) (0 : Int32) f_at (0 : Int32) p1 f_kind f_number (0 : Int32) f_wrongAt f_faultKind f_faultPlace f_reading f_toldWhy f_x f_standMany f_bestMany f_tail f_round1 b_tape v3 v4 v5 v6 hv3) (cwV 0 ht (zb_V (fun _ h => zb_i h) (zb_l zr_117) (zb_l zr_118) (zb_l zr_119) (zb_l zr_36) (zb_l zr_109)) rfl rfl rfl zk_X11_next ⟨Nat.le_of_ble_eq_true rfl, Nat.le_of_ble_eq_true rfl⟩) rfl rfl hZ hK hP hD hS hA [0, 2] [1, 3] (by decide) (by decide) (by decide) rfl rfl rfl hl.1 (Nat.le_of_ble_eq_true rfl) dX11_cliff_50 ⟨Nat.zero_le _, Nat.zero_le _⟩ rfl (fun H locs hP hD hS => ?_)
    have hP : va_P (dC, dI) zz_cls [(ad 2, .inl (dA 0, 2982, .inl b_all)), (ad 5, .inl (dA 0, 994, .inl a2)), zr_o ad (0 : Int32) (0 : Int32) v3 v4 p1 v5 v6 (0 : Int32) f_wrongAt f_faultKind f_faultPlace f_reading f_toldWhy f_x f_standMany f_bestMany f_tail f_round1, (ad 4, .inl (dA 0, 900, .inl b_tape))] H := hP
    have hD : va_D A [(ad 2, .inl (dA 0, 2982, .inl b_all)), (ad 5, .inl (dA 0, 994, .inl a2)), zr_o ad (0 : Int32) (0 : Int32) v3 v4 p1 v5 v6 (0 : Int32) f_wrongAt f_faultKind f_faultPlace f_reading f_toldWhy f_x f_standMany f_bestMany f_tail f_round1, (ad 4, .inl (dA 0, 900, .inl b_tape))] := hD
    refine lv_aload_n (pc := 53) hx hb dX11_cliff_53 rfl (lv_at hl 0 rfl) ?_
    refine lv_iconst (v := (0 : Int32)) (pc := 54) hx hb dX11_cliff_54 (by decide) ?_
    obtain ⟨v7, v8, v9, v10, v11, hv7, hf⟩ := zc_5 hf
    refine zx_Vi (pc := 55) (wc := [zr_o ad (0 : Int32) (0 : Int32) v3 v4 p1 v5 v6 (0 : Int32) f_wrongAt f_faultKind f_faultPlace f_reading f_toldWhy f_x f_standMany f_bestMany f_tail f_round1, (ad 4, .inl (dA 0, 900, .inl b_tape))]) (wr := [(ad 2, .inl (dA 0, 2982, .inl b_all)), (ad 5, .inl (dA 0, 994, .inl a2))]) (w1 := [zr_o ad (0 : Int32) (0 : Int32) v8 v9 p1 v10 v11 (0 : Int32) f_wrongAt f_faultKind f_faultPlace f_reading f_toldWhy f_x f_standMany f_bestMany f_tail f_round1, (ad 4, .inl (dA 0, 900, .inl b_tape))]) (As := [.int (0 : Int32)]) (rest := []) ⟨hx, hb, hml, hown, ht⟩ (zt_X11_eats l dC dI dA ad adK adV _ n (0 : Int32) (0 : Int32) v3 v4 p1 v5 v6 (0 : Int32) f_wrongAt f_faultKind f_faultPlace f_reading f_toldWhy f_x f_standMany f_bestMany f_tail f_round1 b_tape (0 : Int32) v7 v8 v9 v10 v11 hv7) (cwV 1 ht (zb_V (fun _ h => zb_i h) (zb_l zr_144) (zb_l zr_145) (zb_l zr_146) (zb_l zr_36) (zb_l zr_120)) rfl rfl rfl zk_X11_eats ⟨Nat.le_of_ble_eq_true rfl, Nat.le_of_ble_eq_true rfl⟩) rfl rfl hZ hK hP hD hS hA [2, 3] [0, 1] (by decide) (by decide) (by decide) rfl rfl rfl hl.1 (Nat.le_of_ble_eq_true rfl) dX11_cliff_55 ⟨Nat.zero_le _, Nat.zero_le _⟩ rfl (fun H locs hP hD hS => ?_)
    have hP : va_P (dC, dI) zz_cls [(ad 2, .inl (dA 0, 2982, .inl b_all)), (ad 5, .inl (dA 0, 994, .inl a2)), zr_o ad (0 : Int32) (0 : Int32) v8 v9 p1 v10 v11 (0 : Int32) f_wrongAt f_faultKind f_faultPlace f_reading f_toldWhy f_x f_standMany f_bestMany f_tail f_round1, (ad 4, .inl (dA 0, 900, .inl b_tape))] H := hP
    have hD : va_D A [(ad 2, .inl (dA 0, 2982, .inl b_all)), (ad 5, .inl (dA 0, 994, .inl a2)), zr_o ad (0 : Int32) (0 : Int32) v8 v9 p1 v10 v11 (0 : Int32) f_wrongAt f_faultKind f_faultPlace f_reading f_toldWhy f_x f_standMany f_bestMany f_tail f_round1, (ad 4, .inl (dA 0, 900, .inl b_tape))] := hD
    obtain ⟨v21, v22, v23, v24, v25, v26, hj, hf⟩ := zc_6 hf
    refine zj_join (pcJ := 74) (stk := []) (X := fun H locs ls => lv_has ls 3 [(0, .ref (ad 0))] ∧ va_P (dC, dI) zz_cls [zr_o ad (0 : Int32) (0 : Int32) v21 v22 p1 v23 v24 v25 v26 f_faultKind f_faultPlace f_reading f_toldWhy f_x f_standMany f_bestMany f_tail f_round1, (ad 2, .inl (dA 0, 2982, .inl b_all)), (ad 4, .inl (dA 0, 900, .inl b_tape)), (ad 5, .inl (dA 0, 994, .inl a2))] H ∧ va_D A [zr_o ad (0 : Int32) (0 : Int32) v21 v22 p1 v23 v24 v25 v26 f_faultKind f_faultPlace f_reading f_toldWhy f_x f_standMany f_bestMany f_tail f_round1, (ad 2, .inl (dA 0, 2982, .inl b_all)), (ad 4, .inl (dA 0, 900, .inl b_tape)), (ad 5, .inl (dA 0, 994, .inl a2))] ∧ va_S A s.heap H locs) (fun H locs ls hX => ?_) (fun J74 => ?_)
    · obtain ⟨hl, hP, hD, hS⟩ := hX
      clear hj
      refine lv_aload_n (pc := 74) hx hb dX11_cliff_74 rfl (lv_at hl 0 rfl) ?_
      refine va_get (pc := 75) (D := (dC, dI)) (ci := 0) (v := .ref (ad 5)) (C := RX11) (T := TX11) (N := 42) hx hb ht zb_lay hown hK hP 0 rfl rfl 4 (by decide) (ht _ (zb_l zr_10)) (fun _ h9 => h9) rfl dX11_cliff_75 ?_
      refine lv_iconst (v := (1 : Int32)) (pc := 78) hx hb dX11_cliff_78 (by decide) ?_
      refine lv_aload_n (pc := 79) hx hb dX11_cliff_79 rfl (lv_at hl 0 rfl) ?_
      refine lv_iconst (v := (1 : Int32)) (pc := 80) hx hb dX11_cliff_80 (by decide) ?_
      refine lv_bipush (v := (8 : Int32)) (pc := 81) hx hb dX11_cliff_81 (by decide) ?_
      obtain ⟨v27, v28, v29, v30, v31, v32, v33, hv27, hf⟩ := zc_7 hf
      refine zx_Vi (pc := 83) (wc := [zr_o ad (0 : Int32) (0 : Int32) v21 v22 p1 v23 v24 v25 v26 f_faultKind f_faultPlace f_reading f_toldWhy f_x f_standMany f_bestMany f_tail f_round1, (ad 4, .inl (dA 0, 900, .inl b_tape))]) (wr := [(ad 2, .inl (dA 0, 2982, .inl b_all)), (ad 5, .inl (dA 0, 994, .inl a2))]) (w1 := [zr_o ad (0 : Int32) (0 : Int32) v28 v29 p1 v30 v31 v32 v33 f_faultKind f_faultPlace f_reading f_toldWhy f_x f_standMany f_bestMany f_tail f_round1, (ad 4, .inl (dA 0, 900, .inl b_tape))]) (As := [.int (1 : Int32), .int (8 : Int32)]) (rest := [.int (1 : Int32), .ref (ad 5)]) ⟨hx, hb, hml, hown, ht⟩ (zt_X11_takes l dC dI dA ad adK adV _ n (0 : Int32) (0 : Int32) v21 v22 p1 v23 v24 v25 v26 f_faultKind f_faultPlace f_reading f_toldWhy f_x f_standMany f_bestMany f_tail f_round1 b_tape (1 : Int32) (8 : Int32) v27 v28 v29 v30 v31 v32 v33 hv27) (cwV 2 ht (zb_V (fun _ h => zb_i h) (zb_l zr_172) (zb_l zr_173) (zb_l zr_174) (zb_l zr_36) (zb_l zr_126)) rfl rfl rfl zk_X11_takes ⟨Nat.le_of_ble_eq_true rfl, Nat.le_of_ble_eq_true rfl⟩) rfl rfl hZ hK hP hD hS hA [0, 2] [1, 3] (by decide) (by decide) (by decide) rfl rfl rfl hl.1 (Nat.le_of_ble_eq_true rfl) dX11_cliff_83 ⟨Nat.zero_le _, Nat.zero_le _⟩ rfl (fun H locs hP hD hS => ?_)
      have hP : va_P (dC, dI) zz_cls [(ad 2, .inl (dA 0, 2982, .inl b_all)), (ad 5, .inl (dA 0, 994, .inl a2)), zr_o ad (0 : Int32) (0 : Int32) v28 v29 p1 v30 v31 v32 v33 f_faultKind f_faultPlace f_reading f_toldWhy f_x f_standMany f_bestMany f_tail f_round1, (ad 4, .inl (dA 0, 900, .inl b_tape))] H := hP
      have hD : va_D A [(ad 2, .inl (dA 0, 2982, .inl b_all)), (ad 5, .inl (dA 0, 994, .inl a2)), zr_o ad (0 : Int32) (0 : Int32) v28 v29 p1 v30 v31 v32 v33 f_faultKind f_faultPlace f_reading f_toldWhy f_x f_standMany f_bestMany f_tail f_round1, (ad 4, .inl (dA 0, 900, .inl b_tape))] := hD
      obtain ⟨a34, ha34, hf⟩ := zc_1 hf
      refine zw_iast (pc := 86) hx hb hK hP hD hS 1 0 rfl rfl ha34 dX11_cliff_86 (fun H locs hP hD hS => ?_)
      have hP : va_P (dC, dI) zz_cls [(ad 2, .inl (dA 0, 2982, .inl b_all)), (ad 5, .inl (dA 0, 994, .inl a34)), zr_o ad (0 : Int32) (0 : Int32) v28 v29 p1 v30 v31 v32 v33 f_faultKind f_faultPlace f_reading f_toldWhy f_x f_standMany f_bestMany f_tail f_round1, (ad 4, .inl (dA 0, 900, .inl b_tape))] H := hP
      have hD : va_D A [(ad 2, .inl (dA 0, 2982, .inl b_all)), (ad 5, .inl (dA 0, 994, .inl a34)), zr_o ad (0 : Int32) (0 : Int32) v28 v29 p1 v30 v31 v32 v33 f_faultKind f_faultPlace f_reading f_toldWhy f_x f_standMany f_bestMany f_tail f_round1, (ad 4, .inl (dA 0, 900, .inl b_tape))] := hD
      refine lv_aload_n (pc := 87) hx hb dX11_cliff_87 rfl (lv_at hl 0 rfl) ?_
      refine lv_iconst (v := (2 : Int32)) (pc := 88) hx hb dX11_cliff_88 (by decide) ?_
      obtain ⟨v35, v36, v37, v38, v39, hv35, hf⟩ := zc_5 hf
      refine zx_Vi (pc := 89) (wc := [zr_o ad (0 : Int32) (0 : Int32) v28 v29 p1 v30 v31 v32 v33 f_faultKind f_faultPlace f_reading f_toldWhy f_x f_standMany f_bestMany f_tail f_round1, (ad 4, .inl (dA 0, 900, .inl b_tape))]) (wr := [(ad 2, .inl (dA 0, 2982, .inl b_all)), (ad 5, .inl (dA 0, 994, .inl a34))]) (w1 := [zr_o ad (0 : Int32) (0 : Int32) v36 v37 p1 v38 v39 v32 v33 f_faultKind f_faultPlace f_reading f_toldWhy f_x f_standMany f_bestMany f_tail f_round1, (ad 4, .inl (dA 0, 900, .inl b_tape))]) (As := [.int (2 : Int32)]) (rest := []) ⟨hx, hb, hml, hown, ht⟩ (zt_X11_eats l dC dI dA ad adK adV _ n (0 : Int32) (0 : Int32) v28 v29 p1 v30 v31 v32 v33 f_faultKind f_faultPlace f_reading f_toldWhy f_x f_standMany f_bestMany f_tail f_round1 b_tape (2 : Int32) v35 v36 v37 v38 v39 hv35) (cwV 1 ht (zb_V (fun _ h => zb_i h) (zb_l zr_144) (zb_l zr_145) (zb_l zr_146) (zb_l zr_36) (zb_l zr_120)) rfl rfl rfl zk_X11_eats ⟨Nat.le_of_ble_eq_true rfl, Nat.le_of_ble_eq_true rfl⟩) rfl rfl hZ hK hP hD hS hA [2, 3] [0, 1] (by decide) (by decide) (by decide) rfl rfl rfl hl.1 (Nat.le_of_ble_eq_true rfl) dX11_cliff_89 ⟨Nat.zero_le _, Nat.zero_le _⟩ rfl (fun H locs hP hD hS => ?_)
      have hP : va_P (dC, dI) zz_cls [(ad 2, .inl (dA 0, 2982, .inl b_all)), (ad 5, .inl (dA 0, 994, .inl a34)), zr_o ad (0 : Int32) (0 : Int32) v36 v37 p1 v38 v39 v32 v33 f_faultKind f_faultPlace f_reading f_toldWhy f_x f_standMany f_bestMany f_tail f_round1, (ad 4, .inl (dA 0, 900, .inl b_tape))] H := hP
      have hD : va_D A [(ad 2, .inl (dA 0, 2982, .inl b_all)), (ad 5, .inl (dA 0, 994, .inl a34)), zr_o ad (0 : Int32) (0 : Int32) v36 v37 p1 v38 v39 v32 v33 f_faultKind f_faultPlace f_reading f_toldWhy f_x f_standMany f_bestMany f_tail f_round1, (ad 4, .inl (dA 0, 900, .inl b_tape))] := hD
      obtain ⟨v42, v43, hj, hf⟩ := zc_2 hf
      refine zj_join (pcJ := 100) (stk := []) (X := fun H locs ls => lv_has ls 3 [(0, .ref (ad 0))] ∧ va_P (dC, dI) zz_cls [zr_o ad (0 : Int32) (0 : Int32) v36 v37 p1 v38 v39 v42 v43 f_faultKind f_faultPlace f_reading f_toldWhy f_x f_standMany f_bestMany f_tail f_round1, (ad 2, .inl (dA 0, 2982, .inl b_all)), (ad 4, .inl (dA 0, 900, .inl b_tape)), (ad 5, .inl (dA 0, 994, .inl a34))] H ∧ va_D A [zr_o ad (0 : Int32) (0 : Int32) v36 v37 p1 v38 v39 v42 v43 f_faultKind f_faultPlace f_reading f_toldWhy f_x f_standMany f_bestMany f_tail f_round1, (ad 2, .inl (dA 0, 2982, .inl b_all)), (ad 4, .inl (dA 0, 900, .inl b_tape)), (ad 5, .inl (dA 0, 994, .inl a34))] ∧ va_S A s.heap H locs) (fun H locs ls hX => ?_) (fun J100 => ?_)
      · obtain ⟨hl, hP, hD, hS⟩ := hX
        clear hj
        refine lv_aload_n (pc := 100) hx hb dX11_cliff_100 rfl (lv_at hl 0 rfl) ?_
        refine va_get (pc := 101) (D := (dC, dI)) (ci := 0) (v := .ref (ad 5)) (C := RX11) (T := TX11) (N := 42) hx hb ht zb_lay hown hK hP 0 rfl rfl 4 (by decide) (ht _ (zb_l zr_10)) (fun _ h9 => h9) rfl dX11_cliff_101 ?_
        refine lv_iconst (v := (2 : Int32)) (pc := 104) hx hb dX11_cliff_104 (by decide) ?_
        refine lv_aload_n (pc := 105) hx hb dX11_cliff_105 rfl (lv_at hl 0 rfl) ?_
        refine lv_iconst (v := (0 : Int32)) (pc := 106) hx hb dX11_cliff_106 (by decide) ?_
        refine lv_bipush (v := (6 : Int32)) (pc := 107) hx hb dX11_cliff_107 (by decide) ?_
        obtain ⟨v44, v45, v46, v47, v48, v49, v50, hv44, hf⟩ := zc_7 hf
        refine zx_Vi (pc := 109) (wc := [zr_o ad (0 : Int32) (0 : Int32) v36 v37 p1 v38 v39 v42 v43 f_faultKind f_faultPlace f_reading f_toldWhy f_x f_standMany f_bestMany f_tail f_round1, (ad 4, .inl (dA 0, 900, .inl b_tape))]) (wr := [(ad 2, .inl (dA 0, 2982, .inl b_all)), (ad 5, .inl (dA 0, 994, .inl a34))]) (w1 := [zr_o ad (0 : Int32) (0 : Int32) v45 v46 p1 v47 v48 v49 v50 f_faultKind f_faultPlace f_reading f_toldWhy f_x f_standMany f_bestMany f_tail f_round1, (ad 4, .inl (dA 0, 900, .inl b_tape))]) (As := [.int (0 : Int32), .int (6 : Int32)]) (rest := [.int (2 : Int32), .ref (ad 5)]) ⟨hx, hb, hml, hown, ht⟩ (zt_X11_takes l dC dI dA ad adK adV _ n (0 : Int32) (0 : Int32) v36 v37 p1 v38 v39 v42 v43 f_faultKind f_faultPlace f_reading f_toldWhy f_x f_standMany f_bestMany f_tail f_round1 b_tape (0 : Int32) (6 : Int32) v44 v45 v46 v47 v48 v49 v50 hv44) (cwV 2 ht (zb_V (fun _ h => zb_i h) (zb_l zr_172) (zb_l zr_173) (zb_l zr_174) (zb_l zr_36) (zb_l zr_126)) rfl rfl rfl zk_X11_takes ⟨Nat.le_of_ble_eq_true rfl, Nat.le_of_ble_eq_true rfl⟩) rfl rfl hZ hK hP hD hS hA [0, 2] [1, 3] (by decide) (by decide) (by decide) rfl rfl rfl hl.1 (Nat.le_of_ble_eq_true rfl) dX11_cliff_109 ⟨Nat.zero_le _, Nat.zero_le _⟩ rfl (fun H locs hP hD hS => ?_)
        have hP : va_P (dC, dI) zz_cls [(ad 2, .inl (dA 0, 2982, .inl b_all)), (ad 5, .inl (dA 0, 994, .inl a34)), zr_o ad (0 : Int32) (0 : Int32) v45 v46 p1 v47 v48 v49 v50 f_faultKind f_faultPlace f_reading f_toldWhy f_x f_standMany f_bestMany f_tail f_round1, (ad 4, .inl (dA 0, 900, .inl b_tape))] H := hP
        have hD : va_D A [(ad 2, .inl (dA 0, 2982, .inl b_all)), (ad 5, .inl (dA 0, 994, .inl a34)), zr_o ad (0 : Int32) (0 : Int32) v45 v46 p1 v47 v48 v49 v50 f_faultKind f_faultPlace f_reading f_toldWhy f_x f_standMany f_bestMany f_tail f_round1, (ad 4, .inl (dA 0, 900, .inl b_tape))] := hD
        obtain ⟨a51, ha51, hf⟩ := zc_1 hf
        refine zw_iast (pc := 112) hx hb hK hP hD hS 1 0 rfl rfl ha51 dX11_cliff_112 (fun H locs hP hD hS => ?_)
        have hP : va_P (dC, dI) zz_cls [(ad 2, .inl (dA 0, 2982, .inl b_all)), (ad 5, .inl (dA 0, 994, .inl a51)), zr_o ad (0 : Int32) (0 : Int32) v45 v46 p1 v47 v48 v49 v50 f_faultKind f_faultPlace f_reading f_toldWhy f_x f_standMany f_bestMany f_tail f_round1, (ad 4, .inl (dA 0, 900, .inl b_tape))] H := hP
        have hD : va_D A [(ad 2, .inl (dA 0, 2982, .inl b_all)), (ad 5, .inl (dA 0, 994, .inl a51)), zr_o ad (0 : Int32) (0 : Int32) v45 v46 p1 v47 v48 v49 v50 f_faultKind f_faultPlace f_reading f_toldWhy f_x f_standMany f_bestMany f_tail f_round1, (ad 4, .inl (dA 0, 900, .inl b_tape))] := hD
        refine lv_aload_n (pc := 113) hx hb dX11_cliff_113 rfl (lv_at hl 0 rfl) ?_
        obtain ⟨v52, v53, v54, v55, v56, v57, a58, hv52, hf⟩ := zc_7 hf
        refine zx_Vv (pc := 114) (wc := [zr_o ad (0 : Int32) (0 : Int32) v45 v46 p1 v47 v48 v49 v50 f_faultKind f_faultPlace f_reading f_toldWhy f_x f_standMany f_bestMany f_tail f_round1, (ad 4, .inl (dA 0, 900, .inl b_tape)), (ad 5, .inl (dA 0, 994, .inl a51))]) (wr := [(ad 2, .inl (dA 0, 2982, .inl b_all))]) (w1 := [zr_o ad (0 : Int32) (0 : Int32) v52 v53 p1 v54 v55 v56 v57 f_faultKind f_faultPlace f_reading f_toldWhy f_x f_standMany f_bestMany f_tail f_round1, (ad 4, .inl (dA 0, 900, .inl b_tape)), (ad 5, .inl (dA 0, 994, .inl a58))]) (As := []) (rest := []) ⟨hx, hb, hml, hown, ht⟩ (zt_X11_closes l dC dI dA ad adK adV _ n (0 : Int32) (0 : Int32) v45 v46 p1 v47 v48 v49 v50 f_faultKind f_faultPlace f_reading f_toldWhy f_x f_standMany f_bestMany f_tail f_round1 b_tape a51 v52 v53 v54 v55 v56 v57 a58 hv52) (cwV 0 ht (zb_V (fun _ h => zb_i h) (zb_l zr_198) (zb_l zr_199) (zb_l zr_200) (zb_l zr_36) (zb_l zr_196)) rfl rfl rfl zk_X11_closes ⟨Nat.le_of_ble_eq_true rfl, Nat.le_of_ble_eq_true rfl⟩) rfl rfl hZ hK hP hD hS hA [2, 3, 1] [0] (by decide) (by decide) (by decide) rfl rfl rfl hl.1 (Nat.le_of_ble_eq_true rfl) dX11_cliff_114 ⟨Nat.zero_le _, Nat.zero_le _⟩ rfl (fun H locs hP hD hS => ?_)
        have hP : va_P (dC, dI) zz_cls [(ad 2, .inl (dA 0, 2982, .inl b_all)), zr_o ad (0 : Int32) (0 : Int32) v52 v53 p1 v54 v55 v56 v57 f_faultKind f_faultPlace f_reading f_toldWhy f_x f_standMany f_bestMany f_tail f_round1, (ad 4, .inl (dA 0, 900, .inl b_tape)), (ad 5, .inl (dA 0, 994, .inl a58))] H := hP
        have hD : va_D A [(ad 2, .inl (dA 0, 2982, .inl b_all)), zr_o ad (0 : Int32) (0 : Int32) v52 v53 p1 v54 v55 v56 v57 f_faultKind f_faultPlace f_reading f_toldWhy f_x f_standMany f_bestMany f_tail f_round1, (ad 4, .inl (dA 0, 900, .inl b_tape)), (ad 5, .inl (dA 0, 994, .inl a58))] := hD
        obtain ⟨g90, v82, v83, v84, v85, v86, v87, v88, a89, hj, hf⟩ := zc_9 hf
        refine zj_join (pcJ := 144) (stk := []) (X := fun H locs ls => lv_has ls 3 [(0, .ref (ad 0))] ∧ va_P (dC, dI) zz_cls [zr_o ad (0 : Int32) (0 : Int32) v82 v83 p1 v84 v85 v86 v87 f_faultKind f_faultPlace v88 f_toldWhy f_x f_standMany f_bestMany f_tail f_round1, (ad 2, .inl (dA 0, 2982, .inl b_all)), (ad 4, .inl (dA 0, 900, .inl b_tape)), (ad 5, .inl (dA 0, 994, .inl a89))] H ∧ va_D A [zr_o ad (0 : Int32) (0 : Int32) v82 v83 p1 v84 v85 v86 v87 f_faultKind f_faultPlace v88 f_toldWhy f_x f_standMany f_bestMany f_tail f_round1, (ad 2, .inl (dA 0, 2982, .inl b_all)), (ad 4, .inl (dA 0, 900, .inl b_tape)), (ad 5, .inl (dA 0, 994, .inl a89))] ∧ va_S A s.heap H locs) (fun H locs ls hX => ?_) (fun E144 => ?_)
        · obtain ⟨hl, hP, hD, hS⟩ := hX
          clear hj
          refine lv_aload_n (pc := 144) hx hb dX11_cliff_144 rfl (lv_at hl 0 rfl) ?_
          refine lv_aload_n (pc := 145) hx hb dX11_cliff_145 rfl (lv_at hl 0 rfl) ?_
          refine va_get (pc := 146) (D := (dC, dI)) (ci := 0) (v := .int v86) (C := RX11) (T := TX11) (N := 42) hx hb ht zb_lay hown hK hP 0 rfl rfl 11 (by decide) (ht _ (zb_l zr_111)) (fun _ h9 => h9) rfl dX11_cliff_146 ?_
          refine va_put (pc := 149) (D := (dC, dI)) (ci := 0) (v := .int v86) (ty := .int) (C := RX11) (T := TX11) (N := 42) hx hb ht zb_lay tyX11 tyX11_ok nmX11 hown hK hP hD hS 0 rfl rfl 13 (by decide) (ht _ (zb_l zr_197)) (fun _ h9 => h9) rfl (by decide +kernel) rfl rfl (Nat.le_of_ble_eq_true rfl) dX11_cliff_149 (fun H locs hP hD hS => ?_)
          have hP : va_P (dC, dI) zz_cls [zr_o ad (0 : Int32) (0 : Int32) v82 v83 p1 v84 v85 v86 v87 v86 f_faultPlace v88 f_toldWhy f_x f_standMany f_bestMany f_tail f_round1, (ad 2, .inl (dA 0, 2982, .inl b_all)), (ad 4, .inl (dA 0, 900, .inl b_tape)), (ad 5, .inl (dA 0, 994, .inl a89))] H := hP
          have hD : va_D A [zr_o ad (0 : Int32) (0 : Int32) v82 v83 p1 v84 v85 v86 v87 v86 f_faultPlace v88 f_toldWhy f_x f_standMany f_bestMany f_tail f_round1, (ad 2, .inl (dA 0, 2982, .inl b_all)), (ad 4, .inl (dA 0, 900, .inl b_tape)), (ad 5, .inl (dA 0, 994, .inl a89))] := hD
          refine lv_aload_n (pc := 152) hx hb dX11_cliff_152 rfl (lv_at hl 0 rfl) ?_
          refine lv_aload_n (pc := 153) hx hb dX11_cliff_153 rfl (lv_at hl 0 rfl) ?_
          refine va_get (pc := 154) (D := (dC, dI)) (ci := 0) (v := .int v86) (C := RX11) (T := TX11) (N := 42) hx hb ht zb_lay hown hK hP 0 rfl rfl 11 (by decide) (ht _ (zb_l zr_111)) (fun _ h9 => h9) rfl dX11_cliff_154 ?_
          obtain ⟨v91, hj, hf⟩ := zc_1 hf
          refine zj_join (pcJ := 168) (stk := [.int v91, .ref (ad 0)]) (X := fun H locs ls => lv_has ls 3 [(0, .ref (ad 0))] ∧ va_P (dC, dI) zz_cls [zr_o ad (0 : Int32) (0 : Int32) v82 v83 p1 v84 v85 v86 v87 v86 f_faultPlace v88 f_toldWhy f_x f_standMany f_bestMany f_tail f_round1, (ad 2, .inl (dA 0, 2982, .inl b_all)), (ad 4, .inl (dA 0, 900, .inl b_tape)), (ad 5, .inl (dA 0, 994, .inl a89))] H ∧ va_D A [zr_o ad (0 : Int32) (0 : Int32) v82 v83 p1 v84 v85 v86 v87 v86 f_faultPlace v88 f_toldWhy f_x f_standMany f_bestMany f_tail f_round1, (ad 2, .inl (dA 0, 2982, .inl b_all)), (ad 4, .inl (dA 0, 900, .inl b_tape)), (ad 5, .inl (dA 0, 994, .inl a89))] ∧ va_S A s.heap H locs) (fun H locs ls hX => ?_) (fun J168 => ?_)
          · obtain ⟨hl, hP, hD, hS⟩ := hX
            clear hj
            refine va_put (pc := 168) (D := (dC, dI)) (ci := 0) (v := .int v91) (ty := .int) (C := RX11) (T := TX11) (N := 42) hx hb ht zb_lay tyX11 tyX11_ok nmX11 hown hK hP hD hS 0 rfl rfl 14 (by decide) (ht _ (zb_l zr_11)) (fun _ h9 => h9) rfl (by decide +kernel) rfl rfl (Nat.le_of_ble_eq_true rfl) dX11_cliff_168 (fun H locs hP hD hS => ?_)
            have hP : va_P (dC, dI) zz_cls [zr_o ad (0 : Int32) (0 : Int32) v82 v83 p1 v84 v85 v86 v87 v86 v91 v88 f_toldWhy f_x f_standMany f_bestMany f_tail f_round1, (ad 2, .inl (dA 0, 2982, .inl b_all)), (ad 4, .inl (dA 0, 900, .inl b_tape)), (ad 5, .inl (dA 0, 994, .inl a89))] H := hP
            have hD : va_D A [zr_o ad (0 : Int32) (0 : Int32) v82 v83 p1 v84 v85 v86 v87 v86 v91 v88 f_toldWhy f_x f_standMany f_bestMany f_tail f_round1, (ad 2, .inl (dA 0, 2982, .inl b_all)), (ad 4, .inl (dA 0, 900, .inl b_tape)), (ad 5, .inl (dA 0, 994, .inl a89))] := hD
            refine lv_aload_n (pc := 171) hx hb dX11_cliff_171 rfl (lv_at hl 0 rfl) ?_
            refine va_get (pc := 172) (D := (dC, dI)) (ci := 0) (v := .int v86) (C := RX11) (T := TX11) (N := 42) hx hb ht zb_lay hown hK hP 0 rfl rfl 11 (by decide) (ht _ (zb_l zr_111)) (fun _ h9 => h9) rfl dX11_cliff_172 ?_
            refine lv_if_eq (tgt := 186) (pc := 175) hx hb dX11_cliff_175 rfl (fun hc => ?_) (fun hc => ?_)
            · have hf := za_t hf hc
              refine lv_iconst (v := (0 : Int32)) (pc := 186) hx hb dX11_cliff_186 (by decide) ?_
              refine lv_istore_n (lv' := [(2, .int (0 : Int32)), (0, .ref (ad 0))]) (pc := 187) hx hb dX11_cliff_187 rfl hl (by decide) rfl (fun ls hl => ?_)
              obtain ⟨g99, v97, a98, hj, hf⟩ := zc_3 hf
              refine zj_join (pcJ := 213) (stk := []) (X := fun H locs ls => lv_has ls 3 [(0, .ref (ad 0))] ∧ va_P (dC, dI) zz_cls [zr_o ad (0 : Int32) (0 : Int32) v82 v83 p1 v84 v85 v86 v87 v86 v91 v88 f_toldWhy f_x f_standMany f_bestMany f_tail f_round1, (ad 2, .inl (dA 0, 2982, .inl a98)), (ad 4, .inl (dA 0, 900, .inl b_tape)), (ad 5, .inl (dA 0, 994, .inl a89))] H ∧ va_D A [zr_o ad (0 : Int32) (0 : Int32) v82 v83 p1 v84 v85 v86 v87 v86 v91 v88 f_toldWhy f_x f_standMany f_bestMany f_tail f_round1, (ad 2, .inl (dA 0, 2982, .inl a98)), (ad 4, .inl (dA 0, 900, .inl b_tape)), (ad 5, .inl (dA 0, 994, .inl a89))] ∧ va_S A s.heap H locs) (fun H locs ls hX => ?_) (fun E213 => ?_)
              · obtain ⟨hl, hP, hD, hS⟩ := hX
                clear hj
                refine lv_aload_n (pc := 213) hx hb dX11_cliff_213 rfl (lv_at hl 0 rfl) ?_
                refine va_get (pc := 214) (D := (dC, dI)) (ci := 0) (v := .ref (ad 2)) (C := RX11) (T := TX11) (N := 42) hx hb ht zb_lay hown hK hP 0 rfl rfl 1 (by decide) (ht _ (zb_l zr_6)) (fun _ h9 => h9) rfl dX11_cliff_214 ?_
                refine lv_iconst (v := (0 : Int32)) (pc := 217) hx hb dX11_cliff_217 (by decide) ?_
                obtain ⟨v100, hv100, hf⟩ := zc_1 hf
                refine zw_iald (pc := 218) hx hb hK hP 1 0 rfl rfl hv100 dX11_cliff_218 ?_
                obtain ⟨rfl, rfl, rfl, rfl, rfl, rfl, rfl, rfl, rfl, rfl, rfl, rfl, rfl, rfl, rfl⟩ := zi_15 hf
                exact W.iret (pc := 219) hx hb hr (fun t ht hW => ⟨⟨_, (), rfl, rfl, zz_Bi (by rw [ht]; exact hP) (va_K.moved hW.alike hK) (hD)⟩, hS.F ht⟩) hS.2.2 dX11_cliff_219
              clear hf
              refine zw_loop (pcH := 188) (X := fun v H locs ls => lv_has ls 3 [(0, .ref (ad 0)), (2, .int v.1)] ∧ va_P (dC, dI) zz_cls [zr_o ad (0 : Int32) (0 : Int32) v82 v83 p1 v84 v85 v86 v87 v86 v91 v88 f_toldWhy f_x f_standMany f_bestMany f_tail f_round1, (ad 2, .inl (dA 0, 2982, .inl v.2)), (ad 4, .inl (dA 0, 900, .inl b_tape)), (ad 5, .inl (dA 0, 994, .inl a89))] H ∧ va_D A [zr_o ad (0 : Int32) (0 : Int32) v82 v83 p1 v84 v85 v86 v87 v86 v91 v88 f_toldWhy f_x f_standMany f_bestMany f_tail f_round1, (ad 2, .inl (dA 0, 2982, .inl v.2)), (ad 4, .inl (dA 0, 900, .inl b_tape)), (ad 5, .inl (dA 0, 994, .inl a89))] ∧ va_S A s.heap H locs) hj (fun v w hf ih ex H locs ls hX => ?_) _ _ _ ⟨lv_sub hl [1, 0] rfl, hP, hD, hS⟩
              clear hj
              obtain ⟨v92, a93⟩ := v
              obtain ⟨hl, hP, hD, hS⟩ := hX
              have hl : lv_has ls 3 [(0, .ref (ad 0)), (2, .int v92)] := hl
              have hP : va_P (dC, dI) zz_cls [zr_o ad (0 : Int32) (0 : Int32) v82 v83 p1 v84 v85 v86 v87 v86 v91 v88 f_toldWhy f_x f_standMany f_bestMany f_tail f_round1, (ad 2, .inl (dA 0, 2982, .inl a93)), (ad 4, .inl (dA 0, 900, .inl b_tape)), (ad 5, .inl (dA 0, 994, .inl a89))] H := hP
              have hD : va_D A [zr_o ad (0 : Int32) (0 : Int32) v82 v83 p1 v84 v85 v86 v87 v86 v91 v88 f_toldWhy f_x f_standMany f_bestMany f_tail f_round1, (ad 2, .inl (dA 0, 2982, .inl a93)), (ad 4, .inl (dA 0, 900, .inl b_tape)), (ad 5, .inl (dA 0, 994, .inl a89))] := hD
              replace hf : zb_X11_cliff_188 a89 v92 a93 = some w := hf
              unfold zb_X11_cliff_188 at hf
              refine lv_iload_n (pc := 188) hx hb dX11_cliff_188 rfl (lv_at hl 1 rfl) ?_
              refine lv_sipush (v := (994 : Int32)) (pc := 189) hx hb dX11_cliff_189 (by decide) ?_
              refine lv_icmp_ge (tgt := 213) (pc := 192) hx hb dX11_cliff_192 rfl (fun hc => ?_) (fun hc => ?_)
              · have hf := za_t hf hc
                obtain rfl := Option.some.inj hf
                obtain ⟨rfl, rfl, rfl⟩ := zp_3 (ex (show ¬ (1 : Nat) = 0 by decide))
                exact E213 _ _ _ ⟨lv_sub hl [0] rfl, hP, hD, hS⟩
              · have hf := za_f hf hc
                refine lv_aload_n (pc := 195) hx hb dX11_cliff_195 rfl (lv_at hl 0 rfl) ?_
                refine va_get (pc := 196) (D := (dC, dI)) (ci := 0) (v := .ref (ad 2)) (C := RX11) (T := TX11) (N := 42) hx hb ht zb_lay hown hK hP 0 rfl rfl 1 (by decide) (ht _ (zb_l zr_6)) (fun _ h9 => h9) rfl dX11_cliff_196 ?_
                refine lv_iload_n (pc := 199) hx hb dX11_cliff_199 rfl (lv_at hl 1 rfl) ?_
                refine lv_aload_n (pc := 200) hx hb dX11_cliff_200 rfl (lv_at hl 0 rfl) ?_
                refine va_get (pc := 201) (D := (dC, dI)) (ci := 0) (v := .ref (ad 5)) (C := RX11) (T := TX11) (N := 42) hx hb ht zb_lay hown hK hP 0 rfl rfl 4 (by decide) (ht _ (zb_l zr_10)) (fun _ h9 => h9) rfl dX11_cliff_201 ?_
                refine lv_iload_n (pc := 204) hx hb dX11_cliff_204 rfl (lv_at hl 1 rfl) ?_
                obtain ⟨v94, hv94, hf⟩ := zc_1 hf
                refine zw_iald (pc := 205) hx hb hK hP 3 0 rfl rfl hv94 dX11_cliff_205 ?_
                obtain ⟨a95, ha95, hf⟩ := zc_1 hf
                refine zw_iast (pc := 206) hx hb hK hP hD hS 1 0 rfl rfl ha95 dX11_cliff_206 (fun H locs hP hD hS => ?_)
                have hP : va_P (dC, dI) zz_cls [zr_o ad (0 : Int32) (0 : Int32) v82 v83 p1 v84 v85 v86 v87 v86 v91 v88 f_toldWhy f_x f_standMany f_bestMany f_tail f_round1, (ad 2, .inl (dA 0, 2982, .inl a95)), (ad 4, .inl (dA 0, 900, .inl b_tape)), (ad 5, .inl (dA 0, 994, .inl a89))] H := hP
                have hD : va_D A [zr_o ad (0 : Int32) (0 : Int32) v82 v83 p1 v84 v85 v86 v87 v86 v91 v88 f_toldWhy f_x f_standMany f_bestMany f_tail f_round1, (ad 2, .inl (dA 0, 2982, .inl a95)), (ad 4, .inl (dA 0, 900, .inl b_tape)), (ad 5, .inl (dA 0, 994, .inl a89))] := hD
                obtain ⟨v96, hv96, hf⟩ := zc_1 hf
                refine lv_iinc (v := v96) (lv' := [(2, .int v96), (0, .ref (ad 0))]) (k := 1) (pc := 207) hx hb dX11_cliff_207 hl rfl (Option.some.inj hv96) (by decide) rfl (fun ls hl => ?_)
                refine lv_goto (tgt := 188) (pc := 210) hx hb dX11_cliff_210 rfl ?_
                obtain rfl := Option.some.inj hf
                exact ih rfl _ _ _ ⟨lv_sub hl [1, 0] rfl, hP, hD, hS⟩
            · have hf := za_f hf hc
              refine lv_bipush (v := (-30 : Int32)) (pc := 178) hx hb dX11_cliff_178 (by decide) ?_
              refine lv_aload_n (pc := 180) hx hb dX11_cliff_180 rfl (lv_at hl 0 rfl) ?_
              refine va_get (pc := 181) (D := (dC, dI)) (ci := 0) (v := .int v86) (C := RX11) (T := TX11) (N := 42) hx hb ht zb_lay hown hK hP 0 rfl rfl 11 (by decide) (ht _ (zb_l zr_111)) (fun _ h9 => h9) rfl dX11_cliff_181 ?_
              refine lv_isub (pc := 184) hx hb dX11_cliff_184 ?_
              obtain ⟨rfl, rfl, rfl, rfl, rfl, rfl, rfl, rfl, rfl, rfl, rfl, rfl, rfl, rfl, rfl⟩ := zi_15 hf
              exact W.iret (pc := 185) hx hb hr (fun t ht hW => ⟨⟨_, (), rfl, rfl, zz_Bi (by rw [ht]; exact hP) (va_K.moved hW.alike hK) (hD)⟩, hS.F ht⟩) hS.2.2 dX11_cliff_185
          · clear hf
            have hf := hj
            clear hj
            refine lv_if_ne (tgt := 164) (pc := 157) hx hb dX11_cliff_157 rfl (fun hc => ?_) (fun hc => ?_)
            · have hf := za_f hf hc
              refine lv_aload_n (pc := 164) hx hb dX11_cliff_164 rfl (lv_at hl 0 rfl) ?_
              refine va_get (pc := 165) (D := (dC, dI)) (ci := 0) (v := .int v87) (C := RX11) (T := TX11) (N := 42) hx hb ht zb_lay hown hK hP 0 rfl rfl 12 (by decide) (ht _ (zb_l zr_112)) (fun _ h9 => h9) rfl dX11_cliff_165 ?_
              obtain rfl := Option.some.inj hf
              exact J168 _ _ _ ⟨lv_sub hl [0] rfl, hP, hD, hS⟩
            · have hf := za_t hf hc
              refine lv_iconst (v := (-1 : Int32)) (pc := 160) hx hb dX11_cliff_160 (by decide) ?_
              refine lv_goto (tgt := 168) (pc := 161) hx hb dX11_cliff_161 rfl ?_
              obtain rfl := Option.some.inj hf
              exact J168 _ _ _ ⟨lv_sub hl [0] rfl, hP, hD, hS⟩
        clear hf
        refine zw_loop (pcH := 117) (X := fun v H locs ls => lv_has ls 3 [(0, .ref (ad 0))] ∧ va_P (dC, dI) zz_cls [zr_o ad (0 : Int32) (0 : Int32) v.1 v.2.1 p1 v.2.2.1 v.2.2.2.1 v.2.2.2.2.1 v.2.2.2.2.2.1 f_faultKind f_faultPlace v.2.2.2.2.2.2.1 f_toldWhy f_x f_standMany f_bestMany f_tail f_round1, (ad 2, .inl (dA 0, 2982, .inl b_all)), (ad 4, .inl (dA 0, 900, .inl b_tape)), (ad 5, .inl (dA 0, 994, .inl v.2.2.2.2.2.2.2))] H ∧ va_D A [zr_o ad (0 : Int32) (0 : Int32) v.1 v.2.1 p1 v.2.2.1 v.2.2.2.1 v.2.2.2.2.1 v.2.2.2.2.2.1 f_faultKind f_faultPlace v.2.2.2.2.2.2.1 f_toldWhy f_x f_standMany f_bestMany f_tail f_round1, (ad 2, .inl (dA 0, 2982, .inl b_all)), (ad 4, .inl (dA 0, 900, .inl b_tape)), (ad 5, .inl (dA 0, 994, .inl v.2.2.2.2.2.2.2))] ∧ va_S A s.heap H locs) hj (fun v w hf ih ex H locs ls hX => ?_) _ _ _ ⟨lv_sub hl [0] rfl, hP.sub [1, 0, 2, 3] rfl, hD.sub [1, 0, 2, 3] (by decide) rfl, hS⟩
        clear hj
        obtain ⟨v59, v60, v61, v62, v63, v64, v65, a66⟩ := v
        obtain ⟨hl, hP, hD, hS⟩ := hX
        have hl : lv_has ls 3 [(0, .ref (ad 0))] := hl
        have hP : va_P (dC, dI) zz_cls [zr_o ad (0 : Int32) (0 : Int32) v59 v60 p1 v61 v62 v63 v64 f_faultKind f_faultPlace v65 f_toldWhy f_x f_standMany f_bestMany f_tail f_round1, (ad 2, .inl (dA 0, 2982, .inl b_all)), (ad 4, .inl (dA 0, 900, .inl b_tape)), (ad 5, .inl (dA 0, 994, .inl a66))] H := hP
        have hD : va_D A [zr_o ad (0 : Int32) (0 : Int32) v59 v60 p1 v61 v62 v63 v64 f_faultKind f_faultPlace v65 f_toldWhy f_x f_standMany f_bestMany f_tail f_round1, (ad 2, .inl (dA 0, 2982, .inl b_all)), (ad 4, .inl (dA 0, 900, .inl b_tape)), (ad 5, .inl (dA 0, 994, .inl a66))] := hD
        replace hf : zb_X11_cliff_117 n p1 b_tape v59 v60 v61 v62 v63 v64 v65 a66 = some w := hf
        unfold zb_X11_cliff_117 at hf
        refine lv_aload_n (pc := 117) hx hb dX11_cliff_117 rfl (lv_at hl 0 rfl) ?_
        refine va_get (pc := 118) (D := (dC, dI)) (ci := 0) (v := .int v63) (C := RX11) (T := TX11) (N := 42) hx hb ht zb_lay hown hK hP 0 rfl rfl 11 (by decide) (ht _ (zb_l zr_111)) (fun _ h9 => h9) rfl dX11_cliff_118 ?_
        refine lv_if_ne (tgt := 144) (pc := 121) hx hb dX11_cliff_121 rfl (fun hc => ?_) (fun hc => ?_)
        · have hf := za_f hf hc
          obtain rfl := Option.some.inj hf
          obtain ⟨rfl, rfl, rfl, rfl, rfl, rfl, rfl, rfl, rfl⟩ := zp_9 (ex (show ¬ (1 : Nat) = 0 by decide))
          exact E144 _ _ _ ⟨lv_sub hl [0] rfl, hP, hD, hS⟩
        · have hf := za_t hf hc
          refine lv_aload_n (pc := 124) hx hb dX11_cliff_124 rfl (lv_at hl 0 rfl) ?_
          refine va_get (pc := 125) (D := (dC, dI)) (ci := 0) (v := .int v61) (C := RX11) (T := TX11) (N := 42) hx hb ht zb_lay hown hK hP 0 rfl rfl 9 (by decide) (ht _ (zb_l zr_97)) (fun _ h9 => h9) rfl dX11_cliff_125 ?_
          refine lv_bipush (v := (26 : Int32)) (pc := 128) hx hb dX11_cliff_128 (by decide) ?_
          refine lv_icmp_eq (tgt := 144) (pc := 130) hx hb dX11_cliff_130 rfl (fun hc => ?_) (fun hc => ?_)
          · have hf := za_t hf hc
            obtain rfl := Option.some.inj hf
            obtain ⟨rfl, rfl, rfl, rfl, rfl, rfl, rfl, rfl, rfl⟩ := zp_9 (ex (show ¬ (1 : Nat) = 0 by decide))
            exact E144 _ _ _ ⟨lv_sub hl [0] rfl, hP, hD, hS⟩
          · have hf := za_f hf hc
            refine lv_aload_n (pc := 133) hx hb dX11_cliff_133 rfl (lv_at hl 0 rfl) ?_
            obtain ⟨v67, v68, v69, v70, v71, v72, v73, a74, hv67, hf⟩ := zc_8 hf
            refine zx_Vv (pc := 134) (wc := [zr_o ad (0 : Int32) (0 : Int32) v59 v60 p1 v61 v62 v63 v64 f_faultKind f_faultPlace v65 f_toldWhy f_x f_standMany f_bestMany f_tail f_round1, (ad 4, .inl (dA 0, 900, .inl b_tape)), (ad 5, .inl (dA 0, 994, .inl a66))]) (wr := [(ad 2, .inl (dA 0, 2982, .inl b_all))]) (w1 := [zr_o ad (0 : Int32) (0 : Int32) v67 v68 p1 v69 v70 v71 v72 f_faultKind f_faultPlace v73 f_toldWhy f_x f_standMany f_bestMany f_tail f_round1, (ad 4, .inl (dA 0, 900, .inl b_tape)), (ad 5, .inl (dA 0, 994, .inl a74))]) (As := []) (rest := []) ⟨hx, hb, hml, hown, ht⟩ (zt_X11_readLine l dC dI dA ad adK adV _ n (0 : Int32) (0 : Int32) v59 v60 p1 v61 v62 v63 v64 f_faultKind f_faultPlace v65 f_toldWhy f_x f_standMany f_bestMany f_tail f_round1 b_tape a66 v67 v68 v69 v70 v71 v72 v73 a74 hv67) (cwV 0 ht (zb_V (fun _ h => zb_i h) (zb_l zr_201) (zb_l zr_202) (zb_l zr_203) (zb_l zr_36) (zb_l zr_195)) rfl rfl rfl zk_X11_readLine ⟨Nat.le_of_ble_eq_true rfl, Nat.le_of_ble_eq_true rfl⟩) rfl rfl hZ hK hP hD hS hA [0, 2, 3] [1] (by decide) (by decide) (by decide) rfl rfl rfl hl.1 (Nat.le_of_ble_eq_true rfl) dX11_cliff_134 ⟨Nat.zero_le _, Nat.zero_le _⟩ rfl (fun H locs hP hD hS => ?_)
            have hP : va_P (dC, dI) zz_cls [(ad 2, .inl (dA 0, 2982, .inl b_all)), zr_o ad (0 : Int32) (0 : Int32) v67 v68 p1 v69 v70 v71 v72 f_faultKind f_faultPlace v73 f_toldWhy f_x f_standMany f_bestMany f_tail f_round1, (ad 4, .inl (dA 0, 900, .inl b_tape)), (ad 5, .inl (dA 0, 994, .inl a74))] H := hP
            have hD : va_D A [(ad 2, .inl (dA 0, 2982, .inl b_all)), zr_o ad (0 : Int32) (0 : Int32) v67 v68 p1 v69 v70 v71 v72 f_faultKind f_faultPlace v73 f_toldWhy f_x f_standMany f_bestMany f_tail f_round1, (ad 4, .inl (dA 0, 900, .inl b_tape)), (ad 5, .inl (dA 0, 994, .inl a74))] := hD
            refine lv_aload_n (pc := 137) hx hb dX11_cliff_137 rfl (lv_at hl 0 rfl) ?_
            obtain ⟨v75, v76, v77, v78, v79, v80, a81, hv75, hf⟩ := zc_7 hf
            refine zx_Vv (pc := 138) (wc := [zr_o ad (0 : Int32) (0 : Int32) v67 v68 p1 v69 v70 v71 v72 f_faultKind f_faultPlace v73 f_toldWhy f_x f_standMany f_bestMany f_tail f_round1, (ad 4, .inl (dA 0, 900, .inl b_tape)), (ad 5, .inl (dA 0, 994, .inl a74))]) (wr := [(ad 2, .inl (dA 0, 2982, .inl b_all))]) (w1 := [zr_o ad (0 : Int32) (0 : Int32) v75 v76 p1 v77 v78 v79 v80 f_faultKind f_faultPlace v73 f_toldWhy f_x f_standMany f_bestMany f_tail f_round1, (ad 4, .inl (dA 0, 900, .inl b_tape)), (ad 5, .inl (dA 0, 994, .inl a81))]) (As := []) (rest := []) ⟨hx, hb, hml, hown, ht⟩ (zt_X11_closes l dC dI dA ad adK adV _ n (0 : Int32) (0 : Int32) v67 v68 p1 v69 v70 v71 v72 f_faultKind f_faultPlace v73 f_toldWhy f_x f_standMany f_bestMany f_tail f_round1 b_tape a74 v75 v76 v77 v78 v79 v80 a81 hv75) (cwV 0 ht (zb_V (fun _ h => zb_i h) (zb_l zr_198) (zb_l zr_199) (zb_l zr_200) (zb_l zr_36) (zb_l zr_196)) rfl rfl rfl zk_X11_closes ⟨Nat.le_of_ble_eq_true rfl, Nat.le_of_ble_eq_true rfl⟩) rfl rfl hZ hK hP hD hS hA [1, 2, 3] [0] (by decide) (by decide) (by decide) rfl rfl rfl hl.1 (Nat.le_of_ble_eq_true rfl) dX11_cliff_138 ⟨Nat.zero_le _, Nat.zero_le _⟩ rfl (fun H locs hP hD hS => ?_)
            have hP : va_P (dC, dI) zz_cls [(ad 2, .inl (dA 0, 2982, .inl b_all)), zr_o ad (0 : Int32) (0 : Int32) v75 v76 p1 v77 v78 v79 v80 f_faultKind f_faultPlace v73 f_toldWhy f_x f_standMany f_bestMany f_tail f_round1, (ad 4, .inl (dA 0, 900, .inl b_tape)), (ad 5, .inl (dA 0, 994, .inl a81))] H := hP
            have hD : va_D A [(ad 2, .inl (dA 0, 2982, .inl b_all)), zr_o ad (0 : Int32) (0 : Int32) v75 v76 p1 v77 v78 v79 v80 f_faultKind f_faultPlace v73 f_toldWhy f_x f_standMany f_bestMany f_tail f_round1, (ad 4, .inl (dA 0, 900, .inl b_tape)), (ad 5, .inl (dA 0, 994, .inl a81))] := hD
            refine lv_goto (tgt := 117) (pc := 141) hx hb dX11_cliff_141 rfl ?_
            obtain rfl := Option.some.inj hf
            exact ih rfl _ _ _ ⟨lv_sub hl [0] rfl, hP.sub [1, 0, 2, 3] rfl, hD.sub [1, 0, 2, 3] (by decide) rfl, hS⟩
      · clear hf
        have hf := hj
        clear hj
        refine lv_if_ne (tgt := 100) (pc := 92) hx hb dX11_cliff_92 rfl (fun hc => ?_) (fun hc => ?_)
        · have hf := za_f hf hc
          obtain ⟨rfl, rfl⟩ := zi_2 hf
          exact J100 _ _ _ ⟨lv_sub hl [0] rfl, hP.sub [2, 0, 3, 1] rfl, hD.sub [2, 0, 3, 1] (by decide) rfl, hS⟩
        · have hf := za_t hf hc
          refine lv_aload_n (pc := 95) hx hb dX11_cliff_95 rfl (lv_at hl 0 rfl) ?_
          refine lv_iconst (v := (2 : Int32)) (pc := 96) hx hb dX11_cliff_96 (by decide) ?_
          obtain ⟨v40, v41, hv40, hf⟩ := zc_2 hf
          refine zw_Vv (pc := 97) (wc := [zr_o ad (0 : Int32) (0 : Int32) v36 v37 p1 v38 v39 v32 v33 f_faultKind f_faultPlace f_reading f_toldWhy f_x f_standMany f_bestMany f_tail f_round1]) (wr := [(ad 2, .inl (dA 0, 2982, .inl b_all)), (ad 5, .inl (dA 0, 994, .inl a34)), (ad 4, .inl (dA 0, 900, .inl b_tape))]) (w1 := [zr_o ad (0 : Int32) (0 : Int32) v36 v37 p1 v38 v39 v40 v41 f_faultKind f_faultPlace f_reading f_toldWhy f_x f_standMany f_bestMany f_tail f_round1]) (As := [.int (2 : Int32)]) (rest := []) ⟨hx, hb, hml, hown, ht⟩ (zt_X11_fails l dC dI dA ad _ (0 : Int32) (0 : Int32) v36 v37 p1 v38 v39 v32 v33 f_faultKind f_faultPlace f_reading f_toldWhy f_x f_standMany f_bestMany f_tail f_round1 (2 : Int32) v40 v41 hv40) (cwV 1 ht (zb_V (fun _ h => zb_l h) (zb_l zr_121) (zb_l zr_122) (zb_l zr_123) (zb_l zr_36) (zb_l zr_110)) rfl rfl rfl zk_X11_fails ⟨Nat.le_of_ble_eq_true rfl, Nat.le_of_ble_eq_true rfl⟩) rfl rfl hK hP hD hS hA [2] [0, 1, 3] (by decide) (by decide) (by decide) rfl rfl rfl hl.1 (Nat.le_of_ble_eq_true rfl) dX11_cliff_97 ⟨Nat.zero_le _, Nat.zero_le _⟩ rfl (fun H locs hP hD hS => ?_)
          have hP : va_P (dC, dI) zz_cls [(ad 2, .inl (dA 0, 2982, .inl b_all)), (ad 5, .inl (dA 0, 994, .inl a34)), (ad 4, .inl (dA 0, 900, .inl b_tape)), zr_o ad (0 : Int32) (0 : Int32) v36 v37 p1 v38 v39 v40 v41 f_faultKind f_faultPlace f_reading f_toldWhy f_x f_standMany f_bestMany f_tail f_round1] H := hP
          have hD : va_D A [(ad 2, .inl (dA 0, 2982, .inl b_all)), (ad 5, .inl (dA 0, 994, .inl a34)), (ad 4, .inl (dA 0, 900, .inl b_tape)), zr_o ad (0 : Int32) (0 : Int32) v36 v37 p1 v38 v39 v40 v41 f_faultKind f_faultPlace f_reading f_toldWhy f_x f_standMany f_bestMany f_tail f_round1] := hD
          obtain ⟨rfl, rfl⟩ := zi_2 hf
          exact J100 _ _ _ ⟨lv_sub hl [0] rfl, hP.sub [3, 0, 2, 1] rfl, hD.sub [3, 0, 2, 1] (by decide) rfl, hS⟩
    · clear hf
      have hf := hj
      clear hj
      refine lv_if_eq (tgt := 69) (pc := 58) hx hb dX11_cliff_58 rfl (fun hc => ?_) (fun hc => ?_)
      · have hf := za_t hf hc
        refine lv_aload_n (pc := 69) hx hb dX11_cliff_69 rfl (lv_at hl 0 rfl) ?_
        refine lv_iconst (v := (2 : Int32)) (pc := 70) hx hb dX11_cliff_70 (by decide) ?_
        obtain ⟨v12, v13, hv12, hf⟩ := zc_2 hf
        refine zw_Vv (pc := 71) (wc := [zr_o ad (0 : Int32) (0 : Int32) v8 v9 p1 v10 v11 (0 : Int32) f_wrongAt f_faultKind f_faultPlace f_reading f_toldWhy f_x f_standMany f_bestMany f_tail f_round1]) (wr := [(ad 2, .inl (dA 0, 2982, .inl b_all)), (ad 5, .inl (dA 0, 994, .inl a2)), (ad 4, .inl (dA 0, 900, .inl b_tape))]) (w1 := [zr_o ad (0 : Int32) (0 : Int32) v8 v9 p1 v10 v11 v12 v13 f_faultKind f_faultPlace f_reading f_toldWhy f_x f_standMany f_bestMany f_tail f_round1]) (As := [.int (2 : Int32)]) (rest := []) ⟨hx, hb, hml, hown, ht⟩ (zt_X11_fails l dC dI dA ad _ (0 : Int32) (0 : Int32) v8 v9 p1 v10 v11 (0 : Int32) f_wrongAt f_faultKind f_faultPlace f_reading f_toldWhy f_x f_standMany f_bestMany f_tail f_round1 (2 : Int32) v12 v13 hv12) (cwV 1 ht (zb_V (fun _ h => zb_l h) (zb_l zr_121) (zb_l zr_122) (zb_l zr_123) (zb_l zr_36) (zb_l zr_110)) rfl rfl rfl zk_X11_fails ⟨Nat.le_of_ble_eq_true rfl, Nat.le_of_ble_eq_true rfl⟩) rfl rfl hK hP hD hS hA [2] [0, 1, 3] (by decide) (by decide) (by decide) rfl rfl rfl hl.1 (Nat.le_of_ble_eq_true rfl) dX11_cliff_71 ⟨Nat.zero_le _, Nat.zero_le _⟩ rfl (fun H locs hP hD hS => ?_)
        have hP : va_P (dC, dI) zz_cls [(ad 2, .inl (dA 0, 2982, .inl b_all)), (ad 5, .inl (dA 0, 994, .inl a2)), (ad 4, .inl (dA 0, 900, .inl b_tape)), zr_o ad (0 : Int32) (0 : Int32) v8 v9 p1 v10 v11 v12 v13 f_faultKind f_faultPlace f_reading f_toldWhy f_x f_standMany f_bestMany f_tail f_round1] H := hP
        have hD : va_D A [(ad 2, .inl (dA 0, 2982, .inl b_all)), (ad 5, .inl (dA 0, 994, .inl a2)), (ad 4, .inl (dA 0, 900, .inl b_tape)), zr_o ad (0 : Int32) (0 : Int32) v8 v9 p1 v10 v11 v12 v13 f_faultKind f_faultPlace f_reading f_toldWhy f_x f_standMany f_bestMany f_tail f_round1] := hD
        obtain ⟨rfl, rfl, rfl, rfl, rfl, rfl⟩ := zi_6 hf
        exact J74 _ _ _ ⟨lv_sub hl [0] rfl, hP.sub [3, 0, 2, 1] rfl, hD.sub [3, 0, 2, 1] (by decide) rfl, hS⟩
      · have hf := za_f hf hc
        refine lv_aload_n (pc := 61) hx hb dX11_cliff_61 rfl (lv_at hl 0 rfl) ?_
        refine lv_iconst (v := (1 : Int32)) (pc := 62) hx hb dX11_cliff_62 (by decide) ?_
        obtain ⟨v14, v15, v16, v17, v18, hv14, hf⟩ := zc_5 hf
        refine zx_Vi (pc := 63) (wc := [zr_o ad (0 : Int32) (0 : Int32) v8 v9 p1 v10 v11 (0 : Int32) f_wrongAt f_faultKind f_faultPlace f_reading f_toldWhy f_x f_standMany f_bestMany f_tail f_round1, (ad 4, .inl (dA 0, 900, .inl b_tape))]) (wr := [(ad 2, .inl (dA 0, 2982, .inl b_all)), (ad 5, .inl (dA 0, 994, .inl a2))]) (w1 := [zr_o ad (0 : Int32) (0 : Int32) v15 v16 p1 v17 v18 (0 : Int32) f_wrongAt f_faultKind f_faultPlace f_reading f_toldWhy f_x f_standMany f_bestMany f_tail f_round1, (ad 4, .inl (dA 0, 900, .inl b_tape))]) (As := [.int (1 : Int32)]) (rest := []) ⟨hx, hb, hml, hown, ht⟩ (zt_X11_eats l dC dI dA ad adK adV _ n (0 : Int32) (0 : Int32) v8 v9 p1 v10 v11 (0 : Int32) f_wrongAt f_faultKind f_faultPlace f_reading f_toldWhy f_x f_standMany f_bestMany f_tail f_round1 b_tape (1 : Int32) v14 v15 v16 v17 v18 hv14) (cwV 1 ht (zb_V (fun _ h => zb_i h) (zb_l zr_144) (zb_l zr_145) (zb_l zr_146) (zb_l zr_36) (zb_l zr_120)) rfl rfl rfl zk_X11_eats ⟨Nat.le_of_ble_eq_true rfl, Nat.le_of_ble_eq_true rfl⟩) rfl rfl hZ hK hP hD hS hA [2, 3] [0, 1] (by decide) (by decide) (by decide) rfl rfl rfl hl.1 (Nat.le_of_ble_eq_true rfl) dX11_cliff_63 ⟨Nat.zero_le _, Nat.zero_le _⟩ rfl (fun H locs hP hD hS => ?_)
        have hP : va_P (dC, dI) zz_cls [(ad 2, .inl (dA 0, 2982, .inl b_all)), (ad 5, .inl (dA 0, 994, .inl a2)), zr_o ad (0 : Int32) (0 : Int32) v15 v16 p1 v17 v18 (0 : Int32) f_wrongAt f_faultKind f_faultPlace f_reading f_toldWhy f_x f_standMany f_bestMany f_tail f_round1, (ad 4, .inl (dA 0, 900, .inl b_tape))] H := hP
        have hD : va_D A [(ad 2, .inl (dA 0, 2982, .inl b_all)), (ad 5, .inl (dA 0, 994, .inl a2)), zr_o ad (0 : Int32) (0 : Int32) v15 v16 p1 v17 v18 (0 : Int32) f_wrongAt f_faultKind f_faultPlace f_reading f_toldWhy f_x f_standMany f_bestMany f_tail f_round1, (ad 4, .inl (dA 0, 900, .inl b_tape))] := hD
        refine lv_if_ne (tgt := 74) (pc := 66) hx hb dX11_cliff_66 rfl (fun hc => ?_) (fun hc => ?_)
        · have hf := za_f hf hc
          obtain ⟨rfl, rfl, rfl, rfl, rfl, rfl⟩ := zi_6 hf
          exact J74 _ _ _ ⟨lv_sub hl [0] rfl, hP.sub [2, 0, 3, 1] rfl, hD.sub [2, 0, 3, 1] (by decide) rfl, hS⟩
        · have hf := za_t hf hc
          refine lv_aload_n (pc := 69) hx hb dX11_cliff_69 rfl (lv_at hl 0 rfl) ?_
          refine lv_iconst (v := (2 : Int32)) (pc := 70) hx hb dX11_cliff_70 (by decide) ?_
          obtain ⟨v19, v20, hv19, hf⟩ := zc_2 hf
          refine zw_Vv (pc := 71) (wc := [zr_o ad (0 : Int32) (0 : Int32) v15 v16 p1 v17 v18 (0 : Int32) f_wrongAt f_faultKind f_faultPlace f_reading f_toldWhy f_x f_standMany f_bestMany f_tail f_round1]) (wr := [(ad 2, .inl (dA 0, 2982, .inl b_all)), (ad 5, .inl (dA 0, 994, .inl a2)), (ad 4, .inl (dA 0, 900, .inl b_tape))]) (w1 := [zr_o ad (0 : Int32) (0 : Int32) v15 v16 p1 v17 v18 v19 v20 f_faultKind f_faultPlace f_reading f_toldWhy f_x f_standMany f_bestMany f_tail f_round1]) (As := [.int (2 : Int32)]) (rest := []) ⟨hx, hb, hml, hown, ht⟩ (zt_X11_fails l dC dI dA ad _ (0 : Int32) (0 : Int32) v15 v16 p1 v17 v18 (0 : Int32) f_wrongAt f_faultKind f_faultPlace f_reading f_toldWhy f_x f_standMany f_bestMany f_tail f_round1 (2 : Int32) v19 v20 hv19) (cwV 1 ht (zb_V (fun _ h => zb_l h) (zb_l zr_121) (zb_l zr_122) (zb_l zr_123) (zb_l zr_36) (zb_l zr_110)) rfl rfl rfl zk_X11_fails ⟨Nat.le_of_ble_eq_true rfl, Nat.le_of_ble_eq_true rfl⟩) rfl rfl hK hP hD hS hA [2] [0, 1, 3] (by decide) (by decide) (by decide) rfl rfl rfl hl.1 (Nat.le_of_ble_eq_true rfl) dX11_cliff_71 ⟨Nat.zero_le _, Nat.zero_le _⟩ rfl (fun H locs hP hD hS => ?_)
          have hP : va_P (dC, dI) zz_cls [(ad 2, .inl (dA 0, 2982, .inl b_all)), (ad 5, .inl (dA 0, 994, .inl a2)), (ad 4, .inl (dA 0, 900, .inl b_tape)), zr_o ad (0 : Int32) (0 : Int32) v15 v16 p1 v17 v18 v19 v20 f_faultKind f_faultPlace f_reading f_toldWhy f_x f_standMany f_bestMany f_tail f_round1] H := hP
          have hD : va_D A [(ad 2, .inl (dA 0, 2982, .inl b_all)), (ad 5, .inl (dA 0, 994, .inl a2)), (ad 4, .inl (dA 0, 900, .inl b_tape)), zr_o ad (0 : Int32) (0 : Int32) v15 v16 p1 v17 v18 v19 v20 f_faultKind f_faultPlace f_reading f_toldWhy f_x f_standMany f_bestMany f_tail f_round1] := hD
          obtain ⟨rfl, rfl, rfl, rfl, rfl, rfl⟩ := zi_6 hf
          exact J74 _ _ _ ⟨lv_sub hl [0] rfl, hP.sub [3, 0, 2, 1] rfl, hD.sub [3, 0, 2, 1] (by decide) rfl, hS⟩
  · have hf := za_t hf hc
    refine lv_bipush (v := (-3 : Int32)) (pc := 19) hx hb dX11_cliff_19 (by decide) ?_
    obtain ⟨rfl, rfl, rfl, rfl, rfl, rfl, rfl, rfl, rfl, rfl, rfl, rfl, rfl, rfl, rfl⟩ := zi_15 hf
    exact W.iret (pc := 21) hx hb hr (fun t ht hW => ⟨⟨_, (), rfl, rfl, zz_Bi (by rw [ht]; exact hP) (va_K.moved hW.alike hK) (hD)⟩, hS.F ht⟩) hS.2.2 dX11_cliff_21

def zb_X11_goesShare_29 (b_shared : (Nat → Int32)) (v2 : Int32) (a3 : (Nat → Int32)) : Option (Nat × Int32 × (Nat → Int32)) :=
  if (6 : Int32) ≤ v2 then
    some (1, v2, a3)
  else
    zd_1 (za_ld b_shared 6 v2) (fun v4 =>
    zd_1 (za_st a3 6 v2 v4) (fun a5 =>
    zd_1 (some (v2 + (1 : Int32))) (fun v6 =>
    some (0, v6, a5))))
def zb_X11_goesShare_60 (p2 : Int32) (p3 : Int32) (p1 : Int32) (p4 : Int32) (b_all : (Nat → Int32)) (rec : Nat → Int32 → (Nat → Int32) → (Nat → Int32) → (Nat → Int32) → Int32 → Int32 → Int32 → Int32 → Int32 → Option (Int32 × (Nat → Int32) × (Nat → Int32))) (p5 : Int32) (v10 : Int32) (v11 : Int32) (a12 : (Nat → Int32)) (a13 : (Nat → Int32)) : Option (Nat × Int32 × Int32 × (Nat → Int32) × (Nat → Int32)) :=
  if p2 ≤ v10 then
    some (1, v10, v11, a12, a13)
  else
    zd_1 (zf_X11_isIn (Int32.toInt64 p3) p1) (fun v14 =>
    if v14 = 0 then
      some (1, v10, v11, a12, a13)
    else
      zd_1 (zf_X11_isIn (Int32.toInt64 p4) v10) (fun v15 =>
      zd_3 (
        if v15 = 0 then
          zd_1 (zf_X11_isLanding b_all v10 p1) (fun v16 =>
          if v16 = 0 then
            some (v11, a12, a13)
          else
            zd_1 (za_st a12 6 p1 v10) (fun a17 =>
            zd_3 (rec 0 v11 b_all a17 a13 (p1 + (1 : Int32)) p2 p3 (p4 ||| ((1 : Int32) <<< (v10 &&& 31))) (p5 + (1 : Int32))) (fun v18 a19 a20 =>
            some (v18, a19, a20))))
        else
          some (v11, a12, a13)) (fun v21 a22 a23 =>
      zd_1 (some (v10 + (1 : Int32))) (fun v24 =>
      some (0, v24, v21, a22, a23)))))
def zh_X11_goesShare (n : Nat) (rec : Nat → Int32 → (Nat → Int32) → (Nat → Int32) → (Nat → Int32) → Int32 → Int32 → Int32 → Int32 → Int32 → Option (Int32 × (Nat → Int32) × (Nat → Int32))) (f_bestMany : Int32) (b_all : (Nat → Int32)) (b_shared : (Nat → Int32)) (b_bestShared : (Nat → Int32)) (p1 : Int32) (p2 : Int32) (p3 : Int32) (p4 : Int32) (p5 : Int32) : Option (Int32 × (Nat → Int32) × (Nat → Int32)) :=
  zd_1 (za_ld b_all 2982 (2 : Int32)) (fun v1 =>
  if p1 = v1 then
    if f_bestMany < p5 then
      zd_3 (za_it (fun v => zb_X11_goesShare_29 b_shared v.1 v.2) n ((0 : Int32), b_bestShared)) (fun g9 v7 a8 =>
      some (p5, b_shared, a8))
    else
      some (f_bestMany, b_shared, b_bestShared)
  else
    zd_5 (za_it (fun v => zb_X11_goesShare_60 p2 p3 p1 p4 b_all rec p5 v.1 v.2.1 v.2.2.1 v.2.2.2) n ((0 : Int32), f_bestMany, b_shared, b_bestShared)) (fun g29 v25 v26 a27 a28 =>
    zd_1 (za_st a27 6 p1 (-1 : Int32)) (fun a30 =>
    zd_3 (rec 0 v26 b_all a30 a28 (p1 + (1 : Int32)) p2 p3 p4 p5) (fun v31 a32 a33 =>
    some (v31, a32, a33)))))
theorem zk_X11_goesShare : yX11_goesShare.cls = RX11 ∧ yX11_goesShare.cls ≠ "java/lang/invoke/MethodHandle" ∧ yX11_goesShare.cls ≠ "java/lang/invoke/VarHandle" ∧ (parseMethodDescriptor yX11_goesShare.desc).map (fun d => d.parameters.length) = some 5 := by decide +kernel
def zg_X11g (n : Nat) : Nat → Nat → Int32 → (Nat → Int32) → (Nat → Int32) → (Nat → Int32) → Int32 → Int32 → Int32 → Int32 → Int32 → Option (Int32 × (Nat → Int32) × (Nat → Int32))
  | 0 => fun _ _ _ _ _ _ _ _ _ _ => none
  | d + 1 => fun t x0 x1 x2 x3 x4 x5 x6 x7 x8 =>
    if t = 0 then zh_X11_goesShare n (zg_X11g n d) x0 x1 x2 x3 x4 x5 x6 x7 x8 else none
def zS_X11_goesShare (n d : Nat) : Prop := ∀ (l : Launch) (dC : Nat → ClassId) (dI : Nat → Nat → Nat) (dA : Nat → ClassId) (ad : Nat → Nat) (adK adV : Nat → Nat) (sz : Nat) (f_thrown : Int32) (f_taped : Int32) (f_at : Int32) (f_behind : Int32) (f_size : Int32) (f_kind : Int32) (f_number : Int32) (f_wrong : Int32) (f_wrongAt : Int32) (f_faultKind : Int32) (f_faultPlace : Int32) (f_reading : Int32) (f_toldWhy : Int32) (f_x : Int32) (f_standMany : Int32) (f_bestMany : Int32) (f_tail : Int32) (f_round1 : Int32) (b_all : (Nat → Int32)) (b_shared : (Nat → Int32)) (b_bestShared : (Nat → Int32)) (p1 : Int32) (p2 : Int32) (p3 : Int32) (p4 : Int32) (p5 : Int32) (o1 : Int32) (o2 : (Nat → Int32)) (o3 : (Nat → Int32)) (hf : zg_X11g n d 0 f_bestMany b_all b_shared b_bestShared p1 p2 p3 p4 p5 = some (o1, o2, o3)), Met l yX11_goesShare (.code yX11_goesShare cX11_goesShare 7 none :: zb_T) ({ frames := 2 + d, cells := 0, slots := 0, locals := 44 + 40 * d }) (va_Pc [.ref (ad 0), .int p1, .int p2, .int p3, .int p4, .int p5] (zz_M dC dI dA [zr_o ad f_thrown f_taped f_at f_behind f_size f_kind f_number f_wrong f_wrongAt f_faultKind f_faultPlace f_reading f_toldWhy f_x f_standMany f_bestMany f_tail f_round1, (ad 2, .inl (dA 0, 2982, .inl b_all)), (ad 29, .inl (dA 0, 6, .inl b_shared)), (ad 30, .inl (dA 0, 6, .inl b_bestShared))] sz)) (va_Qv (fun _ : Unit => True) (fun _ t => zz_B dC dI dA (va_A [zr_o ad f_thrown f_taped f_at f_behind f_size f_kind f_number f_wrong f_wrongAt f_faultKind f_faultPlace f_reading f_toldWhy f_x f_standMany f_bestMany f_tail f_round1, (ad 2, .inl (dA 0, 2982, .inl b_all)), (ad 29, .inl (dA 0, 6, .inl b_shared)), (ad 30, .inl (dA 0, 6, .inl b_bestShared))] sz) [zr_o ad f_thrown f_taped f_at f_behind f_size f_kind f_number f_wrong f_wrongAt f_faultKind f_faultPlace f_reading f_toldWhy f_x f_standMany o1 f_tail f_round1, (ad 2, .inl (dA 0, 2982, .inl b_all)), (ad 29, .inl (dA 0, 6, .inl o2)), (ad 30, .inl (dA 0, 6, .inl o3))] t) (va_A [zr_o ad f_thrown f_taped f_at f_behind f_size f_kind f_number f_wrong f_wrongAt f_faultKind f_faultPlace f_reading f_toldWhy f_x f_standMany f_bestMany f_tail f_round1, (ad 2, .inl (dA 0, 2982, .inl b_all)), (ad 29, .inl (dA 0, 6, .inl b_shared)), (ad 30, .inl (dA 0, 6, .inl b_bestShared))] sz)) 0 0 (va_A [zr_o ad f_thrown f_taped f_at f_behind f_size f_kind f_number f_wrong f_wrongAt f_faultKind f_faultPlace f_reading f_toldWhy f_x f_standMany f_bestMany f_tail f_round1, (ad 2, .inl (dA 0, 2982, .inl b_all)), (ad 29, .inl (dA 0, 6, .inl b_shared)), (ad 30, .inl (dA 0, 6, .inl b_bestShared))] sz)
set_option maxHeartbeats 4000000 in
set_option maxRecDepth 100000 in
theorem zm_X11_goesShare (n d : Nat) (IH0 : zS_X11_goesShare n d) (l : Launch) (dC : Nat → ClassId) (dI : Nat → Nat → Nat) (dA : Nat → ClassId) (ad : Nat → Nat) (adK adV : Nat → Nat) (sz : Nat) (f_thrown : Int32) (f_taped : Int32) (f_at : Int32) (f_behind : Int32) (f_size : Int32) (f_kind : Int32) (f_number : Int32) (f_wrong : Int32) (f_wrongAt : Int32) (f_faultKind : Int32) (f_faultPlace : Int32) (f_reading : Int32) (f_toldWhy : Int32) (f_x : Int32) (f_standMany : Int32) (f_bestMany : Int32) (f_tail : Int32) (f_round1 : Int32) (b_all : (Nat → Int32)) (b_shared : (Nat → Int32)) (b_bestShared : (Nat → Int32)) (p1 : Int32) (p2 : Int32) (p3 : Int32) (p4 : Int32) (p5 : Int32) (o1 : Int32) (o2 : (Nat → Int32)) (o3 : (Nat → Int32)) (hf : zh_X11_goesShare n (zg_X11g n d) f_bestMany b_all b_shared b_bestShared p1 p2 p3 p4 p5 = some (o1, o2, o3)) : Met l yX11_goesShare (.code yX11_goesShare cX11_goesShare 7 none :: zb_T) ({ frames := 2 + (d + 1), cells := 0, slots := 0, locals := 44 + 40 * (d + 1) }) (va_Pc [.ref (ad 0), .int p1, .int p2, .int p3, .int p4, .int p5] (zz_M dC dI dA [zr_o ad f_thrown f_taped f_at f_behind f_size f_kind f_number f_wrong f_wrongAt f_faultKind f_faultPlace f_reading f_toldWhy f_x f_standMany f_bestMany f_tail f_round1, (ad 2, .inl (dA 0, 2982, .inl b_all)), (ad 29, .inl (dA 0, 6, .inl b_shared)), (ad 30, .inl (dA 0, 6, .inl b_bestShared))] sz)) (va_Qv (fun _ : Unit => True) (fun _ t => zz_B dC dI dA (va_A [zr_o ad f_thrown f_taped f_at f_behind f_size f_kind f_number f_wrong f_wrongAt f_faultKind f_faultPlace f_reading f_toldWhy f_x f_standMany f_bestMany f_tail f_round1, (ad 2, .inl (dA 0, 2982, .inl b_all)), (ad 29, .inl (dA 0, 6, .inl b_shared)), (ad 30, .inl (dA 0, 6, .inl b_bestShared))] sz) [zr_o ad f_thrown f_taped f_at f_behind f_size f_kind f_number f_wrong f_wrongAt f_faultKind f_faultPlace f_reading f_toldWhy f_x f_standMany o1 f_tail f_round1, (ad 2, .inl (dA 0, 2982, .inl b_all)), (ad 29, .inl (dA 0, 6, .inl o2)), (ad 30, .inl (dA 0, 6, .inl o3))] t) (va_A [zr_o ad f_thrown f_taped f_at f_behind f_size f_kind f_number f_wrong f_wrongAt f_faultKind f_faultPlace f_reading f_toldWhy f_x f_standMany f_bestMany f_tail f_round1, (ad 2, .inl (dA 0, 2982, .inl b_all)), (ad 29, .inl (dA 0, 6, .inl b_shared)), (ad 30, .inl (dA 0, 6, .inl b_bestShared))] sz)) 0 0 (va_A [zr_o ad f_thrown f_taped f_at f_behind f_size f_kind f_number f_wrong f_wrongAt f_faultKind f_faultPlace f_reading f_toldWhy f_x f_standMany f_bestMany f_tail f_round1, (ad 2, .inl (dA 0, 2982, .inl b_all)), (ad 29, .inl (dA 0, 6, .inl b_shared)), (ad 30, .inl (dA 0, 6, .inl b_bestShared))] sz) := by
  unfold zh_X11_goesShare at hf
  refine Met.ofW (cc := cX11_goesShare) (maxL := 7) (ret := none) (by decide) rfl ?_
  intro p e s m args below meth c s₁ B hml hv
  obtain ⟨rfl, hsz, hP, hK, hD0⟩ := hv
  have hx := B.exec
  have hb := B.bytes
  have hr := B.returns
  have ht : ∀ w ∈ zb_T, w.before ([.ref (ad 0), .int p1, .int p2, .int p3, .int p4, .int p5] : List Value).toArray s = true := fun w hw => atoms_spec (ws := .code yX11_goesShare cX11_goesShare 7 none :: zb_T) B.pre w (List.mem_cons_of_mem _ hw)
  have hown : s.vm.findClass RX11 = some m.cls := findClass_of_methodNamed B.named
  have hlocks := B.notSynchronized
  subst hsz
  have hD := hD0.self (sz := s.heap.size)
  generalize hAe : va_A [zr_o ad f_thrown f_taped f_at f_behind f_size f_kind f_number f_wrong f_wrongAt f_faultKind f_faultPlace f_reading f_toldWhy f_x f_standMany f_bestMany f_tail f_round1, (ad 2, .inl (dA 0, 2982, .inl b_all)), (ad 29, .inl (dA 0, 6, .inl b_shared)), (ad 30, .inl (dA 0, 6, .inl b_bestShared))] s.heap.size = A at hD ⊢
  have hA : ∀ q : Nat, s.heap.size ≤ q → A q := fun q h => by rw [← hAe]; exact Or.inr h
  clear hAe hD0
  have hS : va_S A s.heap s.heap [] := va_S.rf
  have hl := lv_entry ([.ref (ad 0), .int p1, .int p2, .int p3, .int p4, .int p5]) (n := 7) (Nat.le_of_ble_eq_true rfl)
  rw [lg_entry_eq]
  generalize (lg_sl ([.ref (ad 0), .int p1, .int p2, .int p3, .int p4, .int p5]) ++ List.replicate (7 - (lg_sl ([.ref (ad 0), .int p1, .int p2, .int p3, .int p4, .int p5])).length) Slot.unset).toArray = ls at hl ⊢
  have hl : lv_has ls 7 [(0, .ref (ad 0)), (1, .int p1), (2, .int p2), (3, .int p3), (4, .int p4), (5, .int p5)] := hl
  refine lv_iload_n (pc := 0) hx hb dX11_goesShare_0 rfl (lv_at hl 1 rfl) ?_
  refine lv_aload_n (pc := 1) hx hb dX11_goesShare_1 rfl (lv_at hl 0 rfl) ?_
  refine va_get (pc := 2) (D := (dC, dI)) (ci := 0) (v := .ref (ad 2)) (C := RX11) (T := TX11) (N := 42) hx hb ht zb_lay hown hK hP 0 rfl rfl 1 (by decide) (ht _ (zb_l zr_6)) (fun _ h9 => h9) rfl dX11_goesShare_2 ?_
  refine lv_iconst (v := (2 : Int32)) (pc := 5) hx hb dX11_goesShare_5 (by decide) ?_
  obtain ⟨v1, hv1, hf⟩ := zc_1 hf
  refine zw_iald (pc := 6) hx hb hK hP 1 0 rfl rfl hv1 dX11_goesShare_6 ?_
  refine lv_icmp_ne (tgt := 57) (pc := 7) hx hb dX11_goesShare_7 rfl (fun hc => ?_) (fun hc => ?_)
  · have hf := za_f hf hc
    refine lv_iconst (v := (0 : Int32)) (pc := 57) hx hb dX11_goesShare_57 (by decide) ?_
    refine lv_istore (lv' := [(6, .int (0 : Int32)), (0, .ref (ad 0)), (1, .int p1), (2, .int p2), (3, .int p3), (4, .int p4), (5, .int p5)]) (pc := 58) hx hb dX11_goesShare_58 hl (by decide) rfl (fun ls hl => ?_)
    obtain ⟨g29, v25, v26, a27, a28, hj, hf⟩ := zc_5 hf
    refine zj_join (pcJ := 133) (stk := []) (X := fun H locs ls => lv_has ls 7 [(0, .ref (ad 0)), (1, .int p1), (2, .int p2), (3, .int p3), (4, .int p4), (5, .int p5)] ∧ va_P (dC, dI) zz_cls [zr_o ad f_thrown f_taped f_at f_behind f_size f_kind f_number f_wrong f_wrongAt f_faultKind f_faultPlace f_reading f_toldWhy f_x f_standMany v26 f_tail f_round1, (ad 2, .inl (dA 0, 2982, .inl b_all)), (ad 29, .inl (dA 0, 6, .inl a27)), (ad 30, .inl (dA 0, 6, .inl a28))] H ∧ va_D A [zr_o ad f_thrown f_taped f_at f_behind f_size f_kind f_number f_wrong f_wrongAt f_faultKind f_faultPlace f_reading f_toldWhy f_x f_standMany v26 f_tail f_round1, (ad 2, .inl (dA 0, 2982, .inl b_all)), (ad 29, .inl (dA 0, 6, .inl a27)), (ad 30, .inl (dA 0, 6, .inl a28))] ∧ va_S A s.heap H locs) (fun H locs ls hX => ?_) (fun E133 => ?_)
    · obtain ⟨hl, hP, hD, hS⟩ := hX
      clear hj
      refine lv_aload_n (pc := 133) hx hb dX11_goesShare_133 rfl (lv_at hl 0 rfl) ?_
      refine va_get (pc := 134) (D := (dC, dI)) (ci := 0) (v := .ref (ad 29)) (C := RX11) (T := TX11) (N := 42) hx hb ht zb_lay hown hK hP 0 rfl rfl 28 (by decide) (ht _ (zb_l zr_23)) (fun _ h9 => h9) rfl dX11_goesShare_134 ?_
      refine lv_iload_n (pc := 137) hx hb dX11_goesShare_137 rfl (lv_at hl 1 rfl) ?_
      refine lv_iconst (v := (-1 : Int32)) (pc := 138) hx hb dX11_goesShare_138 (by decide) ?_
      obtain ⟨a30, ha30, hf⟩ := zc_1 hf
      refine zw_iast (pc := 139) hx hb hK hP hD hS 2 0 rfl rfl ha30 dX11_goesShare_139 (fun H locs hP hD hS => ?_)
      have hP : va_P (dC, dI) zz_cls [zr_o ad f_thrown f_taped f_at f_behind f_size f_kind f_number f_wrong f_wrongAt f_faultKind f_faultPlace f_reading f_toldWhy f_x f_standMany v26 f_tail f_round1, (ad 2, .inl (dA 0, 2982, .inl b_all)), (ad 29, .inl (dA 0, 6, .inl a30)), (ad 30, .inl (dA 0, 6, .inl a28))] H := hP
      have hD : va_D A [zr_o ad f_thrown f_taped f_at f_behind f_size f_kind f_number f_wrong f_wrongAt f_faultKind f_faultPlace f_reading f_toldWhy f_x f_standMany v26 f_tail f_round1, (ad 2, .inl (dA 0, 2982, .inl b_all)), (ad 29, .inl (dA 0, 6, .inl a30)), (ad 30, .inl (dA 0, 6, .inl a28))] := hD
      refine lv_aload_n (pc := 140) hx hb dX11_goesShare_140 rfl (lv_at hl 0 rfl) ?_
      refine lv_iload_n (pc := 141) hx hb dX11_goesShare_141 rfl (lv_at hl 1 rfl) ?_
      refine lv_iconst (v := (1 : Int32)) (pc := 142) hx hb dX11_goesShare_142 (by decide) ?_
      refine lv_iadd (pc := 143) hx hb dX11_goesShare_143 ?_
      refine lv_iload_n (pc := 144) hx hb dX11_goesShare_144 rfl (lv_at hl 2 rfl) ?_
      refine lv_iload_n (pc := 145) hx hb dX11_goesShare_145 rfl (lv_at hl 3 rfl) ?_
      refine lv_iload (pc := 146) hx hb dX11_goesShare_146 (lv_at hl 4 rfl) ?_
      refine lv_iload (pc := 148) hx hb dX11_goesShare_148 (lv_at hl 5 rfl) ?_
      obtain ⟨v31, a32, a33, hv31, hf⟩ := zc_3 hf
      refine zw_Vv (pc := 150) (wc := [zr_o ad f_thrown f_taped f_at f_behind f_size f_kind f_number f_wrong f_wrongAt f_faultKind f_faultPlace f_reading f_toldWhy f_x f_standMany v26 f_tail f_round1, (ad 2, .inl (dA 0, 2982, .inl b_all)), (ad 29, .inl (dA 0, 6, .inl a30)), (ad 30, .inl (dA 0, 6, .inl a28))]) (wr := []) (w1 := [zr_o ad f_thrown f_taped f_at f_behind f_size f_kind f_number f_wrong f_wrongAt f_faultKind f_faultPlace f_reading f_toldWhy f_x f_standMany v31 f_tail f_round1, (ad 2, .inl (dA 0, 2982, .inl b_all)), (ad 29, .inl (dA 0, 6, .inl a32)), (ad 30, .inl (dA 0, 6, .inl a33))]) (As := [.int (p1 + (1 : Int32)), .int p2, .int p3, .int p4, .int p5]) (rest := []) ⟨hx, hb, hml, hown, ht⟩ (IH0 l dC dI dA ad adK adV _ f_thrown f_taped f_at f_behind f_size f_kind f_number f_wrong f_wrongAt f_faultKind f_faultPlace f_reading f_toldWhy f_x f_standMany v26 f_tail f_round1 b_all a30 a28 (p1 + (1 : Int32)) p2 p3 p4 p5 v31 a32 a33 hv31) (cwV 5 ht (zb_V (fun _ h => zb_i h) (zb_l zr_394) (zb_l zr_395) (zb_l zr_396) (zb_l zr_36) (zb_l zr_392)) rfl rfl rfl zk_X11_goesShare ⟨Nat.le_refl _, (show 8 + (7 + 11) + (44 + 40 * d) ≤ 44 + 40 * (d + 1) by omega)⟩) rfl rfl hK hP hD hS hA [0, 1, 2, 3] [] (by decide) (by decide) (by decide) rfl rfl rfl hl.1 (Nat.le_of_ble_eq_true rfl) dX11_goesShare_150 ⟨Nat.zero_le _, Nat.zero_le _⟩ rfl (fun H locs hP hD hS => ?_)
      have hP : va_P (dC, dI) zz_cls [zr_o ad f_thrown f_taped f_at f_behind f_size f_kind f_number f_wrong f_wrongAt f_faultKind f_faultPlace f_reading f_toldWhy f_x f_standMany v31 f_tail f_round1, (ad 2, .inl (dA 0, 2982, .inl b_all)), (ad 29, .inl (dA 0, 6, .inl a32)), (ad 30, .inl (dA 0, 6, .inl a33))] H := hP
      have hD : va_D A [zr_o ad f_thrown f_taped f_at f_behind f_size f_kind f_number f_wrong f_wrongAt f_faultKind f_faultPlace f_reading f_toldWhy f_x f_standMany v31 f_tail f_round1, (ad 2, .inl (dA 0, 2982, .inl b_all)), (ad 29, .inl (dA 0, 6, .inl a32)), (ad 30, .inl (dA 0, 6, .inl a33))] := hD
      obtain ⟨rfl, rfl, rfl⟩ := zi_3 hf
      exact W.vret (pc := 153) hx hb hr (fun t ht hW => ⟨⟨(), rfl, trivial, zz_Bi (by rw [ht]; exact hP) (va_K.moved hW.alike hK) (hD)⟩, hS.F ht⟩) hS.2.2 dX11_goesShare_153
    clear hf
    refine zw_loop (pcH := 60) (X := fun v H locs ls => lv_has ls 7 [(0, .ref (ad 0)), (1, .int p1), (2, .int p2), (3, .int p3), (4, .int p4), (5, .int p5), (6, .int v.1)] ∧ va_P (dC, dI) zz_cls [zr_o ad f_thrown f_taped f_at f_behind f_size f_kind f_number f_wrong f_wrongAt f_faultKind f_faultPlace f_reading f_toldWhy f_x f_standMany v.2.1 f_tail f_round1, (ad 2, .inl (dA 0, 2982, .inl b_all)), (ad 29, .inl (dA 0, 6, .inl v.2.2.1)), (ad 30, .inl (dA 0, 6, .inl v.2.2.2))] H ∧ va_D A [zr_o ad f_thrown f_taped f_at f_behind f_size f_kind f_number f_wrong f_wrongAt f_faultKind f_faultPlace f_reading f_toldWhy f_x f_standMany v.2.1 f_tail f_round1, (ad 2, .inl (dA 0, 2982, .inl b_all)), (ad 29, .inl (dA 0, 6, .inl v.2.2.1)), (ad 30, .inl (dA 0, 6, .inl v.2.2.2))] ∧ va_S A s.heap H locs) hj (fun v w hf ih ex H locs ls hX => ?_) _ _ _ ⟨lv_sub hl [1, 2, 3, 4, 5, 6, 0] rfl, hP, hD, hS⟩
    clear hj
    obtain ⟨v10, v11, a12, a13⟩ := v
    obtain ⟨hl, hP, hD, hS⟩ := hX
    have hl : lv_has ls 7 [(0, .ref (ad 0)), (1, .int p1), (2, .int p2), (3, .int p3), (4, .int p4), (5, .int p5), (6, .int v10)] := hl
    have hP : va_P (dC, dI) zz_cls [zr_o ad f_thrown f_taped f_at f_behind f_size f_kind f_number f_wrong f_wrongAt f_faultKind f_faultPlace f_reading f_toldWhy f_x f_standMany v11 f_tail f_round1, (ad 2, .inl (dA 0, 2982, .inl b_all)), (ad 29, .inl (dA 0, 6, .inl a12)), (ad 30, .inl (dA 0, 6, .inl a13))] H := hP
    have hD : va_D A [zr_o ad f_thrown f_taped f_at f_behind f_size f_kind f_number f_wrong f_wrongAt f_faultKind f_faultPlace f_reading f_toldWhy f_x f_standMany v11 f_tail f_round1, (ad 2, .inl (dA 0, 2982, .inl b_all)), (ad 29, .inl (dA 0, 6, .inl a12)), (ad 30, .inl (dA 0, 6, .inl a13))] := hD
    replace hf : zb_X11_goesShare_60 p2 p3 p1 p4 b_all (zg_X11g n d) p5 v10 v11 a12 a13 = some w := hf
    unfold zb_X11_goesShare_60 at hf
    refine lv_iload (pc := 60) hx hb dX11_goesShare_60 (lv_at hl 6 rfl) ?_
    refine lv_iload_n (pc := 62) hx hb dX11_goesShare_62 rfl (lv_at hl 2 rfl) ?_
    refine lv_icmp_ge (tgt := 133) (pc := 63) hx hb dX11_goesShare_63 rfl (fun hc => ?_) (fun hc => ?_)
    · have hf := za_t hf hc
      obtain rfl := Option.some.inj hf
      obtain ⟨rfl, rfl, rfl, rfl, rfl⟩ := zp_5 (ex (show ¬ (1 : Nat) = 0 by decide))
      exact E133 _ _ _ ⟨lv_sub hl [0, 1, 2, 3, 4, 5] rfl, hP, hD, hS⟩
    · have hf := za_f hf hc
      refine lv_iload_n (pc := 66) hx hb dX11_goesShare_66 rfl (lv_at hl 3 rfl) ?_
      refine lv_i2l (pc := 67) hx hb dX11_goesShare_67 rfl ?_
      refine lv_iload_n (pc := 68) hx hb dX11_goesShare_68 rfl (lv_at hl 1 rfl) ?_
      obtain ⟨v14, hv14, hf⟩ := zc_1 hf
      refine zw_Si (pc := 69) (wc := []) (wr := [zr_o ad f_thrown f_taped f_at f_behind f_size f_kind f_number f_wrong f_wrongAt f_faultKind f_faultPlace f_reading f_toldWhy f_x f_standMany v11 f_tail f_round1, (ad 2, .inl (dA 0, 2982, .inl b_all)), (ad 29, .inl (dA 0, 6, .inl a12)), (ad 30, .inl (dA 0, 6, .inl a13))]) (w1 := []) (As := [.long (Int32.toInt64 p3), .int p1]) (rest := []) ⟨hx, hb, hml, hown, ht⟩ (zt_X11_isIn l dC dI dA ad _ (Int32.toInt64 p3) p1 v14 hv14) (cwS 2 ht (zb_S (fun _ h => zb_l h) (zb_l zr_246) (zb_l zr_247) (zb_l zr_36) (zb_l zr_127)) rfl rfl rfl zk_X11_isIn ⟨Nat.le_trans (show 0 + 1 ≤ 2 by decide) (Nat.le_add_right _ _), Nat.le_trans (show 8 + (3 + 11) + 0 ≤ 44 by decide) (Nat.le_add_right _ _)⟩) hK hP hD hS hA [] [0, 1, 2, 3] (by decide) (by decide) (by decide) rfl rfl rfl hl.1 (Nat.le_of_ble_eq_true rfl) dX11_goesShare_69 ⟨Nat.zero_le _, Nat.zero_le _⟩ rfl (fun H locs hP hD hS => ?_)
      have hP : va_P (dC, dI) zz_cls [zr_o ad f_thrown f_taped f_at f_behind f_size f_kind f_number f_wrong f_wrongAt f_faultKind f_faultPlace f_reading f_toldWhy f_x f_standMany v11 f_tail f_round1, (ad 2, .inl (dA 0, 2982, .inl b_all)), (ad 29, .inl (dA 0, 6, .inl a12)), (ad 30, .inl (dA 0, 6, .inl a13))] H := hP
      have hD : va_D A [zr_o ad f_thrown f_taped f_at f_behind f_size f_kind f_number f_wrong f_wrongAt f_faultKind f_faultPlace f_reading f_toldWhy f_x f_standMany v11 f_tail f_round1, (ad 2, .inl (dA 0, 2982, .inl b_all)), (ad 29, .inl (dA 0, 6, .inl a12)), (ad 30, .inl (dA 0, 6, .inl a13))] := hD
      refine lv_if_eq (tgt := 133) (pc := 72) hx hb dX11_goesShare_72 rfl (fun hc => ?_) (fun hc => ?_)
      · have hf := za_t hf hc
        obtain rfl := Option.some.inj hf
        obtain ⟨rfl, rfl, rfl, rfl, rfl⟩ := zp_5 (ex (show ¬ (1 : Nat) = 0 by decide))
        exact E133 _ _ _ ⟨lv_sub hl [0, 1, 2, 3, 4, 5] rfl, hP, hD, hS⟩
      · have hf := za_f hf hc
        refine lv_iload (pc := 75) hx hb dX11_goesShare_75 (lv_at hl 4 rfl) ?_
        refine lv_i2l (pc := 77) hx hb dX11_goesShare_77 rfl ?_
        refine lv_iload (pc := 78) hx hb dX11_goesShare_78 (lv_at hl 6 rfl) ?_
        obtain ⟨v15, hv15, hf⟩ := zc_1 hf
        refine zw_Si (pc := 80) (wc := []) (wr := [zr_o ad f_thrown f_taped f_at f_behind f_size f_kind f_number f_wrong f_wrongAt f_faultKind f_faultPlace f_reading f_toldWhy f_x f_standMany v11 f_tail f_round1, (ad 2, .inl (dA 0, 2982, .inl b_all)), (ad 29, .inl (dA 0, 6, .inl a12)), (ad 30, .inl (dA 0, 6, .inl a13))]) (w1 := []) (As := [.long (Int32.toInt64 p4), .int v10]) (rest := []) ⟨hx, hb, hml, hown, ht⟩ (zt_X11_isIn l dC dI dA ad _ (Int32.toInt64 p4) v10 v15 hv15) (cwS 2 ht (zb_S (fun _ h => zb_l h) (zb_l zr_246) (zb_l zr_247) (zb_l zr_36) (zb_l zr_127)) rfl rfl rfl zk_X11_isIn ⟨Nat.le_trans (show 0 + 1 ≤ 2 by decide) (Nat.le_add_right _ _), Nat.le_trans (show 8 + (3 + 11) + 0 ≤ 44 by decide) (Nat.le_add_right _ _)⟩) hK hP hD hS hA [] [0, 1, 2, 3] (by decide) (by decide) (by decide) rfl rfl rfl hl.1 (Nat.le_of_ble_eq_true rfl) dX11_goesShare_80 ⟨Nat.zero_le _, Nat.zero_le _⟩ rfl (fun H locs hP hD hS => ?_)
        have hP : va_P (dC, dI) zz_cls [zr_o ad f_thrown f_taped f_at f_behind f_size f_kind f_number f_wrong f_wrongAt f_faultKind f_faultPlace f_reading f_toldWhy f_x f_standMany v11 f_tail f_round1, (ad 2, .inl (dA 0, 2982, .inl b_all)), (ad 29, .inl (dA 0, 6, .inl a12)), (ad 30, .inl (dA 0, 6, .inl a13))] H := hP
        have hD : va_D A [zr_o ad f_thrown f_taped f_at f_behind f_size f_kind f_number f_wrong f_wrongAt f_faultKind f_faultPlace f_reading f_toldWhy f_x f_standMany v11 f_tail f_round1, (ad 2, .inl (dA 0, 2982, .inl b_all)), (ad 29, .inl (dA 0, 6, .inl a12)), (ad 30, .inl (dA 0, 6, .inl a13))] := hD
        obtain ⟨v21, a22, a23, hj, hf⟩ := zc_3 hf
        refine zj_join (pcJ := 127) (stk := []) (X := fun H locs ls => lv_has ls 7 [(0, .ref (ad 0)), (1, .int p1), (2, .int p2), (3, .int p3), (4, .int p4), (5, .int p5), (6, .int v10)] ∧ va_P (dC, dI) zz_cls [zr_o ad f_thrown f_taped f_at f_behind f_size f_kind f_number f_wrong f_wrongAt f_faultKind f_faultPlace f_reading f_toldWhy f_x f_standMany v21 f_tail f_round1, (ad 2, .inl (dA 0, 2982, .inl b_all)), (ad 29, .inl (dA 0, 6, .inl a22)), (ad 30, .inl (dA 0, 6, .inl a23))] H ∧ va_D A [zr_o ad f_thrown f_taped f_at f_behind f_size f_kind f_number f_wrong f_wrongAt f_faultKind f_faultPlace f_reading f_toldWhy f_x f_standMany v21 f_tail f_round1, (ad 2, .inl (dA 0, 2982, .inl b_all)), (ad 29, .inl (dA 0, 6, .inl a22)), (ad 30, .inl (dA 0, 6, .inl a23))] ∧ va_S A s.heap H locs) (fun H locs ls hX => ?_) (fun J127 => ?_)
        · obtain ⟨hl, hP, hD, hS⟩ := hX
          clear hj
          obtain ⟨v24, hv24, hf⟩ := zc_1 hf
          refine lv_iinc (v := v24) (lv' := [(6, .int v24), (0, .ref (ad 0)), (1, .int p1), (2, .int p2), (3, .int p3), (4, .int p4), (5, .int p5)]) (k := 6) (pc := 127) hx hb dX11_goesShare_127 hl rfl (Option.some.inj hv24) (by decide) rfl (fun ls hl => ?_)
          refine lv_goto (tgt := 60) (pc := 130) hx hb dX11_goesShare_130 rfl ?_
          obtain rfl := Option.some.inj hf
          exact ih rfl _ _ _ ⟨lv_sub hl [1, 2, 3, 4, 5, 6, 0] rfl, hP, hD, hS⟩
        · clear hf
          have hf := hj
          clear hj
          refine lv_if_ne (tgt := 127) (pc := 83) hx hb dX11_goesShare_83 rfl (fun hc => ?_) (fun hc => ?_)
          · have hf := za_f hf hc
            obtain ⟨rfl, rfl, rfl⟩ := zi_3 hf
            exact J127 _ _ _ ⟨lv_sub hl [0, 1, 2, 3, 4, 5, 6] rfl, hP, hD, hS⟩
          · have hf := za_t hf hc
            refine lv_aload_n (pc := 86) hx hb dX11_goesShare_86 rfl (lv_at hl 0 rfl) ?_
            refine lv_iload (pc := 87) hx hb dX11_goesShare_87 (lv_at hl 6 rfl) ?_
            refine lv_iload_n (pc := 89) hx hb dX11_goesShare_89 rfl (lv_at hl 1 rfl) ?_
            obtain ⟨v16, hv16, hf⟩ := zc_1 hf
            refine zw_Vi (pc := 90) (wc := [zr_o ad f_thrown f_taped f_at f_behind f_size f_kind f_number f_wrong f_wrongAt f_faultKind f_faultPlace f_reading f_toldWhy f_x f_standMany v11 f_tail f_round1, (ad 2, .inl (dA 0, 2982, .inl b_all))]) (wr := [(ad 29, .inl (dA 0, 6, .inl a12)), (ad 30, .inl (dA 0, 6, .inl a13))]) (w1 := [zr_o ad f_thrown f_taped f_at f_behind f_size f_kind f_number f_wrong f_wrongAt f_faultKind f_faultPlace f_reading f_toldWhy f_x f_standMany v11 f_tail f_round1, (ad 2, .inl (dA 0, 2982, .inl b_all))]) (As := [.int v10, .int p1]) (rest := []) ⟨hx, hb, hml, hown, ht⟩ (zt_X11_isLanding l dC dI dA ad _ f_thrown f_taped f_at f_behind f_size f_kind f_number f_wrong f_wrongAt f_faultKind f_faultPlace f_reading f_toldWhy f_x f_standMany v11 f_tail f_round1 b_all v10 p1 v16 hv16) (cwV 2 ht (zb_V (fun _ h => zb_l h) (zb_l zr_389) (zb_l zr_390) (zb_l zr_391) (zb_l zr_36) (zb_l zr_387)) rfl rfl rfl zk_X11_isLanding ⟨Nat.le_trans (show 1 + 1 ≤ 2 by decide) (Nat.le_add_right _ _), Nat.le_trans (show 8 + (3 + 11) + 22 ≤ 44 by decide) (Nat.le_add_right _ _)⟩) rfl rfl hK hP hD hS hA [0, 1] [2, 3] (by decide) (by decide) (by decide) rfl rfl rfl hl.1 (Nat.le_of_ble_eq_true rfl) dX11_goesShare_90 ⟨Nat.zero_le _, Nat.zero_le _⟩ rfl (fun H locs hP hD hS => ?_)
            have hP : va_P (dC, dI) zz_cls [(ad 29, .inl (dA 0, 6, .inl a12)), (ad 30, .inl (dA 0, 6, .inl a13)), zr_o ad f_thrown f_taped f_at f_behind f_size f_kind f_number f_wrong f_wrongAt f_faultKind f_faultPlace f_reading f_toldWhy f_x f_standMany v11 f_tail f_round1, (ad 2, .inl (dA 0, 2982, .inl b_all))] H := hP
            have hD : va_D A [(ad 29, .inl (dA 0, 6, .inl a12)), (ad 30, .inl (dA 0, 6, .inl a13)), zr_o ad f_thrown f_taped f_at f_behind f_size f_kind f_number f_wrong f_wrongAt f_faultKind f_faultPlace f_reading f_toldWhy f_x f_standMany v11 f_tail f_round1, (ad 2, .inl (dA 0, 2982, .inl b_all))] := hD
            refine lv_if_ne (tgt := 99) (pc := 93) hx hb dX11_goesShare_93 rfl (fun hc => ?_) (fun hc => ?_)
            · have hf := za_f hf hc
              refine lv_aload_n (pc := 99) hx hb dX11_goesShare_99 rfl (lv_at hl 0 rfl) ?_
              refine va_get (pc := 100) (D := (dC, dI)) (ci := 0) (v := .ref (ad 29)) (C := RX11) (T := TX11) (N := 42) hx hb ht zb_lay hown hK hP 2 rfl rfl 28 (by decide) (ht _ (zb_l zr_23)) (fun _ h9 => h9) rfl dX11_goesShare_100 ?_
              refine lv_iload_n (pc := 103) hx hb dX11_goesShare_103 rfl (lv_at hl 1 rfl) ?_
              refine lv_iload (pc := 104) hx hb dX11_goesShare_104 (lv_at hl 6 rfl) ?_
              obtain ⟨a17, ha17, hf⟩ := zc_1 hf
              refine zw_iast (pc := 106) hx hb hK hP hD hS 0 0 rfl rfl ha17 dX11_goesShare_106 (fun H locs hP hD hS => ?_)
              have hP : va_P (dC, dI) zz_cls [(ad 29, .inl (dA 0, 6, .inl a17)), (ad 30, .inl (dA 0, 6, .inl a13)), zr_o ad f_thrown f_taped f_at f_behind f_size f_kind f_number f_wrong f_wrongAt f_faultKind f_faultPlace f_reading f_toldWhy f_x f_standMany v11 f_tail f_round1, (ad 2, .inl (dA 0, 2982, .inl b_all))] H := hP
              have hD : va_D A [(ad 29, .inl (dA 0, 6, .inl a17)), (ad 30, .inl (dA 0, 6, .inl a13)), zr_o ad f_thrown f_taped f_at f_behind f_size f_kind f_number f_wrong f_wrongAt f_faultKind f_faultPlace f_reading f_toldWhy f_x f_standMany v11 f_tail f_round1, (ad 2, .inl (dA 0, 2982, .inl b_all))] := hD
              refine lv_aload_n (pc := 107) hx hb dX11_goesShare_107 rfl (lv_at hl 0 rfl) ?_
              refine lv_iload_n (pc := 108) hx hb dX11_goesShare_108 rfl (lv_at hl 1 rfl) ?_
              refine lv_iconst (v := (1 : Int32)) (pc := 109) hx hb dX11_goesShare_109 (by decide) ?_
              refine lv_iadd (pc := 110) hx hb dX11_goesShare_110 ?_
              refine lv_iload_n (pc := 111) hx hb dX11_goesShare_111 rfl (lv_at hl 2 rfl) ?_
              refine lv_iload_n (pc := 112) hx hb dX11_goesShare_112 rfl (lv_at hl 3 rfl) ?_
              refine lv_iload (pc := 113) hx hb dX11_goesShare_113 (lv_at hl 4 rfl) ?_
              refine lv_iconst (v := (1 : Int32)) (pc := 115) hx hb dX11_goesShare_115 (by decide) ?_
              refine lv_iload (pc := 116) hx hb dX11_goesShare_116 (lv_at hl 6 rfl) ?_
              refine lv_ishl (pc := 118) hx hb dX11_goesShare_118 ?_
              refine lv_ior (pc := 119) hx hb dX11_goesShare_119 ?_
              refine lv_iload (pc := 120) hx hb dX11_goesShare_120 (lv_at hl 5 rfl) ?_
              refine lv_iconst (v := (1 : Int32)) (pc := 122) hx hb dX11_goesShare_122 (by decide) ?_
              refine lv_iadd (pc := 123) hx hb dX11_goesShare_123 ?_
              obtain ⟨v18, a19, a20, hv18, hf⟩ := zc_3 hf
              refine zw_Vv (pc := 124) (wc := [zr_o ad f_thrown f_taped f_at f_behind f_size f_kind f_number f_wrong f_wrongAt f_faultKind f_faultPlace f_reading f_toldWhy f_x f_standMany v11 f_tail f_round1, (ad 2, .inl (dA 0, 2982, .inl b_all)), (ad 29, .inl (dA 0, 6, .inl a17)), (ad 30, .inl (dA 0, 6, .inl a13))]) (wr := []) (w1 := [zr_o ad f_thrown f_taped f_at f_behind f_size f_kind f_number f_wrong f_wrongAt f_faultKind f_faultPlace f_reading f_toldWhy f_x f_standMany v18 f_tail f_round1, (ad 2, .inl (dA 0, 2982, .inl b_all)), (ad 29, .inl (dA 0, 6, .inl a19)), (ad 30, .inl (dA 0, 6, .inl a20))]) (As := [.int (p1 + (1 : Int32)), .int p2, .int p3, .int (p4 ||| ((1 : Int32) <<< (v10 &&& 31))), .int (p5 + (1 : Int32))]) (rest := []) ⟨hx, hb, hml, hown, ht⟩ (IH0 l dC dI dA ad adK adV _ f_thrown f_taped f_at f_behind f_size f_kind f_number f_wrong f_wrongAt f_faultKind f_faultPlace f_reading f_toldWhy f_x f_standMany v11 f_tail f_round1 b_all a17 a13 (p1 + (1 : Int32)) p2 p3 (p4 ||| ((1 : Int32) <<< (v10 &&& 31))) (p5 + (1 : Int32)) v18 a19 a20 hv18) (cwV 5 ht (zb_V (fun _ h => zb_i h) (zb_l zr_394) (zb_l zr_395) (zb_l zr_396) (zb_l zr_36) (zb_l zr_392)) rfl rfl rfl zk_X11_goesShare ⟨Nat.le_refl _, (show 8 + (7 + 11) + (44 + 40 * d) ≤ 44 + 40 * (d + 1) by omega)⟩) rfl rfl hK hP hD hS hA [2, 3, 0, 1] [] (by decide) (by decide) (by decide) rfl rfl rfl hl.1 (Nat.le_of_ble_eq_true rfl) dX11_goesShare_124 ⟨Nat.zero_le _, Nat.zero_le _⟩ rfl (fun H locs hP hD hS => ?_)
              have hP : va_P (dC, dI) zz_cls [zr_o ad f_thrown f_taped f_at f_behind f_size f_kind f_number f_wrong f_wrongAt f_faultKind f_faultPlace f_reading f_toldWhy f_x f_standMany v18 f_tail f_round1, (ad 2, .inl (dA 0, 2982, .inl b_all)), (ad 29, .inl (dA 0, 6, .inl a19)), (ad 30, .inl (dA 0, 6, .inl a20))] H := hP
              have hD : va_D A [zr_o ad f_thrown f_taped f_at f_behind f_size f_kind f_number f_wrong f_wrongAt f_faultKind f_faultPlace f_reading f_toldWhy f_x f_standMany v18 f_tail f_round1, (ad 2, .inl (dA 0, 2982, .inl b_all)), (ad 29, .inl (dA 0, 6, .inl a19)), (ad 30, .inl (dA 0, 6, .inl a20))] := hD
              obtain ⟨rfl, rfl, rfl⟩ := zi_3 hf
              exact J127 _ _ _ ⟨lv_sub hl [0, 1, 2, 3, 4, 5, 6] rfl, hP, hD, hS⟩
            · have hf := za_t hf hc
              refine lv_goto (tgt := 127) (pc := 96) hx hb dX11_goesShare_96 rfl ?_
              obtain ⟨rfl, rfl, rfl⟩ := zi_3 hf
              exact J127 _ _ _ ⟨lv_sub hl [0, 1, 2, 3, 4, 5, 6] rfl, hP.sub [2, 3, 0, 1] rfl, hD.sub [2, 3, 0, 1] (by decide) rfl, hS⟩
  · have hf := za_t hf hc
    refine lv_iload (pc := 10) hx hb dX11_goesShare_10 (lv_at hl 5 rfl) ?_
    refine lv_aload_n (pc := 12) hx hb dX11_goesShare_12 rfl (lv_at hl 0 rfl) ?_
    refine va_get (pc := 13) (D := (dC, dI)) (ci := 0) (v := .int f_bestMany) (C := RX11) (T := TX11) (N := 42) hx hb ht zb_lay hown hK hP 0 rfl rfl 30 (by decide) (ht _ (zb_l zr_393)) (fun _ h9 => h9) rfl dX11_goesShare_13 ?_
    refine lv_icmp_gt (tgt := 20) (pc := 16) hx hb dX11_goesShare_16 rfl (fun hc => ?_) (fun hc => ?_)
    · have hf := za_t hf hc
      refine lv_aload_n (pc := 20) hx hb dX11_goesShare_20 rfl (lv_at hl 0 rfl) ?_
      refine lv_iload (pc := 21) hx hb dX11_goesShare_21 (lv_at hl 5 rfl) ?_
      refine va_put (pc := 23) (D := (dC, dI)) (ci := 0) (v := .int p5) (ty := .int) (C := RX11) (T := TX11) (N := 42) hx hb ht zb_lay tyX11 tyX11_ok nmX11 hown hK hP hD hS 0 rfl rfl 30 (by decide) (ht _ (zb_l zr_393)) (fun _ h9 => h9) rfl (by decide +kernel) rfl rfl (Nat.le_of_ble_eq_true rfl) dX11_goesShare_23 (fun H locs hP hD hS => ?_)
      have hP : va_P (dC, dI) zz_cls [zr_o ad f_thrown f_taped f_at f_behind f_size f_kind f_number f_wrong f_wrongAt f_faultKind f_faultPlace f_reading f_toldWhy f_x f_standMany p5 f_tail f_round1, (ad 2, .inl (dA 0, 2982, .inl b_all)), (ad 29, .inl (dA 0, 6, .inl b_shared)), (ad 30, .inl (dA 0, 6, .inl b_bestShared))] H := hP
      have hD : va_D A [zr_o ad f_thrown f_taped f_at f_behind f_size f_kind f_number f_wrong f_wrongAt f_faultKind f_faultPlace f_reading f_toldWhy f_x f_standMany p5 f_tail f_round1, (ad 2, .inl (dA 0, 2982, .inl b_all)), (ad 29, .inl (dA 0, 6, .inl b_shared)), (ad 30, .inl (dA 0, 6, .inl b_bestShared))] := hD
      refine lv_iconst (v := (0 : Int32)) (pc := 26) hx hb dX11_goesShare_26 (by decide) ?_
      refine lv_istore (lv' := [(6, .int (0 : Int32)), (0, .ref (ad 0)), (1, .int p1), (2, .int p2), (3, .int p3), (4, .int p4), (5, .int p5)]) (pc := 27) hx hb dX11_goesShare_27 hl (by decide) rfl (fun ls hl => ?_)
      obtain ⟨g9, v7, a8, hj, hf⟩ := zc_3 hf
      refine zj_join (pcJ := 56) (stk := []) (X := fun H locs ls => lv_has ls 7 [] ∧ va_P (dC, dI) zz_cls [zr_o ad f_thrown f_taped f_at f_behind f_size f_kind f_number f_wrong f_wrongAt f_faultKind f_faultPlace f_reading f_toldWhy f_x f_standMany p5 f_tail f_round1, (ad 2, .inl (dA 0, 2982, .inl b_all)), (ad 29, .inl (dA 0, 6, .inl b_shared)), (ad 30, .inl (dA 0, 6, .inl a8))] H ∧ va_D A [zr_o ad f_thrown f_taped f_at f_behind f_size f_kind f_number f_wrong f_wrongAt f_faultKind f_faultPlace f_reading f_toldWhy f_x f_standMany p5 f_tail f_round1, (ad 2, .inl (dA 0, 2982, .inl b_all)), (ad 29, .inl (dA 0, 6, .inl b_shared)), (ad 30, .inl (dA 0, 6, .inl a8))] ∧ va_S A s.heap H locs) (fun H locs ls hX => ?_) (fun E56 => ?_)
      · obtain ⟨hl, hP, hD, hS⟩ := hX
        clear hj
        obtain ⟨rfl, rfl, rfl⟩ := zi_3 hf
        exact W.vret (pc := 56) hx hb hr (fun t ht hW => ⟨⟨(), rfl, trivial, zz_Bi (by rw [ht]; exact hP) (va_K.moved hW.alike hK) (hD)⟩, hS.F ht⟩) hS.2.2 dX11_goesShare_56
      clear hf
      refine zw_loop (pcH := 29) (X := fun v H locs ls => lv_has ls 7 [(0, .ref (ad 0)), (6, .int v.1)] ∧ va_P (dC, dI) zz_cls [zr_o ad f_thrown f_taped f_at f_behind f_size f_kind f_number f_wrong f_wrongAt f_faultKind f_faultPlace f_reading f_toldWhy f_x f_standMany p5 f_tail f_round1, (ad 2, .inl (dA 0, 2982, .inl b_all)), (ad 29, .inl (dA 0, 6, .inl b_shared)), (ad 30, .inl (dA 0, 6, .inl v.2))] H ∧ va_D A [zr_o ad f_thrown f_taped f_at f_behind f_size f_kind f_number f_wrong f_wrongAt f_faultKind f_faultPlace f_reading f_toldWhy f_x f_standMany p5 f_tail f_round1, (ad 2, .inl (dA 0, 2982, .inl b_all)), (ad 29, .inl (dA 0, 6, .inl b_shared)), (ad 30, .inl (dA 0, 6, .inl v.2))] ∧ va_S A s.heap H locs) hj (fun v w hf ih ex H locs ls hX => ?_) _ _ _ ⟨lv_sub hl [1, 0] rfl, hP, hD, hS⟩
      clear hj
      obtain ⟨v2, a3⟩ := v
      obtain ⟨hl, hP, hD, hS⟩ := hX
      have hl : lv_has ls 7 [(0, .ref (ad 0)), (6, .int v2)] := hl
      have hP : va_P (dC, dI) zz_cls [zr_o ad f_thrown f_taped f_at f_behind f_size f_kind f_number f_wrong f_wrongAt f_faultKind f_faultPlace f_reading f_toldWhy f_x f_standMany p5 f_tail f_round1, (ad 2, .inl (dA 0, 2982, .inl b_all)), (ad 29, .inl (dA 0, 6, .inl b_shared)), (ad 30, .inl (dA 0, 6, .inl a3))] H := hP
      have hD : va_D A [zr_o ad f_thrown f_taped f_at f_behind f_size f_kind f_number f_wrong f_wrongAt f_faultKind f_faultPlace f_reading f_toldWhy f_x f_standMany p5 f_tail f_round1, (ad 2, .inl (dA 0, 2982, .inl b_all)), (ad 29, .inl (dA 0, 6, .inl b_shared)), (ad 30, .inl (dA 0, 6, .inl a3))] := hD
      replace hf : zb_X11_goesShare_29 b_shared v2 a3 = some w := hf
      unfold zb_X11_goesShare_29 at hf
      refine lv_iload (pc := 29) hx hb dX11_goesShare_29 (lv_at hl 1 rfl) ?_
      refine lv_bipush (v := (6 : Int32)) (pc := 31) hx hb dX11_goesShare_31 (by decide) ?_
      refine lv_icmp_ge (tgt := 56) (pc := 33) hx hb dX11_goesShare_33 rfl (fun hc => ?_) (fun hc => ?_)
      · have hf := za_t hf hc
        obtain rfl := Option.some.inj hf
        obtain ⟨rfl, rfl, rfl⟩ := zp_3 (ex (show ¬ (1 : Nat) = 0 by decide))
        exact E56 _ _ _ ⟨lv_sub hl [] rfl, hP, hD, hS⟩
      · have hf := za_f hf hc
        refine lv_aload_n (pc := 36) hx hb dX11_goesShare_36 rfl (lv_at hl 0 rfl) ?_
        refine va_get (pc := 37) (D := (dC, dI)) (ci := 0) (v := .ref (ad 30)) (C := RX11) (T := TX11) (N := 42) hx hb ht zb_lay hown hK hP 0 rfl rfl 29 (by decide) (ht _ (zb_l zr_24)) (fun _ h9 => h9) rfl dX11_goesShare_37 ?_
        refine lv_iload (pc := 40) hx hb dX11_goesShare_40 (lv_at hl 1 rfl) ?_
        refine lv_aload_n (pc := 42) hx hb dX11_goesShare_42 rfl (lv_at hl 0 rfl) ?_
        refine va_get (pc := 43) (D := (dC, dI)) (ci := 0) (v := .ref (ad 29)) (C := RX11) (T := TX11) (N := 42) hx hb ht zb_lay hown hK hP 0 rfl rfl 28 (by decide) (ht _ (zb_l zr_23)) (fun _ h9 => h9) rfl dX11_goesShare_43 ?_
        refine lv_iload (pc := 46) hx hb dX11_goesShare_46 (lv_at hl 1 rfl) ?_
        obtain ⟨v4, hv4, hf⟩ := zc_1 hf
        refine zw_iald (pc := 48) hx hb hK hP 2 0 rfl rfl hv4 dX11_goesShare_48 ?_
        obtain ⟨a5, ha5, hf⟩ := zc_1 hf
        refine zw_iast (pc := 49) hx hb hK hP hD hS 3 0 rfl rfl ha5 dX11_goesShare_49 (fun H locs hP hD hS => ?_)
        have hP : va_P (dC, dI) zz_cls [zr_o ad f_thrown f_taped f_at f_behind f_size f_kind f_number f_wrong f_wrongAt f_faultKind f_faultPlace f_reading f_toldWhy f_x f_standMany p5 f_tail f_round1, (ad 2, .inl (dA 0, 2982, .inl b_all)), (ad 29, .inl (dA 0, 6, .inl b_shared)), (ad 30, .inl (dA 0, 6, .inl a5))] H := hP
        have hD : va_D A [zr_o ad f_thrown f_taped f_at f_behind f_size f_kind f_number f_wrong f_wrongAt f_faultKind f_faultPlace f_reading f_toldWhy f_x f_standMany p5 f_tail f_round1, (ad 2, .inl (dA 0, 2982, .inl b_all)), (ad 29, .inl (dA 0, 6, .inl b_shared)), (ad 30, .inl (dA 0, 6, .inl a5))] := hD
        obtain ⟨v6, hv6, hf⟩ := zc_1 hf
        refine lv_iinc (v := v6) (lv' := [(6, .int v6), (0, .ref (ad 0))]) (k := 1) (pc := 50) hx hb dX11_goesShare_50 hl rfl (Option.some.inj hv6) (by decide) rfl (fun ls hl => ?_)
        refine lv_goto (tgt := 29) (pc := 53) hx hb dX11_goesShare_53 rfl ?_
        obtain rfl := Option.some.inj hf
        exact ih rfl _ _ _ ⟨lv_sub hl [1, 0] rfl, hP, hD, hS⟩
    · have hf := za_f hf hc
      obtain ⟨rfl, rfl, rfl⟩ := zi_3 hf
      exact W.vret (pc := 19) hx hb hr (fun t ht hW => ⟨⟨(), rfl, trivial, zz_Bi (by rw [ht]; exact hP) (va_K.moved hW.alike hK) (hD)⟩, hS.F ht⟩) hS.2.2 dX11_goesShare_19
theorem zG0_X11_goesShare (n : Nat) : zS_X11_goesShare n 0 := by
  intro l dC dI dA ad adK adV sz f_thrown f_taped f_at f_behind f_size f_kind f_number f_wrong f_wrongAt f_faultKind f_faultPlace f_reading f_toldWhy f_x f_standMany f_bestMany f_tail f_round1 b_all b_shared b_bestShared p1 p2 p3 p4 p5 o1 o2 o3 hf
  cases hf
theorem zGs_X11_goesShare (n d : Nat) (IH0 : zS_X11_goesShare n d) : zS_X11_goesShare n (d + 1) := by
  intro l dC dI dA ad adK adV sz f_thrown f_taped f_at f_behind f_size f_kind f_number f_wrong f_wrongAt f_faultKind f_faultPlace f_reading f_toldWhy f_x f_standMany f_bestMany f_tail f_round1 b_all b_shared b_bestShared p1 p2 p3 p4 p5 o1 o2 o3 hf
  exact zm_X11_goesShare n d IH0 l dC dI dA ad adK adV sz f_thrown f_taped f_at f_behind f_size f_kind f_number f_wrong f_wrongAt f_faultKind f_faultPlace f_reading f_toldWhy f_x f_standMany f_bestMany f_tail f_round1 b_all b_shared b_bestShared p1 p2 p3 p4 p5 o1 o2 o3 hf
theorem zG_X11g (n : Nat) : ∀ d : Nat, zS_X11_goesShare n d := by
  intro d
  induction d with
  | zero => exact zG0_X11_goesShare n
  | succ d ih =>
    have IH0 := ih
    exact zGs_X11_goesShare n d IH0
def zf_X11_goesShare (n : Nat) (f_bestMany : Int32) (b_all : (Nat → Int32)) (b_shared : (Nat → Int32)) (b_bestShared : (Nat → Int32)) (p1 : Int32) (p2 : Int32) (p3 : Int32) (p4 : Int32) (p5 : Int32) : Option (Int32 × (Nat → Int32) × (Nat → Int32)) := zg_X11g n 60 0 f_bestMany b_all b_shared b_bestShared p1 p2 p3 p4 p5
theorem zt_X11_goesShare (l : Launch) (dC : Nat → ClassId) (dI : Nat → Nat → Nat) (dA : Nat → ClassId) (ad : Nat → Nat) (adK adV : Nat → Nat) (sz : Nat) (n : Nat) (f_thrown : Int32) (f_taped : Int32) (f_at : Int32) (f_behind : Int32) (f_size : Int32) (f_kind : Int32) (f_number : Int32) (f_wrong : Int32) (f_wrongAt : Int32) (f_faultKind : Int32) (f_faultPlace : Int32) (f_reading : Int32) (f_toldWhy : Int32) (f_x : Int32) (f_standMany : Int32) (f_bestMany : Int32) (f_tail : Int32) (f_round1 : Int32) (b_all : (Nat → Int32)) (b_shared : (Nat → Int32)) (b_bestShared : (Nat → Int32)) (p1 : Int32) (p2 : Int32) (p3 : Int32) (p4 : Int32) (p5 : Int32) (o1 : Int32) (o2 : (Nat → Int32)) (o3 : (Nat → Int32)) (hf : zf_X11_goesShare n f_bestMany b_all b_shared b_bestShared p1 p2 p3 p4 p5 = some (o1, o2, o3)) : Met l yX11_goesShare (.code yX11_goesShare cX11_goesShare 7 none :: zb_T) ({ frames := 62, cells := 0, slots := 0, locals := 2444 }) (va_Pc [.ref (ad 0), .int p1, .int p2, .int p3, .int p4, .int p5] (zz_M dC dI dA [zr_o ad f_thrown f_taped f_at f_behind f_size f_kind f_number f_wrong f_wrongAt f_faultKind f_faultPlace f_reading f_toldWhy f_x f_standMany f_bestMany f_tail f_round1, (ad 2, .inl (dA 0, 2982, .inl b_all)), (ad 29, .inl (dA 0, 6, .inl b_shared)), (ad 30, .inl (dA 0, 6, .inl b_bestShared))] sz)) (va_Qv (fun _ : Unit => True) (fun _ t => zz_B dC dI dA (va_A [zr_o ad f_thrown f_taped f_at f_behind f_size f_kind f_number f_wrong f_wrongAt f_faultKind f_faultPlace f_reading f_toldWhy f_x f_standMany f_bestMany f_tail f_round1, (ad 2, .inl (dA 0, 2982, .inl b_all)), (ad 29, .inl (dA 0, 6, .inl b_shared)), (ad 30, .inl (dA 0, 6, .inl b_bestShared))] sz) [zr_o ad f_thrown f_taped f_at f_behind f_size f_kind f_number f_wrong f_wrongAt f_faultKind f_faultPlace f_reading f_toldWhy f_x f_standMany o1 f_tail f_round1, (ad 2, .inl (dA 0, 2982, .inl b_all)), (ad 29, .inl (dA 0, 6, .inl o2)), (ad 30, .inl (dA 0, 6, .inl o3))] t) (va_A [zr_o ad f_thrown f_taped f_at f_behind f_size f_kind f_number f_wrong f_wrongAt f_faultKind f_faultPlace f_reading f_toldWhy f_x f_standMany f_bestMany f_tail f_round1, (ad 2, .inl (dA 0, 2982, .inl b_all)), (ad 29, .inl (dA 0, 6, .inl b_shared)), (ad 30, .inl (dA 0, 6, .inl b_bestShared))] sz)) 0 0 (va_A [zr_o ad f_thrown f_taped f_at f_behind f_size f_kind f_number f_wrong f_wrongAt f_faultKind f_faultPlace f_reading f_toldWhy f_x f_standMany f_bestMany f_tail f_round1, (ad 2, .inl (dA 0, 2982, .inl b_all)), (ad 29, .inl (dA 0, 6, .inl b_shared)), (ad 30, .inl (dA 0, 6, .inl b_bestShared))] sz) := (zG_X11g n 60) l dC dI dA ad adK adV sz f_thrown f_taped f_at f_behind f_size f_kind f_number f_wrong f_wrongAt f_faultKind f_faultPlace f_reading f_toldWhy f_x f_standMany f_bestMany f_tail f_round1 b_all b_shared b_bestShared p1 p2 p3 p4 p5 o1 o2 o3 hf

def zh_X11_common (n : Nat) (rec : Nat → Int32 → Int32 → Option (Int32)) (p0 : Int32) (p1 : Int32) : Option (Int32) :=
  if p1 = 0 then
    some p0
  else
    zd_1 (za_nz p1) (fun v1 =>
    zd_1 (rec 0 p1 (za_rem p0 p1)) (fun v2 =>
    some v2))
theorem zk_X11_common : yX11_common.cls = RX11 ∧ yX11_common.cls ≠ "java/lang/invoke/MethodHandle" ∧ yX11_common.cls ≠ "java/lang/invoke/VarHandle" ∧ (parseMethodDescriptor yX11_common.desc).map (fun d => d.parameters.length) = some 2 := by decide +kernel
def zg_X11c (n : Nat) : Nat → Nat → Int32 → Int32 → Option (Int32)
  | 0 => fun _ _ _ => none
  | d + 1 => fun t x0 x1 =>
    if t = 0 then zh_X11_common n (zg_X11c n d) x0 x1 else none
def zS_X11_common (n d : Nat) : Prop := ∀ (l : Launch) (dC : Nat → ClassId) (dI : Nat → Nat → Nat) (dA : Nat → ClassId) (ad : Nat → Nat) (adK adV : Nat → Nat) (sz : Nat) (p0 : Int32) (p1 : Int32) (r0 : Int32) (hf : zg_X11c n d 0 p0 p1 = some r0), Met l yX11_common (.code yX11_common cX11_common 2 (some .int) :: zb_T) ({ frames := 1 + d, cells := 0, slots := 0, locals := 1 + 40 * d }) (va_Pc [.int p0, .int p1] (zz_M dC dI dA [] sz)) (va_Qi (fun (r : Int32) (_ : Unit) => r = r0) (fun _ t => zz_B dC dI dA (va_A [] sz) [] t) (va_A [] sz)) 0 0 (va_A [] sz)
set_option maxHeartbeats 4000000 in
set_option maxRecDepth 100000 in
theorem zm_X11_common (n d : Nat) (IH0 : zS_X11_common n d) (l : Launch) (dC : Nat → ClassId) (dI : Nat → Nat → Nat) (dA : Nat → ClassId) (ad : Nat → Nat) (adK adV : Nat → Nat) (sz : Nat) (p0 : Int32) (p1 : Int32) (r0 : Int32) (hf : zh_X11_common n (zg_X11c n d) p0 p1 = some r0) : Met l yX11_common (.code yX11_common cX11_common 2 (some .int) :: zb_T) ({ frames := 1 + (d + 1), cells := 0, slots := 0, locals := 1 + 40 * (d + 1) }) (va_Pc [.int p0, .int p1] (zz_M dC dI dA [] sz)) (va_Qi (fun (r : Int32) (_ : Unit) => r = r0) (fun _ t => zz_B dC dI dA (va_A [] sz) [] t) (va_A [] sz)) 0 0 (va_A [] sz) := by
  unfold zh_X11_common at hf
  refine Met.ofW (cc := cX11_common) (maxL := 2) (ret := (some .int)) (by decide) rfl ?_
  intro p e s m args below meth c s₁ B hml hv
  obtain ⟨rfl, hsz, hP, hK, hD0⟩ := hv
  have hx := B.exec
  have hb := B.bytes
  have hr := B.returns
  have ht : ∀ w ∈ zb_T, w.before ([.int p0, .int p1] : List Value).toArray s = true := fun w hw => atoms_spec (ws := .code yX11_common cX11_common 2 (some .int) :: zb_T) B.pre w (List.mem_cons_of_mem _ hw)
  have hown : s.vm.findClass RX11 = some m.cls := findClass_of_methodNamed B.named
  have hlocks := B.notSynchronized
  subst hsz
  have hD := hD0.self (sz := s.heap.size)
  generalize hAe : va_A [] s.heap.size = A at hD ⊢
  have hA : ∀ q : Nat, s.heap.size ≤ q → A q := fun q h => by rw [← hAe]; exact Or.inr h
  clear hAe hD0
  have hS : va_S A s.heap s.heap [] := va_S.rf
  have hl := lv_entry ([.int p0, .int p1]) (n := 2) (Nat.le_of_ble_eq_true rfl)
  rw [lg_entry_eq]
  generalize (lg_sl ([.int p0, .int p1]) ++ List.replicate (2 - (lg_sl ([.int p0, .int p1])).length) Slot.unset).toArray = ls at hl ⊢
  have hl : lv_has ls 2 [(0, .int p0), (1, .int p1)] := hl
  refine lv_iload_n (pc := 0) hx hb dX11_common_0 rfl (lv_at hl 1 rfl) ?_
  refine lv_if_ne (tgt := 8) (pc := 1) hx hb dX11_common_1 rfl (fun hc => ?_) (fun hc => ?_)
  · have hf := za_f hf hc
    refine lv_iload_n (pc := 8) hx hb dX11_common_8 rfl (lv_at hl 1 rfl) ?_
    refine lv_iload_n (pc := 9) hx hb dX11_common_9 rfl (lv_at hl 0 rfl) ?_
    refine lv_iload_n (pc := 10) hx hb dX11_common_10 rfl (lv_at hl 1 rfl) ?_
    obtain ⟨v1, hv1, hf⟩ := zc_1 hf
    refine lv_irem (pc := 11) hx hb dX11_common_11 (za_nzs hv1).2 ?_
    obtain ⟨v2, hv2, hf⟩ := zc_1 hf
    refine zw_Si (pc := 12) (wc := []) (wr := []) (w1 := []) (As := [.int p1, .int (za_rem p0 p1)]) (rest := []) ⟨hx, hb, hml, hown, ht⟩ (IH0 l dC dI dA ad adK adV _ p1 (za_rem p0 p1) v2 hv2) (cwS 2 ht (zb_S (fun _ h => zb_i h) (zb_l zr_459) (zb_l zr_460) (zb_l zr_36) (zb_l zr_458)) rfl rfl rfl zk_X11_common ⟨Nat.le_refl _, (show 8 + (2 + 11) + (1 + 40 * d) ≤ 1 + 40 * (d + 1) by omega)⟩) hK hP hD hS hA [] [] (by decide) (by decide) (by decide) rfl rfl rfl hl.1 (Nat.le_of_ble_eq_true rfl) dX11_common_12 ⟨Nat.zero_le _, Nat.zero_le _⟩ rfl (fun H locs hP hD hS => ?_)
    have hP : va_P (dC, dI) zz_cls [] H := hP
    have hD : va_D A [] := hD
    obtain rfl := Option.some.inj hf
    exact W.iret (pc := 15) hx hb hr (fun t ht hW => ⟨⟨_, (), rfl, rfl, zz_Bi (by rw [ht]; exact hP) (va_K.moved hW.alike hK) (hD)⟩, hS.F ht⟩) hS.2.2 dX11_common_15
  · have hf := za_t hf hc
    refine lv_iload_n (pc := 4) hx hb dX11_common_4 rfl (lv_at hl 0 rfl) ?_
    refine lv_goto (tgt := 15) (pc := 5) hx hb dX11_common_5 rfl ?_
    obtain rfl := Option.some.inj hf
    exact W.iret (pc := 15) hx hb hr (fun t ht hW => ⟨⟨_, (), rfl, rfl, zz_Bi (by rw [ht]; exact hP) (va_K.moved hW.alike hK) (hD)⟩, hS.F ht⟩) hS.2.2 dX11_common_15
theorem zG0_X11_common (n : Nat) : zS_X11_common n 0 := by
  intro l dC dI dA ad adK adV sz p0 p1 r0 hf
  cases hf
theorem zGs_X11_common (n d : Nat) (IH0 : zS_X11_common n d) : zS_X11_common n (d + 1) := by
  intro l dC dI dA ad adK adV sz p0 p1 r0 hf
  exact zm_X11_common n d IH0 l dC dI dA ad adK adV sz p0 p1 r0 hf
theorem zG_X11c (n : Nat) : ∀ d : Nat, zS_X11_common n d := by
  intro d
  induction d with
  | zero => exact zG0_X11_common n
  | succ d ih =>
    have IH0 := ih
    exact zGs_X11_common n d IH0
def zf_X11_common (n : Nat) (p0 : Int32) (p1 : Int32) : Option (Int32) := zg_X11c n 60 0 p0 p1
theorem zt_X11_common (l : Launch) (dC : Nat → ClassId) (dI : Nat → Nat → Nat) (dA : Nat → ClassId) (ad : Nat → Nat) (adK adV : Nat → Nat) (sz : Nat) (n : Nat) (p0 : Int32) (p1 : Int32) (r0 : Int32) (hf : zf_X11_common n p0 p1 = some r0) : Met l yX11_common (.code yX11_common cX11_common 2 (some .int) :: zb_T) ({ frames := 61, cells := 0, slots := 0, locals := 2401 }) (va_Pc [.int p0, .int p1] (zz_M dC dI dA [] sz)) (va_Qi (fun (r : Int32) (_ : Unit) => r = r0) (fun _ t => zz_B dC dI dA (va_A [] sz) [] t) (va_A [] sz)) 0 0 (va_A [] sz) := (zG_X11c n 60) l dC dI dA ad adK adV sz p0 p1 r0 hf

def zf_X11_shares (n : Nat) (f_thrown : Int32) (f_bestMany : Int32) (b_all : (Nat → Int32)) (b_shared : (Nat → Int32)) (b_bestShared : (Nat → Int32)) (p1 : Int32) (p2 : Int32) (p3 : Int32) : Option (Int32 × Int32 × Int32 × (Nat → Int32) × (Nat → Int32)) :=
  zd_1 (zf_X11_isRung b_all p1) (fun v1 =>
  if v1 = 0 then
    some ((-2 : Int32), (0 : Int32), f_bestMany, b_shared, b_bestShared)
  else
    if p3 = 0 then
      zd_1 (zf_X11_isSet b_all p2) (fun v2 =>
      if v2 = 0 then
        some ((-3 : Int32), (0 : Int32), f_bestMany, b_shared, b_bestShared)
      else
        zd_3 (zf_X11_goesShare n (-1 : Int32) b_all b_shared b_bestShared (0 : Int32) p1 p2 (0 : Int32) (0 : Int32)) (fun v3 a4 a5 =>
        if p3 = 0 then
          some (v3, (0 : Int32), v3, a4, a5)
        else
          zd_1 (za_ld a5 6 (p3 - (10 : Int32))) (fun v6 =>
          some (v6, (0 : Int32), v3, a4, a5))))
    else
      if p3 < (10 : Int32) then
        some ((-2 : Int32), (0 : Int32), f_bestMany, b_shared, b_bestShared)
      else
        zd_1 (zf_X11_isThing b_all (Int32.toInt64 (p3 - (10 : Int32)))) (fun v7 =>
        if v7 = 0 then
          some ((-2 : Int32), (0 : Int32), f_bestMany, b_shared, b_bestShared)
        else
          zd_1 (zf_X11_isSet b_all p2) (fun v8 =>
          if v8 = 0 then
            some ((-3 : Int32), (0 : Int32), f_bestMany, b_shared, b_bestShared)
          else
            zd_3 (zf_X11_goesShare n (-1 : Int32) b_all b_shared b_bestShared (0 : Int32) p1 p2 (0 : Int32) (0 : Int32)) (fun v9 a10 a11 =>
            if p3 = 0 then
              some (v9, (0 : Int32), v9, a10, a11)
            else
              zd_1 (za_ld a11 6 (p3 - (10 : Int32))) (fun v12 =>
              some (v12, (0 : Int32), v9, a10, a11))))))
theorem zk_X11_shares : yX11_shares.cls = RX11 ∧ yX11_shares.cls ≠ "java/lang/invoke/MethodHandle" ∧ yX11_shares.cls ≠ "java/lang/invoke/VarHandle" ∧ (parseMethodDescriptor yX11_shares.desc).map (fun d => d.parameters.length) = some 3 := by decide +kernel
set_option maxHeartbeats 4000000 in
set_option maxRecDepth 100000 in
theorem zt_X11_shares (l : Launch) (dC : Nat → ClassId) (dI : Nat → Nat → Nat) (dA : Nat → ClassId) (ad : Nat → Nat) (adK adV : Nat → Nat) (sz : Nat) (n : Nat) (f_thrown : Int32) (f_taped : Int32) (f_at : Int32) (f_behind : Int32) (f_size : Int32) (f_kind : Int32) (f_number : Int32) (f_wrong : Int32) (f_wrongAt : Int32) (f_faultKind : Int32) (f_faultPlace : Int32) (f_reading : Int32) (f_toldWhy : Int32) (f_x : Int32) (f_standMany : Int32) (f_bestMany : Int32) (f_tail : Int32) (f_round1 : Int32) (b_all : (Nat → Int32)) (b_shared : (Nat → Int32)) (b_bestShared : (Nat → Int32)) (p1 : Int32) (p2 : Int32) (p3 : Int32) (r0 : Int32) (o1 : Int32) (o2 : Int32) (o3 : (Nat → Int32)) (o4 : (Nat → Int32)) (hf : zf_X11_shares n f_thrown f_bestMany b_all b_shared b_bestShared p1 p2 p3 = some (r0, o1, o2, o3, o4)) : Met l yX11_shares (.code yX11_shares cX11_shares 4 (some .int) :: zb_T) ({ frames := 63, cells := 0, slots := 0, locals := 2470 }) (va_Pc [.ref (ad 0), .int p1, .int p2, .int p3] (zz_M dC dI dA [zr_o ad f_thrown f_taped f_at f_behind f_size f_kind f_number f_wrong f_wrongAt f_faultKind f_faultPlace f_reading f_toldWhy f_x f_standMany f_bestMany f_tail f_round1, (ad 2, .inl (dA 0, 2982, .inl b_all)), (ad 29, .inl (dA 0, 6, .inl b_shared)), (ad 30, .inl (dA 0, 6, .inl b_bestShared))] sz)) (va_Qi (fun (r : Int32) (_ : Unit) => r = r0) (fun _ t => zz_B dC dI dA (va_A [zr_o ad f_thrown f_taped f_at f_behind f_size f_kind f_number f_wrong f_wrongAt f_faultKind f_faultPlace f_reading f_toldWhy f_x f_standMany f_bestMany f_tail f_round1, (ad 2, .inl (dA 0, 2982, .inl b_all)), (ad 29, .inl (dA 0, 6, .inl b_shared)), (ad 30, .inl (dA 0, 6, .inl b_bestShared))] sz) [zr_o ad o1 f_taped f_at f_behind f_size f_kind f_number f_wrong f_wrongAt f_faultKind f_faultPlace f_reading f_toldWhy f_x f_standMany o2 f_tail f_round1, (ad 2, .inl (dA 0, 2982, .inl b_all)), (ad 29, .inl (dA 0, 6, .inl o3)), (ad 30, .inl (dA 0, 6, .inl o4))] t) (va_A [zr_o ad f_thrown f_taped f_at f_behind f_size f_kind f_number f_wrong f_wrongAt f_faultKind f_faultPlace f_reading f_toldWhy f_x f_standMany f_bestMany f_tail f_round1, (ad 2, .inl (dA 0, 2982, .inl b_all)), (ad 29, .inl (dA 0, 6, .inl b_shared)), (ad 30, .inl (dA 0, 6, .inl b_bestShared))] sz)) 0 0 (va_A [zr_o ad f_thrown f_taped f_at f_behind f_size f_kind f_number f_wrong f_wrongAt f_faultKind f_faultPlace f_reading f_toldWhy f_x f_standMany f_bestMany f_tail f_round1, (ad 2, .inl (dA 0, 2982, .inl b_all)), (ad 29, .inl (dA 0, 6, .inl b_shared)), (ad 30, .inl (dA 0, 6, .inl b_bestShared))] sz) := by
  unfold zf_X11_shares at hf
  refine Met.ofW (cc := cX11_shares) (maxL := 4) (ret := (some .int)) (by decide) rfl ?_
  intro p e s m args below meth c s₁ B hml hv
  obtain ⟨rfl, hsz, hP, hK, hD0⟩ := hv
  have hx := B.exec
  have hb := B.bytes
  have hr := B.returns
  have ht : ∀ w ∈ zb_T, w.before ([.ref (ad 0), .int p1, .int p2, .int p3] : List Value).toArray s = true := fun w hw => atoms_spec (ws := .code yX11_shares cX11_shares 4 (some .int) :: zb_T) B.pre w (List.mem_cons_of_mem _ hw)
  have hown : s.vm.findClass RX11 = some m.cls := findClass_of_methodNamed B.named
  have hlocks := B.notSynchronized
  subst hsz
  have hD := hD0.self (sz := s.heap.size)
  generalize hAe : va_A [zr_o ad f_thrown f_taped f_at f_behind f_size f_kind f_number f_wrong f_wrongAt f_faultKind f_faultPlace f_reading f_toldWhy f_x f_standMany f_bestMany f_tail f_round1, (ad 2, .inl (dA 0, 2982, .inl b_all)), (ad 29, .inl (dA 0, 6, .inl b_shared)), (ad 30, .inl (dA 0, 6, .inl b_bestShared))] s.heap.size = A at hD ⊢
  have hA : ∀ q : Nat, s.heap.size ≤ q → A q := fun q h => by rw [← hAe]; exact Or.inr h
  clear hAe hD0
  have hS : va_S A s.heap s.heap [] := va_S.rf
  have hl := lv_entry ([.ref (ad 0), .int p1, .int p2, .int p3]) (n := 4) (Nat.le_of_ble_eq_true rfl)
  rw [lg_entry_eq]
  generalize (lg_sl ([.ref (ad 0), .int p1, .int p2, .int p3]) ++ List.replicate (4 - (lg_sl ([.ref (ad 0), .int p1, .int p2, .int p3])).length) Slot.unset).toArray = ls at hl ⊢
  have hl : lv_has ls 4 [(0, .ref (ad 0)), (1, .int p1), (2, .int p2), (3, .int p3)] := hl
  refine lv_aload_n (pc := 0) hx hb dX11_shares_0 rfl (lv_at hl 0 rfl) ?_
  refine lv_iconst (v := (0 : Int32)) (pc := 1) hx hb dX11_shares_1 (by decide) ?_
  refine va_put (pc := 2) (D := (dC, dI)) (ci := 0) (v := .int (0 : Int32)) (ty := .int) (C := RX11) (T := TX11) (N := 42) hx hb ht zb_lay tyX11 tyX11_ok nmX11 hown hK hP hD hS 0 rfl rfl 0 (by decide) (ht _ (zb_l zr_39)) (fun _ h9 => h9) rfl (by decide +kernel) rfl rfl (Nat.le_of_ble_eq_true rfl) dX11_shares_2 (fun H locs hP hD hS => ?_)
  have hP : va_P (dC, dI) zz_cls [zr_o ad (0 : Int32) f_taped f_at f_behind f_size f_kind f_number f_wrong f_wrongAt f_faultKind f_faultPlace f_reading f_toldWhy f_x f_standMany f_bestMany f_tail f_round1, (ad 2, .inl (dA 0, 2982, .inl b_all)), (ad 29, .inl (dA 0, 6, .inl b_shared)), (ad 30, .inl (dA 0, 6, .inl b_bestShared))] H := hP
  have hD : va_D A [zr_o ad (0 : Int32) f_taped f_at f_behind f_size f_kind f_number f_wrong f_wrongAt f_faultKind f_faultPlace f_reading f_toldWhy f_x f_standMany f_bestMany f_tail f_round1, (ad 2, .inl (dA 0, 2982, .inl b_all)), (ad 29, .inl (dA 0, 6, .inl b_shared)), (ad 30, .inl (dA 0, 6, .inl b_bestShared))] := hD
  refine lv_aload_n (pc := 5) hx hb dX11_shares_5 rfl (lv_at hl 0 rfl) ?_
  refine lv_iload_n (pc := 6) hx hb dX11_shares_6 rfl (lv_at hl 1 rfl) ?_
  obtain ⟨v1, hv1, hf⟩ := zc_1 hf
  refine zw_Vi (pc := 7) (wc := [zr_o ad (0 : Int32) f_taped f_at f_behind f_size f_kind f_number f_wrong f_wrongAt f_faultKind f_faultPlace f_reading f_toldWhy f_x f_standMany f_bestMany f_tail f_round1, (ad 2, .inl (dA 0, 2982, .inl b_all))]) (wr := [(ad 29, .inl (dA 0, 6, .inl b_shared)), (ad 30, .inl (dA 0, 6, .inl b_bestShared))]) (w1 := [zr_o ad (0 : Int32) f_taped f_at f_behind f_size f_kind f_number f_wrong f_wrongAt f_faultKind f_faultPlace f_reading f_toldWhy f_x f_standMany f_bestMany f_tail f_round1, (ad 2, .inl (dA 0, 2982, .inl b_all))]) (As := [.int p1]) (rest := []) ⟨hx, hb, hml, hown, ht⟩ (zt_X11_isRung l dC dI dA ad _ (0 : Int32) f_taped f_at f_behind f_size f_kind f_number f_wrong f_wrongAt f_faultKind f_faultPlace f_reading f_toldWhy f_x f_standMany f_bestMany f_tail f_round1 b_all p1 v1 hv1) (cwV 1 ht (zb_V (fun _ h => zb_l h) (zb_l zr_255) (zb_l zr_256) (zb_l zr_257) (zb_l zr_36) (zb_l zr_206)) rfl rfl rfl zk_X11_isRung ⟨Nat.le_of_ble_eq_true rfl, Nat.le_of_ble_eq_true rfl⟩) rfl rfl hK hP hD hS hA [0, 1] [2, 3] (by decide) (by decide) (by decide) rfl rfl rfl hl.1 (Nat.le_of_ble_eq_true rfl) dX11_shares_7 ⟨Nat.zero_le _, Nat.zero_le _⟩ rfl (fun H locs hP hD hS => ?_)
  have hP : va_P (dC, dI) zz_cls [(ad 29, .inl (dA 0, 6, .inl b_shared)), (ad 30, .inl (dA 0, 6, .inl b_bestShared)), zr_o ad (0 : Int32) f_taped f_at f_behind f_size f_kind f_number f_wrong f_wrongAt f_faultKind f_faultPlace f_reading f_toldWhy f_x f_standMany f_bestMany f_tail f_round1, (ad 2, .inl (dA 0, 2982, .inl b_all))] H := hP
  have hD : va_D A [(ad 29, .inl (dA 0, 6, .inl b_shared)), (ad 30, .inl (dA 0, 6, .inl b_bestShared)), zr_o ad (0 : Int32) f_taped f_at f_behind f_size f_kind f_number f_wrong f_wrongAt f_faultKind f_faultPlace f_reading f_toldWhy f_x f_standMany f_bestMany f_tail f_round1, (ad 2, .inl (dA 0, 2982, .inl b_all))] := hD
  refine lv_if_eq (tgt := 35) (pc := 10) hx hb dX11_shares_10 rfl (fun hc => ?_) (fun hc => ?_)
  · have hf := za_t hf hc
    refine lv_bipush (v := (-2 : Int32)) (pc := 35) hx hb dX11_shares_35 (by decide) ?_
    obtain ⟨rfl, rfl, rfl, rfl, rfl⟩ := zi_5 hf
    exact W.iret (pc := 37) hx hb hr (fun t ht hW => ⟨⟨_, (), rfl, rfl, zz_Bi (by rw [ht]; exact hP.sub [2, 3, 0, 1] rfl) (va_K.moved hW.alike hK) (hD.sub [2, 3, 0, 1] (by decide) rfl)⟩, hS.F ht⟩) hS.2.2 dX11_shares_37
  · have hf := za_f hf hc
    refine lv_iload_n (pc := 13) hx hb dX11_shares_13 rfl (lv_at hl 3 rfl) ?_
    refine lv_if_eq (tgt := 38) (pc := 14) hx hb dX11_shares_14 rfl (fun hc => ?_) (fun hc => ?_)
    · have hf := za_t hf hc
      refine lv_aload_n (pc := 38) hx hb dX11_shares_38 rfl (lv_at hl 0 rfl) ?_
      refine lv_iload_n (pc := 39) hx hb dX11_shares_39 rfl (lv_at hl 2 rfl) ?_
      obtain ⟨v2, hv2, hf⟩ := zc_1 hf
      refine zw_Vi (pc := 40) (wc := [zr_o ad (0 : Int32) f_taped f_at f_behind f_size f_kind f_number f_wrong f_wrongAt f_faultKind f_faultPlace f_reading f_toldWhy f_x f_standMany f_bestMany f_tail f_round1, (ad 2, .inl (dA 0, 2982, .inl b_all))]) (wr := [(ad 29, .inl (dA 0, 6, .inl b_shared)), (ad 30, .inl (dA 0, 6, .inl b_bestShared))]) (w1 := [zr_o ad (0 : Int32) f_taped f_at f_behind f_size f_kind f_number f_wrong f_wrongAt f_faultKind f_faultPlace f_reading f_toldWhy f_x f_standMany f_bestMany f_tail f_round1, (ad 2, .inl (dA 0, 2982, .inl b_all))]) (As := [.int p2]) (rest := []) ⟨hx, hb, hml, hown, ht⟩ (zt_X11_isSet l dC dI dA ad _ (0 : Int32) f_taped f_at f_behind f_size f_kind f_number f_wrong f_wrongAt f_faultKind f_faultPlace f_reading f_toldWhy f_x f_standMany f_bestMany f_tail f_round1 b_all p2 v2 hv2) (cwV 1 ht (zb_V (fun _ h => zb_l h) (zb_l zr_364) (zb_l zr_365) (zb_l zr_366) (zb_l zr_36) (zb_l zr_208)) rfl rfl rfl zk_X11_isSet ⟨Nat.le_of_ble_eq_true rfl, Nat.le_of_ble_eq_true rfl⟩) rfl rfl hK hP hD hS hA [2, 3] [0, 1] (by decide) (by decide) (by decide) rfl rfl rfl hl.1 (Nat.le_of_ble_eq_true rfl) dX11_shares_40 ⟨Nat.zero_le _, Nat.zero_le _⟩ rfl (fun H locs hP hD hS => ?_)
      have hP : va_P (dC, dI) zz_cls [(ad 29, .inl (dA 0, 6, .inl b_shared)), (ad 30, .inl (dA 0, 6, .inl b_bestShared)), zr_o ad (0 : Int32) f_taped f_at f_behind f_size f_kind f_number f_wrong f_wrongAt f_faultKind f_faultPlace f_reading f_toldWhy f_x f_standMany f_bestMany f_tail f_round1, (ad 2, .inl (dA 0, 2982, .inl b_all))] H := hP
      have hD : va_D A [(ad 29, .inl (dA 0, 6, .inl b_shared)), (ad 30, .inl (dA 0, 6, .inl b_bestShared)), zr_o ad (0 : Int32) f_taped f_at f_behind f_size f_kind f_number f_wrong f_wrongAt f_faultKind f_faultPlace f_reading f_toldWhy f_x f_standMany f_bestMany f_tail f_round1, (ad 2, .inl (dA 0, 2982, .inl b_all))] := hD
      refine lv_if_ne (tgt := 49) (pc := 43) hx hb dX11_shares_43 rfl (fun hc => ?_) (fun hc => ?_)
      · have hf := za_f hf hc
        refine lv_aload_n (pc := 49) hx hb dX11_shares_49 rfl (lv_at hl 0 rfl) ?_
        refine lv_iconst (v := (-1 : Int32)) (pc := 50) hx hb dX11_shares_50 (by decide) ?_
        refine va_put (pc := 51) (D := (dC, dI)) (ci := 0) (v := .int (-1 : Int32)) (ty := .int) (C := RX11) (T := TX11) (N := 42) hx hb ht zb_lay tyX11 tyX11_ok nmX11 hown hK hP hD hS 2 rfl rfl 30 (by decide) (ht _ (zb_l zr_393)) (fun _ h9 => h9) rfl (by decide +kernel) rfl rfl (Nat.le_of_ble_eq_true rfl) dX11_shares_51 (fun H locs hP hD hS => ?_)
        have hP : va_P (dC, dI) zz_cls [(ad 29, .inl (dA 0, 6, .inl b_shared)), (ad 30, .inl (dA 0, 6, .inl b_bestShared)), zr_o ad (0 : Int32) f_taped f_at f_behind f_size f_kind f_number f_wrong f_wrongAt f_faultKind f_faultPlace f_reading f_toldWhy f_x f_standMany (-1 : Int32) f_tail f_round1, (ad 2, .inl (dA 0, 2982, .inl b_all))] H := hP
        have hD : va_D A [(ad 29, .inl (dA 0, 6, .inl b_shared)), (ad 30, .inl (dA 0, 6, .inl b_bestShared)), zr_o ad (0 : Int32) f_taped f_at f_behind f_size f_kind f_number f_wrong f_wrongAt f_faultKind f_faultPlace f_reading f_toldWhy f_x f_standMany (-1 : Int32) f_tail f_round1, (ad 2, .inl (dA 0, 2982, .inl b_all))] := hD
        refine lv_aload_n (pc := 54) hx hb dX11_shares_54 rfl (lv_at hl 0 rfl) ?_
        refine lv_iconst (v := (0 : Int32)) (pc := 55) hx hb dX11_shares_55 (by decide) ?_
        refine lv_iload_n (pc := 56) hx hb dX11_shares_56 rfl (lv_at hl 1 rfl) ?_
        refine lv_iload_n (pc := 57) hx hb dX11_shares_57 rfl (lv_at hl 2 rfl) ?_
        refine lv_iconst (v := (0 : Int32)) (pc := 58) hx hb dX11_shares_58 (by decide) ?_
        refine lv_iconst (v := (0 : Int32)) (pc := 59) hx hb dX11_shares_59 (by decide) ?_
        obtain ⟨v3, a4, a5, hv3, hf⟩ := zc_3 hf
        refine zw_Vv (pc := 60) (wc := [zr_o ad (0 : Int32) f_taped f_at f_behind f_size f_kind f_number f_wrong f_wrongAt f_faultKind f_faultPlace f_reading f_toldWhy f_x f_standMany (-1 : Int32) f_tail f_round1, (ad 2, .inl (dA 0, 2982, .inl b_all)), (ad 29, .inl (dA 0, 6, .inl b_shared)), (ad 30, .inl (dA 0, 6, .inl b_bestShared))]) (wr := []) (w1 := [zr_o ad (0 : Int32) f_taped f_at f_behind f_size f_kind f_number f_wrong f_wrongAt f_faultKind f_faultPlace f_reading f_toldWhy f_x f_standMany v3 f_tail f_round1, (ad 2, .inl (dA 0, 2982, .inl b_all)), (ad 29, .inl (dA 0, 6, .inl a4)), (ad 30, .inl (dA 0, 6, .inl a5))]) (As := [.int (0 : Int32), .int p1, .int p2, .int (0 : Int32), .int (0 : Int32)]) (rest := []) ⟨hx, hb, hml, hown, ht⟩ (zt_X11_goesShare l dC dI dA ad adK adV _ n (0 : Int32) f_taped f_at f_behind f_size f_kind f_number f_wrong f_wrongAt f_faultKind f_faultPlace f_reading f_toldWhy f_x f_standMany (-1 : Int32) f_tail f_round1 b_all b_shared b_bestShared (0 : Int32) p1 p2 (0 : Int32) (0 : Int32) v3 a4 a5 hv3) (cwV 5 ht (zb_V (fun _ h => zb_i h) (zb_l zr_394) (zb_l zr_395) (zb_l zr_396) (zb_l zr_36) (zb_l zr_392)) rfl rfl rfl zk_X11_goesShare ⟨Nat.le_of_ble_eq_true rfl, Nat.le_of_ble_eq_true rfl⟩) rfl rfl hK hP hD hS hA [2, 3, 0, 1] [] (by decide) (by decide) (by decide) rfl rfl rfl hl.1 (Nat.le_of_ble_eq_true rfl) dX11_shares_60 ⟨Nat.zero_le _, Nat.zero_le _⟩ rfl (fun H locs hP hD hS => ?_)
        have hP : va_P (dC, dI) zz_cls [zr_o ad (0 : Int32) f_taped f_at f_behind f_size f_kind f_number f_wrong f_wrongAt f_faultKind f_faultPlace f_reading f_toldWhy f_x f_standMany v3 f_tail f_round1, (ad 2, .inl (dA 0, 2982, .inl b_all)), (ad 29, .inl (dA 0, 6, .inl a4)), (ad 30, .inl (dA 0, 6, .inl a5))] H := hP
        have hD : va_D A [zr_o ad (0 : Int32) f_taped f_at f_behind f_size f_kind f_number f_wrong f_wrongAt f_faultKind f_faultPlace f_reading f_toldWhy f_x f_standMany v3 f_tail f_round1, (ad 2, .inl (dA 0, 2982, .inl b_all)), (ad 29, .inl (dA 0, 6, .inl a4)), (ad 30, .inl (dA 0, 6, .inl a5))] := hD
        refine lv_iload_n (pc := 63) hx hb dX11_shares_63 rfl (lv_at hl 3 rfl) ?_
        refine lv_if_ne (tgt := 74) (pc := 64) hx hb dX11_shares_64 rfl (fun hc => ?_) (fun hc => ?_)
        · have hf := za_f hf hc
          refine lv_aload_n (pc := 74) hx hb dX11_shares_74 rfl (lv_at hl 0 rfl) ?_
          refine va_get (pc := 75) (D := (dC, dI)) (ci := 0) (v := .ref (ad 30)) (C := RX11) (T := TX11) (N := 42) hx hb ht zb_lay hown hK hP 0 rfl rfl 29 (by decide) (ht _ (zb_l zr_24)) (fun _ h9 => h9) rfl dX11_shares_75 ?_
          refine lv_iload_n (pc := 78) hx hb dX11_shares_78 rfl (lv_at hl 3 rfl) ?_
          refine lv_bipush (v := (10 : Int32)) (pc := 79) hx hb dX11_shares_79 (by decide) ?_
          refine lv_isub (pc := 81) hx hb dX11_shares_81 ?_
          obtain ⟨v6, hv6, hf⟩ := zc_1 hf
          refine zw_iald (pc := 82) hx hb hK hP 3 0 rfl rfl hv6 dX11_shares_82 ?_
          obtain ⟨rfl, rfl, rfl, rfl, rfl⟩ := zi_5 hf
          exact W.iret (pc := 83) hx hb hr (fun t ht hW => ⟨⟨_, (), rfl, rfl, zz_Bi (by rw [ht]; exact hP) (va_K.moved hW.alike hK) (hD)⟩, hS.F ht⟩) hS.2.2 dX11_shares_83
        · have hf := za_t hf hc
          refine lv_aload_n (pc := 67) hx hb dX11_shares_67 rfl (lv_at hl 0 rfl) ?_
          refine va_get (pc := 68) (D := (dC, dI)) (ci := 0) (v := .int v3) (C := RX11) (T := TX11) (N := 42) hx hb ht zb_lay hown hK hP 0 rfl rfl 30 (by decide) (ht _ (zb_l zr_393)) (fun _ h9 => h9) rfl dX11_shares_68 ?_
          refine lv_goto (tgt := 83) (pc := 71) hx hb dX11_shares_71 rfl ?_
          obtain ⟨rfl, rfl, rfl, rfl, rfl⟩ := zi_5 hf
          exact W.iret (pc := 83) hx hb hr (fun t ht hW => ⟨⟨_, (), rfl, rfl, zz_Bi (by rw [ht]; exact hP) (va_K.moved hW.alike hK) (hD)⟩, hS.F ht⟩) hS.2.2 dX11_shares_83
      · have hf := za_t hf hc
        refine lv_bipush (v := (-3 : Int32)) (pc := 46) hx hb dX11_shares_46 (by decide) ?_
        obtain ⟨rfl, rfl, rfl, rfl, rfl⟩ := zi_5 hf
        exact W.iret (pc := 48) hx hb hr (fun t ht hW => ⟨⟨_, (), rfl, rfl, zz_Bi (by rw [ht]; exact hP.sub [2, 3, 0, 1] rfl) (va_K.moved hW.alike hK) (hD.sub [2, 3, 0, 1] (by decide) rfl)⟩, hS.F ht⟩) hS.2.2 dX11_shares_48
    · have hf := za_f hf hc
      refine lv_iload_n (pc := 17) hx hb dX11_shares_17 rfl (lv_at hl 3 rfl) ?_
      refine lv_bipush (v := (10 : Int32)) (pc := 18) hx hb dX11_shares_18 (by decide) ?_
      refine lv_icmp_lt (tgt := 35) (pc := 20) hx hb dX11_shares_20 rfl (fun hc => ?_) (fun hc => ?_)
      · have hf := za_t hf hc
        refine lv_bipush (v := (-2 : Int32)) (pc := 35) hx hb dX11_shares_35 (by decide) ?_
        obtain ⟨rfl, rfl, rfl, rfl, rfl⟩ := zi_5 hf
        exact W.iret (pc := 37) hx hb hr (fun t ht hW => ⟨⟨_, (), rfl, rfl, zz_Bi (by rw [ht]; exact hP.sub [2, 3, 0, 1] rfl) (va_K.moved hW.alike hK) (hD.sub [2, 3, 0, 1] (by decide) rfl)⟩, hS.F ht⟩) hS.2.2 dX11_shares_37
      · have hf := za_f hf hc
        refine lv_aload_n (pc := 23) hx hb dX11_shares_23 rfl (lv_at hl 0 rfl) ?_
        refine lv_iload_n (pc := 24) hx hb dX11_shares_24 rfl (lv_at hl 3 rfl) ?_
        refine lv_bipush (v := (10 : Int32)) (pc := 25) hx hb dX11_shares_25 (by decide) ?_
        refine lv_isub (pc := 27) hx hb dX11_shares_27 ?_
        refine lv_i2l (pc := 28) hx hb dX11_shares_28 rfl ?_
        obtain ⟨v7, hv7, hf⟩ := zc_1 hf
        refine zw_Vi (pc := 29) (wc := [zr_o ad (0 : Int32) f_taped f_at f_behind f_size f_kind f_number f_wrong f_wrongAt f_faultKind f_faultPlace f_reading f_toldWhy f_x f_standMany f_bestMany f_tail f_round1, (ad 2, .inl (dA 0, 2982, .inl b_all))]) (wr := [(ad 29, .inl (dA 0, 6, .inl b_shared)), (ad 30, .inl (dA 0, 6, .inl b_bestShared))]) (w1 := [zr_o ad (0 : Int32) f_taped f_at f_behind f_size f_kind f_number f_wrong f_wrongAt f_faultKind f_faultPlace f_reading f_toldWhy f_x f_standMany f_bestMany f_tail f_round1, (ad 2, .inl (dA 0, 2982, .inl b_all))]) (As := [.long (Int32.toInt64 (p3 - (10 : Int32)))]) (rest := []) ⟨hx, hb, hml, hown, ht⟩ (zt_X11_isThing l dC dI dA ad _ (0 : Int32) f_taped f_at f_behind f_size f_kind f_number f_wrong f_wrongAt f_faultKind f_faultPlace f_reading f_toldWhy f_x f_standMany f_bestMany f_tail f_round1 b_all (Int32.toInt64 (p3 - (10 : Int32))) v7 hv7) (cwV 1 ht (zb_V (fun _ h => zb_l h) (zb_l zr_235) (zb_l zr_236) (zb_l zr_237) (zb_l zr_36) (zb_l zr_207)) rfl rfl rfl zk_X11_isThing ⟨Nat.le_of_ble_eq_true rfl, Nat.le_of_ble_eq_true rfl⟩) rfl rfl hK hP hD hS hA [2, 3] [0, 1] (by decide) (by decide) (by decide) rfl rfl rfl hl.1 (Nat.le_of_ble_eq_true rfl) dX11_shares_29 ⟨Nat.zero_le _, Nat.zero_le _⟩ rfl (fun H locs hP hD hS => ?_)
        have hP : va_P (dC, dI) zz_cls [(ad 29, .inl (dA 0, 6, .inl b_shared)), (ad 30, .inl (dA 0, 6, .inl b_bestShared)), zr_o ad (0 : Int32) f_taped f_at f_behind f_size f_kind f_number f_wrong f_wrongAt f_faultKind f_faultPlace f_reading f_toldWhy f_x f_standMany f_bestMany f_tail f_round1, (ad 2, .inl (dA 0, 2982, .inl b_all))] H := hP
        have hD : va_D A [(ad 29, .inl (dA 0, 6, .inl b_shared)), (ad 30, .inl (dA 0, 6, .inl b_bestShared)), zr_o ad (0 : Int32) f_taped f_at f_behind f_size f_kind f_number f_wrong f_wrongAt f_faultKind f_faultPlace f_reading f_toldWhy f_x f_standMany f_bestMany f_tail f_round1, (ad 2, .inl (dA 0, 2982, .inl b_all))] := hD
        refine lv_if_ne (tgt := 38) (pc := 32) hx hb dX11_shares_32 rfl (fun hc => ?_) (fun hc => ?_)
        · have hf := za_f hf hc
          refine lv_aload_n (pc := 38) hx hb dX11_shares_38 rfl (lv_at hl 0 rfl) ?_
          refine lv_iload_n (pc := 39) hx hb dX11_shares_39 rfl (lv_at hl 2 rfl) ?_
          obtain ⟨v8, hv8, hf⟩ := zc_1 hf
          refine zw_Vi (pc := 40) (wc := [zr_o ad (0 : Int32) f_taped f_at f_behind f_size f_kind f_number f_wrong f_wrongAt f_faultKind f_faultPlace f_reading f_toldWhy f_x f_standMany f_bestMany f_tail f_round1, (ad 2, .inl (dA 0, 2982, .inl b_all))]) (wr := [(ad 29, .inl (dA 0, 6, .inl b_shared)), (ad 30, .inl (dA 0, 6, .inl b_bestShared))]) (w1 := [zr_o ad (0 : Int32) f_taped f_at f_behind f_size f_kind f_number f_wrong f_wrongAt f_faultKind f_faultPlace f_reading f_toldWhy f_x f_standMany f_bestMany f_tail f_round1, (ad 2, .inl (dA 0, 2982, .inl b_all))]) (As := [.int p2]) (rest := []) ⟨hx, hb, hml, hown, ht⟩ (zt_X11_isSet l dC dI dA ad _ (0 : Int32) f_taped f_at f_behind f_size f_kind f_number f_wrong f_wrongAt f_faultKind f_faultPlace f_reading f_toldWhy f_x f_standMany f_bestMany f_tail f_round1 b_all p2 v8 hv8) (cwV 1 ht (zb_V (fun _ h => zb_l h) (zb_l zr_364) (zb_l zr_365) (zb_l zr_366) (zb_l zr_36) (zb_l zr_208)) rfl rfl rfl zk_X11_isSet ⟨Nat.le_of_ble_eq_true rfl, Nat.le_of_ble_eq_true rfl⟩) rfl rfl hK hP hD hS hA [2, 3] [0, 1] (by decide) (by decide) (by decide) rfl rfl rfl hl.1 (Nat.le_of_ble_eq_true rfl) dX11_shares_40 ⟨Nat.zero_le _, Nat.zero_le _⟩ rfl (fun H locs hP hD hS => ?_)
          have hP : va_P (dC, dI) zz_cls [(ad 29, .inl (dA 0, 6, .inl b_shared)), (ad 30, .inl (dA 0, 6, .inl b_bestShared)), zr_o ad (0 : Int32) f_taped f_at f_behind f_size f_kind f_number f_wrong f_wrongAt f_faultKind f_faultPlace f_reading f_toldWhy f_x f_standMany f_bestMany f_tail f_round1, (ad 2, .inl (dA 0, 2982, .inl b_all))] H := hP
          have hD : va_D A [(ad 29, .inl (dA 0, 6, .inl b_shared)), (ad 30, .inl (dA 0, 6, .inl b_bestShared)), zr_o ad (0 : Int32) f_taped f_at f_behind f_size f_kind f_number f_wrong f_wrongAt f_faultKind f_faultPlace f_reading f_toldWhy f_x f_standMany f_bestMany f_tail f_round1, (ad 2, .inl (dA 0, 2982, .inl b_all))] := hD
          refine lv_if_ne (tgt := 49) (pc := 43) hx hb dX11_shares_43 rfl (fun hc => ?_) (fun hc => ?_)
          · have hf := za_f hf hc
            refine lv_aload_n (pc := 49) hx hb dX11_shares_49 rfl (lv_at hl 0 rfl) ?_
            refine lv_iconst (v := (-1 : Int32)) (pc := 50) hx hb dX11_shares_50 (by decide) ?_
            refine va_put (pc := 51) (D := (dC, dI)) (ci := 0) (v := .int (-1 : Int32)) (ty := .int) (C := RX11) (T := TX11) (N := 42) hx hb ht zb_lay tyX11 tyX11_ok nmX11 hown hK hP hD hS 2 rfl rfl 30 (by decide) (ht _ (zb_l zr_393)) (fun _ h9 => h9) rfl (by decide +kernel) rfl rfl (Nat.le_of_ble_eq_true rfl) dX11_shares_51 (fun H locs hP hD hS => ?_)
            have hP : va_P (dC, dI) zz_cls [(ad 29, .inl (dA 0, 6, .inl b_shared)), (ad 30, .inl (dA 0, 6, .inl b_bestShared)), zr_o ad (0 : Int32) f_taped f_at f_behind f_size f_kind f_number f_wrong f_wrongAt f_faultKind f_faultPlace f_reading f_toldWhy f_x f_standMany (-1 : Int32) f_tail f_round1, (ad 2, .inl (dA 0, 2982, .inl b_all))] H := hP
            have hD : va_D A [(ad 29, .inl (dA 0, 6, .inl b_shared)), (ad 30, .inl (dA 0, 6, .inl b_bestShared)), zr_o ad (0 : Int32) f_taped f_at f_behind f_size f_kind f_number f_wrong f_wrongAt f_faultKind f_faultPlace f_reading f_toldWhy f_x f_standMany (-1 : Int32) f_tail f_round1, (ad 2, .inl (dA 0, 2982, .inl b_all))] := hD
            refine lv_aload_n (pc := 54) hx hb dX11_shares_54 rfl (lv_at hl 0 rfl) ?_
            refine lv_iconst (v := (0 : Int32)) (pc := 55) hx hb dX11_shares_55 (by decide) ?_
            refine lv_iload_n (pc := 56) hx hb dX11_shares_56 rfl (lv_at hl 1 rfl) ?_
            refine lv_iload_n (pc := 57) hx hb dX11_shares_57 rfl (lv_at hl 2 rfl) ?_
            refine lv_iconst (v := (0 : Int32)) (pc := 58) hx hb dX11_shares_58 (by decide) ?_
            refine lv_iconst (v := (0 : Int32)) (pc := 59) hx hb dX11_shares_59 (by decide) ?_
            obtain ⟨v9, a10, a11, hv9, hf⟩ := zc_3 hf
            refine zw_Vv (pc := 60) (wc := [zr_o ad (0 : Int32) f_taped f_at f_behind f_size f_kind f_number f_wrong f_wrongAt f_faultKind f_faultPlace f_reading f_toldWhy f_x f_standMany (-1 : Int32) f_tail f_round1, (ad 2, .inl (dA 0, 2982, .inl b_all)), (ad 29, .inl (dA 0, 6, .inl b_shared)), (ad 30, .inl (dA 0, 6, .inl b_bestShared))]) (wr := []) (w1 := [zr_o ad (0 : Int32) f_taped f_at f_behind f_size f_kind f_number f_wrong f_wrongAt f_faultKind f_faultPlace f_reading f_toldWhy f_x f_standMany v9 f_tail f_round1, (ad 2, .inl (dA 0, 2982, .inl b_all)), (ad 29, .inl (dA 0, 6, .inl a10)), (ad 30, .inl (dA 0, 6, .inl a11))]) (As := [.int (0 : Int32), .int p1, .int p2, .int (0 : Int32), .int (0 : Int32)]) (rest := []) ⟨hx, hb, hml, hown, ht⟩ (zt_X11_goesShare l dC dI dA ad adK adV _ n (0 : Int32) f_taped f_at f_behind f_size f_kind f_number f_wrong f_wrongAt f_faultKind f_faultPlace f_reading f_toldWhy f_x f_standMany (-1 : Int32) f_tail f_round1 b_all b_shared b_bestShared (0 : Int32) p1 p2 (0 : Int32) (0 : Int32) v9 a10 a11 hv9) (cwV 5 ht (zb_V (fun _ h => zb_i h) (zb_l zr_394) (zb_l zr_395) (zb_l zr_396) (zb_l zr_36) (zb_l zr_392)) rfl rfl rfl zk_X11_goesShare ⟨Nat.le_of_ble_eq_true rfl, Nat.le_of_ble_eq_true rfl⟩) rfl rfl hK hP hD hS hA [2, 3, 0, 1] [] (by decide) (by decide) (by decide) rfl rfl rfl hl.1 (Nat.le_of_ble_eq_true rfl) dX11_shares_60 ⟨Nat.zero_le _, Nat.zero_le _⟩ rfl (fun H locs hP hD hS => ?_)
            have hP : va_P (dC, dI) zz_cls [zr_o ad (0 : Int32) f_taped f_at f_behind f_size f_kind f_number f_wrong f_wrongAt f_faultKind f_faultPlace f_reading f_toldWhy f_x f_standMany v9 f_tail f_round1, (ad 2, .inl (dA 0, 2982, .inl b_all)), (ad 29, .inl (dA 0, 6, .inl a10)), (ad 30, .inl (dA 0, 6, .inl a11))] H := hP
            have hD : va_D A [zr_o ad (0 : Int32) f_taped f_at f_behind f_size f_kind f_number f_wrong f_wrongAt f_faultKind f_faultPlace f_reading f_toldWhy f_x f_standMany v9 f_tail f_round1, (ad 2, .inl (dA 0, 2982, .inl b_all)), (ad 29, .inl (dA 0, 6, .inl a10)), (ad 30, .inl (dA 0, 6, .inl a11))] := hD
            refine lv_iload_n (pc := 63) hx hb dX11_shares_63 rfl (lv_at hl 3 rfl) ?_
            refine lv_if_ne (tgt := 74) (pc := 64) hx hb dX11_shares_64 rfl (fun hc => ?_) (fun hc => ?_)
            · have hf := za_f hf hc
              refine lv_aload_n (pc := 74) hx hb dX11_shares_74 rfl (lv_at hl 0 rfl) ?_
              refine va_get (pc := 75) (D := (dC, dI)) (ci := 0) (v := .ref (ad 30)) (C := RX11) (T := TX11) (N := 42) hx hb ht zb_lay hown hK hP 0 rfl rfl 29 (by decide) (ht _ (zb_l zr_24)) (fun _ h9 => h9) rfl dX11_shares_75 ?_
              refine lv_iload_n (pc := 78) hx hb dX11_shares_78 rfl (lv_at hl 3 rfl) ?_
              refine lv_bipush (v := (10 : Int32)) (pc := 79) hx hb dX11_shares_79 (by decide) ?_
              refine lv_isub (pc := 81) hx hb dX11_shares_81 ?_
              obtain ⟨v12, hv12, hf⟩ := zc_1 hf
              refine zw_iald (pc := 82) hx hb hK hP 3 0 rfl rfl hv12 dX11_shares_82 ?_
              obtain ⟨rfl, rfl, rfl, rfl, rfl⟩ := zi_5 hf
              exact W.iret (pc := 83) hx hb hr (fun t ht hW => ⟨⟨_, (), rfl, rfl, zz_Bi (by rw [ht]; exact hP) (va_K.moved hW.alike hK) (hD)⟩, hS.F ht⟩) hS.2.2 dX11_shares_83
            · have hf := za_t hf hc
              refine lv_aload_n (pc := 67) hx hb dX11_shares_67 rfl (lv_at hl 0 rfl) ?_
              refine va_get (pc := 68) (D := (dC, dI)) (ci := 0) (v := .int v9) (C := RX11) (T := TX11) (N := 42) hx hb ht zb_lay hown hK hP 0 rfl rfl 30 (by decide) (ht _ (zb_l zr_393)) (fun _ h9 => h9) rfl dX11_shares_68 ?_
              refine lv_goto (tgt := 83) (pc := 71) hx hb dX11_shares_71 rfl ?_
              obtain ⟨rfl, rfl, rfl, rfl, rfl⟩ := zi_5 hf
              exact W.iret (pc := 83) hx hb hr (fun t ht hW => ⟨⟨_, (), rfl, rfl, zz_Bi (by rw [ht]; exact hP) (va_K.moved hW.alike hK) (hD)⟩, hS.F ht⟩) hS.2.2 dX11_shares_83
          · have hf := za_t hf hc
            refine lv_bipush (v := (-3 : Int32)) (pc := 46) hx hb dX11_shares_46 (by decide) ?_
            obtain ⟨rfl, rfl, rfl, rfl, rfl⟩ := zi_5 hf
            exact W.iret (pc := 48) hx hb hr (fun t ht hW => ⟨⟨_, (), rfl, rfl, zz_Bi (by rw [ht]; exact hP.sub [2, 3, 0, 1] rfl) (va_K.moved hW.alike hK) (hD.sub [2, 3, 0, 1] (by decide) rfl)⟩, hS.F ht⟩) hS.2.2 dX11_shares_48
        · have hf := za_t hf hc
          refine lv_bipush (v := (-2 : Int32)) (pc := 35) hx hb dX11_shares_35 (by decide) ?_
          obtain ⟨rfl, rfl, rfl, rfl, rfl⟩ := zi_5 hf
          exact W.iret (pc := 37) hx hb hr (fun t ht hW => ⟨⟨_, (), rfl, rfl, zz_Bi (by rw [ht]; exact hP.sub [2, 3, 0, 1] rfl) (va_K.moved hW.alike hK) (hD.sub [2, 3, 0, 1] (by decide) rfl)⟩, hS.F ht⟩) hS.2.2 dX11_shares_37

def zf_X11_chance (n : Nat) (f_thrown : Int32) (f_standMany : Int32) (b_all : (Nat → Int32)) (b_reckoned : (Nat → Int32)) (b_words : (Nat → Int32)) (b_stand : (Nat → Int32)) (b_then : (Nat → Int32)) (b_known : (Nat → Int32)) (b_likely : (Nat → Int32)) (p1 : Int32) (p2 : Int32) (p3 : Int32) : Option (Int32 × Int32 × Int32 × (Nat → Int32) × (Nat → Int32) × (Nat → Int32) × (Nat → Int32) × (Nat → Int32) × (Nat → Int32)) :=
  zd_1 (zf_X11_isRung b_all p1) (fun v1 =>
  if v1 = 0 then
    some ((-2 : Int32), (0 : Int32), f_standMany, b_reckoned, b_words, b_stand, b_then, b_known, b_likely)
  else
    zd_1 (zf_X11_within (Int32.toInt64 p3) (0 : Int64) (1 : Int64)) (fun v2 =>
    if v2 = 0 then
      some ((-2 : Int32), (0 : Int32), f_standMany, b_reckoned, b_words, b_stand, b_then, b_known, b_likely)
    else
      zd_1 (zf_X11_within (Int32.toInt64 p2) (0 : Int64) (8 : Int64)) (fun v3 =>
      if v3 = 0 then
        some ((-3 : Int32), (0 : Int32), f_standMany, b_reckoned, b_words, b_stand, b_then, b_known, b_likely)
      else
        zd_8 (zf_X11_laysLikely n f_standMany b_all b_reckoned b_words b_stand b_then b_known b_likely p1 p2) (fun v4 v5 a6 a7 a8 a9 a10 a11 =>
        zd_1 (
          if p3 = 0 then
            some v4
          else
            zd_1 (zf_X11_wholeOf n p2) (fun v12 =>
            some v12)) (fun v13 =>
        zd_1 (zf_X11_wholeOf n p2) (fun v14 =>
        zd_1 (zf_X11_common n v4 v14) (fun v15 =>
        zd_1 (za_nz v15) (fun v16 =>
        some ((v13 / v15), (0 : Int32), v5, a6, a7, a8, a9, a10, a11)))))))))
theorem zk_X11_chance : yX11_chance.cls = RX11 ∧ yX11_chance.cls ≠ "java/lang/invoke/MethodHandle" ∧ yX11_chance.cls ≠ "java/lang/invoke/VarHandle" ∧ (parseMethodDescriptor yX11_chance.desc).map (fun d => d.parameters.length) = some 3 := by decide +kernel
set_option maxHeartbeats 4000000 in
set_option maxRecDepth 100000 in
theorem zt_X11_chance (l : Launch) (dC : Nat → ClassId) (dI : Nat → Nat → Nat) (dA : Nat → ClassId) (ad : Nat → Nat) (adK adV : Nat → Nat) (sz : Nat) (n : Nat) (f_thrown : Int32) (f_taped : Int32) (f_at : Int32) (f_behind : Int32) (f_size : Int32) (f_kind : Int32) (f_number : Int32) (f_wrong : Int32) (f_wrongAt : Int32) (f_faultKind : Int32) (f_faultPlace : Int32) (f_reading : Int32) (f_toldWhy : Int32) (f_x : Int32) (f_standMany : Int32) (f_bestMany : Int32) (f_tail : Int32) (f_round1 : Int32) (b_all : (Nat → Int32)) (b_reckoned : (Nat → Int32)) (b_words : (Nat → Int32)) (b_stand : (Nat → Int32)) (b_then : (Nat → Int32)) (b_known : (Nat → Int32)) (b_likely : (Nat → Int32)) (p1 : Int32) (p2 : Int32) (p3 : Int32) (r0 : Int32) (o1 : Int32) (o2 : Int32) (o3 : (Nat → Int32)) (o4 : (Nat → Int32)) (o5 : (Nat → Int32)) (o6 : (Nat → Int32)) (o7 : (Nat → Int32)) (o8 : (Nat → Int32)) (hf : zf_X11_chance n f_thrown f_standMany b_all b_reckoned b_words b_stand b_then b_known b_likely p1 p2 p3 = some (r0, o1, o2, o3, o4, o5, o6, o7, o8)) : Met l yX11_chance (.code yX11_chance cX11_chance 5 (some .int) :: zb_T) ({ frames := 62, cells := 0, slots := 0, locals := 2422 }) (va_Pc [.ref (ad 0), .int p1, .int p2, .int p3] (zz_M dC dI dA [zr_o ad f_thrown f_taped f_at f_behind f_size f_kind f_number f_wrong f_wrongAt f_faultKind f_faultPlace f_reading f_toldWhy f_x f_standMany f_bestMany f_tail f_round1, (ad 2, .inl (dA 0, 2982, .inl b_all)), (ad 17, .inl (dA 0, 900, .inl b_reckoned)), (ad 18, .inl (dA 0, 6, .inl b_words)), (ad 22, .inl (dA 0, 2880, .inl b_stand)), (ad 23, .inl (dA 0, 43200, .inl b_then)), (ad 25, .inl (dA 2, 2880, .inl b_known)), (ad 39, .inl (dA 0, 25920, .inl b_likely))] sz)) (va_Qi (fun (r : Int32) (_ : Unit) => r = r0) (fun _ t => zz_B dC dI dA (va_A [zr_o ad f_thrown f_taped f_at f_behind f_size f_kind f_number f_wrong f_wrongAt f_faultKind f_faultPlace f_reading f_toldWhy f_x f_standMany f_bestMany f_tail f_round1, (ad 2, .inl (dA 0, 2982, .inl b_all)), (ad 17, .inl (dA 0, 900, .inl b_reckoned)), (ad 18, .inl (dA 0, 6, .inl b_words)), (ad 22, .inl (dA 0, 2880, .inl b_stand)), (ad 23, .inl (dA 0, 43200, .inl b_then)), (ad 25, .inl (dA 2, 2880, .inl b_known)), (ad 39, .inl (dA 0, 25920, .inl b_likely))] sz) [zr_o ad o1 f_taped f_at f_behind f_size f_kind f_number f_wrong f_wrongAt f_faultKind f_faultPlace f_reading f_toldWhy f_x o2 f_bestMany f_tail f_round1, (ad 2, .inl (dA 0, 2982, .inl b_all)), (ad 17, .inl (dA 0, 900, .inl o3)), (ad 18, .inl (dA 0, 6, .inl o4)), (ad 22, .inl (dA 0, 2880, .inl o5)), (ad 23, .inl (dA 0, 43200, .inl o6)), (ad 25, .inl (dA 2, 2880, .inl o7)), (ad 39, .inl (dA 0, 25920, .inl o8))] t) (va_A [zr_o ad f_thrown f_taped f_at f_behind f_size f_kind f_number f_wrong f_wrongAt f_faultKind f_faultPlace f_reading f_toldWhy f_x f_standMany f_bestMany f_tail f_round1, (ad 2, .inl (dA 0, 2982, .inl b_all)), (ad 17, .inl (dA 0, 900, .inl b_reckoned)), (ad 18, .inl (dA 0, 6, .inl b_words)), (ad 22, .inl (dA 0, 2880, .inl b_stand)), (ad 23, .inl (dA 0, 43200, .inl b_then)), (ad 25, .inl (dA 2, 2880, .inl b_known)), (ad 39, .inl (dA 0, 25920, .inl b_likely))] sz)) 0 0 (va_A [zr_o ad f_thrown f_taped f_at f_behind f_size f_kind f_number f_wrong f_wrongAt f_faultKind f_faultPlace f_reading f_toldWhy f_x f_standMany f_bestMany f_tail f_round1, (ad 2, .inl (dA 0, 2982, .inl b_all)), (ad 17, .inl (dA 0, 900, .inl b_reckoned)), (ad 18, .inl (dA 0, 6, .inl b_words)), (ad 22, .inl (dA 0, 2880, .inl b_stand)), (ad 23, .inl (dA 0, 43200, .inl b_then)), (ad 25, .inl (dA 2, 2880, .inl b_known)), (ad 39, .inl (dA 0, 25920, .inl b_likely))] sz) := by
  unfold zf_X11_chance at hf
  refine Met.ofW (cc := cX11_chance) (maxL := 5) (ret := (some .int)) (by decide) rfl ?_
  intro p e s m args below meth c s₁ B hml hv
  obtain ⟨rfl, hsz, hP, hK, hD0⟩ := hv
  have hx := B.exec
  have hb := B.bytes
  have hr := B.returns
  have ht : ∀ w ∈ zb_T, w.before ([.ref (ad 0), .int p1, .int p2, .int p3] : List Value).toArray s = true := fun w hw => atoms_spec (ws := .code yX11_chance cX11_chance 5 (some .int) :: zb_T) B.pre w (List.mem_cons_of_mem _ hw)
  have hown : s.vm.findClass RX11 = some m.cls := findClass_of_methodNamed B.named
  have hlocks := B.notSynchronized
  subst hsz
  have hD := hD0.self (sz := s.heap.size)
  generalize hAe : va_A [zr_o ad f_thrown f_taped f_at f_behind f_size f_kind f_number f_wrong f_wrongAt f_faultKind f_faultPlace f_reading f_toldWhy f_x f_standMany f_bestMany f_tail f_round1, (ad 2, .inl (dA 0, 2982, .inl b_all)), (ad 17, .inl (dA 0, 900, .inl b_reckoned)), (ad 18, .inl (dA 0, 6, .inl b_words)), (ad 22, .inl (dA 0, 2880, .inl b_stand)), (ad 23, .inl (dA 0, 43200, .inl b_then)), (ad 25, .inl (dA 2, 2880, .inl b_known)), (ad 39, .inl (dA 0, 25920, .inl b_likely))] s.heap.size = A at hD ⊢
  have hA : ∀ q : Nat, s.heap.size ≤ q → A q := fun q h => by rw [← hAe]; exact Or.inr h
  clear hAe hD0
  have hS : va_S A s.heap s.heap [] := va_S.rf
  have hl := lv_entry ([.ref (ad 0), .int p1, .int p2, .int p3]) (n := 5) (Nat.le_of_ble_eq_true rfl)
  rw [lg_entry_eq]
  generalize (lg_sl ([.ref (ad 0), .int p1, .int p2, .int p3]) ++ List.replicate (5 - (lg_sl ([.ref (ad 0), .int p1, .int p2, .int p3])).length) Slot.unset).toArray = ls at hl ⊢
  have hl : lv_has ls 5 [(0, .ref (ad 0)), (1, .int p1), (2, .int p2), (3, .int p3)] := hl
  refine lv_aload_n (pc := 0) hx hb dX11_chance_0 rfl (lv_at hl 0 rfl) ?_
  refine lv_iconst (v := (0 : Int32)) (pc := 1) hx hb dX11_chance_1 (by decide) ?_
  refine va_put (pc := 2) (D := (dC, dI)) (ci := 0) (v := .int (0 : Int32)) (ty := .int) (C := RX11) (T := TX11) (N := 42) hx hb ht zb_lay tyX11 tyX11_ok nmX11 hown hK hP hD hS 0 rfl rfl 0 (by decide) (ht _ (zb_l zr_39)) (fun _ h9 => h9) rfl (by decide +kernel) rfl rfl (Nat.le_of_ble_eq_true rfl) dX11_chance_2 (fun H locs hP hD hS => ?_)
  have hP : va_P (dC, dI) zz_cls [zr_o ad (0 : Int32) f_taped f_at f_behind f_size f_kind f_number f_wrong f_wrongAt f_faultKind f_faultPlace f_reading f_toldWhy f_x f_standMany f_bestMany f_tail f_round1, (ad 2, .inl (dA 0, 2982, .inl b_all)), (ad 17, .inl (dA 0, 900, .inl b_reckoned)), (ad 18, .inl (dA 0, 6, .inl b_words)), (ad 22, .inl (dA 0, 2880, .inl b_stand)), (ad 23, .inl (dA 0, 43200, .inl b_then)), (ad 25, .inl (dA 2, 2880, .inl b_known)), (ad 39, .inl (dA 0, 25920, .inl b_likely))] H := hP
  have hD : va_D A [zr_o ad (0 : Int32) f_taped f_at f_behind f_size f_kind f_number f_wrong f_wrongAt f_faultKind f_faultPlace f_reading f_toldWhy f_x f_standMany f_bestMany f_tail f_round1, (ad 2, .inl (dA 0, 2982, .inl b_all)), (ad 17, .inl (dA 0, 900, .inl b_reckoned)), (ad 18, .inl (dA 0, 6, .inl b_words)), (ad 22, .inl (dA 0, 2880, .inl b_stand)), (ad 23, .inl (dA 0, 43200, .inl b_then)), (ad 25, .inl (dA 2, 2880, .inl b_known)), (ad 39, .inl (dA 0, 25920, .inl b_likely))] := hD
  refine lv_aload_n (pc := 5) hx hb dX11_chance_5 rfl (lv_at hl 0 rfl) ?_
  refine lv_iload_n (pc := 6) hx hb dX11_chance_6 rfl (lv_at hl 1 rfl) ?_
  obtain ⟨v1, hv1, hf⟩ := zc_1 hf
  refine zw_Vi (pc := 7) (wc := [zr_o ad (0 : Int32) f_taped f_at f_behind f_size f_kind f_number f_wrong f_wrongAt f_faultKind f_faultPlace f_reading f_toldWhy f_x f_standMany f_bestMany f_tail f_round1, (ad 2, .inl (dA 0, 2982, .inl b_all))]) (wr := [(ad 17, .inl (dA 0, 900, .inl b_reckoned)), (ad 18, .inl (dA 0, 6, .inl b_words)), (ad 22, .inl (dA 0, 2880, .inl b_stand)), (ad 23, .inl (dA 0, 43200, .inl b_then)), (ad 25, .inl (dA 2, 2880, .inl b_known)), (ad 39, .inl (dA 0, 25920, .inl b_likely))]) (w1 := [zr_o ad (0 : Int32) f_taped f_at f_behind f_size f_kind f_number f_wrong f_wrongAt f_faultKind f_faultPlace f_reading f_toldWhy f_x f_standMany f_bestMany f_tail f_round1, (ad 2, .inl (dA 0, 2982, .inl b_all))]) (As := [.int p1]) (rest := []) ⟨hx, hb, hml, hown, ht⟩ (zt_X11_isRung l dC dI dA ad _ (0 : Int32) f_taped f_at f_behind f_size f_kind f_number f_wrong f_wrongAt f_faultKind f_faultPlace f_reading f_toldWhy f_x f_standMany f_bestMany f_tail f_round1 b_all p1 v1 hv1) (cwV 1 ht (zb_V (fun _ h => zb_l h) (zb_l zr_255) (zb_l zr_256) (zb_l zr_257) (zb_l zr_36) (zb_l zr_206)) rfl rfl rfl zk_X11_isRung ⟨Nat.le_of_ble_eq_true rfl, Nat.le_of_ble_eq_true rfl⟩) rfl rfl hK hP hD hS hA [0, 1] [2, 3, 4, 5, 6, 7] (by decide) (by decide) (by decide) rfl rfl rfl hl.1 (Nat.le_of_ble_eq_true rfl) dX11_chance_7 ⟨Nat.zero_le _, Nat.zero_le _⟩ rfl (fun H locs hP hD hS => ?_)
  have hP : va_P (dC, dI) zz_cls [(ad 17, .inl (dA 0, 900, .inl b_reckoned)), (ad 18, .inl (dA 0, 6, .inl b_words)), (ad 22, .inl (dA 0, 2880, .inl b_stand)), (ad 23, .inl (dA 0, 43200, .inl b_then)), (ad 25, .inl (dA 2, 2880, .inl b_known)), (ad 39, .inl (dA 0, 25920, .inl b_likely)), zr_o ad (0 : Int32) f_taped f_at f_behind f_size f_kind f_number f_wrong f_wrongAt f_faultKind f_faultPlace f_reading f_toldWhy f_x f_standMany f_bestMany f_tail f_round1, (ad 2, .inl (dA 0, 2982, .inl b_all))] H := hP
  have hD : va_D A [(ad 17, .inl (dA 0, 900, .inl b_reckoned)), (ad 18, .inl (dA 0, 6, .inl b_words)), (ad 22, .inl (dA 0, 2880, .inl b_stand)), (ad 23, .inl (dA 0, 43200, .inl b_then)), (ad 25, .inl (dA 2, 2880, .inl b_known)), (ad 39, .inl (dA 0, 25920, .inl b_likely)), zr_o ad (0 : Int32) f_taped f_at f_behind f_size f_kind f_number f_wrong f_wrongAt f_faultKind f_faultPlace f_reading f_toldWhy f_x f_standMany f_bestMany f_tail f_round1, (ad 2, .inl (dA 0, 2982, .inl b_all))] := hD
  refine lv_if_eq (tgt := 23) (pc := 10) hx hb dX11_chance_10 rfl (fun hc => ?_) (fun hc => ?_)
  · have hf := za_t hf hc
    refine lv_bipush (v := (-2 : Int32)) (pc := 23) hx hb dX11_chance_23 (by decide) ?_
    obtain ⟨rfl, rfl, rfl, rfl, rfl, rfl, rfl, rfl, rfl⟩ := zi_9 hf
    exact W.iret (pc := 25) hx hb hr (fun t ht hW => ⟨⟨_, (), rfl, rfl, zz_Bi (by rw [ht]; exact hP.sub [6, 7, 0, 1, 2, 3, 4, 5] rfl) (va_K.moved hW.alike hK) (hD.sub [6, 7, 0, 1, 2, 3, 4, 5] (by decide) rfl)⟩, hS.F ht⟩) hS.2.2 dX11_chance_25
  · have hf := za_f hf hc
    refine lv_iload_n (pc := 13) hx hb dX11_chance_13 rfl (lv_at hl 3 rfl) ?_
    refine lv_i2l (pc := 14) hx hb dX11_chance_14 rfl ?_
    refine lv_lconst (v := (0 : Int64)) (pc := 15) hx hb dX11_chance_15 (by decide) ?_
    refine lv_lconst (v := (1 : Int64)) (pc := 16) hx hb dX11_chance_16 (by decide) ?_
    obtain ⟨v2, hv2, hf⟩ := zc_1 hf
    refine zw_Si (pc := 17) (wc := []) (wr := [(ad 17, .inl (dA 0, 900, .inl b_reckoned)), (ad 18, .inl (dA 0, 6, .inl b_words)), (ad 22, .inl (dA 0, 2880, .inl b_stand)), (ad 23, .inl (dA 0, 43200, .inl b_then)), (ad 25, .inl (dA 2, 2880, .inl b_known)), (ad 39, .inl (dA 0, 25920, .inl b_likely)), zr_o ad (0 : Int32) f_taped f_at f_behind f_size f_kind f_number f_wrong f_wrongAt f_faultKind f_faultPlace f_reading f_toldWhy f_x f_standMany f_bestMany f_tail f_round1, (ad 2, .inl (dA 0, 2982, .inl b_all))]) (w1 := []) (As := [.long (Int32.toInt64 p3), .long (0 : Int64), .long (1 : Int64)]) (rest := []) ⟨hx, hb, hml, hown, ht⟩ (zt_X11_within l dC dI dA ad _ (Int32.toInt64 p3) (0 : Int64) (1 : Int64) v2 hv2) (cwS 3 ht (zb_S (fun _ h => zb_l h) (zb_l zr_124) (zb_l zr_125) (zb_l zr_36) (zb_l zr_0)) rfl rfl rfl zk_X11_within ⟨Nat.le_of_ble_eq_true rfl, Nat.le_of_ble_eq_true rfl⟩) hK hP hD hS hA [] [0, 1, 2, 3, 4, 5, 6, 7] (by decide) (by decide) (by decide) rfl rfl rfl hl.1 (Nat.le_of_ble_eq_true rfl) dX11_chance_17 ⟨Nat.zero_le _, Nat.zero_le _⟩ rfl (fun H locs hP hD hS => ?_)
    have hP : va_P (dC, dI) zz_cls [(ad 17, .inl (dA 0, 900, .inl b_reckoned)), (ad 18, .inl (dA 0, 6, .inl b_words)), (ad 22, .inl (dA 0, 2880, .inl b_stand)), (ad 23, .inl (dA 0, 43200, .inl b_then)), (ad 25, .inl (dA 2, 2880, .inl b_known)), (ad 39, .inl (dA 0, 25920, .inl b_likely)), zr_o ad (0 : Int32) f_taped f_at f_behind f_size f_kind f_number f_wrong f_wrongAt f_faultKind f_faultPlace f_reading f_toldWhy f_x f_standMany f_bestMany f_tail f_round1, (ad 2, .inl (dA 0, 2982, .inl b_all))] H := hP
    have hD : va_D A [(ad 17, .inl (dA 0, 900, .inl b_reckoned)), (ad 18, .inl (dA 0, 6, .inl b_words)), (ad 22, .inl (dA 0, 2880, .inl b_stand)), (ad 23, .inl (dA 0, 43200, .inl b_then)), (ad 25, .inl (dA 2, 2880, .inl b_known)), (ad 39, .inl (dA 0, 25920, .inl b_likely)), zr_o ad (0 : Int32) f_taped f_at f_behind f_size f_kind f_number f_wrong f_wrongAt f_faultKind f_faultPlace f_reading f_toldWhy f_x f_standMany f_bestMany f_tail f_round1, (ad 2, .inl (dA 0, 2982, .inl b_all))] := hD
    refine lv_if_ne (tgt := 26) (pc := 20) hx hb dX11_chance_20 rfl (fun hc => ?_) (fun hc => ?_)
    · have hf := za_f hf hc
      refine lv_iload_n (pc := 26) hx hb dX11_chance_26 rfl (lv_at hl 2 rfl) ?_
      refine lv_i2l (pc := 27) hx hb dX11_chance_27 rfl ?_
      refine lv_lconst (v := (0 : Int64)) (pc := 28) hx hb dX11_chance_28 (by decide) ?_
      refine lv_ldc2 (v := (8 : Int64)) (pc := 29) hx hb hown (ht _ (zb_l zr_426)) dX11_chance_29 ?_
      obtain ⟨v3, hv3, hf⟩ := zc_1 hf
      refine zw_Si (pc := 32) (wc := []) (wr := [(ad 17, .inl (dA 0, 900, .inl b_reckoned)), (ad 18, .inl (dA 0, 6, .inl b_words)), (ad 22, .inl (dA 0, 2880, .inl b_stand)), (ad 23, .inl (dA 0, 43200, .inl b_then)), (ad 25, .inl (dA 2, 2880, .inl b_known)), (ad 39, .inl (dA 0, 25920, .inl b_likely)), zr_o ad (0 : Int32) f_taped f_at f_behind f_size f_kind f_number f_wrong f_wrongAt f_faultKind f_faultPlace f_reading f_toldWhy f_x f_standMany f_bestMany f_tail f_round1, (ad 2, .inl (dA 0, 2982, .inl b_all))]) (w1 := []) (As := [.long (Int32.toInt64 p2), .long (0 : Int64), .long (8 : Int64)]) (rest := []) ⟨hx, hb, hml, hown, ht⟩ (zt_X11_within l dC dI dA ad _ (Int32.toInt64 p2) (0 : Int64) (8 : Int64) v3 hv3) (cwS 3 ht (zb_S (fun _ h => zb_l h) (zb_l zr_124) (zb_l zr_125) (zb_l zr_36) (zb_l zr_0)) rfl rfl rfl zk_X11_within ⟨Nat.le_of_ble_eq_true rfl, Nat.le_of_ble_eq_true rfl⟩) hK hP hD hS hA [] [0, 1, 2, 3, 4, 5, 6, 7] (by decide) (by decide) (by decide) rfl rfl rfl hl.1 (Nat.le_of_ble_eq_true rfl) dX11_chance_32 ⟨Nat.zero_le _, Nat.zero_le _⟩ rfl (fun H locs hP hD hS => ?_)
      have hP : va_P (dC, dI) zz_cls [(ad 17, .inl (dA 0, 900, .inl b_reckoned)), (ad 18, .inl (dA 0, 6, .inl b_words)), (ad 22, .inl (dA 0, 2880, .inl b_stand)), (ad 23, .inl (dA 0, 43200, .inl b_then)), (ad 25, .inl (dA 2, 2880, .inl b_known)), (ad 39, .inl (dA 0, 25920, .inl b_likely)), zr_o ad (0 : Int32) f_taped f_at f_behind f_size f_kind f_number f_wrong f_wrongAt f_faultKind f_faultPlace f_reading f_toldWhy f_x f_standMany f_bestMany f_tail f_round1, (ad 2, .inl (dA 0, 2982, .inl b_all))] H := hP
      have hD : va_D A [(ad 17, .inl (dA 0, 900, .inl b_reckoned)), (ad 18, .inl (dA 0, 6, .inl b_words)), (ad 22, .inl (dA 0, 2880, .inl b_stand)), (ad 23, .inl (dA 0, 43200, .inl b_then)), (ad 25, .inl (dA 2, 2880, .inl b_known)), (ad 39, .inl (dA 0, 25920, .inl b_likely)), zr_o ad (0 : Int32) f_taped f_at f_behind f_size f_kind f_number f_wrong f_wrongAt f_faultKind f_faultPlace f_reading f_toldWhy f_x f_standMany f_bestMany f_tail f_round1, (ad 2, .inl (dA 0, 2982, .inl b_all))] := hD
      refine lv_if_ne (tgt := 41) (pc := 35) hx hb dX11_chance_35 rfl (fun hc => ?_) (fun hc => ?_)
      · have hf := za_f hf hc
        refine lv_aload_n (pc := 41) hx hb dX11_chance_41 rfl (lv_at hl 0 rfl) ?_
        refine lv_iload_n (pc := 42) hx hb dX11_chance_42 rfl (lv_at hl 1 rfl) ?_
        refine lv_iload_n (pc := 43) hx hb dX11_chance_43 rfl (lv_at hl 2 rfl) ?_
        obtain ⟨v4, v5, a6, a7, a8, a9, a10, a11, hv4, hf⟩ := zc_8 hf
        refine zw_Vi (pc := 44) (wc := [zr_o ad (0 : Int32) f_taped f_at f_behind f_size f_kind f_number f_wrong f_wrongAt f_faultKind f_faultPlace f_reading f_toldWhy f_x f_standMany f_bestMany f_tail f_round1, (ad 2, .inl (dA 0, 2982, .inl b_all)), (ad 17, .inl (dA 0, 900, .inl b_reckoned)), (ad 18, .inl (dA 0, 6, .inl b_words)), (ad 22, .inl (dA 0, 2880, .inl b_stand)), (ad 23, .inl (dA 0, 43200, .inl b_then)), (ad 25, .inl (dA 2, 2880, .inl b_known)), (ad 39, .inl (dA 0, 25920, .inl b_likely))]) (wr := []) (w1 := [zr_o ad (0 : Int32) f_taped f_at f_behind f_size f_kind f_number f_wrong f_wrongAt f_faultKind f_faultPlace f_reading f_toldWhy f_x v5 f_bestMany f_tail f_round1, (ad 2, .inl (dA 0, 2982, .inl b_all)), (ad 17, .inl (dA 0, 900, .inl a6)), (ad 18, .inl (dA 0, 6, .inl a7)), (ad 22, .inl (dA 0, 2880, .inl a8)), (ad 23, .inl (dA 0, 43200, .inl a9)), (ad 25, .inl (dA 2, 2880, .inl a10)), (ad 39, .inl (dA 0, 25920, .inl a11))]) (As := [.int p1, .int p2]) (rest := []) ⟨hx, hb, hml, hown, ht⟩ (zt_X11_laysLikely l dC dI dA ad _ n (0 : Int32) f_taped f_at f_behind f_size f_kind f_number f_wrong f_wrongAt f_faultKind f_faultPlace f_reading f_toldWhy f_x f_standMany f_bestMany f_tail f_round1 b_all b_reckoned b_words b_stand b_then b_known b_likely p1 p2 v4 v5 a6 a7 a8 a9 a10 a11 hv4) (cwV 2 ht (zb_V (fun _ h => zb_l h) (zb_l zr_461) (zb_l zr_462) (zb_l zr_463) (zb_l zr_36) (zb_l zr_457)) rfl rfl rfl zk_X11_laysLikely ⟨Nat.le_of_ble_eq_true rfl, Nat.le_of_ble_eq_true rfl⟩) rfl rfl hK hP hD hS hA [6, 7, 0, 1, 2, 3, 4, 5] [] (by decide) (by decide) (by decide) rfl rfl rfl hl.1 (Nat.le_of_ble_eq_true rfl) dX11_chance_44 ⟨Nat.zero_le _, Nat.zero_le _⟩ rfl (fun H locs hP hD hS => ?_)
        have hP : va_P (dC, dI) zz_cls [zr_o ad (0 : Int32) f_taped f_at f_behind f_size f_kind f_number f_wrong f_wrongAt f_faultKind f_faultPlace f_reading f_toldWhy f_x v5 f_bestMany f_tail f_round1, (ad 2, .inl (dA 0, 2982, .inl b_all)), (ad 17, .inl (dA 0, 900, .inl a6)), (ad 18, .inl (dA 0, 6, .inl a7)), (ad 22, .inl (dA 0, 2880, .inl a8)), (ad 23, .inl (dA 0, 43200, .inl a9)), (ad 25, .inl (dA 2, 2880, .inl a10)), (ad 39, .inl (dA 0, 25920, .inl a11))] H := hP
        have hD : va_D A [zr_o ad (0 : Int32) f_taped f_at f_behind f_size f_kind f_number f_wrong f_wrongAt f_faultKind f_faultPlace f_reading f_toldWhy f_x v5 f_bestMany f_tail f_round1, (ad 2, .inl (dA 0, 2982, .inl b_all)), (ad 17, .inl (dA 0, 900, .inl a6)), (ad 18, .inl (dA 0, 6, .inl a7)), (ad 22, .inl (dA 0, 2880, .inl a8)), (ad 23, .inl (dA 0, 43200, .inl a9)), (ad 25, .inl (dA 2, 2880, .inl a10)), (ad 39, .inl (dA 0, 25920, .inl a11))] := hD
        refine lv_istore (lv' := [(4, .int v4), (0, .ref (ad 0)), (1, .int p1), (2, .int p2), (3, .int p3)]) (pc := 47) hx hb dX11_chance_47 hl (by decide) rfl (fun ls hl => ?_)
        refine lv_iload_n (pc := 49) hx hb dX11_chance_49 rfl (lv_at hl 4 rfl) ?_
        obtain ⟨v13, hj, hf⟩ := zc_1 hf
        refine zj_join (pcJ := 62) (stk := [.int v13]) (X := fun H locs ls => lv_has ls 5 [(2, .int p2), (4, .int v4)] ∧ va_P (dC, dI) zz_cls [zr_o ad (0 : Int32) f_taped f_at f_behind f_size f_kind f_number f_wrong f_wrongAt f_faultKind f_faultPlace f_reading f_toldWhy f_x v5 f_bestMany f_tail f_round1, (ad 2, .inl (dA 0, 2982, .inl b_all)), (ad 17, .inl (dA 0, 900, .inl a6)), (ad 18, .inl (dA 0, 6, .inl a7)), (ad 22, .inl (dA 0, 2880, .inl a8)), (ad 23, .inl (dA 0, 43200, .inl a9)), (ad 25, .inl (dA 2, 2880, .inl a10)), (ad 39, .inl (dA 0, 25920, .inl a11))] H ∧ va_D A [zr_o ad (0 : Int32) f_taped f_at f_behind f_size f_kind f_number f_wrong f_wrongAt f_faultKind f_faultPlace f_reading f_toldWhy f_x v5 f_bestMany f_tail f_round1, (ad 2, .inl (dA 0, 2982, .inl b_all)), (ad 17, .inl (dA 0, 900, .inl a6)), (ad 18, .inl (dA 0, 6, .inl a7)), (ad 22, .inl (dA 0, 2880, .inl a8)), (ad 23, .inl (dA 0, 43200, .inl a9)), (ad 25, .inl (dA 2, 2880, .inl a10)), (ad 39, .inl (dA 0, 25920, .inl a11))] ∧ va_S A s.heap H locs) (fun H locs ls hX => ?_) (fun J62 => ?_)
        · obtain ⟨hl, hP, hD, hS⟩ := hX
          clear hj
          refine lv_iload (pc := 62) hx hb dX11_chance_62 (lv_at hl 1 rfl) ?_
          refine lv_iload_n (pc := 64) hx hb dX11_chance_64 rfl (lv_at hl 0 rfl) ?_
          obtain ⟨v14, hv14, hf⟩ := zc_1 hf
          refine zw_Si (pc := 65) (wc := []) (wr := [zr_o ad (0 : Int32) f_taped f_at f_behind f_size f_kind f_number f_wrong f_wrongAt f_faultKind f_faultPlace f_reading f_toldWhy f_x v5 f_bestMany f_tail f_round1, (ad 2, .inl (dA 0, 2982, .inl b_all)), (ad 17, .inl (dA 0, 900, .inl a6)), (ad 18, .inl (dA 0, 6, .inl a7)), (ad 22, .inl (dA 0, 2880, .inl a8)), (ad 23, .inl (dA 0, 43200, .inl a9)), (ad 25, .inl (dA 2, 2880, .inl a10)), (ad 39, .inl (dA 0, 25920, .inl a11))]) (w1 := []) (As := [.int p2]) (rest := [.int v4, .int v13]) ⟨hx, hb, hml, hown, ht⟩ (zt_X11_wholeOf l dC dI dA ad _ n p2 v14 hv14) (cwS 1 ht (zb_S (fun _ h => zb_l h) (zb_l zr_452) (zb_l zr_453) (zb_l zr_36) (zb_l zr_450)) rfl rfl rfl zk_X11_wholeOf ⟨Nat.le_of_ble_eq_true rfl, Nat.le_of_ble_eq_true rfl⟩) hK hP hD hS hA [] [0, 1, 2, 3, 4, 5, 6, 7] (by decide) (by decide) (by decide) rfl rfl rfl hl.1 (Nat.le_of_ble_eq_true rfl) dX11_chance_65 ⟨Nat.zero_le _, Nat.zero_le _⟩ rfl (fun H locs hP hD hS => ?_)
          have hP : va_P (dC, dI) zz_cls [zr_o ad (0 : Int32) f_taped f_at f_behind f_size f_kind f_number f_wrong f_wrongAt f_faultKind f_faultPlace f_reading f_toldWhy f_x v5 f_bestMany f_tail f_round1, (ad 2, .inl (dA 0, 2982, .inl b_all)), (ad 17, .inl (dA 0, 900, .inl a6)), (ad 18, .inl (dA 0, 6, .inl a7)), (ad 22, .inl (dA 0, 2880, .inl a8)), (ad 23, .inl (dA 0, 43200, .inl a9)), (ad 25, .inl (dA 2, 2880, .inl a10)), (ad 39, .inl (dA 0, 25920, .inl a11))] H := hP
          have hD : va_D A [zr_o ad (0 : Int32) f_taped f_at f_behind f_size f_kind f_number f_wrong f_wrongAt f_faultKind f_faultPlace f_reading f_toldWhy f_x v5 f_bestMany f_tail f_round1, (ad 2, .inl (dA 0, 2982, .inl b_all)), (ad 17, .inl (dA 0, 900, .inl a6)), (ad 18, .inl (dA 0, 6, .inl a7)), (ad 22, .inl (dA 0, 2880, .inl a8)), (ad 23, .inl (dA 0, 43200, .inl a9)), (ad 25, .inl (dA 2, 2880, .inl a10)), (ad 39, .inl (dA 0, 25920, .inl a11))] := hD
          obtain ⟨v15, hv15, hf⟩ := zc_1 hf
          refine zw_Si (pc := 68) (wc := []) (wr := [zr_o ad (0 : Int32) f_taped f_at f_behind f_size f_kind f_number f_wrong f_wrongAt f_faultKind f_faultPlace f_reading f_toldWhy f_x v5 f_bestMany f_tail f_round1, (ad 2, .inl (dA 0, 2982, .inl b_all)), (ad 17, .inl (dA 0, 900, .inl a6)), (ad 18, .inl (dA 0, 6, .inl a7)), (ad 22, .inl (dA 0, 2880, .inl a8)), (ad 23, .inl (dA 0, 43200, .inl a9)), (ad 25, .inl (dA 2, 2880, .inl a10)), (ad 39, .inl (dA 0, 25920, .inl a11))]) (w1 := []) (As := [.int v4, .int v14]) (rest := [.int v13]) ⟨hx, hb, hml, hown, ht⟩ (zt_X11_common l dC dI dA ad adK adV _ n v4 v14 v15 hv15) (cwS 2 ht (zb_S (fun _ h => zb_i h) (zb_l zr_459) (zb_l zr_460) (zb_l zr_36) (zb_l zr_458)) rfl rfl rfl zk_X11_common ⟨Nat.le_of_ble_eq_true rfl, Nat.le_of_ble_eq_true rfl⟩) hK hP hD hS hA [] [0, 1, 2, 3, 4, 5, 6, 7] (by decide) (by decide) (by decide) rfl rfl rfl hl.1 (Nat.le_of_ble_eq_true rfl) dX11_chance_68 ⟨Nat.zero_le _, Nat.zero_le _⟩ rfl (fun H locs hP hD hS => ?_)
          have hP : va_P (dC, dI) zz_cls [zr_o ad (0 : Int32) f_taped f_at f_behind f_size f_kind f_number f_wrong f_wrongAt f_faultKind f_faultPlace f_reading f_toldWhy f_x v5 f_bestMany f_tail f_round1, (ad 2, .inl (dA 0, 2982, .inl b_all)), (ad 17, .inl (dA 0, 900, .inl a6)), (ad 18, .inl (dA 0, 6, .inl a7)), (ad 22, .inl (dA 0, 2880, .inl a8)), (ad 23, .inl (dA 0, 43200, .inl a9)), (ad 25, .inl (dA 2, 2880, .inl a10)), (ad 39, .inl (dA 0, 25920, .inl a11))] H := hP
          have hD : va_D A [zr_o ad (0 : Int32) f_taped f_at f_behind f_size f_kind f_number f_wrong f_wrongAt f_faultKind f_faultPlace f_reading f_toldWhy f_x v5 f_bestMany f_tail f_round1, (ad 2, .inl (dA 0, 2982, .inl b_all)), (ad 17, .inl (dA 0, 900, .inl a6)), (ad 18, .inl (dA 0, 6, .inl a7)), (ad 22, .inl (dA 0, 2880, .inl a8)), (ad 23, .inl (dA 0, 43200, .inl a9)), (ad 25, .inl (dA 2, 2880, .inl a10)), (ad 39, .inl (dA 0, 25920, .inl a11))] := hD
          obtain ⟨v16, hv16, hf⟩ := zc_1 hf
          refine lv_idiv (pc := 71) hx hb dX11_chance_71 (za_nzs hv16).2 ?_
          obtain ⟨rfl, rfl, rfl, rfl, rfl, rfl, rfl, rfl, rfl⟩ := zi_9 hf
          exact W.iret (pc := 72) hx hb hr (fun t ht hW => ⟨⟨_, (), rfl, rfl, zz_Bi (by rw [ht]; exact hP) (va_K.moved hW.alike hK) (hD)⟩, hS.F ht⟩) hS.2.2 dX11_chance_72
        · clear hf
          have hf := hj
          clear hj
          refine lv_if_ne (tgt := 58) (pc := 50) hx hb dX11_chance_50 rfl (fun hc => ?_) (fun hc => ?_)
          · have hf := za_f hf hc
            refine lv_iload_n (pc := 58) hx hb dX11_chance_58 rfl (lv_at hl 3 rfl) ?_
            obtain ⟨v12, hv12, hf⟩ := zc_1 hf
            refine zw_Si (pc := 59) (wc := []) (wr := [zr_o ad (0 : Int32) f_taped f_at f_behind f_size f_kind f_number f_wrong f_wrongAt f_faultKind f_faultPlace f_reading f_toldWhy f_x v5 f_bestMany f_tail f_round1, (ad 2, .inl (dA 0, 2982, .inl b_all)), (ad 17, .inl (dA 0, 900, .inl a6)), (ad 18, .inl (dA 0, 6, .inl a7)), (ad 22, .inl (dA 0, 2880, .inl a8)), (ad 23, .inl (dA 0, 43200, .inl a9)), (ad 25, .inl (dA 2, 2880, .inl a10)), (ad 39, .inl (dA 0, 25920, .inl a11))]) (w1 := []) (As := [.int p2]) (rest := []) ⟨hx, hb, hml, hown, ht⟩ (zt_X11_wholeOf l dC dI dA ad _ n p2 v12 hv12) (cwS 1 ht (zb_S (fun _ h => zb_l h) (zb_l zr_452) (zb_l zr_453) (zb_l zr_36) (zb_l zr_450)) rfl rfl rfl zk_X11_wholeOf ⟨Nat.le_of_ble_eq_true rfl, Nat.le_of_ble_eq_true rfl⟩) hK hP hD hS hA [] [0, 1, 2, 3, 4, 5, 6, 7] (by decide) (by decide) (by decide) rfl rfl rfl hl.1 (Nat.le_of_ble_eq_true rfl) dX11_chance_59 ⟨Nat.zero_le _, Nat.zero_le _⟩ rfl (fun H locs hP hD hS => ?_)
            have hP : va_P (dC, dI) zz_cls [zr_o ad (0 : Int32) f_taped f_at f_behind f_size f_kind f_number f_wrong f_wrongAt f_faultKind f_faultPlace f_reading f_toldWhy f_x v5 f_bestMany f_tail f_round1, (ad 2, .inl (dA 0, 2982, .inl b_all)), (ad 17, .inl (dA 0, 900, .inl a6)), (ad 18, .inl (dA 0, 6, .inl a7)), (ad 22, .inl (dA 0, 2880, .inl a8)), (ad 23, .inl (dA 0, 43200, .inl a9)), (ad 25, .inl (dA 2, 2880, .inl a10)), (ad 39, .inl (dA 0, 25920, .inl a11))] H := hP
            have hD : va_D A [zr_o ad (0 : Int32) f_taped f_at f_behind f_size f_kind f_number f_wrong f_wrongAt f_faultKind f_faultPlace f_reading f_toldWhy f_x v5 f_bestMany f_tail f_round1, (ad 2, .inl (dA 0, 2982, .inl b_all)), (ad 17, .inl (dA 0, 900, .inl a6)), (ad 18, .inl (dA 0, 6, .inl a7)), (ad 22, .inl (dA 0, 2880, .inl a8)), (ad 23, .inl (dA 0, 43200, .inl a9)), (ad 25, .inl (dA 2, 2880, .inl a10)), (ad 39, .inl (dA 0, 25920, .inl a11))] := hD
            obtain rfl := Option.some.inj hf
            exact J62 _ _ _ ⟨lv_sub hl [3, 0] rfl, hP, hD, hS⟩
          · have hf := za_t hf hc
            refine lv_iload (pc := 53) hx hb dX11_chance_53 (lv_at hl 0 rfl) ?_
            refine lv_goto (tgt := 62) (pc := 55) hx hb dX11_chance_55 rfl ?_
            obtain rfl := Option.some.inj hf
            exact J62 _ _ _ ⟨lv_sub hl [3, 0] rfl, hP, hD, hS⟩
      · have hf := za_t hf hc
        refine lv_bipush (v := (-3 : Int32)) (pc := 38) hx hb dX11_chance_38 (by decide) ?_
        obtain ⟨rfl, rfl, rfl, rfl, rfl, rfl, rfl, rfl, rfl⟩ := zi_9 hf
        exact W.iret (pc := 40) hx hb hr (fun t ht hW => ⟨⟨_, (), rfl, rfl, zz_Bi (by rw [ht]; exact hP.sub [6, 7, 0, 1, 2, 3, 4, 5] rfl) (va_K.moved hW.alike hK) (hD.sub [6, 7, 0, 1, 2, 3, 4, 5] (by decide) rfl)⟩, hS.F ht⟩) hS.2.2 dX11_chance_40
    · have hf := za_t hf hc
      refine lv_bipush (v := (-2 : Int32)) (pc := 23) hx hb dX11_chance_23 (by decide) ?_
      obtain ⟨rfl, rfl, rfl, rfl, rfl, rfl, rfl, rfl, rfl⟩ := zi_9 hf
      exact W.iret (pc := 25) hx hb hr (fun t ht hW => ⟨⟨_, (), rfl, rfl, zz_Bi (by rw [ht]; exact hP.sub [6, 7, 0, 1, 2, 3, 4, 5] rfl) (va_K.moved hW.alike hK) (hD.sub [6, 7, 0, 1, 2, 3, 4, 5] (by decide) rfl)⟩, hS.F ht⟩) hS.2.2 dX11_chance_25
