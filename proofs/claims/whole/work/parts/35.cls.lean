def zf_X10_isImage (p0 : Int32) : Option (Int32) :=
  if p0 < 0 then
    some (0 : Int32)
  else
    if (2 : Int32) ≤ p0 then
      some (0 : Int32)
    else
      some (1 : Int32)
theorem zk_X10_isImage : yX10_isImage.cls = RX10 ∧ yX10_isImage.cls ≠ "java/lang/invoke/MethodHandle" ∧ yX10_isImage.cls ≠ "java/lang/invoke/VarHandle" ∧ (parseMethodDescriptor yX10_isImage.desc).map (fun d => d.parameters.length) = some 1 := by decide +kernel
set_option maxHeartbeats 4000000 in
set_option maxRecDepth 100000 in
theorem zt_X10_isImage (l : Launch) (dC : Nat → ClassId) (dI : Nat → Nat → Nat) (dA : Nat → ClassId) (adK adV : Nat → Nat) (sz : Nat) (p0 : Int32) (r0 : Int32) (hf : zf_X10_isImage p0 = some r0) : Met l yX10_isImage (.code yX10_isImage cX10_isImage 1 (some .boolean) :: zq_T) ({ frames := 0, cells := 0, slots := 0, locals := 0 }) (va_Pc [.int p0] (zx_M dC dI dA adK adV [] sz)) (va_Qi (fun (r : Int32) (_ : Unit) => r = r0) (fun _ t => zz_B dC dI dA (va_A [] sz) [] t) (va_A [] sz)) 0 0 (va_A [] sz) := by
  unfold zf_X10_isImage at hf
  refine Met.ofW (cc := cX10_isImage) (maxL := 1) (ret := (some .boolean)) (by decide) rfl ?_
  intro p e s m args below meth c s₁ B hml hv
  obtain ⟨rfl, ⟨hsz, hP, hK, hD0⟩, hZ⟩ := hv
  have hx := B.exec
  have hb := B.bytes
  have hr := B.returns
  have ht : ∀ w ∈ zq_T, w.before ([.int p0] : List Value).toArray s = true := fun w hw => atoms_spec (ws := .code yX10_isImage cX10_isImage 1 (some .boolean) :: zq_T) B.pre w (List.mem_cons_of_mem _ hw)
  have hown : s.vm.findClass RX10 = some m.cls := findClass_of_methodNamed B.named
  have hlocks := B.notSynchronized
  subst hsz
  have hD := hD0.self (sz := s.heap.size)
  generalize hAe : va_A [] s.heap.size = A at hD hZ ⊢
  have hA : ∀ q : Nat, s.heap.size ≤ q → A q := fun q h => by rw [← hAe]; exact Or.inr h
  clear hAe hD0
  have hS : va_S A s.heap s.heap [] := va_S.rf
  have hl := lv_entry ([.int p0]) (n := 1) (Nat.le_of_ble_eq_true rfl)
  rw [lg_entry_eq]
  generalize (lg_sl ([.int p0]) ++ List.replicate (1 - (lg_sl ([.int p0])).length) Slot.unset).toArray = ls at hl ⊢
  have hl : lv_has ls 1 [(0, .int p0)] := hl
  refine lv_iload_n (pc := 0) hx hb dX10_isImage_0 rfl (lv_at hl 0 rfl) ?_
  refine lv_if_lt (tgt := 13) (pc := 1) hx hb dX10_isImage_1 rfl (fun hc => ?_) (fun hc => ?_)
  · have hf := za_t hf hc
    refine lv_iconst (v := (0 : Int32)) (pc := 13) hx hb dX10_isImage_13 (by decide) ?_
    obtain rfl := Option.some.inj hf
    exact W.zret (pc := 14) hx hb hr rfl (fun t ht hW => ⟨⟨_, (), rfl, rfl, zz_Bi (by rw [ht]; exact hP) (va_K.moved hW.alike hK) (hD)⟩, hS.F ht⟩) hS.2.2 dX10_isImage_14
  · have hf := za_f hf hc
    refine lv_iload_n (pc := 4) hx hb dX10_isImage_4 rfl (lv_at hl 0 rfl) ?_
    refine lv_iconst (v := (2 : Int32)) (pc := 5) hx hb dX10_isImage_5 (by decide) ?_
    refine lv_icmp_ge (tgt := 13) (pc := 6) hx hb dX10_isImage_6 rfl (fun hc => ?_) (fun hc => ?_)
    · have hf := za_t hf hc
      refine lv_iconst (v := (0 : Int32)) (pc := 13) hx hb dX10_isImage_13 (by decide) ?_
      obtain rfl := Option.some.inj hf
      exact W.zret (pc := 14) hx hb hr rfl (fun t ht hW => ⟨⟨_, (), rfl, rfl, zz_Bi (by rw [ht]; exact hP) (va_K.moved hW.alike hK) (hD)⟩, hS.F ht⟩) hS.2.2 dX10_isImage_14
    · have hf := za_f hf hc
      refine lv_iconst (v := (1 : Int32)) (pc := 9) hx hb dX10_isImage_9 (by decide) ?_
      refine lv_goto (tgt := 14) (pc := 10) hx hb dX10_isImage_10 rfl ?_
      obtain rfl := Option.some.inj hf
      exact W.zret (pc := 14) hx hb hr rfl (fun t ht hW => ⟨⟨_, (), rfl, rfl, zz_Bi (by rw [ht]; exact hP) (va_K.moved hW.alike hK) (hD)⟩, hS.F ht⟩) hS.2.2 dX10_isImage_14

def zf_X10_count (f_o_taped : Int32) (f_o_undoable : Int32) (f_c_top : Int32) (f_c_things : Int32) (f_c_lines : Int32) (f_now_stand : Int32) (f_now_wind : Int32) (f_now_deeds : Int32) (p1 : Int32) : Option (Int32) :=
  if p1 = (0 : Int32) then
    some f_c_top
  else if p1 = (1 : Int32) then
    some f_c_things
  else if p1 = (2 : Int32) then
    zd_1 (zf_X10_rungOf f_now_stand) (fun v1 =>
    some v1)
  else if p1 = (3 : Int32) then
    zd_1 (zf_X10_thingsOf f_now_stand) (fun v2 =>
    some v2)
  else if p1 = (4 : Int32) then
    zd_1 (zf_X10_strengthOf f_now_stand) (fun v3 =>
    some v3)
  else if p1 = (5 : Int32) then
    some f_now_wind
  else if p1 = (6 : Int32) then
    some f_now_deeds
  else if p1 = (7 : Int32) then
    some f_o_undoable
  else if p1 = (8 : Int32) then
    some f_o_taped
  else if p1 = (9 : Int32) then
    some f_c_lines
  else
    some (-1 : Int32)
theorem zk_X10_count : yX10_count.cls = RX10 ∧ yX10_count.cls ≠ "java/lang/invoke/MethodHandle" ∧ yX10_count.cls ≠ "java/lang/invoke/VarHandle" ∧ (parseMethodDescriptor yX10_count.desc).map (fun d => d.parameters.length) = some 1 := by decide +kernel
set_option maxHeartbeats 4000000 in
set_option maxRecDepth 100000 in
theorem zt_X10_count (l : Launch) (dC : Nat → ClassId) (dI : Nat → Nat → Nat) (dA : Nat → ClassId) (adK adV : Nat → Nat) (sz : Nat) (a_o : Nat) (a_tape : Nat) (a_c : Nat) (a_sp : Nat) (a_rd : Nat) (a_now : Nat) (a_tri : Nat) (a_pasts : Nat) (a_trayss : Nat) (a_ics : Nat) (a_ips : Nat) (a_w : Nat) (a_m : Nat) (a_g : Nat) (a_rw : Nat) (a_sl : Nat) (a_sh : Nat) (a_c_bars : Nat) (a_c_gives : Nat) (a_c_rough : Nat) (a_c_code : Nat) (f_o_taped : Int32) (f_o_undoable : Int32) (f_c_top : Int32) (f_c_things : Int32) (f_c_startRung : Int32) (f_c_startThings : Int32) (f_c_startStrength : Int32) (f_c_startWind : Int32) (f_c_slips : Int32) (f_c_lines : Int32) (f_c_coded : Int32) (f_c_tiresFrom : Int32) (f_c_tiresTo : Int32) (f_c_mayFrom : Int32) (f_c_mayTo : Int32) (f_now_stand : Int32) (f_now_wind : Int32) (f_now_deeds : Int32) (p1 : Int32) (r0 : Int32) (hf : zf_X10_count f_o_taped f_o_undoable f_c_top f_c_things f_c_lines f_now_stand f_now_wind f_now_deeds p1 = some r0) : Met l yX10_count (.code yX10_count cX10_count 2 (some .int) :: zq_T) ({ frames := 1, cells := 0, slots := 0, locals := 20 }) (va_Pc [.ref a_o, .int p1] (zx_M dC dI dA adK adV [zo_X10 a_o a_tape f_o_taped a_c a_sp a_rd a_now a_tri a_pasts f_o_undoable a_trayss a_ics a_ips a_w a_m a_g a_rw a_sl a_sh, zo_X0 a_c f_c_top f_c_things a_c_bars a_c_gives a_c_rough f_c_startRung f_c_startThings f_c_startStrength f_c_startWind f_c_slips f_c_lines a_c_code f_c_coded f_c_tiresFrom f_c_tiresTo f_c_mayFrom f_c_mayTo, zo_X4 a_now f_now_stand f_now_wind f_now_deeds] sz)) (va_Qi (fun (r : Int32) (_ : Unit) => r = r0) (fun _ t => zz_B dC dI dA (va_A [zo_X10 a_o a_tape f_o_taped a_c a_sp a_rd a_now a_tri a_pasts f_o_undoable a_trayss a_ics a_ips a_w a_m a_g a_rw a_sl a_sh, zo_X0 a_c f_c_top f_c_things a_c_bars a_c_gives a_c_rough f_c_startRung f_c_startThings f_c_startStrength f_c_startWind f_c_slips f_c_lines a_c_code f_c_coded f_c_tiresFrom f_c_tiresTo f_c_mayFrom f_c_mayTo, zo_X4 a_now f_now_stand f_now_wind f_now_deeds] sz) [zo_X10 a_o a_tape f_o_taped a_c a_sp a_rd a_now a_tri a_pasts f_o_undoable a_trayss a_ics a_ips a_w a_m a_g a_rw a_sl a_sh, zo_X0 a_c f_c_top f_c_things a_c_bars a_c_gives a_c_rough f_c_startRung f_c_startThings f_c_startStrength f_c_startWind f_c_slips f_c_lines a_c_code f_c_coded f_c_tiresFrom f_c_tiresTo f_c_mayFrom f_c_mayTo, zo_X4 a_now f_now_stand f_now_wind f_now_deeds] t) (va_A [zo_X10 a_o a_tape f_o_taped a_c a_sp a_rd a_now a_tri a_pasts f_o_undoable a_trayss a_ics a_ips a_w a_m a_g a_rw a_sl a_sh, zo_X0 a_c f_c_top f_c_things a_c_bars a_c_gives a_c_rough f_c_startRung f_c_startThings f_c_startStrength f_c_startWind f_c_slips f_c_lines a_c_code f_c_coded f_c_tiresFrom f_c_tiresTo f_c_mayFrom f_c_mayTo, zo_X4 a_now f_now_stand f_now_wind f_now_deeds] sz)) 0 0 (va_A [zo_X10 a_o a_tape f_o_taped a_c a_sp a_rd a_now a_tri a_pasts f_o_undoable a_trayss a_ics a_ips a_w a_m a_g a_rw a_sl a_sh, zo_X0 a_c f_c_top f_c_things a_c_bars a_c_gives a_c_rough f_c_startRung f_c_startThings f_c_startStrength f_c_startWind f_c_slips f_c_lines a_c_code f_c_coded f_c_tiresFrom f_c_tiresTo f_c_mayFrom f_c_mayTo, zo_X4 a_now f_now_stand f_now_wind f_now_deeds] sz) := by
  unfold zf_X10_count at hf
  refine Met.ofW (cc := cX10_count) (maxL := 2) (ret := (some .int)) (by decide) rfl ?_
  intro p e s m args below meth c s₁ B hml hv
  obtain ⟨rfl, ⟨hsz, hP, hK, hD0⟩, hZ⟩ := hv
  have hx := B.exec
  have hb := B.bytes
  have hr := B.returns
  have ht : ∀ w ∈ zq_T, w.before ([.ref a_o, .int p1] : List Value).toArray s = true := fun w hw => atoms_spec (ws := .code yX10_count cX10_count 2 (some .int) :: zq_T) B.pre w (List.mem_cons_of_mem _ hw)
  have hown : s.vm.findClass RX10 = some m.cls := findClass_of_methodNamed B.named
  have hlocks := B.notSynchronized
  subst hsz
  have hD := hD0.self (sz := s.heap.size)
  generalize hAe : va_A [zo_X10 a_o a_tape f_o_taped a_c a_sp a_rd a_now a_tri a_pasts f_o_undoable a_trayss a_ics a_ips a_w a_m a_g a_rw a_sl a_sh, zo_X0 a_c f_c_top f_c_things a_c_bars a_c_gives a_c_rough f_c_startRung f_c_startThings f_c_startStrength f_c_startWind f_c_slips f_c_lines a_c_code f_c_coded f_c_tiresFrom f_c_tiresTo f_c_mayFrom f_c_mayTo, zo_X4 a_now f_now_stand f_now_wind f_now_deeds] s.heap.size = A at hD hZ ⊢
  have hA : ∀ q : Nat, s.heap.size ≤ q → A q := fun q h => by rw [← hAe]; exact Or.inr h
  clear hAe hD0
  have hS : va_S A s.heap s.heap [] := va_S.rf
  have hl := lv_entry ([.ref a_o, .int p1]) (n := 2) (Nat.le_of_ble_eq_true rfl)
  rw [lg_entry_eq]
  generalize (lg_sl ([.ref a_o, .int p1]) ++ List.replicate (2 - (lg_sl ([.ref a_o, .int p1])).length) Slot.unset).toArray = ls at hl ⊢
  have hl : lv_has ls 2 [(0, .ref a_o), (1, .int p1)] := hl
  refine lv_iload_n (pc := 0) hx hb dX10_count_0 rfl (lv_at hl 1 rfl) ?_
  by_cases hc0 : p1 = (0 : Int32)
  · have hf := za_t hf hc0
    refine lv_tableIn (tgt := 56) (off := 55) (pc := 1) hx hb dX10_count_1 (by rw [hc0]; decide) (by rw [hc0]; decide) (by rw [hc0]; decide) rfl ?_
    refine lv_aload_n (pc := 56) hx hb dX10_count_56 rfl (lv_at hl 0 rfl) ?_
    refine va_get (pc := 57) (D := (dC, dI)) (ci := 11) (v := .ref a_c) (C := RX10) (T := TX10) (N := 18) hx hb ht zq_layX10 hown hK hP 0 rfl rfl 2 (by decide) (ht _ zq_597) (fun _ h9 => h9) rfl dX10_count_57 ?_
    refine va_get (pc := 60) (D := (dC, dI)) (ci := 1) (v := .int f_c_top) (C := RX0) (T := TX0) (N := 17) hx hb ht zq_layX0 hown hK hP 1 rfl rfl 0 (by decide) (ht _ zq_891) (fun _ h9 => h9) rfl dX10_count_60 ?_
    obtain rfl := Option.some.inj hf
    exact W.iret (pc := 63) hx hb hr (fun t ht hW => ⟨⟨_, (), rfl, rfl, zz_Bi (by rw [ht]; exact hP) (va_K.moved hW.alike hK) (hD)⟩, hS.F ht⟩) hS.2.2 dX10_count_63
  have hf := za_f hf hc0
  by_cases hc1 : p1 = (1 : Int32)
  · have hf := za_t hf hc1
    refine lv_tableIn (tgt := 64) (off := 63) (pc := 1) hx hb dX10_count_1 (by rw [hc1]; decide) (by rw [hc1]; decide) (by rw [hc1]; decide) rfl ?_
    refine lv_aload_n (pc := 64) hx hb dX10_count_64 rfl (lv_at hl 0 rfl) ?_
    refine va_get (pc := 65) (D := (dC, dI)) (ci := 11) (v := .ref a_c) (C := RX10) (T := TX10) (N := 18) hx hb ht zq_layX10 hown hK hP 0 rfl rfl 2 (by decide) (ht _ zq_597) (fun _ h9 => h9) rfl dX10_count_65 ?_
    refine va_get (pc := 68) (D := (dC, dI)) (ci := 1) (v := .int f_c_things) (C := RX0) (T := TX0) (N := 17) hx hb ht zq_layX0 hown hK hP 1 rfl rfl 1 (by decide) (ht _ zq_892) (fun _ h9 => h9) rfl dX10_count_68 ?_
    obtain rfl := Option.some.inj hf
    exact W.iret (pc := 71) hx hb hr (fun t ht hW => ⟨⟨_, (), rfl, rfl, zz_Bi (by rw [ht]; exact hP) (va_K.moved hW.alike hK) (hD)⟩, hS.F ht⟩) hS.2.2 dX10_count_71
  have hf := za_f hf hc1
  by_cases hc2 : p1 = (2 : Int32)
  · have hf := za_t hf hc2
    refine lv_tableIn (tgt := 72) (off := 71) (pc := 1) hx hb dX10_count_1 (by rw [hc2]; decide) (by rw [hc2]; decide) (by rw [hc2]; decide) rfl ?_
    refine lv_aload_n (pc := 72) hx hb dX10_count_72 rfl (lv_at hl 0 rfl) ?_
    refine va_get (pc := 73) (D := (dC, dI)) (ci := 11) (v := .ref a_now) (C := RX10) (T := TX10) (N := 18) hx hb ht zq_layX10 hown hK hP 0 rfl rfl 5 (by decide) (ht _ zq_605) (fun _ h9 => h9) rfl dX10_count_73 ?_
    refine va_get (pc := 76) (D := (dC, dI)) (ci := 5) (v := .int f_now_stand) (C := RX4) (T := TX4) (N := 3) hx hb ht zq_layX4 hown hK hP 2 rfl rfl 0 (by decide) (ht _ zq_692) (fun _ h9 => h9) rfl dX10_count_76 ?_
    obtain ⟨v1, hv1, hf⟩ := zc_1 hf
    refine zx_Si (pc := 79) (wc := []) (wr := [zo_X10 a_o a_tape f_o_taped a_c a_sp a_rd a_now a_tri a_pasts f_o_undoable a_trayss a_ics a_ips a_w a_m a_g a_rw a_sl a_sh, zo_X0 a_c f_c_top f_c_things a_c_bars a_c_gives a_c_rough f_c_startRung f_c_startThings f_c_startStrength f_c_startWind f_c_slips f_c_lines a_c_code f_c_coded f_c_tiresFrom f_c_tiresTo f_c_mayFrom f_c_mayTo, zo_X4 a_now f_now_stand f_now_wind f_now_deeds]) (w1 := []) (As := [.int f_now_stand]) (rest := []) ⟨hx, hb, hml, hown, ht⟩ (zt_X10_rungOf l dC dI dA adK adV _ f_now_stand v1 hv1) (cwS 1 ht (zq_S zq_698 zq_57 zq_58 zq_59) rfl rfl rfl zk_X10_rungOf ⟨Nat.le_of_ble_eq_true rfl, Nat.le_of_ble_eq_true rfl⟩) hZ hK hP hD hS hA [] [0, 1, 2] (by decide) (by decide) (by decide) rfl rfl rfl hl.1 (Nat.le_of_ble_eq_true rfl) dX10_count_79 ⟨Nat.zero_le _, Nat.zero_le _⟩ rfl (fun H locs hP hD hS => ?_)
    have hP : va_P (dC, dI) zz_cls [zo_X10 a_o a_tape f_o_taped a_c a_sp a_rd a_now a_tri a_pasts f_o_undoable a_trayss a_ics a_ips a_w a_m a_g a_rw a_sl a_sh, zo_X0 a_c f_c_top f_c_things a_c_bars a_c_gives a_c_rough f_c_startRung f_c_startThings f_c_startStrength f_c_startWind f_c_slips f_c_lines a_c_code f_c_coded f_c_tiresFrom f_c_tiresTo f_c_mayFrom f_c_mayTo, zo_X4 a_now f_now_stand f_now_wind f_now_deeds] H := hP
    have hD : va_D A [zo_X10 a_o a_tape f_o_taped a_c a_sp a_rd a_now a_tri a_pasts f_o_undoable a_trayss a_ics a_ips a_w a_m a_g a_rw a_sl a_sh, zo_X0 a_c f_c_top f_c_things a_c_bars a_c_gives a_c_rough f_c_startRung f_c_startThings f_c_startStrength f_c_startWind f_c_slips f_c_lines a_c_code f_c_coded f_c_tiresFrom f_c_tiresTo f_c_mayFrom f_c_mayTo, zo_X4 a_now f_now_stand f_now_wind f_now_deeds] := hD
    obtain rfl := Option.some.inj hf
    exact W.iret (pc := 82) hx hb hr (fun t ht hW => ⟨⟨_, (), rfl, rfl, zz_Bi (by rw [ht]; exact hP) (va_K.moved hW.alike hK) (hD)⟩, hS.F ht⟩) hS.2.2 dX10_count_82
  have hf := za_f hf hc2
  by_cases hc3 : p1 = (3 : Int32)
  · have hf := za_t hf hc3
    refine lv_tableIn (tgt := 83) (off := 82) (pc := 1) hx hb dX10_count_1 (by rw [hc3]; decide) (by rw [hc3]; decide) (by rw [hc3]; decide) rfl ?_
    refine lv_aload_n (pc := 83) hx hb dX10_count_83 rfl (lv_at hl 0 rfl) ?_
    refine va_get (pc := 84) (D := (dC, dI)) (ci := 11) (v := .ref a_now) (C := RX10) (T := TX10) (N := 18) hx hb ht zq_layX10 hown hK hP 0 rfl rfl 5 (by decide) (ht _ zq_605) (fun _ h9 => h9) rfl dX10_count_84 ?_
    refine va_get (pc := 87) (D := (dC, dI)) (ci := 5) (v := .int f_now_stand) (C := RX4) (T := TX4) (N := 3) hx hb ht zq_layX4 hown hK hP 2 rfl rfl 0 (by decide) (ht _ zq_692) (fun _ h9 => h9) rfl dX10_count_87 ?_
    obtain ⟨v2, hv2, hf⟩ := zc_1 hf
    refine zx_Si (pc := 90) (wc := []) (wr := [zo_X10 a_o a_tape f_o_taped a_c a_sp a_rd a_now a_tri a_pasts f_o_undoable a_trayss a_ics a_ips a_w a_m a_g a_rw a_sl a_sh, zo_X0 a_c f_c_top f_c_things a_c_bars a_c_gives a_c_rough f_c_startRung f_c_startThings f_c_startStrength f_c_startWind f_c_slips f_c_lines a_c_code f_c_coded f_c_tiresFrom f_c_tiresTo f_c_mayFrom f_c_mayTo, zo_X4 a_now f_now_stand f_now_wind f_now_deeds]) (w1 := []) (As := [.int f_now_stand]) (rest := []) ⟨hx, hb, hml, hown, ht⟩ (zt_X10_thingsOf l dC dI dA adK adV _ f_now_stand v2 hv2) (cwS 1 ht (zq_S zq_699 zq_60 zq_58 zq_61) rfl rfl rfl zk_X10_thingsOf ⟨Nat.le_of_ble_eq_true rfl, Nat.le_of_ble_eq_true rfl⟩) hZ hK hP hD hS hA [] [0, 1, 2] (by decide) (by decide) (by decide) rfl rfl rfl hl.1 (Nat.le_of_ble_eq_true rfl) dX10_count_90 ⟨Nat.zero_le _, Nat.zero_le _⟩ rfl (fun H locs hP hD hS => ?_)
    have hP : va_P (dC, dI) zz_cls [zo_X10 a_o a_tape f_o_taped a_c a_sp a_rd a_now a_tri a_pasts f_o_undoable a_trayss a_ics a_ips a_w a_m a_g a_rw a_sl a_sh, zo_X0 a_c f_c_top f_c_things a_c_bars a_c_gives a_c_rough f_c_startRung f_c_startThings f_c_startStrength f_c_startWind f_c_slips f_c_lines a_c_code f_c_coded f_c_tiresFrom f_c_tiresTo f_c_mayFrom f_c_mayTo, zo_X4 a_now f_now_stand f_now_wind f_now_deeds] H := hP
    have hD : va_D A [zo_X10 a_o a_tape f_o_taped a_c a_sp a_rd a_now a_tri a_pasts f_o_undoable a_trayss a_ics a_ips a_w a_m a_g a_rw a_sl a_sh, zo_X0 a_c f_c_top f_c_things a_c_bars a_c_gives a_c_rough f_c_startRung f_c_startThings f_c_startStrength f_c_startWind f_c_slips f_c_lines a_c_code f_c_coded f_c_tiresFrom f_c_tiresTo f_c_mayFrom f_c_mayTo, zo_X4 a_now f_now_stand f_now_wind f_now_deeds] := hD
    obtain rfl := Option.some.inj hf
    exact W.iret (pc := 93) hx hb hr (fun t ht hW => ⟨⟨_, (), rfl, rfl, zz_Bi (by rw [ht]; exact hP) (va_K.moved hW.alike hK) (hD)⟩, hS.F ht⟩) hS.2.2 dX10_count_93
  have hf := za_f hf hc3
  by_cases hc4 : p1 = (4 : Int32)
  · have hf := za_t hf hc4
    refine lv_tableIn (tgt := 94) (off := 93) (pc := 1) hx hb dX10_count_1 (by rw [hc4]; decide) (by rw [hc4]; decide) (by rw [hc4]; decide) rfl ?_
    refine lv_aload_n (pc := 94) hx hb dX10_count_94 rfl (lv_at hl 0 rfl) ?_
    refine va_get (pc := 95) (D := (dC, dI)) (ci := 11) (v := .ref a_now) (C := RX10) (T := TX10) (N := 18) hx hb ht zq_layX10 hown hK hP 0 rfl rfl 5 (by decide) (ht _ zq_605) (fun _ h9 => h9) rfl dX10_count_95 ?_
    refine va_get (pc := 98) (D := (dC, dI)) (ci := 5) (v := .int f_now_stand) (C := RX4) (T := TX4) (N := 3) hx hb ht zq_layX4 hown hK hP 2 rfl rfl 0 (by decide) (ht _ zq_692) (fun _ h9 => h9) rfl dX10_count_98 ?_
    obtain ⟨v3, hv3, hf⟩ := zc_1 hf
    refine zx_Si (pc := 101) (wc := []) (wr := [zo_X10 a_o a_tape f_o_taped a_c a_sp a_rd a_now a_tri a_pasts f_o_undoable a_trayss a_ics a_ips a_w a_m a_g a_rw a_sl a_sh, zo_X0 a_c f_c_top f_c_things a_c_bars a_c_gives a_c_rough f_c_startRung f_c_startThings f_c_startStrength f_c_startWind f_c_slips f_c_lines a_c_code f_c_coded f_c_tiresFrom f_c_tiresTo f_c_mayFrom f_c_mayTo, zo_X4 a_now f_now_stand f_now_wind f_now_deeds]) (w1 := []) (As := [.int f_now_stand]) (rest := []) ⟨hx, hb, hml, hown, ht⟩ (zt_X10_strengthOf l dC dI dA adK adV _ f_now_stand v3 hv3) (cwS 1 ht (zq_S zq_700 zq_62 zq_58 zq_63) rfl rfl rfl zk_X10_strengthOf ⟨Nat.le_of_ble_eq_true rfl, Nat.le_of_ble_eq_true rfl⟩) hZ hK hP hD hS hA [] [0, 1, 2] (by decide) (by decide) (by decide) rfl rfl rfl hl.1 (Nat.le_of_ble_eq_true rfl) dX10_count_101 ⟨Nat.zero_le _, Nat.zero_le _⟩ rfl (fun H locs hP hD hS => ?_)
    have hP : va_P (dC, dI) zz_cls [zo_X10 a_o a_tape f_o_taped a_c a_sp a_rd a_now a_tri a_pasts f_o_undoable a_trayss a_ics a_ips a_w a_m a_g a_rw a_sl a_sh, zo_X0 a_c f_c_top f_c_things a_c_bars a_c_gives a_c_rough f_c_startRung f_c_startThings f_c_startStrength f_c_startWind f_c_slips f_c_lines a_c_code f_c_coded f_c_tiresFrom f_c_tiresTo f_c_mayFrom f_c_mayTo, zo_X4 a_now f_now_stand f_now_wind f_now_deeds] H := hP
    have hD : va_D A [zo_X10 a_o a_tape f_o_taped a_c a_sp a_rd a_now a_tri a_pasts f_o_undoable a_trayss a_ics a_ips a_w a_m a_g a_rw a_sl a_sh, zo_X0 a_c f_c_top f_c_things a_c_bars a_c_gives a_c_rough f_c_startRung f_c_startThings f_c_startStrength f_c_startWind f_c_slips f_c_lines a_c_code f_c_coded f_c_tiresFrom f_c_tiresTo f_c_mayFrom f_c_mayTo, zo_X4 a_now f_now_stand f_now_wind f_now_deeds] := hD
    obtain rfl := Option.some.inj hf
    exact W.iret (pc := 104) hx hb hr (fun t ht hW => ⟨⟨_, (), rfl, rfl, zz_Bi (by rw [ht]; exact hP) (va_K.moved hW.alike hK) (hD)⟩, hS.F ht⟩) hS.2.2 dX10_count_104
  have hf := za_f hf hc4
  by_cases hc5 : p1 = (5 : Int32)
  · have hf := za_t hf hc5
    refine lv_tableIn (tgt := 105) (off := 104) (pc := 1) hx hb dX10_count_1 (by rw [hc5]; decide) (by rw [hc5]; decide) (by rw [hc5]; decide) rfl ?_
    refine lv_aload_n (pc := 105) hx hb dX10_count_105 rfl (lv_at hl 0 rfl) ?_
    refine va_get (pc := 106) (D := (dC, dI)) (ci := 11) (v := .ref a_now) (C := RX10) (T := TX10) (N := 18) hx hb ht zq_layX10 hown hK hP 0 rfl rfl 5 (by decide) (ht _ zq_605) (fun _ h9 => h9) rfl dX10_count_106 ?_
    refine va_get (pc := 109) (D := (dC, dI)) (ci := 5) (v := .int f_now_wind) (C := RX4) (T := TX4) (N := 3) hx hb ht zq_layX4 hown hK hP 2 rfl rfl 1 (by decide) (ht _ zq_660) (fun _ h9 => h9) rfl dX10_count_109 ?_
    obtain rfl := Option.some.inj hf
    exact W.iret (pc := 112) hx hb hr (fun t ht hW => ⟨⟨_, (), rfl, rfl, zz_Bi (by rw [ht]; exact hP) (va_K.moved hW.alike hK) (hD)⟩, hS.F ht⟩) hS.2.2 dX10_count_112
  have hf := za_f hf hc5
  by_cases hc6 : p1 = (6 : Int32)
  · have hf := za_t hf hc6
    refine lv_tableIn (tgt := 113) (off := 112) (pc := 1) hx hb dX10_count_1 (by rw [hc6]; decide) (by rw [hc6]; decide) (by rw [hc6]; decide) rfl ?_
    refine lv_aload_n (pc := 113) hx hb dX10_count_113 rfl (lv_at hl 0 rfl) ?_
    refine va_get (pc := 114) (D := (dC, dI)) (ci := 11) (v := .ref a_now) (C := RX10) (T := TX10) (N := 18) hx hb ht zq_layX10 hown hK hP 0 rfl rfl 5 (by decide) (ht _ zq_605) (fun _ h9 => h9) rfl dX10_count_114 ?_
    refine va_get (pc := 117) (D := (dC, dI)) (ci := 5) (v := .int f_now_deeds) (C := RX4) (T := TX4) (N := 3) hx hb ht zq_layX4 hown hK hP 2 rfl rfl 2 (by decide) (ht _ zq_702) (fun _ h9 => h9) rfl dX10_count_117 ?_
    obtain rfl := Option.some.inj hf
    exact W.iret (pc := 120) hx hb hr (fun t ht hW => ⟨⟨_, (), rfl, rfl, zz_Bi (by rw [ht]; exact hP) (va_K.moved hW.alike hK) (hD)⟩, hS.F ht⟩) hS.2.2 dX10_count_120
  have hf := za_f hf hc6
  by_cases hc7 : p1 = (7 : Int32)
  · have hf := za_t hf hc7
    refine lv_tableIn (tgt := 121) (off := 120) (pc := 1) hx hb dX10_count_1 (by rw [hc7]; decide) (by rw [hc7]; decide) (by rw [hc7]; decide) rfl ?_
    refine lv_aload_n (pc := 121) hx hb dX10_count_121 rfl (lv_at hl 0 rfl) ?_
    refine va_get (pc := 122) (D := (dC, dI)) (ci := 11) (v := .int f_o_undoable) (C := RX10) (T := TX10) (N := 18) hx hb ht zq_layX10 hown hK hP 0 rfl rfl 8 (by decide) (ht _ zq_608) (fun _ h9 => h9) rfl dX10_count_122 ?_
    obtain rfl := Option.some.inj hf
    exact W.iret (pc := 125) hx hb hr (fun t ht hW => ⟨⟨_, (), rfl, rfl, zz_Bi (by rw [ht]; exact hP) (va_K.moved hW.alike hK) (hD)⟩, hS.F ht⟩) hS.2.2 dX10_count_125
  have hf := za_f hf hc7
  by_cases hc8 : p1 = (8 : Int32)
  · have hf := za_t hf hc8
    refine lv_tableIn (tgt := 126) (off := 125) (pc := 1) hx hb dX10_count_1 (by rw [hc8]; decide) (by rw [hc8]; decide) (by rw [hc8]; decide) rfl ?_
    refine lv_aload_n (pc := 126) hx hb dX10_count_126 rfl (lv_at hl 0 rfl) ?_
    refine va_get (pc := 127) (D := (dC, dI)) (ci := 11) (v := .int f_o_taped) (C := RX10) (T := TX10) (N := 18) hx hb ht zq_layX10 hown hK hP 0 rfl rfl 1 (by decide) (ht _ zq_594) (fun _ h9 => h9) rfl dX10_count_127 ?_
    obtain rfl := Option.some.inj hf
    exact W.iret (pc := 130) hx hb hr (fun t ht hW => ⟨⟨_, (), rfl, rfl, zz_Bi (by rw [ht]; exact hP) (va_K.moved hW.alike hK) (hD)⟩, hS.F ht⟩) hS.2.2 dX10_count_130
  have hf := za_f hf hc8
  by_cases hc9 : p1 = (9 : Int32)
  · have hf := za_t hf hc9
    refine lv_tableIn (tgt := 131) (off := 130) (pc := 1) hx hb dX10_count_1 (by rw [hc9]; decide) (by rw [hc9]; decide) (by rw [hc9]; decide) rfl ?_
    refine lv_aload_n (pc := 131) hx hb dX10_count_131 rfl (lv_at hl 0 rfl) ?_
    refine va_get (pc := 132) (D := (dC, dI)) (ci := 11) (v := .ref a_c) (C := RX10) (T := TX10) (N := 18) hx hb ht zq_layX10 hown hK hP 0 rfl rfl 2 (by decide) (ht _ zq_597) (fun _ h9 => h9) rfl dX10_count_132 ?_
    refine va_get (pc := 135) (D := (dC, dI)) (ci := 1) (v := .int f_c_lines) (C := RX0) (T := TX0) (N := 17) hx hb ht zq_layX0 hown hK hP 1 rfl rfl 10 (by decide) (ht _ zq_674) (fun _ h9 => h9) rfl dX10_count_135 ?_
    obtain rfl := Option.some.inj hf
    exact W.iret (pc := 138) hx hb hr (fun t ht hW => ⟨⟨_, (), rfl, rfl, zz_Bi (by rw [ht]; exact hP) (va_K.moved hW.alike hK) (hD)⟩, hS.F ht⟩) hS.2.2 dX10_count_138
  have hf := za_f hf hc9
  refine lv_tableOut (tgt := 139) (pc := 1) hx hb dX10_count_1 (by have q0 := lv_neT (a := 0) hc0 (by decide); have q1 := lv_neT (a := 1) hc1 (by decide); have q2 := lv_neT (a := 2) hc2 (by decide); have q3 := lv_neT (a := 3) hc3 (by decide); have q4 := lv_neT (a := 4) hc4 (by decide); have q5 := lv_neT (a := 5) hc5 (by decide); have q6 := lv_neT (a := 6) hc6 (by decide); have q7 := lv_neT (a := 7) hc7 (by decide); have q8 := lv_neT (a := 8) hc8 (by decide); have q9 := lv_neT (a := 9) hc9 (by decide); omega) rfl ?_
  refine lv_iconst (v := (-1 : Int32)) (pc := 139) hx hb dX10_count_139 (by decide) ?_
  obtain rfl := Option.some.inj hf
  exact W.iret (pc := 140) hx hb hr (fun t ht hW => ⟨⟨_, (), rfl, rfl, zz_Bi (by rw [ht]; exact hP) (va_K.moved hW.alike hK) (hD)⟩, hS.F ht⟩) hS.2.2 dX10_count_140
