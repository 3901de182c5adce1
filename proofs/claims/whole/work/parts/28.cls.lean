def zb_X8_likeliest_36 (v2 : Int32) (a8 : (Nat → Int32)) (b_k1 : (Nat → Int64)) (a7 : (Nat → Int32)) (p1 : Int32) (f_c_slips : Int32) (v9 : Int64) (v10 : Int32) (v11 : Int32) : Option (Nat × Int64 × Int32 × Int32) :=
  if v2 ≤ v10 then
    some (1, v9, v10, v11)
  else
    zd_1 (za_ld a8 9 v10) (fun v12 =>
    zd_1 (za_ld b_k1 2880 v12) (fun v13 =>
    zd_1 (some (((10 : Int64) * v13))) (fun v14 =>
    zd_1 (za_ld a7 9 v10) (fun v15 =>
    zd_1 (
      if v15 = (1 : Int32) then
        zd_1 (zf_X8_slipped p1 v12) (fun v16 =>
        zd_1 (za_ld b_k1 2880 v16) (fun v17 =>
        zd_1 (za_ld b_k1 2880 v12) (fun v18 =>
        zd_1 (some ((((Int32.toInt64 f_c_slips) * v17) + ((Int32.toInt64 ((10 : Int32) - f_c_slips)) * v18)))) (fun v19 =>
        some v19))))
      else
        some v14) (fun v20 =>
    zd_2 (
      if (lg_cmp v20 v9) ≤ 0 then
        some (v9, v11)
      else
        zd_1 (za_ld a7 9 v10) (fun v21 =>
        some (v20, v21))) (fun v22 v23 =>
    zd_1 (some (v10 + (1 : Int32))) (fun v24 =>
    some (0, v22, v24, v23))))))))
def zf_X8_likeliest (n : Nat) (f_o_rung : Int32) (f_o_whole : Int64) (f_o_firstDeed : Int32) (f_c_top : Int32) (f_c_things : Int32) (f_c_slips : Int32) (f_c_tiresFrom : Int32) (f_c_tiresTo : Int32) (f_c_mayFrom : Int32) (f_c_mayTo : Int32) (b_c_bars : (Nat → Int32)) (b_c_gives : (Nat → Int32)) (b_c_rough : (Nat → Int32)) (b_c_code : (Nat → Int32)) (f_m_found : Int32) (f_w_wind : Int32) (b_w_told : (Nat → Int32)) (b_w_facts : (Nat → Int32)) (b_w_stack : (Nat → Int32)) (b_m_deeds : (Nat → Int32)) (b_m_ends : (Nat → Int32)) (b_k1 : (Nat → Int64)) (p1 : Int32) : Option (Int64 × Int32 × Int32 × (Nat → Int32) × (Nat → Int32) × (Nat → Int32) × (Nat → Int32) × (Nat → Int32)) :=
  zd_1 (zf_X10_rungOf p1) (fun v1 =>
  if v1 = f_o_rung then
    some (f_o_whole, (-1 : Int32), f_m_found, b_w_told, b_w_facts, b_w_stack, b_m_deeds, b_m_ends)
  else
    zd_7 (zf_X3_gather n f_m_found f_c_top f_c_things f_c_tiresFrom f_c_tiresTo f_c_mayFrom f_c_mayTo b_c_bars b_c_gives b_c_rough b_c_code f_w_wind b_w_told b_w_facts b_w_stack b_m_deeds b_m_ends p1) (fun v2 v3 a4 a5 a6 a7 a8 =>
    zd_4 (za_it (fun v => zb_X8_likeliest_36 v2 a8 b_k1 a7 p1 f_c_slips v.1 v.2.1 v.2.2) n ((0 : Int64), (0 : Int32), (-1 : Int32))) (fun g28 v25 v26 v27 =>
    some (v25, v27, v3, a4, a5, a6, a7, a8))))
theorem zk_X8_likeliest : yX8_likeliest.cls = RX8 ∧ yX8_likeliest.cls ≠ "java/lang/invoke/MethodHandle" ∧ yX8_likeliest.cls ≠ "java/lang/invoke/VarHandle" ∧ (parseMethodDescriptor yX8_likeliest.desc).map (fun d => d.parameters.length) = some 1 := by decide +kernel
set_option maxHeartbeats 4000000 in
set_option maxRecDepth 100000 in
theorem zt_X8_likeliest (l : Launch) (dC : Nat → ClassId) (dI : Nat → Nat → Nat) (dA : Nat → ClassId) (adK adV : Nat → Nat) (sz : Nat) (a_o : Nat) (a_c : Nat) (a_m : Nat) (a_ord : Nat) (a_dep : Nat) (a_k1 : Nat) (a_k2 : Nat) (a_c_bars : Nat) (a_c_gives : Nat) (a_c_rough : Nat) (a_c_code : Nat) (a_w : Nat) (a_m_deeds : Nat) (a_m_ends : Nat) (a_w_told : Nat) (a_w_facts : Nat) (a_w_stack : Nat) (n : Nat) (f_o_size : Int32) (f_o_rung : Int32) (f_o_whole : Int64) (f_o_result : Int64) (f_o_firstDeed : Int32) (f_c_top : Int32) (f_c_things : Int32) (f_c_startRung : Int32) (f_c_startThings : Int32) (f_c_startStrength : Int32) (f_c_startWind : Int32) (f_c_slips : Int32) (f_c_lines : Int32) (f_c_coded : Int32) (f_c_tiresFrom : Int32) (f_c_tiresTo : Int32) (f_c_mayFrom : Int32) (f_c_mayTo : Int32) (f_m_found : Int32) (f_w_wind : Int32) (b_c_bars : (Nat → Int32)) (b_c_gives : (Nat → Int32)) (b_c_rough : (Nat → Int32)) (b_c_code : (Nat → Int32)) (b_w_told : (Nat → Int32)) (b_w_facts : (Nat → Int32)) (b_w_stack : (Nat → Int32)) (b_m_deeds : (Nat → Int32)) (b_m_ends : (Nat → Int32)) (b_k1 : (Nat → Int64)) (p1 : Int32) (r0 : Int64) (o1 : Int32) (o2 : Int32) (o3 : (Nat → Int32)) (o4 : (Nat → Int32)) (o5 : (Nat → Int32)) (o6 : (Nat → Int32)) (o7 : (Nat → Int32)) (hf : zf_X8_likeliest n f_o_rung f_o_whole f_o_firstDeed f_c_top f_c_things f_c_slips f_c_tiresFrom f_c_tiresTo f_c_mayFrom f_c_mayTo b_c_bars b_c_gives b_c_rough b_c_code f_m_found f_w_wind b_w_told b_w_facts b_w_stack b_m_deeds b_m_ends b_k1 p1 = some (r0, o1, o2, o3, o4, o5, o6, o7)) : Met l yX8_likeliest (.code yX8_likeliest cX8_likeliest 11 (some .long) :: zq_T) ({ frames := 5, cells := 0, slots := 0, locals := 152 }) (va_Pc [.ref a_o, .int p1] (zx_M dC dI dA adK adV [zo_X8 a_o a_c a_m a_ord a_dep f_o_size a_k1 a_k2 f_o_rung f_o_whole f_o_result f_o_firstDeed, zo_X0 a_c f_c_top f_c_things a_c_bars a_c_gives a_c_rough f_c_startRung f_c_startThings f_c_startStrength f_c_startWind f_c_slips f_c_lines a_c_code f_c_coded f_c_tiresFrom f_c_tiresTo f_c_mayFrom f_c_mayTo, (a_c_bars, .inl (dA 0, 9, .inl b_c_bars)), (a_c_gives, .inl (dA 0, 9, .inl b_c_gives)), (a_c_rough, .inl (dA 0, 9, .inl b_c_rough)), (a_c_code, .inl (dA 0, 900, .inl b_c_code)), zo_X3 a_m a_c a_w a_m_deeds a_m_ends f_m_found, zo_X2 a_w a_c a_w_told a_w_facts a_w_stack f_w_wind, (a_w_told, .inl (dA 0, 315, .inl b_w_told)), (a_w_facts, .inl (dA 0, 6, .inl b_w_facts)), (a_w_stack, .inl (dA 0, 64, .inl b_w_stack)), (a_m_deeds, .inl (dA 0, 9, .inl b_m_deeds)), (a_m_ends, .inl (dA 0, 9, .inl b_m_ends)), (a_k1, .inl (dA 1, 2880, .inr (.inl b_k1)))] sz)) (va_Ql (fun (r : Int64) (_ : Unit) => r = r0) (fun _ t => zz_B dC dI dA (va_A [zo_X8 a_o a_c a_m a_ord a_dep f_o_size a_k1 a_k2 f_o_rung f_o_whole f_o_result f_o_firstDeed, zo_X0 a_c f_c_top f_c_things a_c_bars a_c_gives a_c_rough f_c_startRung f_c_startThings f_c_startStrength f_c_startWind f_c_slips f_c_lines a_c_code f_c_coded f_c_tiresFrom f_c_tiresTo f_c_mayFrom f_c_mayTo, (a_c_bars, .inl (dA 0, 9, .inl b_c_bars)), (a_c_gives, .inl (dA 0, 9, .inl b_c_gives)), (a_c_rough, .inl (dA 0, 9, .inl b_c_rough)), (a_c_code, .inl (dA 0, 900, .inl b_c_code)), zo_X3 a_m a_c a_w a_m_deeds a_m_ends f_m_found, zo_X2 a_w a_c a_w_told a_w_facts a_w_stack f_w_wind, (a_w_told, .inl (dA 0, 315, .inl b_w_told)), (a_w_facts, .inl (dA 0, 6, .inl b_w_facts)), (a_w_stack, .inl (dA 0, 64, .inl b_w_stack)), (a_m_deeds, .inl (dA 0, 9, .inl b_m_deeds)), (a_m_ends, .inl (dA 0, 9, .inl b_m_ends)), (a_k1, .inl (dA 1, 2880, .inr (.inl b_k1)))] sz) [zo_X8 a_o a_c a_m a_ord a_dep f_o_size a_k1 a_k2 f_o_rung f_o_whole f_o_result o1, zo_X0 a_c f_c_top f_c_things a_c_bars a_c_gives a_c_rough f_c_startRung f_c_startThings f_c_startStrength f_c_startWind f_c_slips f_c_lines a_c_code f_c_coded f_c_tiresFrom f_c_tiresTo f_c_mayFrom f_c_mayTo, (a_c_bars, .inl (dA 0, 9, .inl b_c_bars)), (a_c_gives, .inl (dA 0, 9, .inl b_c_gives)), (a_c_rough, .inl (dA 0, 9, .inl b_c_rough)), (a_c_code, .inl (dA 0, 900, .inl b_c_code)), zo_X3 a_m a_c a_w a_m_deeds a_m_ends o2, zo_X2 a_w a_c a_w_told a_w_facts a_w_stack f_w_wind, (a_w_told, .inl (dA 0, 315, .inl o3)), (a_w_facts, .inl (dA 0, 6, .inl o4)), (a_w_stack, .inl (dA 0, 64, .inl o5)), (a_m_deeds, .inl (dA 0, 9, .inl o6)), (a_m_ends, .inl (dA 0, 9, .inl o7)), (a_k1, .inl (dA 1, 2880, .inr (.inl b_k1)))] t) (va_A [zo_X8 a_o a_c a_m a_ord a_dep f_o_size a_k1 a_k2 f_o_rung f_o_whole f_o_result f_o_firstDeed, zo_X0 a_c f_c_top f_c_things a_c_bars a_c_gives a_c_rough f_c_startRung f_c_startThings f_c_startStrength f_c_startWind f_c_slips f_c_lines a_c_code f_c_coded f_c_tiresFrom f_c_tiresTo f_c_mayFrom f_c_mayTo, (a_c_bars, .inl (dA 0, 9, .inl b_c_bars)), (a_c_gives, .inl (dA 0, 9, .inl b_c_gives)), (a_c_rough, .inl (dA 0, 9, .inl b_c_rough)), (a_c_code, .inl (dA 0, 900, .inl b_c_code)), zo_X3 a_m a_c a_w a_m_deeds a_m_ends f_m_found, zo_X2 a_w a_c a_w_told a_w_facts a_w_stack f_w_wind, (a_w_told, .inl (dA 0, 315, .inl b_w_told)), (a_w_facts, .inl (dA 0, 6, .inl b_w_facts)), (a_w_stack, .inl (dA 0, 64, .inl b_w_stack)), (a_m_deeds, .inl (dA 0, 9, .inl b_m_deeds)), (a_m_ends, .inl (dA 0, 9, .inl b_m_ends)), (a_k1, .inl (dA 1, 2880, .inr (.inl b_k1)))] sz)) 0 0 (va_A [zo_X8 a_o a_c a_m a_ord a_dep f_o_size a_k1 a_k2 f_o_rung f_o_whole f_o_result f_o_firstDeed, zo_X0 a_c f_c_top f_c_things a_c_bars a_c_gives a_c_rough f_c_startRung f_c_startThings f_c_startStrength f_c_startWind f_c_slips f_c_lines a_c_code f_c_coded f_c_tiresFrom f_c_tiresTo f_c_mayFrom f_c_mayTo, (a_c_bars, .inl (dA 0, 9, .inl b_c_bars)), (a_c_gives, .inl (dA 0, 9, .inl b_c_gives)), (a_c_rough, .inl (dA 0, 9, .inl b_c_rough)), (a_c_code, .inl (dA 0, 900, .inl b_c_code)), zo_X3 a_m a_c a_w a_m_deeds a_m_ends f_m_found, zo_X2 a_w a_c a_w_told a_w_facts a_w_stack f_w_wind, (a_w_told, .inl (dA 0, 315, .inl b_w_told)), (a_w_facts, .inl (dA 0, 6, .inl b_w_facts)), (a_w_stack, .inl (dA 0, 64, .inl b_w_stack)), (a_m_deeds, .inl (dA 0, 9, .inl b_m_deeds)), (a_m_ends, .inl (dA 0, 9, .inl b_m_ends)), (a_k1, .inl (dA 1, 2880, .inr (.inl b_k1)))] sz) := by
  unfold zf_X8_likeliest at hf
  refine Met.ofW (cc := cX8_likeliest) (maxL := 11) (ret := (some .long)) (by decide) rfl ?_
  intro p e s m args below meth c s₁ B hml hv
  obtain ⟨rfl, ⟨hsz, hP, hK, hD0⟩, hZ⟩ := hv
  have hx := B.exec
  have hb := B.bytes
  have hr := B.returns
  have ht : ∀ w ∈ zq_T, w.before ([.ref a_o, .int p1] : List Value).toArray s = true := fun w hw => atoms_spec (ws := .code yX8_likeliest cX8_likeliest 11 (some .long) :: zq_T) B.pre w (List.mem_cons_of_mem _ hw)
  have hown : s.vm.findClass RX8 = some m.cls := findClass_of_methodNamed B.named
  have hlocks := B.notSynchronized
  subst hsz
  have hD := hD0.self (sz := s.heap.size)
  generalize hAe : va_A [zo_X8 a_o a_c a_m a_ord a_dep f_o_size a_k1 a_k2 f_o_rung f_o_whole f_o_result f_o_firstDeed, zo_X0 a_c f_c_top f_c_things a_c_bars a_c_gives a_c_rough f_c_startRung f_c_startThings f_c_startStrength f_c_startWind f_c_slips f_c_lines a_c_code f_c_coded f_c_tiresFrom f_c_tiresTo f_c_mayFrom f_c_mayTo, (a_c_bars, .inl (dA 0, 9, .inl b_c_bars)), (a_c_gives, .inl (dA 0, 9, .inl b_c_gives)), (a_c_rough, .inl (dA 0, 9, .inl b_c_rough)), (a_c_code, .inl (dA 0, 900, .inl b_c_code)), zo_X3 a_m a_c a_w a_m_deeds a_m_ends f_m_found, zo_X2 a_w a_c a_w_told a_w_facts a_w_stack f_w_wind, (a_w_told, .inl (dA 0, 315, .inl b_w_told)), (a_w_facts, .inl (dA 0, 6, .inl b_w_facts)), (a_w_stack, .inl (dA 0, 64, .inl b_w_stack)), (a_m_deeds, .inl (dA 0, 9, .inl b_m_deeds)), (a_m_ends, .inl (dA 0, 9, .inl b_m_ends)), (a_k1, .inl (dA 1, 2880, .inr (.inl b_k1)))] s.heap.size = A at hD hZ ⊢
  have hA : ∀ q : Nat, s.heap.size ≤ q → A q := fun q h => by rw [← hAe]; exact Or.inr h
  clear hAe hD0
  have hS : va_S A s.heap s.heap [] := va_S.rf
  have hl := lv_entry ([.ref a_o, .int p1]) (n := 11) (Nat.le_of_ble_eq_true rfl)
  rw [lg_entry_eq]
  generalize (lg_sl ([.ref a_o, .int p1]) ++ List.replicate (11 - (lg_sl ([.ref a_o, .int p1])).length) Slot.unset).toArray = ls at hl ⊢
  have hl : lv_has ls 11 [(0, .ref a_o), (1, .int p1)] := hl
  refine lv_aload_n (pc := 0) hx hb dX8_likeliest_0 rfl (lv_at hl 0 rfl) ?_
  refine lv_iconst (v := (-1 : Int32)) (pc := 1) hx hb dX8_likeliest_1 (by decide) ?_
  refine va_put (pc := 2) (D := (dC, dI)) (ci := 9) (v := .int (-1 : Int32)) (ty := .int) (C := RX8) (T := TX8) (N := 11) hx hb ht zq_layX8 tyX8 tyX8_ok nmX8 hown hK hP hD hS 0 rfl rfl 10 (by decide) (ht _ zq_534) (fun _ h9 => h9) rfl (by decide +kernel) rfl rfl (Nat.le_of_ble_eq_true rfl) dX8_likeliest_2 (fun H locs hP hD hS => ?_)
  have hP : va_P (dC, dI) zz_cls [zo_X8 a_o a_c a_m a_ord a_dep f_o_size a_k1 a_k2 f_o_rung f_o_whole f_o_result (-1 : Int32), zo_X0 a_c f_c_top f_c_things a_c_bars a_c_gives a_c_rough f_c_startRung f_c_startThings f_c_startStrength f_c_startWind f_c_slips f_c_lines a_c_code f_c_coded f_c_tiresFrom f_c_tiresTo f_c_mayFrom f_c_mayTo, (a_c_bars, .inl (dA 0, 9, .inl b_c_bars)), (a_c_gives, .inl (dA 0, 9, .inl b_c_gives)), (a_c_rough, .inl (dA 0, 9, .inl b_c_rough)), (a_c_code, .inl (dA 0, 900, .inl b_c_code)), zo_X3 a_m a_c a_w a_m_deeds a_m_ends f_m_found, zo_X2 a_w a_c a_w_told a_w_facts a_w_stack f_w_wind, (a_w_told, .inl (dA 0, 315, .inl b_w_told)), (a_w_facts, .inl (dA 0, 6, .inl b_w_facts)), (a_w_stack, .inl (dA 0, 64, .inl b_w_stack)), (a_m_deeds, .inl (dA 0, 9, .inl b_m_deeds)), (a_m_ends, .inl (dA 0, 9, .inl b_m_ends)), (a_k1, .inl (dA 1, 2880, .inr (.inl b_k1)))] H := hP
  have hD : va_D A [zo_X8 a_o a_c a_m a_ord a_dep f_o_size a_k1 a_k2 f_o_rung f_o_whole f_o_result (-1 : Int32), zo_X0 a_c f_c_top f_c_things a_c_bars a_c_gives a_c_rough f_c_startRung f_c_startThings f_c_startStrength f_c_startWind f_c_slips f_c_lines a_c_code f_c_coded f_c_tiresFrom f_c_tiresTo f_c_mayFrom f_c_mayTo, (a_c_bars, .inl (dA 0, 9, .inl b_c_bars)), (a_c_gives, .inl (dA 0, 9, .inl b_c_gives)), (a_c_rough, .inl (dA 0, 9, .inl b_c_rough)), (a_c_code, .inl (dA 0, 900, .inl b_c_code)), zo_X3 a_m a_c a_w a_m_deeds a_m_ends f_m_found, zo_X2 a_w a_c a_w_told a_w_facts a_w_stack f_w_wind, (a_w_told, .inl (dA 0, 315, .inl b_w_told)), (a_w_facts, .inl (dA 0, 6, .inl b_w_facts)), (a_w_stack, .inl (dA 0, 64, .inl b_w_stack)), (a_m_deeds, .inl (dA 0, 9, .inl b_m_deeds)), (a_m_ends, .inl (dA 0, 9, .inl b_m_ends)), (a_k1, .inl (dA 1, 2880, .inr (.inl b_k1)))] := hD
  refine lv_iload_n (pc := 5) hx hb dX8_likeliest_5 rfl (lv_at hl 1 rfl) ?_
  obtain ⟨v1, hv1, hf⟩ := zc_1 hf
  refine zx_Ni (pc := 6) (wc := []) (wr := [zo_X8 a_o a_c a_m a_ord a_dep f_o_size a_k1 a_k2 f_o_rung f_o_whole f_o_result (-1 : Int32), zo_X0 a_c f_c_top f_c_things a_c_bars a_c_gives a_c_rough f_c_startRung f_c_startThings f_c_startStrength f_c_startWind f_c_slips f_c_lines a_c_code f_c_coded f_c_tiresFrom f_c_tiresTo f_c_mayFrom f_c_mayTo, (a_c_bars, .inl (dA 0, 9, .inl b_c_bars)), (a_c_gives, .inl (dA 0, 9, .inl b_c_gives)), (a_c_rough, .inl (dA 0, 9, .inl b_c_rough)), (a_c_code, .inl (dA 0, 900, .inl b_c_code)), zo_X3 a_m a_c a_w a_m_deeds a_m_ends f_m_found, zo_X2 a_w a_c a_w_told a_w_facts a_w_stack f_w_wind, (a_w_told, .inl (dA 0, 315, .inl b_w_told)), (a_w_facts, .inl (dA 0, 6, .inl b_w_facts)), (a_w_stack, .inl (dA 0, 64, .inl b_w_stack)), (a_m_deeds, .inl (dA 0, 9, .inl b_m_deeds)), (a_m_ends, .inl (dA 0, 9, .inl b_m_ends)), (a_k1, .inl (dA 1, 2880, .inr (.inl b_k1)))]) (w1 := []) (As := [.int p1]) (rest := []) ⟨hx, hb, hml, hown, ht⟩ (zt_X10_rungOf l dC dI dA adK adV _ p1 v1 hv1) ⟨va_cnB 1 ht (zq_C zq_59) rfl rfl rfl (hZ.nest 14 rfl) (ht _ zq_58) zk_X10_rungOf.2 ⟨Nat.le_of_ble_eq_true rfl, Nat.le_of_ble_eq_true rfl⟩, ht _ zq_57, trivial⟩ hZ hK hP hD hS hA [] [0, 1, 2, 3, 4, 5, 6, 7, 8, 9, 10, 11, 12, 13] (by decide) (by decide) (by decide) rfl rfl rfl hl.1 (Nat.le_of_ble_eq_true rfl) dX8_likeliest_6 ⟨Nat.zero_le _, Nat.zero_le _⟩ rfl (fun H locs hP hD hS => ?_)
  have hP : va_P (dC, dI) zz_cls [zo_X8 a_o a_c a_m a_ord a_dep f_o_size a_k1 a_k2 f_o_rung f_o_whole f_o_result (-1 : Int32), zo_X0 a_c f_c_top f_c_things a_c_bars a_c_gives a_c_rough f_c_startRung f_c_startThings f_c_startStrength f_c_startWind f_c_slips f_c_lines a_c_code f_c_coded f_c_tiresFrom f_c_tiresTo f_c_mayFrom f_c_mayTo, (a_c_bars, .inl (dA 0, 9, .inl b_c_bars)), (a_c_gives, .inl (dA 0, 9, .inl b_c_gives)), (a_c_rough, .inl (dA 0, 9, .inl b_c_rough)), (a_c_code, .inl (dA 0, 900, .inl b_c_code)), zo_X3 a_m a_c a_w a_m_deeds a_m_ends f_m_found, zo_X2 a_w a_c a_w_told a_w_facts a_w_stack f_w_wind, (a_w_told, .inl (dA 0, 315, .inl b_w_told)), (a_w_facts, .inl (dA 0, 6, .inl b_w_facts)), (a_w_stack, .inl (dA 0, 64, .inl b_w_stack)), (a_m_deeds, .inl (dA 0, 9, .inl b_m_deeds)), (a_m_ends, .inl (dA 0, 9, .inl b_m_ends)), (a_k1, .inl (dA 1, 2880, .inr (.inl b_k1)))] H := hP
  have hD : va_D A [zo_X8 a_o a_c a_m a_ord a_dep f_o_size a_k1 a_k2 f_o_rung f_o_whole f_o_result (-1 : Int32), zo_X0 a_c f_c_top f_c_things a_c_bars a_c_gives a_c_rough f_c_startRung f_c_startThings f_c_startStrength f_c_startWind f_c_slips f_c_lines a_c_code f_c_coded f_c_tiresFrom f_c_tiresTo f_c_mayFrom f_c_mayTo, (a_c_bars, .inl (dA 0, 9, .inl b_c_bars)), (a_c_gives, .inl (dA 0, 9, .inl b_c_gives)), (a_c_rough, .inl (dA 0, 9, .inl b_c_rough)), (a_c_code, .inl (dA 0, 900, .inl b_c_code)), zo_X3 a_m a_c a_w a_m_deeds a_m_ends f_m_found, zo_X2 a_w a_c a_w_told a_w_facts a_w_stack f_w_wind, (a_w_told, .inl (dA 0, 315, .inl b_w_told)), (a_w_facts, .inl (dA 0, 6, .inl b_w_facts)), (a_w_stack, .inl (dA 0, 64, .inl b_w_stack)), (a_m_deeds, .inl (dA 0, 9, .inl b_m_deeds)), (a_m_ends, .inl (dA 0, 9, .inl b_m_ends)), (a_k1, .inl (dA 1, 2880, .inr (.inl b_k1)))] := hD
  refine lv_aload_n (pc := 9) hx hb dX8_likeliest_9 rfl (lv_at hl 0 rfl) ?_
  refine va_get (pc := 10) (D := (dC, dI)) (ci := 9) (v := .int f_o_rung) (C := RX8) (T := TX8) (N := 11) hx hb ht zq_layX8 hown hK hP 0 rfl rfl 7 (by decide) (ht _ zq_531) (fun _ h9 => h9) rfl dX8_likeliest_10 ?_
  refine lv_icmp_ne (tgt := 21) (pc := 13) hx hb dX8_likeliest_13 rfl (fun hc => ?_) (fun hc => ?_)
  · have hf := za_f hf hc
    refine lv_lconst (v := (0 : Int64)) (pc := 21) hx hb dX8_likeliest_21 (by decide) ?_
    refine lv_lstore_n (lv' := [(2, .long (0 : Int64)), (0, .ref a_o), (1, .int p1)]) (pc := 22) hx hb dX8_likeliest_22 rfl hl (by decide) rfl (fun ls hl => ?_)
    refine lv_aload_n (pc := 23) hx hb dX8_likeliest_23 rfl (lv_at hl 1 rfl) ?_
    refine va_get (pc := 24) (D := (dC, dI)) (ci := 9) (v := .ref a_m) (C := RX8) (T := TX8) (N := 11) hx hb ht zq_layX8 hown hK hP 0 rfl rfl 1 (by decide) (ht _ zq_536) (fun _ h9 => h9) rfl dX8_likeliest_24 ?_
    refine lv_iload_n (pc := 27) hx hb dX8_likeliest_27 rfl (lv_at hl 2 rfl) ?_
    obtain ⟨v2, v3, a4, a5, a6, a7, a8, hv2, hf⟩ := zc_7 hf
    refine zx_Vi (pc := 28) (wc := [zo_X3 a_m a_c a_w a_m_deeds a_m_ends f_m_found, zo_X0 a_c f_c_top f_c_things a_c_bars a_c_gives a_c_rough f_c_startRung f_c_startThings f_c_startStrength f_c_startWind f_c_slips f_c_lines a_c_code f_c_coded f_c_tiresFrom f_c_tiresTo f_c_mayFrom f_c_mayTo, (a_c_bars, .inl (dA 0, 9, .inl b_c_bars)), (a_c_gives, .inl (dA 0, 9, .inl b_c_gives)), (a_c_rough, .inl (dA 0, 9, .inl b_c_rough)), (a_c_code, .inl (dA 0, 900, .inl b_c_code)), zo_X2 a_w a_c a_w_told a_w_facts a_w_stack f_w_wind, (a_w_told, .inl (dA 0, 315, .inl b_w_told)), (a_w_facts, .inl (dA 0, 6, .inl b_w_facts)), (a_w_stack, .inl (dA 0, 64, .inl b_w_stack)), (a_m_deeds, .inl (dA 0, 9, .inl b_m_deeds)), (a_m_ends, .inl (dA 0, 9, .inl b_m_ends))]) (wr := [zo_X8 a_o a_c a_m a_ord a_dep f_o_size a_k1 a_k2 f_o_rung f_o_whole f_o_result (-1 : Int32), (a_k1, .inl (dA 1, 2880, .inr (.inl b_k1)))]) (w1 := [zo_X3 a_m a_c a_w a_m_deeds a_m_ends v3, zo_X0 a_c f_c_top f_c_things a_c_bars a_c_gives a_c_rough f_c_startRung f_c_startThings f_c_startStrength f_c_startWind f_c_slips f_c_lines a_c_code f_c_coded f_c_tiresFrom f_c_tiresTo f_c_mayFrom f_c_mayTo, (a_c_bars, .inl (dA 0, 9, .inl b_c_bars)), (a_c_gives, .inl (dA 0, 9, .inl b_c_gives)), (a_c_rough, .inl (dA 0, 9, .inl b_c_rough)), (a_c_code, .inl (dA 0, 900, .inl b_c_code)), zo_X2 a_w a_c a_w_told a_w_facts a_w_stack f_w_wind, (a_w_told, .inl (dA 0, 315, .inl a4)), (a_w_facts, .inl (dA 0, 6, .inl a5)), (a_w_stack, .inl (dA 0, 64, .inl a6)), (a_m_deeds, .inl (dA 0, 9, .inl a7)), (a_m_ends, .inl (dA 0, 9, .inl a8))]) (As := [.int p1]) (rest := []) ⟨hx, hb, hml, hown, ht⟩ (zt_X3_gather l dC dI dA adK adV _ a_m a_c a_w a_m_deeds a_m_ends a_c_bars a_c_gives a_c_rough a_c_code a_w_told a_w_facts a_w_stack n f_m_found f_c_top f_c_things f_c_startRung f_c_startThings f_c_startStrength f_c_startWind f_c_slips f_c_lines f_c_coded f_c_tiresFrom f_c_tiresTo f_c_mayFrom f_c_mayTo f_w_wind b_c_bars b_c_gives b_c_rough b_c_code b_w_told b_w_facts b_w_stack b_m_deeds b_m_ends p1 v2 v3 a4 a5 a6 a7 a8 hv2) (cwV 1 ht (zq_V zq_545 zq_48 zq_49 zq_50 zq_51) rfl rfl rfl zk_X3_gather ⟨Nat.le_of_ble_eq_true rfl, Nat.le_of_ble_eq_true rfl⟩) rfl rfl hZ hK hP hD hS hA [6, 1, 2, 3, 4, 5, 7, 8, 9, 10, 11, 12] [0, 13] (by decide) (by decide) (by decide) rfl rfl rfl hl.1 (Nat.le_of_ble_eq_true rfl) dX8_likeliest_28 ⟨Nat.zero_le _, Nat.zero_le _⟩ rfl (fun H locs hP hD hS => ?_)
    have hP : va_P (dC, dI) zz_cls [zo_X8 a_o a_c a_m a_ord a_dep f_o_size a_k1 a_k2 f_o_rung f_o_whole f_o_result (-1 : Int32), (a_k1, .inl (dA 1, 2880, .inr (.inl b_k1))), zo_X3 a_m a_c a_w a_m_deeds a_m_ends v3, zo_X0 a_c f_c_top f_c_things a_c_bars a_c_gives a_c_rough f_c_startRung f_c_startThings f_c_startStrength f_c_startWind f_c_slips f_c_lines a_c_code f_c_coded f_c_tiresFrom f_c_tiresTo f_c_mayFrom f_c_mayTo, (a_c_bars, .inl (dA 0, 9, .inl b_c_bars)), (a_c_gives, .inl (dA 0, 9, .inl b_c_gives)), (a_c_rough, .inl (dA 0, 9, .inl b_c_rough)), (a_c_code, .inl (dA 0, 900, .inl b_c_code)), zo_X2 a_w a_c a_w_told a_w_facts a_w_stack f_w_wind, (a_w_told, .inl (dA 0, 315, .inl a4)), (a_w_facts, .inl (dA 0, 6, .inl a5)), (a_w_stack, .inl (dA 0, 64, .inl a6)), (a_m_deeds, .inl (dA 0, 9, .inl a7)), (a_m_ends, .inl (dA 0, 9, .inl a8))] H := hP
    have hD : va_D A [zo_X8 a_o a_c a_m a_ord a_dep f_o_size a_k1 a_k2 f_o_rung f_o_whole f_o_result (-1 : Int32), (a_k1, .inl (dA 1, 2880, .inr (.inl b_k1))), zo_X3 a_m a_c a_w a_m_deeds a_m_ends v3, zo_X0 a_c f_c_top f_c_things a_c_bars a_c_gives a_c_rough f_c_startRung f_c_startThings f_c_startStrength f_c_startWind f_c_slips f_c_lines a_c_code f_c_coded f_c_tiresFrom f_c_tiresTo f_c_mayFrom f_c_mayTo, (a_c_bars, .inl (dA 0, 9, .inl b_c_bars)), (a_c_gives, .inl (dA 0, 9, .inl b_c_gives)), (a_c_rough, .inl (dA 0, 9, .inl b_c_rough)), (a_c_code, .inl (dA 0, 900, .inl b_c_code)), zo_X2 a_w a_c a_w_told a_w_facts a_w_stack f_w_wind, (a_w_told, .inl (dA 0, 315, .inl a4)), (a_w_facts, .inl (dA 0, 6, .inl a5)), (a_w_stack, .inl (dA 0, 64, .inl a6)), (a_m_deeds, .inl (dA 0, 9, .inl a7)), (a_m_ends, .inl (dA 0, 9, .inl a8))] := hD
    refine lv_istore (lv' := [(4, .int v2), (2, .long (0 : Int64)), (0, .ref a_o), (1, .int p1)]) (pc := 31) hx hb dX8_likeliest_31 hl (by decide) rfl (fun ls hl => ?_)
    refine lv_iconst (v := (0 : Int32)) (pc := 33) hx hb dX8_likeliest_33 (by decide) ?_
    refine lv_istore (lv' := [(5, .int (0 : Int32)), (4, .int v2), (2, .long (0 : Int64)), (0, .ref a_o), (1, .int p1)]) (pc := 34) hx hb dX8_likeliest_34 hl (by decide) rfl (fun ls hl => ?_)
    obtain ⟨g28, v25, v26, v27, hj, hf⟩ := zc_4 hf
    refine zj_join (pcJ := 158) (stk := []) (X := fun H locs ls => lv_has ls 11 [(2, .long v25)] ∧ va_P (dC, dI) zz_cls [zo_X8 a_o a_c a_m a_ord a_dep f_o_size a_k1 a_k2 f_o_rung f_o_whole f_o_result v27, zo_X0 a_c f_c_top f_c_things a_c_bars a_c_gives a_c_rough f_c_startRung f_c_startThings f_c_startStrength f_c_startWind f_c_slips f_c_lines a_c_code f_c_coded f_c_tiresFrom f_c_tiresTo f_c_mayFrom f_c_mayTo, (a_c_bars, .inl (dA 0, 9, .inl b_c_bars)), (a_c_gives, .inl (dA 0, 9, .inl b_c_gives)), (a_c_rough, .inl (dA 0, 9, .inl b_c_rough)), (a_c_code, .inl (dA 0, 900, .inl b_c_code)), zo_X3 a_m a_c a_w a_m_deeds a_m_ends v3, zo_X2 a_w a_c a_w_told a_w_facts a_w_stack f_w_wind, (a_w_told, .inl (dA 0, 315, .inl a4)), (a_w_facts, .inl (dA 0, 6, .inl a5)), (a_w_stack, .inl (dA 0, 64, .inl a6)), (a_m_deeds, .inl (dA 0, 9, .inl a7)), (a_m_ends, .inl (dA 0, 9, .inl a8)), (a_k1, .inl (dA 1, 2880, .inr (.inl b_k1)))] H ∧ va_D A [zo_X8 a_o a_c a_m a_ord a_dep f_o_size a_k1 a_k2 f_o_rung f_o_whole f_o_result v27, zo_X0 a_c f_c_top f_c_things a_c_bars a_c_gives a_c_rough f_c_startRung f_c_startThings f_c_startStrength f_c_startWind f_c_slips f_c_lines a_c_code f_c_coded f_c_tiresFrom f_c_tiresTo f_c_mayFrom f_c_mayTo, (a_c_bars, .inl (dA 0, 9, .inl b_c_bars)), (a_c_gives, .inl (dA 0, 9, .inl b_c_gives)), (a_c_rough, .inl (dA 0, 9, .inl b_c_rough)), (a_c_code, .inl (dA 0, 900, .inl b_c_code)), zo_X3 a_m a_c a_w a_m_deeds a_m_ends v3, zo_X2 a_w a_c a_w_told a_w_facts a_w_stack f_w_wind, (a_w_told, .inl (dA 0, 315, .inl a4)), (a_w_facts, .inl (dA 0, 6, .inl a5)), (a_w_stack, .inl (dA 0, 64, .inl a6)), (a_m_deeds, .inl (dA 0, 9, .inl a7)), (a_m_ends, .inl (dA 0, 9, .inl a8)), (a_k1, .inl (dA 1, 2880, .inr (.inl b_k1)))] ∧ va_S A s.heap H locs) (fun H locs ls hX => ?_) (fun E158 => ?_)
    · obtain ⟨hl, hP, hD, hS⟩ := hX
      clear hj
      refine lv_lload_n (pc := 158) hx hb dX8_likeliest_158 rfl (lv_at hl 0 rfl) ?_
      obtain ⟨rfl, rfl, rfl, rfl, rfl, rfl, rfl, rfl⟩ := zi_8 hf
      exact W.lret (pc := 159) hx hb hr (fun t ht hW => ⟨⟨_, (), rfl, rfl, zz_Bi (by rw [ht]; exact hP) (va_K.moved hW.alike hK) (hD)⟩, hS.F ht⟩) hS.2.2 dX8_likeliest_159
    clear hf
    refine zw_loop (pcH := 36) (X := fun v H locs ls => lv_has ls 11 [(0, .ref a_o), (1, .int p1), (2, .long v.1), (4, .int v2), (5, .int v.2.1)] ∧ va_P (dC, dI) zz_cls [zo_X8 a_o a_c a_m a_ord a_dep f_o_size a_k1 a_k2 f_o_rung f_o_whole f_o_result v.2.2, zo_X0 a_c f_c_top f_c_things a_c_bars a_c_gives a_c_rough f_c_startRung f_c_startThings f_c_startStrength f_c_startWind f_c_slips f_c_lines a_c_code f_c_coded f_c_tiresFrom f_c_tiresTo f_c_mayFrom f_c_mayTo, (a_c_bars, .inl (dA 0, 9, .inl b_c_bars)), (a_c_gives, .inl (dA 0, 9, .inl b_c_gives)), (a_c_rough, .inl (dA 0, 9, .inl b_c_rough)), (a_c_code, .inl (dA 0, 900, .inl b_c_code)), zo_X3 a_m a_c a_w a_m_deeds a_m_ends v3, zo_X2 a_w a_c a_w_told a_w_facts a_w_stack f_w_wind, (a_w_told, .inl (dA 0, 315, .inl a4)), (a_w_facts, .inl (dA 0, 6, .inl a5)), (a_w_stack, .inl (dA 0, 64, .inl a6)), (a_m_deeds, .inl (dA 0, 9, .inl a7)), (a_m_ends, .inl (dA 0, 9, .inl a8)), (a_k1, .inl (dA 1, 2880, .inr (.inl b_k1)))] H ∧ va_D A [zo_X8 a_o a_c a_m a_ord a_dep f_o_size a_k1 a_k2 f_o_rung f_o_whole f_o_result v.2.2, zo_X0 a_c f_c_top f_c_things a_c_bars a_c_gives a_c_rough f_c_startRung f_c_startThings f_c_startStrength f_c_startWind f_c_slips f_c_lines a_c_code f_c_coded f_c_tiresFrom f_c_tiresTo f_c_mayFrom f_c_mayTo, (a_c_bars, .inl (dA 0, 9, .inl b_c_bars)), (a_c_gives, .inl (dA 0, 9, .inl b_c_gives)), (a_c_rough, .inl (dA 0, 9, .inl b_c_rough)), (a_c_code, .inl (dA 0, 900, .inl b_c_code)), zo_X3 a_m a_c a_w a_m_deeds a_m_ends v3, zo_X2 a_w a_c a_w_told a_w_facts a_w_stack f_w_wind, (a_w_told, .inl (dA 0, 315, .inl a4)), (a_w_facts, .inl (dA 0, 6, .inl a5)), (a_w_stack, .inl (dA 0, 64, .inl a6)), (a_m_deeds, .inl (dA 0, 9, .inl a7)), (a_m_ends, .inl (dA 0, 9, .inl a8)), (a_k1, .inl (dA 1, 2880, .inr (.inl b_k1)))] ∧ va_S A s.heap H locs) hj (fun v w hf ih ex H locs ls hX => ?_) _ _ _ ⟨lv_sub hl [3, 4, 2, 1, 0] rfl, hP.sub [0, 3, 4, 5, 6, 7, 2, 8, 9, 10, 11, 12, 13, 1] rfl, hD.sub [0, 3, 4, 5, 6, 7, 2, 8, 9, 10, 11, 12, 13, 1] (by decide) rfl, hS⟩
    clear hj
    obtain ⟨v9, v10, v11⟩ := v
    obtain ⟨hl, hP, hD, hS⟩ := hX
    have hl : lv_has ls 11 [(0, .ref a_o), (1, .int p1), (2, .long v9), (4, .int v2), (5, .int v10)] := hl
    have hP : va_P (dC, dI) zz_cls [zo_X8 a_o a_c a_m a_ord a_dep f_o_size a_k1 a_k2 f_o_rung f_o_whole f_o_result v11, zo_X0 a_c f_c_top f_c_things a_c_bars a_c_gives a_c_rough f_c_startRung f_c_startThings f_c_startStrength f_c_startWind f_c_slips f_c_lines a_c_code f_c_coded f_c_tiresFrom f_c_tiresTo f_c_mayFrom f_c_mayTo, (a_c_bars, .inl (dA 0, 9, .inl b_c_bars)), (a_c_gives, .inl (dA 0, 9, .inl b_c_gives)), (a_c_rough, .inl (dA 0, 9, .inl b_c_rough)), (a_c_code, .inl (dA 0, 900, .inl b_c_code)), zo_X3 a_m a_c a_w a_m_deeds a_m_ends v3, zo_X2 a_w a_c a_w_told a_w_facts a_w_stack f_w_wind, (a_w_told, .inl (dA 0, 315, .inl a4)), (a_w_facts, .inl (dA 0, 6, .inl a5)), (a_w_stack, .inl (dA 0, 64, .inl a6)), (a_m_deeds, .inl (dA 0, 9, .inl a7)), (a_m_ends, .inl (dA 0, 9, .inl a8)), (a_k1, .inl (dA 1, 2880, .inr (.inl b_k1)))] H := hP
    have hD : va_D A [zo_X8 a_o a_c a_m a_ord a_dep f_o_size a_k1 a_k2 f_o_rung f_o_whole f_o_result v11, zo_X0 a_c f_c_top f_c_things a_c_bars a_c_gives a_c_rough f_c_startRung f_c_startThings f_c_startStrength f_c_startWind f_c_slips f_c_lines a_c_code f_c_coded f_c_tiresFrom f_c_tiresTo f_c_mayFrom f_c_mayTo, (a_c_bars, .inl (dA 0, 9, .inl b_c_bars)), (a_c_gives, .inl (dA 0, 9, .inl b_c_gives)), (a_c_rough, .inl (dA 0, 9, .inl b_c_rough)), (a_c_code, .inl (dA 0, 900, .inl b_c_code)), zo_X3 a_m a_c a_w a_m_deeds a_m_ends v3, zo_X2 a_w a_c a_w_told a_w_facts a_w_stack f_w_wind, (a_w_told, .inl (dA 0, 315, .inl a4)), (a_w_facts, .inl (dA 0, 6, .inl a5)), (a_w_stack, .inl (dA 0, 64, .inl a6)), (a_m_deeds, .inl (dA 0, 9, .inl a7)), (a_m_ends, .inl (dA 0, 9, .inl a8)), (a_k1, .inl (dA 1, 2880, .inr (.inl b_k1)))] := hD
    replace hf : zb_X8_likeliest_36 v2 a8 b_k1 a7 p1 f_c_slips v9 v10 v11 = some w := hf
    unfold zb_X8_likeliest_36 at hf
    refine lv_iload (pc := 36) hx hb dX8_likeliest_36 (lv_at hl 4 rfl) ?_
    refine lv_iload (pc := 38) hx hb dX8_likeliest_38 (lv_at hl 3 rfl) ?_
    refine lv_icmp_ge (tgt := 158) (pc := 40) hx hb dX8_likeliest_40 rfl (fun hc => ?_) (fun hc => ?_)
    · have hf := za_t hf hc
      obtain rfl := Option.some.inj hf
      obtain ⟨rfl, rfl, rfl, rfl⟩ := zp_4 (ex (show ¬ (1 : Nat) = 0 by decide))
      exact E158 _ _ _ ⟨lv_sub hl [2] rfl, hP, hD, hS⟩
    · have hf := za_f hf hc
      refine lv_aload_n (pc := 43) hx hb dX8_likeliest_43 rfl (lv_at hl 0 rfl) ?_
      refine va_get (pc := 44) (D := (dC, dI)) (ci := 9) (v := .ref a_m) (C := RX8) (T := TX8) (N := 11) hx hb ht zq_layX8 hown hK hP 0 rfl rfl 1 (by decide) (ht _ zq_536) (fun _ h9 => h9) rfl dX8_likeliest_44 ?_
      refine va_get (pc := 47) (D := (dC, dI)) (ci := 4) (v := .ref a_m_ends) (C := RX3) (T := TX3) (N := 5) hx hb ht zq_layX3 hown hK hP 6 rfl rfl 3 (by decide) (ht _ zq_543) (fun _ h9 => h9) rfl dX8_likeliest_47 ?_
      refine lv_iload (pc := 50) hx hb dX8_likeliest_50 (lv_at hl 4 rfl) ?_
      obtain ⟨v12, hv12, hf⟩ := zc_1 hf
      refine zw_iald (pc := 52) hx hb hK hP 12 0 rfl rfl hv12 dX8_likeliest_52 ?_
      refine lv_istore (lv' := [(6, .int v12), (0, .ref a_o), (1, .int p1), (2, .long v9), (4, .int v2), (5, .int v10)]) (pc := 53) hx hb dX8_likeliest_53 hl (by decide) rfl (fun ls hl => ?_)
      refine lv_ldc2 (v := (10 : Int64)) (pc := 55) hx hb hown (ht _ zq_558) dX8_likeliest_55 ?_
      refine lv_aload_n (pc := 58) hx hb dX8_likeliest_58 rfl (lv_at hl 1 rfl) ?_
      refine va_get (pc := 59) (D := (dC, dI)) (ci := 9) (v := .ref a_k1) (C := RX8) (T := TX8) (N := 11) hx hb ht zq_layX8 hown hK hP 0 rfl rfl 5 (by decide) (ht _ zq_539) (fun _ h9 => h9) rfl dX8_likeliest_59 ?_
      refine lv_iload (pc := 62) hx hb dX8_likeliest_62 (lv_at hl 0 rfl) ?_
      obtain ⟨v13, hv13, hf⟩ := zc_1 hf
      refine zw_lald (pc := 64) hx hb hK hP 13 1 rfl rfl hv13 dX8_likeliest_64 ?_
      refine lv_lmul (pc := 65) hx hb dX8_likeliest_65 ?_
      obtain ⟨v14, hv14, hf⟩ := zc_1 hf
      refine zw_topl (hv14) ?_
      refine lv_lstore (lv' := [(7, .long v14), (6, .int v12), (0, .ref a_o), (1, .int p1), (2, .long v9), (4, .int v2), (5, .int v10)]) (pc := 66) hx hb dX8_likeliest_66 hl (by decide) rfl (fun ls hl => ?_)
      refine lv_aload_n (pc := 68) hx hb dX8_likeliest_68 rfl (lv_at hl 2 rfl) ?_
      refine va_get (pc := 69) (D := (dC, dI)) (ci := 9) (v := .ref a_m) (C := RX8) (T := TX8) (N := 11) hx hb ht zq_layX8 hown hK hP 0 rfl rfl 1 (by decide) (ht _ zq_536) (fun _ h9 => h9) rfl dX8_likeliest_69 ?_
      refine va_get (pc := 72) (D := (dC, dI)) (ci := 4) (v := .ref a_m_deeds) (C := RX3) (T := TX3) (N := 5) hx hb ht zq_layX3 hown hK hP 6 rfl rfl 2 (by decide) (ht _ zq_544) (fun _ h9 => h9) rfl dX8_likeliest_72 ?_
      refine lv_iload (pc := 75) hx hb dX8_likeliest_75 (lv_at hl 6 rfl) ?_
      obtain ⟨v15, hv15, hf⟩ := zc_1 hf
      refine zw_iald (pc := 77) hx hb hK hP 11 0 rfl rfl hv15 dX8_likeliest_77 ?_
      refine lv_iconst (v := (1 : Int32)) (pc := 78) hx hb dX8_likeliest_78 (by decide) ?_
      obtain ⟨v20, hj, hf⟩ := zc_1 hf
      refine zj_join (pcJ := 128) (stk := []) (X := fun H locs ls => lv_has ls 11 [(0, .ref a_o), (1, .int p1), (2, .long v9), (4, .int v2), (5, .int v10), (7, .long v20)] ∧ va_P (dC, dI) zz_cls [zo_X8 a_o a_c a_m a_ord a_dep f_o_size a_k1 a_k2 f_o_rung f_o_whole f_o_result v11, zo_X0 a_c f_c_top f_c_things a_c_bars a_c_gives a_c_rough f_c_startRung f_c_startThings f_c_startStrength f_c_startWind f_c_slips f_c_lines a_c_code f_c_coded f_c_tiresFrom f_c_tiresTo f_c_mayFrom f_c_mayTo, (a_c_bars, .inl (dA 0, 9, .inl b_c_bars)), (a_c_gives, .inl (dA 0, 9, .inl b_c_gives)), (a_c_rough, .inl (dA 0, 9, .inl b_c_rough)), (a_c_code, .inl (dA 0, 900, .inl b_c_code)), zo_X3 a_m a_c a_w a_m_deeds a_m_ends v3, zo_X2 a_w a_c a_w_told a_w_facts a_w_stack f_w_wind, (a_w_told, .inl (dA 0, 315, .inl a4)), (a_w_facts, .inl (dA 0, 6, .inl a5)), (a_w_stack, .inl (dA 0, 64, .inl a6)), (a_m_deeds, .inl (dA 0, 9, .inl a7)), (a_m_ends, .inl (dA 0, 9, .inl a8)), (a_k1, .inl (dA 1, 2880, .inr (.inl b_k1)))] H ∧ va_D A [zo_X8 a_o a_c a_m a_ord a_dep f_o_size a_k1 a_k2 f_o_rung f_o_whole f_o_result v11, zo_X0 a_c f_c_top f_c_things a_c_bars a_c_gives a_c_rough f_c_startRung f_c_startThings f_c_startStrength f_c_startWind f_c_slips f_c_lines a_c_code f_c_coded f_c_tiresFrom f_c_tiresTo f_c_mayFrom f_c_mayTo, (a_c_bars, .inl (dA 0, 9, .inl b_c_bars)), (a_c_gives, .inl (dA 0, 9, .inl b_c_gives)), (a_c_rough, .inl (dA 0, 9, .inl b_c_rough)), (a_c_code, .inl (dA 0, 900, .inl b_c_code)), zo_X3 a_m a_c a_w a_m_deeds a_m_ends v3, zo_X2 a_w a_c a_w_told a_w_facts a_w_stack f_w_wind, (a_w_told, .inl (dA 0, 315, .inl a4)), (a_w_facts, .inl (dA 0, 6, .inl a5)), (a_w_stack, .inl (dA 0, 64, .inl a6)), (a_m_deeds, .inl (dA 0, 9, .inl a7)), (a_m_ends, .inl (dA 0, 9, .inl a8)), (a_k1, .inl (dA 1, 2880, .inr (.inl b_k1)))] ∧ va_S A s.heap H locs) (fun H locs ls hX => ?_) (fun J128 => ?_)
      · obtain ⟨hl, hP, hD, hS⟩ := hX
        clear hj
        refine lv_lload (pc := 128) hx hb dX8_likeliest_128 (lv_at hl 5 rfl) ?_
        refine lv_lload_n (pc := 130) hx hb dX8_likeliest_130 rfl (lv_at hl 2 rfl) ?_
        refine W.lcmp (pc := 131) hx hb dX8_likeliest_131 ?_
        obtain ⟨v22, v23, hj, hf⟩ := zc_2 hf
        refine zj_join (pcJ := 152) (stk := []) (X := fun H locs ls => lv_has ls 11 [(0, .ref a_o), (1, .int p1), (2, .long v22), (4, .int v2), (5, .int v10)] ∧ va_P (dC, dI) zz_cls [zo_X8 a_o a_c a_m a_ord a_dep f_o_size a_k1 a_k2 f_o_rung f_o_whole f_o_result v23, zo_X0 a_c f_c_top f_c_things a_c_bars a_c_gives a_c_rough f_c_startRung f_c_startThings f_c_startStrength f_c_startWind f_c_slips f_c_lines a_c_code f_c_coded f_c_tiresFrom f_c_tiresTo f_c_mayFrom f_c_mayTo, (a_c_bars, .inl (dA 0, 9, .inl b_c_bars)), (a_c_gives, .inl (dA 0, 9, .inl b_c_gives)), (a_c_rough, .inl (dA 0, 9, .inl b_c_rough)), (a_c_code, .inl (dA 0, 900, .inl b_c_code)), zo_X3 a_m a_c a_w a_m_deeds a_m_ends v3, zo_X2 a_w a_c a_w_told a_w_facts a_w_stack f_w_wind, (a_w_told, .inl (dA 0, 315, .inl a4)), (a_w_facts, .inl (dA 0, 6, .inl a5)), (a_w_stack, .inl (dA 0, 64, .inl a6)), (a_m_deeds, .inl (dA 0, 9, .inl a7)), (a_m_ends, .inl (dA 0, 9, .inl a8)), (a_k1, .inl (dA 1, 2880, .inr (.inl b_k1)))] H ∧ va_D A [zo_X8 a_o a_c a_m a_ord a_dep f_o_size a_k1 a_k2 f_o_rung f_o_whole f_o_result v23, zo_X0 a_c f_c_top f_c_things a_c_bars a_c_gives a_c_rough f_c_startRung f_c_startThings f_c_startStrength f_c_startWind f_c_slips f_c_lines a_c_code f_c_coded f_c_tiresFrom f_c_tiresTo f_c_mayFrom f_c_mayTo, (a_c_bars, .inl (dA 0, 9, .inl b_c_bars)), (a_c_gives, .inl (dA 0, 9, .inl b_c_gives)), (a_c_rough, .inl (dA 0, 9, .inl b_c_rough)), (a_c_code, .inl (dA 0, 900, .inl b_c_code)), zo_X3 a_m a_c a_w a_m_deeds a_m_ends v3, zo_X2 a_w a_c a_w_told a_w_facts a_w_stack f_w_wind, (a_w_told, .inl (dA 0, 315, .inl a4)), (a_w_facts, .inl (dA 0, 6, .inl a5)), (a_w_stack, .inl (dA 0, 64, .inl a6)), (a_m_deeds, .inl (dA 0, 9, .inl a7)), (a_m_ends, .inl (dA 0, 9, .inl a8)), (a_k1, .inl (dA 1, 2880, .inr (.inl b_k1)))] ∧ va_S A s.heap H locs) (fun H locs ls hX => ?_) (fun J152 => ?_)
        · obtain ⟨hl, hP, hD, hS⟩ := hX
          clear hj
          obtain ⟨v24, hv24, hf⟩ := zc_1 hf
          refine lv_iinc (v := v24) (lv' := [(5, .int v24), (0, .ref a_o), (1, .int p1), (2, .long v22), (4, .int v2)]) (k := 4) (pc := 152) hx hb dX8_likeliest_152 hl rfl (Option.some.inj hv24) (by decide) rfl (fun ls hl => ?_)
          refine lv_goto (tgt := 36) (pc := 155) hx hb dX8_likeliest_155 rfl ?_
          obtain rfl := Option.some.inj hf
          exact ih rfl _ _ _ ⟨lv_sub hl [1, 2, 3, 4, 0] rfl, hP, hD, hS⟩
        · clear hf
          have hf := hj
          clear hj
          refine lv_if_le (tgt := 152) (pc := 132) hx hb dX8_likeliest_132 rfl (fun hc => ?_) (fun hc => ?_)
          · have hf := za_t hf hc
            obtain ⟨rfl, rfl⟩ := zi_2 hf
            exact J152 _ _ _ ⟨lv_sub hl [0, 1, 2, 3, 4] rfl, hP, hD, hS⟩
          · have hf := za_f hf hc
            refine lv_lload (pc := 135) hx hb dX8_likeliest_135 (lv_at hl 5 rfl) ?_
            refine lv_lstore_n (lv' := [(2, .long v20), (0, .ref a_o), (1, .int p1), (4, .int v2), (5, .int v10), (7, .long v20)]) (pc := 137) hx hb dX8_likeliest_137 rfl hl (by decide) rfl (fun ls hl => ?_)
            refine lv_aload_n (pc := 138) hx hb dX8_likeliest_138 rfl (lv_at hl 1 rfl) ?_
            refine lv_aload_n (pc := 139) hx hb dX8_likeliest_139 rfl (lv_at hl 1 rfl) ?_
            refine va_get (pc := 140) (D := (dC, dI)) (ci := 9) (v := .ref a_m) (C := RX8) (T := TX8) (N := 11) hx hb ht zq_layX8 hown hK hP 0 rfl rfl 1 (by decide) (ht _ zq_536) (fun _ h9 => h9) rfl dX8_likeliest_140 ?_
            refine va_get (pc := 143) (D := (dC, dI)) (ci := 4) (v := .ref a_m_deeds) (C := RX3) (T := TX3) (N := 5) hx hb ht zq_layX3 hown hK hP 6 rfl rfl 2 (by decide) (ht _ zq_544) (fun _ h9 => h9) rfl dX8_likeliest_143 ?_
            refine lv_iload (pc := 146) hx hb dX8_likeliest_146 (lv_at hl 4 rfl) ?_
            obtain ⟨v21, hv21, hf⟩ := zc_1 hf
            refine zw_iald (pc := 148) hx hb hK hP 11 0 rfl rfl hv21 dX8_likeliest_148 ?_
            refine va_put (pc := 149) (D := (dC, dI)) (ci := 9) (v := .int v21) (ty := .int) (C := RX8) (T := TX8) (N := 11) hx hb ht zq_layX8 tyX8 tyX8_ok nmX8 hown hK hP hD hS 0 rfl rfl 10 (by decide) (ht _ zq_534) (fun _ h9 => h9) rfl (by decide +kernel) rfl rfl (Nat.le_of_ble_eq_true rfl) dX8_likeliest_149 (fun H locs hP hD hS => ?_)
            have hP : va_P (dC, dI) zz_cls [zo_X8 a_o a_c a_m a_ord a_dep f_o_size a_k1 a_k2 f_o_rung f_o_whole f_o_result v21, zo_X0 a_c f_c_top f_c_things a_c_bars a_c_gives a_c_rough f_c_startRung f_c_startThings f_c_startStrength f_c_startWind f_c_slips f_c_lines a_c_code f_c_coded f_c_tiresFrom f_c_tiresTo f_c_mayFrom f_c_mayTo, (a_c_bars, .inl (dA 0, 9, .inl b_c_bars)), (a_c_gives, .inl (dA 0, 9, .inl b_c_gives)), (a_c_rough, .inl (dA 0, 9, .inl b_c_rough)), (a_c_code, .inl (dA 0, 900, .inl b_c_code)), zo_X3 a_m a_c a_w a_m_deeds a_m_ends v3, zo_X2 a_w a_c a_w_told a_w_facts a_w_stack f_w_wind, (a_w_told, .inl (dA 0, 315, .inl a4)), (a_w_facts, .inl (dA 0, 6, .inl a5)), (a_w_stack, .inl (dA 0, 64, .inl a6)), (a_m_deeds, .inl (dA 0, 9, .inl a7)), (a_m_ends, .inl (dA 0, 9, .inl a8)), (a_k1, .inl (dA 1, 2880, .inr (.inl b_k1)))] H := hP
            have hD : va_D A [zo_X8 a_o a_c a_m a_ord a_dep f_o_size a_k1 a_k2 f_o_rung f_o_whole f_o_result v21, zo_X0 a_c f_c_top f_c_things a_c_bars a_c_gives a_c_rough f_c_startRung f_c_startThings f_c_startStrength f_c_startWind f_c_slips f_c_lines a_c_code f_c_coded f_c_tiresFrom f_c_tiresTo f_c_mayFrom f_c_mayTo, (a_c_bars, .inl (dA 0, 9, .inl b_c_bars)), (a_c_gives, .inl (dA 0, 9, .inl b_c_gives)), (a_c_rough, .inl (dA 0, 9, .inl b_c_rough)), (a_c_code, .inl (dA 0, 900, .inl b_c_code)), zo_X3 a_m a_c a_w a_m_deeds a_m_ends v3, zo_X2 a_w a_c a_w_told a_w_facts a_w_stack f_w_wind, (a_w_told, .inl (dA 0, 315, .inl a4)), (a_w_facts, .inl (dA 0, 6, .inl a5)), (a_w_stack, .inl (dA 0, 64, .inl a6)), (a_m_deeds, .inl (dA 0, 9, .inl a7)), (a_m_ends, .inl (dA 0, 9, .inl a8)), (a_k1, .inl (dA 1, 2880, .inr (.inl b_k1)))] := hD
            obtain ⟨rfl, rfl⟩ := zi_2 hf
            exact J152 _ _ _ ⟨lv_sub hl [1, 2, 0, 3, 4] rfl, hP, hD, hS⟩
      · clear hf
        have hf := hj
        clear hj
        refine lv_icmp_ne (tgt := 128) (pc := 79) hx hb dX8_likeliest_79 rfl (fun hc => ?_) (fun hc => ?_)
        · have hf := za_f hf hc
          obtain rfl := Option.some.inj hf
          exact J128 _ _ _ ⟨lv_sub hl [2, 3, 4, 5, 6, 0] rfl, hP, hD, hS⟩
        · have hf := za_t hf hc
          refine lv_aload_n (pc := 82) hx hb dX8_likeliest_82 rfl (lv_at hl 2 rfl) ?_
          refine va_get (pc := 83) (D := (dC, dI)) (ci := 9) (v := .ref a_k1) (C := RX8) (T := TX8) (N := 11) hx hb ht zq_layX8 hown hK hP 0 rfl rfl 5 (by decide) (ht _ zq_539) (fun _ h9 => h9) rfl dX8_likeliest_83 ?_
          refine lv_iload_n (pc := 86) hx hb dX8_likeliest_86 rfl (lv_at hl 3 rfl) ?_
          refine lv_iload (pc := 87) hx hb dX8_likeliest_87 (lv_at hl 1 rfl) ?_
          obtain ⟨v16, hv16, hf⟩ := zc_1 hf
          refine zx_Si (pc := 89) (wc := []) (wr := [zo_X8 a_o a_c a_m a_ord a_dep f_o_size a_k1 a_k2 f_o_rung f_o_whole f_o_result v11, zo_X0 a_c f_c_top f_c_things a_c_bars a_c_gives a_c_rough f_c_startRung f_c_startThings f_c_startStrength f_c_startWind f_c_slips f_c_lines a_c_code f_c_coded f_c_tiresFrom f_c_tiresTo f_c_mayFrom f_c_mayTo, (a_c_bars, .inl (dA 0, 9, .inl b_c_bars)), (a_c_gives, .inl (dA 0, 9, .inl b_c_gives)), (a_c_rough, .inl (dA 0, 9, .inl b_c_rough)), (a_c_code, .inl (dA 0, 900, .inl b_c_code)), zo_X3 a_m a_c a_w a_m_deeds a_m_ends v3, zo_X2 a_w a_c a_w_told a_w_facts a_w_stack f_w_wind, (a_w_told, .inl (dA 0, 315, .inl a4)), (a_w_facts, .inl (dA 0, 6, .inl a5)), (a_w_stack, .inl (dA 0, 64, .inl a6)), (a_m_deeds, .inl (dA 0, 9, .inl a7)), (a_m_ends, .inl (dA 0, 9, .inl a8)), (a_k1, .inl (dA 1, 2880, .inr (.inl b_k1)))]) (w1 := []) (As := [.int p1, .int v12]) (rest := [.ref a_k1]) ⟨hx, hb, hml, hown, ht⟩ (zt_X8_slipped l dC dI dA adK adV _ p1 v12 v16 hv16) (cwS 2 ht (zq_S zq_550 zq_551 zq_549 zq_542) rfl rfl rfl zk_X8_slipped ⟨Nat.le_of_ble_eq_true rfl, Nat.le_of_ble_eq_true rfl⟩) hZ hK hP hD hS hA [] [0, 1, 2, 3, 4, 5, 6, 7, 8, 9, 10, 11, 12, 13] (by decide) (by decide) (by decide) rfl rfl rfl hl.1 (Nat.le_of_ble_eq_true rfl) dX8_likeliest_89 ⟨Nat.zero_le _, Nat.zero_le _⟩ rfl (fun H locs hP hD hS => ?_)
          have hP : va_P (dC, dI) zz_cls [zo_X8 a_o a_c a_m a_ord a_dep f_o_size a_k1 a_k2 f_o_rung f_o_whole f_o_result v11, zo_X0 a_c f_c_top f_c_things a_c_bars a_c_gives a_c_rough f_c_startRung f_c_startThings f_c_startStrength f_c_startWind f_c_slips f_c_lines a_c_code f_c_coded f_c_tiresFrom f_c_tiresTo f_c_mayFrom f_c_mayTo, (a_c_bars, .inl (dA 0, 9, .inl b_c_bars)), (a_c_gives, .inl (dA 0, 9, .inl b_c_gives)), (a_c_rough, .inl (dA 0, 9, .inl b_c_rough)), (a_c_code, .inl (dA 0, 900, .inl b_c_code)), zo_X3 a_m a_c a_w a_m_deeds a_m_ends v3, zo_X2 a_w a_c a_w_told a_w_facts a_w_stack f_w_wind, (a_w_told, .inl (dA 0, 315, .inl a4)), (a_w_facts, .inl (dA 0, 6, .inl a5)), (a_w_stack, .inl (dA 0, 64, .inl a6)), (a_m_deeds, .inl (dA 0, 9, .inl a7)), (a_m_ends, .inl (dA 0, 9, .inl a8)), (a_k1, .inl (dA 1, 2880, .inr (.inl b_k1)))] H := hP
          have hD : va_D A [zo_X8 a_o a_c a_m a_ord a_dep f_o_size a_k1 a_k2 f_o_rung f_o_whole f_o_result v11, zo_X0 a_c f_c_top f_c_things a_c_bars a_c_gives a_c_rough f_c_startRung f_c_startThings f_c_startStrength f_c_startWind f_c_slips f_c_lines a_c_code f_c_coded f_c_tiresFrom f_c_tiresTo f_c_mayFrom f_c_mayTo, (a_c_bars, .inl (dA 0, 9, .inl b_c_bars)), (a_c_gives, .inl (dA 0, 9, .inl b_c_gives)), (a_c_rough, .inl (dA 0, 9, .inl b_c_rough)), (a_c_code, .inl (dA 0, 900, .inl b_c_code)), zo_X3 a_m a_c a_w a_m_deeds a_m_ends v3, zo_X2 a_w a_c a_w_told a_w_facts a_w_stack f_w_wind, (a_w_told, .inl (dA 0, 315, .inl a4)), (a_w_facts, .inl (dA 0, 6, .inl a5)), (a_w_stack, .inl (dA 0, 64, .inl a6)), (a_m_deeds, .inl (dA 0, 9, .inl a7)), (a_m_ends, .inl (dA 0, 9, .inl a8)), (a_k1, .inl (dA 1, 2880, .inr (.inl b_k1)))] := hD
          obtain ⟨v17, hv17, hf⟩ := zc_1 hf
          refine zw_lald (pc := 92) hx hb hK hP 13 1 rfl rfl hv17 dX8_likeliest_92 ?_
          refine lv_lstore (lv' := [(9, .long v17), (7, .long v14), (6, .int v12), (0, .ref a_o), (1, .int p1), (2, .long v9), (4, .int v2), (5, .int v10)]) (pc := 93) hx hb dX8_likeliest_93 hl (by decide) rfl (fun ls hl => ?_)
          refine lv_aload_n (pc := 95) hx hb dX8_likeliest_95 rfl (lv_at hl 3 rfl) ?_
          refine va_get (pc := 96) (D := (dC, dI)) (ci := 9) (v := .ref a_c) (C := RX8) (T := TX8) (N := 11) hx hb ht zq_layX8 hown hK hP 0 rfl rfl 0 (by decide) (ht _ zq_535) (fun _ h9 => h9) rfl dX8_likeliest_96 ?_
          refine va_get (pc := 99) (D := (dC, dI)) (ci := 1) (v := .int f_c_slips) (C := RX0) (T := TX0) (N := 17) hx hb ht zq_layX0 hown hK hP 1 rfl rfl 9 (by decide) (ht _ zq_559) (fun _ h9 => h9) rfl dX8_likeliest_99 ?_
          refine lv_i2l (pc := 102) hx hb dX8_likeliest_102 rfl ?_
          refine lv_lload (pc := 103) hx hb dX8_likeliest_103 (lv_at hl 0 rfl) ?_
          refine lv_lmul (pc := 105) hx hb dX8_likeliest_105 ?_
          refine lv_bipush (v := (10 : Int32)) (pc := 106) hx hb dX8_likeliest_106 (by decide) ?_
          refine lv_aload_n (pc := 108) hx hb dX8_likeliest_108 rfl (lv_at hl 3 rfl) ?_
          refine va_get (pc := 109) (D := (dC, dI)) (ci := 9) (v := .ref a_c) (C := RX8) (T := TX8) (N := 11) hx hb ht zq_layX8 hown hK hP 0 rfl rfl 0 (by decide) (ht _ zq_535) (fun _ h9 => h9) rfl dX8_likeliest_109 ?_
          refine va_get (pc := 112) (D := (dC, dI)) (ci := 1) (v := .int f_c_slips) (C := RX0) (T := TX0) (N := 17) hx hb ht zq_layX0 hown hK hP 1 rfl rfl 9 (by decide) (ht _ zq_559) (fun _ h9 => h9) rfl dX8_likeliest_112 ?_
          refine lv_isub (pc := 115) hx hb dX8_likeliest_115 ?_
          refine lv_i2l (pc := 116) hx hb dX8_likeliest_116 rfl ?_
          refine lv_aload_n (pc := 117) hx hb dX8_likeliest_117 rfl (lv_at hl 3 rfl) ?_
          refine va_get (pc := 118) (D := (dC, dI)) (ci := 9) (v := .ref a_k1) (C := RX8) (T := TX8) (N := 11) hx hb ht zq_layX8 hown hK hP 0 rfl rfl 5 (by decide) (ht _ zq_539) (fun _ h9 => h9) rfl dX8_likeliest_118 ?_
          refine lv_iload (pc := 121) hx hb dX8_likeliest_121 (lv_at hl 2 rfl) ?_
          obtain ⟨v18, hv18, hf⟩ := zc_1 hf
          refine zw_lald (pc := 123) hx hb hK hP 13 1 rfl rfl hv18 dX8_likeliest_123 ?_
          refine lv_lmul (pc := 124) hx hb dX8_likeliest_124 ?_
          refine lv_ladd (pc := 125) hx hb dX8_likeliest_125 ?_
          obtain ⟨v19, hv19, hf⟩ := zc_1 hf
          refine zw_topl (hv19) ?_
          refine lv_lstore (lv' := [(7, .long v19), (9, .long v17), (6, .int v12), (0, .ref a_o), (1, .int p1), (2, .long v9), (4, .int v2), (5, .int v10)]) (pc := 126) hx hb dX8_likeliest_126 hl (by decide) rfl (fun ls hl => ?_)
          obtain rfl := Option.some.inj hf
          exact J128 _ _ _ ⟨lv_sub hl [3, 4, 5, 6, 7, 0] rfl, hP, hD, hS⟩
  · have hf := za_t hf hc
    refine lv_aload_n (pc := 16) hx hb dX8_likeliest_16 rfl (lv_at hl 0 rfl) ?_
    refine va_get (pc := 17) (D := (dC, dI)) (ci := 9) (v := .long f_o_whole) (C := RX8) (T := TX8) (N := 11) hx hb ht zq_layX8 hown hK hP 0 rfl rfl 8 (by decide) (ht _ zq_532) (fun _ h9 => h9) rfl dX8_likeliest_17 ?_
    obtain ⟨rfl, rfl, rfl, rfl, rfl, rfl, rfl, rfl⟩ := zi_8 hf
    exact W.lret (pc := 20) hx hb hr (fun t ht hW => ⟨⟨_, (), rfl, rfl, zz_Bi (by rw [ht]; exact hP) (va_K.moved hW.alike hK) (hD)⟩, hS.F ht⟩) hS.2.2 dX8_likeliest_20

def zb_X8_commonDivisor_9 (v1 : Int64) (v2 : Int64) (v3 : Int32) : Option (Nat × Int64 × Int64 × Int32) :=
  if (100 : Int32) ≤ v3 then
    some (1, v1, v2, v3)
  else
    if (lg_cmp v2 (0 : Int64)) = 0 then
      some (1, v1, v2, v3)
    else
      zd_1 (za_nzl v2) (fun v4 =>
      zd_1 (some ((za_reml v1 v2))) (fun v5 =>
      zd_1 (some (v3 + (1 : Int32))) (fun v6 =>
      some (0, v2, v5, v6))))
def zf_X8_commonDivisor (n : Nat) (p0 : Int64) (p2 : Int64) : Option (Int64) :=
  zd_4 (za_it (fun v => zb_X8_commonDivisor_9 v.1 v.2.1 v.2.2) n (p2, p0, (0 : Int32))) (fun g10 v7 v8 v9 =>
  zd_1 (some ((if v7 < (1 : Int64) then (1 : Int64) else v7))) (fun v11 =>
  some v11))
theorem zk_X8_commonDivisor : yX8_commonDivisor.cls = RX8 ∧ yX8_commonDivisor.cls ≠ "java/lang/invoke/MethodHandle" ∧ yX8_commonDivisor.cls ≠ "java/lang/invoke/VarHandle" ∧ (parseMethodDescriptor yX8_commonDivisor.desc).map (fun d => d.parameters.length) = some 2 := by decide +kernel
set_option maxHeartbeats 4000000 in
set_option maxRecDepth 100000 in
theorem zt_X8_commonDivisor (l : Launch) (dC : Nat → ClassId) (dI : Nat → Nat → Nat) (dA : Nat → ClassId) (adK adV : Nat → Nat) (sz : Nat) (n : Nat) (p0 : Int64) (p2 : Int64) (r0 : Int64) (hf : zf_X8_commonDivisor n p0 p2 = some r0) : Met l yX8_commonDivisor (.code yX8_commonDivisor cX8_commonDivisor 11 (some .long) :: zq_T) ({ frames := 1, cells := 0, slots := 0, locals := 48 }) (va_Pc [.long p0, .long p2] (zx_M dC dI dA adK adV [] sz)) (va_Ql (fun (r : Int64) (_ : Unit) => r = r0) (fun _ t => zz_B dC dI dA (va_A [] sz) [] t) (va_A [] sz)) 0 0 (va_A [] sz) := by
  unfold zf_X8_commonDivisor at hf
  refine Met.ofW (cc := cX8_commonDivisor) (maxL := 11) (ret := (some .long)) (by decide) rfl ?_
  intro p e s m args below meth c s₁ B hml hv
  obtain ⟨rfl, ⟨hsz, hP, hK, hD0⟩, hZ⟩ := hv
  have hx := B.exec
  have hb := B.bytes
  have hr := B.returns
  have ht : ∀ w ∈ zq_T, w.before ([.long p0, .long p2] : List Value).toArray s = true := fun w hw => atoms_spec (ws := .code yX8_commonDivisor cX8_commonDivisor 11 (some .long) :: zq_T) B.pre w (List.mem_cons_of_mem _ hw)
  have hown : s.vm.findClass RX8 = some m.cls := findClass_of_methodNamed B.named
  have hlocks := B.notSynchronized
  subst hsz
  have hD := hD0.self (sz := s.heap.size)
  generalize hAe : va_A [] s.heap.size = A at hD hZ ⊢
  have hA : ∀ q : Nat, s.heap.size ≤ q → A q := fun q h => by rw [← hAe]; exact Or.inr h
  clear hAe hD0
  have hS : va_S A s.heap s.heap [] := va_S.rf
  have hl := lv_entry ([.long p0, .long p2]) (n := 11) (Nat.le_of_ble_eq_true rfl)
  rw [lg_entry_eq]
  generalize (lg_sl ([.long p0, .long p2]) ++ List.replicate (11 - (lg_sl ([.long p0, .long p2])).length) Slot.unset).toArray = ls at hl ⊢
  have hl : lv_has ls 11 [(0, .long p0), (2, .long p2)] := hl
  refine lv_lload_n (pc := 0) hx hb dX8_commonDivisor_0 rfl (lv_at hl 1 rfl) ?_
  refine lv_lstore (lv' := [(4, .long p2), (0, .long p0), (2, .long p2)]) (pc := 1) hx hb dX8_commonDivisor_1 hl (by decide) rfl (fun ls hl => ?_)
  refine lv_lload_n (pc := 3) hx hb dX8_commonDivisor_3 rfl (lv_at hl 1 rfl) ?_
  refine lv_lstore (lv' := [(6, .long p0), (4, .long p2), (0, .long p0), (2, .long p2)]) (pc := 4) hx hb dX8_commonDivisor_4 hl (by decide) rfl (fun ls hl => ?_)
  refine lv_iconst (v := (0 : Int32)) (pc := 6) hx hb dX8_commonDivisor_6 (by decide) ?_
  refine lv_istore (lv' := [(8, .int (0 : Int32)), (6, .long p0), (4, .long p2), (0, .long p0), (2, .long p2)]) (pc := 7) hx hb dX8_commonDivisor_7 hl (by decide) rfl (fun ls hl => ?_)
  obtain ⟨g10, v7, v8, v9, hj, hf⟩ := zc_4 hf
  refine zj_join (pcJ := 44) (stk := []) (X := fun H locs ls => lv_has ls 11 [(4, .long v7)] ∧ va_P (dC, dI) zz_cls [] H ∧ va_D A [] ∧ va_S A s.heap H locs) (fun H locs ls hX => ?_) (fun E44 => ?_)
  · obtain ⟨hl, hP, hD, hS⟩ := hX
    clear hj
    refine lv_lconst (v := (1 : Int64)) (pc := 44) hx hb dX8_commonDivisor_44 (by decide) ?_
    refine lv_lload (pc := 45) hx hb dX8_commonDivisor_45 (lv_at hl 0 rfl) ?_
    refine va_mmax_long (pc := 47) hx hb (hml.trans hl.1.symm) hown (ht _ zq_573) (ht _ zq_129) (ht _ zq_92) (ht _ zq_130) (Nat.le_of_ble_eq_true rfl) (Nat.le_of_ble_eq_true rfl) (Nat.zero_le _) (Nat.zero_le _) dX8_commonDivisor_47 ?_
    obtain ⟨v11, hv11, hf⟩ := zc_1 hf
    refine zw_topl (hv11) ?_
    obtain rfl := Option.some.inj hf
    exact W.lret (pc := 50) hx hb hr (fun t ht hW => ⟨⟨_, (), rfl, rfl, zz_Bi (by rw [ht]; exact hP) (va_K.moved hW.alike hK) (hD)⟩, hS.F ht⟩) hS.2.2 dX8_commonDivisor_50
  clear hf
  refine zw_loop (pcH := 9) (X := fun v H locs ls => lv_has ls 11 [(4, .long v.1), (6, .long v.2.1), (8, .int v.2.2)] ∧ va_P (dC, dI) zz_cls [] H ∧ va_D A [] ∧ va_S A s.heap H locs) hj (fun v w hf ih ex H locs ls hX => ?_) _ _ _ ⟨lv_sub hl [2, 1, 0] rfl, hP, hD, hS⟩
  clear hj
  obtain ⟨v1, v2, v3⟩ := v
  obtain ⟨hl, hP, hD, hS⟩ := hX
  have hl : lv_has ls 11 [(4, .long v1), (6, .long v2), (8, .int v3)] := hl
  have hP : va_P (dC, dI) zz_cls [] H := hP
  have hD : va_D A [] := hD
  replace hf : zb_X8_commonDivisor_9 v1 v2 v3 = some w := hf
  unfold zb_X8_commonDivisor_9 at hf
  refine lv_iload (pc := 9) hx hb dX8_commonDivisor_9 (lv_at hl 2 rfl) ?_
  refine lv_bipush (v := (100 : Int32)) (pc := 11) hx hb dX8_commonDivisor_11 (by decide) ?_
  refine lv_icmp_ge (tgt := 44) (pc := 13) hx hb dX8_commonDivisor_13 rfl (fun hc => ?_) (fun hc => ?_)
  · have hf := za_t hf hc
    obtain rfl := Option.some.inj hf
    obtain ⟨rfl, rfl, rfl, rfl⟩ := zp_4 (ex (show ¬ (1 : Nat) = 0 by decide))
    exact E44 _ _ _ ⟨lv_sub hl [0] rfl, hP, hD, hS⟩
  · have hf := za_f hf hc
    refine lv_lload (pc := 16) hx hb dX8_commonDivisor_16 (lv_at hl 1 rfl) ?_
    refine lv_lconst (v := (0 : Int64)) (pc := 18) hx hb dX8_commonDivisor_18 (by decide) ?_
    refine W.lcmp (pc := 19) hx hb dX8_commonDivisor_19 ?_
    refine lv_if_eq (tgt := 44) (pc := 20) hx hb dX8_commonDivisor_20 rfl (fun hc => ?_) (fun hc => ?_)
    · have hf := za_t hf hc
      obtain rfl := Option.some.inj hf
      obtain ⟨rfl, rfl, rfl, rfl⟩ := zp_4 (ex (show ¬ (1 : Nat) = 0 by decide))
      exact E44 _ _ _ ⟨lv_sub hl [0] rfl, hP, hD, hS⟩
    · have hf := za_f hf hc
      refine lv_lload (pc := 23) hx hb dX8_commonDivisor_23 (lv_at hl 0 rfl) ?_
      refine lv_lload (pc := 25) hx hb dX8_commonDivisor_25 (lv_at hl 1 rfl) ?_
      obtain ⟨v4, hv4, hf⟩ := zc_1 hf
      refine lv_lrem (pc := 27) hx hb dX8_commonDivisor_27 (za_nzls hv4).2 ?_
      obtain ⟨v5, hv5, hf⟩ := zc_1 hf
      refine zw_topl (hv5) ?_
      refine lv_lstore (lv' := [(9, .long v5), (4, .long v1), (6, .long v2), (8, .int v3)]) (pc := 28) hx hb dX8_commonDivisor_28 hl (by decide) rfl (fun ls hl => ?_)
      refine lv_lload (pc := 30) hx hb dX8_commonDivisor_30 (lv_at hl 2 rfl) ?_
      refine lv_lstore (lv' := [(4, .long v2), (9, .long v5), (6, .long v2), (8, .int v3)]) (pc := 32) hx hb dX8_commonDivisor_32 hl (by decide) rfl (fun ls hl => ?_)
      refine lv_lload (pc := 34) hx hb dX8_commonDivisor_34 (lv_at hl 1 rfl) ?_
      refine lv_lstore (lv' := [(6, .long v5), (4, .long v2), (9, .long v5), (8, .int v3)]) (pc := 36) hx hb dX8_commonDivisor_36 hl (by decide) rfl (fun ls hl => ?_)
      obtain ⟨v6, hv6, hf⟩ := zc_1 hf
      refine lv_iinc (v := v6) (lv' := [(8, .int v6), (6, .long v5), (4, .long v2), (9, .long v5)]) (k := 3) (pc := 38) hx hb dX8_commonDivisor_38 hl rfl (Option.some.inj hv6) (by decide) rfl (fun ls hl => ?_)
      refine lv_goto (tgt := 9) (pc := 41) hx hb dX8_commonDivisor_41 rfl ?_
      obtain rfl := Option.some.inj hf
      exact ih rfl _ _ _ ⟨lv_sub hl [2, 1, 0] rfl, hP, hD, hS⟩

def zf_X8_numerator (n : Nat) (f_o_whole : Int64) (f_o_result : Int64) : Option (Int32) :=
  zd_1 (zf_X8_commonDivisor n f_o_result f_o_whole) (fun v1 =>
  zd_1 (za_nzl v1) (fun v2 =>
  some (Int64.toInt32 (f_o_result / v1))))
theorem zk_X8_numerator : yX8_numerator.cls = RX8 ∧ yX8_numerator.cls ≠ "java/lang/invoke/MethodHandle" ∧ yX8_numerator.cls ≠ "java/lang/invoke/VarHandle" ∧ (parseMethodDescriptor yX8_numerator.desc).map (fun d => d.parameters.length) = some 0 := by decide +kernel
set_option maxHeartbeats 4000000 in
set_option maxRecDepth 100000 in
theorem zt_X8_numerator (l : Launch) (dC : Nat → ClassId) (dI : Nat → Nat → Nat) (dA : Nat → ClassId) (adK adV : Nat → Nat) (sz : Nat) (a_o : Nat) (a_c : Nat) (a_m : Nat) (a_ord : Nat) (a_dep : Nat) (a_k1 : Nat) (a_k2 : Nat) (n : Nat) (f_o_size : Int32) (f_o_rung : Int32) (f_o_whole : Int64) (f_o_result : Int64) (f_o_firstDeed : Int32) (r0 : Int32) (hf : zf_X8_numerator n f_o_whole f_o_result = some r0) : Met l yX8_numerator (.code yX8_numerator cX8_numerator 1 (some .int) :: zq_T) ({ frames := 2, cells := 0, slots := 0, locals := 78 }) (va_Pc [.ref a_o] (zx_M dC dI dA adK adV [zo_X8 a_o a_c a_m a_ord a_dep f_o_size a_k1 a_k2 f_o_rung f_o_whole f_o_result f_o_firstDeed] sz)) (va_Qi (fun (r : Int32) (_ : Unit) => r = r0) (fun _ t => zz_B dC dI dA (va_A [zo_X8 a_o a_c a_m a_ord a_dep f_o_size a_k1 a_k2 f_o_rung f_o_whole f_o_result f_o_firstDeed] sz) [zo_X8 a_o a_c a_m a_ord a_dep f_o_size a_k1 a_k2 f_o_rung f_o_whole f_o_result f_o_firstDeed] t) (va_A [zo_X8 a_o a_c a_m a_ord a_dep f_o_size a_k1 a_k2 f_o_rung f_o_whole f_o_result f_o_firstDeed] sz)) 0 0 (va_A [zo_X8 a_o a_c a_m a_ord a_dep f_o_size a_k1 a_k2 f_o_rung f_o_whole f_o_result f_o_firstDeed] sz) := by
  unfold zf_X8_numerator at hf
  refine Met.ofW (cc := cX8_numerator) (maxL := 1) (ret := (some .int)) (by decide) rfl ?_
  intro p e s m args below meth c s₁ B hml hv
  obtain ⟨rfl, ⟨hsz, hP, hK, hD0⟩, hZ⟩ := hv
  have hx := B.exec
  have hb := B.bytes
  have hr := B.returns
  have ht : ∀ w ∈ zq_T, w.before ([.ref a_o] : List Value).toArray s = true := fun w hw => atoms_spec (ws := .code yX8_numerator cX8_numerator 1 (some .int) :: zq_T) B.pre w (List.mem_cons_of_mem _ hw)
  have hown : s.vm.findClass RX8 = some m.cls := findClass_of_methodNamed B.named
  have hlocks := B.notSynchronized
  subst hsz
  have hD := hD0.self (sz := s.heap.size)
  generalize hAe : va_A [zo_X8 a_o a_c a_m a_ord a_dep f_o_size a_k1 a_k2 f_o_rung f_o_whole f_o_result f_o_firstDeed] s.heap.size = A at hD hZ ⊢
  have hA : ∀ q : Nat, s.heap.size ≤ q → A q := fun q h => by rw [← hAe]; exact Or.inr h
  clear hAe hD0
  have hS : va_S A s.heap s.heap [] := va_S.rf
  have hl := lv_entry ([.ref a_o]) (n := 1) (Nat.le_of_ble_eq_true rfl)
  rw [lg_entry_eq]
  generalize (lg_sl ([.ref a_o]) ++ List.replicate (1 - (lg_sl ([.ref a_o])).length) Slot.unset).toArray = ls at hl ⊢
  have hl : lv_has ls 1 [(0, .ref a_o)] := hl
  refine lv_aload_n (pc := 0) hx hb dX8_numerator_0 rfl (lv_at hl 0 rfl) ?_
  refine va_get (pc := 1) (D := (dC, dI)) (ci := 9) (v := .long f_o_result) (C := RX8) (T := TX8) (N := 11) hx hb ht zq_layX8 hown hK hP 0 rfl rfl 9 (by decide) (ht _ zq_533) (fun _ h9 => h9) rfl dX8_numerator_1 ?_
  refine lv_aload_n (pc := 4) hx hb dX8_numerator_4 rfl (lv_at hl 0 rfl) ?_
  refine va_get (pc := 5) (D := (dC, dI)) (ci := 9) (v := .long f_o_result) (C := RX8) (T := TX8) (N := 11) hx hb ht zq_layX8 hown hK hP 0 rfl rfl 9 (by decide) (ht _ zq_533) (fun _ h9 => h9) rfl dX8_numerator_5 ?_
  refine lv_aload_n (pc := 8) hx hb dX8_numerator_8 rfl (lv_at hl 0 rfl) ?_
  refine va_get (pc := 9) (D := (dC, dI)) (ci := 9) (v := .long f_o_whole) (C := RX8) (T := TX8) (N := 11) hx hb ht zq_layX8 hown hK hP 0 rfl rfl 8 (by decide) (ht _ zq_532) (fun _ h9 => h9) rfl dX8_numerator_9 ?_
  obtain ⟨v1, hv1, hf⟩ := zc_1 hf
  refine zx_Sl (pc := 12) (wc := []) (wr := [zo_X8 a_o a_c a_m a_ord a_dep f_o_size a_k1 a_k2 f_o_rung f_o_whole f_o_result f_o_firstDeed]) (w1 := []) (As := [.long f_o_result, .long f_o_whole]) (rest := [.long f_o_result]) ⟨hx, hb, hml, hown, ht⟩ (zt_X8_commonDivisor l dC dI dA adK adV _ n f_o_result f_o_whole v1 hv1) (cwS 2 ht (zq_S zq_575 zq_576 zq_549 zq_572) rfl rfl rfl zk_X8_commonDivisor ⟨Nat.le_of_ble_eq_true rfl, Nat.le_of_ble_eq_true rfl⟩) hZ hK hP hD hS hA [] [0] (by decide) (by decide) (by decide) rfl rfl rfl hl.1 (Nat.le_of_ble_eq_true rfl) dX8_numerator_12 ⟨Nat.zero_le _, Nat.zero_le _⟩ rfl (fun H locs hP hD hS => ?_)
  have hP : va_P (dC, dI) zz_cls [zo_X8 a_o a_c a_m a_ord a_dep f_o_size a_k1 a_k2 f_o_rung f_o_whole f_o_result f_o_firstDeed] H := hP
  have hD : va_D A [zo_X8 a_o a_c a_m a_ord a_dep f_o_size a_k1 a_k2 f_o_rung f_o_whole f_o_result f_o_firstDeed] := hD
  obtain ⟨v2, hv2, hf⟩ := zc_1 hf
  refine lv_ldiv (pc := 15) hx hb dX8_numerator_15 (za_nzls hv2).2 ?_
  refine lv_l2i (pc := 16) hx hb dX8_numerator_16 rfl ?_
  obtain rfl := Option.some.inj hf
  exact W.iret (pc := 17) hx hb hr (fun t ht hW => ⟨⟨_, (), rfl, rfl, zz_Bi (by rw [ht]; exact hP) (va_K.moved hW.alike hK) (hD)⟩, hS.F ht⟩) hS.2.2 dX8_numerator_17

def zf_X8_denominator (n : Nat) (f_o_whole : Int64) (f_o_result : Int64) : Option (Int32) :=
  zd_1 (zf_X8_commonDivisor n f_o_result f_o_whole) (fun v1 =>
  zd_1 (za_nzl v1) (fun v2 =>
  some (Int64.toInt32 (f_o_whole / v1))))
theorem zk_X8_denominator : yX8_denominator.cls = RX8 ∧ yX8_denominator.cls ≠ "java/lang/invoke/MethodHandle" ∧ yX8_denominator.cls ≠ "java/lang/invoke/VarHandle" ∧ (parseMethodDescriptor yX8_denominator.desc).map (fun d => d.parameters.length) = some 0 := by decide +kernel
set_option maxHeartbeats 4000000 in
set_option maxRecDepth 100000 in
theorem zt_X8_denominator (l : Launch) (dC : Nat → ClassId) (dI : Nat → Nat → Nat) (dA : Nat → ClassId) (adK adV : Nat → Nat) (sz : Nat) (a_o : Nat) (a_c : Nat) (a_m : Nat) (a_ord : Nat) (a_dep : Nat) (a_k1 : Nat) (a_k2 : Nat) (n : Nat) (f_o_size : Int32) (f_o_rung : Int32) (f_o_whole : Int64) (f_o_result : Int64) (f_o_firstDeed : Int32) (r0 : Int32) (hf : zf_X8_denominator n f_o_whole f_o_result = some r0) : Met l yX8_denominator (.code yX8_denominator cX8_denominator 1 (some .int) :: zq_T) ({ frames := 2, cells := 0, slots := 0, locals := 78 }) (va_Pc [.ref a_o] (zx_M dC dI dA adK adV [zo_X8 a_o a_c a_m a_ord a_dep f_o_size a_k1 a_k2 f_o_rung f_o_whole f_o_result f_o_firstDeed] sz)) (va_Qi (fun (r : Int32) (_ : Unit) => r = r0) (fun _ t => zz_B dC dI dA (va_A [zo_X8 a_o a_c a_m a_ord a_dep f_o_size a_k1 a_k2 f_o_rung f_o_whole f_o_result f_o_firstDeed] sz) [zo_X8 a_o a_c a_m a_ord a_dep f_o_size a_k1 a_k2 f_o_rung f_o_whole f_o_result f_o_firstDeed] t) (va_A [zo_X8 a_o a_c a_m a_ord a_dep f_o_size a_k1 a_k2 f_o_rung f_o_whole f_o_result f_o_firstDeed] sz)) 0 0 (va_A [zo_X8 a_o a_c a_m a_ord a_dep f_o_size a_k1 a_k2 f_o_rung f_o_whole f_o_result f_o_firstDeed] sz) := by
  unfold zf_X8_denominator at hf
  refine Met.ofW (cc := cX8_denominator) (maxL := 1) (ret := (some .int)) (by decide) rfl ?_
  intro p e s m args below meth c s₁ B hml hv
  obtain ⟨rfl, ⟨hsz, hP, hK, hD0⟩, hZ⟩ := hv
  have hx := B.exec
  have hb := B.bytes
  have hr := B.returns
  have ht : ∀ w ∈ zq_T, w.before ([.ref a_o] : List Value).toArray s = true := fun w hw => atoms_spec (ws := .code yX8_denominator cX8_denominator 1 (some .int) :: zq_T) B.pre w (List.mem_cons_of_mem _ hw)
  have hown : s.vm.findClass RX8 = some m.cls := findClass_of_methodNamed B.named
  have hlocks := B.notSynchronized
  subst hsz
  have hD := hD0.self (sz := s.heap.size)
  generalize hAe : va_A [zo_X8 a_o a_c a_m a_ord a_dep f_o_size a_k1 a_k2 f_o_rung f_o_whole f_o_result f_o_firstDeed] s.heap.size = A at hD hZ ⊢
  have hA : ∀ q : Nat, s.heap.size ≤ q → A q := fun q h => by rw [← hAe]; exact Or.inr h
  clear hAe hD0
  have hS : va_S A s.heap s.heap [] := va_S.rf
  have hl := lv_entry ([.ref a_o]) (n := 1) (Nat.le_of_ble_eq_true rfl)
  rw [lg_entry_eq]
  generalize (lg_sl ([.ref a_o]) ++ List.replicate (1 - (lg_sl ([.ref a_o])).length) Slot.unset).toArray = ls at hl ⊢
  have hl : lv_has ls 1 [(0, .ref a_o)] := hl
  refine lv_aload_n (pc := 0) hx hb dX8_denominator_0 rfl (lv_at hl 0 rfl) ?_
  refine va_get (pc := 1) (D := (dC, dI)) (ci := 9) (v := .long f_o_whole) (C := RX8) (T := TX8) (N := 11) hx hb ht zq_layX8 hown hK hP 0 rfl rfl 8 (by decide) (ht _ zq_532) (fun _ h9 => h9) rfl dX8_denominator_1 ?_
  refine lv_aload_n (pc := 4) hx hb dX8_denominator_4 rfl (lv_at hl 0 rfl) ?_
  refine va_get (pc := 5) (D := (dC, dI)) (ci := 9) (v := .long f_o_result) (C := RX8) (T := TX8) (N := 11) hx hb ht zq_layX8 hown hK hP 0 rfl rfl 9 (by decide) (ht _ zq_533) (fun _ h9 => h9) rfl dX8_denominator_5 ?_
  refine lv_aload_n (pc := 8) hx hb dX8_denominator_8 rfl (lv_at hl 0 rfl) ?_
  refine va_get (pc := 9) (D := (dC, dI)) (ci := 9) (v := .long f_o_whole) (C := RX8) (T := TX8) (N := 11) hx hb ht zq_layX8 hown hK hP 0 rfl rfl 8 (by decide) (ht _ zq_532) (fun _ h9 => h9) rfl dX8_denominator_9 ?_
  obtain ⟨v1, hv1, hf⟩ := zc_1 hf
  refine zx_Sl (pc := 12) (wc := []) (wr := [zo_X8 a_o a_c a_m a_ord a_dep f_o_size a_k1 a_k2 f_o_rung f_o_whole f_o_result f_o_firstDeed]) (w1 := []) (As := [.long f_o_result, .long f_o_whole]) (rest := [.long f_o_whole]) ⟨hx, hb, hml, hown, ht⟩ (zt_X8_commonDivisor l dC dI dA adK adV _ n f_o_result f_o_whole v1 hv1) (cwS 2 ht (zq_S zq_575 zq_576 zq_549 zq_572) rfl rfl rfl zk_X8_commonDivisor ⟨Nat.le_of_ble_eq_true rfl, Nat.le_of_ble_eq_true rfl⟩) hZ hK hP hD hS hA [] [0] (by decide) (by decide) (by decide) rfl rfl rfl hl.1 (Nat.le_of_ble_eq_true rfl) dX8_denominator_12 ⟨Nat.zero_le _, Nat.zero_le _⟩ rfl (fun H locs hP hD hS => ?_)
  have hP : va_P (dC, dI) zz_cls [zo_X8 a_o a_c a_m a_ord a_dep f_o_size a_k1 a_k2 f_o_rung f_o_whole f_o_result f_o_firstDeed] H := hP
  have hD : va_D A [zo_X8 a_o a_c a_m a_ord a_dep f_o_size a_k1 a_k2 f_o_rung f_o_whole f_o_result f_o_firstDeed] := hD
  obtain ⟨v2, hv2, hf⟩ := zc_1 hf
  refine lv_ldiv (pc := 15) hx hb dX8_denominator_15 (za_nzls hv2).2 ?_
  refine lv_l2i (pc := 16) hx hb dX8_denominator_16 rfl ?_
  obtain rfl := Option.some.inj hf
  exact W.iret (pc := 17) hx hb hr (fun t ht hW => ⟨⟨_, (), rfl, rfl, zz_Bi (by rw [ht]; exact hP) (va_K.moved hW.alike hK) (hD)⟩, hS.F ht⟩) hS.2.2 dX8_denominator_17

def zb_J7_fill_d0a16_6 (v1 : Int32) (qn0 : Nat) (p1 : Int64) (v2 : Int32) (a3 : (Nat → Int64)) : Option (Nat × Int32 × (Nat → Int64)) :=
  if v1 ≤ v2 then
    some (1, v2, a3)
  else
    zd_1 (za_st a3 qn0 v2 p1) (fun a4 =>
    zd_1 (some (v2 + (1 : Int32))) (fun v5 =>
    some (0, v5, a4)))
def zf_J7_fill_d0a16 (n : Nat) (qn0 : Nat) (b_q0 : (Nat → Int64)) (p1 : Int64) : Option ((Nat → Int64)) :=
  zd_1 (some ((Int32.ofNat qn0))) (fun v1 =>
  zd_3 (za_it (fun v => zb_J7_fill_d0a16_6 v1 qn0 p1 v.1 v.2) n ((0 : Int32), b_q0)) (fun g8 v6 a7 =>
  some a7))
theorem zk_J7_fill_d0a16 : yJ7_fill_d0a16.cls = RJ7 ∧ yJ7_fill_d0a16.cls ≠ "java/lang/invoke/MethodHandle" ∧ yJ7_fill_d0a16.cls ≠ "java/lang/invoke/VarHandle" ∧ (parseMethodDescriptor yJ7_fill_d0a16.desc).map (fun d => d.parameters.length) = some 2 := by decide +kernel
set_option maxHeartbeats 4000000 in
set_option maxRecDepth 100000 in
theorem zt_J7_fill_d0a16 (l : Launch) (dC : Nat → ClassId) (dI : Nat → Nat → Nat) (dA : Nat → ClassId) (adK adV : Nat → Nat) (sz : Nat) (a_q0 : Nat) (qn0 : Nat) (n : Nat) (b_q0 : (Nat → Int64)) (p1 : Int64) (o1 : (Nat → Int64)) (hf : zf_J7_fill_d0a16 n qn0 b_q0 p1 = some o1) : Met l yJ7_fill_d0a16 (.code yJ7_fill_d0a16 cJ7_fill_d0a16 5 none :: zq_T) ({ frames := 0, cells := 0, slots := 0, locals := 0 }) (va_Pc [.ref a_q0, .long p1] (zz_M dC dI dA [(a_q0, .inl (dA 1, qn0, .inr (.inl b_q0)))] sz)) (va_Qv (fun _ : Unit => True) (fun _ t => zz_B dC dI dA (va_A [(a_q0, .inl (dA 1, qn0, .inr (.inl b_q0)))] sz) [(a_q0, .inl (dA 1, qn0, .inr (.inl o1)))] t) (va_A [(a_q0, .inl (dA 1, qn0, .inr (.inl b_q0)))] sz)) 0 0 (va_A [(a_q0, .inl (dA 1, qn0, .inr (.inl b_q0)))] sz) := by
  unfold zf_J7_fill_d0a16 at hf
  refine Met.ofW (cc := cJ7_fill_d0a16) (maxL := 5) (ret := none) (by decide) rfl ?_
  intro p e s m args below meth c s₁ B hml hv
  obtain ⟨rfl, hsz, hP, hK, hD0⟩ := hv
  have hx := B.exec
  have hb := B.bytes
  have hr := B.returns
  have ht : ∀ w ∈ zq_T, w.before ([.ref a_q0, .long p1] : List Value).toArray s = true := fun w hw => atoms_spec (ws := .code yJ7_fill_d0a16 cJ7_fill_d0a16 5 none :: zq_T) B.pre w (List.mem_cons_of_mem _ hw)
  have hown : s.vm.findClass RJ7 = some m.cls := findClass_of_methodNamed B.named
  have hlocks := B.notSynchronized
  subst hsz
  have hD := hD0.self (sz := s.heap.size)
  generalize hAe : va_A [(a_q0, .inl (dA 1, qn0, .inr (.inl b_q0)))] s.heap.size = A at hD ⊢
  have hA : ∀ q : Nat, s.heap.size ≤ q → A q := fun q h => by rw [← hAe]; exact Or.inr h
  clear hAe hD0
  have hS : va_S A s.heap s.heap [] := va_S.rf
  have hl := lv_entry ([.ref a_q0, .long p1]) (n := 5) (Nat.le_of_ble_eq_true rfl)
  rw [lg_entry_eq]
  generalize (lg_sl ([.ref a_q0, .long p1]) ++ List.replicate (5 - (lg_sl ([.ref a_q0, .long p1])).length) Slot.unset).toArray = ls at hl ⊢
  have hl : lv_has ls 5 [(0, .ref a_q0), (1, .long p1)] := hl
  refine lv_iconst (v := (0 : Int32)) (pc := 0) hx hb dJ7_fill_d0a16_0 (by decide) ?_
  refine lv_istore_n (lv' := [(3, .int (0 : Int32)), (0, .ref a_q0), (1, .long p1)]) (pc := 1) hx hb dJ7_fill_d0a16_1 rfl hl (by decide) rfl (fun ls hl => ?_)
  refine lv_aload_n (pc := 2) hx hb dJ7_fill_d0a16_2 rfl (lv_at hl 1 rfl) ?_
  refine va_alen (pc := 3) (v := (Int32.ofNat qn0)) hx hb hK hP 0 1 rfl rfl rfl dJ7_fill_d0a16_3 ?_
  obtain ⟨v1, hv1, hf⟩ := zc_1 hf
  refine zw_top (hv1) ?_
  refine lv_istore (lv' := [(4, .int v1), (3, .int (0 : Int32)), (0, .ref a_q0), (1, .long p1)]) (pc := 4) hx hb dJ7_fill_d0a16_4 hl (by decide) rfl (fun ls hl => ?_)
  obtain ⟨g8, v6, a7, hj, hf⟩ := zc_3 hf
  refine zj_join (pcJ := 22) (stk := []) (X := fun H locs ls => lv_has ls 5 [] ∧ va_P (dC, dI) zz_cls [(a_q0, .inl (dA 1, qn0, .inr (.inl a7)))] H ∧ va_D A [(a_q0, .inl (dA 1, qn0, .inr (.inl a7)))] ∧ va_S A s.heap H locs) (fun H locs ls hX => ?_) (fun E22 => ?_)
  · obtain ⟨hl, hP, hD, hS⟩ := hX
    clear hj
    obtain rfl := Option.some.inj hf
    exact W.vret (pc := 22) hx hb hr (fun t ht hW => ⟨⟨(), rfl, trivial, zz_Bi (by rw [ht]; exact hP) (va_K.moved hW.alike hK) (hD)⟩, hS.F ht⟩) hS.2.2 dJ7_fill_d0a16_22
  clear hf
  refine zw_loop (pcH := 6) (X := fun v H locs ls => lv_has ls 5 [(0, .ref a_q0), (1, .long p1), (3, .int v.1), (4, .int v1)] ∧ va_P (dC, dI) zz_cls [(a_q0, .inl (dA 1, qn0, .inr (.inl v.2)))] H ∧ va_D A [(a_q0, .inl (dA 1, qn0, .inr (.inl v.2)))] ∧ va_S A s.heap H locs) hj (fun v w hf ih ex H locs ls hX => ?_) _ _ _ ⟨lv_sub hl [2, 3, 1, 0] rfl, hP, hD, hS⟩
  clear hj
  obtain ⟨v2, a3⟩ := v
  obtain ⟨hl, hP, hD, hS⟩ := hX
  have hl : lv_has ls 5 [(0, .ref a_q0), (1, .long p1), (3, .int v2), (4, .int v1)] := hl
  have hP : va_P (dC, dI) zz_cls [(a_q0, .inl (dA 1, qn0, .inr (.inl a3)))] H := hP
  have hD : va_D A [(a_q0, .inl (dA 1, qn0, .inr (.inl a3)))] := hD
  replace hf : zb_J7_fill_d0a16_6 v1 qn0 p1 v2 a3 = some w := hf
  unfold zb_J7_fill_d0a16_6 at hf
  refine lv_iload_n (pc := 6) hx hb dJ7_fill_d0a16_6 rfl (lv_at hl 2 rfl) ?_
  refine lv_iload (pc := 7) hx hb dJ7_fill_d0a16_7 (lv_at hl 3 rfl) ?_
  refine lv_icmp_ge (tgt := 22) (pc := 9) hx hb dJ7_fill_d0a16_9 rfl (fun hc => ?_) (fun hc => ?_)
  · have hf := za_t hf hc
    obtain rfl := Option.some.inj hf
    obtain ⟨rfl, rfl, rfl⟩ := zp_3 (ex (show ¬ (1 : Nat) = 0 by decide))
    exact E22 _ _ _ ⟨lv_sub hl [] rfl, hP, hD, hS⟩
  · have hf := za_f hf hc
    refine lv_aload_n (pc := 12) hx hb dJ7_fill_d0a16_12 rfl (lv_at hl 0 rfl) ?_
    refine lv_iload_n (pc := 13) hx hb dJ7_fill_d0a16_13 rfl (lv_at hl 2 rfl) ?_
    refine lv_lload_n (pc := 14) hx hb dJ7_fill_d0a16_14 rfl (lv_at hl 1 rfl) ?_
    obtain ⟨a4, ha4, hf⟩ := zc_1 hf
    refine zw_last (pc := 15) hx hb hK hP hD hS 0 1 rfl rfl ha4 dJ7_fill_d0a16_15 (fun H locs hP hD hS => ?_)
    have hP : va_P (dC, dI) zz_cls [(a_q0, .inl (dA 1, qn0, .inr (.inl a4)))] H := hP
    have hD : va_D A [(a_q0, .inl (dA 1, qn0, .inr (.inl a4)))] := hD
    obtain ⟨v5, hv5, hf⟩ := zc_1 hf
    refine lv_iinc (v := v5) (lv' := [(3, .int v5), (0, .ref a_q0), (1, .long p1), (4, .int v1)]) (k := 2) (pc := 16) hx hb dJ7_fill_d0a16_16 hl rfl (Option.some.inj hv5) (by decide) rfl (fun ls hl => ?_)
    refine lv_goto (tgt := 6) (pc := 19) hx hb dJ7_fill_d0a16_19 rfl ?_
    obtain rfl := Option.some.inj hf
    exact ih rfl _ _ _ ⟨lv_sub hl [1, 2, 0, 3] rfl, hP, hD, hS⟩

def zf_X9_make (n : Nat) (f_o_missing : Int32) (f_o_size : Int32) (f_o_sort : Int32) (b_o_numbers : (Nat → Int64)) (p1 : Int32) (p2 : Int32) : Option (Int32 × Int32 × Int32 × (Nat → Int64)) :=
  zd_1 (zf_J7_fill_d0a16 n 40 b_o_numbers (0 : Int64)) (fun a1 =>
  some ((0 : Int32), p2, p1, a1))
theorem zk_X9_make : yX9_make.cls = RX9 ∧ yX9_make.cls ≠ "java/lang/invoke/MethodHandle" ∧ yX9_make.cls ≠ "java/lang/invoke/VarHandle" ∧ (parseMethodDescriptor yX9_make.desc).map (fun d => d.parameters.length) = some 2 := by decide +kernel
set_option maxHeartbeats 4000000 in
set_option maxRecDepth 100000 in
theorem zt_X9_make (l : Launch) (dC : Nat → ClassId) (dI : Nat → Nat → Nat) (dA : Nat → ClassId) (adK adV : Nat → Nat) (sz : Nat) (a_o : Nat) (a_o_numbers : Nat) (n : Nat) (f_o_missing : Int32) (f_o_size : Int32) (f_o_sort : Int32) (b_o_numbers : (Nat → Int64)) (p1 : Int32) (p2 : Int32) (o1 : Int32) (o2 : Int32) (o3 : Int32) (o4 : (Nat → Int64)) (hf : zf_X9_make n f_o_missing f_o_size f_o_sort b_o_numbers p1 p2 = some (o1, o2, o3, o4)) : Met l yX9_make (.code yX9_make cX9_make 3 none :: zq_T) ({ frames := 1, cells := 0, slots := 0, locals := 24 }) (va_Pc [.ref a_o, .int p1, .int p2] (zx_M dC dI dA adK adV [zo_X9 a_o f_o_missing a_o_numbers f_o_size f_o_sort, (a_o_numbers, .inl (dA 1, 40, .inr (.inl b_o_numbers)))] sz)) (va_Qv (fun _ : Unit => True) (fun _ t => zz_B dC dI dA (va_A [zo_X9 a_o f_o_missing a_o_numbers f_o_size f_o_sort, (a_o_numbers, .inl (dA 1, 40, .inr (.inl b_o_numbers)))] sz) [zo_X9 a_o o1 a_o_numbers o2 o3, (a_o_numbers, .inl (dA 1, 40, .inr (.inl o4)))] t) (va_A [zo_X9 a_o f_o_missing a_o_numbers f_o_size f_o_sort, (a_o_numbers, .inl (dA 1, 40, .inr (.inl b_o_numbers)))] sz)) 0 0 (va_A [zo_X9 a_o f_o_missing a_o_numbers f_o_size f_o_sort, (a_o_numbers, .inl (dA 1, 40, .inr (.inl b_o_numbers)))] sz) := by
  unfold zf_X9_make at hf
  refine Met.ofW (cc := cX9_make) (maxL := 3) (ret := none) (by decide) rfl ?_
  intro p e s m args below meth c s₁ B hml hv
  obtain ⟨rfl, ⟨hsz, hP, hK, hD0⟩, hZ⟩ := hv
  have hx := B.exec
  have hb := B.bytes
  have hr := B.returns
  have ht : ∀ w ∈ zq_T, w.before ([.ref a_o, .int p1, .int p2] : List Value).toArray s = true := fun w hw => atoms_spec (ws := .code yX9_make cX9_make 3 none :: zq_T) B.pre w (List.mem_cons_of_mem _ hw)
  have hown : s.vm.findClass RX9 = some m.cls := findClass_of_methodNamed B.named
  have hlocks := B.notSynchronized
  subst hsz
  have hD := hD0.self (sz := s.heap.size)
  generalize hAe : va_A [zo_X9 a_o f_o_missing a_o_numbers f_o_size f_o_sort, (a_o_numbers, .inl (dA 1, 40, .inr (.inl b_o_numbers)))] s.heap.size = A at hD hZ ⊢
  have hA : ∀ q : Nat, s.heap.size ≤ q → A q := fun q h => by rw [← hAe]; exact Or.inr h
  clear hAe hD0
  have hS : va_S A s.heap s.heap [] := va_S.rf
  have hl := lv_entry ([.ref a_o, .int p1, .int p2]) (n := 3) (Nat.le_of_ble_eq_true rfl)
  rw [lg_entry_eq]
  generalize (lg_sl ([.ref a_o, .int p1, .int p2]) ++ List.replicate (3 - (lg_sl ([.ref a_o, .int p1, .int p2])).length) Slot.unset).toArray = ls at hl ⊢
  have hl : lv_has ls 3 [(0, .ref a_o), (1, .int p1), (2, .int p2)] := hl
  refine lv_aload_n (pc := 0) hx hb dX9_make_0 rfl (lv_at hl 0 rfl) ?_
  refine lv_iconst (v := (0 : Int32)) (pc := 1) hx hb dX9_make_1 (by decide) ?_
  refine va_put (pc := 2) (D := (dC, dI)) (ci := 10) (v := .int (0 : Int32)) (ty := .boolean) (C := RX9) (T := TX9) (N := 4) hx hb ht zq_layX9 tyX9 tyX9_ok nmX9 hown hK hP hD hS 0 rfl rfl 0 (by decide) (ht _ zq_580) (fun _ h9 => h9) rfl (by decide +kernel) rfl rfl (Nat.le_of_ble_eq_true rfl) dX9_make_2 (fun H locs hP hD hS => ?_)
  have hP : va_P (dC, dI) zz_cls [zo_X9 a_o (0 : Int32) a_o_numbers f_o_size f_o_sort, (a_o_numbers, .inl (dA 1, 40, .inr (.inl b_o_numbers)))] H := hP
  have hD : va_D A [zo_X9 a_o (0 : Int32) a_o_numbers f_o_size f_o_sort, (a_o_numbers, .inl (dA 1, 40, .inr (.inl b_o_numbers)))] := hD
  refine lv_aload_n (pc := 5) hx hb dX9_make_5 rfl (lv_at hl 0 rfl) ?_
  refine lv_iload_n (pc := 6) hx hb dX9_make_6 rfl (lv_at hl 1 rfl) ?_
  refine va_put (pc := 7) (D := (dC, dI)) (ci := 10) (v := .int p1) (ty := .int) (C := RX9) (T := TX9) (N := 4) hx hb ht zq_layX9 tyX9 tyX9_ok nmX9 hown hK hP hD hS 0 rfl rfl 3 (by decide) (ht _ zq_584) (fun _ h9 => h9) rfl (by decide +kernel) rfl rfl (Nat.le_of_ble_eq_true rfl) dX9_make_7 (fun H locs hP hD hS => ?_)
  have hP : va_P (dC, dI) zz_cls [zo_X9 a_o (0 : Int32) a_o_numbers f_o_size p1, (a_o_numbers, .inl (dA 1, 40, .inr (.inl b_o_numbers)))] H := hP
  have hD : va_D A [zo_X9 a_o (0 : Int32) a_o_numbers f_o_size p1, (a_o_numbers, .inl (dA 1, 40, .inr (.inl b_o_numbers)))] := hD
  refine lv_aload_n (pc := 10) hx hb dX9_make_10 rfl (lv_at hl 0 rfl) ?_
  refine lv_iload_n (pc := 11) hx hb dX9_make_11 rfl (lv_at hl 2 rfl) ?_
  refine va_put (pc := 12) (D := (dC, dI)) (ci := 10) (v := .int p2) (ty := .int) (C := RX9) (T := TX9) (N := 4) hx hb ht zq_layX9 tyX9 tyX9_ok nmX9 hown hK hP hD hS 0 rfl rfl 2 (by decide) (ht _ zq_583) (fun _ h9 => h9) rfl (by decide +kernel) rfl rfl (Nat.le_of_ble_eq_true rfl) dX9_make_12 (fun H locs hP hD hS => ?_)
  have hP : va_P (dC, dI) zz_cls [zo_X9 a_o (0 : Int32) a_o_numbers p2 p1, (a_o_numbers, .inl (dA 1, 40, .inr (.inl b_o_numbers)))] H := hP
  have hD : va_D A [zo_X9 a_o (0 : Int32) a_o_numbers p2 p1, (a_o_numbers, .inl (dA 1, 40, .inr (.inl b_o_numbers)))] := hD
  refine lv_aload_n (pc := 15) hx hb dX9_make_15 rfl (lv_at hl 0 rfl) ?_
  refine va_get (pc := 16) (D := (dC, dI)) (ci := 10) (v := .ref a_o_numbers) (C := RX9) (T := TX9) (N := 4) hx hb ht zq_layX9 hown hK hP 0 rfl rfl 1 (by decide) (ht _ zq_582) (fun _ h9 => h9) rfl dX9_make_16 ?_
  refine lv_lconst (v := (0 : Int64)) (pc := 19) hx hb dX9_make_19 (by decide) ?_
  obtain ⟨a1, ha1, hf⟩ := zc_1 hf
  refine zy_Tv (pc := 20) (wc := [(a_o_numbers, .inl (dA 1, 40, .inr (.inl b_o_numbers)))]) (wr := [zo_X9 a_o (0 : Int32) a_o_numbers p2 p1]) (w1 := [(a_o_numbers, .inl (dA 1, 40, .inr (.inl a1)))]) (As := [.ref a_o_numbers, .long (0 : Int64)]) (rest := []) ⟨hx, hb, hml, hown, ht⟩ (zt_J7_fill_d0a16 l dC dI dA adK adV _ a_o_numbers 40 n b_o_numbers (0 : Int64) a1 ha1) (va_cwS 2 ht (zq_X zq_586 zq_587 zq_25 zq_588) rfl rfl rfl zk_J7_fill_d0a16.2 ⟨Nat.le_of_ble_eq_true rfl, Nat.le_of_ble_eq_true rfl⟩) hK hP hD hS hA [1] [0] (by decide) (by decide) (by decide) rfl rfl rfl hl.1 (Nat.le_of_ble_eq_true rfl) dX9_make_20 ⟨Nat.zero_le _, Nat.zero_le _⟩ rfl (fun H locs hP hD hS => ?_)
  have hP : va_P (dC, dI) zz_cls [zo_X9 a_o (0 : Int32) a_o_numbers p2 p1, (a_o_numbers, .inl (dA 1, 40, .inr (.inl a1)))] H := hP
  have hD : va_D A [zo_X9 a_o (0 : Int32) a_o_numbers p2 p1, (a_o_numbers, .inl (dA 1, 40, .inr (.inl a1)))] := hD
  obtain ⟨rfl, rfl, rfl, rfl⟩ := zi_4 hf
  exact W.vret (pc := 23) hx hb hr (fun t ht hW => ⟨⟨(), rfl, trivial, zz_Bi (by rw [ht]; exact hP) (va_K.moved hW.alike hK) (hD)⟩, hS.F ht⟩) hS.2.2 dX9_make_23

def zf_X9_put (f_o_sort : Int32) (b_o_numbers : (Nat → Int64)) (p1 : Int32) (p2 : Int64) : Option (Int64 × (Nat → Int64)) :=
  zd_1 (
    if f_o_sort = (0 : Int32) then
      zd_1 (za_st b_o_numbers 40 p1 (Int32.toInt64 ((Int32.toInt8 (Int64.toInt32 p2)).toInt32))) (fun a1 =>
      some a1)
    else if f_o_sort = (1 : Int32) then
      zd_1 (za_st b_o_numbers 40 p1 (Int32.toInt64 ((Int32.toInt16 (Int64.toInt32 p2)).toInt32))) (fun a2 =>
      some a2)
    else if f_o_sort = (2 : Int32) then
      zd_1 (za_st b_o_numbers 40 p1 (Int32.toInt64 (Int64.toInt32 p2))) (fun a3 =>
      some a3)
    else
      zd_1 (za_st b_o_numbers 40 p1 p2) (fun a4 =>
      some a4)) (fun a5 =>
  zd_1 (za_ld a5 40 p1) (fun v6 =>
  some (v6, a5)))
theorem zk_X9_put : yX9_put.cls = RX9 ∧ yX9_put.cls ≠ "java/lang/invoke/MethodHandle" ∧ yX9_put.cls ≠ "java/lang/invoke/VarHandle" ∧ (parseMethodDescriptor yX9_put.desc).map (fun d => d.parameters.length) = some 2 := by decide +kernel
set_option maxHeartbeats 4000000 in
set_option maxRecDepth 100000 in
theorem zt_X9_put (l : Launch) (dC : Nat → ClassId) (dI : Nat → Nat → Nat) (dA : Nat → ClassId) (adK adV : Nat → Nat) (sz : Nat) (a_o : Nat) (a_o_numbers : Nat) (f_o_missing : Int32) (f_o_size : Int32) (f_o_sort : Int32) (b_o_numbers : (Nat → Int64)) (p1 : Int32) (p2 : Int64) (r0 : Int64) (o1 : (Nat → Int64)) (hf : zf_X9_put f_o_sort b_o_numbers p1 p2 = some (r0, o1)) : Met l yX9_put (.code yX9_put cX9_put 4 (some .long) :: zq_T) ({ frames := 0, cells := 0, slots := 0, locals := 0 }) (va_Pc [.ref a_o, .int p1, .long p2] (zx_M dC dI dA adK adV [zo_X9 a_o f_o_missing a_o_numbers f_o_size f_o_sort, (a_o_numbers, .inl (dA 1, 40, .inr (.inl b_o_numbers)))] sz)) (va_Ql (fun (r : Int64) (_ : Unit) => r = r0) (fun _ t => zz_B dC dI dA (va_A [zo_X9 a_o f_o_missing a_o_numbers f_o_size f_o_sort, (a_o_numbers, .inl (dA 1, 40, .inr (.inl b_o_numbers)))] sz) [zo_X9 a_o f_o_missing a_o_numbers f_o_size f_o_sort, (a_o_numbers, .inl (dA 1, 40, .inr (.inl o1)))] t) (va_A [zo_X9 a_o f_o_missing a_o_numbers f_o_size f_o_sort, (a_o_numbers, .inl (dA 1, 40, .inr (.inl b_o_numbers)))] sz)) 0 0 (va_A [zo_X9 a_o f_o_missing a_o_numbers f_o_size f_o_sort, (a_o_numbers, .inl (dA 1, 40, .inr (.inl b_o_numbers)))] sz) := by
  unfold zf_X9_put at hf
  refine Met.ofW (cc := cX9_put) (maxL := 4) (ret := (some .long)) (by decide) rfl ?_
  intro p e s m args below meth c s₁ B hml hv
  obtain ⟨rfl, ⟨hsz, hP, hK, hD0⟩, hZ⟩ := hv
  have hx := B.exec
  have hb := B.bytes
  have hr := B.returns
  have ht : ∀ w ∈ zq_T, w.before ([.ref a_o, .int p1, .long p2] : List Value).toArray s = true := fun w hw => atoms_spec (ws := .code yX9_put cX9_put 4 (some .long) :: zq_T) B.pre w (List.mem_cons_of_mem _ hw)
  have hown : s.vm.findClass RX9 = some m.cls := findClass_of_methodNamed B.named
  have hlocks := B.notSynchronized
  subst hsz
  have hD := hD0.self (sz := s.heap.size)
  generalize hAe : va_A [zo_X9 a_o f_o_missing a_o_numbers f_o_size f_o_sort, (a_o_numbers, .inl (dA 1, 40, .inr (.inl b_o_numbers)))] s.heap.size = A at hD hZ ⊢
  have hA : ∀ q : Nat, s.heap.size ≤ q → A q := fun q h => by rw [← hAe]; exact Or.inr h
  clear hAe hD0
  have hS : va_S A s.heap s.heap [] := va_S.rf
  have hl := lv_entry ([.ref a_o, .int p1, .long p2]) (n := 4) (Nat.le_of_ble_eq_true rfl)
  rw [lg_entry_eq]
  generalize (lg_sl ([.ref a_o, .int p1, .long p2]) ++ List.replicate (4 - (lg_sl ([.ref a_o, .int p1, .long p2])).length) Slot.unset).toArray = ls at hl ⊢
  have hl : lv_has ls 4 [(0, .ref a_o), (1, .int p1), (2, .long p2)] := hl
  refine lv_aload_n (pc := 0) hx hb dX9_put_0 rfl (lv_at hl 0 rfl) ?_
  refine va_get (pc := 1) (D := (dC, dI)) (ci := 10) (v := .int f_o_sort) (C := RX9) (T := TX9) (N := 4) hx hb ht zq_layX9 hown hK hP 0 rfl rfl 3 (by decide) (ht _ zq_584) (fun _ h9 => h9) rfl dX9_put_1 ?_
  obtain ⟨a5, hj, hf⟩ := zc_1 hf
  refine zj_join (pcJ := 77) (stk := []) (X := fun H locs ls => lv_has ls 4 [(0, .ref a_o), (1, .int p1)] ∧ va_P (dC, dI) zz_cls [zo_X9 a_o f_o_missing a_o_numbers f_o_size f_o_sort, (a_o_numbers, .inl (dA 1, 40, .inr (.inl a5)))] H ∧ va_D A [zo_X9 a_o f_o_missing a_o_numbers f_o_size f_o_sort, (a_o_numbers, .inl (dA 1, 40, .inr (.inl a5)))] ∧ va_S A s.heap H locs) (fun H locs ls hX => ?_) (fun J77 => ?_)
  · obtain ⟨hl, hP, hD, hS⟩ := hX
    clear hj
    refine lv_aload_n (pc := 77) hx hb dX9_put_77 rfl (lv_at hl 0 rfl) ?_
    refine va_get (pc := 78) (D := (dC, dI)) (ci := 10) (v := .ref a_o_numbers) (C := RX9) (T := TX9) (N := 4) hx hb ht zq_layX9 hown hK hP 0 rfl rfl 1 (by decide) (ht _ zq_582) (fun _ h9 => h9) rfl dX9_put_78 ?_
    refine lv_iload_n (pc := 81) hx hb dX9_put_81 rfl (lv_at hl 1 rfl) ?_
    obtain ⟨v6, hv6, hf⟩ := zc_1 hf
    refine zw_lald (pc := 82) hx hb hK hP 1 1 rfl rfl hv6 dX9_put_82 ?_
    obtain ⟨rfl, rfl⟩ := zi_2 hf
    exact W.lret (pc := 83) hx hb hr (fun t ht hW => ⟨⟨_, (), rfl, rfl, zz_Bi (by rw [ht]; exact hP) (va_K.moved hW.alike hK) (hD)⟩, hS.F ht⟩) hS.2.2 dX9_put_83
  · clear hf
    have hf := hj
    clear hj
    by_cases hc0 : f_o_sort = (0 : Int32)
    · have hf := za_t hf hc0
      refine lv_tableIn (tgt := 32) (off := 28) (pc := 4) hx hb dX9_put_4 (by rw [hc0]; decide) (by rw [hc0]; decide) (by rw [hc0]; decide) rfl ?_
      refine lv_aload_n (pc := 32) hx hb dX9_put_32 rfl (lv_at hl 0 rfl) ?_
      refine va_get (pc := 33) (D := (dC, dI)) (ci := 10) (v := .ref a_o_numbers) (C := RX9) (T := TX9) (N := 4) hx hb ht zq_layX9 hown hK hP 0 rfl rfl 1 (by decide) (ht _ zq_582) (fun _ h9 => h9) rfl dX9_put_33 ?_
      refine lv_iload_n (pc := 36) hx hb dX9_put_36 rfl (lv_at hl 1 rfl) ?_
      refine lv_lload_n (pc := 37) hx hb dX9_put_37 rfl (lv_at hl 2 rfl) ?_
      refine lv_l2i (pc := 38) hx hb dX9_put_38 rfl ?_
      refine lv_i2b (pc := 39) hx hb dX9_put_39 rfl ?_
      refine lv_i2l (pc := 40) hx hb dX9_put_40 rfl ?_
      obtain ⟨a1, ha1, hf⟩ := zc_1 hf
      refine zw_last (pc := 41) hx hb hK hP hD hS 1 1 rfl rfl ha1 dX9_put_41 (fun H locs hP hD hS => ?_)
      have hP : va_P (dC, dI) zz_cls [zo_X9 a_o f_o_missing a_o_numbers f_o_size f_o_sort, (a_o_numbers, .inl (dA 1, 40, .inr (.inl a1)))] H := hP
      have hD : va_D A [zo_X9 a_o f_o_missing a_o_numbers f_o_size f_o_sort, (a_o_numbers, .inl (dA 1, 40, .inr (.inl a1)))] := hD
      refine lv_goto (tgt := 77) (pc := 42) hx hb dX9_put_42 rfl ?_
      obtain rfl := Option.some.inj hf
      exact J77 _ _ _ ⟨lv_sub hl [0, 1] rfl, hP, hD, hS⟩
    have hf := za_f hf hc0
    by_cases hc1 : f_o_sort = (1 : Int32)
    · have hf := za_t hf hc1
      refine lv_tableIn (tgt := 45) (off := 41) (pc := 4) hx hb dX9_put_4 (by rw [hc1]; decide) (by rw [hc1]; decide) (by rw [hc1]; decide) rfl ?_
      refine lv_aload_n (pc := 45) hx hb dX9_put_45 rfl (lv_at hl 0 rfl) ?_
      refine va_get (pc := 46) (D := (dC, dI)) (ci := 10) (v := .ref a_o_numbers) (C := RX9) (T := TX9) (N := 4) hx hb ht zq_layX9 hown hK hP 0 rfl rfl 1 (by decide) (ht _ zq_582) (fun _ h9 => h9) rfl dX9_put_46 ?_
      refine lv_iload_n (pc := 49) hx hb dX9_put_49 rfl (lv_at hl 1 rfl) ?_
      refine lv_lload_n (pc := 50) hx hb dX9_put_50 rfl (lv_at hl 2 rfl) ?_
      refine lv_l2i (pc := 51) hx hb dX9_put_51 rfl ?_
      refine lv_i2s (pc := 52) hx hb dX9_put_52 rfl ?_
      refine lv_i2l (pc := 53) hx hb dX9_put_53 rfl ?_
      obtain ⟨a2, ha2, hf⟩ := zc_1 hf
      refine zw_last (pc := 54) hx hb hK hP hD hS 1 1 rfl rfl ha2 dX9_put_54 (fun H locs hP hD hS => ?_)
      have hP : va_P (dC, dI) zz_cls [zo_X9 a_o f_o_missing a_o_numbers f_o_size f_o_sort, (a_o_numbers, .inl (dA 1, 40, .inr (.inl a2)))] H := hP
      have hD : va_D A [zo_X9 a_o f_o_missing a_o_numbers f_o_size f_o_sort, (a_o_numbers, .inl (dA 1, 40, .inr (.inl a2)))] := hD
      refine lv_goto (tgt := 77) (pc := 55) hx hb dX9_put_55 rfl ?_
      obtain rfl := Option.some.inj hf
      exact J77 _ _ _ ⟨lv_sub hl [0, 1] rfl, hP, hD, hS⟩
    have hf := za_f hf hc1
    by_cases hc2 : f_o_sort = (2 : Int32)
    · have hf := za_t hf hc2
      refine lv_tableIn (tgt := 58) (off := 54) (pc := 4) hx hb dX9_put_4 (by rw [hc2]; decide) (by rw [hc2]; decide) (by rw [hc2]; decide) rfl ?_
      refine lv_aload_n (pc := 58) hx hb dX9_put_58 rfl (lv_at hl 0 rfl) ?_
      refine va_get (pc := 59) (D := (dC, dI)) (ci := 10) (v := .ref a_o_numbers) (C := RX9) (T := TX9) (N := 4) hx hb ht zq_layX9 hown hK hP 0 rfl rfl 1 (by decide) (ht _ zq_582) (fun _ h9 => h9) rfl dX9_put_59 ?_
      refine lv_iload_n (pc := 62) hx hb dX9_put_62 rfl (lv_at hl 1 rfl) ?_
      refine lv_lload_n (pc := 63) hx hb dX9_put_63 rfl (lv_at hl 2 rfl) ?_
      refine lv_l2i (pc := 64) hx hb dX9_put_64 rfl ?_
      refine lv_i2l (pc := 65) hx hb dX9_put_65 rfl ?_
      obtain ⟨a3, ha3, hf⟩ := zc_1 hf
      refine zw_last (pc := 66) hx hb hK hP hD hS 1 1 rfl rfl ha3 dX9_put_66 (fun H locs hP hD hS => ?_)
      have hP : va_P (dC, dI) zz_cls [zo_X9 a_o f_o_missing a_o_numbers f_o_size f_o_sort, (a_o_numbers, .inl (dA 1, 40, .inr (.inl a3)))] H := hP
      have hD : va_D A [zo_X9 a_o f_o_missing a_o_numbers f_o_size f_o_sort, (a_o_numbers, .inl (dA 1, 40, .inr (.inl a3)))] := hD
      refine lv_goto (tgt := 77) (pc := 67) hx hb dX9_put_67 rfl ?_
      obtain rfl := Option.some.inj hf
      exact J77 _ _ _ ⟨lv_sub hl [0, 1] rfl, hP, hD, hS⟩
    have hf := za_f hf hc2
    refine lv_tableOut (tgt := 70) (pc := 4) hx hb dX9_put_4 (by have q0 := lv_neT (a := 0) hc0 (by decide); have q1 := lv_neT (a := 1) hc1 (by decide); have q2 := lv_neT (a := 2) hc2 (by decide); omega) rfl ?_
    refine lv_aload_n (pc := 70) hx hb dX9_put_70 rfl (lv_at hl 0 rfl) ?_
    refine va_get (pc := 71) (D := (dC, dI)) (ci := 10) (v := .ref a_o_numbers) (C := RX9) (T := TX9) (N := 4) hx hb ht zq_layX9 hown hK hP 0 rfl rfl 1 (by decide) (ht _ zq_582) (fun _ h9 => h9) rfl dX9_put_71 ?_
    refine lv_iload_n (pc := 74) hx hb dX9_put_74 rfl (lv_at hl 1 rfl) ?_
    refine lv_lload_n (pc := 75) hx hb dX9_put_75 rfl (lv_at hl 2 rfl) ?_
    obtain ⟨a4, ha4, hf⟩ := zc_1 hf
    refine zw_last (pc := 76) hx hb hK hP hD hS 1 1 rfl rfl ha4 dX9_put_76 (fun H locs hP hD hS => ?_)
    have hP : va_P (dC, dI) zz_cls [zo_X9 a_o f_o_missing a_o_numbers f_o_size f_o_sort, (a_o_numbers, .inl (dA 1, 40, .inr (.inl a4)))] H := hP
    have hD : va_D A [zo_X9 a_o f_o_missing a_o_numbers f_o_size f_o_sort, (a_o_numbers, .inl (dA 1, 40, .inr (.inl a4)))] := hD
    obtain rfl := Option.some.inj hf
    exact J77 _ _ _ ⟨lv_sub hl [0, 1] rfl, hP, hD, hS⟩

def zf_X9_deedAt (b_o_numbers : (Nat → Int64)) (p1 : Int32) : Option (Int32) :=
  zd_1 (za_ld b_o_numbers 40 p1) (fun v1 =>
  if (lg_cmp v1 (0 : Int64)) < 0 then
    some (-1 : Int32)
  else
    if 0 ≤ (lg_cmp v1 (40 : Int64)) then
      some (-1 : Int32)
    else
      some (Int64.toInt32 v1))
theorem zk_X9_deedAt : yX9_deedAt.cls = RX9 ∧ yX9_deedAt.cls ≠ "java/lang/invoke/MethodHandle" ∧ yX9_deedAt.cls ≠ "java/lang/invoke/VarHandle" ∧ (parseMethodDescriptor yX9_deedAt.desc).map (fun d => d.parameters.length) = some 1 := by decide +kernel
set_option maxHeartbeats 4000000 in
set_option maxRecDepth 100000 in
theorem zt_X9_deedAt (l : Launch) (dC : Nat → ClassId) (dI : Nat → Nat → Nat) (dA : Nat → ClassId) (adK adV : Nat → Nat) (sz : Nat) (a_o : Nat) (a_o_numbers : Nat) (f_o_missing : Int32) (f_o_size : Int32) (f_o_sort : Int32) (b_o_numbers : (Nat → Int64)) (p1 : Int32) (r0 : Int32) (hf : zf_X9_deedAt b_o_numbers p1 = some r0) : Met l yX9_deedAt (.code yX9_deedAt cX9_deedAt 4 (some .int) :: zq_T) ({ frames := 0, cells := 0, slots := 0, locals := 0 }) (va_Pc [.ref a_o, .int p1] (zx_M dC dI dA adK adV [zo_X9 a_o f_o_missing a_o_numbers f_o_size f_o_sort, (a_o_numbers, .inl (dA 1, 40, .inr (.inl b_o_numbers)))] sz)) (va_Qi (fun (r : Int32) (_ : Unit) => r = r0) (fun _ t => zz_B dC dI dA (va_A [zo_X9 a_o f_o_missing a_o_numbers f_o_size f_o_sort, (a_o_numbers, .inl (dA 1, 40, .inr (.inl b_o_numbers)))] sz) [zo_X9 a_o f_o_missing a_o_numbers f_o_size f_o_sort, (a_o_numbers, .inl (dA 1, 40, .inr (.inl b_o_numbers)))] t) (va_A [zo_X9 a_o f_o_missing a_o_numbers f_o_size f_o_sort, (a_o_numbers, .inl (dA 1, 40, .inr (.inl b_o_numbers)))] sz)) 0 0 (va_A [zo_X9 a_o f_o_missing a_o_numbers f_o_size f_o_sort, (a_o_numbers, .inl (dA 1, 40, .inr (.inl b_o_numbers)))] sz) := by
  unfold zf_X9_deedAt at hf
  refine Met.ofW (cc := cX9_deedAt) (maxL := 4) (ret := (some .int)) (by decide) rfl ?_
  intro p e s m args below meth c s₁ B hml hv
  obtain ⟨rfl, ⟨hsz, hP, hK, hD0⟩, hZ⟩ := hv
  have hx := B.exec
  have hb := B.bytes
  have hr := B.returns
  have ht : ∀ w ∈ zq_T, w.before ([.ref a_o, .int p1] : List Value).toArray s = true := fun w hw => atoms_spec (ws := .code yX9_deedAt cX9_deedAt 4 (some .int) :: zq_T) B.pre w (List.mem_cons_of_mem _ hw)
  have hown : s.vm.findClass RX9 = some m.cls := findClass_of_methodNamed B.named
  have hlocks := B.notSynchronized
  subst hsz
  have hD := hD0.self (sz := s.heap.size)
  generalize hAe : va_A [zo_X9 a_o f_o_missing a_o_numbers f_o_size f_o_sort, (a_o_numbers, .inl (dA 1, 40, .inr (.inl b_o_numbers)))] s.heap.size = A at hD hZ ⊢
  have hA : ∀ q : Nat, s.heap.size ≤ q → A q := fun q h => by rw [← hAe]; exact Or.inr h
  clear hAe hD0
  have hS : va_S A s.heap s.heap [] := va_S.rf
  have hl := lv_entry ([.ref a_o, .int p1]) (n := 4) (Nat.le_of_ble_eq_true rfl)
  rw [lg_entry_eq]
  generalize (lg_sl ([.ref a_o, .int p1]) ++ List.replicate (4 - (lg_sl ([.ref a_o, .int p1])).length) Slot.unset).toArray = ls at hl ⊢
  have hl : lv_has ls 4 [(0, .ref a_o), (1, .int p1)] := hl
  refine lv_aload_n (pc := 0) hx hb dX9_deedAt_0 rfl (lv_at hl 0 rfl) ?_
  refine va_get (pc := 1) (D := (dC, dI)) (ci := 10) (v := .ref a_o_numbers) (C := RX9) (T := TX9) (N := 4) hx hb ht zq_layX9 hown hK hP 0 rfl rfl 1 (by decide) (ht _ zq_582) (fun _ h9 => h9) rfl dX9_deedAt_1 ?_
  refine lv_iload_n (pc := 4) hx hb dX9_deedAt_4 rfl (lv_at hl 1 rfl) ?_
  obtain ⟨v1, hv1, hf⟩ := zc_1 hf
  refine zw_lald (pc := 5) hx hb hK hP 1 1 rfl rfl hv1 dX9_deedAt_5 ?_
  refine lv_lstore_n (lv' := [(2, .long v1), (0, .ref a_o), (1, .int p1)]) (pc := 6) hx hb dX9_deedAt_6 rfl hl (by decide) rfl (fun ls hl => ?_)
  refine lv_lload_n (pc := 7) hx hb dX9_deedAt_7 rfl (lv_at hl 0 rfl) ?_
  refine lv_lconst (v := (0 : Int64)) (pc := 8) hx hb dX9_deedAt_8 (by decide) ?_
  refine W.lcmp (pc := 9) hx hb dX9_deedAt_9 ?_
  refine lv_if_lt (tgt := 26) (pc := 10) hx hb dX9_deedAt_10 rfl (fun hc => ?_) (fun hc => ?_)
  · have hf := za_t hf hc
    refine lv_iconst (v := (-1 : Int32)) (pc := 26) hx hb dX9_deedAt_26 (by decide) ?_
    obtain rfl := Option.some.inj hf
    exact W.iret (pc := 27) hx hb hr (fun t ht hW => ⟨⟨_, (), rfl, rfl, zz_Bi (by rw [ht]; exact hP) (va_K.moved hW.alike hK) (hD)⟩, hS.F ht⟩) hS.2.2 dX9_deedAt_27
  · have hf := za_f hf hc
    refine lv_lload_n (pc := 13) hx hb dX9_deedAt_13 rfl (lv_at hl 0 rfl) ?_
    refine lv_ldc2 (v := (40 : Int64)) (pc := 14) hx hb hown (ht _ zq_591) dX9_deedAt_14 ?_
    refine W.lcmp (pc := 17) hx hb dX9_deedAt_17 ?_
    refine lv_if_ge (tgt := 26) (pc := 18) hx hb dX9_deedAt_18 rfl (fun hc => ?_) (fun hc => ?_)
    · have hf := za_t hf hc
      refine lv_iconst (v := (-1 : Int32)) (pc := 26) hx hb dX9_deedAt_26 (by decide) ?_
      obtain rfl := Option.some.inj hf
      exact W.iret (pc := 27) hx hb hr (fun t ht hW => ⟨⟨_, (), rfl, rfl, zz_Bi (by rw [ht]; exact hP) (va_K.moved hW.alike hK) (hD)⟩, hS.F ht⟩) hS.2.2 dX9_deedAt_27
    · have hf := za_f hf hc
      refine lv_lload_n (pc := 21) hx hb dX9_deedAt_21 rfl (lv_at hl 0 rfl) ?_
      refine lv_l2i (pc := 22) hx hb dX9_deedAt_22 rfl ?_
      refine lv_goto (tgt := 27) (pc := 23) hx hb dX9_deedAt_23 rfl ?_
      obtain rfl := Option.some.inj hf
      exact W.iret (pc := 27) hx hb hr (fun t ht hW => ⟨⟨_, (), rfl, rfl, zz_Bi (by rw [ht]; exact hP) (va_K.moved hW.alike hK) (hD)⟩, hS.F ht⟩) hS.2.2 dX9_deedAt_27

def zb_X10_tapeInt_3 (p1 : Int32) (v1 : Int32) (v2 : Int32) (a3 : (Nat → Int32)) : Option (Nat × Int32 × Int32 × (Nat → Int32)) :=
  if v1 < 0 then
    some (1, v1, v2, a3)
  else
    if (900 : Int32) ≤ v2 then
      some (1, v1, v2, a3)
    else
      zd_1 (some (((Int32.toUInt32 p1 >>> (Int32.toUInt32 v1 &&& Int32.toUInt32 31)).toInt32))) (fun v4 =>
      zd_1 (za_st a3 900 v2 (v4 &&& (255 : Int32))) (fun a5 =>
      zd_1 (some ((v2 + (1 : Int32)))) (fun v6 =>
      zd_1 (some (v1 + (-8 : Int32))) (fun v7 =>
      some (0, v7, v6, a5)))))
def zf_X10_tapeInt (n : Nat) (f_o_taped : Int32) (b_tape : (Nat → Int32)) (p1 : Int32) : Option (Int32 × (Nat → Int32)) :=
  zd_4 (za_it (fun v => zb_X10_tapeInt_3 p1 v.1 v.2.1 v.2.2) n ((24 : Int32), f_o_taped, b_tape)) (fun g11 v8 v9 a10 =>
  some (v9, a10))
theorem zk_X10_tapeInt : yX10_tapeInt.cls = RX10 ∧ yX10_tapeInt.cls ≠ "java/lang/invoke/MethodHandle" ∧ yX10_tapeInt.cls ≠ "java/lang/invoke/VarHandle" ∧ (parseMethodDescriptor yX10_tapeInt.desc).map (fun d => d.parameters.length) = some 1 := by decide +kernel
set_option maxHeartbeats 4000000 in
set_option maxRecDepth 100000 in
theorem zt_X10_tapeInt (l : Launch) (dC : Nat → ClassId) (dI : Nat → Nat → Nat) (dA : Nat → ClassId) (adK adV : Nat → Nat) (sz : Nat) (a_o : Nat) (a_tape : Nat) (a_c : Nat) (a_sp : Nat) (a_rd : Nat) (a_now : Nat) (a_tri : Nat) (a_past : Nat) (a_trays : Nat) (a_ics : Nat) (a_ips : Nat) (a_w : Nat) (a_m : Nat) (a_g : Nat) (a_rw : Nat) (a_sl : Nat) (a_sh : Nat) (n : Nat) (f_o_taped : Int32) (f_o_undoable : Int32) (b_tape : (Nat → Int32)) (p1 : Int32) (o1 : Int32) (o2 : (Nat → Int32)) (hf : zf_X10_tapeInt n f_o_taped b_tape p1 = some (o1, o2)) : Met l yX10_tapeInt (.code yX10_tapeInt cX10_tapeInt 3 none :: zq_T) ({ frames := 0, cells := 0, slots := 0, locals := 0 }) (va_Pc [.ref a_o, .int p1] (zx_M dC dI dA adK adV [zo_X10 a_o a_tape f_o_taped a_c a_sp a_rd a_now a_tri a_past f_o_undoable a_trays a_ics a_ips a_w a_m a_g a_rw a_sl a_sh, (a_tape, .inl (dA 0, 900, .inl b_tape))] sz)) (va_Qv (fun _ : Unit => True) (fun _ t => zz_B dC dI dA (va_A [zo_X10 a_o a_tape f_o_taped a_c a_sp a_rd a_now a_tri a_past f_o_undoable a_trays a_ics a_ips a_w a_m a_g a_rw a_sl a_sh, (a_tape, .inl (dA 0, 900, .inl b_tape))] sz) [zo_X10 a_o a_tape o1 a_c a_sp a_rd a_now a_tri a_past f_o_undoable a_trays a_ics a_ips a_w a_m a_g a_rw a_sl a_sh, (a_tape, .inl (dA 0, 900, .inl o2))] t) (va_A [zo_X10 a_o a_tape f_o_taped a_c a_sp a_rd a_now a_tri a_past f_o_undoable a_trays a_ics a_ips a_w a_m a_g a_rw a_sl a_sh, (a_tape, .inl (dA 0, 900, .inl b_tape))] sz)) 0 0 (va_A [zo_X10 a_o a_tape f_o_taped a_c a_sp a_rd a_now a_tri a_past f_o_undoable a_trays a_ics a_ips a_w a_m a_g a_rw a_sl a_sh, (a_tape, .inl (dA 0, 900, .inl b_tape))] sz) := by
  unfold zf_X10_tapeInt at hf
  refine Met.ofW (cc := cX10_tapeInt) (maxL := 3) (ret := none) (by decide) rfl ?_
  intro p e s m args below meth c s₁ B hml hv
  obtain ⟨rfl, ⟨hsz, hP, hK, hD0⟩, hZ⟩ := hv
  have hx := B.exec
  have hb := B.bytes
  have hr := B.returns
  have ht : ∀ w ∈ zq_T, w.before ([.ref a_o, .int p1] : List Value).toArray s = true := fun w hw => atoms_spec (ws := .code yX10_tapeInt cX10_tapeInt 3 none :: zq_T) B.pre w (List.mem_cons_of_mem _ hw)
  have hown : s.vm.findClass RX10 = some m.cls := findClass_of_methodNamed B.named
  have hlocks := B.notSynchronized
  subst hsz
  have hD := hD0.self (sz := s.heap.size)
  generalize hAe : va_A [zo_X10 a_o a_tape f_o_taped a_c a_sp a_rd a_now a_tri a_past f_o_undoable a_trays a_ics a_ips a_w a_m a_g a_rw a_sl a_sh, (a_tape, .inl (dA 0, 900, .inl b_tape))] s.heap.size = A at hD hZ ⊢
  have hA : ∀ q : Nat, s.heap.size ≤ q → A q := fun q h => by rw [← hAe]; exact Or.inr h
  clear hAe hD0
  have hS : va_S A s.heap s.heap [] := va_S.rf
  have hl := lv_entry ([.ref a_o, .int p1]) (n := 3) (Nat.le_of_ble_eq_true rfl)
  rw [lg_entry_eq]
  generalize (lg_sl ([.ref a_o, .int p1]) ++ List.replicate (3 - (lg_sl ([.ref a_o, .int p1])).length) Slot.unset).toArray = ls at hl ⊢
  have hl : lv_has ls 3 [(0, .ref a_o), (1, .int p1)] := hl
  refine lv_bipush (v := (24 : Int32)) (pc := 0) hx hb dX10_tapeInt_0 (by decide) ?_
  refine lv_istore_n (lv' := [(2, .int (24 : Int32)), (0, .ref a_o), (1, .int p1)]) (pc := 2) hx hb dX10_tapeInt_2 rfl hl (by decide) rfl (fun ls hl => ?_)
  obtain ⟨g11, v8, v9, a10, hj, hf⟩ := zc_4 hf
  refine zj_join (pcJ := 49) (stk := []) (X := fun H locs ls => lv_has ls 3 [] ∧ va_P (dC, dI) zz_cls [zo_X10 a_o a_tape v9 a_c a_sp a_rd a_now a_tri a_past f_o_undoable a_trays a_ics a_ips a_w a_m a_g a_rw a_sl a_sh, (a_tape, .inl (dA 0, 900, .inl a10))] H ∧ va_D A [zo_X10 a_o a_tape v9 a_c a_sp a_rd a_now a_tri a_past f_o_undoable a_trays a_ics a_ips a_w a_m a_g a_rw a_sl a_sh, (a_tape, .inl (dA 0, 900, .inl a10))] ∧ va_S A s.heap H locs) (fun H locs ls hX => ?_) (fun E49 => ?_)
  · obtain ⟨hl, hP, hD, hS⟩ := hX
    clear hj
    obtain ⟨rfl, rfl⟩ := zi_2 hf
    exact W.vret (pc := 49) hx hb hr (fun t ht hW => ⟨⟨(), rfl, trivial, zz_Bi (by rw [ht]; exact hP) (va_K.moved hW.alike hK) (hD)⟩, hS.F ht⟩) hS.2.2 dX10_tapeInt_49
  clear hf
  refine zw_loop (pcH := 3) (X := fun v H locs ls => lv_has ls 3 [(0, .ref a_o), (1, .int p1), (2, .int v.1)] ∧ va_P (dC, dI) zz_cls [zo_X10 a_o a_tape v.2.1 a_c a_sp a_rd a_now a_tri a_past f_o_undoable a_trays a_ics a_ips a_w a_m a_g a_rw a_sl a_sh, (a_tape, .inl (dA 0, 900, .inl v.2.2))] H ∧ va_D A [zo_X10 a_o a_tape v.2.1 a_c a_sp a_rd a_now a_tri a_past f_o_undoable a_trays a_ics a_ips a_w a_m a_g a_rw a_sl a_sh, (a_tape, .inl (dA 0, 900, .inl v.2.2))] ∧ va_S A s.heap H locs) hj (fun v w hf ih ex H locs ls hX => ?_) _ _ _ ⟨lv_sub hl [1, 2, 0] rfl, hP, hD, hS⟩
  clear hj
  obtain ⟨v1, v2, a3⟩ := v
  obtain ⟨hl, hP, hD, hS⟩ := hX
  have hl : lv_has ls 3 [(0, .ref a_o), (1, .int p1), (2, .int v1)] := hl
  have hP : va_P (dC, dI) zz_cls [zo_X10 a_o a_tape v2 a_c a_sp a_rd a_now a_tri a_past f_o_undoable a_trays a_ics a_ips a_w a_m a_g a_rw a_sl a_sh, (a_tape, .inl (dA 0, 900, .inl a3))] H := hP
  have hD : va_D A [zo_X10 a_o a_tape v2 a_c a_sp a_rd a_now a_tri a_past f_o_undoable a_trays a_ics a_ips a_w a_m a_g a_rw a_sl a_sh, (a_tape, .inl (dA 0, 900, .inl a3))] := hD
  replace hf : zb_X10_tapeInt_3 p1 v1 v2 a3 = some w := hf
  unfold zb_X10_tapeInt_3 at hf
  refine lv_iload_n (pc := 3) hx hb dX10_tapeInt_3 rfl (lv_at hl 2 rfl) ?_
  refine lv_if_lt (tgt := 49) (pc := 4) hx hb dX10_tapeInt_4 rfl (fun hc => ?_) (fun hc => ?_)
  · have hf := za_t hf hc
    obtain rfl := Option.some.inj hf
    obtain ⟨rfl, rfl, rfl, rfl⟩ := zp_4 (ex (show ¬ (1 : Nat) = 0 by decide))
    exact E49 _ _ _ ⟨lv_sub hl [] rfl, hP, hD, hS⟩
  · have hf := za_f hf hc
    refine lv_aload_n (pc := 7) hx hb dX10_tapeInt_7 rfl (lv_at hl 0 rfl) ?_
    refine va_get (pc := 8) (D := (dC, dI)) (ci := 11) (v := .int v2) (C := RX10) (T := TX10) (N := 18) hx hb ht zq_layX10 hown hK hP 0 rfl rfl 1 (by decide) (ht _ zq_594) (fun _ h9 => h9) rfl dX10_tapeInt_8 ?_
    refine lv_sipush (v := (900 : Int32)) (pc := 11) hx hb dX10_tapeInt_11 (by decide) ?_
    refine lv_icmp_ge (tgt := 49) (pc := 14) hx hb dX10_tapeInt_14 rfl (fun hc => ?_) (fun hc => ?_)
    · have hf := za_t hf hc
      obtain rfl := Option.some.inj hf
      obtain ⟨rfl, rfl, rfl, rfl⟩ := zp_4 (ex (show ¬ (1 : Nat) = 0 by decide))
      exact E49 _ _ _ ⟨lv_sub hl [] rfl, hP, hD, hS⟩
    · have hf := za_f hf hc
      refine lv_aload_n (pc := 17) hx hb dX10_tapeInt_17 rfl (lv_at hl 0 rfl) ?_
      refine va_get (pc := 18) (D := (dC, dI)) (ci := 11) (v := .ref a_tape) (C := RX10) (T := TX10) (N := 18) hx hb ht zq_layX10 hown hK hP 0 rfl rfl 0 (by decide) (ht _ zq_593) (fun _ h9 => h9) rfl dX10_tapeInt_18 ?_
      refine lv_aload_n (pc := 21) hx hb dX10_tapeInt_21 rfl (lv_at hl 0 rfl) ?_
      refine va_get (pc := 22) (D := (dC, dI)) (ci := 11) (v := .int v2) (C := RX10) (T := TX10) (N := 18) hx hb ht zq_layX10 hown hK hP 0 rfl rfl 1 (by decide) (ht _ zq_594) (fun _ h9 => h9) rfl dX10_tapeInt_22 ?_
      refine lv_iload_n (pc := 25) hx hb dX10_tapeInt_25 rfl (lv_at hl 1 rfl) ?_
      refine lv_iload_n (pc := 26) hx hb dX10_tapeInt_26 rfl (lv_at hl 2 rfl) ?_
      refine lv_iushr (pc := 27) hx hb dX10_tapeInt_27 rfl ?_
      obtain ⟨v4, hv4, hf⟩ := zc_1 hf
      refine zw_top (hv4) ?_
      refine lv_sipush (v := (255 : Int32)) (pc := 28) hx hb dX10_tapeInt_28 (by decide) ?_
      refine lv_iand (pc := 31) hx hb dX10_tapeInt_31 ?_
      obtain ⟨a5, ha5, hf⟩ := zc_1 hf
      refine zw_iast (pc := 32) hx hb hK hP hD hS 1 0 rfl rfl ha5 dX10_tapeInt_32 (fun H locs hP hD hS => ?_)
      have hP : va_P (dC, dI) zz_cls [zo_X10 a_o a_tape v2 a_c a_sp a_rd a_now a_tri a_past f_o_undoable a_trays a_ics a_ips a_w a_m a_g a_rw a_sl a_sh, (a_tape, .inl (dA 0, 900, .inl a5))] H := hP
      have hD : va_D A [zo_X10 a_o a_tape v2 a_c a_sp a_rd a_now a_tri a_past f_o_undoable a_trays a_ics a_ips a_w a_m a_g a_rw a_sl a_sh, (a_tape, .inl (dA 0, 900, .inl a5))] := hD
      refine lv_aload_n (pc := 33) hx hb dX10_tapeInt_33 rfl (lv_at hl 0 rfl) ?_
      refine lv_dup (pc := 34) hx hb dX10_tapeInt_34 rfl ?_
      refine va_get (pc := 35) (D := (dC, dI)) (ci := 11) (v := .int v2) (C := RX10) (T := TX10) (N := 18) hx hb ht zq_layX10 hown hK hP 0 rfl rfl 1 (by decide) (ht _ zq_594) (fun _ h9 => h9) rfl dX10_tapeInt_35 ?_
      refine lv_iconst (v := (1 : Int32)) (pc := 38) hx hb dX10_tapeInt_38 (by decide) ?_
      refine lv_iadd (pc := 39) hx hb dX10_tapeInt_39 ?_
      obtain ⟨v6, hv6, hf⟩ := zc_1 hf
      refine zw_top (hv6) ?_
      refine va_put (pc := 40) (D := (dC, dI)) (ci := 11) (v := .int v6) (ty := .int) (C := RX10) (T := TX10) (N := 18) hx hb ht zq_layX10 tyX10 tyX10_ok nmX10 hown hK hP hD hS 0 rfl rfl 1 (by decide) (ht _ zq_594) (fun _ h9 => h9) rfl (by decide +kernel) rfl rfl (Nat.le_of_ble_eq_true rfl) dX10_tapeInt_40 (fun H locs hP hD hS => ?_)
      have hP : va_P (dC, dI) zz_cls [zo_X10 a_o a_tape v6 a_c a_sp a_rd a_now a_tri a_past f_o_undoable a_trays a_ics a_ips a_w a_m a_g a_rw a_sl a_sh, (a_tape, .inl (dA 0, 900, .inl a5))] H := hP
      have hD : va_D A [zo_X10 a_o a_tape v6 a_c a_sp a_rd a_now a_tri a_past f_o_undoable a_trays a_ics a_ips a_w a_m a_g a_rw a_sl a_sh, (a_tape, .inl (dA 0, 900, .inl a5))] := hD
      obtain ⟨v7, hv7, hf⟩ := zc_1 hf
      refine lv_iinc (v := v7) (lv' := [(2, .int v7), (0, .ref a_o), (1, .int p1)]) (k := 2) (pc := 43) hx hb dX10_tapeInt_43 hl rfl (Option.some.inj hv7) (by decide) rfl (fun ls hl => ?_)
      refine lv_goto (tgt := 3) (pc := 46) hx hb dX10_tapeInt_46 rfl ?_
      obtain rfl := Option.some.inj hf
      exact ih rfl _ _ _ ⟨lv_sub hl [1, 2, 0] rfl, hP, hD, hS⟩

def zf_X10_feed (n : Nat) (f_o_taped : Int32) (b_tape : (Nat → Int32)) (p1 : Int32) (p2 : Int32) (p3 : Int32) (p4 : Int32) (p5 : Int32) : Option (Int32 × Int32 × (Nat → Int32)) :=
  if (f_o_taped + (20 : Int32)) ≤ (900 : Int32) then
    zd_2 (zf_X10_tapeInt n f_o_taped b_tape p1) (fun v1 a2 =>
    zd_2 (zf_X10_tapeInt n v1 a2 p2) (fun v3 a4 =>
    zd_2 (zf_X10_tapeInt n v3 a4 p3) (fun v5 a6 =>
    zd_2 (zf_X10_tapeInt n v5 a6 p4) (fun v7 a8 =>
    zd_2 (zf_X10_tapeInt n v7 a8 p5) (fun v9 a10 =>
    some (v9, v9, a10))))))
  else
    some ((-5 : Int32), f_o_taped, b_tape)
theorem zk_X10_feed : yX10_feed.cls = RX10 ∧ yX10_feed.cls ≠ "java/lang/invoke/MethodHandle" ∧ yX10_feed.cls ≠ "java/lang/invoke/VarHandle" ∧ (parseMethodDescriptor yX10_feed.desc).map (fun d => d.parameters.length) = some 5 := by decide +kernel
set_option maxHeartbeats 4000000 in
set_option maxRecDepth 100000 in
theorem zt_X10_feed (l : Launch) (dC : Nat → ClassId) (dI : Nat → Nat → Nat) (dA : Nat → ClassId) (adK adV : Nat → Nat) (sz : Nat) (a_o : Nat) (a_tape : Nat) (a_c : Nat) (a_sp : Nat) (a_rd : Nat) (a_now : Nat) (a_tri : Nat) (a_past : Nat) (a_trays : Nat) (a_ics : Nat) (a_ips : Nat) (a_w : Nat) (a_m : Nat) (a_g : Nat) (a_rw : Nat) (a_sl : Nat) (a_sh : Nat) (n : Nat) (f_o_taped : Int32) (f_o_undoable : Int32) (b_tape : (Nat → Int32)) (p1 : Int32) (p2 : Int32) (p3 : Int32) (p4 : Int32) (p5 : Int32) (r0 : Int32) (o1 : Int32) (o2 : (Nat → Int32)) (hf : zf_X10_feed n f_o_taped b_tape p1 p2 p3 p4 p5 = some (r0, o1, o2)) : Met l yX10_feed (.code yX10_feed cX10_feed 6 (some .int) :: zq_T) ({ frames := 1, cells := 0, slots := 0, locals := 22 }) (va_Pc [.ref a_o, .int p1, .int p2, .int p3, .int p4, .int p5] (zx_M dC dI dA adK adV [zo_X10 a_o a_tape f_o_taped a_c a_sp a_rd a_now a_tri a_past f_o_undoable a_trays a_ics a_ips a_w a_m a_g a_rw a_sl a_sh, (a_tape, .inl (dA 0, 900, .inl b_tape))] sz)) (va_Qi (fun (r : Int32) (_ : Unit) => r = r0) (fun _ t => zz_B dC dI dA (va_A [zo_X10 a_o a_tape f_o_taped a_c a_sp a_rd a_now a_tri a_past f_o_undoable a_trays a_ics a_ips a_w a_m a_g a_rw a_sl a_sh, (a_tape, .inl (dA 0, 900, .inl b_tape))] sz) [zo_X10 a_o a_tape o1 a_c a_sp a_rd a_now a_tri a_past f_o_undoable a_trays a_ics a_ips a_w a_m a_g a_rw a_sl a_sh, (a_tape, .inl (dA 0, 900, .inl o2))] t) (va_A [zo_X10 a_o a_tape f_o_taped a_c a_sp a_rd a_now a_tri a_past f_o_undoable a_trays a_ics a_ips a_w a_m a_g a_rw a_sl a_sh, (a_tape, .inl (dA 0, 900, .inl b_tape))] sz)) 0 0 (va_A [zo_X10 a_o a_tape f_o_taped a_c a_sp a_rd a_now a_tri a_past f_o_undoable a_trays a_ics a_ips a_w a_m a_g a_rw a_sl a_sh, (a_tape, .inl (dA 0, 900, .inl b_tape))] sz) := by
  unfold zf_X10_feed at hf
  refine Met.ofW (cc := cX10_feed) (maxL := 6) (ret := (some .int)) (by decide) rfl ?_
  intro p e s m args below meth c s₁ B hml hv
  obtain ⟨rfl, ⟨hsz, hP, hK, hD0⟩, hZ⟩ := hv
  have hx := B.exec
  have hb := B.bytes
  have hr := B.returns
  have ht : ∀ w ∈ zq_T, w.before ([.ref a_o, .int p1, .int p2, .int p3, .int p4, .int p5] : List Value).toArray s = true := fun w hw => atoms_spec (ws := .code yX10_feed cX10_feed 6 (some .int) :: zq_T) B.pre w (List.mem_cons_of_mem _ hw)
  have hown : s.vm.findClass RX10 = some m.cls := findClass_of_methodNamed B.named
  have hlocks := B.notSynchronized
  subst hsz
  have hD := hD0.self (sz := s.heap.size)
  generalize hAe : va_A [zo_X10 a_o a_tape f_o_taped a_c a_sp a_rd a_now a_tri a_past f_o_undoable a_trays a_ics a_ips a_w a_m a_g a_rw a_sl a_sh, (a_tape, .inl (dA 0, 900, .inl b_tape))] s.heap.size = A at hD hZ ⊢
  have hA : ∀ q : Nat, s.heap.size ≤ q → A q := fun q h => by rw [← hAe]; exact Or.inr h
  clear hAe hD0
  have hS : va_S A s.heap s.heap [] := va_S.rf
  have hl := lv_entry ([.ref a_o, .int p1, .int p2, .int p3, .int p4, .int p5]) (n := 6) (Nat.le_of_ble_eq_true rfl)
  rw [lg_entry_eq]
  generalize (lg_sl ([.ref a_o, .int p1, .int p2, .int p3, .int p4, .int p5]) ++ List.replicate (6 - (lg_sl ([.ref a_o, .int p1, .int p2, .int p3, .int p4, .int p5])).length) Slot.unset).toArray = ls at hl ⊢
  have hl : lv_has ls 6 [(0, .ref a_o), (1, .int p1), (2, .int p2), (3, .int p3), (4, .int p4), (5, .int p5)] := hl
  refine lv_aload_n (pc := 0) hx hb dX10_feed_0 rfl (lv_at hl 0 rfl) ?_
  refine va_get (pc := 1) (D := (dC, dI)) (ci := 11) (v := .int f_o_taped) (C := RX10) (T := TX10) (N := 18) hx hb ht zq_layX10 hown hK hP 0 rfl rfl 1 (by decide) (ht _ zq_594) (fun _ h9 => h9) rfl dX10_feed_1 ?_
  refine lv_bipush (v := (20 : Int32)) (pc := 4) hx hb dX10_feed_4 (by decide) ?_
  refine lv_iadd (pc := 6) hx hb dX10_feed_6 ?_
  refine lv_sipush (v := (900 : Int32)) (pc := 7) hx hb dX10_feed_7 (by decide) ?_
  refine lv_icmp_le (tgt := 16) (pc := 10) hx hb dX10_feed_10 rfl (fun hc => ?_) (fun hc => ?_)
  · have hf := za_t hf hc
    refine lv_aload_n (pc := 16) hx hb dX10_feed_16 rfl (lv_at hl 0 rfl) ?_
    refine lv_iload_n (pc := 17) hx hb dX10_feed_17 rfl (lv_at hl 1 rfl) ?_
    obtain ⟨v1, a2, hv1, hf⟩ := zc_2 hf
    refine zx_Vv (pc := 18) (wc := [zo_X10 a_o a_tape f_o_taped a_c a_sp a_rd a_now a_tri a_past f_o_undoable a_trays a_ics a_ips a_w a_m a_g a_rw a_sl a_sh, (a_tape, .inl (dA 0, 900, .inl b_tape))]) (wr := []) (w1 := [zo_X10 a_o a_tape v1 a_c a_sp a_rd a_now a_tri a_past f_o_undoable a_trays a_ics a_ips a_w a_m a_g a_rw a_sl a_sh, (a_tape, .inl (dA 0, 900, .inl a2))]) (As := [.int p1]) (rest := []) ⟨hx, hb, hml, hown, ht⟩ (zt_X10_tapeInt l dC dI dA adK adV _ a_o a_tape a_c a_sp a_rd a_now a_tri a_past a_trays a_ics a_ips a_w a_m a_g a_rw a_sl a_sh n f_o_taped f_o_undoable b_tape p1 v1 a2 hv1) (cwV 1 ht (zq_V zq_657 zq_658 zq_659 zq_58 zq_655) rfl rfl rfl zk_X10_tapeInt ⟨Nat.le_of_ble_eq_true rfl, Nat.le_of_ble_eq_true rfl⟩) rfl rfl hZ hK hP hD hS hA [0, 1] [] (by decide) (by decide) (by decide) rfl rfl rfl hl.1 (Nat.le_of_ble_eq_true rfl) dX10_feed_18 ⟨Nat.zero_le _, Nat.zero_le _⟩ rfl (fun H locs hP hD hS => ?_)
    have hP : va_P (dC, dI) zz_cls [zo_X10 a_o a_tape v1 a_c a_sp a_rd a_now a_tri a_past f_o_undoable a_trays a_ics a_ips a_w a_m a_g a_rw a_sl a_sh, (a_tape, .inl (dA 0, 900, .inl a2))] H := hP
    have hD : va_D A [zo_X10 a_o a_tape v1 a_c a_sp a_rd a_now a_tri a_past f_o_undoable a_trays a_ics a_ips a_w a_m a_g a_rw a_sl a_sh, (a_tape, .inl (dA 0, 900, .inl a2))] := hD
    refine lv_aload_n (pc := 21) hx hb dX10_feed_21 rfl (lv_at hl 0 rfl) ?_
    refine lv_iload_n (pc := 22) hx hb dX10_feed_22 rfl (lv_at hl 2 rfl) ?_
    obtain ⟨v3, a4, hv3, hf⟩ := zc_2 hf
    refine zx_Vv (pc := 23) (wc := [zo_X10 a_o a_tape v1 a_c a_sp a_rd a_now a_tri a_past f_o_undoable a_trays a_ics a_ips a_w a_m a_g a_rw a_sl a_sh, (a_tape, .inl (dA 0, 900, .inl a2))]) (wr := []) (w1 := [zo_X10 a_o a_tape v3 a_c a_sp a_rd a_now a_tri a_past f_o_undoable a_trays a_ics a_ips a_w a_m a_g a_rw a_sl a_sh, (a_tape, .inl (dA 0, 900, .inl a4))]) (As := [.int p2]) (rest := []) ⟨hx, hb, hml, hown, ht⟩ (zt_X10_tapeInt l dC dI dA adK adV _ a_o a_tape a_c a_sp a_rd a_now a_tri a_past a_trays a_ics a_ips a_w a_m a_g a_rw a_sl a_sh n v1 f_o_undoable a2 p2 v3 a4 hv3) (cwV 1 ht (zq_V zq_657 zq_658 zq_659 zq_58 zq_655) rfl rfl rfl zk_X10_tapeInt ⟨Nat.le_of_ble_eq_true rfl, Nat.le_of_ble_eq_true rfl⟩) rfl rfl hZ hK hP hD hS hA [0, 1] [] (by decide) (by decide) (by decide) rfl rfl rfl hl.1 (Nat.le_of_ble_eq_true rfl) dX10_feed_23 ⟨Nat.zero_le _, Nat.zero_le _⟩ rfl (fun H locs hP hD hS => ?_)
    have hP : va_P (dC, dI) zz_cls [zo_X10 a_o a_tape v3 a_c a_sp a_rd a_now a_tri a_past f_o_undoable a_trays a_ics a_ips a_w a_m a_g a_rw a_sl a_sh, (a_tape, .inl (dA 0, 900, .inl a4))] H := hP
    have hD : va_D A [zo_X10 a_o a_tape v3 a_c a_sp a_rd a_now a_tri a_past f_o_undoable a_trays a_ics a_ips a_w a_m a_g a_rw a_sl a_sh, (a_tape, .inl (dA 0, 900, .inl a4))] := hD
    refine lv_aload_n (pc := 26) hx hb dX10_feed_26 rfl (lv_at hl 0 rfl) ?_
    refine lv_iload_n (pc := 27) hx hb dX10_feed_27 rfl (lv_at hl 3 rfl) ?_
    obtain ⟨v5, a6, hv5, hf⟩ := zc_2 hf
    refine zx_Vv (pc := 28) (wc := [zo_X10 a_o a_tape v3 a_c a_sp a_rd a_now a_tri a_past f_o_undoable a_trays a_ics a_ips a_w a_m a_g a_rw a_sl a_sh, (a_tape, .inl (dA 0, 900, .inl a4))]) (wr := []) (w1 := [zo_X10 a_o a_tape v5 a_c a_sp a_rd a_now a_tri a_past f_o_undoable a_trays a_ics a_ips a_w a_m a_g a_rw a_sl a_sh, (a_tape, .inl (dA 0, 900, .inl a6))]) (As := [.int p3]) (rest := []) ⟨hx, hb, hml, hown, ht⟩ (zt_X10_tapeInt l dC dI dA adK adV _ a_o a_tape a_c a_sp a_rd a_now a_tri a_past a_trays a_ics a_ips a_w a_m a_g a_rw a_sl a_sh n v3 f_o_undoable a4 p3 v5 a6 hv5) (cwV 1 ht (zq_V zq_657 zq_658 zq_659 zq_58 zq_655) rfl rfl rfl zk_X10_tapeInt ⟨Nat.le_of_ble_eq_true rfl, Nat.le_of_ble_eq_true rfl⟩) rfl rfl hZ hK hP hD hS hA [0, 1] [] (by decide) (by decide) (by decide) rfl rfl rfl hl.1 (Nat.le_of_ble_eq_true rfl) dX10_feed_28 ⟨Nat.zero_le _, Nat.zero_le _⟩ rfl (fun H locs hP hD hS => ?_)
    have hP : va_P (dC, dI) zz_cls [zo_X10 a_o a_tape v5 a_c a_sp a_rd a_now a_tri a_past f_o_undoable a_trays a_ics a_ips a_w a_m a_g a_rw a_sl a_sh, (a_tape, .inl (dA 0, 900, .inl a6))] H := hP
    have hD : va_D A [zo_X10 a_o a_tape v5 a_c a_sp a_rd a_now a_tri a_past f_o_undoable a_trays a_ics a_ips a_w a_m a_g a_rw a_sl a_sh, (a_tape, .inl (dA 0, 900, .inl a6))] := hD
    refine lv_aload_n (pc := 31) hx hb dX10_feed_31 rfl (lv_at hl 0 rfl) ?_
    refine lv_iload (pc := 32) hx hb dX10_feed_32 (lv_at hl 4 rfl) ?_
    obtain ⟨v7, a8, hv7, hf⟩ := zc_2 hf
    refine zx_Vv (pc := 34) (wc := [zo_X10 a_o a_tape v5 a_c a_sp a_rd a_now a_tri a_past f_o_undoable a_trays a_ics a_ips a_w a_m a_g a_rw a_sl a_sh, (a_tape, .inl (dA 0, 900, .inl a6))]) (wr := []) (w1 := [zo_X10 a_o a_tape v7 a_c a_sp a_rd a_now a_tri a_past f_o_undoable a_trays a_ics a_ips a_w a_m a_g a_rw a_sl a_sh, (a_tape, .inl (dA 0, 900, .inl a8))]) (As := [.int p4]) (rest := []) ⟨hx, hb, hml, hown, ht⟩ (zt_X10_tapeInt l dC dI dA adK adV _ a_o a_tape a_c a_sp a_rd a_now a_tri a_past a_trays a_ics a_ips a_w a_m a_g a_rw a_sl a_sh n v5 f_o_undoable a6 p4 v7 a8 hv7) (cwV 1 ht (zq_V zq_657 zq_658 zq_659 zq_58 zq_655) rfl rfl rfl zk_X10_tapeInt ⟨Nat.le_of_ble_eq_true rfl, Nat.le_of_ble_eq_true rfl⟩) rfl rfl hZ hK hP hD hS hA [0, 1] [] (by decide) (by decide) (by decide) rfl rfl rfl hl.1 (Nat.le_of_ble_eq_true rfl) dX10_feed_34 ⟨Nat.zero_le _, Nat.zero_le _⟩ rfl (fun H locs hP hD hS => ?_)
    have hP : va_P (dC, dI) zz_cls [zo_X10 a_o a_tape v7 a_c a_sp a_rd a_now a_tri a_past f_o_undoable a_trays a_ics a_ips a_w a_m a_g a_rw a_sl a_sh, (a_tape, .inl (dA 0, 900, .inl a8))] H := hP
    have hD : va_D A [zo_X10 a_o a_tape v7 a_c a_sp a_rd a_now a_tri a_past f_o_undoable a_trays a_ics a_ips a_w a_m a_g a_rw a_sl a_sh, (a_tape, .inl (dA 0, 900, .inl a8))] := hD
    refine lv_aload_n (pc := 37) hx hb dX10_feed_37 rfl (lv_at hl 0 rfl) ?_
    refine lv_iload (pc := 38) hx hb dX10_feed_38 (lv_at hl 5 rfl) ?_
    obtain ⟨v9, a10, hv9, hf⟩ := zc_2 hf
    refine zx_Vv (pc := 40) (wc := [zo_X10 a_o a_tape v7 a_c a_sp a_rd a_now a_tri a_past f_o_undoable a_trays a_ics a_ips a_w a_m a_g a_rw a_sl a_sh, (a_tape, .inl (dA 0, 900, .inl a8))]) (wr := []) (w1 := [zo_X10 a_o a_tape v9 a_c a_sp a_rd a_now a_tri a_past f_o_undoable a_trays a_ics a_ips a_w a_m a_g a_rw a_sl a_sh, (a_tape, .inl (dA 0, 900, .inl a10))]) (As := [.int p5]) (rest := []) ⟨hx, hb, hml, hown, ht⟩ (zt_X10_tapeInt l dC dI dA adK adV _ a_o a_tape a_c a_sp a_rd a_now a_tri a_past a_trays a_ics a_ips a_w a_m a_g a_rw a_sl a_sh n v7 f_o_undoable a8 p5 v9 a10 hv9) (cwV 1 ht (zq_V zq_657 zq_658 zq_659 zq_58 zq_655) rfl rfl rfl zk_X10_tapeInt ⟨Nat.le_of_ble_eq_true rfl, Nat.le_of_ble_eq_true rfl⟩) rfl rfl hZ hK hP hD hS hA [0, 1] [] (by decide) (by decide) (by decide) rfl rfl rfl hl.1 (Nat.le_of_ble_eq_true rfl) dX10_feed_40 ⟨Nat.zero_le _, Nat.zero_le _⟩ rfl (fun H locs hP hD hS => ?_)
    have hP : va_P (dC, dI) zz_cls [zo_X10 a_o a_tape v9 a_c a_sp a_rd a_now a_tri a_past f_o_undoable a_trays a_ics a_ips a_w a_m a_g a_rw a_sl a_sh, (a_tape, .inl (dA 0, 900, .inl a10))] H := hP
    have hD : va_D A [zo_X10 a_o a_tape v9 a_c a_sp a_rd a_now a_tri a_past f_o_undoable a_trays a_ics a_ips a_w a_m a_g a_rw a_sl a_sh, (a_tape, .inl (dA 0, 900, .inl a10))] := hD
    refine lv_aload_n (pc := 43) hx hb dX10_feed_43 rfl (lv_at hl 0 rfl) ?_
    refine va_get (pc := 44) (D := (dC, dI)) (ci := 11) (v := .int v9) (C := RX10) (T := TX10) (N := 18) hx hb ht zq_layX10 hown hK hP 0 rfl rfl 1 (by decide) (ht _ zq_594) (fun _ h9 => h9) rfl dX10_feed_44 ?_
    obtain ⟨rfl, rfl, rfl⟩ := zi_3 hf
    exact W.iret (pc := 47) hx hb hr (fun t ht hW => ⟨⟨_, (), rfl, rfl, zz_Bi (by rw [ht]; exact hP) (va_K.moved hW.alike hK) (hD)⟩, hS.F ht⟩) hS.2.2 dX10_feed_47
  · have hf := za_f hf hc
    refine lv_bipush (v := (-5 : Int32)) (pc := 13) hx hb dX10_feed_13 (by decide) ?_
    obtain ⟨rfl, rfl, rfl⟩ := zi_3 hf
    exact W.iret (pc := 15) hx hb hr (fun t ht hW => ⟨⟨_, (), rfl, rfl, zz_Bi (by rw [ht]; exact hP) (va_K.moved hW.alike hK) (hD)⟩, hS.F ht⟩) hS.2.2 dX10_feed_15

def zf_X10_settle (n : Nat) (f_now_wind : Int32) (f_w_wind : Int32) (b_w_told : (Nat → Int32)) (f_g_known : Int32) : Option (Int32 × (Nat → Int32) × Int32) :=
  zd_2 (zf_X2_useWind n f_w_wind b_w_told f_now_wind) (fun v1 a2 =>
  zd_1 (zf_X1_forget f_g_known) (fun v3 =>
  some (v1, a2, v3)))
theorem zk_X10_settle : yX10_settle.cls = RX10 ∧ yX10_settle.cls ≠ "java/lang/invoke/MethodHandle" ∧ yX10_settle.cls ≠ "java/lang/invoke/VarHandle" ∧ (parseMethodDescriptor yX10_settle.desc).map (fun d => d.parameters.length) = some 0 := by decide +kernel
set_option maxHeartbeats 4000000 in
set_option maxRecDepth 100000 in
theorem zt_X10_settle (l : Launch) (dC : Nat → ClassId) (dI : Nat → Nat → Nat) (dA : Nat → ClassId) (adK adV : Nat → Nat) (sz : Nat) (a_o : Nat) (a_tape : Nat) (a_c : Nat) (a_sp : Nat) (a_rd : Nat) (a_now : Nat) (a_tri : Nat) (a_past : Nat) (a_trays : Nat) (a_ics : Nat) (a_ips : Nat) (a_w : Nat) (a_m : Nat) (a_g : Nat) (a_rw : Nat) (a_sl : Nat) (a_sh : Nat) (a_w_told : Nat) (a_w_facts : Nat) (a_w_stack : Nat) (a_g_order : Nat) (a_g_depth : Nat) (a_g_from : Nat) (n : Nat) (f_o_taped : Int32) (f_o_undoable : Int32) (f_now_stand : Int32) (f_now_wind : Int32) (f_now_deeds : Int32) (f_w_wind : Int32) (f_g_size : Int32) (f_g_known : Int32) (b_w_told : (Nat → Int32)) (o1 : Int32) (o2 : (Nat → Int32)) (o3 : Int32) (hf : zf_X10_settle n f_now_wind f_w_wind b_w_told f_g_known = some (o1, o2, o3)) : Met l yX10_settle (.code yX10_settle cX10_settle 1 none :: zq_T) ({ frames := 3, cells := 0, slots := 0, locals := 64 }) (va_Pc [.ref a_o] (zx_M dC dI dA adK adV [zo_X10 a_o a_tape f_o_taped a_c a_sp a_rd a_now a_tri a_past f_o_undoable a_trays a_ics a_ips a_w a_m a_g a_rw a_sl a_sh, zo_X4 a_now f_now_stand f_now_wind f_now_deeds, zo_X2 a_w a_c a_w_told a_w_facts a_w_stack f_w_wind, (a_w_told, .inl (dA 0, 315, .inl b_w_told)), zo_X1 a_g a_m a_g_order a_g_depth a_g_from f_g_size f_g_known] sz)) (va_Qv (fun _ : Unit => True) (fun _ t => zz_B dC dI dA (va_A [zo_X10 a_o a_tape f_o_taped a_c a_sp a_rd a_now a_tri a_past f_o_undoable a_trays a_ics a_ips a_w a_m a_g a_rw a_sl a_sh, zo_X4 a_now f_now_stand f_now_wind f_now_deeds, zo_X2 a_w a_c a_w_told a_w_facts a_w_stack f_w_wind, (a_w_told, .inl (dA 0, 315, .inl b_w_told)), zo_X1 a_g a_m a_g_order a_g_depth a_g_from f_g_size f_g_known] sz) [zo_X10 a_o a_tape f_o_taped a_c a_sp a_rd a_now a_tri a_past f_o_undoable a_trays a_ics a_ips a_w a_m a_g a_rw a_sl a_sh, zo_X4 a_now f_now_stand f_now_wind f_now_deeds, zo_X2 a_w a_c a_w_told a_w_facts a_w_stack o1, (a_w_told, .inl (dA 0, 315, .inl o2)), zo_X1 a_g a_m a_g_order a_g_depth a_g_from f_g_size o3] t) (va_A [zo_X10 a_o a_tape f_o_taped a_c a_sp a_rd a_now a_tri a_past f_o_undoable a_trays a_ics a_ips a_w a_m a_g a_rw a_sl a_sh, zo_X4 a_now f_now_stand f_now_wind f_now_deeds, zo_X2 a_w a_c a_w_told a_w_facts a_w_stack f_w_wind, (a_w_told, .inl (dA 0, 315, .inl b_w_told)), zo_X1 a_g a_m a_g_order a_g_depth a_g_from f_g_size f_g_known] sz)) 0 0 (va_A [zo_X10 a_o a_tape f_o_taped a_c a_sp a_rd a_now a_tri a_past f_o_undoable a_trays a_ics a_ips a_w a_m a_g a_rw a_sl a_sh, zo_X4 a_now f_now_stand f_now_wind f_now_deeds, zo_X2 a_w a_c a_w_told a_w_facts a_w_stack f_w_wind, (a_w_told, .inl (dA 0, 315, .inl b_w_told)), zo_X1 a_g a_m a_g_order a_g_depth a_g_from f_g_size f_g_known] sz) := by
  unfold zf_X10_settle at hf
  refine Met.ofW (cc := cX10_settle) (maxL := 1) (ret := none) (by decide) rfl ?_
  intro p e s m args below meth c s₁ B hml hv
  obtain ⟨rfl, ⟨hsz, hP, hK, hD0⟩, hZ⟩ := hv
  have hx := B.exec
  have hb := B.bytes
  have hr := B.returns
  have ht : ∀ w ∈ zq_T, w.before ([.ref a_o] : List Value).toArray s = true := fun w hw => atoms_spec (ws := .code yX10_settle cX10_settle 1 none :: zq_T) B.pre w (List.mem_cons_of_mem _ hw)
  have hown : s.vm.findClass RX10 = some m.cls := findClass_of_methodNamed B.named
  have hlocks := B.notSynchronized
  subst hsz
  have hD := hD0.self (sz := s.heap.size)
  generalize hAe : va_A [zo_X10 a_o a_tape f_o_taped a_c a_sp a_rd a_now a_tri a_past f_o_undoable a_trays a_ics a_ips a_w a_m a_g a_rw a_sl a_sh, zo_X4 a_now f_now_stand f_now_wind f_now_deeds, zo_X2 a_w a_c a_w_told a_w_facts a_w_stack f_w_wind, (a_w_told, .inl (dA 0, 315, .inl b_w_told)), zo_X1 a_g a_m a_g_order a_g_depth a_g_from f_g_size f_g_known] s.heap.size = A at hD hZ ⊢
  have hA : ∀ q : Nat, s.heap.size ≤ q → A q := fun q h => by rw [← hAe]; exact Or.inr h
  clear hAe hD0
  have hS : va_S A s.heap s.heap [] := va_S.rf
  have hl := lv_entry ([.ref a_o]) (n := 1) (Nat.le_of_ble_eq_true rfl)
  rw [lg_entry_eq]
  generalize (lg_sl ([.ref a_o]) ++ List.replicate (1 - (lg_sl ([.ref a_o])).length) Slot.unset).toArray = ls at hl ⊢
  have hl : lv_has ls 1 [(0, .ref a_o)] := hl
  refine lv_aload_n (pc := 0) hx hb dX10_settle_0 rfl (lv_at hl 0 rfl) ?_
  refine va_get (pc := 1) (D := (dC, dI)) (ci := 11) (v := .ref a_w) (C := RX10) (T := TX10) (N := 18) hx hb ht zq_layX10 hown hK hP 0 rfl rfl 12 (by decide) (ht _ zq_615) (fun _ h9 => h9) rfl dX10_settle_1 ?_
  refine lv_aload_n (pc := 4) hx hb dX10_settle_4 rfl (lv_at hl 0 rfl) ?_
  refine va_get (pc := 5) (D := (dC, dI)) (ci := 11) (v := .ref a_now) (C := RX10) (T := TX10) (N := 18) hx hb ht zq_layX10 hown hK hP 0 rfl rfl 5 (by decide) (ht _ zq_605) (fun _ h9 => h9) rfl dX10_settle_5 ?_
  refine va_get (pc := 8) (D := (dC, dI)) (ci := 5) (v := .int f_now_wind) (C := RX4) (T := TX4) (N := 3) hx hb ht zq_layX4 hown hK hP 1 rfl rfl 1 (by decide) (ht _ zq_660) (fun _ h9 => h9) rfl dX10_settle_8 ?_
  obtain ⟨v1, a2, hv1, hf⟩ := zc_2 hf
  refine zx_Vv (pc := 11) (wc := [zo_X2 a_w a_c a_w_told a_w_facts a_w_stack f_w_wind, (a_w_told, .inl (dA 0, 315, .inl b_w_told))]) (wr := [zo_X10 a_o a_tape f_o_taped a_c a_sp a_rd a_now a_tri a_past f_o_undoable a_trays a_ics a_ips a_w a_m a_g a_rw a_sl a_sh, zo_X4 a_now f_now_stand f_now_wind f_now_deeds, zo_X1 a_g a_m a_g_order a_g_depth a_g_from f_g_size f_g_known]) (w1 := [zo_X2 a_w a_c a_w_told a_w_facts a_w_stack v1, (a_w_told, .inl (dA 0, 315, .inl a2))]) (As := [.int f_now_wind]) (rest := []) ⟨hx, hb, hml, hown, ht⟩ (zt_X2_useWind l dC dI dA adK adV _ a_w a_c a_w_told a_w_facts a_w_stack n f_w_wind b_w_told f_now_wind v1 a2 hv1) (cwV 1 ht (zq_V zq_661 zq_662 zq_663 zq_81 zq_167) rfl rfl rfl zk_X2_useWind ⟨Nat.le_of_ble_eq_true rfl, Nat.le_of_ble_eq_true rfl⟩) rfl rfl hZ hK hP hD hS hA [2, 3] [0, 1, 4] (by decide) (by decide) (by decide) rfl rfl rfl hl.1 (Nat.le_of_ble_eq_true rfl) dX10_settle_11 ⟨Nat.zero_le _, Nat.zero_le _⟩ rfl (fun H locs hP hD hS => ?_)
  have hP : va_P (dC, dI) zz_cls [zo_X10 a_o a_tape f_o_taped a_c a_sp a_rd a_now a_tri a_past f_o_undoable a_trays a_ics a_ips a_w a_m a_g a_rw a_sl a_sh, zo_X4 a_now f_now_stand f_now_wind f_now_deeds, zo_X1 a_g a_m a_g_order a_g_depth a_g_from f_g_size f_g_known, zo_X2 a_w a_c a_w_told a_w_facts a_w_stack v1, (a_w_told, .inl (dA 0, 315, .inl a2))] H := hP
  have hD : va_D A [zo_X10 a_o a_tape f_o_taped a_c a_sp a_rd a_now a_tri a_past f_o_undoable a_trays a_ics a_ips a_w a_m a_g a_rw a_sl a_sh, zo_X4 a_now f_now_stand f_now_wind f_now_deeds, zo_X1 a_g a_m a_g_order a_g_depth a_g_from f_g_size f_g_known, zo_X2 a_w a_c a_w_told a_w_facts a_w_stack v1, (a_w_told, .inl (dA 0, 315, .inl a2))] := hD
  refine lv_aload_n (pc := 14) hx hb dX10_settle_14 rfl (lv_at hl 0 rfl) ?_
  refine va_get (pc := 15) (D := (dC, dI)) (ci := 11) (v := .ref a_g) (C := RX10) (T := TX10) (N := 18) hx hb ht zq_layX10 hown hK hP 0 rfl rfl 14 (by decide) (ht _ zq_621) (fun _ h9 => h9) rfl dX10_settle_15 ?_
  obtain ⟨v3, hv3, hf⟩ := zc_1 hf
  refine zx_Vv (pc := 18) (wc := [zo_X1 a_g a_m a_g_order a_g_depth a_g_from f_g_size f_g_known]) (wr := [zo_X10 a_o a_tape f_o_taped a_c a_sp a_rd a_now a_tri a_past f_o_undoable a_trays a_ics a_ips a_w a_m a_g a_rw a_sl a_sh, zo_X4 a_now f_now_stand f_now_wind f_now_deeds, zo_X2 a_w a_c a_w_told a_w_facts a_w_stack v1, (a_w_told, .inl (dA 0, 315, .inl a2))]) (w1 := [zo_X1 a_g a_m a_g_order a_g_depth a_g_from f_g_size v3]) (As := []) (rest := []) ⟨hx, hb, hml, hown, ht⟩ (zt_X1_forget l dC dI dA adK adV _ a_g a_m a_g_order a_g_depth a_g_from f_g_size f_g_known v3 hv3) (cwV 0 ht (zq_V zq_664 zq_665 zq_666 zq_142 zq_45) rfl rfl rfl zk_X1_forget ⟨Nat.le_of_ble_eq_true rfl, Nat.le_of_ble_eq_true rfl⟩) rfl rfl hZ hK hP hD hS hA [2] [0, 1, 3, 4] (by decide) (by decide) (by decide) rfl rfl rfl hl.1 (Nat.le_of_ble_eq_true rfl) dX10_settle_18 ⟨Nat.zero_le _, Nat.zero_le _⟩ rfl (fun H locs hP hD hS => ?_)
  have hP : va_P (dC, dI) zz_cls [zo_X10 a_o a_tape f_o_taped a_c a_sp a_rd a_now a_tri a_past f_o_undoable a_trays a_ics a_ips a_w a_m a_g a_rw a_sl a_sh, zo_X4 a_now f_now_stand f_now_wind f_now_deeds, zo_X2 a_w a_c a_w_told a_w_facts a_w_stack v1, (a_w_told, .inl (dA 0, 315, .inl a2)), zo_X1 a_g a_m a_g_order a_g_depth a_g_from f_g_size v3] H := hP
  have hD : va_D A [zo_X10 a_o a_tape f_o_taped a_c a_sp a_rd a_now a_tri a_past f_o_undoable a_trays a_ics a_ips a_w a_m a_g a_rw a_sl a_sh, zo_X4 a_now f_now_stand f_now_wind f_now_deeds, zo_X2 a_w a_c a_w_told a_w_facts a_w_stack v1, (a_w_told, .inl (dA 0, 315, .inl a2)), zo_X1 a_g a_m a_g_order a_g_depth a_g_from f_g_size v3] := hD
  obtain ⟨rfl, rfl, rfl⟩ := zi_3 hf
  exact W.vret (pc := 21) hx hb hr (fun t ht hW => ⟨⟨(), rfl, trivial, zz_Bi (by rw [ht]; exact hP) (va_K.moved hW.alike hK) (hD)⟩, hS.F ht⟩) hS.2.2 dX10_settle_21

def zf_X10_startAnew (n : Nat) (f_o_undoable : Int32) (f_now_wind : Int32) (f_w_wind : Int32) (b_w_told : (Nat → Int32)) (f_g_known : Int32) : Option (Int32 × Int32 × (Nat → Int32) × Int32) :=
  zd_1 (zf_X2_forget n b_w_told) (fun a1 =>
  zd_3 (zf_X10_settle n f_now_wind f_w_wind a1 f_g_known) (fun v2 a3 v4 =>
  some ((0 : Int32), v2, a3, v4)))
theorem zk_X10_startAnew : yX10_startAnew.cls = RX10 ∧ yX10_startAnew.cls ≠ "java/lang/invoke/MethodHandle" ∧ yX10_startAnew.cls ≠ "java/lang/invoke/VarHandle" ∧ (parseMethodDescriptor yX10_startAnew.desc).map (fun d => d.parameters.length) = some 0 := by decide +kernel
set_option maxHeartbeats 4000000 in
set_option maxRecDepth 100000 in
theorem zt_X10_startAnew (l : Launch) (dC : Nat → ClassId) (dI : Nat → Nat → Nat) (dA : Nat → ClassId) (adK adV : Nat → Nat) (sz : Nat) (a_o : Nat) (a_tape : Nat) (a_c : Nat) (a_sp : Nat) (a_rd : Nat) (a_now : Nat) (a_tri : Nat) (a_past : Nat) (a_trays : Nat) (a_ics : Nat) (a_ips : Nat) (a_w : Nat) (a_m : Nat) (a_g : Nat) (a_rw : Nat) (a_sl : Nat) (a_sh : Nat) (a_w_told : Nat) (a_w_facts : Nat) (a_w_stack : Nat) (a_g_order : Nat) (a_g_depth : Nat) (a_g_from : Nat) (n : Nat) (f_o_taped : Int32) (f_o_undoable : Int32) (f_now_stand : Int32) (f_now_wind : Int32) (f_now_deeds : Int32) (f_w_wind : Int32) (f_g_size : Int32) (f_g_known : Int32) (b_w_told : (Nat → Int32)) (o1 : Int32) (o2 : Int32) (o3 : (Nat → Int32)) (o4 : Int32) (hf : zf_X10_startAnew n f_o_undoable f_now_wind f_w_wind b_w_told f_g_known = some (o1, o2, o3, o4)) : Met l yX10_startAnew (.code yX10_startAnew cX10_startAnew 1 none :: zq_T) ({ frames := 4, cells := 0, slots := 0, locals := 84 }) (va_Pc [.ref a_o] (zx_M dC dI dA adK adV [zo_X10 a_o a_tape f_o_taped a_c a_sp a_rd a_now a_tri a_past f_o_undoable a_trays a_ics a_ips a_w a_m a_g a_rw a_sl a_sh, zo_X4 a_now f_now_stand f_now_wind f_now_deeds, zo_X2 a_w a_c a_w_told a_w_facts a_w_stack f_w_wind, (a_w_told, .inl (dA 0, 315, .inl b_w_told)), zo_X1 a_g a_m a_g_order a_g_depth a_g_from f_g_size f_g_known] sz)) (va_Qv (fun _ : Unit => True) (fun _ t => zz_B dC dI dA (va_A [zo_X10 a_o a_tape f_o_taped a_c a_sp a_rd a_now a_tri a_past f_o_undoable a_trays a_ics a_ips a_w a_m a_g a_rw a_sl a_sh, zo_X4 a_now f_now_stand f_now_wind f_now_deeds, zo_X2 a_w a_c a_w_told a_w_facts a_w_stack f_w_wind, (a_w_told, .inl (dA 0, 315, .inl b_w_told)), zo_X1 a_g a_m a_g_order a_g_depth a_g_from f_g_size f_g_known] sz) [zo_X10 a_o a_tape f_o_taped a_c a_sp a_rd a_now a_tri a_past o1 a_trays a_ics a_ips a_w a_m a_g a_rw a_sl a_sh, zo_X4 a_now f_now_stand f_now_wind f_now_deeds, zo_X2 a_w a_c a_w_told a_w_facts a_w_stack o2, (a_w_told, .inl (dA 0, 315, .inl o3)), zo_X1 a_g a_m a_g_order a_g_depth a_g_from f_g_size o4] t) (va_A [zo_X10 a_o a_tape f_o_taped a_c a_sp a_rd a_now a_tri a_past f_o_undoable a_trays a_ics a_ips a_w a_m a_g a_rw a_sl a_sh, zo_X4 a_now f_now_stand f_now_wind f_now_deeds, zo_X2 a_w a_c a_w_told a_w_facts a_w_stack f_w_wind, (a_w_told, .inl (dA 0, 315, .inl b_w_told)), zo_X1 a_g a_m a_g_order a_g_depth a_g_from f_g_size f_g_known] sz)) 0 0 (va_A [zo_X10 a_o a_tape f_o_taped a_c a_sp a_rd a_now a_tri a_past f_o_undoable a_trays a_ics a_ips a_w a_m a_g a_rw a_sl a_sh, zo_X4 a_now f_now_stand f_now_wind f_now_deeds, zo_X2 a_w a_c a_w_told a_w_facts a_w_stack f_w_wind, (a_w_told, .inl (dA 0, 315, .inl b_w_told)), zo_X1 a_g a_m a_g_order a_g_depth a_g_from f_g_size f_g_known] sz) := by
  unfold zf_X10_startAnew at hf
  refine Met.ofW (cc := cX10_startAnew) (maxL := 1) (ret := none) (by decide) rfl ?_
  intro p e s m args below meth c s₁ B hml hv
  obtain ⟨rfl, ⟨hsz, hP, hK, hD0⟩, hZ⟩ := hv
  have hx := B.exec
  have hb := B.bytes
  have hr := B.returns
  have ht : ∀ w ∈ zq_T, w.before ([.ref a_o] : List Value).toArray s = true := fun w hw => atoms_spec (ws := .code yX10_startAnew cX10_startAnew 1 none :: zq_T) B.pre w (List.mem_cons_of_mem _ hw)
  have hown : s.vm.findClass RX10 = some m.cls := findClass_of_methodNamed B.named
  have hlocks := B.notSynchronized
  subst hsz
  have hD := hD0.self (sz := s.heap.size)
  generalize hAe : va_A [zo_X10 a_o a_tape f_o_taped a_c a_sp a_rd a_now a_tri a_past f_o_undoable a_trays a_ics a_ips a_w a_m a_g a_rw a_sl a_sh, zo_X4 a_now f_now_stand f_now_wind f_now_deeds, zo_X2 a_w a_c a_w_told a_w_facts a_w_stack f_w_wind, (a_w_told, .inl (dA 0, 315, .inl b_w_told)), zo_X1 a_g a_m a_g_order a_g_depth a_g_from f_g_size f_g_known] s.heap.size = A at hD hZ ⊢
  have hA : ∀ q : Nat, s.heap.size ≤ q → A q := fun q h => by rw [← hAe]; exact Or.inr h
  clear hAe hD0
  have hS : va_S A s.heap s.heap [] := va_S.rf
  have hl := lv_entry ([.ref a_o]) (n := 1) (Nat.le_of_ble_eq_true rfl)
  rw [lg_entry_eq]
  generalize (lg_sl ([.ref a_o]) ++ List.replicate (1 - (lg_sl ([.ref a_o])).length) Slot.unset).toArray = ls at hl ⊢
  have hl : lv_has ls 1 [(0, .ref a_o)] := hl
  refine lv_aload_n (pc := 0) hx hb dX10_startAnew_0 rfl (lv_at hl 0 rfl) ?_
  refine lv_iconst (v := (0 : Int32)) (pc := 1) hx hb dX10_startAnew_1 (by decide) ?_
  refine va_put (pc := 2) (D := (dC, dI)) (ci := 11) (v := .int (0 : Int32)) (ty := .int) (C := RX10) (T := TX10) (N := 18) hx hb ht zq_layX10 tyX10 tyX10_ok nmX10 hown hK hP hD hS 0 rfl rfl 8 (by decide) (ht _ zq_608) (fun _ h9 => h9) rfl (by decide +kernel) rfl rfl (Nat.le_of_ble_eq_true rfl) dX10_startAnew_2 (fun H locs hP hD hS => ?_)
  have hP : va_P (dC, dI) zz_cls [zo_X10 a_o a_tape f_o_taped a_c a_sp a_rd a_now a_tri a_past (0 : Int32) a_trays a_ics a_ips a_w a_m a_g a_rw a_sl a_sh, zo_X4 a_now f_now_stand f_now_wind f_now_deeds, zo_X2 a_w a_c a_w_told a_w_facts a_w_stack f_w_wind, (a_w_told, .inl (dA 0, 315, .inl b_w_told)), zo_X1 a_g a_m a_g_order a_g_depth a_g_from f_g_size f_g_known] H := hP
  have hD : va_D A [zo_X10 a_o a_tape f_o_taped a_c a_sp a_rd a_now a_tri a_past (0 : Int32) a_trays a_ics a_ips a_w a_m a_g a_rw a_sl a_sh, zo_X4 a_now f_now_stand f_now_wind f_now_deeds, zo_X2 a_w a_c a_w_told a_w_facts a_w_stack f_w_wind, (a_w_told, .inl (dA 0, 315, .inl b_w_told)), zo_X1 a_g a_m a_g_order a_g_depth a_g_from f_g_size f_g_known] := hD
  refine lv_aload_n (pc := 5) hx hb dX10_startAnew_5 rfl (lv_at hl 0 rfl) ?_
  refine va_get (pc := 6) (D := (dC, dI)) (ci := 11) (v := .ref a_w) (C := RX10) (T := TX10) (N := 18) hx hb ht zq_layX10 hown hK hP 0 rfl rfl 12 (by decide) (ht _ zq_615) (fun _ h9 => h9) rfl dX10_startAnew_6 ?_
  obtain ⟨a1, ha1, hf⟩ := zc_1 hf
  refine zx_Vv (pc := 9) (wc := [zo_X2 a_w a_c a_w_told a_w_facts a_w_stack f_w_wind, (a_w_told, .inl (dA 0, 315, .inl b_w_told))]) (wr := [zo_X10 a_o a_tape f_o_taped a_c a_sp a_rd a_now a_tri a_past (0 : Int32) a_trays a_ics a_ips a_w a_m a_g a_rw a_sl a_sh, zo_X4 a_now f_now_stand f_now_wind f_now_deeds, zo_X1 a_g a_m a_g_order a_g_depth a_g_from f_g_size f_g_known]) (w1 := [zo_X2 a_w a_c a_w_told a_w_facts a_w_stack f_w_wind, (a_w_told, .inl (dA 0, 315, .inl a1))]) (As := []) (rest := []) ⟨hx, hb, hml, hown, ht⟩ (zt_X2_forget l dC dI dA adK adV _ a_w a_c a_w_told a_w_facts a_w_stack n f_w_wind b_w_told a1 ha1) (cwV 0 ht (zq_V zq_668 zq_165 zq_166 zq_81 zq_160) rfl rfl rfl zk_X2_forget ⟨Nat.le_of_ble_eq_true rfl, Nat.le_of_ble_eq_true rfl⟩) rfl rfl hZ hK hP hD hS hA [2, 3] [0, 1, 4] (by decide) (by decide) (by decide) rfl rfl rfl hl.1 (Nat.le_of_ble_eq_true rfl) dX10_startAnew_9 ⟨Nat.zero_le _, Nat.zero_le _⟩ rfl (fun H locs hP hD hS => ?_)
  have hP : va_P (dC, dI) zz_cls [zo_X10 a_o a_tape f_o_taped a_c a_sp a_rd a_now a_tri a_past (0 : Int32) a_trays a_ics a_ips a_w a_m a_g a_rw a_sl a_sh, zo_X4 a_now f_now_stand f_now_wind f_now_deeds, zo_X1 a_g a_m a_g_order a_g_depth a_g_from f_g_size f_g_known, zo_X2 a_w a_c a_w_told a_w_facts a_w_stack f_w_wind, (a_w_told, .inl (dA 0, 315, .inl a1))] H := hP
  have hD : va_D A [zo_X10 a_o a_tape f_o_taped a_c a_sp a_rd a_now a_tri a_past (0 : Int32) a_trays a_ics a_ips a_w a_m a_g a_rw a_sl a_sh, zo_X4 a_now f_now_stand f_now_wind f_now_deeds, zo_X1 a_g a_m a_g_order a_g_depth a_g_from f_g_size f_g_known, zo_X2 a_w a_c a_w_told a_w_facts a_w_stack f_w_wind, (a_w_told, .inl (dA 0, 315, .inl a1))] := hD
  refine lv_aload_n (pc := 12) hx hb dX10_startAnew_12 rfl (lv_at hl 0 rfl) ?_
  obtain ⟨v2, a3, v4, hv2, hf⟩ := zc_3 hf
  refine zx_Vv (pc := 13) (wc := [zo_X10 a_o a_tape f_o_taped a_c a_sp a_rd a_now a_tri a_past (0 : Int32) a_trays a_ics a_ips a_w a_m a_g a_rw a_sl a_sh, zo_X4 a_now f_now_stand f_now_wind f_now_deeds, zo_X2 a_w a_c a_w_told a_w_facts a_w_stack f_w_wind, (a_w_told, .inl (dA 0, 315, .inl a1)), zo_X1 a_g a_m a_g_order a_g_depth a_g_from f_g_size f_g_known]) (wr := []) (w1 := [zo_X10 a_o a_tape f_o_taped a_c a_sp a_rd a_now a_tri a_past (0 : Int32) a_trays a_ics a_ips a_w a_m a_g a_rw a_sl a_sh, zo_X4 a_now f_now_stand f_now_wind f_now_deeds, zo_X2 a_w a_c a_w_told a_w_facts a_w_stack v2, (a_w_told, .inl (dA 0, 315, .inl a3)), zo_X1 a_g a_m a_g_order a_g_depth a_g_from f_g_size v4]) (As := []) (rest := []) ⟨hx, hb, hml, hown, ht⟩ (zt_X10_settle l dC dI dA adK adV _ a_o a_tape a_c a_sp a_rd a_now a_tri a_past a_trays a_ics a_ips a_w a_m a_g a_rw a_sl a_sh a_w_told a_w_facts a_w_stack a_g_order a_g_depth a_g_from n f_o_taped (0 : Int32) f_now_stand f_now_wind f_now_deeds f_w_wind f_g_size f_g_known a1 v2 a3 v4 hv2) (cwV 0 ht (zq_V zq_669 zq_670 zq_671 zq_58 zq_667) rfl rfl rfl zk_X10_settle ⟨Nat.le_of_ble_eq_true rfl, Nat.le_of_ble_eq_true rfl⟩) rfl rfl hZ hK hP hD hS hA [0, 1, 3, 4, 2] [] (by decide) (by decide) (by decide) rfl rfl rfl hl.1 (Nat.le_of_ble_eq_true rfl) dX10_startAnew_13 ⟨Nat.zero_le _, Nat.zero_le _⟩ rfl (fun H locs hP hD hS => ?_)
  have hP : va_P (dC, dI) zz_cls [zo_X10 a_o a_tape f_o_taped a_c a_sp a_rd a_now a_tri a_past (0 : Int32) a_trays a_ics a_ips a_w a_m a_g a_rw a_sl a_sh, zo_X4 a_now f_now_stand f_now_wind f_now_deeds, zo_X2 a_w a_c a_w_told a_w_facts a_w_stack v2, (a_w_told, .inl (dA 0, 315, .inl a3)), zo_X1 a_g a_m a_g_order a_g_depth a_g_from f_g_size v4] H := hP
  have hD : va_D A [zo_X10 a_o a_tape f_o_taped a_c a_sp a_rd a_now a_tri a_past (0 : Int32) a_trays a_ics a_ips a_w a_m a_g a_rw a_sl a_sh, zo_X4 a_now f_now_stand f_now_wind f_now_deeds, zo_X2 a_w a_c a_w_told a_w_facts a_w_stack v2, (a_w_told, .inl (dA 0, 315, .inl a3)), zo_X1 a_g a_m a_g_order a_g_depth a_g_from f_g_size v4] := hD
  obtain ⟨rfl, rfl, rfl, rfl⟩ := zi_4 hf
  exact W.vret (pc := 16) hx hb hr (fun t ht hW => ⟨⟨(), rfl, trivial, zz_Bi (by rw [ht]; exact hP) (va_K.moved hW.alike hK) (hD)⟩, hS.F ht⟩) hS.2.2 dX10_startAnew_16

def zf_X10_fault (f_rd_fault : Int32) (f_rd_place : Int32) (p1 : Int32) : Option (Int32) :=
  if p1 = 0 then
    some f_rd_fault
  else
    if p1 = (1 : Int32) then
      some f_rd_place
    else
      some (-1 : Int32)
theorem zk_X10_fault : yX10_fault.cls = RX10 ∧ yX10_fault.cls ≠ "java/lang/invoke/MethodHandle" ∧ yX10_fault.cls ≠ "java/lang/invoke/VarHandle" ∧ (parseMethodDescriptor yX10_fault.desc).map (fun d => d.parameters.length) = some 1 := by decide +kernel
set_option maxHeartbeats 4000000 in
set_option maxRecDepth 100000 in
theorem zt_X10_fault (l : Launch) (dC : Nat → ClassId) (dI : Nat → Nat → Nat) (dA : Nat → ClassId) (adK adV : Nat → Nat) (sz : Nat) (a_o : Nat) (a_tape : Nat) (a_c : Nat) (a_sp : Nat) (a_rd : Nat) (a_now : Nat) (a_tri : Nat) (a_past : Nat) (a_trays : Nat) (a_ics : Nat) (a_ips : Nat) (a_w : Nat) (a_m : Nat) (a_g : Nat) (a_rw : Nat) (a_sl : Nat) (a_sh : Nat) (f_o_taped : Int32) (f_o_undoable : Int32) (f_rd_length : Int32) (f_rd_start : Int32) (f_rd_end : Int32) (f_rd_kind : Int32) (f_rd_value : Int32) (f_rd_inMay : Int32) (f_rd_fault : Int32) (f_rd_place : Int32) (p1 : Int32) (r0 : Int32) (hf : zf_X10_fault f_rd_fault f_rd_place p1 = some r0) : Met l yX10_fault (.code yX10_fault cX10_fault 2 (some .int) :: zq_T) ({ frames := 0, cells := 0, slots := 0, locals := 0 }) (va_Pc [.ref a_o, .int p1] (zx_M dC dI dA adK adV [zo_X10 a_o a_tape f_o_taped a_c a_sp a_rd a_now a_tri a_past f_o_undoable a_trays a_ics a_ips a_w a_m a_g a_rw a_sl a_sh, zo_X5 a_rd a_tape f_rd_length f_rd_start f_rd_end f_rd_kind f_rd_value (.ref a_sp) f_rd_inMay f_rd_fault f_rd_place] sz)) (va_Qi (fun (r : Int32) (_ : Unit) => r = r0) (fun _ t => zz_B dC dI dA (va_A [zo_X10 a_o a_tape f_o_taped a_c a_sp a_rd a_now a_tri a_past f_o_undoable a_trays a_ics a_ips a_w a_m a_g a_rw a_sl a_sh, zo_X5 a_rd a_tape f_rd_length f_rd_start f_rd_end f_rd_kind f_rd_value (.ref a_sp) f_rd_inMay f_rd_fault f_rd_place] sz) [zo_X10 a_o a_tape f_o_taped a_c a_sp a_rd a_now a_tri a_past f_o_undoable a_trays a_ics a_ips a_w a_m a_g a_rw a_sl a_sh, zo_X5 a_rd a_tape f_rd_length f_rd_start f_rd_end f_rd_kind f_rd_value (.ref a_sp) f_rd_inMay f_rd_fault f_rd_place] t) (va_A [zo_X10 a_o a_tape f_o_taped a_c a_sp a_rd a_now a_tri a_past f_o_undoable a_trays a_ics a_ips a_w a_m a_g a_rw a_sl a_sh, zo_X5 a_rd a_tape f_rd_length f_rd_start f_rd_end f_rd_kind f_rd_value (.ref a_sp) f_rd_inMay f_rd_fault f_rd_place] sz)) 0 0 (va_A [zo_X10 a_o a_tape f_o_taped a_c a_sp a_rd a_now a_tri a_past f_o_undoable a_trays a_ics a_ips a_w a_m a_g a_rw a_sl a_sh, zo_X5 a_rd a_tape f_rd_length f_rd_start f_rd_end f_rd_kind f_rd_value (.ref a_sp) f_rd_inMay f_rd_fault f_rd_place] sz) := by
  unfold zf_X10_fault at hf
  refine Met.ofW (cc := cX10_fault) (maxL := 2) (ret := (some .int)) (by decide) rfl ?_
  intro p e s m args below meth c s₁ B hml hv
  obtain ⟨rfl, ⟨hsz, hP, hK, hD0⟩, hZ⟩ := hv
  have hx := B.exec
  have hb := B.bytes
  have hr := B.returns
  have ht : ∀ w ∈ zq_T, w.before ([.ref a_o, .int p1] : List Value).toArray s = true := fun w hw => atoms_spec (ws := .code yX10_fault cX10_fault 2 (some .int) :: zq_T) B.pre w (List.mem_cons_of_mem _ hw)
  have hown : s.vm.findClass RX10 = some m.cls := findClass_of_methodNamed B.named
  have hlocks := B.notSynchronized
  subst hsz
  have hD := hD0.self (sz := s.heap.size)
  generalize hAe : va_A [zo_X10 a_o a_tape f_o_taped a_c a_sp a_rd a_now a_tri a_past f_o_undoable a_trays a_ics a_ips a_w a_m a_g a_rw a_sl a_sh, zo_X5 a_rd a_tape f_rd_length f_rd_start f_rd_end f_rd_kind f_rd_value (.ref a_sp) f_rd_inMay f_rd_fault f_rd_place] s.heap.size = A at hD hZ ⊢
  have hA : ∀ q : Nat, s.heap.size ≤ q → A q := fun q h => by rw [← hAe]; exact Or.inr h
  clear hAe hD0
  have hS : va_S A s.heap s.heap [] := va_S.rf
  have hl := lv_entry ([.ref a_o, .int p1]) (n := 2) (Nat.le_of_ble_eq_true rfl)
  rw [lg_entry_eq]
  generalize (lg_sl ([.ref a_o, .int p1]) ++ List.replicate (2 - (lg_sl ([.ref a_o, .int p1])).length) Slot.unset).toArray = ls at hl ⊢
  have hl : lv_has ls 2 [(0, .ref a_o), (1, .int p1)] := hl
  refine lv_iload_n (pc := 0) hx hb dX10_fault_0 rfl (lv_at hl 1 rfl) ?_
  refine lv_if_ne (tgt := 12) (pc := 1) hx hb dX10_fault_1 rfl (fun hc => ?_) (fun hc => ?_)
  · have hf := za_f hf hc
    refine lv_iload_n (pc := 12) hx hb dX10_fault_12 rfl (lv_at hl 1 rfl) ?_
    refine lv_iconst (v := (1 : Int32)) (pc := 13) hx hb dX10_fault_13 (by decide) ?_
    refine lv_icmp_ne (tgt := 27) (pc := 14) hx hb dX10_fault_14 rfl (fun hc => ?_) (fun hc => ?_)
    · have hf := za_f hf hc
      refine lv_iconst (v := (-1 : Int32)) (pc := 27) hx hb dX10_fault_27 (by decide) ?_
      obtain rfl := Option.some.inj hf
      exact W.iret (pc := 28) hx hb hr (fun t ht hW => ⟨⟨_, (), rfl, rfl, zz_Bi (by rw [ht]; exact hP) (va_K.moved hW.alike hK) (hD)⟩, hS.F ht⟩) hS.2.2 dX10_fault_28
    · have hf := za_t hf hc
      refine lv_aload_n (pc := 17) hx hb dX10_fault_17 rfl (lv_at hl 0 rfl) ?_
      refine va_get (pc := 18) (D := (dC, dI)) (ci := 11) (v := .ref a_rd) (C := RX10) (T := TX10) (N := 18) hx hb ht zq_layX10 hown hK hP 0 rfl rfl 4 (by decide) (ht _ zq_601) (fun _ h9 => h9) rfl dX10_fault_18 ?_
      refine va_get (pc := 21) (D := (dC, dI)) (ci := 6) (v := .int f_rd_place) (C := RX5) (T := TX5) (N := 10) hx hb ht zq_layX5 hown hK hP 1 rfl rfl 9 (by decide) (ht _ zq_686) (fun _ h9 => h9) rfl dX10_fault_21 ?_
      refine lv_goto (tgt := 28) (pc := 24) hx hb dX10_fault_24 rfl ?_
      obtain rfl := Option.some.inj hf
      exact W.iret (pc := 28) hx hb hr (fun t ht hW => ⟨⟨_, (), rfl, rfl, zz_Bi (by rw [ht]; exact hP) (va_K.moved hW.alike hK) (hD)⟩, hS.F ht⟩) hS.2.2 dX10_fault_28
  · have hf := za_t hf hc
    refine lv_aload_n (pc := 4) hx hb dX10_fault_4 rfl (lv_at hl 0 rfl) ?_
    refine va_get (pc := 5) (D := (dC, dI)) (ci := 11) (v := .ref a_rd) (C := RX10) (T := TX10) (N := 18) hx hb ht zq_layX10 hown hK hP 0 rfl rfl 4 (by decide) (ht _ zq_601) (fun _ h9 => h9) rfl dX10_fault_5 ?_
    refine va_get (pc := 8) (D := (dC, dI)) (ci := 6) (v := .int f_rd_fault) (C := RX5) (T := TX5) (N := 10) hx hb ht zq_layX5 hown hK hP 1 rfl rfl 8 (by decide) (ht _ zq_673) (fun _ h9 => h9) rfl dX10_fault_8 ?_
    obtain rfl := Option.some.inj hf
    exact W.iret (pc := 11) hx hb hr (fun t ht hW => ⟨⟨_, (), rfl, rfl, zz_Bi (by rw [ht]; exact hP) (va_K.moved hW.alike hK) (hD)⟩, hS.F ht⟩) hS.2.2 dX10_fault_11

def zf_X10_hole (f_c_top : Int32) (b_c_bars : (Nat → Int32)) (b_c_gives : (Nat → Int32)) (b_c_rough : (Nat → Int32)) (p1 : Int32) (p2 : Int32) : Option (Int32) :=
  zd_1 (zf_X0_isRung f_c_top p1) (fun v1 =>
  if v1 = 0 then
    some (-2 : Int32)
  else
    if p2 = (0 : Int32) then
      zd_1 (za_ld b_c_bars 9 p1) (fun v2 =>
      some v2)
    else if p2 = (1 : Int32) then
      zd_1 (za_ld b_c_gives 9 p1) (fun v3 =>
      some v3)
    else if p2 = (2 : Int32) then
      zd_1 (za_ld b_c_rough 9 p1) (fun v4 =>
      some v4)
    else
      some (-2 : Int32))
theorem zk_X10_hole : yX10_hole.cls = RX10 ∧ yX10_hole.cls ≠ "java/lang/invoke/MethodHandle" ∧ yX10_hole.cls ≠ "java/lang/invoke/VarHandle" ∧ (parseMethodDescriptor yX10_hole.desc).map (fun d => d.parameters.length) = some 2 := by decide +kernel
set_option maxHeartbeats 4000000 in
set_option maxRecDepth 100000 in
theorem zt_X10_hole (l : Launch) (dC : Nat → ClassId) (dI : Nat → Nat → Nat) (dA : Nat → ClassId) (adK adV : Nat → Nat) (sz : Nat) (a_o : Nat) (a_tape : Nat) (a_c : Nat) (a_sp : Nat) (a_rd : Nat) (a_now : Nat) (a_tri : Nat) (a_past : Nat) (a_trays : Nat) (a_ics : Nat) (a_ips : Nat) (a_w : Nat) (a_m : Nat) (a_g : Nat) (a_rw : Nat) (a_sl : Nat) (a_sh : Nat) (a_c_bars : Nat) (a_c_gives : Nat) (a_c_rough : Nat) (a_c_code : Nat) (f_o_taped : Int32) (f_o_undoable : Int32) (f_c_top : Int32) (f_c_things : Int32) (f_c_startRung : Int32) (f_c_startThings : Int32) (f_c_startStrength : Int32) (f_c_startWind : Int32) (f_c_slips : Int32) (f_c_lines : Int32) (f_c_coded : Int32) (f_c_tiresFrom : Int32) (f_c_tiresTo : Int32) (f_c_mayFrom : Int32) (f_c_mayTo : Int32) (b_c_bars : (Nat → Int32)) (b_c_gives : (Nat → Int32)) (b_c_rough : (Nat → Int32)) (p1 : Int32) (p2 : Int32) (r0 : Int32) (hf : zf_X10_hole f_c_top b_c_bars b_c_gives b_c_rough p1 p2 = some r0) : Met l yX10_hole (.code yX10_hole cX10_hole 3 (some .int) :: zq_T) ({ frames := 1, cells := 0, slots := 0, locals := 21 }) (va_Pc [.ref a_o, .int p1, .int p2] (zx_M dC dI dA adK adV [zo_X10 a_o a_tape f_o_taped a_c a_sp a_rd a_now a_tri a_past f_o_undoable a_trays a_ics a_ips a_w a_m a_g a_rw a_sl a_sh, zo_X0 a_c f_c_top f_c_things a_c_bars a_c_gives a_c_rough f_c_startRung f_c_startThings f_c_startStrength f_c_startWind f_c_slips f_c_lines a_c_code f_c_coded f_c_tiresFrom f_c_tiresTo f_c_mayFrom f_c_mayTo, (a_c_bars, .inl (dA 0, 9, .inl b_c_bars)), (a_c_gives, .inl (dA 0, 9, .inl b_c_gives)), (a_c_rough, .inl (dA 0, 9, .inl b_c_rough))] sz)) (va_Qi (fun (r : Int32) (_ : Unit) => r = r0) (fun _ t => zz_B dC dI dA (va_A [zo_X10 a_o a_tape f_o_taped a_c a_sp a_rd a_now a_tri a_past f_o_undoable a_trays a_ics a_ips a_w a_m a_g a_rw a_sl a_sh, zo_X0 a_c f_c_top f_c_things a_c_bars a_c_gives a_c_rough f_c_startRung f_c_startThings f_c_startStrength f_c_startWind f_c_slips f_c_lines a_c_code f_c_coded f_c_tiresFrom f_c_tiresTo f_c_mayFrom f_c_mayTo, (a_c_bars, .inl (dA 0, 9, .inl b_c_bars)), (a_c_gives, .inl (dA 0, 9, .inl b_c_gives)), (a_c_rough, .inl (dA 0, 9, .inl b_c_rough))] sz) [zo_X10 a_o a_tape f_o_taped a_c a_sp a_rd a_now a_tri a_past f_o_undoable a_trays a_ics a_ips a_w a_m a_g a_rw a_sl a_sh, zo_X0 a_c f_c_top f_c_things a_c_bars a_c_gives a_c_rough f_c_startRung f_c_startThings f_c_startStrength f_c_startWind f_c_slips f_c_lines a_c_code f_c_coded f_c_tiresFrom f_c_tiresTo f_c_mayFrom f_c_mayTo, (a_c_bars, .inl (dA 0, 9, .inl b_c_bars)), (a_c_gives, .inl (dA 0, 9, .inl b_c_gives)), (a_c_rough, .inl (dA 0, 9, .inl b_c_rough))] t) (va_A [zo_X10 a_o a_tape f_o_taped a_c a_sp a_rd a_now a_tri a_past f_o_undoable a_trays a_ics a_ips a_w a_m a_g a_rw a_sl a_sh, zo_X0 a_c f_c_top f_c_things a_c_bars a_c_gives a_c_rough f_c_startRung f_c_startThings f_c_startStrength f_c_startWind f_c_slips f_c_lines a_c_code f_c_coded f_c_tiresFrom f_c_tiresTo f_c_mayFrom f_c_mayTo, (a_c_bars, .inl (dA 0, 9, .inl b_c_bars)), (a_c_gives, .inl (dA 0, 9, .inl b_c_gives)), (a_c_rough, .inl (dA 0, 9, .inl b_c_rough))] sz)) 0 0 (va_A [zo_X10 a_o a_tape f_o_taped a_c a_sp a_rd a_now a_tri a_past f_o_undoable a_trays a_ics a_ips a_w a_m a_g a_rw a_sl a_sh, zo_X0 a_c f_c_top f_c_things a_c_bars a_c_gives a_c_rough f_c_startRung f_c_startThings f_c_startStrength f_c_startWind f_c_slips f_c_lines a_c_code f_c_coded f_c_tiresFrom f_c_tiresTo f_c_mayFrom f_c_mayTo, (a_c_bars, .inl (dA 0, 9, .inl b_c_bars)), (a_c_gives, .inl (dA 0, 9, .inl b_c_gives)), (a_c_rough, .inl (dA 0, 9, .inl b_c_rough))] sz) := by
  unfold zf_X10_hole at hf
  refine Met.ofW (cc := cX10_hole) (maxL := 3) (ret := (some .int)) (by decide) rfl ?_
  intro p e s m args below meth c s₁ B hml hv
  obtain ⟨rfl, ⟨hsz, hP, hK, hD0⟩, hZ⟩ := hv
  have hx := B.exec
  have hb := B.bytes
  have hr := B.returns
  have ht : ∀ w ∈ zq_T, w.before ([.ref a_o, .int p1, .int p2] : List Value).toArray s = true := fun w hw => atoms_spec (ws := .code yX10_hole cX10_hole 3 (some .int) :: zq_T) B.pre w (List.mem_cons_of_mem _ hw)
  have hown : s.vm.findClass RX10 = some m.cls := findClass_of_methodNamed B.named
  have hlocks := B.notSynchronized
  subst hsz
  have hD := hD0.self (sz := s.heap.size)
  generalize hAe : va_A [zo_X10 a_o a_tape f_o_taped a_c a_sp a_rd a_now a_tri a_past f_o_undoable a_trays a_ics a_ips a_w a_m a_g a_rw a_sl a_sh, zo_X0 a_c f_c_top f_c_things a_c_bars a_c_gives a_c_rough f_c_startRung f_c_startThings f_c_startStrength f_c_startWind f_c_slips f_c_lines a_c_code f_c_coded f_c_tiresFrom f_c_tiresTo f_c_mayFrom f_c_mayTo, (a_c_bars, .inl (dA 0, 9, .inl b_c_bars)), (a_c_gives, .inl (dA 0, 9, .inl b_c_gives)), (a_c_rough, .inl (dA 0, 9, .inl b_c_rough))] s.heap.size = A at hD hZ ⊢
  have hA : ∀ q : Nat, s.heap.size ≤ q → A q := fun q h => by rw [← hAe]; exact Or.inr h
  clear hAe hD0
  have hS : va_S A s.heap s.heap [] := va_S.rf
  have hl := lv_entry ([.ref a_o, .int p1, .int p2]) (n := 3) (Nat.le_of_ble_eq_true rfl)
  rw [lg_entry_eq]
  generalize (lg_sl ([.ref a_o, .int p1, .int p2]) ++ List.replicate (3 - (lg_sl ([.ref a_o, .int p1, .int p2])).length) Slot.unset).toArray = ls at hl ⊢
  have hl : lv_has ls 3 [(0, .ref a_o), (1, .int p1), (2, .int p2)] := hl
  refine lv_aload_n (pc := 0) hx hb dX10_hole_0 rfl (lv_at hl 0 rfl) ?_
  refine va_get (pc := 1) (D := (dC, dI)) (ci := 11) (v := .ref a_c) (C := RX10) (T := TX10) (N := 18) hx hb ht zq_layX10 hown hK hP 0 rfl rfl 2 (by decide) (ht _ zq_597) (fun _ h9 => h9) rfl dX10_hole_1 ?_
  refine lv_iload_n (pc := 4) hx hb dX10_hole_4 rfl (lv_at hl 1 rfl) ?_
  obtain ⟨v1, hv1, hf⟩ := zc_1 hf
  refine zx_Vi (pc := 5) (wc := [zo_X0 a_c f_c_top f_c_things a_c_bars a_c_gives a_c_rough f_c_startRung f_c_startThings f_c_startStrength f_c_startWind f_c_slips f_c_lines a_c_code f_c_coded f_c_tiresFrom f_c_tiresTo f_c_mayFrom f_c_mayTo]) (wr := [zo_X10 a_o a_tape f_o_taped a_c a_sp a_rd a_now a_tri a_past f_o_undoable a_trays a_ics a_ips a_w a_m a_g a_rw a_sl a_sh, (a_c_bars, .inl (dA 0, 9, .inl b_c_bars)), (a_c_gives, .inl (dA 0, 9, .inl b_c_gives)), (a_c_rough, .inl (dA 0, 9, .inl b_c_rough))]) (w1 := [zo_X0 a_c f_c_top f_c_things a_c_bars a_c_gives a_c_rough f_c_startRung f_c_startThings f_c_startStrength f_c_startWind f_c_slips f_c_lines a_c_code f_c_coded f_c_tiresFrom f_c_tiresTo f_c_mayFrom f_c_mayTo]) (As := [.int p1]) (rest := []) ⟨hx, hb, hml, hown, ht⟩ (zt_X0_isRung l dC dI dA adK adV _ a_c a_c_bars a_c_gives a_c_rough a_c_code f_c_top f_c_things f_c_startRung f_c_startThings f_c_startStrength f_c_startWind f_c_slips f_c_lines f_c_coded f_c_tiresFrom f_c_tiresTo f_c_mayFrom f_c_mayTo p1 v1 hv1) (cwV 1 ht (zq_V zq_691 zq_75 zq_76 zq_77 zq_32) rfl rfl rfl zk_X0_isRung ⟨Nat.le_of_ble_eq_true rfl, Nat.le_of_ble_eq_true rfl⟩) rfl rfl hZ hK hP hD hS hA [1] [0, 2, 3, 4] (by decide) (by decide) (by decide) rfl rfl rfl hl.1 (Nat.le_of_ble_eq_true rfl) dX10_hole_5 ⟨Nat.zero_le _, Nat.zero_le _⟩ rfl (fun H locs hP hD hS => ?_)
  have hP : va_P (dC, dI) zz_cls [zo_X10 a_o a_tape f_o_taped a_c a_sp a_rd a_now a_tri a_past f_o_undoable a_trays a_ics a_ips a_w a_m a_g a_rw a_sl a_sh, (a_c_bars, .inl (dA 0, 9, .inl b_c_bars)), (a_c_gives, .inl (dA 0, 9, .inl b_c_gives)), (a_c_rough, .inl (dA 0, 9, .inl b_c_rough)), zo_X0 a_c f_c_top f_c_things a_c_bars a_c_gives a_c_rough f_c_startRung f_c_startThings f_c_startStrength f_c_startWind f_c_slips f_c_lines a_c_code f_c_coded f_c_tiresFrom f_c_tiresTo f_c_mayFrom f_c_mayTo] H := hP
  have hD : va_D A [zo_X10 a_o a_tape f_o_taped a_c a_sp a_rd a_now a_tri a_past f_o_undoable a_trays a_ics a_ips a_w a_m a_g a_rw a_sl a_sh, (a_c_bars, .inl (dA 0, 9, .inl b_c_bars)), (a_c_gives, .inl (dA 0, 9, .inl b_c_gives)), (a_c_rough, .inl (dA 0, 9, .inl b_c_rough)), zo_X0 a_c f_c_top f_c_things a_c_bars a_c_gives a_c_rough f_c_startRung f_c_startThings f_c_startStrength f_c_startWind f_c_slips f_c_lines a_c_code f_c_coded f_c_tiresFrom f_c_tiresTo f_c_mayFrom f_c_mayTo] := hD
  refine lv_if_ne (tgt := 14) (pc := 8) hx hb dX10_hole_8 rfl (fun hc => ?_) (fun hc => ?_)
  · have hf := za_f hf hc
    refine lv_iload_n (pc := 14) hx hb dX10_hole_14 rfl (lv_at hl 2 rfl) ?_
    by_cases hc0 : p2 = (0 : Int32)
    · have hf := za_t hf hc0
      refine lv_tableIn (tgt := 40) (off := 25) (pc := 15) hx hb dX10_hole_15 (by rw [hc0]; decide) (by rw [hc0]; decide) (by rw [hc0]; decide) rfl ?_
      refine lv_aload_n (pc := 40) hx hb dX10_hole_40 rfl (lv_at hl 0 rfl) ?_
      refine va_get (pc := 41) (D := (dC, dI)) (ci := 11) (v := .ref a_c) (C := RX10) (T := TX10) (N := 18) hx hb ht zq_layX10 hown hK hP 0 rfl rfl 2 (by decide) (ht _ zq_597) (fun _ h9 => h9) rfl dX10_hole_41 ?_
      refine va_get (pc := 44) (D := (dC, dI)) (ci := 1) (v := .ref a_c_bars) (C := RX0) (T := TX0) (N := 17) hx hb ht zq_layX0 hown hK hP 4 rfl rfl 2 (by decide) (ht _ zq_688) (fun _ h9 => h9) rfl dX10_hole_44 ?_
      refine lv_iload_n (pc := 47) hx hb dX10_hole_47 rfl (lv_at hl 1 rfl) ?_
      obtain ⟨v2, hv2, hf⟩ := zc_1 hf
      refine zw_iald (pc := 48) hx hb hK hP 1 0 rfl rfl hv2 dX10_hole_48 ?_
      obtain rfl := Option.some.inj hf
      exact W.iret (pc := 49) hx hb hr (fun t ht hW => ⟨⟨_, (), rfl, rfl, zz_Bi (by rw [ht]; exact hP.sub [0, 4, 1, 2, 3] rfl) (va_K.moved hW.alike hK) (hD.sub [0, 4, 1, 2, 3] (by decide) rfl)⟩, hS.F ht⟩) hS.2.2 dX10_hole_49
    have hf := za_f hf hc0
    by_cases hc1 : p2 = (1 : Int32)
    · have hf := za_t hf hc1
      refine lv_tableIn (tgt := 50) (off := 35) (pc := 15) hx hb dX10_hole_15 (by rw [hc1]; decide) (by rw [hc1]; decide) (by rw [hc1]; decide) rfl ?_
      refine lv_aload_n (pc := 50) hx hb dX10_hole_50 rfl (lv_at hl 0 rfl) ?_
      refine va_get (pc := 51) (D := (dC, dI)) (ci := 11) (v := .ref a_c) (C := RX10) (T := TX10) (N := 18) hx hb ht zq_layX10 hown hK hP 0 rfl rfl 2 (by decide) (ht _ zq_597) (fun _ h9 => h9) rfl dX10_hole_51 ?_
      refine va_get (pc := 54) (D := (dC, dI)) (ci := 1) (v := .ref a_c_gives) (C := RX0) (T := TX0) (N := 17) hx hb ht zq_layX0 hown hK hP 4 rfl rfl 3 (by decide) (ht _ zq_689) (fun _ h9 => h9) rfl dX10_hole_54 ?_
      refine lv_iload_n (pc := 57) hx hb dX10_hole_57 rfl (lv_at hl 1 rfl) ?_
      obtain ⟨v3, hv3, hf⟩ := zc_1 hf
      refine zw_iald (pc := 58) hx hb hK hP 2 0 rfl rfl hv3 dX10_hole_58 ?_
      obtain rfl := Option.some.inj hf
      exact W.iret (pc := 59) hx hb hr (fun t ht hW => ⟨⟨_, (), rfl, rfl, zz_Bi (by rw [ht]; exact hP.sub [0, 4, 1, 2, 3] rfl) (va_K.moved hW.alike hK) (hD.sub [0, 4, 1, 2, 3] (by decide) rfl)⟩, hS.F ht⟩) hS.2.2 dX10_hole_59
    have hf := za_f hf hc1
    by_cases hc2 : p2 = (2 : Int32)
    · have hf := za_t hf hc2
      refine lv_tableIn (tgt := 60) (off := 45) (pc := 15) hx hb dX10_hole_15 (by rw [hc2]; decide) (by rw [hc2]; decide) (by rw [hc2]; decide) rfl ?_
      refine lv_aload_n (pc := 60) hx hb dX10_hole_60 rfl (lv_at hl 0 rfl) ?_
      refine va_get (pc := 61) (D := (dC, dI)) (ci := 11) (v := .ref a_c) (C := RX10) (T := TX10) (N := 18) hx hb ht zq_layX10 hown hK hP 0 rfl rfl 2 (by decide) (ht _ zq_597) (fun _ h9 => h9) rfl dX10_hole_61 ?_
      refine va_get (pc := 64) (D := (dC, dI)) (ci := 1) (v := .ref a_c_rough) (C := RX0) (T := TX0) (N := 17) hx hb ht zq_layX0 hown hK hP 4 rfl rfl 4 (by decide) (ht _ zq_690) (fun _ h9 => h9) rfl dX10_hole_64 ?_
      refine lv_iload_n (pc := 67) hx hb dX10_hole_67 rfl (lv_at hl 1 rfl) ?_
      obtain ⟨v4, hv4, hf⟩ := zc_1 hf
      refine zw_iald (pc := 68) hx hb hK hP 3 0 rfl rfl hv4 dX10_hole_68 ?_
      obtain rfl := Option.some.inj hf
      exact W.iret (pc := 69) hx hb hr (fun t ht hW => ⟨⟨_, (), rfl, rfl, zz_Bi (by rw [ht]; exact hP.sub [0, 4, 1, 2, 3] rfl) (va_K.moved hW.alike hK) (hD.sub [0, 4, 1, 2, 3] (by decide) rfl)⟩, hS.F ht⟩) hS.2.2 dX10_hole_69
    have hf := za_f hf hc2
    refine lv_tableOut (tgt := 70) (pc := 15) hx hb dX10_hole_15 (by have q0 := lv_neT (a := 0) hc0 (by decide); have q1 := lv_neT (a := 1) hc1 (by decide); have q2 := lv_neT (a := 2) hc2 (by decide); omega) rfl ?_
    refine lv_bipush (v := (-2 : Int32)) (pc := 70) hx hb dX10_hole_70 (by decide) ?_
    obtain rfl := Option.some.inj hf
    exact W.iret (pc := 72) hx hb hr (fun t ht hW => ⟨⟨_, (), rfl, rfl, zz_Bi (by rw [ht]; exact hP.sub [0, 4, 1, 2, 3] rfl) (va_K.moved hW.alike hK) (hD.sub [0, 4, 1, 2, 3] (by decide) rfl)⟩, hS.F ht⟩) hS.2.2 dX10_hole_72
  · have hf := za_t hf hc
    refine lv_bipush (v := (-2 : Int32)) (pc := 11) hx hb dX10_hole_11 (by decide) ?_
    obtain rfl := Option.some.inj hf
    exact W.iret (pc := 13) hx hb hr (fun t ht hW => ⟨⟨_, (), rfl, rfl, zz_Bi (by rw [ht]; exact hP.sub [0, 4, 1, 2, 3] rfl) (va_K.moved hW.alike hK) (hD.sub [0, 4, 1, 2, 3] (by decide) rfl)⟩, hS.F ht⟩) hS.2.2 dX10_hole_13

def zf_X10_why (n : Nat) (f_c_top : Int32) (f_c_things : Int32) (f_c_tiresFrom : Int32) (f_c_tiresTo : Int32) (f_c_mayFrom : Int32) (f_c_mayTo : Int32) (b_c_bars : (Nat → Int32)) (b_c_gives : (Nat → Int32)) (b_c_rough : (Nat → Int32)) (b_c_code : (Nat → Int32)) (f_now_stand : Int32) (f_w_wind : Int32) (b_w_told : (Nat → Int32)) (b_w_facts : (Nat → Int32)) (b_w_stack : (Nat → Int32)) (p1 : Int32) : Option (Int32 × (Nat → Int32) × (Nat → Int32) × (Nat → Int32)) :=
  zd_4 (zf_X3_refusal n f_c_top f_c_things f_c_tiresFrom f_c_tiresTo f_c_mayFrom f_c_mayTo b_c_bars b_c_gives b_c_rough b_c_code f_w_wind b_w_told b_w_facts b_w_stack f_now_stand p1) (fun v1 a2 a3 a4 =>
  some (v1, a2, a3, a4))
theorem zk_X10_why : yX10_why.cls = RX10 ∧ yX10_why.cls ≠ "java/lang/invoke/MethodHandle" ∧ yX10_why.cls ≠ "java/lang/invoke/VarHandle" ∧ (parseMethodDescriptor yX10_why.desc).map (fun d => d.parameters.length) = some 1 := by decide +kernel
set_option maxHeartbeats 4000000 in
set_option maxRecDepth 100000 in
theorem zt_X10_why (l : Launch) (dC : Nat → ClassId) (dI : Nat → Nat → Nat) (dA : Nat → ClassId) (adK adV : Nat → Nat) (sz : Nat) (a_o : Nat) (a_tape : Nat) (a_c : Nat) (a_sp : Nat) (a_rd : Nat) (a_now : Nat) (a_tri : Nat) (a_past : Nat) (a_trays : Nat) (a_ics : Nat) (a_ips : Nat) (a_w : Nat) (a_m : Nat) (a_g : Nat) (a_rw : Nat) (a_sl : Nat) (a_sh : Nat) (a_c_bars : Nat) (a_c_gives : Nat) (a_c_rough : Nat) (a_c_code : Nat) (a_w_told : Nat) (a_w_facts : Nat) (a_w_stack : Nat) (a_m_deeds : Nat) (a_m_ends : Nat) (n : Nat) (f_o_taped : Int32) (f_o_undoable : Int32) (f_c_top : Int32) (f_c_things : Int32) (f_c_startRung : Int32) (f_c_startThings : Int32) (f_c_startStrength : Int32) (f_c_startWind : Int32) (f_c_slips : Int32) (f_c_lines : Int32) (f_c_coded : Int32) (f_c_tiresFrom : Int32) (f_c_tiresTo : Int32) (f_c_mayFrom : Int32) (f_c_mayTo : Int32) (f_now_stand : Int32) (f_now_wind : Int32) (f_now_deeds : Int32) (f_w_wind : Int32) (f_m_found : Int32) (b_c_bars : (Nat → Int32)) (b_c_gives : (Nat → Int32)) (b_c_rough : (Nat → Int32)) (b_c_code : (Nat → Int32)) (b_w_told : (Nat → Int32)) (b_w_facts : (Nat → Int32)) (b_w_stack : (Nat → Int32)) (p1 : Int32) (r0 : Int32) (o1 : (Nat → Int32)) (o2 : (Nat → Int32)) (o3 : (Nat → Int32)) (hf : zf_X10_why n f_c_top f_c_things f_c_tiresFrom f_c_tiresTo f_c_mayFrom f_c_mayTo b_c_bars b_c_gives b_c_rough b_c_code f_now_stand f_w_wind b_w_told b_w_facts b_w_stack p1 = some (r0, o1, o2, o3)) : Met l yX10_why (.code yX10_why cX10_why 2 (some .int) :: zq_T) ({ frames := 5, cells := 0, slots := 0, locals := 153 }) (va_Pc [.ref a_o, .int p1] (zx_M dC dI dA adK adV [zo_X10 a_o a_tape f_o_taped a_c a_sp a_rd a_now a_tri a_past f_o_undoable a_trays a_ics a_ips a_w a_m a_g a_rw a_sl a_sh, zo_X0 a_c f_c_top f_c_things a_c_bars a_c_gives a_c_rough f_c_startRung f_c_startThings f_c_startStrength f_c_startWind f_c_slips f_c_lines a_c_code f_c_coded f_c_tiresFrom f_c_tiresTo f_c_mayFrom f_c_mayTo, (a_c_bars, .inl (dA 0, 9, .inl b_c_bars)), (a_c_gives, .inl (dA 0, 9, .inl b_c_gives)), (a_c_rough, .inl (dA 0, 9, .inl b_c_rough)), (a_c_code, .inl (dA 0, 900, .inl b_c_code)), zo_X4 a_now f_now_stand f_now_wind f_now_deeds, zo_X2 a_w a_c a_w_told a_w_facts a_w_stack f_w_wind, (a_w_told, .inl (dA 0, 315, .inl b_w_told)), (a_w_facts, .inl (dA 0, 6, .inl b_w_facts)), (a_w_stack, .inl (dA 0, 64, .inl b_w_stack)), zo_X3 a_m a_c a_w a_m_deeds a_m_ends f_m_found] sz)) (va_Qi (fun (r : Int32) (_ : Unit) => r = r0) (fun _ t => zz_B dC dI dA (va_A [zo_X10 a_o a_tape f_o_taped a_c a_sp a_rd a_now a_tri a_past f_o_undoable a_trays a_ics a_ips a_w a_m a_g a_rw a_sl a_sh, zo_X0 a_c f_c_top f_c_things a_c_bars a_c_gives a_c_rough f_c_startRung f_c_startThings f_c_startStrength f_c_startWind f_c_slips f_c_lines a_c_code f_c_coded f_c_tiresFrom f_c_tiresTo f_c_mayFrom f_c_mayTo, (a_c_bars, .inl (dA 0, 9, .inl b_c_bars)), (a_c_gives, .inl (dA 0, 9, .inl b_c_gives)), (a_c_rough, .inl (dA 0, 9, .inl b_c_rough)), (a_c_code, .inl (dA 0, 900, .inl b_c_code)), zo_X4 a_now f_now_stand f_now_wind f_now_deeds, zo_X2 a_w a_c a_w_told a_w_facts a_w_stack f_w_wind, (a_w_told, .inl (dA 0, 315, .inl b_w_told)), (a_w_facts, .inl (dA 0, 6, .inl b_w_facts)), (a_w_stack, .inl (dA 0, 64, .inl b_w_stack)), zo_X3 a_m a_c a_w a_m_deeds a_m_ends f_m_found] sz) [zo_X10 a_o a_tape f_o_taped a_c a_sp a_rd a_now a_tri a_past f_o_undoable a_trays a_ics a_ips a_w a_m a_g a_rw a_sl a_sh, zo_X0 a_c f_c_top f_c_things a_c_bars a_c_gives a_c_rough f_c_startRung f_c_startThings f_c_startStrength f_c_startWind f_c_slips f_c_lines a_c_code f_c_coded f_c_tiresFrom f_c_tiresTo f_c_mayFrom f_c_mayTo, (a_c_bars, .inl (dA 0, 9, .inl b_c_bars)), (a_c_gives, .inl (dA 0, 9, .inl b_c_gives)), (a_c_rough, .inl (dA 0, 9, .inl b_c_rough)), (a_c_code, .inl (dA 0, 900, .inl b_c_code)), zo_X4 a_now f_now_stand f_now_wind f_now_deeds, zo_X2 a_w a_c a_w_told a_w_facts a_w_stack f_w_wind, (a_w_told, .inl (dA 0, 315, .inl o1)), (a_w_facts, .inl (dA 0, 6, .inl o2)), (a_w_stack, .inl (dA 0, 64, .inl o3)), zo_X3 a_m a_c a_w a_m_deeds a_m_ends f_m_found] t) (va_A [zo_X10 a_o a_tape f_o_taped a_c a_sp a_rd a_now a_tri a_past f_o_undoable a_trays a_ics a_ips a_w a_m a_g a_rw a_sl a_sh, zo_X0 a_c f_c_top f_c_things a_c_bars a_c_gives a_c_rough f_c_startRung f_c_startThings f_c_startStrength f_c_startWind f_c_slips f_c_lines a_c_code f_c_coded f_c_tiresFrom f_c_tiresTo f_c_mayFrom f_c_mayTo, (a_c_bars, .inl (dA 0, 9, .inl b_c_bars)), (a_c_gives, .inl (dA 0, 9, .inl b_c_gives)), (a_c_rough, .inl (dA 0, 9, .inl b_c_rough)), (a_c_code, .inl (dA 0, 900, .inl b_c_code)), zo_X4 a_now f_now_stand f_now_wind f_now_deeds, zo_X2 a_w a_c a_w_told a_w_facts a_w_stack f_w_wind, (a_w_told, .inl (dA 0, 315, .inl b_w_told)), (a_w_facts, .inl (dA 0, 6, .inl b_w_facts)), (a_w_stack, .inl (dA 0, 64, .inl b_w_stack)), zo_X3 a_m a_c a_w a_m_deeds a_m_ends f_m_found] sz)) 0 0 (va_A [zo_X10 a_o a_tape f_o_taped a_c a_sp a_rd a_now a_tri a_past f_o_undoable a_trays a_ics a_ips a_w a_m a_g a_rw a_sl a_sh, zo_X0 a_c f_c_top f_c_things a_c_bars a_c_gives a_c_rough f_c_startRung f_c_startThings f_c_startStrength f_c_startWind f_c_slips f_c_lines a_c_code f_c_coded f_c_tiresFrom f_c_tiresTo f_c_mayFrom f_c_mayTo, (a_c_bars, .inl (dA 0, 9, .inl b_c_bars)), (a_c_gives, .inl (dA 0, 9, .inl b_c_gives)), (a_c_rough, .inl (dA 0, 9, .inl b_c_rough)), (a_c_code, .inl (dA 0, 900, .inl b_c_code)), zo_X4 a_now f_now_stand f_now_wind f_now_deeds, zo_X2 a_w a_c a_w_told a_w_facts a_w_stack f_w_wind, (a_w_told, .inl (dA 0, 315, .inl b_w_told)), (a_w_facts, .inl (dA 0, 6, .inl b_w_facts)), (a_w_stack, .inl (dA 0, 64, .inl b_w_stack)), zo_X3 a_m a_c a_w a_m_deeds a_m_ends f_m_found] sz) := by
  unfold zf_X10_why at hf
  refine Met.ofW (cc := cX10_why) (maxL := 2) (ret := (some .int)) (by decide) rfl ?_
  intro p e s m args below meth c s₁ B hml hv
  obtain ⟨rfl, ⟨hsz, hP, hK, hD0⟩, hZ⟩ := hv
  have hx := B.exec
  have hb := B.bytes
  have hr := B.returns
  have ht : ∀ w ∈ zq_T, w.before ([.ref a_o, .int p1] : List Value).toArray s = true := fun w hw => atoms_spec (ws := .code yX10_why cX10_why 2 (some .int) :: zq_T) B.pre w (List.mem_cons_of_mem _ hw)
  have hown : s.vm.findClass RX10 = some m.cls := findClass_of_methodNamed B.named
  have hlocks := B.notSynchronized
  subst hsz
  have hD := hD0.self (sz := s.heap.size)
  generalize hAe : va_A [zo_X10 a_o a_tape f_o_taped a_c a_sp a_rd a_now a_tri a_past f_o_undoable a_trays a_ics a_ips a_w a_m a_g a_rw a_sl a_sh, zo_X0 a_c f_c_top f_c_things a_c_bars a_c_gives a_c_rough f_c_startRung f_c_startThings f_c_startStrength f_c_startWind f_c_slips f_c_lines a_c_code f_c_coded f_c_tiresFrom f_c_tiresTo f_c_mayFrom f_c_mayTo, (a_c_bars, .inl (dA 0, 9, .inl b_c_bars)), (a_c_gives, .inl (dA 0, 9, .inl b_c_gives)), (a_c_rough, .inl (dA 0, 9, .inl b_c_rough)), (a_c_code, .inl (dA 0, 900, .inl b_c_code)), zo_X4 a_now f_now_stand f_now_wind f_now_deeds, zo_X2 a_w a_c a_w_told a_w_facts a_w_stack f_w_wind, (a_w_told, .inl (dA 0, 315, .inl b_w_told)), (a_w_facts, .inl (dA 0, 6, .inl b_w_facts)), (a_w_stack, .inl (dA 0, 64, .inl b_w_stack)), zo_X3 a_m a_c a_w a_m_deeds a_m_ends f_m_found] s.heap.size = A at hD hZ ⊢
  have hA : ∀ q : Nat, s.heap.size ≤ q → A q := fun q h => by rw [← hAe]; exact Or.inr h
  clear hAe hD0
  have hS : va_S A s.heap s.heap [] := va_S.rf
  have hl := lv_entry ([.ref a_o, .int p1]) (n := 2) (Nat.le_of_ble_eq_true rfl)
  rw [lg_entry_eq]
  generalize (lg_sl ([.ref a_o, .int p1]) ++ List.replicate (2 - (lg_sl ([.ref a_o, .int p1])).length) Slot.unset).toArray = ls at hl ⊢
  have hl : lv_has ls 2 [(0, .ref a_o), (1, .int p1)] := hl
  refine lv_aload_n (pc := 0) hx hb dX10_why_0 rfl (lv_at hl 0 rfl) ?_
  refine va_get (pc := 1) (D := (dC, dI)) (ci := 11) (v := .ref a_m) (C := RX10) (T := TX10) (N := 18) hx hb ht zq_layX10 hown hK hP 0 rfl rfl 13 (by decide) (ht _ zq_618) (fun _ h9 => h9) rfl dX10_why_1 ?_
  refine lv_aload_n (pc := 4) hx hb dX10_why_4 rfl (lv_at hl 0 rfl) ?_
  refine va_get (pc := 5) (D := (dC, dI)) (ci := 11) (v := .ref a_now) (C := RX10) (T := TX10) (N := 18) hx hb ht zq_layX10 hown hK hP 0 rfl rfl 5 (by decide) (ht _ zq_605) (fun _ h9 => h9) rfl dX10_why_5 ?_
  refine va_get (pc := 8) (D := (dC, dI)) (ci := 5) (v := .int f_now_stand) (C := RX4) (T := TX4) (N := 3) hx hb ht zq_layX4 hown hK hP 6 rfl rfl 0 (by decide) (ht _ zq_692) (fun _ h9 => h9) rfl dX10_why_8 ?_
  refine lv_iload_n (pc := 11) hx hb dX10_why_11 rfl (lv_at hl 1 rfl) ?_
  obtain ⟨v1, a2, a3, a4, hv1, hf⟩ := zc_4 hf
  refine zx_Vi (pc := 12) (wc := [zo_X3 a_m a_c a_w a_m_deeds a_m_ends f_m_found, zo_X0 a_c f_c_top f_c_things a_c_bars a_c_gives a_c_rough f_c_startRung f_c_startThings f_c_startStrength f_c_startWind f_c_slips f_c_lines a_c_code f_c_coded f_c_tiresFrom f_c_tiresTo f_c_mayFrom f_c_mayTo, (a_c_bars, .inl (dA 0, 9, .inl b_c_bars)), (a_c_gives, .inl (dA 0, 9, .inl b_c_gives)), (a_c_rough, .inl (dA 0, 9, .inl b_c_rough)), (a_c_code, .inl (dA 0, 900, .inl b_c_code)), zo_X2 a_w a_c a_w_told a_w_facts a_w_stack f_w_wind, (a_w_told, .inl (dA 0, 315, .inl b_w_told)), (a_w_facts, .inl (dA 0, 6, .inl b_w_facts)), (a_w_stack, .inl (dA 0, 64, .inl b_w_stack))]) (wr := [zo_X10 a_o a_tape f_o_taped a_c a_sp a_rd a_now a_tri a_past f_o_undoable a_trays a_ics a_ips a_w a_m a_g a_rw a_sl a_sh, zo_X4 a_now f_now_stand f_now_wind f_now_deeds]) (w1 := [zo_X3 a_m a_c a_w a_m_deeds a_m_ends f_m_found, zo_X0 a_c f_c_top f_c_things a_c_bars a_c_gives a_c_rough f_c_startRung f_c_startThings f_c_startStrength f_c_startWind f_c_slips f_c_lines a_c_code f_c_coded f_c_tiresFrom f_c_tiresTo f_c_mayFrom f_c_mayTo, (a_c_bars, .inl (dA 0, 9, .inl b_c_bars)), (a_c_gives, .inl (dA 0, 9, .inl b_c_gives)), (a_c_rough, .inl (dA 0, 9, .inl b_c_rough)), (a_c_code, .inl (dA 0, 900, .inl b_c_code)), zo_X2 a_w a_c a_w_told a_w_facts a_w_stack f_w_wind, (a_w_told, .inl (dA 0, 315, .inl a2)), (a_w_facts, .inl (dA 0, 6, .inl a3)), (a_w_stack, .inl (dA 0, 64, .inl a4))]) (As := [.int f_now_stand, .int p1]) (rest := []) ⟨hx, hb, hml, hown, ht⟩ (zt_X3_refusal l dC dI dA adK adV _ a_m a_c a_w a_m_deeds a_m_ends a_c_bars a_c_gives a_c_rough a_c_code a_w_told a_w_facts a_w_stack n f_m_found f_c_top f_c_things f_c_startRung f_c_startThings f_c_startStrength f_c_startWind f_c_slips f_c_lines f_c_coded f_c_tiresFrom f_c_tiresTo f_c_mayFrom f_c_mayTo f_w_wind b_c_bars b_c_gives b_c_rough b_c_code b_w_told b_w_facts b_w_stack f_now_stand p1 v1 a2 a3 a4 hv1) (cwV 2 ht (zq_V zq_693 zq_181 zq_182 zq_50 zq_177) rfl rfl rfl zk_X3_refusal ⟨Nat.le_of_ble_eq_true rfl, Nat.le_of_ble_eq_true rfl⟩) rfl rfl hZ hK hP hD hS hA [11, 1, 2, 3, 4, 5, 7, 8, 9, 10] [0, 6] (by decide) (by decide) (by decide) rfl rfl rfl hl.1 (Nat.le_of_ble_eq_true rfl) dX10_why_12 ⟨Nat.zero_le _, Nat.zero_le _⟩ rfl (fun H locs hP hD hS => ?_)
  have hP : va_P (dC, dI) zz_cls [zo_X10 a_o a_tape f_o_taped a_c a_sp a_rd a_now a_tri a_past f_o_undoable a_trays a_ics a_ips a_w a_m a_g a_rw a_sl a_sh, zo_X4 a_now f_now_stand f_now_wind f_now_deeds, zo_X3 a_m a_c a_w a_m_deeds a_m_ends f_m_found, zo_X0 a_c f_c_top f_c_things a_c_bars a_c_gives a_c_rough f_c_startRung f_c_startThings f_c_startStrength f_c_startWind f_c_slips f_c_lines a_c_code f_c_coded f_c_tiresFrom f_c_tiresTo f_c_mayFrom f_c_mayTo, (a_c_bars, .inl (dA 0, 9, .inl b_c_bars)), (a_c_gives, .inl (dA 0, 9, .inl b_c_gives)), (a_c_rough, .inl (dA 0, 9, .inl b_c_rough)), (a_c_code, .inl (dA 0, 900, .inl b_c_code)), zo_X2 a_w a_c a_w_told a_w_facts a_w_stack f_w_wind, (a_w_told, .inl (dA 0, 315, .inl a2)), (a_w_facts, .inl (dA 0, 6, .inl a3)), (a_w_stack, .inl (dA 0, 64, .inl a4))] H := hP
  have hD : va_D A [zo_X10 a_o a_tape f_o_taped a_c a_sp a_rd a_now a_tri a_past f_o_undoable a_trays a_ics a_ips a_w a_m a_g a_rw a_sl a_sh, zo_X4 a_now f_now_stand f_now_wind f_now_deeds, zo_X3 a_m a_c a_w a_m_deeds a_m_ends f_m_found, zo_X0 a_c f_c_top f_c_things a_c_bars a_c_gives a_c_rough f_c_startRung f_c_startThings f_c_startStrength f_c_startWind f_c_slips f_c_lines a_c_code f_c_coded f_c_tiresFrom f_c_tiresTo f_c_mayFrom f_c_mayTo, (a_c_bars, .inl (dA 0, 9, .inl b_c_bars)), (a_c_gives, .inl (dA 0, 9, .inl b_c_gives)), (a_c_rough, .inl (dA 0, 9, .inl b_c_rough)), (a_c_code, .inl (dA 0, 900, .inl b_c_code)), zo_X2 a_w a_c a_w_told a_w_facts a_w_stack f_w_wind, (a_w_told, .inl (dA 0, 315, .inl a2)), (a_w_facts, .inl (dA 0, 6, .inl a3)), (a_w_stack, .inl (dA 0, 64, .inl a4))] := hD
  obtain ⟨rfl, rfl, rfl, rfl⟩ := zi_4 hf
  exact W.iret (pc := 15) hx hb hr (fun t ht hW => ⟨⟨_, (), rfl, rfl, zz_Bi (by rw [ht]; exact hP.sub [0, 3, 4, 5, 6, 7, 1, 8, 9, 10, 11, 2] rfl) (va_K.moved hW.alike hK) (hD.sub [0, 3, 4, 5, 6, 7, 1, 8, 9, 10, 11, 2] (by decide) rfl)⟩, hS.F ht⟩) hS.2.2 dX10_why_15

def zf_X10_by (n : Nat) (f_c_top : Int32) (f_c_things : Int32) (f_c_tiresFrom : Int32) (f_c_tiresTo : Int32) (f_c_mayFrom : Int32) (f_c_mayTo : Int32) (b_c_bars : (Nat → Int32)) (b_c_gives : (Nat → Int32)) (b_c_rough : (Nat → Int32)) (b_c_code : (Nat → Int32)) (f_now_stand : Int32) (f_w_wind : Int32) (b_w_told : (Nat → Int32)) (b_w_facts : (Nat → Int32)) (b_w_stack : (Nat → Int32)) (p1 : Int32) (p2 : Int32) : Option (Int32 × (Nat → Int32) × (Nat → Int32) × (Nat → Int32)) :=
  if p2 < 0 then
    some ((-2 : Int32), b_w_told, b_w_facts, b_w_stack)
  else
    if p2 ≤ (2 : Int32) then
      zd_4 (zf_X3_after n f_c_top f_c_things f_c_tiresFrom f_c_tiresTo f_c_mayFrom f_c_mayTo b_c_bars b_c_gives b_c_rough b_c_code f_w_wind b_w_told b_w_facts b_w_stack f_now_stand p1) (fun v1 a2 a3 a4 =>
      if v1 = (-1 : Int32) then
        some ((-5 : Int32), a2, a3, a4)
      else
        if p2 = 0 then
          zd_1 (zf_X10_rungOf v1) (fun v5 =>
          some (v5, a2, a3, a4))
        else
          if p2 = (1 : Int32) then
            zd_1 (zf_X10_thingsOf v1) (fun v6 =>
            some (v6, a2, a3, a4))
          else
            zd_1 (zf_X10_strengthOf v1) (fun v7 =>
            some (v7, a2, a3, a4)))
    else
      some ((-2 : Int32), b_w_told, b_w_facts, b_w_stack)
theorem zk_X10_by : yX10_by.cls = RX10 ∧ yX10_by.cls ≠ "java/lang/invoke/MethodHandle" ∧ yX10_by.cls ≠ "java/lang/invoke/VarHandle" ∧ (parseMethodDescriptor yX10_by.desc).map (fun d => d.parameters.length) = some 2 := by decide +kernel
set_option maxHeartbeats 4000000 in
set_option maxRecDepth 100000 in
theorem zt_X10_by (l : Launch) (dC : Nat → ClassId) (dI : Nat → Nat → Nat) (dA : Nat → ClassId) (adK adV : Nat → Nat) (sz : Nat) (a_o : Nat) (a_tape : Nat) (a_c : Nat) (a_sp : Nat) (a_rd : Nat) (a_now : Nat) (a_tri : Nat) (a_past : Nat) (a_trays : Nat) (a_ics : Nat) (a_ips : Nat) (a_w : Nat) (a_m : Nat) (a_g : Nat) (a_rw : Nat) (a_sl : Nat) (a_sh : Nat) (a_c_bars : Nat) (a_c_gives : Nat) (a_c_rough : Nat) (a_c_code : Nat) (a_w_told : Nat) (a_w_facts : Nat) (a_w_stack : Nat) (a_m_deeds : Nat) (a_m_ends : Nat) (n : Nat) (f_o_taped : Int32) (f_o_undoable : Int32) (f_c_top : Int32) (f_c_things : Int32) (f_c_startRung : Int32) (f_c_startThings : Int32) (f_c_startStrength : Int32) (f_c_startWind : Int32) (f_c_slips : Int32) (f_c_lines : Int32) (f_c_coded : Int32) (f_c_tiresFrom : Int32) (f_c_tiresTo : Int32) (f_c_mayFrom : Int32) (f_c_mayTo : Int32) (f_now_stand : Int32) (f_now_wind : Int32) (f_now_deeds : Int32) (f_w_wind : Int32) (f_m_found : Int32) (b_c_bars : (Nat → Int32)) (b_c_gives : (Nat → Int32)) (b_c_rough : (Nat → Int32)) (b_c_code : (Nat → Int32)) (b_w_told : (Nat → Int32)) (b_w_facts : (Nat → Int32)) (b_w_stack : (Nat → Int32)) (p1 : Int32) (p2 : Int32) (r0 : Int32) (o1 : (Nat → Int32)) (o2 : (Nat → Int32)) (o3 : (Nat → Int32)) (hf : zf_X10_by n f_c_top f_c_things f_c_tiresFrom f_c_tiresTo f_c_mayFrom f_c_mayTo b_c_bars b_c_gives b_c_rough b_c_code f_now_stand f_w_wind b_w_told b_w_facts b_w_stack p1 p2 = some (r0, o1, o2, o3)) : Met l yX10_by (.code yX10_by cX10_by 4 (some .int) :: zq_T) ({ frames := 6, cells := 0, slots := 0, locals := 176 }) (va_Pc [.ref a_o, .int p1, .int p2] (zx_M dC dI dA adK adV [zo_X10 a_o a_tape f_o_taped a_c a_sp a_rd a_now a_tri a_past f_o_undoable a_trays a_ics a_ips a_w a_m a_g a_rw a_sl a_sh, zo_X0 a_c f_c_top f_c_things a_c_bars a_c_gives a_c_rough f_c_startRung f_c_startThings f_c_startStrength f_c_startWind f_c_slips f_c_lines a_c_code f_c_coded f_c_tiresFrom f_c_tiresTo f_c_mayFrom f_c_mayTo, (a_c_bars, .inl (dA 0, 9, .inl b_c_bars)), (a_c_gives, .inl (dA 0, 9, .inl b_c_gives)), (a_c_rough, .inl (dA 0, 9, .inl b_c_rough)), (a_c_code, .inl (dA 0, 900, .inl b_c_code)), zo_X4 a_now f_now_stand f_now_wind f_now_deeds, zo_X2 a_w a_c a_w_told a_w_facts a_w_stack f_w_wind, (a_w_told, .inl (dA 0, 315, .inl b_w_told)), (a_w_facts, .inl (dA 0, 6, .inl b_w_facts)), (a_w_stack, .inl (dA 0, 64, .inl b_w_stack)), zo_X3 a_m a_c a_w a_m_deeds a_m_ends f_m_found] sz)) (va_Qi (fun (r : Int32) (_ : Unit) => r = r0) (fun _ t => zz_B dC dI dA (va_A [zo_X10 a_o a_tape f_o_taped a_c a_sp a_rd a_now a_tri a_past f_o_undoable a_trays a_ics a_ips a_w a_m a_g a_rw a_sl a_sh, zo_X0 a_c f_c_top f_c_things a_c_bars a_c_gives a_c_rough f_c_startRung f_c_startThings f_c_startStrength f_c_startWind f_c_slips f_c_lines a_c_code f_c_coded f_c_tiresFrom f_c_tiresTo f_c_mayFrom f_c_mayTo, (a_c_bars, .inl (dA 0, 9, .inl b_c_bars)), (a_c_gives, .inl (dA 0, 9, .inl b_c_gives)), (a_c_rough, .inl (dA 0, 9, .inl b_c_rough)), (a_c_code, .inl (dA 0, 900, .inl b_c_code)), zo_X4 a_now f_now_stand f_now_wind f_now_deeds, zo_X2 a_w a_c a_w_told a_w_facts a_w_stack f_w_wind, (a_w_told, .inl (dA 0, 315, .inl b_w_told)), (a_w_facts, .inl (dA 0, 6, .inl b_w_facts)), (a_w_stack, .inl (dA 0, 64, .inl b_w_stack)), zo_X3 a_m a_c a_w a_m_deeds a_m_ends f_m_found] sz) [zo_X10 a_o a_tape f_o_taped a_c a_sp a_rd a_now a_tri a_past f_o_undoable a_trays a_ics a_ips a_w a_m a_g a_rw a_sl a_sh, zo_X0 a_c f_c_top f_c_things a_c_bars a_c_gives a_c_rough f_c_startRung f_c_startThings f_c_startStrength f_c_startWind f_c_slips f_c_lines a_c_code f_c_coded f_c_tiresFrom f_c_tiresTo f_c_mayFrom f_c_mayTo, (a_c_bars, .inl (dA 0, 9, .inl b_c_bars)), (a_c_gives, .inl (dA 0, 9, .inl b_c_gives)), (a_c_rough, .inl (dA 0, 9, .inl b_c_rough)), (a_c_code, .inl (dA 0, 900, .inl b_c_code)), zo_X4 a_now f_now_stand f_now_wind f_now_deeds, zo_X2 a_w a_c a_w_told a_w_facts a_w_stack f_w_wind, (a_w_told, .inl (dA 0, 315, .inl o1)), (a_w_facts, .inl (dA 0, 6, .inl o2)), (a_w_stack, .inl (dA 0, 64, .inl o3)), zo_X3 a_m a_c a_w a_m_deeds a_m_ends f_m_found] t) (va_A [zo_X10 a_o a_tape f_o_taped a_c a_sp a_rd a_now a_tri a_past f_o_undoable a_trays a_ics a_ips a_w a_m a_g a_rw a_sl a_sh, zo_X0 a_c f_c_top f_c_things a_c_bars a_c_gives a_c_rough f_c_startRung f_c_startThings f_c_startStrength f_c_startWind f_c_slips f_c_lines a_c_code f_c_coded f_c_tiresFrom f_c_tiresTo f_c_mayFrom f_c_mayTo, (a_c_bars, .inl (dA 0, 9, .inl b_c_bars)), (a_c_gives, .inl (dA 0, 9, .inl b_c_gives)), (a_c_rough, .inl (dA 0, 9, .inl b_c_rough)), (a_c_code, .inl (dA 0, 900, .inl b_c_code)), zo_X4 a_now f_now_stand f_now_wind f_now_deeds, zo_X2 a_w a_c a_w_told a_w_facts a_w_stack f_w_wind, (a_w_told, .inl (dA 0, 315, .inl b_w_told)), (a_w_facts, .inl (dA 0, 6, .inl b_w_facts)), (a_w_stack, .inl (dA 0, 64, .inl b_w_stack)), zo_X3 a_m a_c a_w a_m_deeds a_m_ends f_m_found] sz)) 0 0 (va_A [zo_X10 a_o a_tape f_o_taped a_c a_sp a_rd a_now a_tri a_past f_o_undoable a_trays a_ics a_ips a_w a_m a_g a_rw a_sl a_sh, zo_X0 a_c f_c_top f_c_things a_c_bars a_c_gives a_c_rough f_c_startRung f_c_startThings f_c_startStrength f_c_startWind f_c_slips f_c_lines a_c_code f_c_coded f_c_tiresFrom f_c_tiresTo f_c_mayFrom f_c_mayTo, (a_c_bars, .inl (dA 0, 9, .inl b_c_bars)), (a_c_gives, .inl (dA 0, 9, .inl b_c_gives)), (a_c_rough, .inl (dA 0, 9, .inl b_c_rough)), (a_c_code, .inl (dA 0, 900, .inl b_c_code)), zo_X4 a_now f_now_stand f_now_wind f_now_deeds, zo_X2 a_w a_c a_w_told a_w_facts a_w_stack f_w_wind, (a_w_told, .inl (dA 0, 315, .inl b_w_told)), (a_w_facts, .inl (dA 0, 6, .inl b_w_facts)), (a_w_stack, .inl (dA 0, 64, .inl b_w_stack)), zo_X3 a_m a_c a_w a_m_deeds a_m_ends f_m_found] sz) := by
  unfold zf_X10_by at hf
  refine Met.ofW (cc := cX10_by) (maxL := 4) (ret := (some .int)) (by decide) rfl ?_
  intro p e s m args below meth c s₁ B hml hv
  obtain ⟨rfl, ⟨hsz, hP, hK, hD0⟩, hZ⟩ := hv
  have hx := B.exec
  have hb := B.bytes
  have hr := B.returns
  have ht : ∀ w ∈ zq_T, w.before ([.ref a_o, .int p1, .int p2] : List Value).toArray s = true := fun w hw => atoms_spec (ws := .code yX10_by cX10_by 4 (some .int) :: zq_T) B.pre w (List.mem_cons_of_mem _ hw)
  have hown : s.vm.findClass RX10 = some m.cls := findClass_of_methodNamed B.named
  have hlocks := B.notSynchronized
  subst hsz
  have hD := hD0.self (sz := s.heap.size)
  generalize hAe : va_A [zo_X10 a_o a_tape f_o_taped a_c a_sp a_rd a_now a_tri a_past f_o_undoable a_trays a_ics a_ips a_w a_m a_g a_rw a_sl a_sh, zo_X0 a_c f_c_top f_c_things a_c_bars a_c_gives a_c_rough f_c_startRung f_c_startThings f_c_startStrength f_c_startWind f_c_slips f_c_lines a_c_code f_c_coded f_c_tiresFrom f_c_tiresTo f_c_mayFrom f_c_mayTo, (a_c_bars, .inl (dA 0, 9, .inl b_c_bars)), (a_c_gives, .inl (dA 0, 9, .inl b_c_gives)), (a_c_rough, .inl (dA 0, 9, .inl b_c_rough)), (a_c_code, .inl (dA 0, 900, .inl b_c_code)), zo_X4 a_now f_now_stand f_now_wind f_now_deeds, zo_X2 a_w a_c a_w_told a_w_facts a_w_stack f_w_wind, (a_w_told, .inl (dA 0, 315, .inl b_w_told)), (a_w_facts, .inl (dA 0, 6, .inl b_w_facts)), (a_w_stack, .inl (dA 0, 64, .inl b_w_stack)), zo_X3 a_m a_c a_w a_m_deeds a_m_ends f_m_found] s.heap.size = A at hD hZ ⊢
  have hA : ∀ q : Nat, s.heap.size ≤ q → A q := fun q h => by rw [← hAe]; exact Or.inr h
  clear hAe hD0
  have hS : va_S A s.heap s.heap [] := va_S.rf
  have hl := lv_entry ([.ref a_o, .int p1, .int p2]) (n := 4) (Nat.le_of_ble_eq_true rfl)
  rw [lg_entry_eq]
  generalize (lg_sl ([.ref a_o, .int p1, .int p2]) ++ List.replicate (4 - (lg_sl ([.ref a_o, .int p1, .int p2])).length) Slot.unset).toArray = ls at hl ⊢
  have hl : lv_has ls 4 [(0, .ref a_o), (1, .int p1), (2, .int p2)] := hl
  refine lv_iload_n (pc := 0) hx hb dX10_by_0 rfl (lv_at hl 2 rfl) ?_
  refine lv_if_lt (tgt := 9) (pc := 1) hx hb dX10_by_1 rfl (fun hc => ?_) (fun hc => ?_)
  · have hf := za_t hf hc
    refine lv_bipush (v := (-2 : Int32)) (pc := 9) hx hb dX10_by_9 (by decide) ?_
    obtain ⟨rfl, rfl, rfl, rfl⟩ := zi_4 hf
    exact W.iret (pc := 11) hx hb hr (fun t ht hW => ⟨⟨_, (), rfl, rfl, zz_Bi (by rw [ht]; exact hP) (va_K.moved hW.alike hK) (hD)⟩, hS.F ht⟩) hS.2.2 dX10_by_11
  · have hf := za_f hf hc
    refine lv_iload_n (pc := 4) hx hb dX10_by_4 rfl (lv_at hl 2 rfl) ?_
    refine lv_iconst (v := (2 : Int32)) (pc := 5) hx hb dX10_by_5 (by decide) ?_
    refine lv_icmp_le (tgt := 12) (pc := 6) hx hb dX10_by_6 rfl (fun hc => ?_) (fun hc => ?_)
    · have hf := za_t hf hc
      refine lv_aload_n (pc := 12) hx hb dX10_by_12 rfl (lv_at hl 0 rfl) ?_
      refine va_get (pc := 13) (D := (dC, dI)) (ci := 11) (v := .ref a_m) (C := RX10) (T := TX10) (N := 18) hx hb ht zq_layX10 hown hK hP 0 rfl rfl 13 (by decide) (ht _ zq_618) (fun _ h9 => h9) rfl dX10_by_13 ?_
      refine lv_aload_n (pc := 16) hx hb dX10_by_16 rfl (lv_at hl 0 rfl) ?_
      refine va_get (pc := 17) (D := (dC, dI)) (ci := 11) (v := .ref a_now) (C := RX10) (T := TX10) (N := 18) hx hb ht zq_layX10 hown hK hP 0 rfl rfl 5 (by decide) (ht _ zq_605) (fun _ h9 => h9) rfl dX10_by_17 ?_
      refine va_get (pc := 20) (D := (dC, dI)) (ci := 5) (v := .int f_now_stand) (C := RX4) (T := TX4) (N := 3) hx hb ht zq_layX4 hown hK hP 6 rfl rfl 0 (by decide) (ht _ zq_692) (fun _ h9 => h9) rfl dX10_by_20 ?_
      refine lv_iload_n (pc := 23) hx hb dX10_by_23 rfl (lv_at hl 1 rfl) ?_
      obtain ⟨v1, a2, a3, a4, hv1, hf⟩ := zc_4 hf
      refine zx_Vi (pc := 24) (wc := [zo_X3 a_m a_c a_w a_m_deeds a_m_ends f_m_found, zo_X0 a_c f_c_top f_c_things a_c_bars a_c_gives a_c_rough f_c_startRung f_c_startThings f_c_startStrength f_c_startWind f_c_slips f_c_lines a_c_code f_c_coded f_c_tiresFrom f_c_tiresTo f_c_mayFrom f_c_mayTo, (a_c_bars, .inl (dA 0, 9, .inl b_c_bars)), (a_c_gives, .inl (dA 0, 9, .inl b_c_gives)), (a_c_rough, .inl (dA 0, 9, .inl b_c_rough)), (a_c_code, .inl (dA 0, 900, .inl b_c_code)), zo_X2 a_w a_c a_w_told a_w_facts a_w_stack f_w_wind, (a_w_told, .inl (dA 0, 315, .inl b_w_told)), (a_w_facts, .inl (dA 0, 6, .inl b_w_facts)), (a_w_stack, .inl (dA 0, 64, .inl b_w_stack))]) (wr := [zo_X10 a_o a_tape f_o_taped a_c a_sp a_rd a_now a_tri a_past f_o_undoable a_trays a_ics a_ips a_w a_m a_g a_rw a_sl a_sh, zo_X4 a_now f_now_stand f_now_wind f_now_deeds]) (w1 := [zo_X3 a_m a_c a_w a_m_deeds a_m_ends f_m_found, zo_X0 a_c f_c_top f_c_things a_c_bars a_c_gives a_c_rough f_c_startRung f_c_startThings f_c_startStrength f_c_startWind f_c_slips f_c_lines a_c_code f_c_coded f_c_tiresFrom f_c_tiresTo f_c_mayFrom f_c_mayTo, (a_c_bars, .inl (dA 0, 9, .inl b_c_bars)), (a_c_gives, .inl (dA 0, 9, .inl b_c_gives)), (a_c_rough, .inl (dA 0, 9, .inl b_c_rough)), (a_c_code, .inl (dA 0, 900, .inl b_c_code)), zo_X2 a_w a_c a_w_told a_w_facts a_w_stack f_w_wind, (a_w_told, .inl (dA 0, 315, .inl a2)), (a_w_facts, .inl (dA 0, 6, .inl a3)), (a_w_stack, .inl (dA 0, 64, .inl a4))]) (As := [.int f_now_stand, .int p1]) (rest := []) ⟨hx, hb, hml, hown, ht⟩ (zt_X3_after l dC dI dA adK adV _ a_m a_c a_w a_m_deeds a_m_ends a_c_bars a_c_gives a_c_rough a_c_code a_w_told a_w_facts a_w_stack n f_m_found f_c_top f_c_things f_c_startRung f_c_startThings f_c_startStrength f_c_startWind f_c_slips f_c_lines f_c_coded f_c_tiresFrom f_c_tiresTo f_c_mayFrom f_c_mayTo f_w_wind b_c_bars b_c_gives b_c_rough b_c_code b_w_told b_w_facts b_w_stack f_now_stand p1 v1 a2 a3 a4 hv1) (cwV 2 ht (zq_V zq_695 zq_696 zq_697 zq_50 zq_186) rfl rfl rfl zk_X3_after ⟨Nat.le_of_ble_eq_true rfl, Nat.le_of_ble_eq_true rfl⟩) rfl rfl hZ hK hP hD hS hA [11, 1, 2, 3, 4, 5, 7, 8, 9, 10] [0, 6] (by decide) (by decide) (by decide) rfl rfl rfl hl.1 (Nat.le_of_ble_eq_true rfl) dX10_by_24 ⟨Nat.zero_le _, Nat.zero_le _⟩ rfl (fun H locs hP hD hS => ?_)
      have hP : va_P (dC, dI) zz_cls [zo_X10 a_o a_tape f_o_taped a_c a_sp a_rd a_now a_tri a_past f_o_undoable a_trays a_ics a_ips a_w a_m a_g a_rw a_sl a_sh, zo_X4 a_now f_now_stand f_now_wind f_now_deeds, zo_X3 a_m a_c a_w a_m_deeds a_m_ends f_m_found, zo_X0 a_c f_c_top f_c_things a_c_bars a_c_gives a_c_rough f_c_startRung f_c_startThings f_c_startStrength f_c_startWind f_c_slips f_c_lines a_c_code f_c_coded f_c_tiresFrom f_c_tiresTo f_c_mayFrom f_c_mayTo, (a_c_bars, .inl (dA 0, 9, .inl b_c_bars)), (a_c_gives, .inl (dA 0, 9, .inl b_c_gives)), (a_c_rough, .inl (dA 0, 9, .inl b_c_rough)), (a_c_code, .inl (dA 0, 900, .inl b_c_code)), zo_X2 a_w a_c a_w_told a_w_facts a_w_stack f_w_wind, (a_w_told, .inl (dA 0, 315, .inl a2)), (a_w_facts, .inl (dA 0, 6, .inl a3)), (a_w_stack, .inl (dA 0, 64, .inl a4))] H := hP
      have hD : va_D A [zo_X10 a_o a_tape f_o_taped a_c a_sp a_rd a_now a_tri a_past f_o_undoable a_trays a_ics a_ips a_w a_m a_g a_rw a_sl a_sh, zo_X4 a_now f_now_stand f_now_wind f_now_deeds, zo_X3 a_m a_c a_w a_m_deeds a_m_ends f_m_found, zo_X0 a_c f_c_top f_c_things a_c_bars a_c_gives a_c_rough f_c_startRung f_c_startThings f_c_startStrength f_c_startWind f_c_slips f_c_lines a_c_code f_c_coded f_c_tiresFrom f_c_tiresTo f_c_mayFrom f_c_mayTo, (a_c_bars, .inl (dA 0, 9, .inl b_c_bars)), (a_c_gives, .inl (dA 0, 9, .inl b_c_gives)), (a_c_rough, .inl (dA 0, 9, .inl b_c_rough)), (a_c_code, .inl (dA 0, 900, .inl b_c_code)), zo_X2 a_w a_c a_w_told a_w_facts a_w_stack f_w_wind, (a_w_told, .inl (dA 0, 315, .inl a2)), (a_w_facts, .inl (dA 0, 6, .inl a3)), (a_w_stack, .inl (dA 0, 64, .inl a4))] := hD
      refine lv_istore_n (lv' := [(3, .int v1), (0, .ref a_o), (1, .int p1), (2, .int p2)]) (pc := 27) hx hb dX10_by_27 rfl hl (by decide) rfl (fun ls hl => ?_)
      refine lv_iload_n (pc := 28) hx hb dX10_by_28 rfl (lv_at hl 0 rfl) ?_
      refine lv_iconst (v := (-1 : Int32)) (pc := 29) hx hb dX10_by_29 (by decide) ?_
      refine lv_icmp_ne (tgt := 36) (pc := 30) hx hb dX10_by_30 rfl (fun hc => ?_) (fun hc => ?_)
      · have hf := za_f hf hc
        refine lv_iload_n (pc := 36) hx hb dX10_by_36 rfl (lv_at hl 3 rfl) ?_
        refine lv_if_ne (tgt := 45) (pc := 37) hx hb dX10_by_37 rfl (fun hc => ?_) (fun hc => ?_)
        · have hf := za_f hf hc
          refine lv_iload_n (pc := 45) hx hb dX10_by_45 rfl (lv_at hl 3 rfl) ?_
          refine lv_iconst (v := (1 : Int32)) (pc := 46) hx hb dX10_by_46 (by decide) ?_
          refine lv_icmp_ne (tgt := 57) (pc := 47) hx hb dX10_by_47 rfl (fun hc => ?_) (fun hc => ?_)
          · have hf := za_f hf hc
            refine lv_iload_n (pc := 57) hx hb dX10_by_57 rfl (lv_at hl 0 rfl) ?_
            obtain ⟨v7, hv7, hf⟩ := zc_1 hf
            refine zx_Si (pc := 58) (wc := []) (wr := [zo_X10 a_o a_tape f_o_taped a_c a_sp a_rd a_now a_tri a_past f_o_undoable a_trays a_ics a_ips a_w a_m a_g a_rw a_sl a_sh, zo_X4 a_now f_now_stand f_now_wind f_now_deeds, zo_X3 a_m a_c a_w a_m_deeds a_m_ends f_m_found, zo_X0 a_c f_c_top f_c_things a_c_bars a_c_gives a_c_rough f_c_startRung f_c_startThings f_c_startStrength f_c_startWind f_c_slips f_c_lines a_c_code f_c_coded f_c_tiresFrom f_c_tiresTo f_c_mayFrom f_c_mayTo, (a_c_bars, .inl (dA 0, 9, .inl b_c_bars)), (a_c_gives, .inl (dA 0, 9, .inl b_c_gives)), (a_c_rough, .inl (dA 0, 9, .inl b_c_rough)), (a_c_code, .inl (dA 0, 900, .inl b_c_code)), zo_X2 a_w a_c a_w_told a_w_facts a_w_stack f_w_wind, (a_w_told, .inl (dA 0, 315, .inl a2)), (a_w_facts, .inl (dA 0, 6, .inl a3)), (a_w_stack, .inl (dA 0, 64, .inl a4))]) (w1 := []) (As := [.int v1]) (rest := []) ⟨hx, hb, hml, hown, ht⟩ (zt_X10_strengthOf l dC dI dA adK adV _ v1 v7 hv7) (cwS 1 ht (zq_S zq_700 zq_62 zq_58 zq_63) rfl rfl rfl zk_X10_strengthOf ⟨Nat.le_of_ble_eq_true rfl, Nat.le_of_ble_eq_true rfl⟩) hZ hK hP hD hS hA [] [0, 1, 2, 3, 4, 5, 6, 7, 8, 9, 10, 11] (by decide) (by decide) (by decide) rfl rfl rfl hl.1 (Nat.le_of_ble_eq_true rfl) dX10_by_58 ⟨Nat.zero_le _, Nat.zero_le _⟩ rfl (fun H locs hP hD hS => ?_)
            have hP : va_P (dC, dI) zz_cls [zo_X10 a_o a_tape f_o_taped a_c a_sp a_rd a_now a_tri a_past f_o_undoable a_trays a_ics a_ips a_w a_m a_g a_rw a_sl a_sh, zo_X4 a_now f_now_stand f_now_wind f_now_deeds, zo_X3 a_m a_c a_w a_m_deeds a_m_ends f_m_found, zo_X0 a_c f_c_top f_c_things a_c_bars a_c_gives a_c_rough f_c_startRung f_c_startThings f_c_startStrength f_c_startWind f_c_slips f_c_lines a_c_code f_c_coded f_c_tiresFrom f_c_tiresTo f_c_mayFrom f_c_mayTo, (a_c_bars, .inl (dA 0, 9, .inl b_c_bars)), (a_c_gives, .inl (dA 0, 9, .inl b_c_gives)), (a_c_rough, .inl (dA 0, 9, .inl b_c_rough)), (a_c_code, .inl (dA 0, 900, .inl b_c_code)), zo_X2 a_w a_c a_w_told a_w_facts a_w_stack f_w_wind, (a_w_told, .inl (dA 0, 315, .inl a2)), (a_w_facts, .inl (dA 0, 6, .inl a3)), (a_w_stack, .inl (dA 0, 64, .inl a4))] H := hP
            have hD : va_D A [zo_X10 a_o a_tape f_o_taped a_c a_sp a_rd a_now a_tri a_past f_o_undoable a_trays a_ics a_ips a_w a_m a_g a_rw a_sl a_sh, zo_X4 a_now f_now_stand f_now_wind f_now_deeds, zo_X3 a_m a_c a_w a_m_deeds a_m_ends f_m_found, zo_X0 a_c f_c_top f_c_things a_c_bars a_c_gives a_c_rough f_c_startRung f_c_startThings f_c_startStrength f_c_startWind f_c_slips f_c_lines a_c_code f_c_coded f_c_tiresFrom f_c_tiresTo f_c_mayFrom f_c_mayTo, (a_c_bars, .inl (dA 0, 9, .inl b_c_bars)), (a_c_gives, .inl (dA 0, 9, .inl b_c_gives)), (a_c_rough, .inl (dA 0, 9, .inl b_c_rough)), (a_c_code, .inl (dA 0, 900, .inl b_c_code)), zo_X2 a_w a_c a_w_told a_w_facts a_w_stack f_w_wind, (a_w_told, .inl (dA 0, 315, .inl a2)), (a_w_facts, .inl (dA 0, 6, .inl a3)), (a_w_stack, .inl (dA 0, 64, .inl a4))] := hD
            obtain ⟨rfl, rfl, rfl, rfl⟩ := zi_4 hf
            exact W.iret (pc := 61) hx hb hr (fun t ht hW => ⟨⟨_, (), rfl, rfl, zz_Bi (by rw [ht]; exact hP.sub [0, 3, 4, 5, 6, 7, 1, 8, 9, 10, 11, 2] rfl) (va_K.moved hW.alike hK) (hD.sub [0, 3, 4, 5, 6, 7, 1, 8, 9, 10, 11, 2] (by decide) rfl)⟩, hS.F ht⟩) hS.2.2 dX10_by_61
          · have hf := za_t hf hc
            refine lv_iload_n (pc := 50) hx hb dX10_by_50 rfl (lv_at hl 0 rfl) ?_
            obtain ⟨v6, hv6, hf⟩ := zc_1 hf
            refine zx_Si (pc := 51) (wc := []) (wr := [zo_X10 a_o a_tape f_o_taped a_c a_sp a_rd a_now a_tri a_past f_o_undoable a_trays a_ics a_ips a_w a_m a_g a_rw a_sl a_sh, zo_X4 a_now f_now_stand f_now_wind f_now_deeds, zo_X3 a_m a_c a_w a_m_deeds a_m_ends f_m_found, zo_X0 a_c f_c_top f_c_things a_c_bars a_c_gives a_c_rough f_c_startRung f_c_startThings f_c_startStrength f_c_startWind f_c_slips f_c_lines a_c_code f_c_coded f_c_tiresFrom f_c_tiresTo f_c_mayFrom f_c_mayTo, (a_c_bars, .inl (dA 0, 9, .inl b_c_bars)), (a_c_gives, .inl (dA 0, 9, .inl b_c_gives)), (a_c_rough, .inl (dA 0, 9, .inl b_c_rough)), (a_c_code, .inl (dA 0, 900, .inl b_c_code)), zo_X2 a_w a_c a_w_told a_w_facts a_w_stack f_w_wind, (a_w_told, .inl (dA 0, 315, .inl a2)), (a_w_facts, .inl (dA 0, 6, .inl a3)), (a_w_stack, .inl (dA 0, 64, .inl a4))]) (w1 := []) (As := [.int v1]) (rest := []) ⟨hx, hb, hml, hown, ht⟩ (zt_X10_thingsOf l dC dI dA adK adV _ v1 v6 hv6) (cwS 1 ht (zq_S zq_699 zq_60 zq_58 zq_61) rfl rfl rfl zk_X10_thingsOf ⟨Nat.le_of_ble_eq_true rfl, Nat.le_of_ble_eq_true rfl⟩) hZ hK hP hD hS hA [] [0, 1, 2, 3, 4, 5, 6, 7, 8, 9, 10, 11] (by decide) (by decide) (by decide) rfl rfl rfl hl.1 (Nat.le_of_ble_eq_true rfl) dX10_by_51 ⟨Nat.zero_le _, Nat.zero_le _⟩ rfl (fun H locs hP hD hS => ?_)
            have hP : va_P (dC, dI) zz_cls [zo_X10 a_o a_tape f_o_taped a_c a_sp a_rd a_now a_tri a_past f_o_undoable a_trays a_ics a_ips a_w a_m a_g a_rw a_sl a_sh, zo_X4 a_now f_now_stand f_now_wind f_now_deeds, zo_X3 a_m a_c a_w a_m_deeds a_m_ends f_m_found, zo_X0 a_c f_c_top f_c_things a_c_bars a_c_gives a_c_rough f_c_startRung f_c_startThings f_c_startStrength f_c_startWind f_c_slips f_c_lines a_c_code f_c_coded f_c_tiresFrom f_c_tiresTo f_c_mayFrom f_c_mayTo, (a_c_bars, .inl (dA 0, 9, .inl b_c_bars)), (a_c_gives, .inl (dA 0, 9, .inl b_c_gives)), (a_c_rough, .inl (dA 0, 9, .inl b_c_rough)), (a_c_code, .inl (dA 0, 900, .inl b_c_code)), zo_X2 a_w a_c a_w_told a_w_facts a_w_stack f_w_wind, (a_w_told, .inl (dA 0, 315, .inl a2)), (a_w_facts, .inl (dA 0, 6, .inl a3)), (a_w_stack, .inl (dA 0, 64, .inl a4))] H := hP
            have hD : va_D A [zo_X10 a_o a_tape f_o_taped a_c a_sp a_rd a_now a_tri a_past f_o_undoable a_trays a_ics a_ips a_w a_m a_g a_rw a_sl a_sh, zo_X4 a_now f_now_stand f_now_wind f_now_deeds, zo_X3 a_m a_c a_w a_m_deeds a_m_ends f_m_found, zo_X0 a_c f_c_top f_c_things a_c_bars a_c_gives a_c_rough f_c_startRung f_c_startThings f_c_startStrength f_c_startWind f_c_slips f_c_lines a_c_code f_c_coded f_c_tiresFrom f_c_tiresTo f_c_mayFrom f_c_mayTo, (a_c_bars, .inl (dA 0, 9, .inl b_c_bars)), (a_c_gives, .inl (dA 0, 9, .inl b_c_gives)), (a_c_rough, .inl (dA 0, 9, .inl b_c_rough)), (a_c_code, .inl (dA 0, 900, .inl b_c_code)), zo_X2 a_w a_c a_w_told a_w_facts a_w_stack f_w_wind, (a_w_told, .inl (dA 0, 315, .inl a2)), (a_w_facts, .inl (dA 0, 6, .inl a3)), (a_w_stack, .inl (dA 0, 64, .inl a4))] := hD
            refine lv_goto (tgt := 61) (pc := 54) hx hb dX10_by_54 rfl ?_
            obtain ⟨rfl, rfl, rfl, rfl⟩ := zi_4 hf
            exact W.iret (pc := 61) hx hb hr (fun t ht hW => ⟨⟨_, (), rfl, rfl, zz_Bi (by rw [ht]; exact hP.sub [0, 3, 4, 5, 6, 7, 1, 8, 9, 10, 11, 2] rfl) (va_K.moved hW.alike hK) (hD.sub [0, 3, 4, 5, 6, 7, 1, 8, 9, 10, 11, 2] (by decide) rfl)⟩, hS.F ht⟩) hS.2.2 dX10_by_61
        · have hf := za_t hf hc
          refine lv_iload_n (pc := 40) hx hb dX10_by_40 rfl (lv_at hl 0 rfl) ?_
          obtain ⟨v5, hv5, hf⟩ := zc_1 hf
          refine zx_Si (pc := 41) (wc := []) (wr := [zo_X10 a_o a_tape f_o_taped a_c a_sp a_rd a_now a_tri a_past f_o_undoable a_trays a_ics a_ips a_w a_m a_g a_rw a_sl a_sh, zo_X4 a_now f_now_stand f_now_wind f_now_deeds, zo_X3 a_m a_c a_w a_m_deeds a_m_ends f_m_found, zo_X0 a_c f_c_top f_c_things a_c_bars a_c_gives a_c_rough f_c_startRung f_c_startThings f_c_startStrength f_c_startWind f_c_slips f_c_lines a_c_code f_c_coded f_c_tiresFrom f_c_tiresTo f_c_mayFrom f_c_mayTo, (a_c_bars, .inl (dA 0, 9, .inl b_c_bars)), (a_c_gives, .inl (dA 0, 9, .inl b_c_gives)), (a_c_rough, .inl (dA 0, 9, .inl b_c_rough)), (a_c_code, .inl (dA 0, 900, .inl b_c_code)), zo_X2 a_w a_c a_w_told a_w_facts a_w_stack f_w_wind, (a_w_told, .inl (dA 0, 315, .inl a2)), (a_w_facts, .inl (dA 0, 6, .inl a3)), (a_w_stack, .inl (dA 0, 64, .inl a4))]) (w1 := []) (As := [.int v1]) (rest := []) ⟨hx, hb, hml, hown, ht⟩ (zt_X10_rungOf l dC dI dA adK adV _ v1 v5 hv5) (cwS 1 ht (zq_S zq_698 zq_57 zq_58 zq_59) rfl rfl rfl zk_X10_rungOf ⟨Nat.le_of_ble_eq_true rfl, Nat.le_of_ble_eq_true rfl⟩) hZ hK hP hD hS hA [] [0, 1, 2, 3, 4, 5, 6, 7, 8, 9, 10, 11] (by decide) (by decide) (by decide) rfl rfl rfl hl.1 (Nat.le_of_ble_eq_true rfl) dX10_by_41 ⟨Nat.zero_le _, Nat.zero_le _⟩ rfl (fun H locs hP hD hS => ?_)
          have hP : va_P (dC, dI) zz_cls [zo_X10 a_o a_tape f_o_taped a_c a_sp a_rd a_now a_tri a_past f_o_undoable a_trays a_ics a_ips a_w a_m a_g a_rw a_sl a_sh, zo_X4 a_now f_now_stand f_now_wind f_now_deeds, zo_X3 a_m a_c a_w a_m_deeds a_m_ends f_m_found, zo_X0 a_c f_c_top f_c_things a_c_bars a_c_gives a_c_rough f_c_startRung f_c_startThings f_c_startStrength f_c_startWind f_c_slips f_c_lines a_c_code f_c_coded f_c_tiresFrom f_c_tiresTo f_c_mayFrom f_c_mayTo, (a_c_bars, .inl (dA 0, 9, .inl b_c_bars)), (a_c_gives, .inl (dA 0, 9, .inl b_c_gives)), (a_c_rough, .inl (dA 0, 9, .inl b_c_rough)), (a_c_code, .inl (dA 0, 900, .inl b_c_code)), zo_X2 a_w a_c a_w_told a_w_facts a_w_stack f_w_wind, (a_w_told, .inl (dA 0, 315, .inl a2)), (a_w_facts, .inl (dA 0, 6, .inl a3)), (a_w_stack, .inl (dA 0, 64, .inl a4))] H := hP
          have hD : va_D A [zo_X10 a_o a_tape f_o_taped a_c a_sp a_rd a_now a_tri a_past f_o_undoable a_trays a_ics a_ips a_w a_m a_g a_rw a_sl a_sh, zo_X4 a_now f_now_stand f_now_wind f_now_deeds, zo_X3 a_m a_c a_w a_m_deeds a_m_ends f_m_found, zo_X0 a_c f_c_top f_c_things a_c_bars a_c_gives a_c_rough f_c_startRung f_c_startThings f_c_startStrength f_c_startWind f_c_slips f_c_lines a_c_code f_c_coded f_c_tiresFrom f_c_tiresTo f_c_mayFrom f_c_mayTo, (a_c_bars, .inl (dA 0, 9, .inl b_c_bars)), (a_c_gives, .inl (dA 0, 9, .inl b_c_gives)), (a_c_rough, .inl (dA 0, 9, .inl b_c_rough)), (a_c_code, .inl (dA 0, 900, .inl b_c_code)), zo_X2 a_w a_c a_w_told a_w_facts a_w_stack f_w_wind, (a_w_told, .inl (dA 0, 315, .inl a2)), (a_w_facts, .inl (dA 0, 6, .inl a3)), (a_w_stack, .inl (dA 0, 64, .inl a4))] := hD
          obtain ⟨rfl, rfl, rfl, rfl⟩ := zi_4 hf
          exact W.iret (pc := 44) hx hb hr (fun t ht hW => ⟨⟨_, (), rfl, rfl, zz_Bi (by rw [ht]; exact hP.sub [0, 3, 4, 5, 6, 7, 1, 8, 9, 10, 11, 2] rfl) (va_K.moved hW.alike hK) (hD.sub [0, 3, 4, 5, 6, 7, 1, 8, 9, 10, 11, 2] (by decide) rfl)⟩, hS.F ht⟩) hS.2.2 dX10_by_44
      · have hf := za_t hf hc
        refine lv_bipush (v := (-5 : Int32)) (pc := 33) hx hb dX10_by_33 (by decide) ?_
        obtain ⟨rfl, rfl, rfl, rfl⟩ := zi_4 hf
        exact W.iret (pc := 35) hx hb hr (fun t ht hW => ⟨⟨_, (), rfl, rfl, zz_Bi (by rw [ht]; exact hP.sub [0, 3, 4, 5, 6, 7, 1, 8, 9, 10, 11, 2] rfl) (va_K.moved hW.alike hK) (hD.sub [0, 3, 4, 5, 6, 7, 1, 8, 9, 10, 11, 2] (by decide) rfl)⟩, hS.F ht⟩) hS.2.2 dX10_by_35
    · have hf := za_f hf hc
      refine lv_bipush (v := (-2 : Int32)) (pc := 9) hx hb dX10_by_9 (by decide) ?_
      obtain ⟨rfl, rfl, rfl, rfl⟩ := zi_4 hf
      exact W.iret (pc := 11) hx hb hr (fun t ht hW => ⟨⟨_, (), rfl, rfl, zz_Bi (by rw [ht]; exact hP) (va_K.moved hW.alike hK) (hD)⟩, hS.F ht⟩) hS.2.2 dX10_by_11

def zf_X10_step (n : Nat) (f_c_top : Int32) (f_c_things : Int32) (f_c_tiresFrom : Int32) (f_c_tiresTo : Int32) (f_c_mayFrom : Int32) (f_c_mayTo : Int32) (b_c_bars : (Nat → Int32)) (b_c_gives : (Nat → Int32)) (b_c_rough : (Nat → Int32)) (b_c_code : (Nat → Int32)) (f_tri_stand : Int32) (f_tri_wind : Int32) (f_tri_deeds : Int32) (f_w_wind : Int32) (b_w_told : (Nat → Int32)) (b_w_facts : (Nat → Int32)) (b_w_stack : (Nat → Int32)) (p2 : Int32) : Option (Int32 × Int32 × Int32 × Int32 × Int32 × (Nat → Int32) × (Nat → Int32) × (Nat → Int32)) :=
  if p2 < (30 : Int32) then
    zd_4 (zf_X3_refusal n f_c_top f_c_things f_c_tiresFrom f_c_tiresTo f_c_mayFrom f_c_mayTo b_c_bars b_c_gives b_c_rough b_c_code f_w_wind b_w_told b_w_facts b_w_stack f_tri_stand p2) (fun v1 a2 a3 a4 =>
    zd_5 (
      if v1 = 0 then
        zd_4 (zf_X3_behind n f_c_top f_c_things f_c_tiresFrom f_c_tiresTo f_c_mayFrom f_c_mayTo b_c_bars b_c_rough b_c_code f_w_wind a2 a3 a4 f_tri_stand p2) (fun v5 a6 a7 a8 =>
        zd_1 (some ((f_tri_deeds + (1 : Int32)))) (fun v9 =>
        some (v5, v9, a6, a7, a8)))
      else
        some (f_tri_stand, f_tri_deeds, a2, a3, a4)) (fun v10 v11 a12 a13 a14 =>
    some (v1, v10, f_tri_wind, v11, f_w_wind, a12, a13, a14)))
  else
    if (40 : Int32) ≤ p2 then
      zd_4 (zf_X3_refusal n f_c_top f_c_things f_c_tiresFrom f_c_tiresTo f_c_mayFrom f_c_mayTo b_c_bars b_c_gives b_c_rough b_c_code f_w_wind b_w_told b_w_facts b_w_stack f_tri_stand p2) (fun v15 a16 a17 a18 =>
      zd_5 (
        if v15 = 0 then
          zd_4 (zf_X3_behind n f_c_top f_c_things f_c_tiresFrom f_c_tiresTo f_c_mayFrom f_c_mayTo b_c_bars b_c_rough b_c_code f_w_wind a16 a17 a18 f_tri_stand p2) (fun v19 a20 a21 a22 =>
          zd_1 (some ((f_tri_deeds + (1 : Int32)))) (fun v23 =>
          some (v19, v23, a20, a21, a22)))
        else
          some (f_tri_stand, f_tri_deeds, a16, a17, a18)) (fun v24 v25 a26 a27 a28 =>
      some (v15, v24, f_tri_wind, v25, f_w_wind, a26, a27, a28)))
    else
      zd_1 (some ((p2 - (30 : Int32)))) (fun v29 =>
      zd_2 (zf_X2_useWind n f_w_wind b_w_told v29) (fun v30 a31 =>
      some ((0 : Int32), f_tri_stand, v29, f_tri_deeds, v30, a31, b_w_facts, b_w_stack)))
theorem zk_X10_step : yX10_step.cls = RX10 ∧ yX10_step.cls ≠ "java/lang/invoke/MethodHandle" ∧ yX10_step.cls ≠ "java/lang/invoke/VarHandle" ∧ (parseMethodDescriptor yX10_step.desc).map (fun d => d.parameters.length) = some 2 := by decide +kernel
set_option maxHeartbeats 4000000 in
set_option maxRecDepth 100000 in
theorem zt_X10_step (l : Launch) (dC : Nat → ClassId) (dI : Nat → Nat → Nat) (dA : Nat → ClassId) (adK adV : Nat → Nat) (sz : Nat) (a_o : Nat) (a_tape : Nat) (a_c : Nat) (a_sp : Nat) (a_rd : Nat) (a_now : Nat) (a_tri : Nat) (a_past : Nat) (a_trays : Nat) (a_ics : Nat) (a_ips : Nat) (a_w : Nat) (a_m : Nat) (a_g : Nat) (a_rw : Nat) (a_sl : Nat) (a_sh : Nat) (a_c_bars : Nat) (a_c_gives : Nat) (a_c_rough : Nat) (a_c_code : Nat) (a_w_told : Nat) (a_w_facts : Nat) (a_w_stack : Nat) (a_m_deeds : Nat) (a_m_ends : Nat) (n : Nat) (f_o_taped : Int32) (f_o_undoable : Int32) (f_c_top : Int32) (f_c_things : Int32) (f_c_startRung : Int32) (f_c_startThings : Int32) (f_c_startStrength : Int32) (f_c_startWind : Int32) (f_c_slips : Int32) (f_c_lines : Int32) (f_c_coded : Int32) (f_c_tiresFrom : Int32) (f_c_tiresTo : Int32) (f_c_mayFrom : Int32) (f_c_mayTo : Int32) (f_tri_stand : Int32) (f_tri_wind : Int32) (f_tri_deeds : Int32) (f_w_wind : Int32) (f_m_found : Int32) (b_c_bars : (Nat → Int32)) (b_c_gives : (Nat → Int32)) (b_c_rough : (Nat → Int32)) (b_c_code : (Nat → Int32)) (b_w_told : (Nat → Int32)) (b_w_facts : (Nat → Int32)) (b_w_stack : (Nat → Int32)) (p2 : Int32) (r0 : Int32) (o1 : Int32) (o2 : Int32) (o3 : Int32) (o4 : Int32) (o5 : (Nat → Int32)) (o6 : (Nat → Int32)) (o7 : (Nat → Int32)) (hf : zf_X10_step n f_c_top f_c_things f_c_tiresFrom f_c_tiresTo f_c_mayFrom f_c_mayTo b_c_bars b_c_gives b_c_rough b_c_code f_tri_stand f_tri_wind f_tri_deeds f_w_wind b_w_told b_w_facts b_w_stack p2 = some (r0, o1, o2, o3, o4, o5, o6, o7)) : Met l yX10_step (.code yX10_step cX10_step 4 (some .int) :: zq_T) ({ frames := 5, cells := 0, slots := 0, locals := 154 }) (va_Pc [.ref a_o, .ref a_tri, .int p2] (zx_M dC dI dA adK adV [zo_X10 a_o a_tape f_o_taped a_c a_sp a_rd a_now a_tri a_past f_o_undoable a_trays a_ics a_ips a_w a_m a_g a_rw a_sl a_sh, zo_X0 a_c f_c_top f_c_things a_c_bars a_c_gives a_c_rough f_c_startRung f_c_startThings f_c_startStrength f_c_startWind f_c_slips f_c_lines a_c_code f_c_coded f_c_tiresFrom f_c_tiresTo f_c_mayFrom f_c_mayTo, (a_c_bars, .inl (dA 0, 9, .inl b_c_bars)), (a_c_gives, .inl (dA 0, 9, .inl b_c_gives)), (a_c_rough, .inl (dA 0, 9, .inl b_c_rough)), (a_c_code, .inl (dA 0, 900, .inl b_c_code)), zo_X4 a_tri f_tri_stand f_tri_wind f_tri_deeds, zo_X2 a_w a_c a_w_told a_w_facts a_w_stack f_w_wind, (a_w_told, .inl (dA 0, 315, .inl b_w_told)), (a_w_facts, .inl (dA 0, 6, .inl b_w_facts)), (a_w_stack, .inl (dA 0, 64, .inl b_w_stack)), zo_X3 a_m a_c a_w a_m_deeds a_m_ends f_m_found] sz)) (va_Qi (fun (r : Int32) (_ : Unit) => r = r0) (fun _ t => zz_B dC dI dA (va_A [zo_X10 a_o a_tape f_o_taped a_c a_sp a_rd a_now a_tri a_past f_o_undoable a_trays a_ics a_ips a_w a_m a_g a_rw a_sl a_sh, zo_X0 a_c f_c_top f_c_things a_c_bars a_c_gives a_c_rough f_c_startRung f_c_startThings f_c_startStrength f_c_startWind f_c_slips f_c_lines a_c_code f_c_coded f_c_tiresFrom f_c_tiresTo f_c_mayFrom f_c_mayTo, (a_c_bars, .inl (dA 0, 9, .inl b_c_bars)), (a_c_gives, .inl (dA 0, 9, .inl b_c_gives)), (a_c_rough, .inl (dA 0, 9, .inl b_c_rough)), (a_c_code, .inl (dA 0, 900, .inl b_c_code)), zo_X4 a_tri f_tri_stand f_tri_wind f_tri_deeds, zo_X2 a_w a_c a_w_told a_w_facts a_w_stack f_w_wind, (a_w_told, .inl (dA 0, 315, .inl b_w_told)), (a_w_facts, .inl (dA 0, 6, .inl b_w_facts)), (a_w_stack, .inl (dA 0, 64, .inl b_w_stack)), zo_X3 a_m a_c a_w a_m_deeds a_m_ends f_m_found] sz) [zo_X10 a_o a_tape f_o_taped a_c a_sp a_rd a_now a_tri a_past f_o_undoable a_trays a_ics a_ips a_w a_m a_g a_rw a_sl a_sh, zo_X0 a_c f_c_top f_c_things a_c_bars a_c_gives a_c_rough f_c_startRung f_c_startThings f_c_startStrength f_c_startWind f_c_slips f_c_lines a_c_code f_c_coded f_c_tiresFrom f_c_tiresTo f_c_mayFrom f_c_mayTo, (a_c_bars, .inl (dA 0, 9, .inl b_c_bars)), (a_c_gives, .inl (dA 0, 9, .inl b_c_gives)), (a_c_rough, .inl (dA 0, 9, .inl b_c_rough)), (a_c_code, .inl (dA 0, 900, .inl b_c_code)), zo_X4 a_tri o1 o2 o3, zo_X2 a_w a_c a_w_told a_w_facts a_w_stack o4, (a_w_told, .inl (dA 0, 315, .inl o5)), (a_w_facts, .inl (dA 0, 6, .inl o6)), (a_w_stack, .inl (dA 0, 64, .inl o7)), zo_X3 a_m a_c a_w a_m_deeds a_m_ends f_m_found] t) (va_A [zo_X10 a_o a_tape f_o_taped a_c a_sp a_rd a_now a_tri a_past f_o_undoable a_trays a_ics a_ips a_w a_m a_g a_rw a_sl a_sh, zo_X0 a_c f_c_top f_c_things a_c_bars a_c_gives a_c_rough f_c_startRung f_c_startThings f_c_startStrength f_c_startWind f_c_slips f_c_lines a_c_code f_c_coded f_c_tiresFrom f_c_tiresTo f_c_mayFrom f_c_mayTo, (a_c_bars, .inl (dA 0, 9, .inl b_c_bars)), (a_c_gives, .inl (dA 0, 9, .inl b_c_gives)), (a_c_rough, .inl (dA 0, 9, .inl b_c_rough)), (a_c_code, .inl (dA 0, 900, .inl b_c_code)), zo_X4 a_tri f_tri_stand f_tri_wind f_tri_deeds, zo_X2 a_w a_c a_w_told a_w_facts a_w_stack f_w_wind, (a_w_told, .inl (dA 0, 315, .inl b_w_told)), (a_w_facts, .inl (dA 0, 6, .inl b_w_facts)), (a_w_stack, .inl (dA 0, 64, .inl b_w_stack)), zo_X3 a_m a_c a_w a_m_deeds a_m_ends f_m_found] sz)) 0 0 (va_A [zo_X10 a_o a_tape f_o_taped a_c a_sp a_rd a_now a_tri a_past f_o_undoable a_trays a_ics a_ips a_w a_m a_g a_rw a_sl a_sh, zo_X0 a_c f_c_top f_c_things a_c_bars a_c_gives a_c_rough f_c_startRung f_c_startThings f_c_startStrength f_c_startWind f_c_slips f_c_lines a_c_code f_c_coded f_c_tiresFrom f_c_tiresTo f_c_mayFrom f_c_mayTo, (a_c_bars, .inl (dA 0, 9, .inl b_c_bars)), (a_c_gives, .inl (dA 0, 9, .inl b_c_gives)), (a_c_rough, .inl (dA 0, 9, .inl b_c_rough)), (a_c_code, .inl (dA 0, 900, .inl b_c_code)), zo_X4 a_tri f_tri_stand f_tri_wind f_tri_deeds, zo_X2 a_w a_c a_w_told a_w_facts a_w_stack f_w_wind, (a_w_told, .inl (dA 0, 315, .inl b_w_told)), (a_w_facts, .inl (dA 0, 6, .inl b_w_facts)), (a_w_stack, .inl (dA 0, 64, .inl b_w_stack)), zo_X3 a_m a_c a_w a_m_deeds a_m_ends f_m_found] sz) := by
  unfold zf_X10_step at hf
  refine Met.ofW (cc := cX10_step) (maxL := 4) (ret := (some .int)) (by decide) rfl ?_
  intro p e s m args below meth c s₁ B hml hv
  obtain ⟨rfl, ⟨hsz, hP, hK, hD0⟩, hZ⟩ := hv
  have hx := B.exec
  have hb := B.bytes
  have hr := B.returns
  have ht : ∀ w ∈ zq_T, w.before ([.ref a_o, .ref a_tri, .int p2] : List Value).toArray s = true := fun w hw => atoms_spec (ws := .code yX10_step cX10_step 4 (some .int) :: zq_T) B.pre w (List.mem_cons_of_mem _ hw)
  have hown : s.vm.findClass RX10 = some m.cls := findClass_of_methodNamed B.named
  have hlocks := B.notSynchronized
  subst hsz
  have hD := hD0.self (sz := s.heap.size)
  generalize hAe : va_A [zo_X10 a_o a_tape f_o_taped a_c a_sp a_rd a_now a_tri a_past f_o_undoable a_trays a_ics a_ips a_w a_m a_g a_rw a_sl a_sh, zo_X0 a_c f_c_top f_c_things a_c_bars a_c_gives a_c_rough f_c_startRung f_c_startThings f_c_startStrength f_c_startWind f_c_slips f_c_lines a_c_code f_c_coded f_c_tiresFrom f_c_tiresTo f_c_mayFrom f_c_mayTo, (a_c_bars, .inl (dA 0, 9, .inl b_c_bars)), (a_c_gives, .inl (dA 0, 9, .inl b_c_gives)), (a_c_rough, .inl (dA 0, 9, .inl b_c_rough)), (a_c_code, .inl (dA 0, 900, .inl b_c_code)), zo_X4 a_tri f_tri_stand f_tri_wind f_tri_deeds, zo_X2 a_w a_c a_w_told a_w_facts a_w_stack f_w_wind, (a_w_told, .inl (dA 0, 315, .inl b_w_told)), (a_w_facts, .inl (dA 0, 6, .inl b_w_facts)), (a_w_stack, .inl (dA 0, 64, .inl b_w_stack)), zo_X3 a_m a_c a_w a_m_deeds a_m_ends f_m_found] s.heap.size = A at hD hZ ⊢
  have hA : ∀ q : Nat, s.heap.size ≤ q → A q := fun q h => by rw [← hAe]; exact Or.inr h
  clear hAe hD0
  have hS : va_S A s.heap s.heap [] := va_S.rf
  have hl := lv_entry ([.ref a_o, .ref a_tri, .int p2]) (n := 4) (Nat.le_of_ble_eq_true rfl)
  rw [lg_entry_eq]
  generalize (lg_sl ([.ref a_o, .ref a_tri, .int p2]) ++ List.replicate (4 - (lg_sl ([.ref a_o, .ref a_tri, .int p2])).length) Slot.unset).toArray = ls at hl ⊢
  have hl : lv_has ls 4 [(0, .ref a_o), (1, .ref a_tri), (2, .int p2)] := hl
  refine lv_iload_n (pc := 0) hx hb dX10_step_0 rfl (lv_at hl 2 rfl) ?_
  refine lv_bipush (v := (30 : Int32)) (pc := 1) hx hb dX10_step_1 (by decide) ?_
  refine lv_icmp_lt (tgt := 33) (pc := 3) hx hb dX10_step_3 rfl (fun hc => ?_) (fun hc => ?_)
  · have hf := za_t hf hc
    refine lv_aload_n (pc := 33) hx hb dX10_step_33 rfl (lv_at hl 0 rfl) ?_
    refine va_get (pc := 34) (D := (dC, dI)) (ci := 11) (v := .ref a_m) (C := RX10) (T := TX10) (N := 18) hx hb ht zq_layX10 hown hK hP 0 rfl rfl 13 (by decide) (ht _ zq_618) (fun _ h9 => h9) rfl dX10_step_34 ?_
    refine lv_aload_n (pc := 37) hx hb dX10_step_37 rfl (lv_at hl 1 rfl) ?_
    refine va_get (pc := 38) (D := (dC, dI)) (ci := 5) (v := .int f_tri_stand) (C := RX4) (T := TX4) (N := 3) hx hb ht zq_layX4 hown hK hP 6 rfl rfl 0 (by decide) (ht _ zq_692) (fun _ h9 => h9) rfl dX10_step_38 ?_
    refine lv_iload_n (pc := 41) hx hb dX10_step_41 rfl (lv_at hl 2 rfl) ?_
    obtain ⟨v1, a2, a3, a4, hv1, hf⟩ := zc_4 hf
    refine zx_Vi (pc := 42) (wc := [zo_X3 a_m a_c a_w a_m_deeds a_m_ends f_m_found, zo_X0 a_c f_c_top f_c_things a_c_bars a_c_gives a_c_rough f_c_startRung f_c_startThings f_c_startStrength f_c_startWind f_c_slips f_c_lines a_c_code f_c_coded f_c_tiresFrom f_c_tiresTo f_c_mayFrom f_c_mayTo, (a_c_bars, .inl (dA 0, 9, .inl b_c_bars)), (a_c_gives, .inl (dA 0, 9, .inl b_c_gives)), (a_c_rough, .inl (dA 0, 9, .inl b_c_rough)), (a_c_code, .inl (dA 0, 900, .inl b_c_code)), zo_X2 a_w a_c a_w_told a_w_facts a_w_stack f_w_wind, (a_w_told, .inl (dA 0, 315, .inl b_w_told)), (a_w_facts, .inl (dA 0, 6, .inl b_w_facts)), (a_w_stack, .inl (dA 0, 64, .inl b_w_stack))]) (wr := [zo_X10 a_o a_tape f_o_taped a_c a_sp a_rd a_now a_tri a_past f_o_undoable a_trays a_ics a_ips a_w a_m a_g a_rw a_sl a_sh, zo_X4 a_tri f_tri_stand f_tri_wind f_tri_deeds]) (w1 := [zo_X3 a_m a_c a_w a_m_deeds a_m_ends f_m_found, zo_X0 a_c f_c_top f_c_things a_c_bars a_c_gives a_c_rough f_c_startRung f_c_startThings f_c_startStrength f_c_startWind f_c_slips f_c_lines a_c_code f_c_coded f_c_tiresFrom f_c_tiresTo f_c_mayFrom f_c_mayTo, (a_c_bars, .inl (dA 0, 9, .inl b_c_bars)), (a_c_gives, .inl (dA 0, 9, .inl b_c_gives)), (a_c_rough, .inl (dA 0, 9, .inl b_c_rough)), (a_c_code, .inl (dA 0, 900, .inl b_c_code)), zo_X2 a_w a_c a_w_told a_w_facts a_w_stack f_w_wind, (a_w_told, .inl (dA 0, 315, .inl a2)), (a_w_facts, .inl (dA 0, 6, .inl a3)), (a_w_stack, .inl (dA 0, 64, .inl a4))]) (As := [.int f_tri_stand, .int p2]) (rest := []) ⟨hx, hb, hml, hown, ht⟩ (zt_X3_refusal l dC dI dA adK adV _ a_m a_c a_w a_m_deeds a_m_ends a_c_bars a_c_gives a_c_rough a_c_code a_w_told a_w_facts a_w_stack n f_m_found f_c_top f_c_things f_c_startRung f_c_startThings f_c_startStrength f_c_startWind f_c_slips f_c_lines f_c_coded f_c_tiresFrom f_c_tiresTo f_c_mayFrom f_c_mayTo f_w_wind b_c_bars b_c_gives b_c_rough b_c_code b_w_told b_w_facts b_w_stack f_tri_stand p2 v1 a2 a3 a4 hv1) (cwV 2 ht (zq_V zq_693 zq_181 zq_182 zq_50 zq_177) rfl rfl rfl zk_X3_refusal ⟨Nat.le_of_ble_eq_true rfl, Nat.le_of_ble_eq_true rfl⟩) rfl rfl hZ hK hP hD hS hA [11, 1, 2, 3, 4, 5, 7, 8, 9, 10] [0, 6] (by decide) (by decide) (by decide) rfl rfl rfl hl.1 (Nat.le_of_ble_eq_true rfl) dX10_step_42 ⟨Nat.zero_le _, Nat.zero_le _⟩ rfl (fun H locs hP hD hS => ?_)
    have hP : va_P (dC, dI) zz_cls [zo_X10 a_o a_tape f_o_taped a_c a_sp a_rd a_now a_tri a_past f_o_undoable a_trays a_ics a_ips a_w a_m a_g a_rw a_sl a_sh, zo_X4 a_tri f_tri_stand f_tri_wind f_tri_deeds, zo_X3 a_m a_c a_w a_m_deeds a_m_ends f_m_found, zo_X0 a_c f_c_top f_c_things a_c_bars a_c_gives a_c_rough f_c_startRung f_c_startThings f_c_startStrength f_c_startWind f_c_slips f_c_lines a_c_code f_c_coded f_c_tiresFrom f_c_tiresTo f_c_mayFrom f_c_mayTo, (a_c_bars, .inl (dA 0, 9, .inl b_c_bars)), (a_c_gives, .inl (dA 0, 9, .inl b_c_gives)), (a_c_rough, .inl (dA 0, 9, .inl b_c_rough)), (a_c_code, .inl (dA 0, 900, .inl b_c_code)), zo_X2 a_w a_c a_w_told a_w_facts a_w_stack f_w_wind, (a_w_told, .inl (dA 0, 315, .inl a2)), (a_w_facts, .inl (dA 0, 6, .inl a3)), (a_w_stack, .inl (dA 0, 64, .inl a4))] H := hP
    have hD : va_D A [zo_X10 a_o a_tape f_o_taped a_c a_sp a_rd a_now a_tri a_past f_o_undoable a_trays a_ics a_ips a_w a_m a_g a_rw a_sl a_sh, zo_X4 a_tri f_tri_stand f_tri_wind f_tri_deeds, zo_X3 a_m a_c a_w a_m_deeds a_m_ends f_m_found, zo_X0 a_c f_c_top f_c_things a_c_bars a_c_gives a_c_rough f_c_startRung f_c_startThings f_c_startStrength f_c_startWind f_c_slips f_c_lines a_c_code f_c_coded f_c_tiresFrom f_c_tiresTo f_c_mayFrom f_c_mayTo, (a_c_bars, .inl (dA 0, 9, .inl b_c_bars)), (a_c_gives, .inl (dA 0, 9, .inl b_c_gives)), (a_c_rough, .inl (dA 0, 9, .inl b_c_rough)), (a_c_code, .inl (dA 0, 900, .inl b_c_code)), zo_X2 a_w a_c a_w_told a_w_facts a_w_stack f_w_wind, (a_w_told, .inl (dA 0, 315, .inl a2)), (a_w_facts, .inl (dA 0, 6, .inl a3)), (a_w_stack, .inl (dA 0, 64, .inl a4))] := hD
    refine lv_istore_n (lv' := [(3, .int v1), (0, .ref a_o), (1, .ref a_tri), (2, .int p2)]) (pc := 45) hx hb dX10_step_45 rfl hl (by decide) rfl (fun ls hl => ?_)
    refine lv_iload_n (pc := 46) hx hb dX10_step_46 rfl (lv_at hl 0 rfl) ?_
    obtain ⟨v10, v11, a12, a13, a14, hj, hf⟩ := zc_5 hf
    refine zj_join (pcJ := 76) (stk := []) (X := fun H locs ls => lv_has ls 4 [(3, .int v1)] ∧ va_P (dC, dI) zz_cls [zo_X10 a_o a_tape f_o_taped a_c a_sp a_rd a_now a_tri a_past f_o_undoable a_trays a_ics a_ips a_w a_m a_g a_rw a_sl a_sh, zo_X0 a_c f_c_top f_c_things a_c_bars a_c_gives a_c_rough f_c_startRung f_c_startThings f_c_startStrength f_c_startWind f_c_slips f_c_lines a_c_code f_c_coded f_c_tiresFrom f_c_tiresTo f_c_mayFrom f_c_mayTo, (a_c_bars, .inl (dA 0, 9, .inl b_c_bars)), (a_c_gives, .inl (dA 0, 9, .inl b_c_gives)), (a_c_rough, .inl (dA 0, 9, .inl b_c_rough)), (a_c_code, .inl (dA 0, 900, .inl b_c_code)), zo_X4 a_tri v10 f_tri_wind v11, zo_X2 a_w a_c a_w_told a_w_facts a_w_stack f_w_wind, (a_w_told, .inl (dA 0, 315, .inl a12)), (a_w_facts, .inl (dA 0, 6, .inl a13)), (a_w_stack, .inl (dA 0, 64, .inl a14)), zo_X3 a_m a_c a_w a_m_deeds a_m_ends f_m_found] H ∧ va_D A [zo_X10 a_o a_tape f_o_taped a_c a_sp a_rd a_now a_tri a_past f_o_undoable a_trays a_ics a_ips a_w a_m a_g a_rw a_sl a_sh, zo_X0 a_c f_c_top f_c_things a_c_bars a_c_gives a_c_rough f_c_startRung f_c_startThings f_c_startStrength f_c_startWind f_c_slips f_c_lines a_c_code f_c_coded f_c_tiresFrom f_c_tiresTo f_c_mayFrom f_c_mayTo, (a_c_bars, .inl (dA 0, 9, .inl b_c_bars)), (a_c_gives, .inl (dA 0, 9, .inl b_c_gives)), (a_c_rough, .inl (dA 0, 9, .inl b_c_rough)), (a_c_code, .inl (dA 0, 900, .inl b_c_code)), zo_X4 a_tri v10 f_tri_wind v11, zo_X2 a_w a_c a_w_told a_w_facts a_w_stack f_w_wind, (a_w_told, .inl (dA 0, 315, .inl a12)), (a_w_facts, .inl (dA 0, 6, .inl a13)), (a_w_stack, .inl (dA 0, 64, .inl a14)), zo_X3 a_m a_c a_w a_m_deeds a_m_ends f_m_found] ∧ va_S A s.heap H locs) (fun H locs ls hX => ?_) (fun J76 => ?_)
    · obtain ⟨hl, hP, hD, hS⟩ := hX
      clear hj
      refine lv_iload_n (pc := 76) hx hb dX10_step_76 rfl (lv_at hl 0 rfl) ?_
      obtain ⟨rfl, rfl, rfl, rfl, rfl, rfl, rfl, rfl⟩ := zi_8 hf
      exact W.iret (pc := 77) hx hb hr (fun t ht hW => ⟨⟨_, (), rfl, rfl, zz_Bi (by rw [ht]; exact hP) (va_K.moved hW.alike hK) (hD)⟩, hS.F ht⟩) hS.2.2 dX10_step_77
    · clear hf
      have hf := hj
      clear hj
      refine lv_if_ne (tgt := 76) (pc := 47) hx hb dX10_step_47 rfl (fun hc => ?_) (fun hc => ?_)
      · have hf := za_f hf hc
        obtain ⟨rfl, rfl, rfl, rfl, rfl⟩ := zi_5 hf
        exact J76 _ _ _ ⟨lv_sub hl [0] rfl, hP.sub [0, 3, 4, 5, 6, 7, 1, 8, 9, 10, 11, 2] rfl, hD.sub [0, 3, 4, 5, 6, 7, 1, 8, 9, 10, 11, 2] (by decide) rfl, hS⟩
      · have hf := za_t hf hc
        refine lv_aload_n (pc := 50) hx hb dX10_step_50 rfl (lv_at hl 2 rfl) ?_
        refine lv_aload_n (pc := 51) hx hb dX10_step_51 rfl (lv_at hl 1 rfl) ?_
        refine va_get (pc := 52) (D := (dC, dI)) (ci := 11) (v := .ref a_m) (C := RX10) (T := TX10) (N := 18) hx hb ht zq_layX10 hown hK hP 0 rfl rfl 13 (by decide) (ht _ zq_618) (fun _ h9 => h9) rfl dX10_step_52 ?_
        refine lv_aload_n (pc := 55) hx hb dX10_step_55 rfl (lv_at hl 2 rfl) ?_
        refine va_get (pc := 56) (D := (dC, dI)) (ci := 5) (v := .int f_tri_stand) (C := RX4) (T := TX4) (N := 3) hx hb ht zq_layX4 hown hK hP 1 rfl rfl 0 (by decide) (ht _ zq_692) (fun _ h9 => h9) rfl dX10_step_56 ?_
        refine lv_iload_n (pc := 59) hx hb dX10_step_59 rfl (lv_at hl 3 rfl) ?_
        obtain ⟨v5, a6, a7, a8, hv5, hf⟩ := zc_4 hf
        refine zx_Vi (pc := 60) (wc := [zo_X3 a_m a_c a_w a_m_deeds a_m_ends f_m_found, zo_X0 a_c f_c_top f_c_things a_c_bars a_c_gives a_c_rough f_c_startRung f_c_startThings f_c_startStrength f_c_startWind f_c_slips f_c_lines a_c_code f_c_coded f_c_tiresFrom f_c_tiresTo f_c_mayFrom f_c_mayTo, (a_c_bars, .inl (dA 0, 9, .inl b_c_bars)), (a_c_rough, .inl (dA 0, 9, .inl b_c_rough)), (a_c_code, .inl (dA 0, 900, .inl b_c_code)), zo_X2 a_w a_c a_w_told a_w_facts a_w_stack f_w_wind, (a_w_told, .inl (dA 0, 315, .inl a2)), (a_w_facts, .inl (dA 0, 6, .inl a3)), (a_w_stack, .inl (dA 0, 64, .inl a4))]) (wr := [zo_X10 a_o a_tape f_o_taped a_c a_sp a_rd a_now a_tri a_past f_o_undoable a_trays a_ics a_ips a_w a_m a_g a_rw a_sl a_sh, zo_X4 a_tri f_tri_stand f_tri_wind f_tri_deeds, (a_c_gives, .inl (dA 0, 9, .inl b_c_gives))]) (w1 := [zo_X3 a_m a_c a_w a_m_deeds a_m_ends f_m_found, zo_X0 a_c f_c_top f_c_things a_c_bars a_c_gives a_c_rough f_c_startRung f_c_startThings f_c_startStrength f_c_startWind f_c_slips f_c_lines a_c_code f_c_coded f_c_tiresFrom f_c_tiresTo f_c_mayFrom f_c_mayTo, (a_c_bars, .inl (dA 0, 9, .inl b_c_bars)), (a_c_rough, .inl (dA 0, 9, .inl b_c_rough)), (a_c_code, .inl (dA 0, 900, .inl b_c_code)), zo_X2 a_w a_c a_w_told a_w_facts a_w_stack f_w_wind, (a_w_told, .inl (dA 0, 315, .inl a6)), (a_w_facts, .inl (dA 0, 6, .inl a7)), (a_w_stack, .inl (dA 0, 64, .inl a8))]) (As := [.int f_tri_stand, .int p2]) (rest := [.ref a_tri]) ⟨hx, hb, hml, hown, ht⟩ (zt_X3_behind l dC dI dA adK adV _ a_m a_c a_w a_m_deeds a_m_ends a_c_bars a_c_gives a_c_rough a_c_code a_w_told a_w_facts a_w_stack n f_m_found f_c_top f_c_things f_c_startRung f_c_startThings f_c_startStrength f_c_startWind f_c_slips f_c_lines f_c_coded f_c_tiresFrom f_c_tiresTo f_c_mayFrom f_c_mayTo f_w_wind b_c_bars b_c_rough b_c_code a2 a3 a4 f_tri_stand p2 v5 a6 a7 a8 hv5) (cwV 2 ht (zq_V zq_703 zq_184 zq_185 zq_50 zq_179) rfl rfl rfl zk_X3_behind ⟨Nat.le_of_ble_eq_true rfl, Nat.le_of_ble_eq_true rfl⟩) rfl rfl hZ hK hP hD hS hA [2, 3, 4, 6, 7, 8, 9, 10, 11] [0, 1, 5] (by decide) (by decide) (by decide) rfl rfl rfl hl.1 (Nat.le_of_ble_eq_true rfl) dX10_step_60 ⟨Nat.zero_le _, Nat.zero_le _⟩ rfl (fun H locs hP hD hS => ?_)
        have hP : va_P (dC, dI) zz_cls [zo_X10 a_o a_tape f_o_taped a_c a_sp a_rd a_now a_tri a_past f_o_undoable a_trays a_ics a_ips a_w a_m a_g a_rw a_sl a_sh, zo_X4 a_tri f_tri_stand f_tri_wind f_tri_deeds, (a_c_gives, .inl (dA 0, 9, .inl b_c_gives)), zo_X3 a_m a_c a_w a_m_deeds a_m_ends f_m_found, zo_X0 a_c f_c_top f_c_things a_c_bars a_c_gives a_c_rough f_c_startRung f_c_startThings f_c_startStrength f_c_startWind f_c_slips f_c_lines a_c_code f_c_coded f_c_tiresFrom f_c_tiresTo f_c_mayFrom f_c_mayTo, (a_c_bars, .inl (dA 0, 9, .inl b_c_bars)), (a_c_rough, .inl (dA 0, 9, .inl b_c_rough)), (a_c_code, .inl (dA 0, 900, .inl b_c_code)), zo_X2 a_w a_c a_w_told a_w_facts a_w_stack f_w_wind, (a_w_told, .inl (dA 0, 315, .inl a6)), (a_w_facts, .inl (dA 0, 6, .inl a7)), (a_w_stack, .inl (dA 0, 64, .inl a8))] H := hP
        have hD : va_D A [zo_X10 a_o a_tape f_o_taped a_c a_sp a_rd a_now a_tri a_past f_o_undoable a_trays a_ics a_ips a_w a_m a_g a_rw a_sl a_sh, zo_X4 a_tri f_tri_stand f_tri_wind f_tri_deeds, (a_c_gives, .inl (dA 0, 9, .inl b_c_gives)), zo_X3 a_m a_c a_w a_m_deeds a_m_ends f_m_found, zo_X0 a_c f_c_top f_c_things a_c_bars a_c_gives a_c_rough f_c_startRung f_c_startThings f_c_startStrength f_c_startWind f_c_slips f_c_lines a_c_code f_c_coded f_c_tiresFrom f_c_tiresTo f_c_mayFrom f_c_mayTo, (a_c_bars, .inl (dA 0, 9, .inl b_c_bars)), (a_c_rough, .inl (dA 0, 9, .inl b_c_rough)), (a_c_code, .inl (dA 0, 900, .inl b_c_code)), zo_X2 a_w a_c a_w_told a_w_facts a_w_stack f_w_wind, (a_w_told, .inl (dA 0, 315, .inl a6)), (a_w_facts, .inl (dA 0, 6, .inl a7)), (a_w_stack, .inl (dA 0, 64, .inl a8))] := hD
        refine va_put (pc := 63) (D := (dC, dI)) (ci := 5) (v := .int v5) (ty := .int) (C := RX4) (T := TX4) (N := 3) hx hb ht zq_layX4 tyX4 tyX4_ok nmX4 hown hK hP hD hS 1 rfl rfl 0 (by decide) (ht _ zq_692) (fun _ h9 => h9) rfl (by decide +kernel) rfl rfl (Nat.le_of_ble_eq_true rfl) dX10_step_63 (fun H locs hP hD hS => ?_)
        have hP : va_P (dC, dI) zz_cls [zo_X10 a_o a_tape f_o_taped a_c a_sp a_rd a_now a_tri a_past f_o_undoable a_trays a_ics a_ips a_w a_m a_g a_rw a_sl a_sh, zo_X4 a_tri v5 f_tri_wind f_tri_deeds, (a_c_gives, .inl (dA 0, 9, .inl b_c_gives)), zo_X3 a_m a_c a_w a_m_deeds a_m_ends f_m_found, zo_X0 a_c f_c_top f_c_things a_c_bars a_c_gives a_c_rough f_c_startRung f_c_startThings f_c_startStrength f_c_startWind f_c_slips f_c_lines a_c_code f_c_coded f_c_tiresFrom f_c_tiresTo f_c_mayFrom f_c_mayTo, (a_c_bars, .inl (dA 0, 9, .inl b_c_bars)), (a_c_rough, .inl (dA 0, 9, .inl b_c_rough)), (a_c_code, .inl (dA 0, 900, .inl b_c_code)), zo_X2 a_w a_c a_w_told a_w_facts a_w_stack f_w_wind, (a_w_told, .inl (dA 0, 315, .inl a6)), (a_w_facts, .inl (dA 0, 6, .inl a7)), (a_w_stack, .inl (dA 0, 64, .inl a8))] H := hP
        have hD : va_D A [zo_X10 a_o a_tape f_o_taped a_c a_sp a_rd a_now a_tri a_past f_o_undoable a_trays a_ics a_ips a_w a_m a_g a_rw a_sl a_sh, zo_X4 a_tri v5 f_tri_wind f_tri_deeds, (a_c_gives, .inl (dA 0, 9, .inl b_c_gives)), zo_X3 a_m a_c a_w a_m_deeds a_m_ends f_m_found, zo_X0 a_c f_c_top f_c_things a_c_bars a_c_gives a_c_rough f_c_startRung f_c_startThings f_c_startStrength f_c_startWind f_c_slips f_c_lines a_c_code f_c_coded f_c_tiresFrom f_c_tiresTo f_c_mayFrom f_c_mayTo, (a_c_bars, .inl (dA 0, 9, .inl b_c_bars)), (a_c_rough, .inl (dA 0, 9, .inl b_c_rough)), (a_c_code, .inl (dA 0, 900, .inl b_c_code)), zo_X2 a_w a_c a_w_told a_w_facts a_w_stack f_w_wind, (a_w_told, .inl (dA 0, 315, .inl a6)), (a_w_facts, .inl (dA 0, 6, .inl a7)), (a_w_stack, .inl (dA 0, 64, .inl a8))] := hD
        refine lv_aload_n (pc := 66) hx hb dX10_step_66 rfl (lv_at hl 2 rfl) ?_
        refine lv_dup (pc := 67) hx hb dX10_step_67 rfl ?_
        refine va_get (pc := 68) (D := (dC, dI)) (ci := 5) (v := .int f_tri_deeds) (C := RX4) (T := TX4) (N := 3) hx hb ht zq_layX4 hown hK hP 1 rfl rfl 2 (by decide) (ht _ zq_702) (fun _ h9 => h9) rfl dX10_step_68 ?_
        refine lv_iconst (v := (1 : Int32)) (pc := 71) hx hb dX10_step_71 (by decide) ?_
        refine lv_iadd (pc := 72) hx hb dX10_step_72 ?_
        obtain ⟨v9, hv9, hf⟩ := zc_1 hf
        refine zw_top (hv9) ?_
        refine va_put (pc := 73) (D := (dC, dI)) (ci := 5) (v := .int v9) (ty := .int) (C := RX4) (T := TX4) (N := 3) hx hb ht zq_layX4 tyX4 tyX4_ok nmX4 hown hK hP hD hS 1 rfl rfl 2 (by decide) (ht _ zq_702) (fun _ h9 => h9) rfl (by decide +kernel) rfl rfl (Nat.le_of_ble_eq_true rfl) dX10_step_73 (fun H locs hP hD hS => ?_)
        have hP : va_P (dC, dI) zz_cls [zo_X10 a_o a_tape f_o_taped a_c a_sp a_rd a_now a_tri a_past f_o_undoable a_trays a_ics a_ips a_w a_m a_g a_rw a_sl a_sh, zo_X4 a_tri v5 f_tri_wind v9, (a_c_gives, .inl (dA 0, 9, .inl b_c_gives)), zo_X3 a_m a_c a_w a_m_deeds a_m_ends f_m_found, zo_X0 a_c f_c_top f_c_things a_c_bars a_c_gives a_c_rough f_c_startRung f_c_startThings f_c_startStrength f_c_startWind f_c_slips f_c_lines a_c_code f_c_coded f_c_tiresFrom f_c_tiresTo f_c_mayFrom f_c_mayTo, (a_c_bars, .inl (dA 0, 9, .inl b_c_bars)), (a_c_rough, .inl (dA 0, 9, .inl b_c_rough)), (a_c_code, .inl (dA 0, 900, .inl b_c_code)), zo_X2 a_w a_c a_w_told a_w_facts a_w_stack f_w_wind, (a_w_told, .inl (dA 0, 315, .inl a6)), (a_w_facts, .inl (dA 0, 6, .inl a7)), (a_w_stack, .inl (dA 0, 64, .inl a8))] H := hP
        have hD : va_D A [zo_X10 a_o a_tape f_o_taped a_c a_sp a_rd a_now a_tri a_past f_o_undoable a_trays a_ics a_ips a_w a_m a_g a_rw a_sl a_sh, zo_X4 a_tri v5 f_tri_wind v9, (a_c_gives, .inl (dA 0, 9, .inl b_c_gives)), zo_X3 a_m a_c a_w a_m_deeds a_m_ends f_m_found, zo_X0 a_c f_c_top f_c_things a_c_bars a_c_gives a_c_rough f_c_startRung f_c_startThings f_c_startStrength f_c_startWind f_c_slips f_c_lines a_c_code f_c_coded f_c_tiresFrom f_c_tiresTo f_c_mayFrom f_c_mayTo, (a_c_bars, .inl (dA 0, 9, .inl b_c_bars)), (a_c_rough, .inl (dA 0, 9, .inl b_c_rough)), (a_c_code, .inl (dA 0, 900, .inl b_c_code)), zo_X2 a_w a_c a_w_told a_w_facts a_w_stack f_w_wind, (a_w_told, .inl (dA 0, 315, .inl a6)), (a_w_facts, .inl (dA 0, 6, .inl a7)), (a_w_stack, .inl (dA 0, 64, .inl a8))] := hD
        obtain ⟨rfl, rfl, rfl, rfl, rfl⟩ := zi_5 hf
        exact J76 _ _ _ ⟨lv_sub hl [0] rfl, hP.sub [0, 4, 5, 2, 6, 7, 1, 8, 9, 10, 11, 3] rfl, hD.sub [0, 4, 5, 2, 6, 7, 1, 8, 9, 10, 11, 3] (by decide) rfl, hS⟩
  · have hf := za_f hf hc
    refine lv_iload_n (pc := 6) hx hb dX10_step_6 rfl (lv_at hl 2 rfl) ?_
    refine lv_bipush (v := (40 : Int32)) (pc := 7) hx hb dX10_step_7 (by decide) ?_
    refine lv_icmp_ge (tgt := 33) (pc := 9) hx hb dX10_step_9 rfl (fun hc => ?_) (fun hc => ?_)
    · have hf := za_t hf hc
      refine lv_aload_n (pc := 33) hx hb dX10_step_33 rfl (lv_at hl 0 rfl) ?_
      refine va_get (pc := 34) (D := (dC, dI)) (ci := 11) (v := .ref a_m) (C := RX10) (T := TX10) (N := 18) hx hb ht zq_layX10 hown hK hP 0 rfl rfl 13 (by decide) (ht _ zq_618) (fun _ h9 => h9) rfl dX10_step_34 ?_
      refine lv_aload_n (pc := 37) hx hb dX10_step_37 rfl (lv_at hl 1 rfl) ?_
      refine va_get (pc := 38) (D := (dC, dI)) (ci := 5) (v := .int f_tri_stand) (C := RX4) (T := TX4) (N := 3) hx hb ht zq_layX4 hown hK hP 6 rfl rfl 0 (by decide) (ht _ zq_692) (fun _ h9 => h9) rfl dX10_step_38 ?_
      refine lv_iload_n (pc := 41) hx hb dX10_step_41 rfl (lv_at hl 2 rfl) ?_
      obtain ⟨v15, a16, a17, a18, hv15, hf⟩ := zc_4 hf
      refine zx_Vi (pc := 42) (wc := [zo_X3 a_m a_c a_w a_m_deeds a_m_ends f_m_found, zo_X0 a_c f_c_top f_c_things a_c_bars a_c_gives a_c_rough f_c_startRung f_c_startThings f_c_startStrength f_c_startWind f_c_slips f_c_lines a_c_code f_c_coded f_c_tiresFrom f_c_tiresTo f_c_mayFrom f_c_mayTo, (a_c_bars, .inl (dA 0, 9, .inl b_c_bars)), (a_c_gives, .inl (dA 0, 9, .inl b_c_gives)), (a_c_rough, .inl (dA 0, 9, .inl b_c_rough)), (a_c_code, .inl (dA 0, 900, .inl b_c_code)), zo_X2 a_w a_c a_w_told a_w_facts a_w_stack f_w_wind, (a_w_told, .inl (dA 0, 315, .inl b_w_told)), (a_w_facts, .inl (dA 0, 6, .inl b_w_facts)), (a_w_stack, .inl (dA 0, 64, .inl b_w_stack))]) (wr := [zo_X10 a_o a_tape f_o_taped a_c a_sp a_rd a_now a_tri a_past f_o_undoable a_trays a_ics a_ips a_w a_m a_g a_rw a_sl a_sh, zo_X4 a_tri f_tri_stand f_tri_wind f_tri_deeds]) (w1 := [zo_X3 a_m a_c a_w a_m_deeds a_m_ends f_m_found, zo_X0 a_c f_c_top f_c_things a_c_bars a_c_gives a_c_rough f_c_startRung f_c_startThings f_c_startStrength f_c_startWind f_c_slips f_c_lines a_c_code f_c_coded f_c_tiresFrom f_c_tiresTo f_c_mayFrom f_c_mayTo, (a_c_bars, .inl (dA 0, 9, .inl b_c_bars)), (a_c_gives, .inl (dA 0, 9, .inl b_c_gives)), (a_c_rough, .inl (dA 0, 9, .inl b_c_rough)), (a_c_code, .inl (dA 0, 900, .inl b_c_code)), zo_X2 a_w a_c a_w_told a_w_facts a_w_stack f_w_wind, (a_w_told, .inl (dA 0, 315, .inl a16)), (a_w_facts, .inl (dA 0, 6, .inl a17)), (a_w_stack, .inl (dA 0, 64, .inl a18))]) (As := [.int f_tri_stand, .int p2]) (rest := []) ⟨hx, hb, hml, hown, ht⟩ (zt_X3_refusal l dC dI dA adK adV _ a_m a_c a_w a_m_deeds a_m_ends a_c_bars a_c_gives a_c_rough a_c_code a_w_told a_w_facts a_w_stack n f_m_found f_c_top f_c_things f_c_startRung f_c_startThings f_c_startStrength f_c_startWind f_c_slips f_c_lines f_c_coded f_c_tiresFrom f_c_tiresTo f_c_mayFrom f_c_mayTo f_w_wind b_c_bars b_c_gives b_c_rough b_c_code b_w_told b_w_facts b_w_stack f_tri_stand p2 v15 a16 a17 a18 hv15) (cwV 2 ht (zq_V zq_693 zq_181 zq_182 zq_50 zq_177) rfl rfl rfl zk_X3_refusal ⟨Nat.le_of_ble_eq_true rfl, Nat.le_of_ble_eq_true rfl⟩) rfl rfl hZ hK hP hD hS hA [11, 1, 2, 3, 4, 5, 7, 8, 9, 10] [0, 6] (by decide) (by decide) (by decide) rfl rfl rfl hl.1 (Nat.le_of_ble_eq_true rfl) dX10_step_42 ⟨Nat.zero_le _, Nat.zero_le _⟩ rfl (fun H locs hP hD hS => ?_)
      have hP : va_P (dC, dI) zz_cls [zo_X10 a_o a_tape f_o_taped a_c a_sp a_rd a_now a_tri a_past f_o_undoable a_trays a_ics a_ips a_w a_m a_g a_rw a_sl a_sh, zo_X4 a_tri f_tri_stand f_tri_wind f_tri_deeds, zo_X3 a_m a_c a_w a_m_deeds a_m_ends f_m_found, zo_X0 a_c f_c_top f_c_things a_c_bars a_c_gives a_c_rough f_c_startRung f_c_startThings f_c_startStrength f_c_startWind f_c_slips f_c_lines a_c_code f_c_coded f_c_tiresFrom f_c_tiresTo f_c_mayFrom f_c_mayTo, (a_c_bars, .inl (dA 0, 9, .inl b_c_bars)), (a_c_gives, .inl (dA 0, 9, .inl b_c_gives)), (a_c_rough, .inl (dA 0, 9, .inl b_c_rough)), (a_c_code, .inl (dA 0, 900, .inl b_c_code)), zo_X2 a_w a_c a_w_told a_w_facts a_w_stack f_w_wind, (a_w_told, .inl (dA 0, 315, .inl a16)), (a_w_facts, .inl (dA 0, 6, .inl a17)), (a_w_stack, .inl (dA 0, 64, .inl a18))] H := hP
      have hD : va_D A [zo_X10 a_o a_tape f_o_taped a_c a_sp a_rd a_now a_tri a_past f_o_undoable a_trays a_ics a_ips a_w a_m a_g a_rw a_sl a_sh, zo_X4 a_tri f_tri_stand f_tri_wind f_tri_deeds, zo_X3 a_m a_c a_w a_m_deeds a_m_ends f_m_found, zo_X0 a_c f_c_top f_c_things a_c_bars a_c_gives a_c_rough f_c_startRung f_c_startThings f_c_startStrength f_c_startWind f_c_slips f_c_lines a_c_code f_c_coded f_c_tiresFrom f_c_tiresTo f_c_mayFrom f_c_mayTo, (a_c_bars, .inl (dA 0, 9, .inl b_c_bars)), (a_c_gives, .inl (dA 0, 9, .inl b_c_gives)), (a_c_rough, .inl (dA 0, 9, .inl b_c_rough)), (a_c_code, .inl (dA 0, 900, .inl b_c_code)), zo_X2 a_w a_c a_w_told a_w_facts a_w_stack f_w_wind, (a_w_told, .inl (dA 0, 315, .inl a16)), (a_w_facts, .inl (dA 0, 6, .inl a17)), (a_w_stack, .inl (dA 0, 64, .inl a18))] := hD
      refine lv_istore_n (lv' := [(3, .int v15), (0, .ref a_o), (1, .ref a_tri), (2, .int p2)]) (pc := 45) hx hb dX10_step_45 rfl hl (by decide) rfl (fun ls hl => ?_)
      refine lv_iload_n (pc := 46) hx hb dX10_step_46 rfl (lv_at hl 0 rfl) ?_
      obtain ⟨v24, v25, a26, a27, a28, hj, hf⟩ := zc_5 hf
      refine zj_join (pcJ := 76) (stk := []) (X := fun H locs ls => lv_has ls 4 [(3, .int v15)] ∧ va_P (dC, dI) zz_cls [zo_X10 a_o a_tape f_o_taped a_c a_sp a_rd a_now a_tri a_past f_o_undoable a_trays a_ics a_ips a_w a_m a_g a_rw a_sl a_sh, zo_X0 a_c f_c_top f_c_things a_c_bars a_c_gives a_c_rough f_c_startRung f_c_startThings f_c_startStrength f_c_startWind f_c_slips f_c_lines a_c_code f_c_coded f_c_tiresFrom f_c_tiresTo f_c_mayFrom f_c_mayTo, (a_c_bars, .inl (dA 0, 9, .inl b_c_bars)), (a_c_gives, .inl (dA 0, 9, .inl b_c_gives)), (a_c_rough, .inl (dA 0, 9, .inl b_c_rough)), (a_c_code, .inl (dA 0, 900, .inl b_c_code)), zo_X4 a_tri v24 f_tri_wind v25, zo_X2 a_w a_c a_w_told a_w_facts a_w_stack f_w_wind, (a_w_told, .inl (dA 0, 315, .inl a26)), (a_w_facts, .inl (dA 0, 6, .inl a27)), (a_w_stack, .inl (dA 0, 64, .inl a28)), zo_X3 a_m a_c a_w a_m_deeds a_m_ends f_m_found] H ∧ va_D A [zo_X10 a_o a_tape f_o_taped a_c a_sp a_rd a_now a_tri a_past f_o_undoable a_trays a_ics a_ips a_w a_m a_g a_rw a_sl a_sh, zo_X0 a_c f_c_top f_c_things a_c_bars a_c_gives a_c_rough f_c_startRung f_c_startThings f_c_startStrength f_c_startWind f_c_slips f_c_lines a_c_code f_c_coded f_c_tiresFrom f_c_tiresTo f_c_mayFrom f_c_mayTo, (a_c_bars, .inl (dA 0, 9, .inl b_c_bars)), (a_c_gives, .inl (dA 0, 9, .inl b_c_gives)), (a_c_rough, .inl (dA 0, 9, .inl b_c_rough)), (a_c_code, .inl (dA 0, 900, .inl b_c_code)), zo_X4 a_tri v24 f_tri_wind v25, zo_X2 a_w a_c a_w_told a_w_facts a_w_stack f_w_wind, (a_w_told, .inl (dA 0, 315, .inl a26)), (a_w_facts, .inl (dA 0, 6, .inl a27)), (a_w_stack, .inl (dA 0, 64, .inl a28)), zo_X3 a_m a_c a_w a_m_deeds a_m_ends f_m_found] ∧ va_S A s.heap H locs) (fun H locs ls hX => ?_) (fun J76 => ?_)
      · obtain ⟨hl, hP, hD, hS⟩ := hX
        clear hj
        refine lv_iload_n (pc := 76) hx hb dX10_step_76 rfl (lv_at hl 0 rfl) ?_
        obtain ⟨rfl, rfl, rfl, rfl, rfl, rfl, rfl, rfl⟩ := zi_8 hf
        exact W.iret (pc := 77) hx hb hr (fun t ht hW => ⟨⟨_, (), rfl, rfl, zz_Bi (by rw [ht]; exact hP) (va_K.moved hW.alike hK) (hD)⟩, hS.F ht⟩) hS.2.2 dX10_step_77
      · clear hf
        have hf := hj
        clear hj
        refine lv_if_ne (tgt := 76) (pc := 47) hx hb dX10_step_47 rfl (fun hc => ?_) (fun hc => ?_)
        · have hf := za_f hf hc
          obtain ⟨rfl, rfl, rfl, rfl, rfl⟩ := zi_5 hf
          exact J76 _ _ _ ⟨lv_sub hl [0] rfl, hP.sub [0, 3, 4, 5, 6, 7, 1, 8, 9, 10, 11, 2] rfl, hD.sub [0, 3, 4, 5, 6, 7, 1, 8, 9, 10, 11, 2] (by decide) rfl, hS⟩
        · have hf := za_t hf hc
          refine lv_aload_n (pc := 50) hx hb dX10_step_50 rfl (lv_at hl 2 rfl) ?_
          refine lv_aload_n (pc := 51) hx hb dX10_step_51 rfl (lv_at hl 1 rfl) ?_
          refine va_get (pc := 52) (D := (dC, dI)) (ci := 11) (v := .ref a_m) (C := RX10) (T := TX10) (N := 18) hx hb ht zq_layX10 hown hK hP 0 rfl rfl 13 (by decide) (ht _ zq_618) (fun _ h9 => h9) rfl dX10_step_52 ?_
          refine lv_aload_n (pc := 55) hx hb dX10_step_55 rfl (lv_at hl 2 rfl) ?_
          refine va_get (pc := 56) (D := (dC, dI)) (ci := 5) (v := .int f_tri_stand) (C := RX4) (T := TX4) (N := 3) hx hb ht zq_layX4 hown hK hP 1 rfl rfl 0 (by decide) (ht _ zq_692) (fun _ h9 => h9) rfl dX10_step_56 ?_
          refine lv_iload_n (pc := 59) hx hb dX10_step_59 rfl (lv_at hl 3 rfl) ?_
          obtain ⟨v19, a20, a21, a22, hv19, hf⟩ := zc_4 hf
          refine zx_Vi (pc := 60) (wc := [zo_X3 a_m a_c a_w a_m_deeds a_m_ends f_m_found, zo_X0 a_c f_c_top f_c_things a_c_bars a_c_gives a_c_rough f_c_startRung f_c_startThings f_c_startStrength f_c_startWind f_c_slips f_c_lines a_c_code f_c_coded f_c_tiresFrom f_c_tiresTo f_c_mayFrom f_c_mayTo, (a_c_bars, .inl (dA 0, 9, .inl b_c_bars)), (a_c_rough, .inl (dA 0, 9, .inl b_c_rough)), (a_c_code, .inl (dA 0, 900, .inl b_c_code)), zo_X2 a_w a_c a_w_told a_w_facts a_w_stack f_w_wind, (a_w_told, .inl (dA 0, 315, .inl a16)), (a_w_facts, .inl (dA 0, 6, .inl a17)), (a_w_stack, .inl (dA 0, 64, .inl a18))]) (wr := [zo_X10 a_o a_tape f_o_taped a_c a_sp a_rd a_now a_tri a_past f_o_undoable a_trays a_ics a_ips a_w a_m a_g a_rw a_sl a_sh, zo_X4 a_tri f_tri_stand f_tri_wind f_tri_deeds, (a_c_gives, .inl (dA 0, 9, .inl b_c_gives))]) (w1 := [zo_X3 a_m a_c a_w a_m_deeds a_m_ends f_m_found, zo_X0 a_c f_c_top f_c_things a_c_bars a_c_gives a_c_rough f_c_startRung f_c_startThings f_c_startStrength f_c_startWind f_c_slips f_c_lines a_c_code f_c_coded f_c_tiresFrom f_c_tiresTo f_c_mayFrom f_c_mayTo, (a_c_bars, .inl (dA 0, 9, .inl b_c_bars)), (a_c_rough, .inl (dA 0, 9, .inl b_c_rough)), (a_c_code, .inl (dA 0, 900, .inl b_c_code)), zo_X2 a_w a_c a_w_told a_w_facts a_w_stack f_w_wind, (a_w_told, .inl (dA 0, 315, .inl a20)), (a_w_facts, .inl (dA 0, 6, .inl a21)), (a_w_stack, .inl (dA 0, 64, .inl a22))]) (As := [.int f_tri_stand, .int p2]) (rest := [.ref a_tri]) ⟨hx, hb, hml, hown, ht⟩ (zt_X3_behind l dC dI dA adK adV _ a_m a_c a_w a_m_deeds a_m_ends a_c_bars a_c_gives a_c_rough a_c_code a_w_told a_w_facts a_w_stack n f_m_found f_c_top f_c_things f_c_startRung f_c_startThings f_c_startStrength f_c_startWind f_c_slips f_c_lines f_c_coded f_c_tiresFrom f_c_tiresTo f_c_mayFrom f_c_mayTo f_w_wind b_c_bars b_c_rough b_c_code a16 a17 a18 f_tri_stand p2 v19 a20 a21 a22 hv19) (cwV 2 ht (zq_V zq_703 zq_184 zq_185 zq_50 zq_179) rfl rfl rfl zk_X3_behind ⟨Nat.le_of_ble_eq_true rfl, Nat.le_of_ble_eq_true rfl⟩) rfl rfl hZ hK hP hD hS hA [2, 3, 4, 6, 7, 8, 9, 10, 11] [0, 1, 5] (by decide) (by decide) (by decide) rfl rfl rfl hl.1 (Nat.le_of_ble_eq_true rfl) dX10_step_60 ⟨Nat.zero_le _, Nat.zero_le _⟩ rfl (fun H locs hP hD hS => ?_)
          have hP : va_P (dC, dI) zz_cls [zo_X10 a_o a_tape f_o_taped a_c a_sp a_rd a_now a_tri a_past f_o_undoable a_trays a_ics a_ips a_w a_m a_g a_rw a_sl a_sh, zo_X4 a_tri f_tri_stand f_tri_wind f_tri_deeds, (a_c_gives, .inl (dA 0, 9, .inl b_c_gives)), zo_X3 a_m a_c a_w a_m_deeds a_m_ends f_m_found, zo_X0 a_c f_c_top f_c_things a_c_bars a_c_gives a_c_rough f_c_startRung f_c_startThings f_c_startStrength f_c_startWind f_c_slips f_c_lines a_c_code f_c_coded f_c_tiresFrom f_c_tiresTo f_c_mayFrom f_c_mayTo, (a_c_bars, .inl (dA 0, 9, .inl b_c_bars)), (a_c_rough, .inl (dA 0, 9, .inl b_c_rough)), (a_c_code, .inl (dA 0, 900, .inl b_c_code)), zo_X2 a_w a_c a_w_told a_w_facts a_w_stack f_w_wind, (a_w_told, .inl (dA 0, 315, .inl a20)), (a_w_facts, .inl (dA 0, 6, .inl a21)), (a_w_stack, .inl (dA 0, 64, .inl a22))] H := hP
          have hD : va_D A [zo_X10 a_o a_tape f_o_taped a_c a_sp a_rd a_now a_tri a_past f_o_undoable a_trays a_ics a_ips a_w a_m a_g a_rw a_sl a_sh, zo_X4 a_tri f_tri_stand f_tri_wind f_tri_deeds, (a_c_gives, .inl (dA 0, 9, .inl b_c_gives)), zo_X3 a_m a_c a_w a_m_deeds a_m_ends f_m_found, zo_X0 a_c f_c_top f_c_things a_c_bars a_c_gives a_c_rough f_c_startRung f_c_startThings f_c_startStrength f_c_startWind f_c_slips f_c_lines a_c_code f_c_coded f_c_tiresFrom f_c_tiresTo f_c_mayFrom f_c_mayTo, (a_c_bars, .inl (dA 0, 9, .inl b_c_bars)), (a_c_rough, .inl (dA 0, 9, .inl b_c_rough)), (a_c_code, .inl (dA 0, 900, .inl b_c_code)), zo_X2 a_w a_c a_w_told a_w_facts a_w_stack f_w_wind, (a_w_told, .inl (dA 0, 315, .inl a20)), (a_w_facts, .inl (dA 0, 6, .inl a21)), (a_w_stack, .inl (dA 0, 64, .inl a22))] := hD
          refine va_put (pc := 63) (D := (dC, dI)) (ci := 5) (v := .int v19) (ty := .int) (C := RX4) (T := TX4) (N := 3) hx hb ht zq_layX4 tyX4 tyX4_ok nmX4 hown hK hP hD hS 1 rfl rfl 0 (by decide) (ht _ zq_692) (fun _ h9 => h9) rfl (by decide +kernel) rfl rfl (Nat.le_of_ble_eq_true rfl) dX10_step_63 (fun H locs hP hD hS => ?_)
          have hP : va_P (dC, dI) zz_cls [zo_X10 a_o a_tape f_o_taped a_c a_sp a_rd a_now a_tri a_past f_o_undoable a_trays a_ics a_ips a_w a_m a_g a_rw a_sl a_sh, zo_X4 a_tri v19 f_tri_wind f_tri_deeds, (a_c_gives, .inl (dA 0, 9, .inl b_c_gives)), zo_X3 a_m a_c a_w a_m_deeds a_m_ends f_m_found, zo_X0 a_c f_c_top f_c_things a_c_bars a_c_gives a_c_rough f_c_startRung f_c_startThings f_c_startStrength f_c_startWind f_c_slips f_c_lines a_c_code f_c_coded f_c_tiresFrom f_c_tiresTo f_c_mayFrom f_c_mayTo, (a_c_bars, .inl (dA 0, 9, .inl b_c_bars)), (a_c_rough, .inl (dA 0, 9, .inl b_c_rough)), (a_c_code, .inl (dA 0, 900, .inl b_c_code)), zo_X2 a_w a_c a_w_told a_w_facts a_w_stack f_w_wind, (a_w_told, .inl (dA 0, 315, .inl a20)), (a_w_facts, .inl (dA 0, 6, .inl a21)), (a_w_stack, .inl (dA 0, 64, .inl a22))] H := hP
          have hD : va_D A [zo_X10 a_o a_tape f_o_taped a_c a_sp a_rd a_now a_tri a_past f_o_undoable a_trays a_ics a_ips a_w a_m a_g a_rw a_sl a_sh, zo_X4 a_tri v19 f_tri_wind f_tri_deeds, (a_c_gives, .inl (dA 0, 9, .inl b_c_gives)), zo_X3 a_m a_c a_w a_m_deeds a_m_ends f_m_found, zo_X0 a_c f_c_top f_c_things a_c_bars a_c_gives a_c_rough f_c_startRung f_c_startThings f_c_startStrength f_c_startWind f_c_slips f_c_lines a_c_code f_c_coded f_c_tiresFrom f_c_tiresTo f_c_mayFrom f_c_mayTo, (a_c_bars, .inl (dA 0, 9, .inl b_c_bars)), (a_c_rough, .inl (dA 0, 9, .inl b_c_rough)), (a_c_code, .inl (dA 0, 900, .inl b_c_code)), zo_X2 a_w a_c a_w_told a_w_facts a_w_stack f_w_wind, (a_w_told, .inl (dA 0, 315, .inl a20)), (a_w_facts, .inl (dA 0, 6, .inl a21)), (a_w_stack, .inl (dA 0, 64, .inl a22))] := hD
          refine lv_aload_n (pc := 66) hx hb dX10_step_66 rfl (lv_at hl 2 rfl) ?_
          refine lv_dup (pc := 67) hx hb dX10_step_67 rfl ?_
          refine va_get (pc := 68) (D := (dC, dI)) (ci := 5) (v := .int f_tri_deeds) (C := RX4) (T := TX4) (N := 3) hx hb ht zq_layX4 hown hK hP 1 rfl rfl 2 (by decide) (ht _ zq_702) (fun _ h9 => h9) rfl dX10_step_68 ?_
          refine lv_iconst (v := (1 : Int32)) (pc := 71) hx hb dX10_step_71 (by decide) ?_
          refine lv_iadd (pc := 72) hx hb dX10_step_72 ?_
          obtain ⟨v23, hv23, hf⟩ := zc_1 hf
          refine zw_top (hv23) ?_
          refine va_put (pc := 73) (D := (dC, dI)) (ci := 5) (v := .int v23) (ty := .int) (C := RX4) (T := TX4) (N := 3) hx hb ht zq_layX4 tyX4 tyX4_ok nmX4 hown hK hP hD hS 1 rfl rfl 2 (by decide) (ht _ zq_702) (fun _ h9 => h9) rfl (by decide +kernel) rfl rfl (Nat.le_of_ble_eq_true rfl) dX10_step_73 (fun H locs hP hD hS => ?_)
          have hP : va_P (dC, dI) zz_cls [zo_X10 a_o a_tape f_o_taped a_c a_sp a_rd a_now a_tri a_past f_o_undoable a_trays a_ics a_ips a_w a_m a_g a_rw a_sl a_sh, zo_X4 a_tri v19 f_tri_wind v23, (a_c_gives, .inl (dA 0, 9, .inl b_c_gives)), zo_X3 a_m a_c a_w a_m_deeds a_m_ends f_m_found, zo_X0 a_c f_c_top f_c_things a_c_bars a_c_gives a_c_rough f_c_startRung f_c_startThings f_c_startStrength f_c_startWind f_c_slips f_c_lines a_c_code f_c_coded f_c_tiresFrom f_c_tiresTo f_c_mayFrom f_c_mayTo, (a_c_bars, .inl (dA 0, 9, .inl b_c_bars)), (a_c_rough, .inl (dA 0, 9, .inl b_c_rough)), (a_c_code, .inl (dA 0, 900, .inl b_c_code)), zo_X2 a_w a_c a_w_told a_w_facts a_w_stack f_w_wind, (a_w_told, .inl (dA 0, 315, .inl a20)), (a_w_facts, .inl (dA 0, 6, .inl a21)), (a_w_stack, .inl (dA 0, 64, .inl a22))] H := hP
          have hD : va_D A [zo_X10 a_o a_tape f_o_taped a_c a_sp a_rd a_now a_tri a_past f_o_undoable a_trays a_ics a_ips a_w a_m a_g a_rw a_sl a_sh, zo_X4 a_tri v19 f_tri_wind v23, (a_c_gives, .inl (dA 0, 9, .inl b_c_gives)), zo_X3 a_m a_c a_w a_m_deeds a_m_ends f_m_found, zo_X0 a_c f_c_top f_c_things a_c_bars a_c_gives a_c_rough f_c_startRung f_c_startThings f_c_startStrength f_c_startWind f_c_slips f_c_lines a_c_code f_c_coded f_c_tiresFrom f_c_tiresTo f_c_mayFrom f_c_mayTo, (a_c_bars, .inl (dA 0, 9, .inl b_c_bars)), (a_c_rough, .inl (dA 0, 9, .inl b_c_rough)), (a_c_code, .inl (dA 0, 900, .inl b_c_code)), zo_X2 a_w a_c a_w_told a_w_facts a_w_stack f_w_wind, (a_w_told, .inl (dA 0, 315, .inl a20)), (a_w_facts, .inl (dA 0, 6, .inl a21)), (a_w_stack, .inl (dA 0, 64, .inl a22))] := hD
          obtain ⟨rfl, rfl, rfl, rfl, rfl⟩ := zi_5 hf
          exact J76 _ _ _ ⟨lv_sub hl [0] rfl, hP.sub [0, 4, 5, 2, 6, 7, 1, 8, 9, 10, 11, 3] rfl, hD.sub [0, 4, 5, 2, 6, 7, 1, 8, 9, 10, 11, 3] (by decide) rfl, hS⟩
    · have hf := za_f hf hc
      refine lv_aload_n (pc := 12) hx hb dX10_step_12 rfl (lv_at hl 1 rfl) ?_
      refine lv_iload_n (pc := 13) hx hb dX10_step_13 rfl (lv_at hl 2 rfl) ?_
      refine lv_bipush (v := (30 : Int32)) (pc := 14) hx hb dX10_step_14 (by decide) ?_
      refine lv_isub (pc := 16) hx hb dX10_step_16 ?_
      obtain ⟨v29, hv29, hf⟩ := zc_1 hf
      refine zw_top (hv29) ?_
      refine va_put (pc := 17) (D := (dC, dI)) (ci := 5) (v := .int v29) (ty := .int) (C := RX4) (T := TX4) (N := 3) hx hb ht zq_layX4 tyX4 tyX4_ok nmX4 hown hK hP hD hS 6 rfl rfl 1 (by decide) (ht _ zq_660) (fun _ h9 => h9) rfl (by decide +kernel) rfl rfl (Nat.le_of_ble_eq_true rfl) dX10_step_17 (fun H locs hP hD hS => ?_)
      have hP : va_P (dC, dI) zz_cls [zo_X10 a_o a_tape f_o_taped a_c a_sp a_rd a_now a_tri a_past f_o_undoable a_trays a_ics a_ips a_w a_m a_g a_rw a_sl a_sh, zo_X0 a_c f_c_top f_c_things a_c_bars a_c_gives a_c_rough f_c_startRung f_c_startThings f_c_startStrength f_c_startWind f_c_slips f_c_lines a_c_code f_c_coded f_c_tiresFrom f_c_tiresTo f_c_mayFrom f_c_mayTo, (a_c_bars, .inl (dA 0, 9, .inl b_c_bars)), (a_c_gives, .inl (dA 0, 9, .inl b_c_gives)), (a_c_rough, .inl (dA 0, 9, .inl b_c_rough)), (a_c_code, .inl (dA 0, 900, .inl b_c_code)), zo_X4 a_tri f_tri_stand v29 f_tri_deeds, zo_X2 a_w a_c a_w_told a_w_facts a_w_stack f_w_wind, (a_w_told, .inl (dA 0, 315, .inl b_w_told)), (a_w_facts, .inl (dA 0, 6, .inl b_w_facts)), (a_w_stack, .inl (dA 0, 64, .inl b_w_stack)), zo_X3 a_m a_c a_w a_m_deeds a_m_ends f_m_found] H := hP
      have hD : va_D A [zo_X10 a_o a_tape f_o_taped a_c a_sp a_rd a_now a_tri a_past f_o_undoable a_trays a_ics a_ips a_w a_m a_g a_rw a_sl a_sh, zo_X0 a_c f_c_top f_c_things a_c_bars a_c_gives a_c_rough f_c_startRung f_c_startThings f_c_startStrength f_c_startWind f_c_slips f_c_lines a_c_code f_c_coded f_c_tiresFrom f_c_tiresTo f_c_mayFrom f_c_mayTo, (a_c_bars, .inl (dA 0, 9, .inl b_c_bars)), (a_c_gives, .inl (dA 0, 9, .inl b_c_gives)), (a_c_rough, .inl (dA 0, 9, .inl b_c_rough)), (a_c_code, .inl (dA 0, 900, .inl b_c_code)), zo_X4 a_tri f_tri_stand v29 f_tri_deeds, zo_X2 a_w a_c a_w_told a_w_facts a_w_stack f_w_wind, (a_w_told, .inl (dA 0, 315, .inl b_w_told)), (a_w_facts, .inl (dA 0, 6, .inl b_w_facts)), (a_w_stack, .inl (dA 0, 64, .inl b_w_stack)), zo_X3 a_m a_c a_w a_m_deeds a_m_ends f_m_found] := hD
      refine lv_aload_n (pc := 20) hx hb dX10_step_20 rfl (lv_at hl 0 rfl) ?_
      refine va_get (pc := 21) (D := (dC, dI)) (ci := 11) (v := .ref a_w) (C := RX10) (T := TX10) (N := 18) hx hb ht zq_layX10 hown hK hP 0 rfl rfl 12 (by decide) (ht _ zq_615) (fun _ h9 => h9) rfl dX10_step_21 ?_
      refine lv_aload_n (pc := 24) hx hb dX10_step_24 rfl (lv_at hl 1 rfl) ?_
      refine va_get (pc := 25) (D := (dC, dI)) (ci := 5) (v := .int v29) (C := RX4) (T := TX4) (N := 3) hx hb ht zq_layX4 hown hK hP 6 rfl rfl 1 (by decide) (ht _ zq_660) (fun _ h9 => h9) rfl dX10_step_25 ?_
      obtain ⟨v30, a31, hv30, hf⟩ := zc_2 hf
      refine zx_Vv (pc := 28) (wc := [zo_X2 a_w a_c a_w_told a_w_facts a_w_stack f_w_wind, (a_w_told, .inl (dA 0, 315, .inl b_w_told))]) (wr := [zo_X10 a_o a_tape f_o_taped a_c a_sp a_rd a_now a_tri a_past f_o_undoable a_trays a_ics a_ips a_w a_m a_g a_rw a_sl a_sh, zo_X0 a_c f_c_top f_c_things a_c_bars a_c_gives a_c_rough f_c_startRung f_c_startThings f_c_startStrength f_c_startWind f_c_slips f_c_lines a_c_code f_c_coded f_c_tiresFrom f_c_tiresTo f_c_mayFrom f_c_mayTo, (a_c_bars, .inl (dA 0, 9, .inl b_c_bars)), (a_c_gives, .inl (dA 0, 9, .inl b_c_gives)), (a_c_rough, .inl (dA 0, 9, .inl b_c_rough)), (a_c_code, .inl (dA 0, 900, .inl b_c_code)), zo_X4 a_tri f_tri_stand v29 f_tri_deeds, (a_w_facts, .inl (dA 0, 6, .inl b_w_facts)), (a_w_stack, .inl (dA 0, 64, .inl b_w_stack)), zo_X3 a_m a_c a_w a_m_deeds a_m_ends f_m_found]) (w1 := [zo_X2 a_w a_c a_w_told a_w_facts a_w_stack v30, (a_w_told, .inl (dA 0, 315, .inl a31))]) (As := [.int v29]) (rest := []) ⟨hx, hb, hml, hown, ht⟩ (zt_X2_useWind l dC dI dA adK adV _ a_w a_c a_w_told a_w_facts a_w_stack n f_w_wind b_w_told v29 v30 a31 hv30) (cwV 1 ht (zq_V zq_661 zq_662 zq_663 zq_81 zq_167) rfl rfl rfl zk_X2_useWind ⟨Nat.le_of_ble_eq_true rfl, Nat.le_of_ble_eq_true rfl⟩) rfl rfl hZ hK hP hD hS hA [7, 8] [0, 1, 2, 3, 4, 5, 6, 9, 10, 11] (by decide) (by decide) (by decide) rfl rfl rfl hl.1 (Nat.le_of_ble_eq_true rfl) dX10_step_28 ⟨Nat.zero_le _, Nat.zero_le _⟩ rfl (fun H locs hP hD hS => ?_)
      have hP : va_P (dC, dI) zz_cls [zo_X10 a_o a_tape f_o_taped a_c a_sp a_rd a_now a_tri a_past f_o_undoable a_trays a_ics a_ips a_w a_m a_g a_rw a_sl a_sh, zo_X0 a_c f_c_top f_c_things a_c_bars a_c_gives a_c_rough f_c_startRung f_c_startThings f_c_startStrength f_c_startWind f_c_slips f_c_lines a_c_code f_c_coded f_c_tiresFrom f_c_tiresTo f_c_mayFrom f_c_mayTo, (a_c_bars, .inl (dA 0, 9, .inl b_c_bars)), (a_c_gives, .inl (dA 0, 9, .inl b_c_gives)), (a_c_rough, .inl (dA 0, 9, .inl b_c_rough)), (a_c_code, .inl (dA 0, 900, .inl b_c_code)), zo_X4 a_tri f_tri_stand v29 f_tri_deeds, (a_w_facts, .inl (dA 0, 6, .inl b_w_facts)), (a_w_stack, .inl (dA 0, 64, .inl b_w_stack)), zo_X3 a_m a_c a_w a_m_deeds a_m_ends f_m_found, zo_X2 a_w a_c a_w_told a_w_facts a_w_stack v30, (a_w_told, .inl (dA 0, 315, .inl a31))] H := hP
      have hD : va_D A [zo_X10 a_o a_tape f_o_taped a_c a_sp a_rd a_now a_tri a_past f_o_undoable a_trays a_ics a_ips a_w a_m a_g a_rw a_sl a_sh, zo_X0 a_c f_c_top f_c_things a_c_bars a_c_gives a_c_rough f_c_startRung f_c_startThings f_c_startStrength f_c_startWind f_c_slips f_c_lines a_c_code f_c_coded f_c_tiresFrom f_c_tiresTo f_c_mayFrom f_c_mayTo, (a_c_bars, .inl (dA 0, 9, .inl b_c_bars)), (a_c_gives, .inl (dA 0, 9, .inl b_c_gives)), (a_c_rough, .inl (dA 0, 9, .inl b_c_rough)), (a_c_code, .inl (dA 0, 900, .inl b_c_code)), zo_X4 a_tri f_tri_stand v29 f_tri_deeds, (a_w_facts, .inl (dA 0, 6, .inl b_w_facts)), (a_w_stack, .inl (dA 0, 64, .inl b_w_stack)), zo_X3 a_m a_c a_w a_m_deeds a_m_ends f_m_found, zo_X2 a_w a_c a_w_told a_w_facts a_w_stack v30, (a_w_told, .inl (dA 0, 315, .inl a31))] := hD
      refine lv_iconst (v := (0 : Int32)) (pc := 31) hx hb dX10_step_31 (by decide) ?_
      obtain ⟨rfl, rfl, rfl, rfl, rfl, rfl, rfl, rfl⟩ := zi_8 hf
      exact W.iret (pc := 32) hx hb hr (fun t ht hW => ⟨⟨_, (), rfl, rfl, zz_Bi (by rw [ht]; exact hP.sub [0, 1, 2, 3, 4, 5, 6, 10, 11, 7, 8, 9] rfl) (va_K.moved hW.alike hK) (hD.sub [0, 1, 2, 3, 4, 5, 6, 10, 11, 7, 8, 9] (by decide) rfl)⟩, hS.F ht⟩) hS.2.2 dX10_step_32

def zb_X10_follow_13 (f_q0_size : Int32) (b_q0_numbers : (Nat → Int64)) (n : Nat) (f_c_top : Int32) (f_c_things : Int32) (f_c_tiresFrom : Int32) (f_c_tiresTo : Int32) (f_c_mayFrom : Int32) (f_c_mayTo : Int32) (b_c_bars : (Nat → Int32)) (b_c_gives : (Nat → Int32)) (b_c_rough : (Nat → Int32)) (b_c_code : (Nat → Int32)) (v4 : Int32) (v5 : Int32) (v6 : Int32) (v7 : Int32) (v8 : Int32) (a9 : (Nat → Int32)) (a10 : (Nat → Int32)) (a11 : (Nat → Int32)) : Option (Nat × Int32 × Int32 × Int32 × Int32 × Int32 × (Nat → Int32) × (Nat → Int32) × (Nat → Int32)) :=
  if f_q0_size ≤ v4 then
    some (1, v4, v5, v6, v7, v8, a9, a10, a11)
  else
    zd_1 (zf_X9_deedAt b_q0_numbers v4) (fun v12 =>
    zd_8 (zf_X10_step n f_c_top f_c_things f_c_tiresFrom f_c_tiresTo f_c_mayFrom f_c_mayTo b_c_bars b_c_gives b_c_rough b_c_code v5 v6 v7 v8 a9 a10 a11 v12) (fun v13 v14 v15 v16 v17 a18 a19 a20 =>
    if v13 = 0 then
      zd_1 (some (v4 + (1 : Int32))) (fun v21 =>
      some (0, v21, v14, v15, v16, v17, a18, a19, a20))
    else
      some (1, v4, v14, v15, v16, v17, a18, a19, a20)))
def zf_X10_follow (n : Nat) (f_c_top : Int32) (f_c_things : Int32) (f_c_tiresFrom : Int32) (f_c_tiresTo : Int32) (f_c_mayFrom : Int32) (f_c_mayTo : Int32) (b_c_bars : (Nat → Int32)) (b_c_gives : (Nat → Int32)) (b_c_rough : (Nat → Int32)) (b_c_code : (Nat → Int32)) (f_now_stand : Int32) (f_now_wind : Int32) (f_now_deeds : Int32) (f_tri_stand : Int32) (f_tri_wind : Int32) (f_tri_deeds : Int32) (f_w_wind : Int32) (b_w_told : (Nat → Int32)) (b_w_facts : (Nat → Int32)) (b_w_stack : (Nat → Int32)) (f_q0_size : Int32) (b_q0_numbers : (Nat → Int64)) : Option (Int32 × Int32 × Int32 × Int32 × Int32 × (Nat → Int32) × (Nat → Int32) × (Nat → Int32)) :=
  zd_3 (zf_X4_copyFrom f_tri_stand f_tri_wind f_tri_deeds f_now_stand f_now_wind f_now_deeds) (fun v1 v2 v3 =>
  zd_9 (za_it (fun v => zb_X10_follow_13 f_q0_size b_q0_numbers n f_c_top f_c_things f_c_tiresFrom f_c_tiresTo f_c_mayFrom f_c_mayTo b_c_bars b_c_gives b_c_rough b_c_code v.1 v.2.1 v.2.2.1 v.2.2.2.1 v.2.2.2.2.1 v.2.2.2.2.2.1 v.2.2.2.2.2.2.1 v.2.2.2.2.2.2.2) n ((0 : Int32), v1, v2, v3, f_w_wind, b_w_told, b_w_facts, b_w_stack)) (fun g30 v22 v23 v24 v25 v26 a27 a28 a29 =>
  some (v22, v23, v24, v25, v26, a27, a28, a29)))
theorem zk_X10_follow : yX10_follow.cls = RX10 ∧ yX10_follow.cls ≠ "java/lang/invoke/MethodHandle" ∧ yX10_follow.cls ≠ "java/lang/invoke/VarHandle" ∧ (parseMethodDescriptor yX10_follow.desc).map (fun d => d.parameters.length) = some 1 := by decide +kernel
set_option maxHeartbeats 4000000 in
set_option maxRecDepth 100000 in
theorem zt_X10_follow (l : Launch) (dC : Nat → ClassId) (dI : Nat → Nat → Nat) (dA : Nat → ClassId) (adK adV : Nat → Nat) (sz : Nat) (a_o : Nat) (a_tape : Nat) (a_c : Nat) (a_sp : Nat) (a_rd : Nat) (a_now : Nat) (a_tri : Nat) (a_past : Nat) (a_trays : Nat) (a_ics : Nat) (a_ips : Nat) (a_w : Nat) (a_m : Nat) (a_g : Nat) (a_rw : Nat) (a_sl : Nat) (a_sh : Nat) (a_c_bars : Nat) (a_c_gives : Nat) (a_c_rough : Nat) (a_c_code : Nat) (a_w_told : Nat) (a_w_facts : Nat) (a_w_stack : Nat) (a_m_deeds : Nat) (a_m_ends : Nat) (a_q0 : Nat) (a_q0_numbers : Nat) (n : Nat) (f_o_taped : Int32) (f_o_undoable : Int32) (f_c_top : Int32) (f_c_things : Int32) (f_c_startRung : Int32) (f_c_startThings : Int32) (f_c_startStrength : Int32) (f_c_startWind : Int32) (f_c_slips : Int32) (f_c_lines : Int32) (f_c_coded : Int32) (f_c_tiresFrom : Int32) (f_c_tiresTo : Int32) (f_c_mayFrom : Int32) (f_c_mayTo : Int32) (f_now_stand : Int32) (f_now_wind : Int32) (f_now_deeds : Int32) (f_tri_stand : Int32) (f_tri_wind : Int32) (f_tri_deeds : Int32) (f_w_wind : Int32) (f_m_found : Int32) (f_q0_missing : Int32) (f_q0_size : Int32) (f_q0_sort : Int32) (b_c_bars : (Nat → Int32)) (b_c_gives : (Nat → Int32)) (b_c_rough : (Nat → Int32)) (b_c_code : (Nat → Int32)) (b_w_told : (Nat → Int32)) (b_w_facts : (Nat → Int32)) (b_w_stack : (Nat → Int32)) (b_q0_numbers : (Nat → Int64)) (r0 : Int32) (o1 : Int32) (o2 : Int32) (o3 : Int32) (o4 : Int32) (o5 : (Nat → Int32)) (o6 : (Nat → Int32)) (o7 : (Nat → Int32)) (hf : zf_X10_follow n f_c_top f_c_things f_c_tiresFrom f_c_tiresTo f_c_mayFrom f_c_mayTo b_c_bars b_c_gives b_c_rough b_c_code f_now_stand f_now_wind f_now_deeds f_tri_stand f_tri_wind f_tri_deeds f_w_wind b_w_told b_w_facts b_w_stack f_q0_size b_q0_numbers = some (r0, o1, o2, o3, o4, o5, o6, o7)) : Met l yX10_follow (.code yX10_follow cX10_follow 3 (some .int) :: zq_T) ({ frames := 6, cells := 0, slots := 0, locals := 177 }) (va_Pc [.ref a_o, .ref a_q0] (zx_M dC dI dA adK adV [zo_X10 a_o a_tape f_o_taped a_c a_sp a_rd a_now a_tri a_past f_o_undoable a_trays a_ics a_ips a_w a_m a_g a_rw a_sl a_sh, zo_X0 a_c f_c_top f_c_things a_c_bars a_c_gives a_c_rough f_c_startRung f_c_startThings f_c_startStrength f_c_startWind f_c_slips f_c_lines a_c_code f_c_coded f_c_tiresFrom f_c_tiresTo f_c_mayFrom f_c_mayTo, (a_c_bars, .inl (dA 0, 9, .inl b_c_bars)), (a_c_gives, .inl (dA 0, 9, .inl b_c_gives)), (a_c_rough, .inl (dA 0, 9, .inl b_c_rough)), (a_c_code, .inl (dA 0, 900, .inl b_c_code)), zo_X4 a_now f_now_stand f_now_wind f_now_deeds, zo_X4 a_tri f_tri_stand f_tri_wind f_tri_deeds, zo_X2 a_w a_c a_w_told a_w_facts a_w_stack f_w_wind, (a_w_told, .inl (dA 0, 315, .inl b_w_told)), (a_w_facts, .inl (dA 0, 6, .inl b_w_facts)), (a_w_stack, .inl (dA 0, 64, .inl b_w_stack)), zo_X3 a_m a_c a_w a_m_deeds a_m_ends f_m_found, zo_X9 a_q0 f_q0_missing a_q0_numbers f_q0_size f_q0_sort, (a_q0_numbers, .inl (dA 1, 40, .inr (.inl b_q0_numbers)))] sz)) (va_Qi (fun (r : Int32) (_ : Unit) => r = r0) (fun _ t => zz_B dC dI dA (va_A [zo_X10 a_o a_tape f_o_taped a_c a_sp a_rd a_now a_tri a_past f_o_undoable a_trays a_ics a_ips a_w a_m a_g a_rw a_sl a_sh, zo_X0 a_c f_c_top f_c_things a_c_bars a_c_gives a_c_rough f_c_startRung f_c_startThings f_c_startStrength f_c_startWind f_c_slips f_c_lines a_c_code f_c_coded f_c_tiresFrom f_c_tiresTo f_c_mayFrom f_c_mayTo, (a_c_bars, .inl (dA 0, 9, .inl b_c_bars)), (a_c_gives, .inl (dA 0, 9, .inl b_c_gives)), (a_c_rough, .inl (dA 0, 9, .inl b_c_rough)), (a_c_code, .inl (dA 0, 900, .inl b_c_code)), zo_X4 a_now f_now_stand f_now_wind f_now_deeds, zo_X4 a_tri f_tri_stand f_tri_wind f_tri_deeds, zo_X2 a_w a_c a_w_told a_w_facts a_w_stack f_w_wind, (a_w_told, .inl (dA 0, 315, .inl b_w_told)), (a_w_facts, .inl (dA 0, 6, .inl b_w_facts)), (a_w_stack, .inl (dA 0, 64, .inl b_w_stack)), zo_X3 a_m a_c a_w a_m_deeds a_m_ends f_m_found, zo_X9 a_q0 f_q0_missing a_q0_numbers f_q0_size f_q0_sort, (a_q0_numbers, .inl (dA 1, 40, .inr (.inl b_q0_numbers)))] sz) [zo_X10 a_o a_tape f_o_taped a_c a_sp a_rd a_now a_tri a_past f_o_undoable a_trays a_ics a_ips a_w a_m a_g a_rw a_sl a_sh, zo_X0 a_c f_c_top f_c_things a_c_bars a_c_gives a_c_rough f_c_startRung f_c_startThings f_c_startStrength f_c_startWind f_c_slips f_c_lines a_c_code f_c_coded f_c_tiresFrom f_c_tiresTo f_c_mayFrom f_c_mayTo, (a_c_bars, .inl (dA 0, 9, .inl b_c_bars)), (a_c_gives, .inl (dA 0, 9, .inl b_c_gives)), (a_c_rough, .inl (dA 0, 9, .inl b_c_rough)), (a_c_code, .inl (dA 0, 900, .inl b_c_code)), zo_X4 a_now f_now_stand f_now_wind f_now_deeds, zo_X4 a_tri o1 o2 o3, zo_X2 a_w a_c a_w_told a_w_facts a_w_stack o4, (a_w_told, .inl (dA 0, 315, .inl o5)), (a_w_facts, .inl (dA 0, 6, .inl o6)), (a_w_stack, .inl (dA 0, 64, .inl o7)), zo_X3 a_m a_c a_w a_m_deeds a_m_ends f_m_found, zo_X9 a_q0 f_q0_missing a_q0_numbers f_q0_size f_q0_sort, (a_q0_numbers, .inl (dA 1, 40, .inr (.inl b_q0_numbers)))] t) (va_A [zo_X10 a_o a_tape f_o_taped a_c a_sp a_rd a_now a_tri a_past f_o_undoable a_trays a_ics a_ips a_w a_m a_g a_rw a_sl a_sh, zo_X0 a_c f_c_top f_c_things a_c_bars a_c_gives a_c_rough f_c_startRung f_c_startThings f_c_startStrength f_c_startWind f_c_slips f_c_lines a_c_code f_c_coded f_c_tiresFrom f_c_tiresTo f_c_mayFrom f_c_mayTo, (a_c_bars, .inl (dA 0, 9, .inl b_c_bars)), (a_c_gives, .inl (dA 0, 9, .inl b_c_gives)), (a_c_rough, .inl (dA 0, 9, .inl b_c_rough)), (a_c_code, .inl (dA 0, 900, .inl b_c_code)), zo_X4 a_now f_now_stand f_now_wind f_now_deeds, zo_X4 a_tri f_tri_stand f_tri_wind f_tri_deeds, zo_X2 a_w a_c a_w_told a_w_facts a_w_stack f_w_wind, (a_w_told, .inl (dA 0, 315, .inl b_w_told)), (a_w_facts, .inl (dA 0, 6, .inl b_w_facts)), (a_w_stack, .inl (dA 0, 64, .inl b_w_stack)), zo_X3 a_m a_c a_w a_m_deeds a_m_ends f_m_found, zo_X9 a_q0 f_q0_missing a_q0_numbers f_q0_size f_q0_sort, (a_q0_numbers, .inl (dA 1, 40, .inr (.inl b_q0_numbers)))] sz)) 0 0 (va_A [zo_X10 a_o a_tape f_o_taped a_c a_sp a_rd a_now a_tri a_past f_o_undoable a_trays a_ics a_ips a_w a_m a_g a_rw a_sl a_sh, zo_X0 a_c f_c_top f_c_things a_c_bars a_c_gives a_c_rough f_c_startRung f_c_startThings f_c_startStrength f_c_startWind f_c_slips f_c_lines a_c_code f_c_coded f_c_tiresFrom f_c_tiresTo f_c_mayFrom f_c_mayTo, (a_c_bars, .inl (dA 0, 9, .inl b_c_bars)), (a_c_gives, .inl (dA 0, 9, .inl b_c_gives)), (a_c_rough, .inl (dA 0, 9, .inl b_c_rough)), (a_c_code, .inl (dA 0, 900, .inl b_c_code)), zo_X4 a_now f_now_stand f_now_wind f_now_deeds, zo_X4 a_tri f_tri_stand f_tri_wind f_tri_deeds, zo_X2 a_w a_c a_w_told a_w_facts a_w_stack f_w_wind, (a_w_told, .inl (dA 0, 315, .inl b_w_told)), (a_w_facts, .inl (dA 0, 6, .inl b_w_facts)), (a_w_stack, .inl (dA 0, 64, .inl b_w_stack)), zo_X3 a_m a_c a_w a_m_deeds a_m_ends f_m_found, zo_X9 a_q0 f_q0_missing a_q0_numbers f_q0_size f_q0_sort, (a_q0_numbers, .inl (dA 1, 40, .inr (.inl b_q0_numbers)))] sz) := by
  unfold zf_X10_follow at hf
  refine Met.ofW (cc := cX10_follow) (maxL := 3) (ret := (some .int)) (by decide) rfl ?_
  intro p e s m args below meth c s₁ B hml hv
  obtain ⟨rfl, ⟨hsz, hP, hK, hD0⟩, hZ⟩ := hv
  have hx := B.exec
  have hb := B.bytes
  have hr := B.returns
  have ht : ∀ w ∈ zq_T, w.before ([.ref a_o, .ref a_q0] : List Value).toArray s = true := fun w hw => atoms_spec (ws := .code yX10_follow cX10_follow 3 (some .int) :: zq_T) B.pre w (List.mem_cons_of_mem _ hw)
  have hown : s.vm.findClass RX10 = some m.cls := findClass_of_methodNamed B.named
  have hlocks := B.notSynchronized
  subst hsz
  have hD := hD0.self (sz := s.heap.size)
  generalize hAe : va_A [zo_X10 a_o a_tape f_o_taped a_c a_sp a_rd a_now a_tri a_past f_o_undoable a_trays a_ics a_ips a_w a_m a_g a_rw a_sl a_sh, zo_X0 a_c f_c_top f_c_things a_c_bars a_c_gives a_c_rough f_c_startRung f_c_startThings f_c_startStrength f_c_startWind f_c_slips f_c_lines a_c_code f_c_coded f_c_tiresFrom f_c_tiresTo f_c_mayFrom f_c_mayTo, (a_c_bars, .inl (dA 0, 9, .inl b_c_bars)), (a_c_gives, .inl (dA 0, 9, .inl b_c_gives)), (a_c_rough, .inl (dA 0, 9, .inl b_c_rough)), (a_c_code, .inl (dA 0, 900, .inl b_c_code)), zo_X4 a_now f_now_stand f_now_wind f_now_deeds, zo_X4 a_tri f_tri_stand f_tri_wind f_tri_deeds, zo_X2 a_w a_c a_w_told a_w_facts a_w_stack f_w_wind, (a_w_told, .inl (dA 0, 315, .inl b_w_told)), (a_w_facts, .inl (dA 0, 6, .inl b_w_facts)), (a_w_stack, .inl (dA 0, 64, .inl b_w_stack)), zo_X3 a_m a_c a_w a_m_deeds a_m_ends f_m_found, zo_X9 a_q0 f_q0_missing a_q0_numbers f_q0_size f_q0_sort, (a_q0_numbers, .inl (dA 1, 40, .inr (.inl b_q0_numbers)))] s.heap.size = A at hD hZ ⊢
  have hA : ∀ q : Nat, s.heap.size ≤ q → A q := fun q h => by rw [← hAe]; exact Or.inr h
  clear hAe hD0
  have hS : va_S A s.heap s.heap [] := va_S.rf
  have hl := lv_entry ([.ref a_o, .ref a_q0]) (n := 3) (Nat.le_of_ble_eq_true rfl)
  rw [lg_entry_eq]
  generalize (lg_sl ([.ref a_o, .ref a_q0]) ++ List.replicate (3 - (lg_sl ([.ref a_o, .ref a_q0])).length) Slot.unset).toArray = ls at hl ⊢
  have hl : lv_has ls 3 [(0, .ref a_o), (1, .ref a_q0)] := hl
  refine lv_aload_n (pc := 0) hx hb dX10_follow_0 rfl (lv_at hl 0 rfl) ?_
  refine va_get (pc := 1) (D := (dC, dI)) (ci := 11) (v := .ref a_tri) (C := RX10) (T := TX10) (N := 18) hx hb ht zq_layX10 hown hK hP 0 rfl rfl 6 (by decide) (ht _ zq_606) (fun _ h9 => h9) rfl dX10_follow_1 ?_
  refine lv_aload_n (pc := 4) hx hb dX10_follow_4 rfl (lv_at hl 0 rfl) ?_
  refine va_get (pc := 5) (D := (dC, dI)) (ci := 11) (v := .ref a_now) (C := RX10) (T := TX10) (N := 18) hx hb ht zq_layX10 hown hK hP 0 rfl rfl 5 (by decide) (ht _ zq_605) (fun _ h9 => h9) rfl dX10_follow_5 ?_
  obtain ⟨v1, v2, v3, hv1, hf⟩ := zc_3 hf
  refine zx_Vv (pc := 8) (wc := [zo_X4 a_tri f_tri_stand f_tri_wind f_tri_deeds, zo_X4 a_now f_now_stand f_now_wind f_now_deeds]) (wr := [zo_X10 a_o a_tape f_o_taped a_c a_sp a_rd a_now a_tri a_past f_o_undoable a_trays a_ics a_ips a_w a_m a_g a_rw a_sl a_sh, zo_X0 a_c f_c_top f_c_things a_c_bars a_c_gives a_c_rough f_c_startRung f_c_startThings f_c_startStrength f_c_startWind f_c_slips f_c_lines a_c_code f_c_coded f_c_tiresFrom f_c_tiresTo f_c_mayFrom f_c_mayTo, (a_c_bars, .inl (dA 0, 9, .inl b_c_bars)), (a_c_gives, .inl (dA 0, 9, .inl b_c_gives)), (a_c_rough, .inl (dA 0, 9, .inl b_c_rough)), (a_c_code, .inl (dA 0, 900, .inl b_c_code)), zo_X2 a_w a_c a_w_told a_w_facts a_w_stack f_w_wind, (a_w_told, .inl (dA 0, 315, .inl b_w_told)), (a_w_facts, .inl (dA 0, 6, .inl b_w_facts)), (a_w_stack, .inl (dA 0, 64, .inl b_w_stack)), zo_X3 a_m a_c a_w a_m_deeds a_m_ends f_m_found, zo_X9 a_q0 f_q0_missing a_q0_numbers f_q0_size f_q0_sort, (a_q0_numbers, .inl (dA 1, 40, .inr (.inl b_q0_numbers)))]) (w1 := [zo_X4 a_tri v1 v2 v3, zo_X4 a_now f_now_stand f_now_wind f_now_deeds]) (As := [.ref a_now]) (rest := []) ⟨hx, hb, hml, hown, ht⟩ (zt_X4_copyFrom l dC dI dA adK adV _ a_tri a_now f_tri_stand f_tri_wind f_tri_deeds f_now_stand f_now_wind f_now_deeds v1 v2 v3 hv1) (cwV 1 ht (zq_V zq_706 zq_707 zq_708 zq_604 zq_202) rfl rfl rfl zk_X4_copyFrom ⟨Nat.le_of_ble_eq_true rfl, Nat.le_of_ble_eq_true rfl⟩) rfl rfl hZ hK hP hD hS hA [7, 6] [0, 1, 2, 3, 4, 5, 8, 9, 10, 11, 12, 13, 14] (by decide) (by decide) (by decide) rfl rfl rfl hl.1 (Nat.le_of_ble_eq_true rfl) dX10_follow_8 ⟨Nat.zero_le _, Nat.zero_le _⟩ rfl (fun H locs hP hD hS => ?_)
  have hP : va_P (dC, dI) zz_cls [zo_X10 a_o a_tape f_o_taped a_c a_sp a_rd a_now a_tri a_past f_o_undoable a_trays a_ics a_ips a_w a_m a_g a_rw a_sl a_sh, zo_X0 a_c f_c_top f_c_things a_c_bars a_c_gives a_c_rough f_c_startRung f_c_startThings f_c_startStrength f_c_startWind f_c_slips f_c_lines a_c_code f_c_coded f_c_tiresFrom f_c_tiresTo f_c_mayFrom f_c_mayTo, (a_c_bars, .inl (dA 0, 9, .inl b_c_bars)), (a_c_gives, .inl (dA 0, 9, .inl b_c_gives)), (a_c_rough, .inl (dA 0, 9, .inl b_c_rough)), (a_c_code, .inl (dA 0, 900, .inl b_c_code)), zo_X2 a_w a_c a_w_told a_w_facts a_w_stack f_w_wind, (a_w_told, .inl (dA 0, 315, .inl b_w_told)), (a_w_facts, .inl (dA 0, 6, .inl b_w_facts)), (a_w_stack, .inl (dA 0, 64, .inl b_w_stack)), zo_X3 a_m a_c a_w a_m_deeds a_m_ends f_m_found, zo_X9 a_q0 f_q0_missing a_q0_numbers f_q0_size f_q0_sort, (a_q0_numbers, .inl (dA 1, 40, .inr (.inl b_q0_numbers))), zo_X4 a_tri v1 v2 v3, zo_X4 a_now f_now_stand f_now_wind f_now_deeds] H := hP
  have hD : va_D A [zo_X10 a_o a_tape f_o_taped a_c a_sp a_rd a_now a_tri a_past f_o_undoable a_trays a_ics a_ips a_w a_m a_g a_rw a_sl a_sh, zo_X0 a_c f_c_top f_c_things a_c_bars a_c_gives a_c_rough f_c_startRung f_c_startThings f_c_startStrength f_c_startWind f_c_slips f_c_lines a_c_code f_c_coded f_c_tiresFrom f_c_tiresTo f_c_mayFrom f_c_mayTo, (a_c_bars, .inl (dA 0, 9, .inl b_c_bars)), (a_c_gives, .inl (dA 0, 9, .inl b_c_gives)), (a_c_rough, .inl (dA 0, 9, .inl b_c_rough)), (a_c_code, .inl (dA 0, 900, .inl b_c_code)), zo_X2 a_w a_c a_w_told a_w_facts a_w_stack f_w_wind, (a_w_told, .inl (dA 0, 315, .inl b_w_told)), (a_w_facts, .inl (dA 0, 6, .inl b_w_facts)), (a_w_stack, .inl (dA 0, 64, .inl b_w_stack)), zo_X3 a_m a_c a_w a_m_deeds a_m_ends f_m_found, zo_X9 a_q0 f_q0_missing a_q0_numbers f_q0_size f_q0_sort, (a_q0_numbers, .inl (dA 1, 40, .inr (.inl b_q0_numbers))), zo_X4 a_tri v1 v2 v3, zo_X4 a_now f_now_stand f_now_wind f_now_deeds] := hD
  refine lv_iconst (v := (0 : Int32)) (pc := 11) hx hb dX10_follow_11 (by decide) ?_
  refine lv_istore_n (lv' := [(2, .int (0 : Int32)), (0, .ref a_o), (1, .ref a_q0)]) (pc := 12) hx hb dX10_follow_12 rfl hl (by decide) rfl (fun ls hl => ?_)
  obtain ⟨g30, v22, v23, v24, v25, v26, a27, a28, a29, hj, hf⟩ := zc_9 hf
  refine zj_join (pcJ := 43) (stk := []) (X := fun H locs ls => lv_has ls 3 [(2, .int v22)] ∧ va_P (dC, dI) zz_cls [zo_X10 a_o a_tape f_o_taped a_c a_sp a_rd a_now a_tri a_past f_o_undoable a_trays a_ics a_ips a_w a_m a_g a_rw a_sl a_sh, zo_X0 a_c f_c_top f_c_things a_c_bars a_c_gives a_c_rough f_c_startRung f_c_startThings f_c_startStrength f_c_startWind f_c_slips f_c_lines a_c_code f_c_coded f_c_tiresFrom f_c_tiresTo f_c_mayFrom f_c_mayTo, (a_c_bars, .inl (dA 0, 9, .inl b_c_bars)), (a_c_gives, .inl (dA 0, 9, .inl b_c_gives)), (a_c_rough, .inl (dA 0, 9, .inl b_c_rough)), (a_c_code, .inl (dA 0, 900, .inl b_c_code)), zo_X4 a_now f_now_stand f_now_wind f_now_deeds, zo_X4 a_tri v23 v24 v25, zo_X2 a_w a_c a_w_told a_w_facts a_w_stack v26, (a_w_told, .inl (dA 0, 315, .inl a27)), (a_w_facts, .inl (dA 0, 6, .inl a28)), (a_w_stack, .inl (dA 0, 64, .inl a29)), zo_X3 a_m a_c a_w a_m_deeds a_m_ends f_m_found, zo_X9 a_q0 f_q0_missing a_q0_numbers f_q0_size f_q0_sort, (a_q0_numbers, .inl (dA 1, 40, .inr (.inl b_q0_numbers)))] H ∧ va_D A [zo_X10 a_o a_tape f_o_taped a_c a_sp a_rd a_now a_tri a_past f_o_undoable a_trays a_ics a_ips a_w a_m a_g a_rw a_sl a_sh, zo_X0 a_c f_c_top f_c_things a_c_bars a_c_gives a_c_rough f_c_startRung f_c_startThings f_c_startStrength f_c_startWind f_c_slips f_c_lines a_c_code f_c_coded f_c_tiresFrom f_c_tiresTo f_c_mayFrom f_c_mayTo, (a_c_bars, .inl (dA 0, 9, .inl b_c_bars)), (a_c_gives, .inl (dA 0, 9, .inl b_c_gives)), (a_c_rough, .inl (dA 0, 9, .inl b_c_rough)), (a_c_code, .inl (dA 0, 900, .inl b_c_code)), zo_X4 a_now f_now_stand f_now_wind f_now_deeds, zo_X4 a_tri v23 v24 v25, zo_X2 a_w a_c a_w_told a_w_facts a_w_stack v26, (a_w_told, .inl (dA 0, 315, .inl a27)), (a_w_facts, .inl (dA 0, 6, .inl a28)), (a_w_stack, .inl (dA 0, 64, .inl a29)), zo_X3 a_m a_c a_w a_m_deeds a_m_ends f_m_found, zo_X9 a_q0 f_q0_missing a_q0_numbers f_q0_size f_q0_sort, (a_q0_numbers, .inl (dA 1, 40, .inr (.inl b_q0_numbers)))] ∧ va_S A s.heap H locs) (fun H locs ls hX => ?_) (fun E43 => ?_)
  · obtain ⟨hl, hP, hD, hS⟩ := hX
    clear hj
    refine lv_iload_n (pc := 43) hx hb dX10_follow_43 rfl (lv_at hl 0 rfl) ?_
    obtain ⟨rfl, rfl, rfl, rfl, rfl, rfl, rfl, rfl⟩ := zi_8 hf
    exact W.iret (pc := 44) hx hb hr (fun t ht hW => ⟨⟨_, (), rfl, rfl, zz_Bi (by rw [ht]; exact hP) (va_K.moved hW.alike hK) (hD)⟩, hS.F ht⟩) hS.2.2 dX10_follow_44
  clear hf
  refine zw_loop (pcH := 13) (X := fun v H locs ls => lv_has ls 3 [(0, .ref a_o), (1, .ref a_q0), (2, .int v.1)] ∧ va_P (dC, dI) zz_cls [zo_X10 a_o a_tape f_o_taped a_c a_sp a_rd a_now a_tri a_past f_o_undoable a_trays a_ics a_ips a_w a_m a_g a_rw a_sl a_sh, zo_X0 a_c f_c_top f_c_things a_c_bars a_c_gives a_c_rough f_c_startRung f_c_startThings f_c_startStrength f_c_startWind f_c_slips f_c_lines a_c_code f_c_coded f_c_tiresFrom f_c_tiresTo f_c_mayFrom f_c_mayTo, (a_c_bars, .inl (dA 0, 9, .inl b_c_bars)), (a_c_gives, .inl (dA 0, 9, .inl b_c_gives)), (a_c_rough, .inl (dA 0, 9, .inl b_c_rough)), (a_c_code, .inl (dA 0, 900, .inl b_c_code)), zo_X4 a_now f_now_stand f_now_wind f_now_deeds, zo_X4 a_tri v.2.1 v.2.2.1 v.2.2.2.1, zo_X2 a_w a_c a_w_told a_w_facts a_w_stack v.2.2.2.2.1, (a_w_told, .inl (dA 0, 315, .inl v.2.2.2.2.2.1)), (a_w_facts, .inl (dA 0, 6, .inl v.2.2.2.2.2.2.1)), (a_w_stack, .inl (dA 0, 64, .inl v.2.2.2.2.2.2.2)), zo_X3 a_m a_c a_w a_m_deeds a_m_ends f_m_found, zo_X9 a_q0 f_q0_missing a_q0_numbers f_q0_size f_q0_sort, (a_q0_numbers, .inl (dA 1, 40, .inr (.inl b_q0_numbers)))] H ∧ va_D A [zo_X10 a_o a_tape f_o_taped a_c a_sp a_rd a_now a_tri a_past f_o_undoable a_trays a_ics a_ips a_w a_m a_g a_rw a_sl a_sh, zo_X0 a_c f_c_top f_c_things a_c_bars a_c_gives a_c_rough f_c_startRung f_c_startThings f_c_startStrength f_c_startWind f_c_slips f_c_lines a_c_code f_c_coded f_c_tiresFrom f_c_tiresTo f_c_mayFrom f_c_mayTo, (a_c_bars, .inl (dA 0, 9, .inl b_c_bars)), (a_c_gives, .inl (dA 0, 9, .inl b_c_gives)), (a_c_rough, .inl (dA 0, 9, .inl b_c_rough)), (a_c_code, .inl (dA 0, 900, .inl b_c_code)), zo_X4 a_now f_now_stand f_now_wind f_now_deeds, zo_X4 a_tri v.2.1 v.2.2.1 v.2.2.2.1, zo_X2 a_w a_c a_w_told a_w_facts a_w_stack v.2.2.2.2.1, (a_w_told, .inl (dA 0, 315, .inl v.2.2.2.2.2.1)), (a_w_facts, .inl (dA 0, 6, .inl v.2.2.2.2.2.2.1)), (a_w_stack, .inl (dA 0, 64, .inl v.2.2.2.2.2.2.2)), zo_X3 a_m a_c a_w a_m_deeds a_m_ends f_m_found, zo_X9 a_q0 f_q0_missing a_q0_numbers f_q0_size f_q0_sort, (a_q0_numbers, .inl (dA 1, 40, .inr (.inl b_q0_numbers)))] ∧ va_S A s.heap H locs) hj (fun v w hf ih ex H locs ls hX => ?_) _ _ _ ⟨lv_sub hl [1, 2, 0] rfl, hP.sub [0, 1, 2, 3, 4, 5, 14, 13, 6, 7, 8, 9, 10, 11, 12] rfl, hD.sub [0, 1, 2, 3, 4, 5, 14, 13, 6, 7, 8, 9, 10, 11, 12] (by decide) rfl, hS⟩
  clear hj
  obtain ⟨v4, v5, v6, v7, v8, a9, a10, a11⟩ := v
  obtain ⟨hl, hP, hD, hS⟩ := hX
  have hl : lv_has ls 3 [(0, .ref a_o), (1, .ref a_q0), (2, .int v4)] := hl
  have hP : va_P (dC, dI) zz_cls [zo_X10 a_o a_tape f_o_taped a_c a_sp a_rd a_now a_tri a_past f_o_undoable a_trays a_ics a_ips a_w a_m a_g a_rw a_sl a_sh, zo_X0 a_c f_c_top f_c_things a_c_bars a_c_gives a_c_rough f_c_startRung f_c_startThings f_c_startStrength f_c_startWind f_c_slips f_c_lines a_c_code f_c_coded f_c_tiresFrom f_c_tiresTo f_c_mayFrom f_c_mayTo, (a_c_bars, .inl (dA 0, 9, .inl b_c_bars)), (a_c_gives, .inl (dA 0, 9, .inl b_c_gives)), (a_c_rough, .inl (dA 0, 9, .inl b_c_rough)), (a_c_code, .inl (dA 0, 900, .inl b_c_code)), zo_X4 a_now f_now_stand f_now_wind f_now_deeds, zo_X4 a_tri v5 v6 v7, zo_X2 a_w a_c a_w_told a_w_facts a_w_stack v8, (a_w_told, .inl (dA 0, 315, .inl a9)), (a_w_facts, .inl (dA 0, 6, .inl a10)), (a_w_stack, .inl (dA 0, 64, .inl a11)), zo_X3 a_m a_c a_w a_m_deeds a_m_ends f_m_found, zo_X9 a_q0 f_q0_missing a_q0_numbers f_q0_size f_q0_sort, (a_q0_numbers, .inl (dA 1, 40, .inr (.inl b_q0_numbers)))] H := hP
  have hD : va_D A [zo_X10 a_o a_tape f_o_taped a_c a_sp a_rd a_now a_tri a_past f_o_undoable a_trays a_ics a_ips a_w a_m a_g a_rw a_sl a_sh, zo_X0 a_c f_c_top f_c_things a_c_bars a_c_gives a_c_rough f_c_startRung f_c_startThings f_c_startStrength f_c_startWind f_c_slips f_c_lines a_c_code f_c_coded f_c_tiresFrom f_c_tiresTo f_c_mayFrom f_c_mayTo, (a_c_bars, .inl (dA 0, 9, .inl b_c_bars)), (a_c_gives, .inl (dA 0, 9, .inl b_c_gives)), (a_c_rough, .inl (dA 0, 9, .inl b_c_rough)), (a_c_code, .inl (dA 0, 900, .inl b_c_code)), zo_X4 a_now f_now_stand f_now_wind f_now_deeds, zo_X4 a_tri v5 v6 v7, zo_X2 a_w a_c a_w_told a_w_facts a_w_stack v8, (a_w_told, .inl (dA 0, 315, .inl a9)), (a_w_facts, .inl (dA 0, 6, .inl a10)), (a_w_stack, .inl (dA 0, 64, .inl a11)), zo_X3 a_m a_c a_w a_m_deeds a_m_ends f_m_found, zo_X9 a_q0 f_q0_missing a_q0_numbers f_q0_size f_q0_sort, (a_q0_numbers, .inl (dA 1, 40, .inr (.inl b_q0_numbers)))] := hD
  replace hf : zb_X10_follow_13 f_q0_size b_q0_numbers n f_c_top f_c_things f_c_tiresFrom f_c_tiresTo f_c_mayFrom f_c_mayTo b_c_bars b_c_gives b_c_rough b_c_code v4 v5 v6 v7 v8 a9 a10 a11 = some w := hf
  unfold zb_X10_follow_13 at hf
  refine lv_iload_n (pc := 13) hx hb dX10_follow_13 rfl (lv_at hl 2 rfl) ?_
  refine lv_aload_n (pc := 14) hx hb dX10_follow_14 rfl (lv_at hl 1 rfl) ?_
  refine va_get (pc := 15) (D := (dC, dI)) (ci := 10) (v := .int f_q0_size) (C := RX9) (T := TX9) (N := 4) hx hb ht zq_layX9 hown hK hP 13 rfl rfl 2 (by decide) (ht _ zq_725) (fun _ h9 => h9) rfl dX10_follow_15 ?_
  refine lv_icmp_ge (tgt := 43) (pc := 18) hx hb dX10_follow_18 rfl (fun hc => ?_) (fun hc => ?_)
  · have hf := za_t hf hc
    obtain rfl := Option.some.inj hf
    obtain ⟨rfl, rfl, rfl, rfl, rfl, rfl, rfl, rfl, rfl⟩ := zp_9 (ex (show ¬ (1 : Nat) = 0 by decide))
    exact E43 _ _ _ ⟨lv_sub hl [2] rfl, hP, hD, hS⟩
  · have hf := za_f hf hc
    refine lv_aload_n (pc := 21) hx hb dX10_follow_21 rfl (lv_at hl 0 rfl) ?_
    refine lv_aload_n (pc := 22) hx hb dX10_follow_22 rfl (lv_at hl 0 rfl) ?_
    refine va_get (pc := 23) (D := (dC, dI)) (ci := 11) (v := .ref a_tri) (C := RX10) (T := TX10) (N := 18) hx hb ht zq_layX10 hown hK hP 0 rfl rfl 6 (by decide) (ht _ zq_606) (fun _ h9 => h9) rfl dX10_follow_23 ?_
    refine lv_aload_n (pc := 26) hx hb dX10_follow_26 rfl (lv_at hl 1 rfl) ?_
    refine lv_iload_n (pc := 27) hx hb dX10_follow_27 rfl (lv_at hl 2 rfl) ?_
    obtain ⟨v12, hv12, hf⟩ := zc_1 hf
    refine zx_Vi (pc := 28) (wc := [zo_X9 a_q0 f_q0_missing a_q0_numbers f_q0_size f_q0_sort, (a_q0_numbers, .inl (dA 1, 40, .inr (.inl b_q0_numbers)))]) (wr := [zo_X10 a_o a_tape f_o_taped a_c a_sp a_rd a_now a_tri a_past f_o_undoable a_trays a_ics a_ips a_w a_m a_g a_rw a_sl a_sh, zo_X0 a_c f_c_top f_c_things a_c_bars a_c_gives a_c_rough f_c_startRung f_c_startThings f_c_startStrength f_c_startWind f_c_slips f_c_lines a_c_code f_c_coded f_c_tiresFrom f_c_tiresTo f_c_mayFrom f_c_mayTo, (a_c_bars, .inl (dA 0, 9, .inl b_c_bars)), (a_c_gives, .inl (dA 0, 9, .inl b_c_gives)), (a_c_rough, .inl (dA 0, 9, .inl b_c_rough)), (a_c_code, .inl (dA 0, 900, .inl b_c_code)), zo_X4 a_now f_now_stand f_now_wind f_now_deeds, zo_X4 a_tri v5 v6 v7, zo_X2 a_w a_c a_w_told a_w_facts a_w_stack v8, (a_w_told, .inl (dA 0, 315, .inl a9)), (a_w_facts, .inl (dA 0, 6, .inl a10)), (a_w_stack, .inl (dA 0, 64, .inl a11)), zo_X3 a_m a_c a_w a_m_deeds a_m_ends f_m_found]) (w1 := [zo_X9 a_q0 f_q0_missing a_q0_numbers f_q0_size f_q0_sort, (a_q0_numbers, .inl (dA 1, 40, .inr (.inl b_q0_numbers)))]) (As := [.int v4]) (rest := [.ref a_tri, .ref a_o]) ⟨hx, hb, hml, hown, ht⟩ (zt_X9_deedAt l dC dI dA adK adV _ a_q0 a_q0_numbers f_q0_missing f_q0_size f_q0_sort b_q0_numbers v4 v12 hv12) (cwV 1 ht (zq_V zq_726 zq_727 zq_728 zq_623 zq_590) rfl rfl rfl zk_X9_deedAt ⟨Nat.le_of_ble_eq_true rfl, Nat.le_of_ble_eq_true rfl⟩) rfl rfl hZ hK hP hD hS hA [13, 14] [0, 1, 2, 3, 4, 5, 6, 7, 8, 9, 10, 11, 12] (by decide) (by decide) (by decide) rfl rfl rfl hl.1 (Nat.le_of_ble_eq_true rfl) dX10_follow_28 ⟨Nat.zero_le _, Nat.zero_le _⟩ rfl (fun H locs hP hD hS => ?_)
    have hP : va_P (dC, dI) zz_cls [zo_X10 a_o a_tape f_o_taped a_c a_sp a_rd a_now a_tri a_past f_o_undoable a_trays a_ics a_ips a_w a_m a_g a_rw a_sl a_sh, zo_X0 a_c f_c_top f_c_things a_c_bars a_c_gives a_c_rough f_c_startRung f_c_startThings f_c_startStrength f_c_startWind f_c_slips f_c_lines a_c_code f_c_coded f_c_tiresFrom f_c_tiresTo f_c_mayFrom f_c_mayTo, (a_c_bars, .inl (dA 0, 9, .inl b_c_bars)), (a_c_gives, .inl (dA 0, 9, .inl b_c_gives)), (a_c_rough, .inl (dA 0, 9, .inl b_c_rough)), (a_c_code, .inl (dA 0, 900, .inl b_c_code)), zo_X4 a_now f_now_stand f_now_wind f_now_deeds, zo_X4 a_tri v5 v6 v7, zo_X2 a_w a_c a_w_told a_w_facts a_w_stack v8, (a_w_told, .inl (dA 0, 315, .inl a9)), (a_w_facts, .inl (dA 0, 6, .inl a10)), (a_w_stack, .inl (dA 0, 64, .inl a11)), zo_X3 a_m a_c a_w a_m_deeds a_m_ends f_m_found, zo_X9 a_q0 f_q0_missing a_q0_numbers f_q0_size f_q0_sort, (a_q0_numbers, .inl (dA 1, 40, .inr (.inl b_q0_numbers)))] H := hP
    have hD : va_D A [zo_X10 a_o a_tape f_o_taped a_c a_sp a_rd a_now a_tri a_past f_o_undoable a_trays a_ics a_ips a_w a_m a_g a_rw a_sl a_sh, zo_X0 a_c f_c_top f_c_things a_c_bars a_c_gives a_c_rough f_c_startRung f_c_startThings f_c_startStrength f_c_startWind f_c_slips f_c_lines a_c_code f_c_coded f_c_tiresFrom f_c_tiresTo f_c_mayFrom f_c_mayTo, (a_c_bars, .inl (dA 0, 9, .inl b_c_bars)), (a_c_gives, .inl (dA 0, 9, .inl b_c_gives)), (a_c_rough, .inl (dA 0, 9, .inl b_c_rough)), (a_c_code, .inl (dA 0, 900, .inl b_c_code)), zo_X4 a_now f_now_stand f_now_wind f_now_deeds, zo_X4 a_tri v5 v6 v7, zo_X2 a_w a_c a_w_told a_w_facts a_w_stack v8, (a_w_told, .inl (dA 0, 315, .inl a9)), (a_w_facts, .inl (dA 0, 6, .inl a10)), (a_w_stack, .inl (dA 0, 64, .inl a11)), zo_X3 a_m a_c a_w a_m_deeds a_m_ends f_m_found, zo_X9 a_q0 f_q0_missing a_q0_numbers f_q0_size f_q0_sort, (a_q0_numbers, .inl (dA 1, 40, .inr (.inl b_q0_numbers)))] := hD
    obtain ⟨v13, v14, v15, v16, v17, a18, a19, a20, hv13, hf⟩ := zc_8 hf
    refine zx_Vi (pc := 31) (wc := [zo_X10 a_o a_tape f_o_taped a_c a_sp a_rd a_now a_tri a_past f_o_undoable a_trays a_ics a_ips a_w a_m a_g a_rw a_sl a_sh, zo_X0 a_c f_c_top f_c_things a_c_bars a_c_gives a_c_rough f_c_startRung f_c_startThings f_c_startStrength f_c_startWind f_c_slips f_c_lines a_c_code f_c_coded f_c_tiresFrom f_c_tiresTo f_c_mayFrom f_c_mayTo, (a_c_bars, .inl (dA 0, 9, .inl b_c_bars)), (a_c_gives, .inl (dA 0, 9, .inl b_c_gives)), (a_c_rough, .inl (dA 0, 9, .inl b_c_rough)), (a_c_code, .inl (dA 0, 900, .inl b_c_code)), zo_X4 a_tri v5 v6 v7, zo_X2 a_w a_c a_w_told a_w_facts a_w_stack v8, (a_w_told, .inl (dA 0, 315, .inl a9)), (a_w_facts, .inl (dA 0, 6, .inl a10)), (a_w_stack, .inl (dA 0, 64, .inl a11)), zo_X3 a_m a_c a_w a_m_deeds a_m_ends f_m_found]) (wr := [zo_X4 a_now f_now_stand f_now_wind f_now_deeds, zo_X9 a_q0 f_q0_missing a_q0_numbers f_q0_size f_q0_sort, (a_q0_numbers, .inl (dA 1, 40, .inr (.inl b_q0_numbers)))]) (w1 := [zo_X10 a_o a_tape f_o_taped a_c a_sp a_rd a_now a_tri a_past f_o_undoable a_trays a_ics a_ips a_w a_m a_g a_rw a_sl a_sh, zo_X0 a_c f_c_top f_c_things a_c_bars a_c_gives a_c_rough f_c_startRung f_c_startThings f_c_startStrength f_c_startWind f_c_slips f_c_lines a_c_code f_c_coded f_c_tiresFrom f_c_tiresTo f_c_mayFrom f_c_mayTo, (a_c_bars, .inl (dA 0, 9, .inl b_c_bars)), (a_c_gives, .inl (dA 0, 9, .inl b_c_gives)), (a_c_rough, .inl (dA 0, 9, .inl b_c_rough)), (a_c_code, .inl (dA 0, 900, .inl b_c_code)), zo_X4 a_tri v14 v15 v16, zo_X2 a_w a_c a_w_told a_w_facts a_w_stack v17, (a_w_told, .inl (dA 0, 315, .inl a18)), (a_w_facts, .inl (dA 0, 6, .inl a19)), (a_w_stack, .inl (dA 0, 64, .inl a20)), zo_X3 a_m a_c a_w a_m_deeds a_m_ends f_m_found]) (As := [.ref a_tri, .int v12]) (rest := []) ⟨hx, hb, hml, hown, ht⟩ (zt_X10_step l dC dI dA adK adV _ a_o a_tape a_c a_sp a_rd a_now a_tri a_past a_trays a_ics a_ips a_w a_m a_g a_rw a_sl a_sh a_c_bars a_c_gives a_c_rough a_c_code a_w_told a_w_facts a_w_stack a_m_deeds a_m_ends n f_o_taped f_o_undoable f_c_top f_c_things f_c_startRung f_c_startThings f_c_startStrength f_c_startWind f_c_slips f_c_lines f_c_coded f_c_tiresFrom f_c_tiresTo f_c_mayFrom f_c_mayTo v5 v6 v7 v8 f_m_found b_c_bars b_c_gives b_c_rough b_c_code a9 a10 a11 v12 v13 v14 v15 v16 v17 a18 a19 a20 hv13) (cwV 2 ht (zq_V zq_713 zq_714 zq_715 zq_58 zq_704) rfl rfl rfl zk_X10_step ⟨Nat.le_of_ble_eq_true rfl, Nat.le_of_ble_eq_true rfl⟩) rfl rfl hZ hK hP hD hS hA [0, 1, 2, 3, 4, 5, 7, 8, 9, 10, 11, 12] [6, 13, 14] (by decide) (by decide) (by decide) rfl rfl rfl hl.1 (Nat.le_of_ble_eq_true rfl) dX10_follow_31 ⟨Nat.zero_le _, Nat.zero_le _⟩ rfl (fun H locs hP hD hS => ?_)
    have hP : va_P (dC, dI) zz_cls [zo_X4 a_now f_now_stand f_now_wind f_now_deeds, zo_X9 a_q0 f_q0_missing a_q0_numbers f_q0_size f_q0_sort, (a_q0_numbers, .inl (dA 1, 40, .inr (.inl b_q0_numbers))), zo_X10 a_o a_tape f_o_taped a_c a_sp a_rd a_now a_tri a_past f_o_undoable a_trays a_ics a_ips a_w a_m a_g a_rw a_sl a_sh, zo_X0 a_c f_c_top f_c_things a_c_bars a_c_gives a_c_rough f_c_startRung f_c_startThings f_c_startStrength f_c_startWind f_c_slips f_c_lines a_c_code f_c_coded f_c_tiresFrom f_c_tiresTo f_c_mayFrom f_c_mayTo, (a_c_bars, .inl (dA 0, 9, .inl b_c_bars)), (a_c_gives, .inl (dA 0, 9, .inl b_c_gives)), (a_c_rough, .inl (dA 0, 9, .inl b_c_rough)), (a_c_code, .inl (dA 0, 900, .inl b_c_code)), zo_X4 a_tri v14 v15 v16, zo_X2 a_w a_c a_w_told a_w_facts a_w_stack v17, (a_w_told, .inl (dA 0, 315, .inl a18)), (a_w_facts, .inl (dA 0, 6, .inl a19)), (a_w_stack, .inl (dA 0, 64, .inl a20)), zo_X3 a_m a_c a_w a_m_deeds a_m_ends f_m_found] H := hP
    have hD : va_D A [zo_X4 a_now f_now_stand f_now_wind f_now_deeds, zo_X9 a_q0 f_q0_missing a_q0_numbers f_q0_size f_q0_sort, (a_q0_numbers, .inl (dA 1, 40, .inr (.inl b_q0_numbers))), zo_X10 a_o a_tape f_o_taped a_c a_sp a_rd a_now a_tri a_past f_o_undoable a_trays a_ics a_ips a_w a_m a_g a_rw a_sl a_sh, zo_X0 a_c f_c_top f_c_things a_c_bars a_c_gives a_c_rough f_c_startRung f_c_startThings f_c_startStrength f_c_startWind f_c_slips f_c_lines a_c_code f_c_coded f_c_tiresFrom f_c_tiresTo f_c_mayFrom f_c_mayTo, (a_c_bars, .inl (dA 0, 9, .inl b_c_bars)), (a_c_gives, .inl (dA 0, 9, .inl b_c_gives)), (a_c_rough, .inl (dA 0, 9, .inl b_c_rough)), (a_c_code, .inl (dA 0, 900, .inl b_c_code)), zo_X4 a_tri v14 v15 v16, zo_X2 a_w a_c a_w_told a_w_facts a_w_stack v17, (a_w_told, .inl (dA 0, 315, .inl a18)), (a_w_facts, .inl (dA 0, 6, .inl a19)), (a_w_stack, .inl (dA 0, 64, .inl a20)), zo_X3 a_m a_c a_w a_m_deeds a_m_ends f_m_found] := hD
    refine lv_if_ne (tgt := 43) (pc := 34) hx hb dX10_follow_34 rfl (fun hc => ?_) (fun hc => ?_)
    · have hf := za_f hf hc
      obtain rfl := Option.some.inj hf
      obtain ⟨rfl, rfl, rfl, rfl, rfl, rfl, rfl, rfl, rfl⟩ := zp_9 (ex (show ¬ (1 : Nat) = 0 by decide))
      exact E43 _ _ _ ⟨lv_sub hl [2] rfl, hP.sub [3, 4, 5, 6, 7, 8, 0, 9, 10, 11, 12, 13, 14, 1, 2] rfl, hD.sub [3, 4, 5, 6, 7, 8, 0, 9, 10, 11, 12, 13, 14, 1, 2] (by decide) rfl, hS⟩
    · have hf := za_t hf hc
      obtain ⟨v21, hv21, hf⟩ := zc_1 hf
      refine lv_iinc (v := v21) (lv' := [(2, .int v21), (0, .ref a_o), (1, .ref a_q0)]) (k := 2) (pc := 37) hx hb dX10_follow_37 hl rfl (Option.some.inj hv21) (by decide) rfl (fun ls hl => ?_)
      refine lv_goto (tgt := 13) (pc := 40) hx hb dX10_follow_40 rfl ?_
      obtain rfl := Option.some.inj hf
      exact ih rfl _ _ _ ⟨lv_sub hl [1, 2, 0] rfl, hP.sub [3, 4, 5, 6, 7, 8, 0, 9, 10, 11, 12, 13, 14, 1, 2] rfl, hD.sub [3, 4, 5, 6, 7, 8, 0, 9, 10, 11, 12, 13, 14, 1, 2] (by decide) rfl, hS⟩

def zf_X10_isTray (p0 : Int32) : Option (Int32) :=
  if p0 < 0 then
    some (0 : Int32)
  else
    if (4 : Int32) ≤ p0 then
      some (0 : Int32)
    else
      some (1 : Int32)
theorem zk_X10_isTray : yX10_isTray.cls = RX10 ∧ yX10_isTray.cls ≠ "java/lang/invoke/MethodHandle" ∧ yX10_isTray.cls ≠ "java/lang/invoke/VarHandle" ∧ (parseMethodDescriptor yX10_isTray.desc).map (fun d => d.parameters.length) = some 1 := by decide +kernel
set_option maxHeartbeats 4000000 in
set_option maxRecDepth 100000 in
theorem zt_X10_isTray (l : Launch) (dC : Nat → ClassId) (dI : Nat → Nat → Nat) (dA : Nat → ClassId) (adK adV : Nat → Nat) (sz : Nat) (p0 : Int32) (r0 : Int32) (hf : zf_X10_isTray p0 = some r0) : Met l yX10_isTray (.code yX10_isTray cX10_isTray 1 (some .boolean) :: zq_T) ({ frames := 0, cells := 0, slots := 0, locals := 0 }) (va_Pc [.int p0] (zx_M dC dI dA adK adV [] sz)) (va_Qi (fun (r : Int32) (_ : Unit) => r = r0) (fun _ t => zz_B dC dI dA (va_A [] sz) [] t) (va_A [] sz)) 0 0 (va_A [] sz) := by
  unfold zf_X10_isTray at hf
  refine Met.ofW (cc := cX10_isTray) (maxL := 1) (ret := (some .boolean)) (by decide) rfl ?_
  intro p e s m args below meth c s₁ B hml hv
  obtain ⟨rfl, ⟨hsz, hP, hK, hD0⟩, hZ⟩ := hv
  have hx := B.exec
  have hb := B.bytes
  have hr := B.returns
  have ht : ∀ w ∈ zq_T, w.before ([.int p0] : List Value).toArray s = true := fun w hw => atoms_spec (ws := .code yX10_isTray cX10_isTray 1 (some .boolean) :: zq_T) B.pre w (List.mem_cons_of_mem _ hw)
  have hown : s.vm.findClass RX10 = some m.cls := findClass_of_methodNamed B.named
  have hlocks := B.notSynchronized
  subst hsz
  have hD := hD0.self (sz := s.heap.size)
  generalize hAe : va_A [] s.heap.size = A at hD hZ ⊢
  have hA : ∀ q : Nat, s.heap.size ≤ q → A q := fun q h => by rw [← hAe]; exact Or.inr h
  clear hAe hD0
  have hS : va_S A s.heap s.heap [] := va_S.rf
  have hl := lv_entry ([.int p0]) (n := 1) (Nat.le_of_ble_eq_true rfl)
  rw [lg_entry_eq]
  generalize (lg_sl ([.int p0]) ++ List.replicate (1 - (lg_sl ([.int p0])).length) Slot.unset).toArray = ls at hl ⊢
  have hl : lv_has ls 1 [(0, .int p0)] := hl
  refine lv_iload_n (pc := 0) hx hb dX10_isTray_0 rfl (lv_at hl 0 rfl) ?_
  refine lv_if_lt (tgt := 13) (pc := 1) hx hb dX10_isTray_1 rfl (fun hc => ?_) (fun hc => ?_)
  · have hf := za_t hf hc
    refine lv_iconst (v := (0 : Int32)) (pc := 13) hx hb dX10_isTray_13 (by decide) ?_
    obtain rfl := Option.some.inj hf
    exact W.zret (pc := 14) hx hb hr rfl (fun t ht hW => ⟨⟨_, (), rfl, rfl, zz_Bi (by rw [ht]; exact hP) (va_K.moved hW.alike hK) (hD)⟩, hS.F ht⟩) hS.2.2 dX10_isTray_14
  · have hf := za_f hf hc
    refine lv_iload_n (pc := 4) hx hb dX10_isTray_4 rfl (lv_at hl 0 rfl) ?_
    refine lv_iconst (v := (4 : Int32)) (pc := 5) hx hb dX10_isTray_5 (by decide) ?_
    refine lv_icmp_ge (tgt := 13) (pc := 6) hx hb dX10_isTray_6 rfl (fun hc => ?_) (fun hc => ?_)
    · have hf := za_t hf hc
      refine lv_iconst (v := (0 : Int32)) (pc := 13) hx hb dX10_isTray_13 (by decide) ?_
      obtain rfl := Option.some.inj hf
      exact W.zret (pc := 14) hx hb hr rfl (fun t ht hW => ⟨⟨_, (), rfl, rfl, zz_Bi (by rw [ht]; exact hP) (va_K.moved hW.alike hK) (hD)⟩, hS.F ht⟩) hS.2.2 dX10_isTray_14
    · have hf := za_f hf hc
      refine lv_iconst (v := (1 : Int32)) (pc := 9) hx hb dX10_isTray_9 (by decide) ?_
      refine lv_goto (tgt := 14) (pc := 10) hx hb dX10_isTray_10 rfl ?_
      obtain rfl := Option.some.inj hf
      exact W.zret (pc := 14) hx hb hr rfl (fun t ht hW => ⟨⟨_, (), rfl, rfl, zz_Bi (by rw [ht]; exact hP) (va_K.moved hW.alike hK) (hD)⟩, hS.F ht⟩) hS.2.2 dX10_isTray_14

def zf_X10_drawnDeed (p0 : Int32) (p1 : Int32) : Option (Int32) :=
  if p0 = 0 then
    some (0 : Int32)
  else
    if (3 : Int32) < p0 then
      if p0 = (4 : Int32) then
        some (2 : Int32)
      else
        if p0 = (5 : Int32) then
          some ((10 : Int32) + p1)
        else
          some ((20 : Int32) + p1)
    else
      some (1 : Int32)
theorem zk_X10_drawnDeed : yX10_drawnDeed.cls = RX10 ∧ yX10_drawnDeed.cls ≠ "java/lang/invoke/MethodHandle" ∧ yX10_drawnDeed.cls ≠ "java/lang/invoke/VarHandle" ∧ (parseMethodDescriptor yX10_drawnDeed.desc).map (fun d => d.parameters.length) = some 2 := by decide +kernel
set_option maxHeartbeats 4000000 in
set_option maxRecDepth 100000 in
theorem zt_X10_drawnDeed (l : Launch) (dC : Nat → ClassId) (dI : Nat → Nat → Nat) (dA : Nat → ClassId) (adK adV : Nat → Nat) (sz : Nat) (p0 : Int32) (p1 : Int32) (r0 : Int32) (hf : zf_X10_drawnDeed p0 p1 = some r0) : Met l yX10_drawnDeed (.code yX10_drawnDeed cX10_drawnDeed 2 (some .int) :: zq_T) ({ frames := 0, cells := 0, slots := 0, locals := 0 }) (va_Pc [.int p0, .int p1] (zx_M dC dI dA adK adV [] sz)) (va_Qi (fun (r : Int32) (_ : Unit) => r = r0) (fun _ t => zz_B dC dI dA (va_A [] sz) [] t) (va_A [] sz)) 0 0 (va_A [] sz) := by
  unfold zf_X10_drawnDeed at hf
  refine Met.ofW (cc := cX10_drawnDeed) (maxL := 2) (ret := (some .int)) (by decide) rfl ?_
  intro p e s m args below meth c s₁ B hml hv
  obtain ⟨rfl, ⟨hsz, hP, hK, hD0⟩, hZ⟩ := hv
  have hx := B.exec
  have hb := B.bytes
  have hr := B.returns
  have ht : ∀ w ∈ zq_T, w.before ([.int p0, .int p1] : List Value).toArray s = true := fun w hw => atoms_spec (ws := .code yX10_drawnDeed cX10_drawnDeed 2 (some .int) :: zq_T) B.pre w (List.mem_cons_of_mem _ hw)
  have hown : s.vm.findClass RX10 = some m.cls := findClass_of_methodNamed B.named
  have hlocks := B.notSynchronized
  subst hsz
  have hD := hD0.self (sz := s.heap.size)
  generalize hAe : va_A [] s.heap.size = A at hD hZ ⊢
  have hA : ∀ q : Nat, s.heap.size ≤ q → A q := fun q h => by rw [← hAe]; exact Or.inr h
  clear hAe hD0
  have hS : va_S A s.heap s.heap [] := va_S.rf
  have hl := lv_entry ([.int p0, .int p1]) (n := 2) (Nat.le_of_ble_eq_true rfl)
  rw [lg_entry_eq]
  generalize (lg_sl ([.int p0, .int p1]) ++ List.replicate (2 - (lg_sl ([.int p0, .int p1])).length) Slot.unset).toArray = ls at hl ⊢
  have hl : lv_has ls 2 [(0, .int p0), (1, .int p1)] := hl
  refine lv_iload_n (pc := 0) hx hb dX10_drawnDeed_0 rfl (lv_at hl 0 rfl) ?_
  refine lv_if_ne (tgt := 6) (pc := 1) hx hb dX10_drawnDeed_1 rfl (fun hc => ?_) (fun hc => ?_)
  · have hf := za_f hf hc
    refine lv_iload_n (pc := 6) hx hb dX10_drawnDeed_6 rfl (lv_at hl 0 rfl) ?_
    refine lv_iconst (v := (3 : Int32)) (pc := 7) hx hb dX10_drawnDeed_7 (by decide) ?_
    refine lv_icmp_gt (tgt := 13) (pc := 8) hx hb dX10_drawnDeed_8 rfl (fun hc => ?_) (fun hc => ?_)
    · have hf := za_t hf hc
      refine lv_iload_n (pc := 13) hx hb dX10_drawnDeed_13 rfl (lv_at hl 0 rfl) ?_
      refine lv_iconst (v := (4 : Int32)) (pc := 14) hx hb dX10_drawnDeed_14 (by decide) ?_
      refine lv_icmp_ne (tgt := 20) (pc := 15) hx hb dX10_drawnDeed_15 rfl (fun hc => ?_) (fun hc => ?_)
      · have hf := za_f hf hc
        refine lv_iload_n (pc := 20) hx hb dX10_drawnDeed_20 rfl (lv_at hl 0 rfl) ?_
        refine lv_iconst (v := (5 : Int32)) (pc := 21) hx hb dX10_drawnDeed_21 (by decide) ?_
        refine lv_icmp_ne (tgt := 32) (pc := 22) hx hb dX10_drawnDeed_22 rfl (fun hc => ?_) (fun hc => ?_)
        · have hf := za_f hf hc
          refine lv_bipush (v := (20 : Int32)) (pc := 32) hx hb dX10_drawnDeed_32 (by decide) ?_
          refine lv_iload_n (pc := 34) hx hb dX10_drawnDeed_34 rfl (lv_at hl 1 rfl) ?_
          refine lv_iadd (pc := 35) hx hb dX10_drawnDeed_35 ?_
          obtain rfl := Option.some.inj hf
          exact W.iret (pc := 36) hx hb hr (fun t ht hW => ⟨⟨_, (), rfl, rfl, zz_Bi (by rw [ht]; exact hP) (va_K.moved hW.alike hK) (hD)⟩, hS.F ht⟩) hS.2.2 dX10_drawnDeed_36
        · have hf := za_t hf hc
          refine lv_bipush (v := (10 : Int32)) (pc := 25) hx hb dX10_drawnDeed_25 (by decide) ?_
          refine lv_iload_n (pc := 27) hx hb dX10_drawnDeed_27 rfl (lv_at hl 1 rfl) ?_
          refine lv_iadd (pc := 28) hx hb dX10_drawnDeed_28 ?_
          refine lv_goto (tgt := 36) (pc := 29) hx hb dX10_drawnDeed_29 rfl ?_
          obtain rfl := Option.some.inj hf
          exact W.iret (pc := 36) hx hb hr (fun t ht hW => ⟨⟨_, (), rfl, rfl, zz_Bi (by rw [ht]; exact hP) (va_K.moved hW.alike hK) (hD)⟩, hS.F ht⟩) hS.2.2 dX10_drawnDeed_36
      · have hf := za_t hf hc
        refine lv_iconst (v := (2 : Int32)) (pc := 18) hx hb dX10_drawnDeed_18 (by decide) ?_
        obtain rfl := Option.some.inj hf
        exact W.iret (pc := 19) hx hb hr (fun t ht hW => ⟨⟨_, (), rfl, rfl, zz_Bi (by rw [ht]; exact hP) (va_K.moved hW.alike hK) (hD)⟩, hS.F ht⟩) hS.2.2 dX10_drawnDeed_19
    · have hf := za_f hf hc
      refine lv_iconst (v := (1 : Int32)) (pc := 11) hx hb dX10_drawnDeed_11 (by decide) ?_
      obtain rfl := Option.some.inj hf
      exact W.iret (pc := 12) hx hb hr (fun t ht hW => ⟨⟨_, (), rfl, rfl, zz_Bi (by rw [ht]; exact hP) (va_K.moved hW.alike hK) (hD)⟩, hS.F ht⟩) hS.2.2 dX10_drawnDeed_12
  · have hf := za_t hf hc
    refine lv_iconst (v := (0 : Int32)) (pc := 4) hx hb dX10_drawnDeed_4 (by decide) ?_
    obtain rfl := Option.some.inj hf
    exact W.iret (pc := 5) hx hb hr (fun t ht hW => ⟨⟨_, (), rfl, rfl, zz_Bi (by rw [ht]; exact hP) (va_K.moved hW.alike hK) (hD)⟩, hS.F ht⟩) hS.2.2 dX10_drawnDeed_5

def zf_X10_nextSeed (p0 : Int32) : Option (Int32) :=
  some (((1103515245 : Int32) * p0) + (12345 : Int32))
theorem zk_X10_nextSeed : yX10_nextSeed.cls = RX10 ∧ yX10_nextSeed.cls ≠ "java/lang/invoke/MethodHandle" ∧ yX10_nextSeed.cls ≠ "java/lang/invoke/VarHandle" ∧ (parseMethodDescriptor yX10_nextSeed.desc).map (fun d => d.parameters.length) = some 1 := by decide +kernel
set_option maxHeartbeats 4000000 in
set_option maxRecDepth 100000 in
theorem zt_X10_nextSeed (l : Launch) (dC : Nat → ClassId) (dI : Nat → Nat → Nat) (dA : Nat → ClassId) (adK adV : Nat → Nat) (sz : Nat) (p0 : Int32) (r0 : Int32) (hf : zf_X10_nextSeed p0 = some r0) : Met l yX10_nextSeed (.code yX10_nextSeed cX10_nextSeed 1 (some .int) :: zq_T) ({ frames := 0, cells := 0, slots := 0, locals := 0 }) (va_Pc [.int p0] (zx_M dC dI dA adK adV [] sz)) (va_Qi (fun (r : Int32) (_ : Unit) => r = r0) (fun _ t => zz_B dC dI dA (va_A [] sz) [] t) (va_A [] sz)) 0 0 (va_A [] sz) := by
  unfold zf_X10_nextSeed at hf
  refine Met.ofW (cc := cX10_nextSeed) (maxL := 1) (ret := (some .int)) (by decide) rfl ?_
  intro p e s m args below meth c s₁ B hml hv
  obtain ⟨rfl, ⟨hsz, hP, hK, hD0⟩, hZ⟩ := hv
  have hx := B.exec
  have hb := B.bytes
  have hr := B.returns
  have ht : ∀ w ∈ zq_T, w.before ([.int p0] : List Value).toArray s = true := fun w hw => atoms_spec (ws := .code yX10_nextSeed cX10_nextSeed 1 (some .int) :: zq_T) B.pre w (List.mem_cons_of_mem _ hw)
  have hown : s.vm.findClass RX10 = some m.cls := findClass_of_methodNamed B.named
  have hlocks := B.notSynchronized
  subst hsz
  have hD := hD0.self (sz := s.heap.size)
  generalize hAe : va_A [] s.heap.size = A at hD hZ ⊢
  have hA : ∀ q : Nat, s.heap.size ≤ q → A q := fun q h => by rw [← hAe]; exact Or.inr h
  clear hAe hD0
  have hS : va_S A s.heap s.heap [] := va_S.rf
  have hl := lv_entry ([.int p0]) (n := 1) (Nat.le_of_ble_eq_true rfl)
  rw [lg_entry_eq]
  generalize (lg_sl ([.int p0]) ++ List.replicate (1 - (lg_sl ([.int p0])).length) Slot.unset).toArray = ls at hl ⊢
  have hl : lv_has ls 1 [(0, .int p0)] := hl
  refine lv_ldc (v := (1103515245 : Int32)) (pc := 0) hx hb hown (ht _ zq_743) dX10_nextSeed_0 ?_
  refine lv_iload_n (pc := 2) hx hb dX10_nextSeed_2 rfl (lv_at hl 0 rfl) ?_
  refine lv_imul (pc := 3) hx hb dX10_nextSeed_3 ?_
  refine lv_sipush (v := (12345 : Int32)) (pc := 4) hx hb dX10_nextSeed_4 (by decide) ?_
  refine lv_iadd (pc := 7) hx hb dX10_nextSeed_7 ?_
  obtain rfl := Option.some.inj hf
  exact W.iret (pc := 8) hx hb hr (fun t ht hW => ⟨⟨_, (), rfl, rfl, zz_Bi (by rw [ht]; exact hP) (va_K.moved hW.alike hK) (hD)⟩, hS.F ht⟩) hS.2.2 dX10_nextSeed_8

def zf_X10_comingRefused (f_c_top : Int32) (f_c_things : Int32) (p1 : Int32) (p2 : Int32) : Option (Int32) :=
  zd_1 (zf_X0_isRung f_c_top p1) (fun v1 =>
  if v1 = 0 then
    some (-2 : Int32)
  else
    zd_1 (zf_X0_isSet f_c_things p2) (fun v2 =>
    if v2 = 0 then
      some (-3 : Int32)
    else
      some (0 : Int32)))
theorem zk_X10_comingRefused : yX10_comingRefused.cls = RX10 ∧ yX10_comingRefused.cls ≠ "java/lang/invoke/MethodHandle" ∧ yX10_comingRefused.cls ≠ "java/lang/invoke/VarHandle" ∧ (parseMethodDescriptor yX10_comingRefused.desc).map (fun d => d.parameters.length) = some 2 := by decide +kernel
set_option maxHeartbeats 4000000 in
set_option maxRecDepth 100000 in
theorem zt_X10_comingRefused (l : Launch) (dC : Nat → ClassId) (dI : Nat → Nat → Nat) (dA : Nat → ClassId) (adK adV : Nat → Nat) (sz : Nat) (a_o : Nat) (a_tape : Nat) (a_c : Nat) (a_sp : Nat) (a_rd : Nat) (a_now : Nat) (a_tri : Nat) (a_past : Nat) (a_trays : Nat) (a_ics : Nat) (a_ips : Nat) (a_w : Nat) (a_m : Nat) (a_g : Nat) (a_rw : Nat) (a_sl : Nat) (a_sh : Nat) (a_c_bars : Nat) (a_c_gives : Nat) (a_c_rough : Nat) (a_c_code : Nat) (f_o_taped : Int32) (f_o_undoable : Int32) (f_c_top : Int32) (f_c_things : Int32) (f_c_startRung : Int32) (f_c_startThings : Int32) (f_c_startStrength : Int32) (f_c_startWind : Int32) (f_c_slips : Int32) (f_c_lines : Int32) (f_c_coded : Int32) (f_c_tiresFrom : Int32) (f_c_tiresTo : Int32) (f_c_mayFrom : Int32) (f_c_mayTo : Int32) (p1 : Int32) (p2 : Int32) (r0 : Int32) (hf : zf_X10_comingRefused f_c_top f_c_things p1 p2 = some r0) : Met l yX10_comingRefused (.code yX10_comingRefused cX10_comingRefused 3 (some .int) :: zq_T) ({ frames := 1, cells := 0, slots := 0, locals := 21 }) (va_Pc [.ref a_o, .int p1, .int p2] (zx_M dC dI dA adK adV [zo_X10 a_o a_tape f_o_taped a_c a_sp a_rd a_now a_tri a_past f_o_undoable a_trays a_ics a_ips a_w a_m a_g a_rw a_sl a_sh, zo_X0 a_c f_c_top f_c_things a_c_bars a_c_gives a_c_rough f_c_startRung f_c_startThings f_c_startStrength f_c_startWind f_c_slips f_c_lines a_c_code f_c_coded f_c_tiresFrom f_c_tiresTo f_c_mayFrom f_c_mayTo] sz)) (va_Qi (fun (r : Int32) (_ : Unit) => r = r0) (fun _ t => zz_B dC dI dA (va_A [zo_X10 a_o a_tape f_o_taped a_c a_sp a_rd a_now a_tri a_past f_o_undoable a_trays a_ics a_ips a_w a_m a_g a_rw a_sl a_sh, zo_X0 a_c f_c_top f_c_things a_c_bars a_c_gives a_c_rough f_c_startRung f_c_startThings f_c_startStrength f_c_startWind f_c_slips f_c_lines a_c_code f_c_coded f_c_tiresFrom f_c_tiresTo f_c_mayFrom f_c_mayTo] sz) [zo_X10 a_o a_tape f_o_taped a_c a_sp a_rd a_now a_tri a_past f_o_undoable a_trays a_ics a_ips a_w a_m a_g a_rw a_sl a_sh, zo_X0 a_c f_c_top f_c_things a_c_bars a_c_gives a_c_rough f_c_startRung f_c_startThings f_c_startStrength f_c_startWind f_c_slips f_c_lines a_c_code f_c_coded f_c_tiresFrom f_c_tiresTo f_c_mayFrom f_c_mayTo] t) (va_A [zo_X10 a_o a_tape f_o_taped a_c a_sp a_rd a_now a_tri a_past f_o_undoable a_trays a_ics a_ips a_w a_m a_g a_rw a_sl a_sh, zo_X0 a_c f_c_top f_c_things a_c_bars a_c_gives a_c_rough f_c_startRung f_c_startThings f_c_startStrength f_c_startWind f_c_slips f_c_lines a_c_code f_c_coded f_c_tiresFrom f_c_tiresTo f_c_mayFrom f_c_mayTo] sz)) 0 0 (va_A [zo_X10 a_o a_tape f_o_taped a_c a_sp a_rd a_now a_tri a_past f_o_undoable a_trays a_ics a_ips a_w a_m a_g a_rw a_sl a_sh, zo_X0 a_c f_c_top f_c_things a_c_bars a_c_gives a_c_rough f_c_startRung f_c_startThings f_c_startStrength f_c_startWind f_c_slips f_c_lines a_c_code f_c_coded f_c_tiresFrom f_c_tiresTo f_c_mayFrom f_c_mayTo] sz) := by
  unfold zf_X10_comingRefused at hf
  refine Met.ofW (cc := cX10_comingRefused) (maxL := 3) (ret := (some .int)) (by decide) rfl ?_
  intro p e s m args below meth c s₁ B hml hv
  obtain ⟨rfl, ⟨hsz, hP, hK, hD0⟩, hZ⟩ := hv
  have hx := B.exec
  have hb := B.bytes
  have hr := B.returns
  have ht : ∀ w ∈ zq_T, w.before ([.ref a_o, .int p1, .int p2] : List Value).toArray s = true := fun w hw => atoms_spec (ws := .code yX10_comingRefused cX10_comingRefused 3 (some .int) :: zq_T) B.pre w (List.mem_cons_of_mem _ hw)
  have hown : s.vm.findClass RX10 = some m.cls := findClass_of_methodNamed B.named
  have hlocks := B.notSynchronized
  subst hsz
  have hD := hD0.self (sz := s.heap.size)
  generalize hAe : va_A [zo_X10 a_o a_tape f_o_taped a_c a_sp a_rd a_now a_tri a_past f_o_undoable a_trays a_ics a_ips a_w a_m a_g a_rw a_sl a_sh, zo_X0 a_c f_c_top f_c_things a_c_bars a_c_gives a_c_rough f_c_startRung f_c_startThings f_c_startStrength f_c_startWind f_c_slips f_c_lines a_c_code f_c_coded f_c_tiresFrom f_c_tiresTo f_c_mayFrom f_c_mayTo] s.heap.size = A at hD hZ ⊢
  have hA : ∀ q : Nat, s.heap.size ≤ q → A q := fun q h => by rw [← hAe]; exact Or.inr h
  clear hAe hD0
  have hS : va_S A s.heap s.heap [] := va_S.rf
  have hl := lv_entry ([.ref a_o, .int p1, .int p2]) (n := 3) (Nat.le_of_ble_eq_true rfl)
  rw [lg_entry_eq]
  generalize (lg_sl ([.ref a_o, .int p1, .int p2]) ++ List.replicate (3 - (lg_sl ([.ref a_o, .int p1, .int p2])).length) Slot.unset).toArray = ls at hl ⊢
  have hl : lv_has ls 3 [(0, .ref a_o), (1, .int p1), (2, .int p2)] := hl
  refine lv_aload_n (pc := 0) hx hb dX10_comingRefused_0 rfl (lv_at hl 0 rfl) ?_
  refine va_get (pc := 1) (D := (dC, dI)) (ci := 11) (v := .ref a_c) (C := RX10) (T := TX10) (N := 18) hx hb ht zq_layX10 hown hK hP 0 rfl rfl 2 (by decide) (ht _ zq_597) (fun _ h9 => h9) rfl dX10_comingRefused_1 ?_
  refine lv_iload_n (pc := 4) hx hb dX10_comingRefused_4 rfl (lv_at hl 1 rfl) ?_
  obtain ⟨v1, hv1, hf⟩ := zc_1 hf
  refine zx_Vi (pc := 5) (wc := [zo_X0 a_c f_c_top f_c_things a_c_bars a_c_gives a_c_rough f_c_startRung f_c_startThings f_c_startStrength f_c_startWind f_c_slips f_c_lines a_c_code f_c_coded f_c_tiresFrom f_c_tiresTo f_c_mayFrom f_c_mayTo]) (wr := [zo_X10 a_o a_tape f_o_taped a_c a_sp a_rd a_now a_tri a_past f_o_undoable a_trays a_ics a_ips a_w a_m a_g a_rw a_sl a_sh]) (w1 := [zo_X0 a_c f_c_top f_c_things a_c_bars a_c_gives a_c_rough f_c_startRung f_c_startThings f_c_startStrength f_c_startWind f_c_slips f_c_lines a_c_code f_c_coded f_c_tiresFrom f_c_tiresTo f_c_mayFrom f_c_mayTo]) (As := [.int p1]) (rest := []) ⟨hx, hb, hml, hown, ht⟩ (zt_X0_isRung l dC dI dA adK adV _ a_c a_c_bars a_c_gives a_c_rough a_c_code f_c_top f_c_things f_c_startRung f_c_startThings f_c_startStrength f_c_startWind f_c_slips f_c_lines f_c_coded f_c_tiresFrom f_c_tiresTo f_c_mayFrom f_c_mayTo p1 v1 hv1) (cwV 1 ht (zq_V zq_691 zq_75 zq_76 zq_77 zq_32) rfl rfl rfl zk_X0_isRung ⟨Nat.le_of_ble_eq_true rfl, Nat.le_of_ble_eq_true rfl⟩) rfl rfl hZ hK hP hD hS hA [1] [0] (by decide) (by decide) (by decide) rfl rfl rfl hl.1 (Nat.le_of_ble_eq_true rfl) dX10_comingRefused_5 ⟨Nat.zero_le _, Nat.zero_le _⟩ rfl (fun H locs hP hD hS => ?_)
  have hP : va_P (dC, dI) zz_cls [zo_X10 a_o a_tape f_o_taped a_c a_sp a_rd a_now a_tri a_past f_o_undoable a_trays a_ics a_ips a_w a_m a_g a_rw a_sl a_sh, zo_X0 a_c f_c_top f_c_things a_c_bars a_c_gives a_c_rough f_c_startRung f_c_startThings f_c_startStrength f_c_startWind f_c_slips f_c_lines a_c_code f_c_coded f_c_tiresFrom f_c_tiresTo f_c_mayFrom f_c_mayTo] H := hP
  have hD : va_D A [zo_X10 a_o a_tape f_o_taped a_c a_sp a_rd a_now a_tri a_past f_o_undoable a_trays a_ics a_ips a_w a_m a_g a_rw a_sl a_sh, zo_X0 a_c f_c_top f_c_things a_c_bars a_c_gives a_c_rough f_c_startRung f_c_startThings f_c_startStrength f_c_startWind f_c_slips f_c_lines a_c_code f_c_coded f_c_tiresFrom f_c_tiresTo f_c_mayFrom f_c_mayTo] := hD
  refine lv_if_ne (tgt := 14) (pc := 8) hx hb dX10_comingRefused_8 rfl (fun hc => ?_) (fun hc => ?_)
  · have hf := za_f hf hc
    refine lv_aload_n (pc := 14) hx hb dX10_comingRefused_14 rfl (lv_at hl 0 rfl) ?_
    refine va_get (pc := 15) (D := (dC, dI)) (ci := 11) (v := .ref a_c) (C := RX10) (T := TX10) (N := 18) hx hb ht zq_layX10 hown hK hP 0 rfl rfl 2 (by decide) (ht _ zq_597) (fun _ h9 => h9) rfl dX10_comingRefused_15 ?_
    refine lv_iload_n (pc := 18) hx hb dX10_comingRefused_18 rfl (lv_at hl 2 rfl) ?_
    obtain ⟨v2, hv2, hf⟩ := zc_1 hf
    refine zx_Vi (pc := 19) (wc := [zo_X0 a_c f_c_top f_c_things a_c_bars a_c_gives a_c_rough f_c_startRung f_c_startThings f_c_startStrength f_c_startWind f_c_slips f_c_lines a_c_code f_c_coded f_c_tiresFrom f_c_tiresTo f_c_mayFrom f_c_mayTo]) (wr := [zo_X10 a_o a_tape f_o_taped a_c a_sp a_rd a_now a_tri a_past f_o_undoable a_trays a_ics a_ips a_w a_m a_g a_rw a_sl a_sh]) (w1 := [zo_X0 a_c f_c_top f_c_things a_c_bars a_c_gives a_c_rough f_c_startRung f_c_startThings f_c_startStrength f_c_startWind f_c_slips f_c_lines a_c_code f_c_coded f_c_tiresFrom f_c_tiresTo f_c_mayFrom f_c_mayTo]) (As := [.int p2]) (rest := []) ⟨hx, hb, hml, hown, ht⟩ (zt_X0_isSet l dC dI dA adK adV _ a_c a_c_bars a_c_gives a_c_rough a_c_code f_c_top f_c_things f_c_startRung f_c_startThings f_c_startStrength f_c_startWind f_c_slips f_c_lines f_c_coded f_c_tiresFrom f_c_tiresTo f_c_mayFrom f_c_mayTo p2 v2 hv2) (cwV 1 ht (zq_V zq_751 zq_752 zq_753 zq_77 zq_34) rfl rfl rfl zk_X0_isSet ⟨Nat.le_of_ble_eq_true rfl, Nat.le_of_ble_eq_true rfl⟩) rfl rfl hZ hK hP hD hS hA [1] [0] (by decide) (by decide) (by decide) rfl rfl rfl hl.1 (Nat.le_of_ble_eq_true rfl) dX10_comingRefused_19 ⟨Nat.zero_le _, Nat.zero_le _⟩ rfl (fun H locs hP hD hS => ?_)
    have hP : va_P (dC, dI) zz_cls [zo_X10 a_o a_tape f_o_taped a_c a_sp a_rd a_now a_tri a_past f_o_undoable a_trays a_ics a_ips a_w a_m a_g a_rw a_sl a_sh, zo_X0 a_c f_c_top f_c_things a_c_bars a_c_gives a_c_rough f_c_startRung f_c_startThings f_c_startStrength f_c_startWind f_c_slips f_c_lines a_c_code f_c_coded f_c_tiresFrom f_c_tiresTo f_c_mayFrom f_c_mayTo] H := hP
    have hD : va_D A [zo_X10 a_o a_tape f_o_taped a_c a_sp a_rd a_now a_tri a_past f_o_undoable a_trays a_ics a_ips a_w a_m a_g a_rw a_sl a_sh, zo_X0 a_c f_c_top f_c_things a_c_bars a_c_gives a_c_rough f_c_startRung f_c_startThings f_c_startStrength f_c_startWind f_c_slips f_c_lines a_c_code f_c_coded f_c_tiresFrom f_c_tiresTo f_c_mayFrom f_c_mayTo] := hD
    refine lv_if_eq (tgt := 29) (pc := 22) hx hb dX10_comingRefused_22 rfl (fun hc => ?_) (fun hc => ?_)
    · have hf := za_t hf hc
      refine lv_bipush (v := (-3 : Int32)) (pc := 29) hx hb dX10_comingRefused_29 (by decide) ?_
      obtain rfl := Option.some.inj hf
      exact W.iret (pc := 31) hx hb hr (fun t ht hW => ⟨⟨_, (), rfl, rfl, zz_Bi (by rw [ht]; exact hP) (va_K.moved hW.alike hK) (hD)⟩, hS.F ht⟩) hS.2.2 dX10_comingRefused_31
    · have hf := za_f hf hc
      refine lv_iconst (v := (0 : Int32)) (pc := 25) hx hb dX10_comingRefused_25 (by decide) ?_
      refine lv_goto (tgt := 31) (pc := 26) hx hb dX10_comingRefused_26 rfl ?_
      obtain rfl := Option.some.inj hf
      exact W.iret (pc := 31) hx hb hr (fun t ht hW => ⟨⟨_, (), rfl, rfl, zz_Bi (by rw [ht]; exact hP) (va_K.moved hW.alike hK) (hD)⟩, hS.F ht⟩) hS.2.2 dX10_comingRefused_31
  · have hf := za_t hf hc
    refine lv_bipush (v := (-2 : Int32)) (pc := 11) hx hb dX10_comingRefused_11 (by decide) ?_
    obtain rfl := Option.some.inj hf
    exact W.iret (pc := 13) hx hb hr (fun t ht hW => ⟨⟨_, (), rfl, rfl, zz_Bi (by rw [ht]; exact hP) (va_K.moved hW.alike hK) (hD)⟩, hS.F ht⟩) hS.2.2 dX10_comingRefused_13

def zf_X10_soonest (n : Nat) (f_c_top : Int32) (f_c_things : Int32) (f_c_tiresFrom : Int32) (f_c_tiresTo : Int32) (f_c_mayFrom : Int32) (f_c_mayTo : Int32) (b_c_bars : (Nat → Int32)) (b_c_gives : (Nat → Int32)) (b_c_rough : (Nat → Int32)) (b_c_code : (Nat → Int32)) (f_now_stand : Int32) (f_w_wind : Int32) (b_w_told : (Nat → Int32)) (b_w_facts : (Nat → Int32)) (b_w_stack : (Nat → Int32)) (f_m_found : Int32) (b_m_deeds : (Nat → Int32)) (b_m_ends : (Nat → Int32)) (f_g_size : Int32) (f_g_known : Int32) (b_g_order : (Nat → Int32)) (b_g_depth : (Nat → Int32)) (b_g_from : (Nat → Int32)) (p1 : Int32) (p2 : Int32) : Option (Int32 × (Nat → Int32) × (Nat → Int32) × (Nat → Int32) × Int32 × (Nat → Int32) × (Nat → Int32) × Int32 × Int32 × (Nat → Int32) × (Nat → Int32) × (Nat → Int32)) :=
  zd_1 (zf_X10_comingRefused f_c_top f_c_things p1 p2) (fun v1 =>
  if v1 = 0 then
    zd_11 (zf_X1_explore n f_g_size f_g_known f_m_found f_c_top f_c_things f_c_tiresFrom f_c_tiresTo f_c_mayFrom f_c_mayTo b_c_bars b_c_gives b_c_rough b_c_code f_w_wind b_w_told b_w_facts b_w_stack b_m_deeds b_m_ends b_g_order b_g_depth b_g_from f_now_stand) (fun v2 v3 v4 a5 a6 a7 a8 a9 a10 a11 a12 =>
    zd_1 (zf_X1_goal n v2 a10 p1 p2) (fun v13 =>
    zd_1 (zf_X1_deedsTo a11 v13) (fun v14 =>
    some (v14, a5, a6, a7, v4, a8, a9, v2, v3, a10, a11, a12))))
  else
    some (v1, b_w_told, b_w_facts, b_w_stack, f_m_found, b_m_deeds, b_m_ends, f_g_size, f_g_known, b_g_order, b_g_depth, b_g_from))
theorem zk_X10_soonest : yX10_soonest.cls = RX10 ∧ yX10_soonest.cls ≠ "java/lang/invoke/MethodHandle" ∧ yX10_soonest.cls ≠ "java/lang/invoke/VarHandle" ∧ (parseMethodDescriptor yX10_soonest.desc).map (fun d => d.parameters.length) = some 2 := by decide +kernel
set_option maxHeartbeats 4000000 in
set_option maxRecDepth 100000 in
theorem zt_X10_soonest (l : Launch) (dC : Nat → ClassId) (dI : Nat → Nat → Nat) (dA : Nat → ClassId) (adK adV : Nat → Nat) (sz : Nat) (a_o : Nat) (a_tape : Nat) (a_c : Nat) (a_sp : Nat) (a_rd : Nat) (a_now : Nat) (a_tri : Nat) (a_past : Nat) (a_trays : Nat) (a_ics : Nat) (a_ips : Nat) (a_w : Nat) (a_m : Nat) (a_g : Nat) (a_rw : Nat) (a_sl : Nat) (a_sh : Nat) (a_c_bars : Nat) (a_c_gives : Nat) (a_c_rough : Nat) (a_c_code : Nat) (a_w_told : Nat) (a_w_facts : Nat) (a_w_stack : Nat) (a_m_deeds : Nat) (a_m_ends : Nat) (a_g_order : Nat) (a_g_depth : Nat) (a_g_from : Nat) (n : Nat) (f_o_taped : Int32) (f_o_undoable : Int32) (f_c_top : Int32) (f_c_things : Int32) (f_c_startRung : Int32) (f_c_startThings : Int32) (f_c_startStrength : Int32) (f_c_startWind : Int32) (f_c_slips : Int32) (f_c_lines : Int32) (f_c_coded : Int32) (f_c_tiresFrom : Int32) (f_c_tiresTo : Int32) (f_c_mayFrom : Int32) (f_c_mayTo : Int32) (f_now_stand : Int32) (f_now_wind : Int32) (f_now_deeds : Int32) (f_w_wind : Int32) (f_m_found : Int32) (f_g_size : Int32) (f_g_known : Int32) (b_c_bars : (Nat → Int32)) (b_c_gives : (Nat → Int32)) (b_c_rough : (Nat → Int32)) (b_c_code : (Nat → Int32)) (b_w_told : (Nat → Int32)) (b_w_facts : (Nat → Int32)) (b_w_stack : (Nat → Int32)) (b_m_deeds : (Nat → Int32)) (b_m_ends : (Nat → Int32)) (b_g_order : (Nat → Int32)) (b_g_depth : (Nat → Int32)) (b_g_from : (Nat → Int32)) (p1 : Int32) (p2 : Int32) (r0 : Int32) (o1 : (Nat → Int32)) (o2 : (Nat → Int32)) (o3 : (Nat → Int32)) (o4 : Int32) (o5 : (Nat → Int32)) (o6 : (Nat → Int32)) (o7 : Int32) (o8 : Int32) (o9 : (Nat → Int32)) (o10 : (Nat → Int32)) (o11 : (Nat → Int32)) (hf : zf_X10_soonest n f_c_top f_c_things f_c_tiresFrom f_c_tiresTo f_c_mayFrom f_c_mayTo b_c_bars b_c_gives b_c_rough b_c_code f_now_stand f_w_wind b_w_told b_w_facts b_w_stack f_m_found b_m_deeds b_m_ends f_g_size f_g_known b_g_order b_g_depth b_g_from p1 p2 = some (r0, o1, o2, o3, o4, o5, o6, o7, o8, o9, o10, o11)) : Met l yX10_soonest (.code yX10_soonest cX10_soonest 4 (some .int) :: zq_T) ({ frames := 7, cells := 0, slots := 0, locals := 198 }) (va_Pc [.ref a_o, .int p1, .int p2] (zx_M dC dI dA adK adV [zo_X10 a_o a_tape f_o_taped a_c a_sp a_rd a_now a_tri a_past f_o_undoable a_trays a_ics a_ips a_w a_m a_g a_rw a_sl a_sh, zo_X0 a_c f_c_top f_c_things a_c_bars a_c_gives a_c_rough f_c_startRung f_c_startThings f_c_startStrength f_c_startWind f_c_slips f_c_lines a_c_code f_c_coded f_c_tiresFrom f_c_tiresTo f_c_mayFrom f_c_mayTo, (a_c_bars, .inl (dA 0, 9, .inl b_c_bars)), (a_c_gives, .inl (dA 0, 9, .inl b_c_gives)), (a_c_rough, .inl (dA 0, 9, .inl b_c_rough)), (a_c_code, .inl (dA 0, 900, .inl b_c_code)), zo_X4 a_now f_now_stand f_now_wind f_now_deeds, zo_X2 a_w a_c a_w_told a_w_facts a_w_stack f_w_wind, (a_w_told, .inl (dA 0, 315, .inl b_w_told)), (a_w_facts, .inl (dA 0, 6, .inl b_w_facts)), (a_w_stack, .inl (dA 0, 64, .inl b_w_stack)), zo_X3 a_m a_c a_w a_m_deeds a_m_ends f_m_found, (a_m_deeds, .inl (dA 0, 9, .inl b_m_deeds)), (a_m_ends, .inl (dA 0, 9, .inl b_m_ends)), zo_X1 a_g a_m a_g_order a_g_depth a_g_from f_g_size f_g_known, (a_g_order, .inl (dA 0, 2880, .inl b_g_order)), (a_g_depth, .inl (dA 0, 2880, .inl b_g_depth)), (a_g_from, .inl (dA 0, 2880, .inl b_g_from))] sz)) (va_Qi (fun (r : Int32) (_ : Unit) => r = r0) (fun _ t => zz_B dC dI dA (va_A [zo_X10 a_o a_tape f_o_taped a_c a_sp a_rd a_now a_tri a_past f_o_undoable a_trays a_ics a_ips a_w a_m a_g a_rw a_sl a_sh, zo_X0 a_c f_c_top f_c_things a_c_bars a_c_gives a_c_rough f_c_startRung f_c_startThings f_c_startStrength f_c_startWind f_c_slips f_c_lines a_c_code f_c_coded f_c_tiresFrom f_c_tiresTo f_c_mayFrom f_c_mayTo, (a_c_bars, .inl (dA 0, 9, .inl b_c_bars)), (a_c_gives, .inl (dA 0, 9, .inl b_c_gives)), (a_c_rough, .inl (dA 0, 9, .inl b_c_rough)), (a_c_code, .inl (dA 0, 900, .inl b_c_code)), zo_X4 a_now f_now_stand f_now_wind f_now_deeds, zo_X2 a_w a_c a_w_told a_w_facts a_w_stack f_w_wind, (a_w_told, .inl (dA 0, 315, .inl b_w_told)), (a_w_facts, .inl (dA 0, 6, .inl b_w_facts)), (a_w_stack, .inl (dA 0, 64, .inl b_w_stack)), zo_X3 a_m a_c a_w a_m_deeds a_m_ends f_m_found, (a_m_deeds, .inl (dA 0, 9, .inl b_m_deeds)), (a_m_ends, .inl (dA 0, 9, .inl b_m_ends)), zo_X1 a_g a_m a_g_order a_g_depth a_g_from f_g_size f_g_known, (a_g_order, .inl (dA 0, 2880, .inl b_g_order)), (a_g_depth, .inl (dA 0, 2880, .inl b_g_depth)), (a_g_from, .inl (dA 0, 2880, .inl b_g_from))] sz) [zo_X10 a_o a_tape f_o_taped a_c a_sp a_rd a_now a_tri a_past f_o_undoable a_trays a_ics a_ips a_w a_m a_g a_rw a_sl a_sh, zo_X0 a_c f_c_top f_c_things a_c_bars a_c_gives a_c_rough f_c_startRung f_c_startThings f_c_startStrength f_c_startWind f_c_slips f_c_lines a_c_code f_c_coded f_c_tiresFrom f_c_tiresTo f_c_mayFrom f_c_mayTo, (a_c_bars, .inl (dA 0, 9, .inl b_c_bars)), (a_c_gives, .inl (dA 0, 9, .inl b_c_gives)), (a_c_rough, .inl (dA 0, 9, .inl b_c_rough)), (a_c_code, .inl (dA 0, 900, .inl b_c_code)), zo_X4 a_now f_now_stand f_now_wind f_now_deeds, zo_X2 a_w a_c a_w_told a_w_facts a_w_stack f_w_wind, (a_w_told, .inl (dA 0, 315, .inl o1)), (a_w_facts, .inl (dA 0, 6, .inl o2)), (a_w_stack, .inl (dA 0, 64, .inl o3)), zo_X3 a_m a_c a_w a_m_deeds a_m_ends o4, (a_m_deeds, .inl (dA 0, 9, .inl o5)), (a_m_ends, .inl (dA 0, 9, .inl o6)), zo_X1 a_g a_m a_g_order a_g_depth a_g_from o7 o8, (a_g_order, .inl (dA 0, 2880, .inl o9)), (a_g_depth, .inl (dA 0, 2880, .inl o10)), (a_g_from, .inl (dA 0, 2880, .inl o11))] t) (va_A [zo_X10 a_o a_tape f_o_taped a_c a_sp a_rd a_now a_tri a_past f_o_undoable a_trays a_ics a_ips a_w a_m a_g a_rw a_sl a_sh, zo_X0 a_c f_c_top f_c_things a_c_bars a_c_gives a_c_rough f_c_startRung f_c_startThings f_c_startStrength f_c_startWind f_c_slips f_c_lines a_c_code f_c_coded f_c_tiresFrom f_c_tiresTo f_c_mayFrom f_c_mayTo, (a_c_bars, .inl (dA 0, 9, .inl b_c_bars)), (a_c_gives, .inl (dA 0, 9, .inl b_c_gives)), (a_c_rough, .inl (dA 0, 9, .inl b_c_rough)), (a_c_code, .inl (dA 0, 900, .inl b_c_code)), zo_X4 a_now f_now_stand f_now_wind f_now_deeds, zo_X2 a_w a_c a_w_told a_w_facts a_w_stack f_w_wind, (a_w_told, .inl (dA 0, 315, .inl b_w_told)), (a_w_facts, .inl (dA 0, 6, .inl b_w_facts)), (a_w_stack, .inl (dA 0, 64, .inl b_w_stack)), zo_X3 a_m a_c a_w a_m_deeds a_m_ends f_m_found, (a_m_deeds, .inl (dA 0, 9, .inl b_m_deeds)), (a_m_ends, .inl (dA 0, 9, .inl b_m_ends)), zo_X1 a_g a_m a_g_order a_g_depth a_g_from f_g_size f_g_known, (a_g_order, .inl (dA 0, 2880, .inl b_g_order)), (a_g_depth, .inl (dA 0, 2880, .inl b_g_depth)), (a_g_from, .inl (dA 0, 2880, .inl b_g_from))] sz)) 0 0 (va_A [zo_X10 a_o a_tape f_o_taped a_c a_sp a_rd a_now a_tri a_past f_o_undoable a_trays a_ics a_ips a_w a_m a_g a_rw a_sl a_sh, zo_X0 a_c f_c_top f_c_things a_c_bars a_c_gives a_c_rough f_c_startRung f_c_startThings f_c_startStrength f_c_startWind f_c_slips f_c_lines a_c_code f_c_coded f_c_tiresFrom f_c_tiresTo f_c_mayFrom f_c_mayTo, (a_c_bars, .inl (dA 0, 9, .inl b_c_bars)), (a_c_gives, .inl (dA 0, 9, .inl b_c_gives)), (a_c_rough, .inl (dA 0, 9, .inl b_c_rough)), (a_c_code, .inl (dA 0, 900, .inl b_c_code)), zo_X4 a_now f_now_stand f_now_wind f_now_deeds, zo_X2 a_w a_c a_w_told a_w_facts a_w_stack f_w_wind, (a_w_told, .inl (dA 0, 315, .inl b_w_told)), (a_w_facts, .inl (dA 0, 6, .inl b_w_facts)), (a_w_stack, .inl (dA 0, 64, .inl b_w_stack)), zo_X3 a_m a_c a_w a_m_deeds a_m_ends f_m_found, (a_m_deeds, .inl (dA 0, 9, .inl b_m_deeds)), (a_m_ends, .inl (dA 0, 9, .inl b_m_ends)), zo_X1 a_g a_m a_g_order a_g_depth a_g_from f_g_size f_g_known, (a_g_order, .inl (dA 0, 2880, .inl b_g_order)), (a_g_depth, .inl (dA 0, 2880, .inl b_g_depth)), (a_g_from, .inl (dA 0, 2880, .inl b_g_from))] sz) := by
  unfold zf_X10_soonest at hf
  refine Met.ofW (cc := cX10_soonest) (maxL := 4) (ret := (some .int)) (by decide) rfl ?_
  intro p e s m args below meth c s₁ B hml hv
  obtain ⟨rfl, ⟨hsz, hP, hK, hD0⟩, hZ⟩ := hv
  have hx := B.exec
  have hb := B.bytes
  have hr := B.returns
  have ht : ∀ w ∈ zq_T, w.before ([.ref a_o, .int p1, .int p2] : List Value).toArray s = true := fun w hw => atoms_spec (ws := .code yX10_soonest cX10_soonest 4 (some .int) :: zq_T) B.pre w (List.mem_cons_of_mem _ hw)
  have hown : s.vm.findClass RX10 = some m.cls := findClass_of_methodNamed B.named
  have hlocks := B.notSynchronized
  subst hsz
  have hD := hD0.self (sz := s.heap.size)
  generalize hAe : va_A [zo_X10 a_o a_tape f_o_taped a_c a_sp a_rd a_now a_tri a_past f_o_undoable a_trays a_ics a_ips a_w a_m a_g a_rw a_sl a_sh, zo_X0 a_c f_c_top f_c_things a_c_bars a_c_gives a_c_rough f_c_startRung f_c_startThings f_c_startStrength f_c_startWind f_c_slips f_c_lines a_c_code f_c_coded f_c_tiresFrom f_c_tiresTo f_c_mayFrom f_c_mayTo, (a_c_bars, .inl (dA 0, 9, .inl b_c_bars)), (a_c_gives, .inl (dA 0, 9, .inl b_c_gives)), (a_c_rough, .inl (dA 0, 9, .inl b_c_rough)), (a_c_code, .inl (dA 0, 900, .inl b_c_code)), zo_X4 a_now f_now_stand f_now_wind f_now_deeds, zo_X2 a_w a_c a_w_told a_w_facts a_w_stack f_w_wind, (a_w_told, .inl (dA 0, 315, .inl b_w_told)), (a_w_facts, .inl (dA 0, 6, .inl b_w_facts)), (a_w_stack, .inl (dA 0, 64, .inl b_w_stack)), zo_X3 a_m a_c a_w a_m_deeds a_m_ends f_m_found, (a_m_deeds, .inl (dA 0, 9, .inl b_m_deeds)), (a_m_ends, .inl (dA 0, 9, .inl b_m_ends)), zo_X1 a_g a_m a_g_order a_g_depth a_g_from f_g_size f_g_known, (a_g_order, .inl (dA 0, 2880, .inl b_g_order)), (a_g_depth, .inl (dA 0, 2880, .inl b_g_depth)), (a_g_from, .inl (dA 0, 2880, .inl b_g_from))] s.heap.size = A at hD hZ ⊢
  have hA : ∀ q : Nat, s.heap.size ≤ q → A q := fun q h => by rw [← hAe]; exact Or.inr h
  clear hAe hD0
  have hS : va_S A s.heap s.heap [] := va_S.rf
  have hl := lv_entry ([.ref a_o, .int p1, .int p2]) (n := 4) (Nat.le_of_ble_eq_true rfl)
  rw [lg_entry_eq]
  generalize (lg_sl ([.ref a_o, .int p1, .int p2]) ++ List.replicate (4 - (lg_sl ([.ref a_o, .int p1, .int p2])).length) Slot.unset).toArray = ls at hl ⊢
  have hl : lv_has ls 4 [(0, .ref a_o), (1, .int p1), (2, .int p2)] := hl
  refine lv_aload_n (pc := 0) hx hb dX10_soonest_0 rfl (lv_at hl 0 rfl) ?_
  refine lv_iload_n (pc := 1) hx hb dX10_soonest_1 rfl (lv_at hl 1 rfl) ?_
  refine lv_iload_n (pc := 2) hx hb dX10_soonest_2 rfl (lv_at hl 2 rfl) ?_
  obtain ⟨v1, hv1, hf⟩ := zc_1 hf
  refine zx_Vi (pc := 3) (wc := [zo_X10 a_o a_tape f_o_taped a_c a_sp a_rd a_now a_tri a_past f_o_undoable a_trays a_ics a_ips a_w a_m a_g a_rw a_sl a_sh, zo_X0 a_c f_c_top f_c_things a_c_bars a_c_gives a_c_rough f_c_startRung f_c_startThings f_c_startStrength f_c_startWind f_c_slips f_c_lines a_c_code f_c_coded f_c_tiresFrom f_c_tiresTo f_c_mayFrom f_c_mayTo]) (wr := [(a_c_bars, .inl (dA 0, 9, .inl b_c_bars)), (a_c_gives, .inl (dA 0, 9, .inl b_c_gives)), (a_c_rough, .inl (dA 0, 9, .inl b_c_rough)), (a_c_code, .inl (dA 0, 900, .inl b_c_code)), zo_X4 a_now f_now_stand f_now_wind f_now_deeds, zo_X2 a_w a_c a_w_told a_w_facts a_w_stack f_w_wind, (a_w_told, .inl (dA 0, 315, .inl b_w_told)), (a_w_facts, .inl (dA 0, 6, .inl b_w_facts)), (a_w_stack, .inl (dA 0, 64, .inl b_w_stack)), zo_X3 a_m a_c a_w a_m_deeds a_m_ends f_m_found, (a_m_deeds, .inl (dA 0, 9, .inl b_m_deeds)), (a_m_ends, .inl (dA 0, 9, .inl b_m_ends)), zo_X1 a_g a_m a_g_order a_g_depth a_g_from f_g_size f_g_known, (a_g_order, .inl (dA 0, 2880, .inl b_g_order)), (a_g_depth, .inl (dA 0, 2880, .inl b_g_depth)), (a_g_from, .inl (dA 0, 2880, .inl b_g_from))]) (w1 := [zo_X10 a_o a_tape f_o_taped a_c a_sp a_rd a_now a_tri a_past f_o_undoable a_trays a_ics a_ips a_w a_m a_g a_rw a_sl a_sh, zo_X0 a_c f_c_top f_c_things a_c_bars a_c_gives a_c_rough f_c_startRung f_c_startThings f_c_startStrength f_c_startWind f_c_slips f_c_lines a_c_code f_c_coded f_c_tiresFrom f_c_tiresTo f_c_mayFrom f_c_mayTo]) (As := [.int p1, .int p2]) (rest := []) ⟨hx, hb, hml, hown, ht⟩ (zt_X10_comingRefused l dC dI dA adK adV _ a_o a_tape a_c a_sp a_rd a_now a_tri a_past a_trays a_ics a_ips a_w a_m a_g a_rw a_sl a_sh a_c_bars a_c_gives a_c_rough a_c_code f_o_taped f_o_undoable f_c_top f_c_things f_c_startRung f_c_startThings f_c_startStrength f_c_startWind f_c_slips f_c_lines f_c_coded f_c_tiresFrom f_c_tiresTo f_c_mayFrom f_c_mayTo p1 p2 v1 hv1) (cwV 2 ht (zq_V zq_754 zq_755 zq_756 zq_58 zq_750) rfl rfl rfl zk_X10_comingRefused ⟨Nat.le_of_ble_eq_true rfl, Nat.le_of_ble_eq_true rfl⟩) rfl rfl hZ hK hP hD hS hA [0, 1] [2, 3, 4, 5, 6, 7, 8, 9, 10, 11, 12, 13, 14, 15, 16, 17] (by decide) (by decide) (by decide) rfl rfl rfl hl.1 (Nat.le_of_ble_eq_true rfl) dX10_soonest_3 ⟨Nat.zero_le _, Nat.zero_le _⟩ rfl (fun H locs hP hD hS => ?_)
  have hP : va_P (dC, dI) zz_cls [(a_c_bars, .inl (dA 0, 9, .inl b_c_bars)), (a_c_gives, .inl (dA 0, 9, .inl b_c_gives)), (a_c_rough, .inl (dA 0, 9, .inl b_c_rough)), (a_c_code, .inl (dA 0, 900, .inl b_c_code)), zo_X4 a_now f_now_stand f_now_wind f_now_deeds, zo_X2 a_w a_c a_w_told a_w_facts a_w_stack f_w_wind, (a_w_told, .inl (dA 0, 315, .inl b_w_told)), (a_w_facts, .inl (dA 0, 6, .inl b_w_facts)), (a_w_stack, .inl (dA 0, 64, .inl b_w_stack)), zo_X3 a_m a_c a_w a_m_deeds a_m_ends f_m_found, (a_m_deeds, .inl (dA 0, 9, .inl b_m_deeds)), (a_m_ends, .inl (dA 0, 9, .inl b_m_ends)), zo_X1 a_g a_m a_g_order a_g_depth a_g_from f_g_size f_g_known, (a_g_order, .inl (dA 0, 2880, .inl b_g_order)), (a_g_depth, .inl (dA 0, 2880, .inl b_g_depth)), (a_g_from, .inl (dA 0, 2880, .inl b_g_from)), zo_X10 a_o a_tape f_o_taped a_c a_sp a_rd a_now a_tri a_past f_o_undoable a_trays a_ics a_ips a_w a_m a_g a_rw a_sl a_sh, zo_X0 a_c f_c_top f_c_things a_c_bars a_c_gives a_c_rough f_c_startRung f_c_startThings f_c_startStrength f_c_startWind f_c_slips f_c_lines a_c_code f_c_coded f_c_tiresFrom f_c_tiresTo f_c_mayFrom f_c_mayTo] H := hP
  have hD : va_D A [(a_c_bars, .inl (dA 0, 9, .inl b_c_bars)), (a_c_gives, .inl (dA 0, 9, .inl b_c_gives)), (a_c_rough, .inl (dA 0, 9, .inl b_c_rough)), (a_c_code, .inl (dA 0, 900, .inl b_c_code)), zo_X4 a_now f_now_stand f_now_wind f_now_deeds, zo_X2 a_w a_c a_w_told a_w_facts a_w_stack f_w_wind, (a_w_told, .inl (dA 0, 315, .inl b_w_told)), (a_w_facts, .inl (dA 0, 6, .inl b_w_facts)), (a_w_stack, .inl (dA 0, 64, .inl b_w_stack)), zo_X3 a_m a_c a_w a_m_deeds a_m_ends f_m_found, (a_m_deeds, .inl (dA 0, 9, .inl b_m_deeds)), (a_m_ends, .inl (dA 0, 9, .inl b_m_ends)), zo_X1 a_g a_m a_g_order a_g_depth a_g_from f_g_size f_g_known, (a_g_order, .inl (dA 0, 2880, .inl b_g_order)), (a_g_depth, .inl (dA 0, 2880, .inl b_g_depth)), (a_g_from, .inl (dA 0, 2880, .inl b_g_from)), zo_X10 a_o a_tape f_o_taped a_c a_sp a_rd a_now a_tri a_past f_o_undoable a_trays a_ics a_ips a_w a_m a_g a_rw a_sl a_sh, zo_X0 a_c f_c_top f_c_things a_c_bars a_c_gives a_c_rough f_c_startRung f_c_startThings f_c_startStrength f_c_startWind f_c_slips f_c_lines a_c_code f_c_coded f_c_tiresFrom f_c_tiresTo f_c_mayFrom f_c_mayTo] := hD
  refine lv_istore_n (lv' := [(3, .int v1), (0, .ref a_o), (1, .int p1), (2, .int p2)]) (pc := 6) hx hb dX10_soonest_6 rfl hl (by decide) rfl (fun ls hl => ?_)
  refine lv_iload_n (pc := 7) hx hb dX10_soonest_7 rfl (lv_at hl 0 rfl) ?_
  refine lv_if_eq (tgt := 13) (pc := 8) hx hb dX10_soonest_8 rfl (fun hc => ?_) (fun hc => ?_)
  · have hf := za_t hf hc
    refine lv_aload_n (pc := 13) hx hb dX10_soonest_13 rfl (lv_at hl 1 rfl) ?_
    refine va_get (pc := 14) (D := (dC, dI)) (ci := 11) (v := .ref a_g) (C := RX10) (T := TX10) (N := 18) hx hb ht zq_layX10 hown hK hP 16 rfl rfl 14 (by decide) (ht _ zq_621) (fun _ h9 => h9) rfl dX10_soonest_14 ?_
    refine lv_aload_n (pc := 17) hx hb dX10_soonest_17 rfl (lv_at hl 1 rfl) ?_
    refine va_get (pc := 18) (D := (dC, dI)) (ci := 11) (v := .ref a_now) (C := RX10) (T := TX10) (N := 18) hx hb ht zq_layX10 hown hK hP 16 rfl rfl 5 (by decide) (ht _ zq_605) (fun _ h9 => h9) rfl dX10_soonest_18 ?_
    refine va_get (pc := 21) (D := (dC, dI)) (ci := 5) (v := .int f_now_stand) (C := RX4) (T := TX4) (N := 3) hx hb ht zq_layX4 hown hK hP 4 rfl rfl 0 (by decide) (ht _ zq_692) (fun _ h9 => h9) rfl dX10_soonest_21 ?_
    obtain ⟨v2, v3, v4, a5, a6, a7, a8, a9, a10, a11, a12, hv2, hf⟩ := zc_11 hf
    refine zx_Vv (pc := 24) (wc := [zo_X1 a_g a_m a_g_order a_g_depth a_g_from f_g_size f_g_known, zo_X3 a_m a_c a_w a_m_deeds a_m_ends f_m_found, zo_X0 a_c f_c_top f_c_things a_c_bars a_c_gives a_c_rough f_c_startRung f_c_startThings f_c_startStrength f_c_startWind f_c_slips f_c_lines a_c_code f_c_coded f_c_tiresFrom f_c_tiresTo f_c_mayFrom f_c_mayTo, (a_c_bars, .inl (dA 0, 9, .inl b_c_bars)), (a_c_gives, .inl (dA 0, 9, .inl b_c_gives)), (a_c_rough, .inl (dA 0, 9, .inl b_c_rough)), (a_c_code, .inl (dA 0, 900, .inl b_c_code)), zo_X2 a_w a_c a_w_told a_w_facts a_w_stack f_w_wind, (a_w_told, .inl (dA 0, 315, .inl b_w_told)), (a_w_facts, .inl (dA 0, 6, .inl b_w_facts)), (a_w_stack, .inl (dA 0, 64, .inl b_w_stack)), (a_m_deeds, .inl (dA 0, 9, .inl b_m_deeds)), (a_m_ends, .inl (dA 0, 9, .inl b_m_ends)), (a_g_order, .inl (dA 0, 2880, .inl b_g_order)), (a_g_depth, .inl (dA 0, 2880, .inl b_g_depth)), (a_g_from, .inl (dA 0, 2880, .inl b_g_from))]) (wr := [zo_X4 a_now f_now_stand f_now_wind f_now_deeds, zo_X10 a_o a_tape f_o_taped a_c a_sp a_rd a_now a_tri a_past f_o_undoable a_trays a_ics a_ips a_w a_m a_g a_rw a_sl a_sh]) (w1 := [zo_X1 a_g a_m a_g_order a_g_depth a_g_from v2 v3, zo_X3 a_m a_c a_w a_m_deeds a_m_ends v4, zo_X0 a_c f_c_top f_c_things a_c_bars a_c_gives a_c_rough f_c_startRung f_c_startThings f_c_startStrength f_c_startWind f_c_slips f_c_lines a_c_code f_c_coded f_c_tiresFrom f_c_tiresTo f_c_mayFrom f_c_mayTo, (a_c_bars, .inl (dA 0, 9, .inl b_c_bars)), (a_c_gives, .inl (dA 0, 9, .inl b_c_gives)), (a_c_rough, .inl (dA 0, 9, .inl b_c_rough)), (a_c_code, .inl (dA 0, 900, .inl b_c_code)), zo_X2 a_w a_c a_w_told a_w_facts a_w_stack f_w_wind, (a_w_told, .inl (dA 0, 315, .inl a5)), (a_w_facts, .inl (dA 0, 6, .inl a6)), (a_w_stack, .inl (dA 0, 64, .inl a7)), (a_m_deeds, .inl (dA 0, 9, .inl a8)), (a_m_ends, .inl (dA 0, 9, .inl a9)), (a_g_order, .inl (dA 0, 2880, .inl a10)), (a_g_depth, .inl (dA 0, 2880, .inl a11)), (a_g_from, .inl (dA 0, 2880, .inl a12))]) (As := [.int f_now_stand]) (rest := []) ⟨hx, hb, hml, hown, ht⟩ (zt_X1_explore l dC dI dA adK adV _ a_g a_m a_g_order a_g_depth a_g_from a_c a_w a_m_deeds a_m_ends a_c_bars a_c_gives a_c_rough a_c_code a_w_told a_w_facts a_w_stack n f_g_size f_g_known f_m_found f_c_top f_c_things f_c_startRung f_c_startThings f_c_startStrength f_c_startWind f_c_slips f_c_lines f_c_coded f_c_tiresFrom f_c_tiresTo f_c_mayFrom f_c_mayTo f_w_wind b_c_bars b_c_gives b_c_rough b_c_code b_w_told b_w_facts b_w_stack b_m_deeds b_m_ends b_g_order b_g_depth b_g_from f_now_stand v2 v3 v4 a5 a6 a7 a8 a9 a10 a11 a12 hv2) (cwV 1 ht (zq_V zq_757 zq_758 zq_759 zq_142 zq_143) rfl rfl rfl zk_X1_explore ⟨Nat.le_of_ble_eq_true rfl, Nat.le_of_ble_eq_true rfl⟩) rfl rfl hZ hK hP hD hS hA [12, 9, 17, 0, 1, 2, 3, 5, 6, 7, 8, 10, 11, 13, 14, 15] [4, 16] (by decide) (by decide) (by decide) rfl rfl rfl hl.1 (Nat.le_of_ble_eq_true rfl) dX10_soonest_24 ⟨Nat.zero_le _, Nat.zero_le _⟩ rfl (fun H locs hP hD hS => ?_)
    have hP : va_P (dC, dI) zz_cls [zo_X4 a_now f_now_stand f_now_wind f_now_deeds, zo_X10 a_o a_tape f_o_taped a_c a_sp a_rd a_now a_tri a_past f_o_undoable a_trays a_ics a_ips a_w a_m a_g a_rw a_sl a_sh, zo_X1 a_g a_m a_g_order a_g_depth a_g_from v2 v3, zo_X3 a_m a_c a_w a_m_deeds a_m_ends v4, zo_X0 a_c f_c_top f_c_things a_c_bars a_c_gives a_c_rough f_c_startRung f_c_startThings f_c_startStrength f_c_startWind f_c_slips f_c_lines a_c_code f_c_coded f_c_tiresFrom f_c_tiresTo f_c_mayFrom f_c_mayTo, (a_c_bars, .inl (dA 0, 9, .inl b_c_bars)), (a_c_gives, .inl (dA 0, 9, .inl b_c_gives)), (a_c_rough, .inl (dA 0, 9, .inl b_c_rough)), (a_c_code, .inl (dA 0, 900, .inl b_c_code)), zo_X2 a_w a_c a_w_told a_w_facts a_w_stack f_w_wind, (a_w_told, .inl (dA 0, 315, .inl a5)), (a_w_facts, .inl (dA 0, 6, .inl a6)), (a_w_stack, .inl (dA 0, 64, .inl a7)), (a_m_deeds, .inl (dA 0, 9, .inl a8)), (a_m_ends, .inl (dA 0, 9, .inl a9)), (a_g_order, .inl (dA 0, 2880, .inl a10)), (a_g_depth, .inl (dA 0, 2880, .inl a11)), (a_g_from, .inl (dA 0, 2880, .inl a12))] H := hP
    have hD : va_D A [zo_X4 a_now f_now_stand f_now_wind f_now_deeds, zo_X10 a_o a_tape f_o_taped a_c a_sp a_rd a_now a_tri a_past f_o_undoable a_trays a_ics a_ips a_w a_m a_g a_rw a_sl a_sh, zo_X1 a_g a_m a_g_order a_g_depth a_g_from v2 v3, zo_X3 a_m a_c a_w a_m_deeds a_m_ends v4, zo_X0 a_c f_c_top f_c_things a_c_bars a_c_gives a_c_rough f_c_startRung f_c_startThings f_c_startStrength f_c_startWind f_c_slips f_c_lines a_c_code f_c_coded f_c_tiresFrom f_c_tiresTo f_c_mayFrom f_c_mayTo, (a_c_bars, .inl (dA 0, 9, .inl b_c_bars)), (a_c_gives, .inl (dA 0, 9, .inl b_c_gives)), (a_c_rough, .inl (dA 0, 9, .inl b_c_rough)), (a_c_code, .inl (dA 0, 900, .inl b_c_code)), zo_X2 a_w a_c a_w_told a_w_facts a_w_stack f_w_wind, (a_w_told, .inl (dA 0, 315, .inl a5)), (a_w_facts, .inl (dA 0, 6, .inl a6)), (a_w_stack, .inl (dA 0, 64, .inl a7)), (a_m_deeds, .inl (dA 0, 9, .inl a8)), (a_m_ends, .inl (dA 0, 9, .inl a9)), (a_g_order, .inl (dA 0, 2880, .inl a10)), (a_g_depth, .inl (dA 0, 2880, .inl a11)), (a_g_from, .inl (dA 0, 2880, .inl a12))] := hD
    refine lv_aload_n (pc := 27) hx hb dX10_soonest_27 rfl (lv_at hl 1 rfl) ?_
    refine va_get (pc := 28) (D := (dC, dI)) (ci := 11) (v := .ref a_g) (C := RX10) (T := TX10) (N := 18) hx hb ht zq_layX10 hown hK hP 1 rfl rfl 14 (by decide) (ht _ zq_621) (fun _ h9 => h9) rfl dX10_soonest_28 ?_
    refine lv_aload_n (pc := 31) hx hb dX10_soonest_31 rfl (lv_at hl 1 rfl) ?_
    refine va_get (pc := 32) (D := (dC, dI)) (ci := 11) (v := .ref a_g) (C := RX10) (T := TX10) (N := 18) hx hb ht zq_layX10 hown hK hP 1 rfl rfl 14 (by decide) (ht _ zq_621) (fun _ h9 => h9) rfl dX10_soonest_32 ?_
    refine lv_iload_n (pc := 35) hx hb dX10_soonest_35 rfl (lv_at hl 2 rfl) ?_
    refine lv_iload_n (pc := 36) hx hb dX10_soonest_36 rfl (lv_at hl 3 rfl) ?_
    obtain ⟨v13, hv13, hf⟩ := zc_1 hf
    refine zx_Vi (pc := 37) (wc := [zo_X1 a_g a_m a_g_order a_g_depth a_g_from v2 v3, (a_g_order, .inl (dA 0, 2880, .inl a10))]) (wr := [zo_X4 a_now f_now_stand f_now_wind f_now_deeds, zo_X10 a_o a_tape f_o_taped a_c a_sp a_rd a_now a_tri a_past f_o_undoable a_trays a_ics a_ips a_w a_m a_g a_rw a_sl a_sh, zo_X3 a_m a_c a_w a_m_deeds a_m_ends v4, zo_X0 a_c f_c_top f_c_things a_c_bars a_c_gives a_c_rough f_c_startRung f_c_startThings f_c_startStrength f_c_startWind f_c_slips f_c_lines a_c_code f_c_coded f_c_tiresFrom f_c_tiresTo f_c_mayFrom f_c_mayTo, (a_c_bars, .inl (dA 0, 9, .inl b_c_bars)), (a_c_gives, .inl (dA 0, 9, .inl b_c_gives)), (a_c_rough, .inl (dA 0, 9, .inl b_c_rough)), (a_c_code, .inl (dA 0, 900, .inl b_c_code)), zo_X2 a_w a_c a_w_told a_w_facts a_w_stack f_w_wind, (a_w_told, .inl (dA 0, 315, .inl a5)), (a_w_facts, .inl (dA 0, 6, .inl a6)), (a_w_stack, .inl (dA 0, 64, .inl a7)), (a_m_deeds, .inl (dA 0, 9, .inl a8)), (a_m_ends, .inl (dA 0, 9, .inl a9)), (a_g_depth, .inl (dA 0, 2880, .inl a11)), (a_g_from, .inl (dA 0, 2880, .inl a12))]) (w1 := [zo_X1 a_g a_m a_g_order a_g_depth a_g_from v2 v3, (a_g_order, .inl (dA 0, 2880, .inl a10))]) (As := [.int p1, .int p2]) (rest := [.ref a_g]) ⟨hx, hb, hml, hown, ht⟩ (zt_X1_goal l dC dI dA adK adV _ a_g a_m a_g_order a_g_depth a_g_from n v2 v3 a10 p1 p2 v13 hv13) (cwV 2 ht (zq_V zq_760 zq_761 zq_762 zq_142 zq_144) rfl rfl rfl zk_X1_goal ⟨Nat.le_of_ble_eq_true rfl, Nat.le_of_ble_eq_true rfl⟩) rfl rfl hZ hK hP hD hS hA [2, 15] [0, 1, 3, 4, 5, 6, 7, 8, 9, 10, 11, 12, 13, 14, 16, 17] (by decide) (by decide) (by decide) rfl rfl rfl hl.1 (Nat.le_of_ble_eq_true rfl) dX10_soonest_37 ⟨Nat.zero_le _, Nat.zero_le _⟩ rfl (fun H locs hP hD hS => ?_)
    have hP : va_P (dC, dI) zz_cls [zo_X4 a_now f_now_stand f_now_wind f_now_deeds, zo_X10 a_o a_tape f_o_taped a_c a_sp a_rd a_now a_tri a_past f_o_undoable a_trays a_ics a_ips a_w a_m a_g a_rw a_sl a_sh, zo_X3 a_m a_c a_w a_m_deeds a_m_ends v4, zo_X0 a_c f_c_top f_c_things a_c_bars a_c_gives a_c_rough f_c_startRung f_c_startThings f_c_startStrength f_c_startWind f_c_slips f_c_lines a_c_code f_c_coded f_c_tiresFrom f_c_tiresTo f_c_mayFrom f_c_mayTo, (a_c_bars, .inl (dA 0, 9, .inl b_c_bars)), (a_c_gives, .inl (dA 0, 9, .inl b_c_gives)), (a_c_rough, .inl (dA 0, 9, .inl b_c_rough)), (a_c_code, .inl (dA 0, 900, .inl b_c_code)), zo_X2 a_w a_c a_w_told a_w_facts a_w_stack f_w_wind, (a_w_told, .inl (dA 0, 315, .inl a5)), (a_w_facts, .inl (dA 0, 6, .inl a6)), (a_w_stack, .inl (dA 0, 64, .inl a7)), (a_m_deeds, .inl (dA 0, 9, .inl a8)), (a_m_ends, .inl (dA 0, 9, .inl a9)), (a_g_depth, .inl (dA 0, 2880, .inl a11)), (a_g_from, .inl (dA 0, 2880, .inl a12)), zo_X1 a_g a_m a_g_order a_g_depth a_g_from v2 v3, (a_g_order, .inl (dA 0, 2880, .inl a10))] H := hP
    have hD : va_D A [zo_X4 a_now f_now_stand f_now_wind f_now_deeds, zo_X10 a_o a_tape f_o_taped a_c a_sp a_rd a_now a_tri a_past f_o_undoable a_trays a_ics a_ips a_w a_m a_g a_rw a_sl a_sh, zo_X3 a_m a_c a_w a_m_deeds a_m_ends v4, zo_X0 a_c f_c_top f_c_things a_c_bars a_c_gives a_c_rough f_c_startRung f_c_startThings f_c_startStrength f_c_startWind f_c_slips f_c_lines a_c_code f_c_coded f_c_tiresFrom f_c_tiresTo f_c_mayFrom f_c_mayTo, (a_c_bars, .inl (dA 0, 9, .inl b_c_bars)), (a_c_gives, .inl (dA 0, 9, .inl b_c_gives)), (a_c_rough, .inl (dA 0, 9, .inl b_c_rough)), (a_c_code, .inl (dA 0, 900, .inl b_c_code)), zo_X2 a_w a_c a_w_told a_w_facts a_w_stack f_w_wind, (a_w_told, .inl (dA 0, 315, .inl a5)), (a_w_facts, .inl (dA 0, 6, .inl a6)), (a_w_stack, .inl (dA 0, 64, .inl a7)), (a_m_deeds, .inl (dA 0, 9, .inl a8)), (a_m_ends, .inl (dA 0, 9, .inl a9)), (a_g_depth, .inl (dA 0, 2880, .inl a11)), (a_g_from, .inl (dA 0, 2880, .inl a12)), zo_X1 a_g a_m a_g_order a_g_depth a_g_from v2 v3, (a_g_order, .inl (dA 0, 2880, .inl a10))] := hD
    obtain ⟨v14, hv14, hf⟩ := zc_1 hf
    refine zx_Vi (pc := 40) (wc := [zo_X1 a_g a_m a_g_order a_g_depth a_g_from v2 v3, (a_g_depth, .inl (dA 0, 2880, .inl a11))]) (wr := [zo_X4 a_now f_now_stand f_now_wind f_now_deeds, zo_X10 a_o a_tape f_o_taped a_c a_sp a_rd a_now a_tri a_past f_o_undoable a_trays a_ics a_ips a_w a_m a_g a_rw a_sl a_sh, zo_X3 a_m a_c a_w a_m_deeds a_m_ends v4, zo_X0 a_c f_c_top f_c_things a_c_bars a_c_gives a_c_rough f_c_startRung f_c_startThings f_c_startStrength f_c_startWind f_c_slips f_c_lines a_c_code f_c_coded f_c_tiresFrom f_c_tiresTo f_c_mayFrom f_c_mayTo, (a_c_bars, .inl (dA 0, 9, .inl b_c_bars)), (a_c_gives, .inl (dA 0, 9, .inl b_c_gives)), (a_c_rough, .inl (dA 0, 9, .inl b_c_rough)), (a_c_code, .inl (dA 0, 900, .inl b_c_code)), zo_X2 a_w a_c a_w_told a_w_facts a_w_stack f_w_wind, (a_w_told, .inl (dA 0, 315, .inl a5)), (a_w_facts, .inl (dA 0, 6, .inl a6)), (a_w_stack, .inl (dA 0, 64, .inl a7)), (a_m_deeds, .inl (dA 0, 9, .inl a8)), (a_m_ends, .inl (dA 0, 9, .inl a9)), (a_g_from, .inl (dA 0, 2880, .inl a12)), (a_g_order, .inl (dA 0, 2880, .inl a10))]) (w1 := [zo_X1 a_g a_m a_g_order a_g_depth a_g_from v2 v3, (a_g_depth, .inl (dA 0, 2880, .inl a11))]) (As := [.int v13]) (rest := []) ⟨hx, hb, hml, hown, ht⟩ (zt_X1_deedsTo l dC dI dA adK adV _ a_g a_m a_g_order a_g_depth a_g_from v2 v3 a11 v13 v14 hv14) (cwV 1 ht (zq_V zq_763 zq_764 zq_765 zq_142 zq_145) rfl rfl rfl zk_X1_deedsTo ⟨Nat.le_of_ble_eq_true rfl, Nat.le_of_ble_eq_true rfl⟩) rfl rfl hZ hK hP hD hS hA [16, 14] [0, 1, 2, 3, 4, 5, 6, 7, 8, 9, 10, 11, 12, 13, 15, 17] (by decide) (by decide) (by decide) rfl rfl rfl hl.1 (Nat.le_of_ble_eq_true rfl) dX10_soonest_40 ⟨Nat.zero_le _, Nat.zero_le _⟩ rfl (fun H locs hP hD hS => ?_)
    have hP : va_P (dC, dI) zz_cls [zo_X4 a_now f_now_stand f_now_wind f_now_deeds, zo_X10 a_o a_tape f_o_taped a_c a_sp a_rd a_now a_tri a_past f_o_undoable a_trays a_ics a_ips a_w a_m a_g a_rw a_sl a_sh, zo_X3 a_m a_c a_w a_m_deeds a_m_ends v4, zo_X0 a_c f_c_top f_c_things a_c_bars a_c_gives a_c_rough f_c_startRung f_c_startThings f_c_startStrength f_c_startWind f_c_slips f_c_lines a_c_code f_c_coded f_c_tiresFrom f_c_tiresTo f_c_mayFrom f_c_mayTo, (a_c_bars, .inl (dA 0, 9, .inl b_c_bars)), (a_c_gives, .inl (dA 0, 9, .inl b_c_gives)), (a_c_rough, .inl (dA 0, 9, .inl b_c_rough)), (a_c_code, .inl (dA 0, 900, .inl b_c_code)), zo_X2 a_w a_c a_w_told a_w_facts a_w_stack f_w_wind, (a_w_told, .inl (dA 0, 315, .inl a5)), (a_w_facts, .inl (dA 0, 6, .inl a6)), (a_w_stack, .inl (dA 0, 64, .inl a7)), (a_m_deeds, .inl (dA 0, 9, .inl a8)), (a_m_ends, .inl (dA 0, 9, .inl a9)), (a_g_from, .inl (dA 0, 2880, .inl a12)), (a_g_order, .inl (dA 0, 2880, .inl a10)), zo_X1 a_g a_m a_g_order a_g_depth a_g_from v2 v3, (a_g_depth, .inl (dA 0, 2880, .inl a11))] H := hP
    have hD : va_D A [zo_X4 a_now f_now_stand f_now_wind f_now_deeds, zo_X10 a_o a_tape f_o_taped a_c a_sp a_rd a_now a_tri a_past f_o_undoable a_trays a_ics a_ips a_w a_m a_g a_rw a_sl a_sh, zo_X3 a_m a_c a_w a_m_deeds a_m_ends v4, zo_X0 a_c f_c_top f_c_things a_c_bars a_c_gives a_c_rough f_c_startRung f_c_startThings f_c_startStrength f_c_startWind f_c_slips f_c_lines a_c_code f_c_coded f_c_tiresFrom f_c_tiresTo f_c_mayFrom f_c_mayTo, (a_c_bars, .inl (dA 0, 9, .inl b_c_bars)), (a_c_gives, .inl (dA 0, 9, .inl b_c_gives)), (a_c_rough, .inl (dA 0, 9, .inl b_c_rough)), (a_c_code, .inl (dA 0, 900, .inl b_c_code)), zo_X2 a_w a_c a_w_told a_w_facts a_w_stack f_w_wind, (a_w_told, .inl (dA 0, 315, .inl a5)), (a_w_facts, .inl (dA 0, 6, .inl a6)), (a_w_stack, .inl (dA 0, 64, .inl a7)), (a_m_deeds, .inl (dA 0, 9, .inl a8)), (a_m_ends, .inl (dA 0, 9, .inl a9)), (a_g_from, .inl (dA 0, 2880, .inl a12)), (a_g_order, .inl (dA 0, 2880, .inl a10)), zo_X1 a_g a_m a_g_order a_g_depth a_g_from v2 v3, (a_g_depth, .inl (dA 0, 2880, .inl a11))] := hD
    obtain ⟨rfl, rfl, rfl, rfl, rfl, rfl, rfl, rfl, rfl, rfl, rfl, rfl⟩ := zi_12 hf
    exact W.iret (pc := 43) hx hb hr (fun t ht hW => ⟨⟨_, (), rfl, rfl, zz_Bi (by rw [ht]; exact hP.sub [1, 3, 4, 5, 6, 7, 0, 8, 9, 10, 11, 2, 12, 13, 16, 15, 17, 14] rfl) (va_K.moved hW.alike hK) (hD.sub [1, 3, 4, 5, 6, 7, 0, 8, 9, 10, 11, 2, 12, 13, 16, 15, 17, 14] (by decide) rfl)⟩, hS.F ht⟩) hS.2.2 dX10_soonest_43
  · have hf := za_f hf hc
    refine lv_iload_n (pc := 11) hx hb dX10_soonest_11 rfl (lv_at hl 0 rfl) ?_
    obtain ⟨rfl, rfl, rfl, rfl, rfl, rfl, rfl, rfl, rfl, rfl, rfl, rfl⟩ := zi_12 hf
    exact W.iret (pc := 12) hx hb hr (fun t ht hW => ⟨⟨_, (), rfl, rfl, zz_Bi (by rw [ht]; exact hP.sub [16, 17, 0, 1, 2, 3, 4, 5, 6, 7, 8, 9, 10, 11, 12, 13, 14, 15] rfl) (va_K.moved hW.alike hK) (hD.sub [16, 17, 0, 1, 2, 3, 4, 5, 6, 7, 8, 9, 10, 11, 12, 13, 14, 15] (by decide) rfl)⟩, hS.F ht⟩) hS.2.2 dX10_soonest_12
