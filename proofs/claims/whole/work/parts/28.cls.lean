def zb_X8_explore_26 (p2 : Int32) (f_o_rung : Int32) (n : Nat) (f_c_top : Int32) (f_c_things : Int32) (f_c_tiresFrom : Int32) (f_c_tiresTo : Int32) (f_c_mayFrom : Int32) (f_c_mayTo : Int32) (b_c_bars : (Nat → Int32)) (b_c_gives : (Nat → Int32)) (b_c_rough : (Nat → Int32)) (b_c_code : (Nat → Int32)) (f_w_wind : Int32) (v6 : Int32) (v7 : Int32) (v8 : Int32) (a9 : (Nat → Int32)) (a10 : (Nat → Int32)) (a11 : (Nat → Int32)) (a12 : (Nat → Int32)) (a13 : (Nat → Int32)) (a14 : (Nat → Int32)) (a15 : (Nat → Int32)) (a16 : (Nat → Int64)) : Option (Nat × Int32 × Int32 × Int32 × (Nat → Int32) × (Nat → Int32) × (Nat → Int32) × (Nat → Int32) × (Nat → Int32) × (Nat → Int32) × (Nat → Int32) × (Nat → Int64)) :=
  if v7 ≤ v6 then
    some (1, v6, v7, v8, a9, a10, a11, a12, a13, a14, a15, a16)
  else
    if (2880 : Int32) ≤ v6 then
      some (1, v6, v7, v8, a9, a10, a11, a12, a13, a14, a15, a16)
    else
      zd_1 (za_ld a14 2880 v6) (fun v17 =>
      zd_1 (za_ld a15 2880 v17) (fun v18 =>
      zd_10 (
        if p2 ≤ v18 then
          some (v7, v8, a9, a10, a11, a12, a13, a14, a15, a16)
        else
          zd_1 (zf_X10_rungOf v17) (fun v19 =>
          if v19 = f_o_rung then
            some (v7, v8, a9, a10, a11, a12, a13, a14, a15, a16)
          else
            zd_10 (zf_X8_reachFrom n v7 f_o_rung f_c_top f_c_things f_c_tiresFrom f_c_tiresTo f_c_mayFrom f_c_mayTo b_c_bars b_c_gives b_c_rough b_c_code v8 f_w_wind a9 a10 a11 a12 a13 a14 a15 a16 v17) (fun v20 v21 a22 a23 a24 a25 a26 a27 a28 a29 =>
            some (v20, v21, a22, a23, a24, a25, a26, a27, a28, a29)))) (fun v30 v31 a32 a33 a34 a35 a36 a37 a38 a39 =>
      zd_1 (some (v6 + (1 : Int32))) (fun v40 =>
      some (0, v40, v30, v31, a32, a33, a34, a35, a36, a37, a38, a39)))))
def zf_X8_explore (n : Nat) (f_o_size : Int32) (f_o_rung : Int32) (f_o_firstDeed : Int32) (f_c_top : Int32) (f_c_things : Int32) (f_c_tiresFrom : Int32) (f_c_tiresTo : Int32) (f_c_mayFrom : Int32) (f_c_mayTo : Int32) (b_c_bars : (Nat → Int32)) (b_c_gives : (Nat → Int32)) (b_c_rough : (Nat → Int32)) (b_c_code : (Nat → Int32)) (f_m_found : Int32) (f_w_wind : Int32) (b_w_told : (Nat → Int32)) (b_w_facts : (Nat → Int32)) (b_w_stack : (Nat → Int32)) (b_m_deeds : (Nat → Int32)) (b_m_ends : (Nat → Int32)) (b_ord : (Nat → Int32)) (b_dep : (Nat → Int32)) (b_k1 : (Nat → Int64)) (p1 : Int32) (p2 : Int32) : Option (Int32 × Int32 × Int32 × (Nat → Int32) × (Nat → Int32) × (Nat → Int32) × (Nat → Int32) × (Nat → Int32) × (Nat → Int32) × (Nat → Int32) × (Nat → Int64)) :=
  zd_1 (zf_J7_fill_53178 n 2880 b_dep (-1 : Int32)) (fun a1 =>
  zd_4 (zf_X8_reach (0 : Int32) f_o_rung b_ord a1 b_k1 p1 (0 : Int32)) (fun v2 a3 a4 a5 =>
  zd_12 (za_it (fun v => zb_X8_explore_26 p2 f_o_rung n f_c_top f_c_things f_c_tiresFrom f_c_tiresTo f_c_mayFrom f_c_mayTo b_c_bars b_c_gives b_c_rough b_c_code f_w_wind v.1 v.2.1 v.2.2.1 v.2.2.2.1 v.2.2.2.2.1 v.2.2.2.2.2.1 v.2.2.2.2.2.2.1 v.2.2.2.2.2.2.2.1 v.2.2.2.2.2.2.2.2.1 v.2.2.2.2.2.2.2.2.2.1 v.2.2.2.2.2.2.2.2.2.2) n ((0 : Int32), v2, f_m_found, b_w_told, b_w_facts, b_w_stack, b_m_deeds, b_m_ends, a3, a4, a5)) (fun g52 v41 v42 v43 a44 a45 a46 a47 a48 a49 a50 a51 =>
  some (v42, (-1 : Int32), v43, a44, a45, a46, a47, a48, a49, a50, a51))))
theorem zk_X8_explore : yX8_explore.cls = RX8 ∧ yX8_explore.cls ≠ "java/lang/invoke/MethodHandle" ∧ yX8_explore.cls ≠ "java/lang/invoke/VarHandle" ∧ (parseMethodDescriptor yX8_explore.desc).map (fun d => d.parameters.length) = some 2 := by decide +kernel
set_option maxHeartbeats 4000000 in
set_option maxRecDepth 100000 in
theorem zt_X8_explore (l : Launch) (dC : Nat → ClassId) (dI : Nat → Nat → Nat) (dA : Nat → ClassId) (adK adV : Nat → Nat) (sz : Nat) (a_o : Nat) (a_c : Nat) (a_m : Nat) (a_ord : Nat) (a_dep : Nat) (a_k1 : Nat) (a_k2 : Nat) (a_c_bars : Nat) (a_c_gives : Nat) (a_c_rough : Nat) (a_c_code : Nat) (a_w : Nat) (a_m_deeds : Nat) (a_m_ends : Nat) (a_w_told : Nat) (a_w_facts : Nat) (a_w_stack : Nat) (n : Nat) (f_o_size : Int32) (f_o_rung : Int32) (f_o_whole : Int64) (f_o_result : Int64) (f_o_firstDeed : Int32) (f_c_top : Int32) (f_c_things : Int32) (f_c_startRung : Int32) (f_c_startThings : Int32) (f_c_startStrength : Int32) (f_c_startWind : Int32) (f_c_slips : Int32) (f_c_lines : Int32) (f_c_coded : Int32) (f_c_tiresFrom : Int32) (f_c_tiresTo : Int32) (f_c_mayFrom : Int32) (f_c_mayTo : Int32) (f_m_found : Int32) (f_w_wind : Int32) (b_c_bars : (Nat → Int32)) (b_c_gives : (Nat → Int32)) (b_c_rough : (Nat → Int32)) (b_c_code : (Nat → Int32)) (b_w_told : (Nat → Int32)) (b_w_facts : (Nat → Int32)) (b_w_stack : (Nat → Int32)) (b_m_deeds : (Nat → Int32)) (b_m_ends : (Nat → Int32)) (b_ord : (Nat → Int32)) (b_dep : (Nat → Int32)) (b_k1 : (Nat → Int64)) (p1 : Int32) (p2 : Int32) (o1 : Int32) (o2 : Int32) (o3 : Int32) (o4 : (Nat → Int32)) (o5 : (Nat → Int32)) (o6 : (Nat → Int32)) (o7 : (Nat → Int32)) (o8 : (Nat → Int32)) (o9 : (Nat → Int32)) (o10 : (Nat → Int32)) (o11 : (Nat → Int64)) (hf : zf_X8_explore n f_o_size f_o_rung f_o_firstDeed f_c_top f_c_things f_c_tiresFrom f_c_tiresTo f_c_mayFrom f_c_mayTo b_c_bars b_c_gives b_c_rough b_c_code f_m_found f_w_wind b_w_told b_w_facts b_w_stack b_m_deeds b_m_ends b_ord b_dep b_k1 p1 p2 = some (o1, o2, o3, o4, o5, o6, o7, o8, o9, o10, o11)) : Met l yX8_explore (.code yX8_explore cX8_explore 5 none :: zq_T) ({ frames := 6, cells := 0, slots := 0, locals := 175 }) (va_Pc [.ref a_o, .int p1, .int p2] (zx_M dC dI dA adK adV [zo_X8 a_o a_c a_m a_ord a_dep f_o_size a_k1 a_k2 f_o_rung f_o_whole f_o_result f_o_firstDeed, zo_X0 a_c f_c_top f_c_things a_c_bars a_c_gives a_c_rough f_c_startRung f_c_startThings f_c_startStrength f_c_startWind f_c_slips f_c_lines a_c_code f_c_coded f_c_tiresFrom f_c_tiresTo f_c_mayFrom f_c_mayTo, (a_c_bars, .inl (dA 0, 9, .inl b_c_bars)), (a_c_gives, .inl (dA 0, 9, .inl b_c_gives)), (a_c_rough, .inl (dA 0, 9, .inl b_c_rough)), (a_c_code, .inl (dA 0, 900, .inl b_c_code)), zo_X3 a_m a_c a_w a_m_deeds a_m_ends f_m_found, zo_X2 a_w a_c a_w_told a_w_facts a_w_stack f_w_wind, (a_w_told, .inl (dA 0, 315, .inl b_w_told)), (a_w_facts, .inl (dA 0, 6, .inl b_w_facts)), (a_w_stack, .inl (dA 0, 64, .inl b_w_stack)), (a_m_deeds, .inl (dA 0, 9, .inl b_m_deeds)), (a_m_ends, .inl (dA 0, 9, .inl b_m_ends)), (a_ord, .inl (dA 0, 2880, .inl b_ord)), (a_dep, .inl (dA 0, 2880, .inl b_dep)), (a_k1, .inl (dA 1, 2880, .inr (.inl b_k1)))] sz)) (va_Qv (fun _ : Unit => True) (fun _ t => zz_B dC dI dA (va_A [zo_X8 a_o a_c a_m a_ord a_dep f_o_size a_k1 a_k2 f_o_rung f_o_whole f_o_result f_o_firstDeed, zo_X0 a_c f_c_top f_c_things a_c_bars a_c_gives a_c_rough f_c_startRung f_c_startThings f_c_startStrength f_c_startWind f_c_slips f_c_lines a_c_code f_c_coded f_c_tiresFrom f_c_tiresTo f_c_mayFrom f_c_mayTo, (a_c_bars, .inl (dA 0, 9, .inl b_c_bars)), (a_c_gives, .inl (dA 0, 9, .inl b_c_gives)), (a_c_rough, .inl (dA 0, 9, .inl b_c_rough)), (a_c_code, .inl (dA 0, 900, .inl b_c_code)), zo_X3 a_m a_c a_w a_m_deeds a_m_ends f_m_found, zo_X2 a_w a_c a_w_told a_w_facts a_w_stack f_w_wind, (a_w_told, .inl (dA 0, 315, .inl b_w_told)), (a_w_facts, .inl (dA 0, 6, .inl b_w_facts)), (a_w_stack, .inl (dA 0, 64, .inl b_w_stack)), (a_m_deeds, .inl (dA 0, 9, .inl b_m_deeds)), (a_m_ends, .inl (dA 0, 9, .inl b_m_ends)), (a_ord, .inl (dA 0, 2880, .inl b_ord)), (a_dep, .inl (dA 0, 2880, .inl b_dep)), (a_k1, .inl (dA 1, 2880, .inr (.inl b_k1)))] sz) [zo_X8 a_o a_c a_m a_ord a_dep o1 a_k1 a_k2 f_o_rung f_o_whole f_o_result o2, zo_X0 a_c f_c_top f_c_things a_c_bars a_c_gives a_c_rough f_c_startRung f_c_startThings f_c_startStrength f_c_startWind f_c_slips f_c_lines a_c_code f_c_coded f_c_tiresFrom f_c_tiresTo f_c_mayFrom f_c_mayTo, (a_c_bars, .inl (dA 0, 9, .inl b_c_bars)), (a_c_gives, .inl (dA 0, 9, .inl b_c_gives)), (a_c_rough, .inl (dA 0, 9, .inl b_c_rough)), (a_c_code, .inl (dA 0, 900, .inl b_c_code)), zo_X3 a_m a_c a_w a_m_deeds a_m_ends o3, zo_X2 a_w a_c a_w_told a_w_facts a_w_stack f_w_wind, (a_w_told, .inl (dA 0, 315, .inl o4)), (a_w_facts, .inl (dA 0, 6, .inl o5)), (a_w_stack, .inl (dA 0, 64, .inl o6)), (a_m_deeds, .inl (dA 0, 9, .inl o7)), (a_m_ends, .inl (dA 0, 9, .inl o8)), (a_ord, .inl (dA 0, 2880, .inl o9)), (a_dep, .inl (dA 0, 2880, .inl o10)), (a_k1, .inl (dA 1, 2880, .inr (.inl o11)))] t) (va_A [zo_X8 a_o a_c a_m a_ord a_dep f_o_size a_k1 a_k2 f_o_rung f_o_whole f_o_result f_o_firstDeed, zo_X0 a_c f_c_top f_c_things a_c_bars a_c_gives a_c_rough f_c_startRung f_c_startThings f_c_startStrength f_c_startWind f_c_slips f_c_lines a_c_code f_c_coded f_c_tiresFrom f_c_tiresTo f_c_mayFrom f_c_mayTo, (a_c_bars, .inl (dA 0, 9, .inl b_c_bars)), (a_c_gives, .inl (dA 0, 9, .inl b_c_gives)), (a_c_rough, .inl (dA 0, 9, .inl b_c_rough)), (a_c_code, .inl (dA 0, 900, .inl b_c_code)), zo_X3 a_m a_c a_w a_m_deeds a_m_ends f_m_found, zo_X2 a_w a_c a_w_told a_w_facts a_w_stack f_w_wind, (a_w_told, .inl (dA 0, 315, .inl b_w_told)), (a_w_facts, .inl (dA 0, 6, .inl b_w_facts)), (a_w_stack, .inl (dA 0, 64, .inl b_w_stack)), (a_m_deeds, .inl (dA 0, 9, .inl b_m_deeds)), (a_m_ends, .inl (dA 0, 9, .inl b_m_ends)), (a_ord, .inl (dA 0, 2880, .inl b_ord)), (a_dep, .inl (dA 0, 2880, .inl b_dep)), (a_k1, .inl (dA 1, 2880, .inr (.inl b_k1)))] sz)) 0 0 (va_A [zo_X8 a_o a_c a_m a_ord a_dep f_o_size a_k1 a_k2 f_o_rung f_o_whole f_o_result f_o_firstDeed, zo_X0 a_c f_c_top f_c_things a_c_bars a_c_gives a_c_rough f_c_startRung f_c_startThings f_c_startStrength f_c_startWind f_c_slips f_c_lines a_c_code f_c_coded f_c_tiresFrom f_c_tiresTo f_c_mayFrom f_c_mayTo, (a_c_bars, .inl (dA 0, 9, .inl b_c_bars)), (a_c_gives, .inl (dA 0, 9, .inl b_c_gives)), (a_c_rough, .inl (dA 0, 9, .inl b_c_rough)), (a_c_code, .inl (dA 0, 900, .inl b_c_code)), zo_X3 a_m a_c a_w a_m_deeds a_m_ends f_m_found, zo_X2 a_w a_c a_w_told a_w_facts a_w_stack f_w_wind, (a_w_told, .inl (dA 0, 315, .inl b_w_told)), (a_w_facts, .inl (dA 0, 6, .inl b_w_facts)), (a_w_stack, .inl (dA 0, 64, .inl b_w_stack)), (a_m_deeds, .inl (dA 0, 9, .inl b_m_deeds)), (a_m_ends, .inl (dA 0, 9, .inl b_m_ends)), (a_ord, .inl (dA 0, 2880, .inl b_ord)), (a_dep, .inl (dA 0, 2880, .inl b_dep)), (a_k1, .inl (dA 1, 2880, .inr (.inl b_k1)))] sz) := by
  unfold zf_X8_explore at hf
  refine Met.ofW (cc := cX8_explore) (maxL := 5) (ret := none) (by decide) rfl ?_
  intro p e s m args below meth c s₁ B hml hv
  obtain ⟨rfl, ⟨hsz, hP, hK, hD0⟩, hZ⟩ := hv
  have hx := B.exec
  have hb := B.bytes
  have hr := B.returns
  have ht : ∀ w ∈ zq_T, w.before ([.ref a_o, .int p1, .int p2] : List Value).toArray s = true := fun w hw => atoms_spec (ws := .code yX8_explore cX8_explore 5 none :: zq_T) B.pre w (List.mem_cons_of_mem _ hw)
  have hown : s.vm.findClass RX8 = some m.cls := findClass_of_methodNamed B.named
  have hlocks := B.notSynchronized
  subst hsz
  have hD := hD0.self (sz := s.heap.size)
  generalize hAe : va_A [zo_X8 a_o a_c a_m a_ord a_dep f_o_size a_k1 a_k2 f_o_rung f_o_whole f_o_result f_o_firstDeed, zo_X0 a_c f_c_top f_c_things a_c_bars a_c_gives a_c_rough f_c_startRung f_c_startThings f_c_startStrength f_c_startWind f_c_slips f_c_lines a_c_code f_c_coded f_c_tiresFrom f_c_tiresTo f_c_mayFrom f_c_mayTo, (a_c_bars, .inl (dA 0, 9, .inl b_c_bars)), (a_c_gives, .inl (dA 0, 9, .inl b_c_gives)), (a_c_rough, .inl (dA 0, 9, .inl b_c_rough)), (a_c_code, .inl (dA 0, 900, .inl b_c_code)), zo_X3 a_m a_c a_w a_m_deeds a_m_ends f_m_found, zo_X2 a_w a_c a_w_told a_w_facts a_w_stack f_w_wind, (a_w_told, .inl (dA 0, 315, .inl b_w_told)), (a_w_facts, .inl (dA 0, 6, .inl b_w_facts)), (a_w_stack, .inl (dA 0, 64, .inl b_w_stack)), (a_m_deeds, .inl (dA 0, 9, .inl b_m_deeds)), (a_m_ends, .inl (dA 0, 9, .inl b_m_ends)), (a_ord, .inl (dA 0, 2880, .inl b_ord)), (a_dep, .inl (dA 0, 2880, .inl b_dep)), (a_k1, .inl (dA 1, 2880, .inr (.inl b_k1)))] s.heap.size = A at hD hZ ⊢
  have hA : ∀ q : Nat, s.heap.size ≤ q → A q := fun q h => by rw [← hAe]; exact Or.inr h
  clear hAe hD0
  have hS : va_S A s.heap s.heap [] := va_S.rf
  have hl := lv_entry ([.ref a_o, .int p1, .int p2]) (n := 5) (Nat.le_of_ble_eq_true rfl)
  rw [lg_entry_eq]
  generalize (lg_sl ([.ref a_o, .int p1, .int p2]) ++ List.replicate (5 - (lg_sl ([.ref a_o, .int p1, .int p2])).length) Slot.unset).toArray = ls at hl ⊢
  have hl : lv_has ls 5 [(0, .ref a_o), (1, .int p1), (2, .int p2)] := hl
  refine lv_aload_n (pc := 0) hx hb dX8_explore_0 rfl (lv_at hl 0 rfl) ?_
  refine va_get (pc := 1) (D := (dC, dI)) (ci := 9) (v := .ref a_dep) (C := RX8) (T := TX8) (N := 11) hx hb ht zq_layX8 hown hK hP 0 rfl rfl 3 (by decide) (ht _ zq_538) (fun _ h9 => h9) rfl dX8_explore_1 ?_
  refine lv_iconst (v := (-1 : Int32)) (pc := 4) hx hb dX8_explore_4 (by decide) ?_
  obtain ⟨a1, ha1, hf⟩ := zc_1 hf
  refine zy_Tv (pc := 5) (wc := [(a_dep, .inl (dA 0, 2880, .inl b_dep))]) (wr := [zo_X8 a_o a_c a_m a_ord a_dep f_o_size a_k1 a_k2 f_o_rung f_o_whole f_o_result f_o_firstDeed, zo_X0 a_c f_c_top f_c_things a_c_bars a_c_gives a_c_rough f_c_startRung f_c_startThings f_c_startStrength f_c_startWind f_c_slips f_c_lines a_c_code f_c_coded f_c_tiresFrom f_c_tiresTo f_c_mayFrom f_c_mayTo, (a_c_bars, .inl (dA 0, 9, .inl b_c_bars)), (a_c_gives, .inl (dA 0, 9, .inl b_c_gives)), (a_c_rough, .inl (dA 0, 9, .inl b_c_rough)), (a_c_code, .inl (dA 0, 900, .inl b_c_code)), zo_X3 a_m a_c a_w a_m_deeds a_m_ends f_m_found, zo_X2 a_w a_c a_w_told a_w_facts a_w_stack f_w_wind, (a_w_told, .inl (dA 0, 315, .inl b_w_told)), (a_w_facts, .inl (dA 0, 6, .inl b_w_facts)), (a_w_stack, .inl (dA 0, 64, .inl b_w_stack)), (a_m_deeds, .inl (dA 0, 9, .inl b_m_deeds)), (a_m_ends, .inl (dA 0, 9, .inl b_m_ends)), (a_ord, .inl (dA 0, 2880, .inl b_ord)), (a_k1, .inl (dA 1, 2880, .inr (.inl b_k1)))]) (w1 := [(a_dep, .inl (dA 0, 2880, .inl a1))]) (As := [.ref a_dep, .int (-1 : Int32)]) (rest := []) ⟨hx, hb, hml, hown, ht⟩ (zt_J7_fill_53178 l dC dI dA adK adV _ a_dep 2880 n b_dep (-1 : Int32) a1 ha1) (va_cwS 2 ht (zq_X zq_553 zq_24 zq_25 zq_26) rfl rfl rfl zk_J7_fill_53178.2 ⟨Nat.le_of_ble_eq_true rfl, Nat.le_of_ble_eq_true rfl⟩) hK hP hD hS hA [14] [0, 1, 2, 3, 4, 5, 6, 7, 8, 9, 10, 11, 12, 13, 15] (by decide) (by decide) (by decide) rfl rfl rfl hl.1 (Nat.le_of_ble_eq_true rfl) dX8_explore_5 ⟨Nat.zero_le _, Nat.zero_le _⟩ rfl (fun H locs hP hD hS => ?_)
  have hP : va_P (dC, dI) zz_cls [zo_X8 a_o a_c a_m a_ord a_dep f_o_size a_k1 a_k2 f_o_rung f_o_whole f_o_result f_o_firstDeed, zo_X0 a_c f_c_top f_c_things a_c_bars a_c_gives a_c_rough f_c_startRung f_c_startThings f_c_startStrength f_c_startWind f_c_slips f_c_lines a_c_code f_c_coded f_c_tiresFrom f_c_tiresTo f_c_mayFrom f_c_mayTo, (a_c_bars, .inl (dA 0, 9, .inl b_c_bars)), (a_c_gives, .inl (dA 0, 9, .inl b_c_gives)), (a_c_rough, .inl (dA 0, 9, .inl b_c_rough)), (a_c_code, .inl (dA 0, 900, .inl b_c_code)), zo_X3 a_m a_c a_w a_m_deeds a_m_ends f_m_found, zo_X2 a_w a_c a_w_told a_w_facts a_w_stack f_w_wind, (a_w_told, .inl (dA 0, 315, .inl b_w_told)), (a_w_facts, .inl (dA 0, 6, .inl b_w_facts)), (a_w_stack, .inl (dA 0, 64, .inl b_w_stack)), (a_m_deeds, .inl (dA 0, 9, .inl b_m_deeds)), (a_m_ends, .inl (dA 0, 9, .inl b_m_ends)), (a_ord, .inl (dA 0, 2880, .inl b_ord)), (a_k1, .inl (dA 1, 2880, .inr (.inl b_k1))), (a_dep, .inl (dA 0, 2880, .inl a1))] H := hP
  have hD : va_D A [zo_X8 a_o a_c a_m a_ord a_dep f_o_size a_k1 a_k2 f_o_rung f_o_whole f_o_result f_o_firstDeed, zo_X0 a_c f_c_top f_c_things a_c_bars a_c_gives a_c_rough f_c_startRung f_c_startThings f_c_startStrength f_c_startWind f_c_slips f_c_lines a_c_code f_c_coded f_c_tiresFrom f_c_tiresTo f_c_mayFrom f_c_mayTo, (a_c_bars, .inl (dA 0, 9, .inl b_c_bars)), (a_c_gives, .inl (dA 0, 9, .inl b_c_gives)), (a_c_rough, .inl (dA 0, 9, .inl b_c_rough)), (a_c_code, .inl (dA 0, 900, .inl b_c_code)), zo_X3 a_m a_c a_w a_m_deeds a_m_ends f_m_found, zo_X2 a_w a_c a_w_told a_w_facts a_w_stack f_w_wind, (a_w_told, .inl (dA 0, 315, .inl b_w_told)), (a_w_facts, .inl (dA 0, 6, .inl b_w_facts)), (a_w_stack, .inl (dA 0, 64, .inl b_w_stack)), (a_m_deeds, .inl (dA 0, 9, .inl b_m_deeds)), (a_m_ends, .inl (dA 0, 9, .inl b_m_ends)), (a_ord, .inl (dA 0, 2880, .inl b_ord)), (a_k1, .inl (dA 1, 2880, .inr (.inl b_k1))), (a_dep, .inl (dA 0, 2880, .inl a1))] := hD
  refine lv_aload_n (pc := 8) hx hb dX8_explore_8 rfl (lv_at hl 0 rfl) ?_
  refine lv_iconst (v := (0 : Int32)) (pc := 9) hx hb dX8_explore_9 (by decide) ?_
  refine va_put (pc := 10) (D := (dC, dI)) (ci := 9) (v := .int (0 : Int32)) (ty := .int) (C := RX8) (T := TX8) (N := 11) hx hb ht zq_layX8 tyX8 tyX8_ok nmX8 hown hK hP hD hS 0 rfl rfl 4 (by decide) (ht _ zq_530) (fun _ h9 => h9) rfl (by decide +kernel) rfl rfl (Nat.le_of_ble_eq_true rfl) dX8_explore_10 (fun H locs hP hD hS => ?_)
  have hP : va_P (dC, dI) zz_cls [zo_X8 a_o a_c a_m a_ord a_dep (0 : Int32) a_k1 a_k2 f_o_rung f_o_whole f_o_result f_o_firstDeed, zo_X0 a_c f_c_top f_c_things a_c_bars a_c_gives a_c_rough f_c_startRung f_c_startThings f_c_startStrength f_c_startWind f_c_slips f_c_lines a_c_code f_c_coded f_c_tiresFrom f_c_tiresTo f_c_mayFrom f_c_mayTo, (a_c_bars, .inl (dA 0, 9, .inl b_c_bars)), (a_c_gives, .inl (dA 0, 9, .inl b_c_gives)), (a_c_rough, .inl (dA 0, 9, .inl b_c_rough)), (a_c_code, .inl (dA 0, 900, .inl b_c_code)), zo_X3 a_m a_c a_w a_m_deeds a_m_ends f_m_found, zo_X2 a_w a_c a_w_told a_w_facts a_w_stack f_w_wind, (a_w_told, .inl (dA 0, 315, .inl b_w_told)), (a_w_facts, .inl (dA 0, 6, .inl b_w_facts)), (a_w_stack, .inl (dA 0, 64, .inl b_w_stack)), (a_m_deeds, .inl (dA 0, 9, .inl b_m_deeds)), (a_m_ends, .inl (dA 0, 9, .inl b_m_ends)), (a_ord, .inl (dA 0, 2880, .inl b_ord)), (a_k1, .inl (dA 1, 2880, .inr (.inl b_k1))), (a_dep, .inl (dA 0, 2880, .inl a1))] H := hP
  have hD : va_D A [zo_X8 a_o a_c a_m a_ord a_dep (0 : Int32) a_k1 a_k2 f_o_rung f_o_whole f_o_result f_o_firstDeed, zo_X0 a_c f_c_top f_c_things a_c_bars a_c_gives a_c_rough f_c_startRung f_c_startThings f_c_startStrength f_c_startWind f_c_slips f_c_lines a_c_code f_c_coded f_c_tiresFrom f_c_tiresTo f_c_mayFrom f_c_mayTo, (a_c_bars, .inl (dA 0, 9, .inl b_c_bars)), (a_c_gives, .inl (dA 0, 9, .inl b_c_gives)), (a_c_rough, .inl (dA 0, 9, .inl b_c_rough)), (a_c_code, .inl (dA 0, 900, .inl b_c_code)), zo_X3 a_m a_c a_w a_m_deeds a_m_ends f_m_found, zo_X2 a_w a_c a_w_told a_w_facts a_w_stack f_w_wind, (a_w_told, .inl (dA 0, 315, .inl b_w_told)), (a_w_facts, .inl (dA 0, 6, .inl b_w_facts)), (a_w_stack, .inl (dA 0, 64, .inl b_w_stack)), (a_m_deeds, .inl (dA 0, 9, .inl b_m_deeds)), (a_m_ends, .inl (dA 0, 9, .inl b_m_ends)), (a_ord, .inl (dA 0, 2880, .inl b_ord)), (a_k1, .inl (dA 1, 2880, .inr (.inl b_k1))), (a_dep, .inl (dA 0, 2880, .inl a1))] := hD
  refine lv_aload_n (pc := 13) hx hb dX8_explore_13 rfl (lv_at hl 0 rfl) ?_
  refine lv_iconst (v := (-1 : Int32)) (pc := 14) hx hb dX8_explore_14 (by decide) ?_
  refine va_put (pc := 15) (D := (dC, dI)) (ci := 9) (v := .int (-1 : Int32)) (ty := .int) (C := RX8) (T := TX8) (N := 11) hx hb ht zq_layX8 tyX8 tyX8_ok nmX8 hown hK hP hD hS 0 rfl rfl 10 (by decide) (ht _ zq_534) (fun _ h9 => h9) rfl (by decide +kernel) rfl rfl (Nat.le_of_ble_eq_true rfl) dX8_explore_15 (fun H locs hP hD hS => ?_)
  have hP : va_P (dC, dI) zz_cls [zo_X8 a_o a_c a_m a_ord a_dep (0 : Int32) a_k1 a_k2 f_o_rung f_o_whole f_o_result (-1 : Int32), zo_X0 a_c f_c_top f_c_things a_c_bars a_c_gives a_c_rough f_c_startRung f_c_startThings f_c_startStrength f_c_startWind f_c_slips f_c_lines a_c_code f_c_coded f_c_tiresFrom f_c_tiresTo f_c_mayFrom f_c_mayTo, (a_c_bars, .inl (dA 0, 9, .inl b_c_bars)), (a_c_gives, .inl (dA 0, 9, .inl b_c_gives)), (a_c_rough, .inl (dA 0, 9, .inl b_c_rough)), (a_c_code, .inl (dA 0, 900, .inl b_c_code)), zo_X3 a_m a_c a_w a_m_deeds a_m_ends f_m_found, zo_X2 a_w a_c a_w_told a_w_facts a_w_stack f_w_wind, (a_w_told, .inl (dA 0, 315, .inl b_w_told)), (a_w_facts, .inl (dA 0, 6, .inl b_w_facts)), (a_w_stack, .inl (dA 0, 64, .inl b_w_stack)), (a_m_deeds, .inl (dA 0, 9, .inl b_m_deeds)), (a_m_ends, .inl (dA 0, 9, .inl b_m_ends)), (a_ord, .inl (dA 0, 2880, .inl b_ord)), (a_k1, .inl (dA 1, 2880, .inr (.inl b_k1))), (a_dep, .inl (dA 0, 2880, .inl a1))] H := hP
  have hD : va_D A [zo_X8 a_o a_c a_m a_ord a_dep (0 : Int32) a_k1 a_k2 f_o_rung f_o_whole f_o_result (-1 : Int32), zo_X0 a_c f_c_top f_c_things a_c_bars a_c_gives a_c_rough f_c_startRung f_c_startThings f_c_startStrength f_c_startWind f_c_slips f_c_lines a_c_code f_c_coded f_c_tiresFrom f_c_tiresTo f_c_mayFrom f_c_mayTo, (a_c_bars, .inl (dA 0, 9, .inl b_c_bars)), (a_c_gives, .inl (dA 0, 9, .inl b_c_gives)), (a_c_rough, .inl (dA 0, 9, .inl b_c_rough)), (a_c_code, .inl (dA 0, 900, .inl b_c_code)), zo_X3 a_m a_c a_w a_m_deeds a_m_ends f_m_found, zo_X2 a_w a_c a_w_told a_w_facts a_w_stack f_w_wind, (a_w_told, .inl (dA 0, 315, .inl b_w_told)), (a_w_facts, .inl (dA 0, 6, .inl b_w_facts)), (a_w_stack, .inl (dA 0, 64, .inl b_w_stack)), (a_m_deeds, .inl (dA 0, 9, .inl b_m_deeds)), (a_m_ends, .inl (dA 0, 9, .inl b_m_ends)), (a_ord, .inl (dA 0, 2880, .inl b_ord)), (a_k1, .inl (dA 1, 2880, .inr (.inl b_k1))), (a_dep, .inl (dA 0, 2880, .inl a1))] := hD
  refine lv_aload_n (pc := 18) hx hb dX8_explore_18 rfl (lv_at hl 0 rfl) ?_
  refine lv_iload_n (pc := 19) hx hb dX8_explore_19 rfl (lv_at hl 1 rfl) ?_
  refine lv_iconst (v := (0 : Int32)) (pc := 20) hx hb dX8_explore_20 (by decide) ?_
  obtain ⟨v2, a3, a4, a5, hv2, hf⟩ := zc_4 hf
  refine zx_Vv (pc := 21) (wc := [zo_X8 a_o a_c a_m a_ord a_dep (0 : Int32) a_k1 a_k2 f_o_rung f_o_whole f_o_result (-1 : Int32), (a_ord, .inl (dA 0, 2880, .inl b_ord)), (a_dep, .inl (dA 0, 2880, .inl a1)), (a_k1, .inl (dA 1, 2880, .inr (.inl b_k1)))]) (wr := [zo_X0 a_c f_c_top f_c_things a_c_bars a_c_gives a_c_rough f_c_startRung f_c_startThings f_c_startStrength f_c_startWind f_c_slips f_c_lines a_c_code f_c_coded f_c_tiresFrom f_c_tiresTo f_c_mayFrom f_c_mayTo, (a_c_bars, .inl (dA 0, 9, .inl b_c_bars)), (a_c_gives, .inl (dA 0, 9, .inl b_c_gives)), (a_c_rough, .inl (dA 0, 9, .inl b_c_rough)), (a_c_code, .inl (dA 0, 900, .inl b_c_code)), zo_X3 a_m a_c a_w a_m_deeds a_m_ends f_m_found, zo_X2 a_w a_c a_w_told a_w_facts a_w_stack f_w_wind, (a_w_told, .inl (dA 0, 315, .inl b_w_told)), (a_w_facts, .inl (dA 0, 6, .inl b_w_facts)), (a_w_stack, .inl (dA 0, 64, .inl b_w_stack)), (a_m_deeds, .inl (dA 0, 9, .inl b_m_deeds)), (a_m_ends, .inl (dA 0, 9, .inl b_m_ends))]) (w1 := [zo_X8 a_o a_c a_m a_ord a_dep v2 a_k1 a_k2 f_o_rung f_o_whole f_o_result (-1 : Int32), (a_ord, .inl (dA 0, 2880, .inl a3)), (a_dep, .inl (dA 0, 2880, .inl a4)), (a_k1, .inl (dA 1, 2880, .inr (.inl a5)))]) (As := [.int p1, .int (0 : Int32)]) (rest := []) ⟨hx, hb, hml, hown, ht⟩ (zt_X8_reach l dC dI dA adK adV _ a_o a_c a_m a_ord a_dep a_k1 a_k2 (0 : Int32) f_o_rung f_o_whole f_o_result (-1 : Int32) b_ord a1 b_k1 p1 (0 : Int32) v2 a3 a4 a5 hv2) (cwV 2 ht (zq_V zq_546 zq_547 zq_548 zq_549 zq_541) rfl rfl rfl zk_X8_reach ⟨Nat.le_of_ble_eq_true rfl, Nat.le_of_ble_eq_true rfl⟩) rfl rfl hZ hK hP hD hS hA [0, 13, 15, 14] [1, 2, 3, 4, 5, 6, 7, 8, 9, 10, 11, 12] (by decide) (by decide) (by decide) rfl rfl rfl hl.1 (Nat.le_of_ble_eq_true rfl) dX8_explore_21 ⟨Nat.zero_le _, Nat.zero_le _⟩ rfl (fun H locs hP hD hS => ?_)
  have hP : va_P (dC, dI) zz_cls [zo_X0 a_c f_c_top f_c_things a_c_bars a_c_gives a_c_rough f_c_startRung f_c_startThings f_c_startStrength f_c_startWind f_c_slips f_c_lines a_c_code f_c_coded f_c_tiresFrom f_c_tiresTo f_c_mayFrom f_c_mayTo, (a_c_bars, .inl (dA 0, 9, .inl b_c_bars)), (a_c_gives, .inl (dA 0, 9, .inl b_c_gives)), (a_c_rough, .inl (dA 0, 9, .inl b_c_rough)), (a_c_code, .inl (dA 0, 900, .inl b_c_code)), zo_X3 a_m a_c a_w a_m_deeds a_m_ends f_m_found, zo_X2 a_w a_c a_w_told a_w_facts a_w_stack f_w_wind, (a_w_told, .inl (dA 0, 315, .inl b_w_told)), (a_w_facts, .inl (dA 0, 6, .inl b_w_facts)), (a_w_stack, .inl (dA 0, 64, .inl b_w_stack)), (a_m_deeds, .inl (dA 0, 9, .inl b_m_deeds)), (a_m_ends, .inl (dA 0, 9, .inl b_m_ends)), zo_X8 a_o a_c a_m a_ord a_dep v2 a_k1 a_k2 f_o_rung f_o_whole f_o_result (-1 : Int32), (a_ord, .inl (dA 0, 2880, .inl a3)), (a_dep, .inl (dA 0, 2880, .inl a4)), (a_k1, .inl (dA 1, 2880, .inr (.inl a5)))] H := hP
  have hD : va_D A [zo_X0 a_c f_c_top f_c_things a_c_bars a_c_gives a_c_rough f_c_startRung f_c_startThings f_c_startStrength f_c_startWind f_c_slips f_c_lines a_c_code f_c_coded f_c_tiresFrom f_c_tiresTo f_c_mayFrom f_c_mayTo, (a_c_bars, .inl (dA 0, 9, .inl b_c_bars)), (a_c_gives, .inl (dA 0, 9, .inl b_c_gives)), (a_c_rough, .inl (dA 0, 9, .inl b_c_rough)), (a_c_code, .inl (dA 0, 900, .inl b_c_code)), zo_X3 a_m a_c a_w a_m_deeds a_m_ends f_m_found, zo_X2 a_w a_c a_w_told a_w_facts a_w_stack f_w_wind, (a_w_told, .inl (dA 0, 315, .inl b_w_told)), (a_w_facts, .inl (dA 0, 6, .inl b_w_facts)), (a_w_stack, .inl (dA 0, 64, .inl b_w_stack)), (a_m_deeds, .inl (dA 0, 9, .inl b_m_deeds)), (a_m_ends, .inl (dA 0, 9, .inl b_m_ends)), zo_X8 a_o a_c a_m a_ord a_dep v2 a_k1 a_k2 f_o_rung f_o_whole f_o_result (-1 : Int32), (a_ord, .inl (dA 0, 2880, .inl a3)), (a_dep, .inl (dA 0, 2880, .inl a4)), (a_k1, .inl (dA 1, 2880, .inr (.inl a5)))] := hD
  refine lv_iconst (v := (0 : Int32)) (pc := 24) hx hb dX8_explore_24 (by decide) ?_
  refine lv_istore_n (lv' := [(3, .int (0 : Int32)), (0, .ref a_o), (1, .int p1), (2, .int p2)]) (pc := 25) hx hb dX8_explore_25 rfl hl (by decide) rfl (fun ls hl => ?_)
  obtain ⟨g52, v41, v42, v43, a44, a45, a46, a47, a48, a49, a50, a51, hj, hf⟩ := zc_12 hf
  refine zj_join (pcJ := 84) (stk := []) (X := fun H locs ls => lv_has ls 5 [] ∧ va_P (dC, dI) zz_cls [zo_X8 a_o a_c a_m a_ord a_dep v42 a_k1 a_k2 f_o_rung f_o_whole f_o_result (-1 : Int32), zo_X0 a_c f_c_top f_c_things a_c_bars a_c_gives a_c_rough f_c_startRung f_c_startThings f_c_startStrength f_c_startWind f_c_slips f_c_lines a_c_code f_c_coded f_c_tiresFrom f_c_tiresTo f_c_mayFrom f_c_mayTo, (a_c_bars, .inl (dA 0, 9, .inl b_c_bars)), (a_c_gives, .inl (dA 0, 9, .inl b_c_gives)), (a_c_rough, .inl (dA 0, 9, .inl b_c_rough)), (a_c_code, .inl (dA 0, 900, .inl b_c_code)), zo_X3 a_m a_c a_w a_m_deeds a_m_ends v43, zo_X2 a_w a_c a_w_told a_w_facts a_w_stack f_w_wind, (a_w_told, .inl (dA 0, 315, .inl a44)), (a_w_facts, .inl (dA 0, 6, .inl a45)), (a_w_stack, .inl (dA 0, 64, .inl a46)), (a_m_deeds, .inl (dA 0, 9, .inl a47)), (a_m_ends, .inl (dA 0, 9, .inl a48)), (a_ord, .inl (dA 0, 2880, .inl a49)), (a_dep, .inl (dA 0, 2880, .inl a50)), (a_k1, .inl (dA 1, 2880, .inr (.inl a51)))] H ∧ va_D A [zo_X8 a_o a_c a_m a_ord a_dep v42 a_k1 a_k2 f_o_rung f_o_whole f_o_result (-1 : Int32), zo_X0 a_c f_c_top f_c_things a_c_bars a_c_gives a_c_rough f_c_startRung f_c_startThings f_c_startStrength f_c_startWind f_c_slips f_c_lines a_c_code f_c_coded f_c_tiresFrom f_c_tiresTo f_c_mayFrom f_c_mayTo, (a_c_bars, .inl (dA 0, 9, .inl b_c_bars)), (a_c_gives, .inl (dA 0, 9, .inl b_c_gives)), (a_c_rough, .inl (dA 0, 9, .inl b_c_rough)), (a_c_code, .inl (dA 0, 900, .inl b_c_code)), zo_X3 a_m a_c a_w a_m_deeds a_m_ends v43, zo_X2 a_w a_c a_w_told a_w_facts a_w_stack f_w_wind, (a_w_told, .inl (dA 0, 315, .inl a44)), (a_w_facts, .inl (dA 0, 6, .inl a45)), (a_w_stack, .inl (dA 0, 64, .inl a46)), (a_m_deeds, .inl (dA 0, 9, .inl a47)), (a_m_ends, .inl (dA 0, 9, .inl a48)), (a_ord, .inl (dA 0, 2880, .inl a49)), (a_dep, .inl (dA 0, 2880, .inl a50)), (a_k1, .inl (dA 1, 2880, .inr (.inl a51)))] ∧ va_S A s.heap H locs) (fun H locs ls hX => ?_) (fun E84 => ?_)
  · obtain ⟨hl, hP, hD, hS⟩ := hX
    clear hj
    obtain ⟨rfl, rfl, rfl, rfl, rfl, rfl, rfl, rfl, rfl, rfl, rfl⟩ := zi_11 hf
    exact W.vret (pc := 84) hx hb hr (fun t ht hW => ⟨⟨(), rfl, trivial, zz_Bi (by rw [ht]; exact hP) (va_K.moved hW.alike hK) (hD)⟩, hS.F ht⟩) hS.2.2 dX8_explore_84
  clear hf
  refine zw_loop (pcH := 26) (X := fun v H locs ls => lv_has ls 5 [(0, .ref a_o), (2, .int p2), (3, .int v.1)] ∧ va_P (dC, dI) zz_cls [zo_X8 a_o a_c a_m a_ord a_dep v.2.1 a_k1 a_k2 f_o_rung f_o_whole f_o_result (-1 : Int32), zo_X0 a_c f_c_top f_c_things a_c_bars a_c_gives a_c_rough f_c_startRung f_c_startThings f_c_startStrength f_c_startWind f_c_slips f_c_lines a_c_code f_c_coded f_c_tiresFrom f_c_tiresTo f_c_mayFrom f_c_mayTo, (a_c_bars, .inl (dA 0, 9, .inl b_c_bars)), (a_c_gives, .inl (dA 0, 9, .inl b_c_gives)), (a_c_rough, .inl (dA 0, 9, .inl b_c_rough)), (a_c_code, .inl (dA 0, 900, .inl b_c_code)), zo_X3 a_m a_c a_w a_m_deeds a_m_ends v.2.2.1, zo_X2 a_w a_c a_w_told a_w_facts a_w_stack f_w_wind, (a_w_told, .inl (dA 0, 315, .inl v.2.2.2.1)), (a_w_facts, .inl (dA 0, 6, .inl v.2.2.2.2.1)), (a_w_stack, .inl (dA 0, 64, .inl v.2.2.2.2.2.1)), (a_m_deeds, .inl (dA 0, 9, .inl v.2.2.2.2.2.2.1)), (a_m_ends, .inl (dA 0, 9, .inl v.2.2.2.2.2.2.2.1)), (a_ord, .inl (dA 0, 2880, .inl v.2.2.2.2.2.2.2.2.1)), (a_dep, .inl (dA 0, 2880, .inl v.2.2.2.2.2.2.2.2.2.1)), (a_k1, .inl (dA 1, 2880, .inr (.inl v.2.2.2.2.2.2.2.2.2.2)))] H ∧ va_D A [zo_X8 a_o a_c a_m a_ord a_dep v.2.1 a_k1 a_k2 f_o_rung f_o_whole f_o_result (-1 : Int32), zo_X0 a_c f_c_top f_c_things a_c_bars a_c_gives a_c_rough f_c_startRung f_c_startThings f_c_startStrength f_c_startWind f_c_slips f_c_lines a_c_code f_c_coded f_c_tiresFrom f_c_tiresTo f_c_mayFrom f_c_mayTo, (a_c_bars, .inl (dA 0, 9, .inl b_c_bars)), (a_c_gives, .inl (dA 0, 9, .inl b_c_gives)), (a_c_rough, .inl (dA 0, 9, .inl b_c_rough)), (a_c_code, .inl (dA 0, 900, .inl b_c_code)), zo_X3 a_m a_c a_w a_m_deeds a_m_ends v.2.2.1, zo_X2 a_w a_c a_w_told a_w_facts a_w_stack f_w_wind, (a_w_told, .inl (dA 0, 315, .inl v.2.2.2.1)), (a_w_facts, .inl (dA 0, 6, .inl v.2.2.2.2.1)), (a_w_stack, .inl (dA 0, 64, .inl v.2.2.2.2.2.1)), (a_m_deeds, .inl (dA 0, 9, .inl v.2.2.2.2.2.2.1)), (a_m_ends, .inl (dA 0, 9, .inl v.2.2.2.2.2.2.2.1)), (a_ord, .inl (dA 0, 2880, .inl v.2.2.2.2.2.2.2.2.1)), (a_dep, .inl (dA 0, 2880, .inl v.2.2.2.2.2.2.2.2.2.1)), (a_k1, .inl (dA 1, 2880, .inr (.inl v.2.2.2.2.2.2.2.2.2.2)))] ∧ va_S A s.heap H locs) hj (fun v w hf ih ex H locs ls hX => ?_) _ _ _ ⟨lv_sub hl [1, 3, 0] rfl, hP.sub [12, 0, 1, 2, 3, 4, 5, 6, 7, 8, 9, 10, 11, 13, 14, 15] rfl, hD.sub [12, 0, 1, 2, 3, 4, 5, 6, 7, 8, 9, 10, 11, 13, 14, 15] (by decide) rfl, hS⟩
  clear hj
  obtain ⟨v6, v7, v8, a9, a10, a11, a12, a13, a14, a15, a16⟩ := v
  obtain ⟨hl, hP, hD, hS⟩ := hX
  have hl : lv_has ls 5 [(0, .ref a_o), (2, .int p2), (3, .int v6)] := hl
  have hP : va_P (dC, dI) zz_cls [zo_X8 a_o a_c a_m a_ord a_dep v7 a_k1 a_k2 f_o_rung f_o_whole f_o_result (-1 : Int32), zo_X0 a_c f_c_top f_c_things a_c_bars a_c_gives a_c_rough f_c_startRung f_c_startThings f_c_startStrength f_c_startWind f_c_slips f_c_lines a_c_code f_c_coded f_c_tiresFrom f_c_tiresTo f_c_mayFrom f_c_mayTo, (a_c_bars, .inl (dA 0, 9, .inl b_c_bars)), (a_c_gives, .inl (dA 0, 9, .inl b_c_gives)), (a_c_rough, .inl (dA 0, 9, .inl b_c_rough)), (a_c_code, .inl (dA 0, 900, .inl b_c_code)), zo_X3 a_m a_c a_w a_m_deeds a_m_ends v8, zo_X2 a_w a_c a_w_told a_w_facts a_w_stack f_w_wind, (a_w_told, .inl (dA 0, 315, .inl a9)), (a_w_facts, .inl (dA 0, 6, .inl a10)), (a_w_stack, .inl (dA 0, 64, .inl a11)), (a_m_deeds, .inl (dA 0, 9, .inl a12)), (a_m_ends, .inl (dA 0, 9, .inl a13)), (a_ord, .inl (dA 0, 2880, .inl a14)), (a_dep, .inl (dA 0, 2880, .inl a15)), (a_k1, .inl (dA 1, 2880, .inr (.inl a16)))] H := hP
  have hD : va_D A [zo_X8 a_o a_c a_m a_ord a_dep v7 a_k1 a_k2 f_o_rung f_o_whole f_o_result (-1 : Int32), zo_X0 a_c f_c_top f_c_things a_c_bars a_c_gives a_c_rough f_c_startRung f_c_startThings f_c_startStrength f_c_startWind f_c_slips f_c_lines a_c_code f_c_coded f_c_tiresFrom f_c_tiresTo f_c_mayFrom f_c_mayTo, (a_c_bars, .inl (dA 0, 9, .inl b_c_bars)), (a_c_gives, .inl (dA 0, 9, .inl b_c_gives)), (a_c_rough, .inl (dA 0, 9, .inl b_c_rough)), (a_c_code, .inl (dA 0, 900, .inl b_c_code)), zo_X3 a_m a_c a_w a_m_deeds a_m_ends v8, zo_X2 a_w a_c a_w_told a_w_facts a_w_stack f_w_wind, (a_w_told, .inl (dA 0, 315, .inl a9)), (a_w_facts, .inl (dA 0, 6, .inl a10)), (a_w_stack, .inl (dA 0, 64, .inl a11)), (a_m_deeds, .inl (dA 0, 9, .inl a12)), (a_m_ends, .inl (dA 0, 9, .inl a13)), (a_ord, .inl (dA 0, 2880, .inl a14)), (a_dep, .inl (dA 0, 2880, .inl a15)), (a_k1, .inl (dA 1, 2880, .inr (.inl a16)))] := hD
  replace hf : zb_X8_explore_26 p2 f_o_rung n f_c_top f_c_things f_c_tiresFrom f_c_tiresTo f_c_mayFrom f_c_mayTo b_c_bars b_c_gives b_c_rough b_c_code f_w_wind v6 v7 v8 a9 a10 a11 a12 a13 a14 a15 a16 = some w := hf
  unfold zb_X8_explore_26 at hf
  refine lv_iload_n (pc := 26) hx hb dX8_explore_26 rfl (lv_at hl 2 rfl) ?_
  refine lv_aload_n (pc := 27) hx hb dX8_explore_27 rfl (lv_at hl 0 rfl) ?_
  refine va_get (pc := 28) (D := (dC, dI)) (ci := 9) (v := .int v7) (C := RX8) (T := TX8) (N := 11) hx hb ht zq_layX8 hown hK hP 0 rfl rfl 4 (by decide) (ht _ zq_530) (fun _ h9 => h9) rfl dX8_explore_28 ?_
  refine lv_icmp_ge (tgt := 84) (pc := 31) hx hb dX8_explore_31 rfl (fun hc => ?_) (fun hc => ?_)
  · have hf := za_t hf hc
    obtain rfl := Option.some.inj hf
    obtain ⟨rfl, rfl, rfl, rfl, rfl, rfl, rfl, rfl, rfl, rfl, rfl, rfl⟩ := zp_12 (ex (show ¬ (1 : Nat) = 0 by decide))
    exact E84 _ _ _ ⟨lv_sub hl [] rfl, hP, hD, hS⟩
  · have hf := za_f hf hc
    refine lv_iload_n (pc := 34) hx hb dX8_explore_34 rfl (lv_at hl 2 rfl) ?_
    refine lv_sipush (v := (2880 : Int32)) (pc := 35) hx hb dX8_explore_35 (by decide) ?_
    refine lv_icmp_ge (tgt := 84) (pc := 38) hx hb dX8_explore_38 rfl (fun hc => ?_) (fun hc => ?_)
    · have hf := za_t hf hc
      obtain rfl := Option.some.inj hf
      obtain ⟨rfl, rfl, rfl, rfl, rfl, rfl, rfl, rfl, rfl, rfl, rfl, rfl⟩ := zp_12 (ex (show ¬ (1 : Nat) = 0 by decide))
      exact E84 _ _ _ ⟨lv_sub hl [] rfl, hP, hD, hS⟩
    · have hf := za_f hf hc
      refine lv_aload_n (pc := 41) hx hb dX8_explore_41 rfl (lv_at hl 0 rfl) ?_
      refine va_get (pc := 42) (D := (dC, dI)) (ci := 9) (v := .ref a_ord) (C := RX8) (T := TX8) (N := 11) hx hb ht zq_layX8 hown hK hP 0 rfl rfl 2 (by decide) (ht _ zq_537) (fun _ h9 => h9) rfl dX8_explore_42 ?_
      refine lv_iload_n (pc := 45) hx hb dX8_explore_45 rfl (lv_at hl 2 rfl) ?_
      obtain ⟨v17, hv17, hf⟩ := zc_1 hf
      refine zw_iald (pc := 46) hx hb hK hP 13 0 rfl rfl hv17 dX8_explore_46 ?_
      refine lv_istore (lv' := [(4, .int v17), (0, .ref a_o), (2, .int p2), (3, .int v6)]) (pc := 47) hx hb dX8_explore_47 hl (by decide) rfl (fun ls hl => ?_)
      refine lv_aload_n (pc := 49) hx hb dX8_explore_49 rfl (lv_at hl 1 rfl) ?_
      refine va_get (pc := 50) (D := (dC, dI)) (ci := 9) (v := .ref a_dep) (C := RX8) (T := TX8) (N := 11) hx hb ht zq_layX8 hown hK hP 0 rfl rfl 3 (by decide) (ht _ zq_538) (fun _ h9 => h9) rfl dX8_explore_50 ?_
      refine lv_iload (pc := 53) hx hb dX8_explore_53 (lv_at hl 0 rfl) ?_
      obtain ⟨v18, hv18, hf⟩ := zc_1 hf
      refine zw_iald (pc := 55) hx hb hK hP 14 0 rfl rfl hv18 dX8_explore_55 ?_
      refine lv_iload_n (pc := 56) hx hb dX8_explore_56 rfl (lv_at hl 2 rfl) ?_
      obtain ⟨v30, v31, a32, a33, a34, a35, a36, a37, a38, a39, hj, hf⟩ := zc_10 hf
      refine zj_join (pcJ := 78) (stk := []) (X := fun H locs ls => lv_has ls 5 [(0, .ref a_o), (2, .int p2), (3, .int v6)] ∧ va_P (dC, dI) zz_cls [zo_X8 a_o a_c a_m a_ord a_dep v30 a_k1 a_k2 f_o_rung f_o_whole f_o_result (-1 : Int32), zo_X0 a_c f_c_top f_c_things a_c_bars a_c_gives a_c_rough f_c_startRung f_c_startThings f_c_startStrength f_c_startWind f_c_slips f_c_lines a_c_code f_c_coded f_c_tiresFrom f_c_tiresTo f_c_mayFrom f_c_mayTo, (a_c_bars, .inl (dA 0, 9, .inl b_c_bars)), (a_c_gives, .inl (dA 0, 9, .inl b_c_gives)), (a_c_rough, .inl (dA 0, 9, .inl b_c_rough)), (a_c_code, .inl (dA 0, 900, .inl b_c_code)), zo_X3 a_m a_c a_w a_m_deeds a_m_ends v31, zo_X2 a_w a_c a_w_told a_w_facts a_w_stack f_w_wind, (a_w_told, .inl (dA 0, 315, .inl a32)), (a_w_facts, .inl (dA 0, 6, .inl a33)), (a_w_stack, .inl (dA 0, 64, .inl a34)), (a_m_deeds, .inl (dA 0, 9, .inl a35)), (a_m_ends, .inl (dA 0, 9, .inl a36)), (a_ord, .inl (dA 0, 2880, .inl a37)), (a_dep, .inl (dA 0, 2880, .inl a38)), (a_k1, .inl (dA 1, 2880, .inr (.inl a39)))] H ∧ va_D A [zo_X8 a_o a_c a_m a_ord a_dep v30 a_k1 a_k2 f_o_rung f_o_whole f_o_result (-1 : Int32), zo_X0 a_c f_c_top f_c_things a_c_bars a_c_gives a_c_rough f_c_startRung f_c_startThings f_c_startStrength f_c_startWind f_c_slips f_c_lines a_c_code f_c_coded f_c_tiresFrom f_c_tiresTo f_c_mayFrom f_c_mayTo, (a_c_bars, .inl (dA 0, 9, .inl b_c_bars)), (a_c_gives, .inl (dA 0, 9, .inl b_c_gives)), (a_c_rough, .inl (dA 0, 9, .inl b_c_rough)), (a_c_code, .inl (dA 0, 900, .inl b_c_code)), zo_X3 a_m a_c a_w a_m_deeds a_m_ends v31, zo_X2 a_w a_c a_w_told a_w_facts a_w_stack f_w_wind, (a_w_told, .inl (dA 0, 315, .inl a32)), (a_w_facts, .inl (dA 0, 6, .inl a33)), (a_w_stack, .inl (dA 0, 64, .inl a34)), (a_m_deeds, .inl (dA 0, 9, .inl a35)), (a_m_ends, .inl (dA 0, 9, .inl a36)), (a_ord, .inl (dA 0, 2880, .inl a37)), (a_dep, .inl (dA 0, 2880, .inl a38)), (a_k1, .inl (dA 1, 2880, .inr (.inl a39)))] ∧ va_S A s.heap H locs) (fun H locs ls hX => ?_) (fun J78 => ?_)
      · obtain ⟨hl, hP, hD, hS⟩ := hX
        clear hj
        obtain ⟨v40, hv40, hf⟩ := zc_1 hf
        refine lv_iinc (v := v40) (lv' := [(3, .int v40), (0, .ref a_o), (2, .int p2)]) (k := 2) (pc := 78) hx hb dX8_explore_78 hl rfl (Option.some.inj hv40) (by decide) rfl (fun ls hl => ?_)
        refine lv_goto (tgt := 26) (pc := 81) hx hb dX8_explore_81 rfl ?_
        obtain rfl := Option.some.inj hf
        exact ih rfl _ _ _ ⟨lv_sub hl [1, 2, 0] rfl, hP, hD, hS⟩
      · clear hf
        have hf := hj
        clear hj
        refine lv_icmp_ge (tgt := 78) (pc := 57) hx hb dX8_explore_57 rfl (fun hc => ?_) (fun hc => ?_)
        · have hf := za_t hf hc
          obtain ⟨rfl, rfl, rfl, rfl, rfl, rfl, rfl, rfl, rfl, rfl⟩ := zi_10 hf
          exact J78 _ _ _ ⟨lv_sub hl [1, 2, 3] rfl, hP, hD, hS⟩
        · have hf := za_f hf hc
          refine lv_iload (pc := 60) hx hb dX8_explore_60 (lv_at hl 0 rfl) ?_
          obtain ⟨v19, hv19, hf⟩ := zc_1 hf
          refine zx_Ni (pc := 62) (wc := []) (wr := [zo_X8 a_o a_c a_m a_ord a_dep v7 a_k1 a_k2 f_o_rung f_o_whole f_o_result (-1 : Int32), zo_X0 a_c f_c_top f_c_things a_c_bars a_c_gives a_c_rough f_c_startRung f_c_startThings f_c_startStrength f_c_startWind f_c_slips f_c_lines a_c_code f_c_coded f_c_tiresFrom f_c_tiresTo f_c_mayFrom f_c_mayTo, (a_c_bars, .inl (dA 0, 9, .inl b_c_bars)), (a_c_gives, .inl (dA 0, 9, .inl b_c_gives)), (a_c_rough, .inl (dA 0, 9, .inl b_c_rough)), (a_c_code, .inl (dA 0, 900, .inl b_c_code)), zo_X3 a_m a_c a_w a_m_deeds a_m_ends v8, zo_X2 a_w a_c a_w_told a_w_facts a_w_stack f_w_wind, (a_w_told, .inl (dA 0, 315, .inl a9)), (a_w_facts, .inl (dA 0, 6, .inl a10)), (a_w_stack, .inl (dA 0, 64, .inl a11)), (a_m_deeds, .inl (dA 0, 9, .inl a12)), (a_m_ends, .inl (dA 0, 9, .inl a13)), (a_ord, .inl (dA 0, 2880, .inl a14)), (a_dep, .inl (dA 0, 2880, .inl a15)), (a_k1, .inl (dA 1, 2880, .inr (.inl a16)))]) (w1 := []) (As := [.int v17]) (rest := []) ⟨hx, hb, hml, hown, ht⟩ (zt_X10_rungOf l dC dI dA adK adV _ v17 v19 hv19) ⟨va_cnB 1 ht (zq_C zq_59) rfl rfl rfl (zx_n14 hZ) (ht _ zq_58) zk_X10_rungOf.2 ⟨Nat.le_of_ble_eq_true rfl, Nat.le_of_ble_eq_true rfl⟩, ht _ zq_57, trivial⟩ hZ hK hP hD hS hA [] [0, 1, 2, 3, 4, 5, 6, 7, 8, 9, 10, 11, 12, 13, 14, 15] (by decide) (by decide) (by decide) rfl rfl rfl hl.1 (Nat.le_of_ble_eq_true rfl) dX8_explore_62 ⟨Nat.zero_le _, Nat.zero_le _⟩ rfl (fun H locs hP hD hS => ?_)
          have hP : va_P (dC, dI) zz_cls [zo_X8 a_o a_c a_m a_ord a_dep v7 a_k1 a_k2 f_o_rung f_o_whole f_o_result (-1 : Int32), zo_X0 a_c f_c_top f_c_things a_c_bars a_c_gives a_c_rough f_c_startRung f_c_startThings f_c_startStrength f_c_startWind f_c_slips f_c_lines a_c_code f_c_coded f_c_tiresFrom f_c_tiresTo f_c_mayFrom f_c_mayTo, (a_c_bars, .inl (dA 0, 9, .inl b_c_bars)), (a_c_gives, .inl (dA 0, 9, .inl b_c_gives)), (a_c_rough, .inl (dA 0, 9, .inl b_c_rough)), (a_c_code, .inl (dA 0, 900, .inl b_c_code)), zo_X3 a_m a_c a_w a_m_deeds a_m_ends v8, zo_X2 a_w a_c a_w_told a_w_facts a_w_stack f_w_wind, (a_w_told, .inl (dA 0, 315, .inl a9)), (a_w_facts, .inl (dA 0, 6, .inl a10)), (a_w_stack, .inl (dA 0, 64, .inl a11)), (a_m_deeds, .inl (dA 0, 9, .inl a12)), (a_m_ends, .inl (dA 0, 9, .inl a13)), (a_ord, .inl (dA 0, 2880, .inl a14)), (a_dep, .inl (dA 0, 2880, .inl a15)), (a_k1, .inl (dA 1, 2880, .inr (.inl a16)))] H := hP
          have hD : va_D A [zo_X8 a_o a_c a_m a_ord a_dep v7 a_k1 a_k2 f_o_rung f_o_whole f_o_result (-1 : Int32), zo_X0 a_c f_c_top f_c_things a_c_bars a_c_gives a_c_rough f_c_startRung f_c_startThings f_c_startStrength f_c_startWind f_c_slips f_c_lines a_c_code f_c_coded f_c_tiresFrom f_c_tiresTo f_c_mayFrom f_c_mayTo, (a_c_bars, .inl (dA 0, 9, .inl b_c_bars)), (a_c_gives, .inl (dA 0, 9, .inl b_c_gives)), (a_c_rough, .inl (dA 0, 9, .inl b_c_rough)), (a_c_code, .inl (dA 0, 900, .inl b_c_code)), zo_X3 a_m a_c a_w a_m_deeds a_m_ends v8, zo_X2 a_w a_c a_w_told a_w_facts a_w_stack f_w_wind, (a_w_told, .inl (dA 0, 315, .inl a9)), (a_w_facts, .inl (dA 0, 6, .inl a10)), (a_w_stack, .inl (dA 0, 64, .inl a11)), (a_m_deeds, .inl (dA 0, 9, .inl a12)), (a_m_ends, .inl (dA 0, 9, .inl a13)), (a_ord, .inl (dA 0, 2880, .inl a14)), (a_dep, .inl (dA 0, 2880, .inl a15)), (a_k1, .inl (dA 1, 2880, .inr (.inl a16)))] := hD
          refine lv_aload_n (pc := 65) hx hb dX8_explore_65 rfl (lv_at hl 1 rfl) ?_
          refine va_get (pc := 66) (D := (dC, dI)) (ci := 9) (v := .int f_o_rung) (C := RX8) (T := TX8) (N := 11) hx hb ht zq_layX8 hown hK hP 0 rfl rfl 7 (by decide) (ht _ zq_531) (fun _ h9 => h9) rfl dX8_explore_66 ?_
          refine lv_icmp_eq (tgt := 78) (pc := 69) hx hb dX8_explore_69 rfl (fun hc => ?_) (fun hc => ?_)
          · have hf := za_t hf hc
            obtain ⟨rfl, rfl, rfl, rfl, rfl, rfl, rfl, rfl, rfl, rfl⟩ := zi_10 hf
            exact J78 _ _ _ ⟨lv_sub hl [1, 2, 3] rfl, hP, hD, hS⟩
          · have hf := za_f hf hc
            refine lv_aload_n (pc := 72) hx hb dX8_explore_72 rfl (lv_at hl 1 rfl) ?_
            refine lv_iload (pc := 73) hx hb dX8_explore_73 (lv_at hl 0 rfl) ?_
            obtain ⟨v20, v21, a22, a23, a24, a25, a26, a27, a28, a29, hv20, hf⟩ := zc_10 hf
            refine zx_Vv (pc := 75) (wc := [zo_X8 a_o a_c a_m a_ord a_dep v7 a_k1 a_k2 f_o_rung f_o_whole f_o_result (-1 : Int32), zo_X0 a_c f_c_top f_c_things a_c_bars a_c_gives a_c_rough f_c_startRung f_c_startThings f_c_startStrength f_c_startWind f_c_slips f_c_lines a_c_code f_c_coded f_c_tiresFrom f_c_tiresTo f_c_mayFrom f_c_mayTo, (a_c_bars, .inl (dA 0, 9, .inl b_c_bars)), (a_c_gives, .inl (dA 0, 9, .inl b_c_gives)), (a_c_rough, .inl (dA 0, 9, .inl b_c_rough)), (a_c_code, .inl (dA 0, 900, .inl b_c_code)), zo_X3 a_m a_c a_w a_m_deeds a_m_ends v8, zo_X2 a_w a_c a_w_told a_w_facts a_w_stack f_w_wind, (a_w_told, .inl (dA 0, 315, .inl a9)), (a_w_facts, .inl (dA 0, 6, .inl a10)), (a_w_stack, .inl (dA 0, 64, .inl a11)), (a_m_deeds, .inl (dA 0, 9, .inl a12)), (a_m_ends, .inl (dA 0, 9, .inl a13)), (a_ord, .inl (dA 0, 2880, .inl a14)), (a_dep, .inl (dA 0, 2880, .inl a15)), (a_k1, .inl (dA 1, 2880, .inr (.inl a16)))]) (wr := []) (w1 := [zo_X8 a_o a_c a_m a_ord a_dep v20 a_k1 a_k2 f_o_rung f_o_whole f_o_result (-1 : Int32), zo_X0 a_c f_c_top f_c_things a_c_bars a_c_gives a_c_rough f_c_startRung f_c_startThings f_c_startStrength f_c_startWind f_c_slips f_c_lines a_c_code f_c_coded f_c_tiresFrom f_c_tiresTo f_c_mayFrom f_c_mayTo, (a_c_bars, .inl (dA 0, 9, .inl b_c_bars)), (a_c_gives, .inl (dA 0, 9, .inl b_c_gives)), (a_c_rough, .inl (dA 0, 9, .inl b_c_rough)), (a_c_code, .inl (dA 0, 900, .inl b_c_code)), zo_X3 a_m a_c a_w a_m_deeds a_m_ends v21, zo_X2 a_w a_c a_w_told a_w_facts a_w_stack f_w_wind, (a_w_told, .inl (dA 0, 315, .inl a22)), (a_w_facts, .inl (dA 0, 6, .inl a23)), (a_w_stack, .inl (dA 0, 64, .inl a24)), (a_m_deeds, .inl (dA 0, 9, .inl a25)), (a_m_ends, .inl (dA 0, 9, .inl a26)), (a_ord, .inl (dA 0, 2880, .inl a27)), (a_dep, .inl (dA 0, 2880, .inl a28)), (a_k1, .inl (dA 1, 2880, .inr (.inl a29)))]) (As := [.int v17]) (rest := []) ⟨hx, hb, hml, hown, ht⟩ (zt_X8_reachFrom l dC dI dA adK adV _ a_o a_c a_m a_ord a_dep a_k1 a_k2 a_c_bars a_c_gives a_c_rough a_c_code a_w a_m_deeds a_m_ends a_w_told a_w_facts a_w_stack n v7 f_o_rung f_o_whole f_o_result (-1 : Int32) f_c_top f_c_things f_c_startRung f_c_startThings f_c_startStrength f_c_startWind f_c_slips f_c_lines f_c_coded f_c_tiresFrom f_c_tiresTo f_c_mayFrom f_c_mayTo v8 f_w_wind b_c_bars b_c_gives b_c_rough b_c_code a9 a10 a11 a12 a13 a14 a15 a16 v17 v20 v21 a22 a23 a24 a25 a26 a27 a28 a29 hv20) (cwV 1 ht (zq_V zq_554 zq_555 zq_556 zq_549 zq_552) rfl rfl rfl zk_X8_reachFrom ⟨Nat.le_of_ble_eq_true rfl, Nat.le_of_ble_eq_true rfl⟩) rfl rfl hZ hK hP hD hS hA [0, 1, 2, 3, 4, 5, 6, 7, 8, 9, 10, 11, 12, 13, 14, 15] [] (by decide) (by decide) (by decide) rfl rfl rfl hl.1 (Nat.le_of_ble_eq_true rfl) dX8_explore_75 ⟨Nat.zero_le _, Nat.zero_le _⟩ rfl (fun H locs hP hD hS => ?_)
            have hP : va_P (dC, dI) zz_cls [zo_X8 a_o a_c a_m a_ord a_dep v20 a_k1 a_k2 f_o_rung f_o_whole f_o_result (-1 : Int32), zo_X0 a_c f_c_top f_c_things a_c_bars a_c_gives a_c_rough f_c_startRung f_c_startThings f_c_startStrength f_c_startWind f_c_slips f_c_lines a_c_code f_c_coded f_c_tiresFrom f_c_tiresTo f_c_mayFrom f_c_mayTo, (a_c_bars, .inl (dA 0, 9, .inl b_c_bars)), (a_c_gives, .inl (dA 0, 9, .inl b_c_gives)), (a_c_rough, .inl (dA 0, 9, .inl b_c_rough)), (a_c_code, .inl (dA 0, 900, .inl b_c_code)), zo_X3 a_m a_c a_w a_m_deeds a_m_ends v21, zo_X2 a_w a_c a_w_told a_w_facts a_w_stack f_w_wind, (a_w_told, .inl (dA 0, 315, .inl a22)), (a_w_facts, .inl (dA 0, 6, .inl a23)), (a_w_stack, .inl (dA 0, 64, .inl a24)), (a_m_deeds, .inl (dA 0, 9, .inl a25)), (a_m_ends, .inl (dA 0, 9, .inl a26)), (a_ord, .inl (dA 0, 2880, .inl a27)), (a_dep, .inl (dA 0, 2880, .inl a28)), (a_k1, .inl (dA 1, 2880, .inr (.inl a29)))] H := hP
            have hD : va_D A [zo_X8 a_o a_c a_m a_ord a_dep v20 a_k1 a_k2 f_o_rung f_o_whole f_o_result (-1 : Int32), zo_X0 a_c f_c_top f_c_things a_c_bars a_c_gives a_c_rough f_c_startRung f_c_startThings f_c_startStrength f_c_startWind f_c_slips f_c_lines a_c_code f_c_coded f_c_tiresFrom f_c_tiresTo f_c_mayFrom f_c_mayTo, (a_c_bars, .inl (dA 0, 9, .inl b_c_bars)), (a_c_gives, .inl (dA 0, 9, .inl b_c_gives)), (a_c_rough, .inl (dA 0, 9, .inl b_c_rough)), (a_c_code, .inl (dA 0, 900, .inl b_c_code)), zo_X3 a_m a_c a_w a_m_deeds a_m_ends v21, zo_X2 a_w a_c a_w_told a_w_facts a_w_stack f_w_wind, (a_w_told, .inl (dA 0, 315, .inl a22)), (a_w_facts, .inl (dA 0, 6, .inl a23)), (a_w_stack, .inl (dA 0, 64, .inl a24)), (a_m_deeds, .inl (dA 0, 9, .inl a25)), (a_m_ends, .inl (dA 0, 9, .inl a26)), (a_ord, .inl (dA 0, 2880, .inl a27)), (a_dep, .inl (dA 0, 2880, .inl a28)), (a_k1, .inl (dA 1, 2880, .inr (.inl a29)))] := hD
            obtain ⟨rfl, rfl, rfl, rfl, rfl, rfl, rfl, rfl, rfl, rfl⟩ := zi_10 hf
            exact J78 _ _ _ ⟨lv_sub hl [1, 2, 3] rfl, hP, hD, hS⟩

def zb_X8_likeliest_36 (v2 : Int32) (a8 : (Nat → Int32)) (b_k1 : (Nat → Int64)) (a7 : (Nat → Int32)) (p1 : Int32) (f_c_slips : Int32) (v9 : Int64) (v10 : Int32) (v11 : Int32) : Option (Nat × Int64 × Int32 × Int32) :=
  if v2 ≤ v10 then
    some (1, v9, v10, v11)
  else
    zd_1 (za_ld a8 9 v10) (fun v12 =>
    zd_1 (za_ld b_k1 2880 v12) (fun v13 =>
    zd_1 (some (((10 : Int64) * v13))) (fun v14 =>
    zd_1 (za_ld a7 9 v10) (fun v15 =>
    zd_1 (
      if v15 = (1 : Int32) then
        zd_1 (zf_X8_slipped p1 v12) (fun v16 =>
        zd_1 (za_ld b_k1 2880 v16) (fun v17 =>
        zd_1 (za_ld b_k1 2880 v12) (fun v18 =>
        zd_1 (some ((((Int32.toInt64 f_c_slips) * v17) + ((Int32.toInt64 ((10 : Int32) - f_c_slips)) * v18)))) (fun v19 =>
        some v19))))
      else
        some v14) (fun v20 =>
    zd_2 (
      if (lg_cmp v20 v9) ≤ 0 then
        some (v9, v11)
      else
        zd_1 (za_ld a7 9 v10) (fun v21 =>
        some (v20, v21))) (fun v22 v23 =>
    zd_1 (some (v10 + (1 : Int32))) (fun v24 =>
    some (0, v22, v24, v23))))))))
def zf_X8_likeliest (n : Nat) (f_o_rung : Int32) (f_o_whole : Int64) (f_o_firstDeed : Int32) (f_c_top : Int32) (f_c_things : Int32) (f_c_slips : Int32) (f_c_tiresFrom : Int32) (f_c_tiresTo : Int32) (f_c_mayFrom : Int32) (f_c_mayTo : Int32) (b_c_bars : (Nat → Int32)) (b_c_gives : (Nat → Int32)) (b_c_rough : (Nat → Int32)) (b_c_code : (Nat → Int32)) (f_m_found : Int32) (f_w_wind : Int32) (b_w_told : (Nat → Int32)) (b_w_facts : (Nat → Int32)) (b_w_stack : (Nat → Int32)) (b_m_deeds : (Nat → Int32)) (b_m_ends : (Nat → Int32)) (b_k1 : (Nat → Int64)) (p1 : Int32) : Option (Int64 × Int32 × Int32 × (Nat → Int32) × (Nat → Int32) × (Nat → Int32) × (Nat → Int32) × (Nat → Int32)) :=
  zd_1 (zf_X10_rungOf p1) (fun v1 =>
  if v1 = f_o_rung then
    some (f_o_whole, (-1 : Int32), f_m_found, b_w_told, b_w_facts, b_w_stack, b_m_deeds, b_m_ends)
  else
    zd_7 (zf_X3_gather n f_m_found f_c_top f_c_things f_c_tiresFrom f_c_tiresTo f_c_mayFrom f_c_mayTo b_c_bars b_c_gives b_c_rough b_c_code f_w_wind b_w_told b_w_facts b_w_stack b_m_deeds b_m_ends p1) (fun v2 v3 a4 a5 a6 a7 a8 =>
    zd_4 (za_it (fun v => zb_X8_likeliest_36 v2 a8 b_k1 a7 p1 f_c_slips v.1 v.2.1 v.2.2) n ((0 : Int64), (0 : Int32), (-1 : Int32))) (fun g28 v25 v26 v27 =>
    some (v25, v27, v3, a4, a5, a6, a7, a8))))
theorem zk_X8_likeliest : yX8_likeliest.cls = RX8 ∧ yX8_likeliest.cls ≠ "java/lang/invoke/MethodHandle" ∧ yX8_likeliest.cls ≠ "java/lang/invoke/VarHandle" ∧ (parseMethodDescriptor yX8_likeliest.desc).map (fun d => d.parameters.length) = some 1 := by decide +kernel
set_option maxHeartbeats 4000000 in
set_option maxRecDepth 100000 in
theorem zt_X8_likeliest (l : Launch) (dC : Nat → ClassId) (dI : Nat → Nat → Nat) (dA : Nat → ClassId) (adK adV : Nat → Nat) (sz : Nat) (a_o : Nat) (a_c : Nat) (a_m : Nat) (a_ord : Nat) (a_dep : Nat) (a_k1 : Nat) (a_k2 : Nat) (a_c_bars : Nat) (a_c_gives : Nat) (a_c_rough : Nat) (a_c_code : Nat) (a_w : Nat) (a_m_deeds : Nat) (a_m_ends : Nat) (a_w_told : Nat) (a_w_facts : Nat) (a_w_stack : Nat) (n : Nat) (f_o_size : Int32) (f_o_rung : Int32) (f_o_whole : Int64) (f_o_result : Int64) (f_o_firstDeed : Int32) (f_c_top : Int32) (f_c_things : Int32) (f_c_startRung : Int32) (f_c_startThings : Int32) (f_c_startStrength : Int32) (f_c_startWind : Int32) (f_c_slips : Int32) (f_c_lines : Int32) (f_c_coded : Int32) (f_c_tiresFrom : Int32) (f_c_tiresTo : Int32) (f_c_mayFrom : Int32) (f_c_mayTo : Int32) (f_m_found : Int32) (f_w_wind : Int32) (b_c_bars : (Nat → Int32)) (b_c_gives : (Nat → Int32)) (b_c_rough : (Nat → Int32)) (b_c_code : (Nat → Int32)) (b_w_told : (Nat → Int32)) (b_w_facts : (Nat → Int32)) (b_w_stack : (Nat → Int32)) (b_m_deeds : (Nat → Int32)) (b_m_ends : (Nat → Int32)) (b_k1 : (Nat → Int64)) (p1 : Int32) (r0 : Int64) (o1 : Int32) (o2 : Int32) (o3 : (Nat → Int32)) (o4 : (Nat → Int32)) (o5 : (Nat → Int32)) (o6 : (Nat → Int32)) (o7 : (Nat → Int32)) (hf : zf_X8_likeliest n f_o_rung f_o_whole f_o_firstDeed f_c_top f_c_things f_c_slips f_c_tiresFrom f_c_tiresTo f_c_mayFrom f_c_mayTo b_c_bars b_c_gives b_c_rough b_c_code f_m_found f_w_wind b_w_told b_w_facts b_w_stack b_m_deeds b_m_ends b_k1 p1 = some (r0, o1, o2, o3, o4, o5, o6, o7)) : Met l yX8_likeliest (.code yX8_likeliest cX8_likeliest 11 (some .long) :: zq_T) ({ frames := 5, cells := 0, slots := 0, locals := 152 }) (va_Pc [.ref a_o, .int p1] (zx_M dC dI dA adK adV [zo_X8 a_o a_c a_m a_ord a_dep f_o_size a_k1 a_k2 f_o_rung f_o_whole f_o_result f_o_firstDeed, zo_X0 a_c f_c_top f_c_things a_c_bars a_c_gives a_c_rough f_c_startRung f_c_startThings f_c_startStrength f_c_startWind f_c_slips f_c_lines a_c_code f_c_coded f_c_tiresFrom f_c_tiresTo f_c_mayFrom f_c_mayTo, (a_c_bars, .inl (dA 0, 9, .inl b_c_bars)), (a_c_gives, .inl (dA 0, 9, .inl b_c_gives)), (a_c_rough, .inl (dA 0, 9, .inl b_c_rough)), (a_c_code, .inl (dA 0, 900, .inl b_c_code)), zo_X3 a_m a_c a_w a_m_deeds a_m_ends f_m_found, zo_X2 a_w a_c a_w_told a_w_facts a_w_stack f_w_wind, (a_w_told, .inl (dA 0, 315, .inl b_w_told)), (a_w_facts, .inl (dA 0, 6, .inl b_w_facts)), (a_w_stack, .inl (dA 0, 64, .inl b_w_stack)), (a_m_deeds, .inl (dA 0, 9, .inl b_m_deeds)), (a_m_ends, .inl (dA 0, 9, .inl b_m_ends)), (a_k1, .inl (dA 1, 2880, .inr (.inl b_k1)))] sz)) (va_Ql (fun (r : Int64) (_ : Unit) => r = r0) (fun _ t => zz_B dC dI dA (va_A [zo_X8 a_o a_c a_m a_ord a_dep f_o_size a_k1 a_k2 f_o_rung f_o_whole f_o_result f_o_firstDeed, zo_X0 a_c f_c_top f_c_things a_c_bars a_c_gives a_c_rough f_c_startRung f_c_startThings f_c_startStrength f_c_startWind f_c_slips f_c_lines a_c_code f_c_coded f_c_tiresFrom f_c_tiresTo f_c_mayFrom f_c_mayTo, (a_c_bars, .inl (dA 0, 9, .inl b_c_bars)), (a_c_gives, .inl (dA 0, 9, .inl b_c_gives)), (a_c_rough, .inl (dA 0, 9, .inl b_c_rough)), (a_c_code, .inl (dA 0, 900, .inl b_c_code)), zo_X3 a_m a_c a_w a_m_deeds a_m_ends f_m_found, zo_X2 a_w a_c a_w_told a_w_facts a_w_stack f_w_wind, (a_w_told, .inl (dA 0, 315, .inl b_w_told)), (a_w_facts, .inl (dA 0, 6, .inl b_w_facts)), (a_w_stack, .inl (dA 0, 64, .inl b_w_stack)), (a_m_deeds, .inl (dA 0, 9, .inl b_m_deeds)), (a_m_ends, .inl (dA 0, 9, .inl b_m_ends)), (a_k1, .inl (dA 1, 2880, .inr (.inl b_k1)))] sz) [zo_X8 a_o a_c a_m a_ord a_dep f_o_size a_k1 a_k2 f_o_rung f_o_whole f_o_result o1, zo_X0 a_c f_c_top f_c_things a_c_bars a_c_gives a_c_rough f_c_startRung f_c_startThings f_c_startStrength f_c_startWind f_c_slips f_c_lines a_c_code f_c_coded f_c_tiresFrom f_c_tiresTo f_c_mayFrom f_c_mayTo, (a_c_bars, .inl (dA 0, 9, .inl b_c_bars)), (a_c_gives, .inl (dA 0, 9, .inl b_c_gives)), (a_c_rough, .inl (dA 0, 9, .inl b_c_rough)), (a_c_code, .inl (dA 0, 900, .inl b_c_code)), zo_X3 a_m a_c a_w a_m_deeds a_m_ends o2, zo_X2 a_w a_c a_w_told a_w_facts a_w_stack f_w_wind, (a_w_told, .inl (dA 0, 315, .inl o3)), (a_w_facts, .inl (dA 0, 6, .inl o4)), (a_w_stack, .inl (dA 0, 64, .inl o5)), (a_m_deeds, .inl (dA 0, 9, .inl o6)), (a_m_ends, .inl (dA 0, 9, .inl o7)), (a_k1, .inl (dA 1, 2880, .inr (.inl b_k1)))] t) (va_A [zo_X8 a_o a_c a_m a_ord a_dep f_o_size a_k1 a_k2 f_o_rung f_o_whole f_o_result f_o_firstDeed, zo_X0 a_c f_c_top f_c_things a_c_bars a_c_gives a_c_rough f_c_startRung f_c_startThings f_c_startStrength f_c_startWind f_c_slips f_c_lines a_c_code f_c_coded f_c_tiresFrom f_c_tiresTo f_c_mayFrom f_c_mayTo, (a_c_bars, .inl (dA 0, 9, .inl b_c_bars)), (a_c_gives, .inl (dA 0, 9, .inl b_c_gives)), (a_c_rough, .inl (dA 0, 9, .inl b_c_rough)), (a_c_code, .inl (dA 0, 900, .inl b_c_code)), zo_X3 a_m a_c a_w a_m_deeds a_m_ends f_m_found, zo_X2 a_w a_c a_w_told a_w_facts a_w_stack f_w_wind, (a_w_told, .inl (dA 0, 315, .inl b_w_told)), (a_w_facts, .inl (dA 0, 6, .inl b_w_facts)), (a_w_stack, .inl (dA 0, 64, .inl b_w_stack)), (a_m_deeds, .inl (dA 0, 9, .inl b_m_deeds)), (a_m_ends, .inl (dA 0, 9, .inl b_m_ends)), (a_k1, .inl (dA 1, 2880, .inr (.inl b_k1)))] sz)) 0 0 (va_A [zo_X8 a_o a_c a_m a_ord a_dep f_o_size a_k1 a_k2 f_o_rung f_o_whole f_o_result f_o_firstDeed, zo_X0 a_c f_c_top f_c_things a_c_bars a_c_gives a_c_rough f_c_startRung f_c_startThings f_c_startStrength f_c_startWind f_c_slips f_c_lines a_c_code f_c_coded f_c_tiresFrom f_c_tiresTo f_c_mayFrom f_c_mayTo, (a_c_bars, .inl (dA 0, 9, .inl b_c_bars)), (a_c_gives, .inl (dA 0, 9, .inl b_c_gives)), (a_c_rough, .inl (dA 0, 9, .inl b_c_rough)), (a_c_code, .inl (dA 0, 900, .inl b_c_code)), zo_X3 a_m a_c a_w a_m_deeds a_m_ends f_m_found, zo_X2 a_w a_c a_w_told a_w_facts a_w_stack f_w_wind, (a_w_told, .inl (dA 0, 315, .inl b_w_told)), (a_w_facts, .inl (dA 0, 6, .inl b_w_facts)), (a_w_stack, .inl (dA 0, 64, .inl b_w_stack)), (a_m_deeds, .inl (dA 0, 9, .inl b_m_deeds)), (a_m_ends, .inl (dA 0, 9, .inl b_m_ends)), (a_k1, .inl (dA 1, 2880, .inr (.inl b_k1)))] sz) := by
  unfold zf_X8_likeliest at hf
  refine Met.ofW (cc := cX8_likeliest) (maxL := 11) (ret := (some .long)) (by decide) rfl ?_
  intro p e s m args below meth c s₁ B hml hv
  obtain ⟨rfl, ⟨hsz, hP, hK, hD0⟩, hZ⟩ := hv
  have hx := B.exec
  have hb := B.bytes
  have hr := B.returns
  have ht : ∀ w ∈ zq_T, w.before ([.ref a_o, .int p1] : List Value).toArray s = true := fun w hw => atoms_spec (ws := .code yX8_likeliest cX8_likeliest 11 (some .long) :: zq_T) B.pre w (List.mem_cons_of_mem _ hw)
  have hown : s.vm.findClass RX8 = some m.cls := findClass_of_methodNamed B.named
  have hlocks := B.notSynchronized
  subst hsz
  have hD := hD0.self (sz := s.heap.size)
  generalize hAe : va_A [zo_X8 a_o a_c a_m a_ord a_dep f_o_size a_k1 a_k2 f_o_rung f_o_whole f_o_result f_o_firstDeed, zo_X0 a_c f_c_top f_c_things a_c_bars a_c_gives a_c_rough f_c_startRung f_c_startThings f_c_startStrength f_c_startWind f_c_slips f_c_lines a_c_code f_c_coded f_c_tiresFrom f_c_tiresTo f_c_mayFrom f_c_mayTo, (a_c_bars, .inl (dA 0, 9, .inl b_c_bars)), (a_c_gives, .inl (dA 0, 9, .inl b_c_gives)), (a_c_rough, .inl (dA 0, 9, .inl b_c_rough)), (a_c_code, .inl (dA 0, 900, .inl b_c_code)), zo_X3 a_m a_c a_w a_m_deeds a_m_ends f_m_found, zo_X2 a_w a_c a_w_told a_w_facts a_w_stack f_w_wind, (a_w_told, .inl (dA 0, 315, .inl b_w_told)), (a_w_facts, .inl (dA 0, 6, .inl b_w_facts)), (a_w_stack, .inl (dA 0, 64, .inl b_w_stack)), (a_m_deeds, .inl (dA 0, 9, .inl b_m_deeds)), (a_m_ends, .inl (dA 0, 9, .inl b_m_ends)), (a_k1, .inl (dA 1, 2880, .inr (.inl b_k1)))] s.heap.size = A at hD hZ ⊢
  have hA : ∀ q : Nat, s.heap.size ≤ q → A q := fun q h => by rw [← hAe]; exact Or.inr h
  clear hAe hD0
  have hS : va_S A s.heap s.heap [] := va_S.rf
  have hl := lv_entry ([.ref a_o, .int p1]) (n := 11) (Nat.le_of_ble_eq_true rfl)
  rw [lg_entry_eq]
  generalize (lg_sl ([.ref a_o, .int p1]) ++ List.replicate (11 - (lg_sl ([.ref a_o, .int p1])).length) Slot.unset).toArray = ls at hl ⊢
  have hl : lv_has ls 11 [(0, .ref a_o), (1, .int p1)] := hl
  refine lv_aload_n (pc := 0) hx hb dX8_likeliest_0 rfl (lv_at hl 0 rfl) ?_
  refine lv_iconst (v := (-1 : Int32)) (pc := 1) hx hb dX8_likeliest_1 (by decide) ?_
  refine va_put (pc := 2) (D := (dC, dI)) (ci := 9) (v := .int (-1 : Int32)) (ty := .int) (C := RX8) (T := TX8) (N := 11) hx hb ht zq_layX8 tyX8 tyX8_ok nmX8 hown hK hP hD hS 0 rfl rfl 10 (by decide) (ht _ zq_534) (fun _ h9 => h9) rfl (by decide +kernel) rfl rfl (Nat.le_of_ble_eq_true rfl) dX8_likeliest_2 (fun H locs hP hD hS => ?_)
  have hP : va_P (dC, dI) zz_cls [zo_X8 a_o a_c a_m a_ord a_dep f_o_size a_k1 a_k2 f_o_rung f_o_whole f_o_result (-1 : Int32), zo_X0 a_c f_c_top f_c_things a_c_bars a_c_gives a_c_rough f_c_startRung f_c_startThings f_c_startStrength f_c_startWind f_c_slips f_c_lines a_c_code f_c_coded f_c_tiresFrom f_c_tiresTo f_c_mayFrom f_c_mayTo, (a_c_bars, .inl (dA 0, 9, .inl b_c_bars)), (a_c_gives, .inl (dA 0, 9, .inl b_c_gives)), (a_c_rough, .inl (dA 0, 9, .inl b_c_rough)), (a_c_code, .inl (dA 0, 900, .inl b_c_code)), zo_X3 a_m a_c a_w a_m_deeds a_m_ends f_m_found, zo_X2 a_w a_c a_w_told a_w_facts a_w_stack f_w_wind, (a_w_told, .inl (dA 0, 315, .inl b_w_told)), (a_w_facts, .inl (dA 0, 6, .inl b_w_facts)), (a_w_stack, .inl (dA 0, 64, .inl b_w_stack)), (a_m_deeds, .inl (dA 0, 9, .inl b_m_deeds)), (a_m_ends, .inl (dA 0, 9, .inl b_m_ends)), (a_k1, .inl (dA 1, 2880, .inr (.inl b_k1)))] H := hP
  have hD : va_D A [zo_X8 a_o a_c a_m a_ord a_dep f_o_size a_k1 a_k2 f_o_rung f_o_whole f_o_result (-1 : Int32), zo_X0 a_c f_c_top f_c_things a_c_bars a_c_gives a_c_rough f_c_startRung f_c_startThings f_c_startStrength f_c_startWind f_c_slips f_c_lines a_c_code f_c_coded f_c_tiresFrom f_c_tiresTo f_c_mayFrom f_c_mayTo, (a_c_bars, .inl (dA 0, 9, .inl b_c_bars)), (a_c_gives, .inl (dA 0, 9, .inl b_c_gives)), (a_c_rough, .inl (dA 0, 9, .inl b_c_rough)), (a_c_code, .inl (dA 0, 900, .inl b_c_code)), zo_X3 a_m a_c a_w a_m_deeds a_m_ends f_m_found, zo_X2 a_w a_c a_w_told a_w_facts a_w_stack f_w_wind, (a_w_told, .inl (dA 0, 315, .inl b_w_told)), (a_w_facts, .inl (dA 0, 6, .inl b_w_facts)), (a_w_stack, .inl (dA 0, 64, .inl b_w_stack)), (a_m_deeds, .inl (dA 0, 9, .inl b_m_deeds)), (a_m_ends, .inl (dA 0, 9, .inl b_m_ends)), (a_k1, .inl (dA 1, 2880, .inr (.inl b_k1)))] := hD
  refine lv_iload_n (pc := 5) hx hb dX8_likeliest_5 rfl (lv_at hl 1 rfl) ?_
  obtain ⟨v1, hv1, hf⟩ := zc_1 hf
  refine zx_Ni (pc := 6) (wc := []) (wr := [zo_X8 a_o a_c a_m a_ord a_dep f_o_size a_k1 a_k2 f_o_rung f_o_whole f_o_result (-1 : Int32), zo_X0 a_c f_c_top f_c_things a_c_bars a_c_gives a_c_rough f_c_startRung f_c_startThings f_c_startStrength f_c_startWind f_c_slips f_c_lines a_c_code f_c_coded f_c_tiresFrom f_c_tiresTo f_c_mayFrom f_c_mayTo, (a_c_bars, .inl (dA 0, 9, .inl b_c_bars)), (a_c_gives, .inl (dA 0, 9, .inl b_c_gives)), (a_c_rough, .inl (dA 0, 9, .inl b_c_rough)), (a_c_code, .inl (dA 0, 900, .inl b_c_code)), zo_X3 a_m a_c a_w a_m_deeds a_m_ends f_m_found, zo_X2 a_w a_c a_w_told a_w_facts a_w_stack f_w_wind, (a_w_told, .inl (dA 0, 315, .inl b_w_told)), (a_w_facts, .inl (dA 0, 6, .inl b_w_facts)), (a_w_stack, .inl (dA 0, 64, .inl b_w_stack)), (a_m_deeds, .inl (dA 0, 9, .inl b_m_deeds)), (a_m_ends, .inl (dA 0, 9, .inl b_m_ends)), (a_k1, .inl (dA 1, 2880, .inr (.inl b_k1)))]) (w1 := []) (As := [.int p1]) (rest := []) ⟨hx, hb, hml, hown, ht⟩ (zt_X10_rungOf l dC dI dA adK adV _ p1 v1 hv1) ⟨va_cnB 1 ht (zq_C zq_59) rfl rfl rfl (zx_n14 hZ) (ht _ zq_58) zk_X10_rungOf.2 ⟨Nat.le_of_ble_eq_true rfl, Nat.le_of_ble_eq_true rfl⟩, ht _ zq_57, trivial⟩ hZ hK hP hD hS hA [] [0, 1, 2, 3, 4, 5, 6, 7, 8, 9, 10, 11, 12, 13] (by decide) (by decide) (by decide) rfl rfl rfl hl.1 (Nat.le_of_ble_eq_true rfl) dX8_likeliest_6 ⟨Nat.zero_le _, Nat.zero_le _⟩ rfl (fun H locs hP hD hS => ?_)
  have hP : va_P (dC, dI) zz_cls [zo_X8 a_o a_c a_m a_ord a_dep f_o_size a_k1 a_k2 f_o_rung f_o_whole f_o_result (-1 : Int32), zo_X0 a_c f_c_top f_c_things a_c_bars a_c_gives a_c_rough f_c_startRung f_c_startThings f_c_startStrength f_c_startWind f_c_slips f_c_lines a_c_code f_c_coded f_c_tiresFrom f_c_tiresTo f_c_mayFrom f_c_mayTo, (a_c_bars, .inl (dA 0, 9, .inl b_c_bars)), (a_c_gives, .inl (dA 0, 9, .inl b_c_gives)), (a_c_rough, .inl (dA 0, 9, .inl b_c_rough)), (a_c_code, .inl (dA 0, 900, .inl b_c_code)), zo_X3 a_m a_c a_w a_m_deeds a_m_ends f_m_found, zo_X2 a_w a_c a_w_told a_w_facts a_w_stack f_w_wind, (a_w_told, .inl (dA 0, 315, .inl b_w_told)), (a_w_facts, .inl (dA 0, 6, .inl b_w_facts)), (a_w_stack, .inl (dA 0, 64, .inl b_w_stack)), (a_m_deeds, .inl (dA 0, 9, .inl b_m_deeds)), (a_m_ends, .inl (dA 0, 9, .inl b_m_ends)), (a_k1, .inl (dA 1, 2880, .inr (.inl b_k1)))] H := hP
  have hD : va_D A [zo_X8 a_o a_c a_m a_ord a_dep f_o_size a_k1 a_k2 f_o_rung f_o_whole f_o_result (-1 : Int32), zo_X0 a_c f_c_top f_c_things a_c_bars a_c_gives a_c_rough f_c_startRung f_c_startThings f_c_startStrength f_c_startWind f_c_slips f_c_lines a_c_code f_c_coded f_c_tiresFrom f_c_tiresTo f_c_mayFrom f_c_mayTo, (a_c_bars, .inl (dA 0, 9, .inl b_c_bars)), (a_c_gives, .inl (dA 0, 9, .inl b_c_gives)), (a_c_rough, .inl (dA 0, 9, .inl b_c_rough)), (a_c_code, .inl (dA 0, 900, .inl b_c_code)), zo_X3 a_m a_c a_w a_m_deeds a_m_ends f_m_found, zo_X2 a_w a_c a_w_told a_w_facts a_w_stack f_w_wind, (a_w_told, .inl (dA 0, 315, .inl b_w_told)), (a_w_facts, .inl (dA 0, 6, .inl b_w_facts)), (a_w_stack, .inl (dA 0, 64, .inl b_w_stack)), (a_m_deeds, .inl (dA 0, 9, .inl b_m_deeds)), (a_m_ends, .inl (dA 0, 9, .inl b_m_ends)), (a_k1, .inl (dA 1, 2880, .inr (.inl b_k1)))] := hD
  refine lv_aload_n (pc := 9) hx hb dX8_likeliest_9 rfl (lv_at hl 0 rfl) ?_
  refine va_get (pc := 10) (D := (dC, dI)) (ci := 9) (v := .int f_o_rung) (C := RX8) (T := TX8) (N := 11) hx hb ht zq_layX8 hown hK hP 0 rfl rfl 7 (by decide) (ht _ zq_531) (fun _ h9 => h9) rfl dX8_likeliest_10 ?_
  refine lv_icmp_ne (tgt := 21) (pc := 13) hx hb dX8_likeliest_13 rfl (fun hc => ?_) (fun hc => ?_)
  · have hf := za_f hf hc
    refine lv_lconst (v := (0 : Int64)) (pc := 21) hx hb dX8_likeliest_21 (by decide) ?_
    refine lv_lstore_n (lv' := [(2, .long (0 : Int64)), (0, .ref a_o), (1, .int p1)]) (pc := 22) hx hb dX8_likeliest_22 rfl hl (by decide) rfl (fun ls hl => ?_)
    refine lv_aload_n (pc := 23) hx hb dX8_likeliest_23 rfl (lv_at hl 1 rfl) ?_
    refine va_get (pc := 24) (D := (dC, dI)) (ci := 9) (v := .ref a_m) (C := RX8) (T := TX8) (N := 11) hx hb ht zq_layX8 hown hK hP 0 rfl rfl 1 (by decide) (ht _ zq_536) (fun _ h9 => h9) rfl dX8_likeliest_24 ?_
    refine lv_iload_n (pc := 27) hx hb dX8_likeliest_27 rfl (lv_at hl 2 rfl) ?_
    obtain ⟨v2, v3, a4, a5, a6, a7, a8, hv2, hf⟩ := zc_7 hf
    refine zx_Vi (pc := 28) (wc := [zo_X3 a_m a_c a_w a_m_deeds a_m_ends f_m_found, zo_X0 a_c f_c_top f_c_things a_c_bars a_c_gives a_c_rough f_c_startRung f_c_startThings f_c_startStrength f_c_startWind f_c_slips f_c_lines a_c_code f_c_coded f_c_tiresFrom f_c_tiresTo f_c_mayFrom f_c_mayTo, (a_c_bars, .inl (dA 0, 9, .inl b_c_bars)), (a_c_gives, .inl (dA 0, 9, .inl b_c_gives)), (a_c_rough, .inl (dA 0, 9, .inl b_c_rough)), (a_c_code, .inl (dA 0, 900, .inl b_c_code)), zo_X2 a_w a_c a_w_told a_w_facts a_w_stack f_w_wind, (a_w_told, .inl (dA 0, 315, .inl b_w_told)), (a_w_facts, .inl (dA 0, 6, .inl b_w_facts)), (a_w_stack, .inl (dA 0, 64, .inl b_w_stack)), (a_m_deeds, .inl (dA 0, 9, .inl b_m_deeds)), (a_m_ends, .inl (dA 0, 9, .inl b_m_ends))]) (wr := [zo_X8 a_o a_c a_m a_ord a_dep f_o_size a_k1 a_k2 f_o_rung f_o_whole f_o_result (-1 : Int32), (a_k1, .inl (dA 1, 2880, .inr (.inl b_k1)))]) (w1 := [zo_X3 a_m a_c a_w a_m_deeds a_m_ends v3, zo_X0 a_c f_c_top f_c_things a_c_bars a_c_gives a_c_rough f_c_startRung f_c_startThings f_c_startStrength f_c_startWind f_c_slips f_c_lines a_c_code f_c_coded f_c_tiresFrom f_c_tiresTo f_c_mayFrom f_c_mayTo, (a_c_bars, .inl (dA 0, 9, .inl b_c_bars)), (a_c_gives, .inl (dA 0, 9, .inl b_c_gives)), (a_c_rough, .inl (dA 0, 9, .inl b_c_rough)), (a_c_code, .inl (dA 0, 900, .inl b_c_code)), zo_X2 a_w a_c a_w_told a_w_facts a_w_stack f_w_wind, (a_w_told, .inl (dA 0, 315, .inl a4)), (a_w_facts, .inl (dA 0, 6, .inl a5)), (a_w_stack, .inl (dA 0, 64, .inl a6)), (a_m_deeds, .inl (dA 0, 9, .inl a7)), (a_m_ends, .inl (dA 0, 9, .inl a8))]) (As := [.int p1]) (rest := []) ⟨hx, hb, hml, hown, ht⟩ (zt_X3_gather l dC dI dA adK adV _ a_m a_c a_w a_m_deeds a_m_ends a_c_bars a_c_gives a_c_rough a_c_code a_w_told a_w_facts a_w_stack n f_m_found f_c_top f_c_things f_c_startRung f_c_startThings f_c_startStrength f_c_startWind f_c_slips f_c_lines f_c_coded f_c_tiresFrom f_c_tiresTo f_c_mayFrom f_c_mayTo f_w_wind b_c_bars b_c_gives b_c_rough b_c_code b_w_told b_w_facts b_w_stack b_m_deeds b_m_ends p1 v2 v3 a4 a5 a6 a7 a8 hv2) (cwV 1 ht (zq_V zq_545 zq_48 zq_49 zq_50 zq_51) rfl rfl rfl zk_X3_gather ⟨Nat.le_of_ble_eq_true rfl, Nat.le_of_ble_eq_true rfl⟩) rfl rfl hZ hK hP hD hS hA [6, 1, 2, 3, 4, 5, 7, 8, 9, 10, 11, 12] [0, 13] (by decide) (by decide) (by decide) rfl rfl rfl hl.1 (Nat.le_of_ble_eq_true rfl) dX8_likeliest_28 ⟨Nat.zero_le _, Nat.zero_le _⟩ rfl (fun H locs hP hD hS => ?_)
    have hP : va_P (dC, dI) zz_cls [zo_X8 a_o a_c a_m a_ord a_dep f_o_size a_k1 a_k2 f_o_rung f_o_whole f_o_result (-1 : Int32), (a_k1, .inl (dA 1, 2880, .inr (.inl b_k1))), zo_X3 a_m a_c a_w a_m_deeds a_m_ends v3, zo_X0 a_c f_c_top f_c_things a_c_bars a_c_gives a_c_rough f_c_startRung f_c_startThings f_c_startStrength f_c_startWind f_c_slips f_c_lines a_c_code f_c_coded f_c_tiresFrom f_c_tiresTo f_c_mayFrom f_c_mayTo, (a_c_bars, .inl (dA 0, 9, .inl b_c_bars)), (a_c_gives, .inl (dA 0, 9, .inl b_c_gives)), (a_c_rough, .inl (dA 0, 9, .inl b_c_rough)), (a_c_code, .inl (dA 0, 900, .inl b_c_code)), zo_X2 a_w a_c a_w_told a_w_facts a_w_stack f_w_wind, (a_w_told, .inl (dA 0, 315, .inl a4)), (a_w_facts, .inl (dA 0, 6, .inl a5)), (a_w_stack, .inl (dA 0, 64, .inl a6)), (a_m_deeds, .inl (dA 0, 9, .inl a7)), (a_m_ends, .inl (dA 0, 9, .inl a8))] H := hP
    have hD : va_D A [zo_X8 a_o a_c a_m a_ord a_dep f_o_size a_k1 a_k2 f_o_rung f_o_whole f_o_result (-1 : Int32), (a_k1, .inl (dA 1, 2880, .inr (.inl b_k1))), zo_X3 a_m a_c a_w a_m_deeds a_m_ends v3, zo_X0 a_c f_c_top f_c_things a_c_bars a_c_gives a_c_rough f_c_startRung f_c_startThings f_c_startStrength f_c_startWind f_c_slips f_c_lines a_c_code f_c_coded f_c_tiresFrom f_c_tiresTo f_c_mayFrom f_c_mayTo, (a_c_bars, .inl (dA 0, 9, .inl b_c_bars)), (a_c_gives, .inl (dA 0, 9, .inl b_c_gives)), (a_c_rough, .inl (dA 0, 9, .inl b_c_rough)), (a_c_code, .inl (dA 0, 900, .inl b_c_code)), zo_X2 a_w a_c a_w_told a_w_facts a_w_stack f_w_wind, (a_w_told, .inl (dA 0, 315, .inl a4)), (a_w_facts, .inl (dA 0, 6, .inl a5)), (a_w_stack, .inl (dA 0, 64, .inl a6)), (a_m_deeds, .inl (dA 0, 9, .inl a7)), (a_m_ends, .inl (dA 0, 9, .inl a8))] := hD
    refine lv_istore (lv' := [(4, .int v2), (2, .long (0 : Int64)), (0, .ref a_o), (1, .int p1)]) (pc := 31) hx hb dX8_likeliest_31 hl (by decide) rfl (fun ls hl => ?_)
    refine lv_iconst (v := (0 : Int32)) (pc := 33) hx hb dX8_likeliest_33 (by decide) ?_
    refine lv_istore (lv' := [(5, .int (0 : Int32)), (4, .int v2), (2, .long (0 : Int64)), (0, .ref a_o), (1, .int p1)]) (pc := 34) hx hb dX8_likeliest_34 hl (by decide) rfl (fun ls hl => ?_)
    obtain ⟨g28, v25, v26, v27, hj, hf⟩ := zc_4 hf
    refine zj_join (pcJ := 158) (stk := []) (X := fun H locs ls => lv_has ls 11 [(2, .long v25)] ∧ va_P (dC, dI) zz_cls [zo_X8 a_o a_c a_m a_ord a_dep f_o_size a_k1 a_k2 f_o_rung f_o_whole f_o_result v27, zo_X0 a_c f_c_top f_c_things a_c_bars a_c_gives a_c_rough f_c_startRung f_c_startThings f_c_startStrength f_c_startWind f_c_slips f_c_lines a_c_code f_c_coded f_c_tiresFrom f_c_tiresTo f_c_mayFrom f_c_mayTo, (a_c_bars, .inl (dA 0, 9, .inl b_c_bars)), (a_c_gives, .inl (dA 0, 9, .inl b_c_gives)), (a_c_rough, .inl (dA 0, 9, .inl b_c_rough)), (a_c_code, .inl (dA 0, 900, .inl b_c_code)), zo_X3 a_m a_c a_w a_m_deeds a_m_ends v3, zo_X2 a_w a_c a_w_told a_w_facts a_w_stack f_w_wind, (a_w_told, .inl (dA 0, 315, .inl a4)), (a_w_facts, .inl (dA 0, 6, .inl a5)), (a_w_stack, .inl (dA 0, 64, .inl a6)), (a_m_deeds, .inl (dA 0, 9, .inl a7)), (a_m_ends, .inl (dA 0, 9, .inl a8)), (a_k1, .inl (dA 1, 2880, .inr (.inl b_k1)))] H ∧ va_D A [zo_X8 a_o a_c a_m a_ord a_dep f_o_size a_k1 a_k2 f_o_rung f_o_whole f_o_result v27, zo_X0 a_c f_c_top f_c_things a_c_bars a_c_gives a_c_rough f_c_startRung f_c_startThings f_c_startStrength f_c_startWind f_c_slips f_c_lines a_c_code f_c_coded f_c_tiresFrom f_c_tiresTo f_c_mayFrom f_c_mayTo, (a_c_bars, .inl (dA 0, 9, .inl b_c_bars)), (a_c_gives, .inl (dA 0, 9, .inl b_c_gives)), (a_c_rough, .inl (dA 0, 9, .inl b_c_rough)), (a_c_code, .inl (dA 0, 900, .inl b_c_code)), zo_X3 a_m a_c a_w a_m_deeds a_m_ends v3, zo_X2 a_w a_c a_w_told a_w_facts a_w_stack f_w_wind, (a_w_told, .inl (dA 0, 315, .inl a4)), (a_w_facts, .inl (dA 0, 6, .inl a5)), (a_w_stack, .inl (dA 0, 64, .inl a6)), (a_m_deeds, .inl (dA 0, 9, .inl a7)), (a_m_ends, .inl (dA 0, 9, .inl a8)), (a_k1, .inl (dA 1, 2880, .inr (.inl b_k1)))] ∧ va_S A s.heap H locs) (fun H locs ls hX => ?_) (fun E158 => ?_)
    · obtain ⟨hl, hP, hD, hS⟩ := hX
      clear hj
      refine lv_lload_n (pc := 158) hx hb dX8_likeliest_158 rfl (lv_at hl 0 rfl) ?_
      obtain ⟨rfl, rfl, rfl, rfl, rfl, rfl, rfl, rfl⟩ := zi_8 hf
      exact W.lret (pc := 159) hx hb hr (fun t ht hW => ⟨⟨_, (), rfl, rfl, zz_Bi (by rw [ht]; exact hP) (va_K.moved hW.alike hK) (hD)⟩, hS.F ht⟩) hS.2.2 dX8_likeliest_159
    clear hf
    refine zw_loop (pcH := 36) (X := fun v H locs ls => lv_has ls 11 [(0, .ref a_o), (1, .int p1), (2, .long v.1), (4, .int v2), (5, .int v.2.1)] ∧ va_P (dC, dI) zz_cls [zo_X8 a_o a_c a_m a_ord a_dep f_o_size a_k1 a_k2 f_o_rung f_o_whole f_o_result v.2.2, zo_X0 a_c f_c_top f_c_things a_c_bars a_c_gives a_c_rough f_c_startRung f_c_startThings f_c_startStrength f_c_startWind f_c_slips f_c_lines a_c_code f_c_coded f_c_tiresFrom f_c_tiresTo f_c_mayFrom f_c_mayTo, (a_c_bars, .inl (dA 0, 9, .inl b_c_bars)), (a_c_gives, .inl (dA 0, 9, .inl b_c_gives)), (a_c_rough, .inl (dA 0, 9, .inl b_c_rough)), (a_c_code, .inl (dA 0, 900, .inl b_c_code)), zo_X3 a_m a_c a_w a_m_deeds a_m_ends v3, zo_X2 a_w a_c a_w_told a_w_facts a_w_stack f_w_wind, (a_w_told, .inl (dA 0, 315, .inl a4)), (a_w_facts, .inl (dA 0, 6, .inl a5)), (a_w_stack, .inl (dA 0, 64, .inl a6)), (a_m_deeds, .inl (dA 0, 9, .inl a7)), (a_m_ends, .inl (dA 0, 9, .inl a8)), (a_k1, .inl (dA 1, 2880, .inr (.inl b_k1)))] H ∧ va_D A [zo_X8 a_o a_c a_m a_ord a_dep f_o_size a_k1 a_k2 f_o_rung f_o_whole f_o_result v.2.2, zo_X0 a_c f_c_top f_c_things a_c_bars a_c_gives a_c_rough f_c_startRung f_c_startThings f_c_startStrength f_c_startWind f_c_slips f_c_lines a_c_code f_c_coded f_c_tiresFrom f_c_tiresTo f_c_mayFrom f_c_mayTo, (a_c_bars, .inl (dA 0, 9, .inl b_c_bars)), (a_c_gives, .inl (dA 0, 9, .inl b_c_gives)), (a_c_rough, .inl (dA 0, 9, .inl b_c_rough)), (a_c_code, .inl (dA 0, 900, .inl b_c_code)), zo_X3 a_m a_c a_w a_m_deeds a_m_ends v3, zo_X2 a_w a_c a_w_told a_w_facts a_w_stack f_w_wind, (a_w_told, .inl (dA 0, 315, .inl a4)), (a_w_facts, .inl (dA 0, 6, .inl a5)), (a_w_stack, .inl (dA 0, 64, .inl a6)), (a_m_deeds, .inl (dA 0, 9, .inl a7)), (a_m_ends, .inl (dA 0, 9, .inl a8)), (a_k1, .inl (dA 1, 2880, .inr (.inl b_k1)))] ∧ va_S A s.heap H locs) hj (fun v w hf ih ex H locs ls hX => ?_) _ _ _ ⟨lv_sub hl [3, 4, 2, 1, 0] rfl, hP.sub [0, 3, 4, 5, 6, 7, 2, 8, 9, 10, 11, 12, 13, 1] rfl, hD.sub [0, 3, 4, 5, 6, 7, 2, 8, 9, 10, 11, 12, 13, 1] (by decide) rfl, hS⟩
    clear hj
    obtain ⟨v9, v10, v11⟩ := v
    obtain ⟨hl, hP, hD, hS⟩ := hX
    have hl : lv_has ls 11 [(0, .ref a_o), (1, .int p1), (2, .long v9), (4, .int v2), (5, .int v10)] := hl
    have hP : va_P (dC, dI) zz_cls [zo_X8 a_o a_c a_m a_ord a_dep f_o_size a_k1 a_k2 f_o_rung f_o_whole f_o_result v11, zo_X0 a_c f_c_top f_c_things a_c_bars a_c_gives a_c_rough f_c_startRung f_c_startThings f_c_startStrength f_c_startWind f_c_slips f_c_lines a_c_code f_c_coded f_c_tiresFrom f_c_tiresTo f_c_mayFrom f_c_mayTo, (a_c_bars, .inl (dA 0, 9, .inl b_c_bars)), (a_c_gives, .inl (dA 0, 9, .inl b_c_gives)), (a_c_rough, .inl (dA 0, 9, .inl b_c_rough)), (a_c_code, .inl (dA 0, 900, .inl b_c_code)), zo_X3 a_m a_c a_w a_m_deeds a_m_ends v3, zo_X2 a_w a_c a_w_told a_w_facts a_w_stack f_w_wind, (a_w_told, .inl (dA 0, 315, .inl a4)), (a_w_facts, .inl (dA 0, 6, .inl a5)), (a_w_stack, .inl (dA 0, 64, .inl a6)), (a_m_deeds, .inl (dA 0, 9, .inl a7)), (a_m_ends, .inl (dA 0, 9, .inl a8)), (a_k1, .inl (dA 1, 2880, .inr (.inl b_k1)))] H := hP
    have hD : va_D A [zo_X8 a_o a_c a_m a_ord a_dep f_o_size a_k1 a_k2 f_o_rung f_o_whole f_o_result v11, zo_X0 a_c f_c_top f_c_things a_c_bars a_c_gives a_c_rough f_c_startRung f_c_startThings f_c_startStrength f_c_startWind f_c_slips f_c_lines a_c_code f_c_coded f_c_tiresFrom f_c_tiresTo f_c_mayFrom f_c_mayTo, (a_c_bars, .inl (dA 0, 9, .inl b_c_bars)), (a_c_gives, .inl (dA 0, 9, .inl b_c_gives)), (a_c_rough, .inl (dA 0, 9, .inl b_c_rough)), (a_c_code, .inl (dA 0, 900, .inl b_c_code)), zo_X3 a_m a_c a_w a_m_deeds a_m_ends v3, zo_X2 a_w a_c a_w_told a_w_facts a_w_stack f_w_wind, (a_w_told, .inl (dA 0, 315, .inl a4)), (a_w_facts, .inl (dA 0, 6, .inl a5)), (a_w_stack, .inl (dA 0, 64, .inl a6)), (a_m_deeds, .inl (dA 0, 9, .inl a7)), (a_m_ends, .inl (dA 0, 9, .inl a8)), (a_k1, .inl (dA 1, 2880, .inr (.inl b_k1)))] := hD
    replace hf : zb_X8_likeliest_36 v2 a8 b_k1 a7 p1 f_c_slips v9 v10 v11 = some w := hf
    unfold zb_X8_likeliest_36 at hf
    refine lv_iload (pc := 36) hx hb dX8_likeliest_36 (lv_at hl 4 rfl) ?_
    refine lv_iload (pc := 38) hx hb dX8_likeliest_38 (lv_at hl 3 rfl) ?_
    refine lv_icmp_ge (tgt := 158) (pc := 40) hx hb dX8_likeliest_40 rfl (fun hc => ?_) (fun hc => ?_)
    · have hf := za_t hf hc
      obtain rfl := Option.some.inj hf
      obtain ⟨rfl, rfl, rfl, rfl⟩ := zp_4 (ex (show ¬ (1 : Nat) = 0 by decide))
      exact E158 _ _ _ ⟨lv_sub hl [2] rfl, hP, hD, hS⟩
    · have hf := za_f hf hc
      refine lv_aload_n (pc := 43) hx hb dX8_likeliest_43 rfl (lv_at hl 0 rfl) ?_
      refine va_get (pc := 44) (D := (dC, dI)) (ci := 9) (v := .ref a_m) (C := RX8) (T := TX8) (N := 11) hx hb ht zq_layX8 hown hK hP 0 rfl rfl 1 (by decide) (ht _ zq_536) (fun _ h9 => h9) rfl dX8_likeliest_44 ?_
      refine va_get (pc := 47) (D := (dC, dI)) (ci := 4) (v := .ref a_m_ends) (C := RX3) (T := TX3) (N := 5) hx hb ht zq_layX3 hown hK hP 6 rfl rfl 3 (by decide) (ht _ zq_543) (fun _ h9 => h9) rfl dX8_likeliest_47 ?_
      refine lv_iload (pc := 50) hx hb dX8_likeliest_50 (lv_at hl 4 rfl) ?_
      obtain ⟨v12, hv12, hf⟩ := zc_1 hf
      refine zw_iald (pc := 52) hx hb hK hP 12 0 rfl rfl hv12 dX8_likeliest_52 ?_
      refine lv_istore (lv' := [(6, .int v12), (0, .ref a_o), (1, .int p1), (2, .long v9), (4, .int v2), (5, .int v10)]) (pc := 53) hx hb dX8_likeliest_53 hl (by decide) rfl (fun ls hl => ?_)
      refine lv_ldc2 (v := (10 : Int64)) (pc := 55) hx hb hown (ht _ zq_558) dX8_likeliest_55 ?_
      refine lv_aload_n (pc := 58) hx hb dX8_likeliest_58 rfl (lv_at hl 1 rfl) ?_
      refine va_get (pc := 59) (D := (dC, dI)) (ci := 9) (v := .ref a_k1) (C := RX8) (T := TX8) (N := 11) hx hb ht zq_layX8 hown hK hP 0 rfl rfl 5 (by decide) (ht _ zq_539) (fun _ h9 => h9) rfl dX8_likeliest_59 ?_
      refine lv_iload (pc := 62) hx hb dX8_likeliest_62 (lv_at hl 0 rfl) ?_
      obtain ⟨v13, hv13, hf⟩ := zc_1 hf
      refine zw_lald (pc := 64) hx hb hK hP 13 1 rfl rfl hv13 dX8_likeliest_64 ?_
      refine lv_lmul (pc := 65) hx hb dX8_likeliest_65 ?_
      obtain ⟨v14, hv14, hf⟩ := zc_1 hf
      refine zw_topl (hv14) ?_
      refine lv_lstore (lv' := [(7, .long v14), (6, .int v12), (0, .ref a_o), (1, .int p1), (2, .long v9), (4, .int v2), (5, .int v10)]) (pc := 66) hx hb dX8_likeliest_66 hl (by decide) rfl (fun ls hl => ?_)
      refine lv_aload_n (pc := 68) hx hb dX8_likeliest_68 rfl (lv_at hl 2 rfl) ?_
      refine va_get (pc := 69) (D := (dC, dI)) (ci := 9) (v := .ref a_m) (C := RX8) (T := TX8) (N := 11) hx hb ht zq_layX8 hown hK hP 0 rfl rfl 1 (by decide) (ht _ zq_536) (fun _ h9 => h9) rfl dX8_likeliest_69 ?_
      refine va_get (pc := 72) (D := (dC, dI)) (ci := 4) (v := .ref a_m_deeds) (C := RX3) (T := TX3) (N := 5) hx hb ht zq_layX3 hown hK hP 6 rfl rfl 2 (by decide) (ht _ zq_544) (fun _ h9 => h9) rfl dX8_likeliest_72 ?_
      refine lv_iload (pc := 75) hx hb dX8_likeliest_75 (lv_at hl 6 rfl) ?_
      obtain ⟨v15, hv15, hf⟩ := zc_1 hf
      refine zw_iald (pc := 77) hx hb hK hP 11 0 rfl rfl hv15 dX8_likeliest_77 ?_
      refine lv_iconst (v := (1 : Int32)) (pc := 78) hx hb dX8_likeliest_78 (by decide) ?_
      obtain ⟨v20, hj, hf⟩ := zc_1 hf
      refine zj_join (pcJ := 128) (stk := []) (X := fun H locs ls => lv_has ls 11 [(0, .ref a_o), (1, .int p1), (2, .long v9), (4, .int v2), (5, .int v10), (7, .long v20)] ∧ va_P (dC, dI) zz_cls [zo_X8 a_o a_c a_m a_ord a_dep f_o_size a_k1 a_k2 f_o_rung f_o_whole f_o_result v11, zo_X0 a_c f_c_top f_c_things a_c_bars a_c_gives a_c_rough f_c_startRung f_c_startThings f_c_startStrength f_c_startWind f_c_slips f_c_lines a_c_code f_c_coded f_c_tiresFrom f_c_tiresTo f_c_mayFrom f_c_mayTo, (a_c_bars, .inl (dA 0, 9, .inl b_c_bars)), (a_c_gives, .inl (dA 0, 9, .inl b_c_gives)), (a_c_rough, .inl (dA 0, 9, .inl b_c_rough)), (a_c_code, .inl (dA 0, 900, .inl b_c_code)), zo_X3 a_m a_c a_w a_m_deeds a_m_ends v3, zo_X2 a_w a_c a_w_told a_w_facts a_w_stack f_w_wind, (a_w_told, .inl (dA 0, 315, .inl a4)), (a_w_facts, .inl (dA 0, 6, .inl a5)), (a_w_stack, .inl (dA 0, 64, .inl a6)), (a_m_deeds, .inl (dA 0, 9, .inl a7)), (a_m_ends, .inl (dA 0, 9, .inl a8)), (a_k1, .inl (dA 1, 2880, .inr (.inl b_k1)))] H ∧ va_D A [zo_X8 a_o a_c a_m a_ord a_dep f_o_size a_k1 a_k2 f_o_rung f_o_whole f_o_result v11, zo_X0 a_c f_c_top f_c_things a_c_bars a_c_gives a_c_rough f_c_startRung f_c_startThings f_c_startStrength f_c_startWind f_c_slips f_c_lines a_c_code f_c_coded f_c_tiresFrom f_c_tiresTo f_c_mayFrom f_c_mayTo, (a_c_bars, .inl (dA 0, 9, .inl b_c_bars)), (a_c_gives, .inl (dA 0, 9, .inl b_c_gives)), (a_c_rough, .inl (dA 0, 9, .inl b_c_rough)), (a_c_code, .inl (dA 0, 900, .inl b_c_code)), zo_X3 a_m a_c a_w a_m_deeds a_m_ends v3, zo_X2 a_w a_c a_w_told a_w_facts a_w_stack f_w_wind, (a_w_told, .inl (dA 0, 315, .inl a4)), (a_w_facts, .inl (dA 0, 6, .inl a5)), (a_w_stack, .inl (dA 0, 64, .inl a6)), (a_m_deeds, .inl (dA 0, 9, .inl a7)), (a_m_ends, .inl (dA 0, 9, .inl a8)), (a_k1, .inl (dA 1, 2880, .inr (.inl b_k1)))] ∧ va_S A s.heap H locs) (fun H locs ls hX => ?_) (fun J128 => ?_)
      · obtain ⟨hl, hP, hD, hS⟩ := hX
        clear hj
        refine lv_lload (pc := 128) hx hb dX8_likeliest_128 (lv_at hl 5 rfl) ?_
        refine lv_lload_n (pc := 130) hx hb dX8_likeliest_130 rfl (lv_at hl 2 rfl) ?_
        refine W.lcmp (pc := 131) hx hb dX8_likeliest_131 ?_
        obtain ⟨v22, v23, hj, hf⟩ := zc_2 hf
        refine zj_join (pcJ := 152) (stk := []) (X := fun H locs ls => lv_has ls 11 [(0, .ref a_o), (1, .int p1), (2, .long v22), (4, .int v2), (5, .int v10)] ∧ va_P (dC, dI) zz_cls [zo_X8 a_o a_c a_m a_ord a_dep f_o_size a_k1 a_k2 f_o_rung f_o_whole f_o_result v23, zo_X0 a_c f_c_top f_c_things a_c_bars a_c_gives a_c_rough f_c_startRung f_c_startThings f_c_startStrength f_c_startWind f_c_slips f_c_lines a_c_code f_c_coded f_c_tiresFrom f_c_tiresTo f_c_mayFrom f_c_mayTo, (a_c_bars, .inl (dA 0, 9, .inl b_c_bars)), (a_c_gives, .inl (dA 0, 9, .inl b_c_gives)), (a_c_rough, .inl (dA 0, 9, .inl b_c_rough)), (a_c_code, .inl (dA 0, 900, .inl b_c_code)), zo_X3 a_m a_c a_w a_m_deeds a_m_ends v3, zo_X2 a_w a_c a_w_told a_w_facts a_w_stack f_w_wind, (a_w_told, .inl (dA 0, 315, .inl a4)), (a_w_facts, .inl (dA 0, 6, .inl a5)), (a_w_stack, .inl (dA 0, 64, .inl a6)), (a_m_deeds, .inl (dA 0, 9, .inl a7)), (a_m_ends, .inl (dA 0, 9, .inl a8)), (a_k1, .inl (dA 1, 2880, .inr (.inl b_k1)))] H ∧ va_D A [zo_X8 a_o a_c a_m a_ord a_dep f_o_size a_k1 a_k2 f_o_rung f_o_whole f_o_result v23, zo_X0 a_c f_c_top f_c_things a_c_bars a_c_gives a_c_rough f_c_startRung f_c_startThings f_c_startStrength f_c_startWind f_c_slips f_c_lines a_c_code f_c_coded f_c_tiresFrom f_c_tiresTo f_c_mayFrom f_c_mayTo, (a_c_bars, .inl (dA 0, 9, .inl b_c_bars)), (a_c_gives, .inl (dA 0, 9, .inl b_c_gives)), (a_c_rough, .inl (dA 0, 9, .inl b_c_rough)), (a_c_code, .inl (dA 0, 900, .inl b_c_code)), zo_X3 a_m a_c a_w a_m_deeds a_m_ends v3, zo_X2 a_w a_c a_w_told a_w_facts a_w_stack f_w_wind, (a_w_told, .inl (dA 0, 315, .inl a4)), (a_w_facts, .inl (dA 0, 6, .inl a5)), (a_w_stack, .inl (dA 0, 64, .inl a6)), (a_m_deeds, .inl (dA 0, 9, .inl a7)), (a_m_ends, .inl (dA 0, 9, .inl a8)), (a_k1, .inl (dA 1, 2880, .inr (.inl b_k1)))] ∧ va_S A s.heap H locs) (fun H locs ls hX => ?_) (fun J152 => ?_)
        · obtain ⟨hl, hP, hD, hS⟩ := hX
          clear hj
          obtain ⟨v24, hv24, hf⟩ := zc_1 hf
          refine lv_iinc (v := v24) (lv' := [(5, .int v24), (0, .ref a_o), (1, .int p1), (2, .long v22), (4, .int v2)]) (k := 4) (pc := 152) hx hb dX8_likeliest_152 hl rfl (Option.some.inj hv24) (by decide) rfl (fun ls hl => ?_)
          refine lv_goto (tgt := 36) (pc := 155) hx hb dX8_likeliest_155 rfl ?_
          obtain rfl := Option.some.inj hf
          exact ih rfl _ _ _ ⟨lv_sub hl [1, 2, 3, 4, 0] rfl, hP, hD, hS⟩
        · clear hf
          have hf := hj
          clear hj
          refine lv_if_le (tgt := 152) (pc := 132) hx hb dX8_likeliest_132 rfl (fun hc => ?_) (fun hc => ?_)
          · have hf := za_t hf hc
            obtain ⟨rfl, rfl⟩ := zi_2 hf
            exact J152 _ _ _ ⟨lv_sub hl [0, 1, 2, 3, 4] rfl, hP, hD, hS⟩
          · have hf := za_f hf hc
            refine lv_lload (pc := 135) hx hb dX8_likeliest_135 (lv_at hl 5 rfl) ?_
            refine lv_lstore_n (lv' := [(2, .long v20), (0, .ref a_o), (1, .int p1), (4, .int v2), (5, .int v10), (7, .long v20)]) (pc := 137) hx hb dX8_likeliest_137 rfl hl (by decide) rfl (fun ls hl => ?_)
            refine lv_aload_n (pc := 138) hx hb dX8_likeliest_138 rfl (lv_at hl 1 rfl) ?_
            refine lv_aload_n (pc := 139) hx hb dX8_likeliest_139 rfl (lv_at hl 1 rfl) ?_
            refine va_get (pc := 140) (D := (dC, dI)) (ci := 9) (v := .ref a_m) (C := RX8) (T := TX8) (N := 11) hx hb ht zq_layX8 hown hK hP 0 rfl rfl 1 (by decide) (ht _ zq_536) (fun _ h9 => h9) rfl dX8_likeliest_140 ?_
            refine va_get (pc := 143) (D := (dC, dI)) (ci := 4) (v := .ref a_m_deeds) (C := RX3) (T := TX3) (N := 5) hx hb ht zq_layX3 hown hK hP 6 rfl rfl 2 (by decide) (ht _ zq_544) (fun _ h9 => h9) rfl dX8_likeliest_143 ?_
            refine lv_iload (pc := 146) hx hb dX8_likeliest_146 (lv_at hl 4 rfl) ?_
            obtain ⟨v21, hv21, hf⟩ := zc_1 hf
            refine zw_iald (pc := 148) hx hb hK hP 11 0 rfl rfl hv21 dX8_likeliest_148 ?_
            refine va_put (pc := 149) (D := (dC, dI)) (ci := 9) (v := .int v21) (ty := .int) (C := RX8) (T := TX8) (N := 11) hx hb ht zq_layX8 tyX8 tyX8_ok nmX8 hown hK hP hD hS 0 rfl rfl 10 (by decide) (ht _ zq_534) (fun _ h9 => h9) rfl (by decide +kernel) rfl rfl (Nat.le_of_ble_eq_true rfl) dX8_likeliest_149 (fun H locs hP hD hS => ?_)
            have hP : va_P (dC, dI) zz_cls [zo_X8 a_o a_c a_m a_ord a_dep f_o_size a_k1 a_k2 f_o_rung f_o_whole f_o_result v21, zo_X0 a_c f_c_top f_c_things a_c_bars a_c_gives a_c_rough f_c_startRung f_c_startThings f_c_startStrength f_c_startWind f_c_slips f_c_lines a_c_code f_c_coded f_c_tiresFrom f_c_tiresTo f_c_mayFrom f_c_mayTo, (a_c_bars, .inl (dA 0, 9, .inl b_c_bars)), (a_c_gives, .inl (dA 0, 9, .inl b_c_gives)), (a_c_rough, .inl (dA 0, 9, .inl b_c_rough)), (a_c_code, .inl (dA 0, 900, .inl b_c_code)), zo_X3 a_m a_c a_w a_m_deeds a_m_ends v3, zo_X2 a_w a_c a_w_told a_w_facts a_w_stack f_w_wind, (a_w_told, .inl (dA 0, 315, .inl a4)), (a_w_facts, .inl (dA 0, 6, .inl a5)), (a_w_stack, .inl (dA 0, 64, .inl a6)), (a_m_deeds, .inl (dA 0, 9, .inl a7)), (a_m_ends, .inl (dA 0, 9, .inl a8)), (a_k1, .inl (dA 1, 2880, .inr (.inl b_k1)))] H := hP
            have hD : va_D A [zo_X8 a_o a_c a_m a_ord a_dep f_o_size a_k1 a_k2 f_o_rung f_o_whole f_o_result v21, zo_X0 a_c f_c_top f_c_things a_c_bars a_c_gives a_c_rough f_c_startRung f_c_startThings f_c_startStrength f_c_startWind f_c_slips f_c_lines a_c_code f_c_coded f_c_tiresFrom f_c_tiresTo f_c_mayFrom f_c_mayTo, (a_c_bars, .inl (dA 0, 9, .inl b_c_bars)), (a_c_gives, .inl (dA 0, 9, .inl b_c_gives)), (a_c_rough, .inl (dA 0, 9, .inl b_c_rough)), (a_c_code, .inl (dA 0, 900, .inl b_c_code)), zo_X3 a_m a_c a_w a_m_deeds a_m_ends v3, zo_X2 a_w a_c a_w_told a_w_facts a_w_stack f_w_wind, (a_w_told, .inl (dA 0, 315, .inl a4)), (a_w_facts, .inl (dA 0, 6, .inl a5)), (a_w_stack, .inl (dA 0, 64, .inl a6)), (a_m_deeds, .inl (dA 0, 9, .inl a7)), (a_m_ends, .inl (dA 0, 9, .inl a8)), (a_k1, .inl (dA 1, 2880, .inr (.inl b_k1)))] := hD
            obtain ⟨rfl, rfl⟩ := zi_2 hf
            exact J152 _ _ _ ⟨lv_sub hl [1, 2, 0, 3, 4] rfl, hP, hD, hS⟩
      · clear hf
        have hf := hj
        clear hj
        refine lv_icmp_ne (tgt := 128) (pc := 79) hx hb dX8_likeliest_79 rfl (fun hc => ?_) (fun hc => ?_)
        · have hf := za_f hf hc
          obtain rfl := Option.some.inj hf
          exact J128 _ _ _ ⟨lv_sub hl [2, 3, 4, 5, 6, 0] rfl, hP, hD, hS⟩
        · have hf := za_t hf hc
          refine lv_aload_n (pc := 82) hx hb dX8_likeliest_82 rfl (lv_at hl 2 rfl) ?_
          refine va_get (pc := 83) (D := (dC, dI)) (ci := 9) (v := .ref a_k1) (C := RX8) (T := TX8) (N := 11) hx hb ht zq_layX8 hown hK hP 0 rfl rfl 5 (by decide) (ht _ zq_539) (fun _ h9 => h9) rfl dX8_likeliest_83 ?_
          refine lv_iload_n (pc := 86) hx hb dX8_likeliest_86 rfl (lv_at hl 3 rfl) ?_
          refine lv_iload (pc := 87) hx hb dX8_likeliest_87 (lv_at hl 1 rfl) ?_
          obtain ⟨v16, hv16, hf⟩ := zc_1 hf
          refine zx_Si (pc := 89) (wc := []) (wr := [zo_X8 a_o a_c a_m a_ord a_dep f_o_size a_k1 a_k2 f_o_rung f_o_whole f_o_result v11, zo_X0 a_c f_c_top f_c_things a_c_bars a_c_gives a_c_rough f_c_startRung f_c_startThings f_c_startStrength f_c_startWind f_c_slips f_c_lines a_c_code f_c_coded f_c_tiresFrom f_c_tiresTo f_c_mayFrom f_c_mayTo, (a_c_bars, .inl (dA 0, 9, .inl b_c_bars)), (a_c_gives, .inl (dA 0, 9, .inl b_c_gives)), (a_c_rough, .inl (dA 0, 9, .inl b_c_rough)), (a_c_code, .inl (dA 0, 900, .inl b_c_code)), zo_X3 a_m a_c a_w a_m_deeds a_m_ends v3, zo_X2 a_w a_c a_w_told a_w_facts a_w_stack f_w_wind, (a_w_told, .inl (dA 0, 315, .inl a4)), (a_w_facts, .inl (dA 0, 6, .inl a5)), (a_w_stack, .inl (dA 0, 64, .inl a6)), (a_m_deeds, .inl (dA 0, 9, .inl a7)), (a_m_ends, .inl (dA 0, 9, .inl a8)), (a_k1, .inl (dA 1, 2880, .inr (.inl b_k1)))]) (w1 := []) (As := [.int p1, .int v12]) (rest := [.ref a_k1]) ⟨hx, hb, hml, hown, ht⟩ (zt_X8_slipped l dC dI dA adK adV _ p1 v12 v16 hv16) (cwS 2 ht (zq_S zq_550 zq_551 zq_549 zq_542) rfl rfl rfl zk_X8_slipped ⟨Nat.le_of_ble_eq_true rfl, Nat.le_of_ble_eq_true rfl⟩) hZ hK hP hD hS hA [] [0, 1, 2, 3, 4, 5, 6, 7, 8, 9, 10, 11, 12, 13] (by decide) (by decide) (by decide) rfl rfl rfl hl.1 (Nat.le_of_ble_eq_true rfl) dX8_likeliest_89 ⟨Nat.zero_le _, Nat.zero_le _⟩ rfl (fun H locs hP hD hS => ?_)
          have hP : va_P (dC, dI) zz_cls [zo_X8 a_o a_c a_m a_ord a_dep f_o_size a_k1 a_k2 f_o_rung f_o_whole f_o_result v11, zo_X0 a_c f_c_top f_c_things a_c_bars a_c_gives a_c_rough f_c_startRung f_c_startThings f_c_startStrength f_c_startWind f_c_slips f_c_lines a_c_code f_c_coded f_c_tiresFrom f_c_tiresTo f_c_mayFrom f_c_mayTo, (a_c_bars, .inl (dA 0, 9, .inl b_c_bars)), (a_c_gives, .inl (dA 0, 9, .inl b_c_gives)), (a_c_rough, .inl (dA 0, 9, .inl b_c_rough)), (a_c_code, .inl (dA 0, 900, .inl b_c_code)), zo_X3 a_m a_c a_w a_m_deeds a_m_ends v3, zo_X2 a_w a_c a_w_told a_w_facts a_w_stack f_w_wind, (a_w_told, .inl (dA 0, 315, .inl a4)), (a_w_facts, .inl (dA 0, 6, .inl a5)), (a_w_stack, .inl (dA 0, 64, .inl a6)), (a_m_deeds, .inl (dA 0, 9, .inl a7)), (a_m_ends, .inl (dA 0, 9, .inl a8)), (a_k1, .inl (dA 1, 2880, .inr (.inl b_k1)))] H := hP
          have hD : va_D A [zo_X8 a_o a_c a_m a_ord a_dep f_o_size a_k1 a_k2 f_o_rung f_o_whole f_o_result v11, zo_X0 a_c f_c_top f_c_things a_c_bars a_c_gives a_c_rough f_c_startRung f_c_startThings f_c_startStrength f_c_startWind f_c_slips f_c_lines a_c_code f_c_coded f_c_tiresFrom f_c_tiresTo f_c_mayFrom f_c_mayTo, (a_c_bars, .inl (dA 0, 9, .inl b_c_bars)), (a_c_gives, .inl (dA 0, 9, .inl b_c_gives)), (a_c_rough, .inl (dA 0, 9, .inl b_c_rough)), (a_c_code, .inl (dA 0, 900, .inl b_c_code)), zo_X3 a_m a_c a_w a_m_deeds a_m_ends v3, zo_X2 a_w a_c a_w_told a_w_facts a_w_stack f_w_wind, (a_w_told, .inl (dA 0, 315, .inl a4)), (a_w_facts, .inl (dA 0, 6, .inl a5)), (a_w_stack, .inl (dA 0, 64, .inl a6)), (a_m_deeds, .inl (dA 0, 9, .inl a7)), (a_m_ends, .inl (dA 0, 9, .inl a8)), (a_k1, .inl (dA 1, 2880, .inr (.inl b_k1)))] := hD
          obtain ⟨v17, hv17, hf⟩ := zc_1 hf
          refine zw_lald (pc := 92) hx hb hK hP 13 1 rfl rfl hv17 dX8_likeliest_92 ?_
          refine lv_lstore (lv' := [(9, .long v17), (7, .long v14), (6, .int v12), (0, .ref a_o), (1, .int p1), (2, .long v9), (4, .int v2), (5, .int v10)]) (pc := 93) hx hb dX8_likeliest_93 hl (by decide) rfl (fun ls hl => ?_)
          refine lv_aload_n (pc := 95) hx hb dX8_likeliest_95 rfl (lv_at hl 3 rfl) ?_
          refine va_get (pc := 96) (D := (dC, dI)) (ci := 9) (v := .ref a_c) (C := RX8) (T := TX8) (N := 11) hx hb ht zq_layX8 hown hK hP 0 rfl rfl 0 (by decide) (ht _ zq_535) (fun _ h9 => h9) rfl dX8_likeliest_96 ?_
          refine va_get (pc := 99) (D := (dC, dI)) (ci := 1) (v := .int f_c_slips) (C := RX0) (T := TX0) (N := 17) hx hb ht zq_layX0 hown hK hP 1 rfl rfl 9 (by decide) (ht _ zq_559) (fun _ h9 => h9) rfl dX8_likeliest_99 ?_
          refine lv_i2l (pc := 102) hx hb dX8_likeliest_102 rfl ?_
          refine lv_lload (pc := 103) hx hb dX8_likeliest_103 (lv_at hl 0 rfl) ?_
          refine lv_lmul (pc := 105) hx hb dX8_likeliest_105 ?_
          refine lv_bipush (v := (10 : Int32)) (pc := 106) hx hb dX8_likeliest_106 (by decide) ?_
          refine lv_aload_n (pc := 108) hx hb dX8_likeliest_108 rfl (lv_at hl 3 rfl) ?_
          refine va_get (pc := 109) (D := (dC, dI)) (ci := 9) (v := .ref a_c) (C := RX8) (T := TX8) (N := 11) hx hb ht zq_layX8 hown hK hP 0 rfl rfl 0 (by decide) (ht _ zq_535) (fun _ h9 => h9) rfl dX8_likeliest_109 ?_
          refine va_get (pc := 112) (D := (dC, dI)) (ci := 1) (v := .int f_c_slips) (C := RX0) (T := TX0) (N := 17) hx hb ht zq_layX0 hown hK hP 1 rfl rfl 9 (by decide) (ht _ zq_559) (fun _ h9 => h9) rfl dX8_likeliest_112 ?_
          refine lv_isub (pc := 115) hx hb dX8_likeliest_115 ?_
          refine lv_i2l (pc := 116) hx hb dX8_likeliest_116 rfl ?_
          refine lv_aload_n (pc := 117) hx hb dX8_likeliest_117 rfl (lv_at hl 3 rfl) ?_
          refine va_get (pc := 118) (D := (dC, dI)) (ci := 9) (v := .ref a_k1) (C := RX8) (T := TX8) (N := 11) hx hb ht zq_layX8 hown hK hP 0 rfl rfl 5 (by decide) (ht _ zq_539) (fun _ h9 => h9) rfl dX8_likeliest_118 ?_
          refine lv_iload (pc := 121) hx hb dX8_likeliest_121 (lv_at hl 2 rfl) ?_
          obtain ⟨v18, hv18, hf⟩ := zc_1 hf
          refine zw_lald (pc := 123) hx hb hK hP 13 1 rfl rfl hv18 dX8_likeliest_123 ?_
          refine lv_lmul (pc := 124) hx hb dX8_likeliest_124 ?_
          refine lv_ladd (pc := 125) hx hb dX8_likeliest_125 ?_
          obtain ⟨v19, hv19, hf⟩ := zc_1 hf
          refine zw_topl (hv19) ?_
          refine lv_lstore (lv' := [(7, .long v19), (9, .long v17), (6, .int v12), (0, .ref a_o), (1, .int p1), (2, .long v9), (4, .int v2), (5, .int v10)]) (pc := 126) hx hb dX8_likeliest_126 hl (by decide) rfl (fun ls hl => ?_)
          obtain rfl := Option.some.inj hf
          exact J128 _ _ _ ⟨lv_sub hl [3, 4, 5, 6, 7, 0] rfl, hP, hD, hS⟩
  · have hf := za_t hf hc
    refine lv_aload_n (pc := 16) hx hb dX8_likeliest_16 rfl (lv_at hl 0 rfl) ?_
    refine va_get (pc := 17) (D := (dC, dI)) (ci := 9) (v := .long f_o_whole) (C := RX8) (T := TX8) (N := 11) hx hb ht zq_layX8 hown hK hP 0 rfl rfl 8 (by decide) (ht _ zq_532) (fun _ h9 => h9) rfl dX8_likeliest_17 ?_
    obtain ⟨rfl, rfl, rfl, rfl, rfl, rfl, rfl, rfl⟩ := zi_8 hf
    exact W.lret (pc := 20) hx hb hr (fun t ht hW => ⟨⟨_, (), rfl, rfl, zz_Bi (by rw [ht]; exact hP) (va_K.moved hW.alike hK) (hD)⟩, hS.F ht⟩) hS.2.2 dX8_likeliest_20

def zb_X8_reckonWithin_2 (f_o_size : Int32) (b_ord : (Nat → Int32)) (b_dep : (Nat → Int32)) (p1 : Int32) (n : Nat) (f_o_rung : Int32) (f_o_whole : Int64) (f_c_top : Int32) (f_c_things : Int32) (f_c_slips : Int32) (f_c_tiresFrom : Int32) (f_c_tiresTo : Int32) (f_c_mayFrom : Int32) (f_c_mayTo : Int32) (b_c_bars : (Nat → Int32)) (b_c_gives : (Nat → Int32)) (b_c_rough : (Nat → Int32)) (b_c_code : (Nat → Int32)) (f_w_wind : Int32) (b_k1 : (Nat → Int64)) (v1 : Int32) (v2 : Int32) (v3 : Int32) (a4 : (Nat → Int32)) (a5 : (Nat → Int32)) (a6 : (Nat → Int32)) (a7 : (Nat → Int32)) (a8 : (Nat → Int32)) (a9 : (Nat → Int64)) : Option (Nat × Int32 × Int32 × Int32 × (Nat → Int32) × (Nat → Int32) × (Nat → Int32) × (Nat → Int32) × (Nat → Int32) × (Nat → Int64)) :=
  if f_o_size ≤ v1 then
    some (1, v1, v2, v3, a4, a5, a6, a7, a8, a9)
  else
    zd_1 (za_ld b_ord 2880 v1) (fun v10 =>
    zd_1 (za_ld b_dep 2880 v10) (fun v11 =>
    if p1 < v11 then
      some (1, v1, v2, v3, a4, a5, a6, a7, a8, a9)
    else
      zd_1 (za_ld b_ord 2880 v1) (fun v12 =>
      zd_1 (za_ld b_ord 2880 v1) (fun v13 =>
      zd_8 (zf_X8_likeliest n f_o_rung f_o_whole v2 f_c_top f_c_things f_c_slips f_c_tiresFrom f_c_tiresTo f_c_mayFrom f_c_mayTo b_c_bars b_c_gives b_c_rough b_c_code v3 f_w_wind a4 a5 a6 a7 a8 b_k1 v13) (fun v14 v15 v16 a17 a18 a19 a20 a21 =>
      zd_1 (za_st a9 2880 v12 v14) (fun a22 =>
      zd_1 (some (v1 + (1 : Int32))) (fun v23 =>
      some (0, v23, v15, v16, a17, a18, a19, a20, a21, a22))))))))
def zf_X8_reckonWithin (n : Nat) (f_o_size : Int32) (f_o_rung : Int32) (f_o_whole : Int64) (f_o_firstDeed : Int32) (f_c_top : Int32) (f_c_things : Int32) (f_c_slips : Int32) (f_c_tiresFrom : Int32) (f_c_tiresTo : Int32) (f_c_mayFrom : Int32) (f_c_mayTo : Int32) (b_c_bars : (Nat → Int32)) (b_c_gives : (Nat → Int32)) (b_c_rough : (Nat → Int32)) (b_c_code : (Nat → Int32)) (f_m_found : Int32) (f_w_wind : Int32) (b_w_told : (Nat → Int32)) (b_w_facts : (Nat → Int32)) (b_w_stack : (Nat → Int32)) (b_m_deeds : (Nat → Int32)) (b_m_ends : (Nat → Int32)) (b_ord : (Nat → Int32)) (b_dep : (Nat → Int32)) (a_k1 : Nat) (b_k1 : (Nat → Int64)) (a_k2 : Nat) (b_k2 : (Nat → Int64)) (p1 : Int32) : Option (Int32 × Int32 × (Nat → Int32) × (Nat → Int32) × (Nat → Int32) × (Nat → Int32) × (Nat → Int32) × Nat × (Nat → Int64) × Nat × (Nat → Int64)) :=
  zd_10 (za_it (fun v => zb_X8_reckonWithin_2 f_o_size b_ord b_dep p1 n f_o_rung f_o_whole f_c_top f_c_things f_c_slips f_c_tiresFrom f_c_tiresTo f_c_mayFrom f_c_mayTo b_c_bars b_c_gives b_c_rough b_c_code f_w_wind b_k1 v.1 v.2.1 v.2.2.1 v.2.2.2.1 v.2.2.2.2.1 v.2.2.2.2.2.1 v.2.2.2.2.2.2.1 v.2.2.2.2.2.2.2.1 v.2.2.2.2.2.2.2.2) n ((0 : Int32), f_o_firstDeed, f_m_found, b_w_told, b_w_facts, b_w_stack, b_m_deeds, b_m_ends, b_k2)) (fun g33 v24 v25 v26 a27 a28 a29 a30 a31 a32 =>
  some (v25, v26, a27, a28, a29, a30, a31, a_k2, a32, a_k1, b_k1))
theorem zk_X8_reckonWithin : yX8_reckonWithin.cls = RX8 ∧ yX8_reckonWithin.cls ≠ "java/lang/invoke/MethodHandle" ∧ yX8_reckonWithin.cls ≠ "java/lang/invoke/VarHandle" ∧ (parseMethodDescriptor yX8_reckonWithin.desc).map (fun d => d.parameters.length) = some 1 := by decide +kernel
set_option maxHeartbeats 4000000 in
set_option maxRecDepth 100000 in
theorem zt_X8_reckonWithin (l : Launch) (dC : Nat → ClassId) (dI : Nat → Nat → Nat) (dA : Nat → ClassId) (adK adV : Nat → Nat) (sz : Nat) (a_o : Nat) (a_c : Nat) (a_m : Nat) (a_ord : Nat) (a_dep : Nat) (a_k1 : Nat) (a_k2 : Nat) (a_c_bars : Nat) (a_c_gives : Nat) (a_c_rough : Nat) (a_c_code : Nat) (a_w : Nat) (a_m_deeds : Nat) (a_m_ends : Nat) (a_w_told : Nat) (a_w_facts : Nat) (a_w_stack : Nat) (n : Nat) (f_o_size : Int32) (f_o_rung : Int32) (f_o_whole : Int64) (f_o_result : Int64) (f_o_firstDeed : Int32) (f_c_top : Int32) (f_c_things : Int32) (f_c_startRung : Int32) (f_c_startThings : Int32) (f_c_startStrength : Int32) (f_c_startWind : Int32) (f_c_slips : Int32) (f_c_lines : Int32) (f_c_coded : Int32) (f_c_tiresFrom : Int32) (f_c_tiresTo : Int32) (f_c_mayFrom : Int32) (f_c_mayTo : Int32) (f_m_found : Int32) (f_w_wind : Int32) (b_c_bars : (Nat → Int32)) (b_c_gives : (Nat → Int32)) (b_c_rough : (Nat → Int32)) (b_c_code : (Nat → Int32)) (b_w_told : (Nat → Int32)) (b_w_facts : (Nat → Int32)) (b_w_stack : (Nat → Int32)) (b_m_deeds : (Nat → Int32)) (b_m_ends : (Nat → Int32)) (b_ord : (Nat → Int32)) (b_dep : (Nat → Int32)) (b_k1 : (Nat → Int64)) (b_k2 : (Nat → Int64)) (p1 : Int32) (o1 : Int32) (o2 : Int32) (o3 : (Nat → Int32)) (o4 : (Nat → Int32)) (o5 : (Nat → Int32)) (o6 : (Nat → Int32)) (o7 : (Nat → Int32)) (o8 : Nat) (o9 : (Nat → Int64)) (o10 : Nat) (o11 : (Nat → Int64)) (hf : zf_X8_reckonWithin n f_o_size f_o_rung f_o_whole f_o_firstDeed f_c_top f_c_things f_c_slips f_c_tiresFrom f_c_tiresTo f_c_mayFrom f_c_mayTo b_c_bars b_c_gives b_c_rough b_c_code f_m_found f_w_wind b_w_told b_w_facts b_w_stack b_m_deeds b_m_ends b_ord b_dep a_k1 b_k1 a_k2 b_k2 p1 = some (o1, o2, o3, o4, o5, o6, o7, o8, o9, o10, o11)) : Met l yX8_reckonWithin (.code yX8_reckonWithin cX8_reckonWithin 3 none :: zq_T) ({ frames := 6, cells := 0, slots := 0, locals := 182 }) (va_Pc [.ref a_o, .int p1] (zx_M dC dI dA adK adV [zo_X8 a_o a_c a_m a_ord a_dep f_o_size a_k1 a_k2 f_o_rung f_o_whole f_o_result f_o_firstDeed, zo_X0 a_c f_c_top f_c_things a_c_bars a_c_gives a_c_rough f_c_startRung f_c_startThings f_c_startStrength f_c_startWind f_c_slips f_c_lines a_c_code f_c_coded f_c_tiresFrom f_c_tiresTo f_c_mayFrom f_c_mayTo, (a_c_bars, .inl (dA 0, 9, .inl b_c_bars)), (a_c_gives, .inl (dA 0, 9, .inl b_c_gives)), (a_c_rough, .inl (dA 0, 9, .inl b_c_rough)), (a_c_code, .inl (dA 0, 900, .inl b_c_code)), zo_X3 a_m a_c a_w a_m_deeds a_m_ends f_m_found, zo_X2 a_w a_c a_w_told a_w_facts a_w_stack f_w_wind, (a_w_told, .inl (dA 0, 315, .inl b_w_told)), (a_w_facts, .inl (dA 0, 6, .inl b_w_facts)), (a_w_stack, .inl (dA 0, 64, .inl b_w_stack)), (a_m_deeds, .inl (dA 0, 9, .inl b_m_deeds)), (a_m_ends, .inl (dA 0, 9, .inl b_m_ends)), (a_ord, .inl (dA 0, 2880, .inl b_ord)), (a_dep, .inl (dA 0, 2880, .inl b_dep)), (a_k1, .inl (dA 1, 2880, .inr (.inl b_k1))), (a_k2, .inl (dA 1, 2880, .inr (.inl b_k2)))] sz)) (va_Qv (fun _ : Unit => True) (fun _ t => zz_B dC dI dA (va_A [zo_X8 a_o a_c a_m a_ord a_dep f_o_size a_k1 a_k2 f_o_rung f_o_whole f_o_result f_o_firstDeed, zo_X0 a_c f_c_top f_c_things a_c_bars a_c_gives a_c_rough f_c_startRung f_c_startThings f_c_startStrength f_c_startWind f_c_slips f_c_lines a_c_code f_c_coded f_c_tiresFrom f_c_tiresTo f_c_mayFrom f_c_mayTo, (a_c_bars, .inl (dA 0, 9, .inl b_c_bars)), (a_c_gives, .inl (dA 0, 9, .inl b_c_gives)), (a_c_rough, .inl (dA 0, 9, .inl b_c_rough)), (a_c_code, .inl (dA 0, 900, .inl b_c_code)), zo_X3 a_m a_c a_w a_m_deeds a_m_ends f_m_found, zo_X2 a_w a_c a_w_told a_w_facts a_w_stack f_w_wind, (a_w_told, .inl (dA 0, 315, .inl b_w_told)), (a_w_facts, .inl (dA 0, 6, .inl b_w_facts)), (a_w_stack, .inl (dA 0, 64, .inl b_w_stack)), (a_m_deeds, .inl (dA 0, 9, .inl b_m_deeds)), (a_m_ends, .inl (dA 0, 9, .inl b_m_ends)), (a_ord, .inl (dA 0, 2880, .inl b_ord)), (a_dep, .inl (dA 0, 2880, .inl b_dep)), (a_k1, .inl (dA 1, 2880, .inr (.inl b_k1))), (a_k2, .inl (dA 1, 2880, .inr (.inl b_k2)))] sz) [zo_X8 a_o a_c a_m a_ord a_dep f_o_size o8 o10 f_o_rung f_o_whole f_o_result o1, zo_X0 a_c f_c_top f_c_things a_c_bars a_c_gives a_c_rough f_c_startRung f_c_startThings f_c_startStrength f_c_startWind f_c_slips f_c_lines a_c_code f_c_coded f_c_tiresFrom f_c_tiresTo f_c_mayFrom f_c_mayTo, (a_c_bars, .inl (dA 0, 9, .inl b_c_bars)), (a_c_gives, .inl (dA 0, 9, .inl b_c_gives)), (a_c_rough, .inl (dA 0, 9, .inl b_c_rough)), (a_c_code, .inl (dA 0, 900, .inl b_c_code)), zo_X3 a_m a_c a_w a_m_deeds a_m_ends o2, zo_X2 a_w a_c a_w_told a_w_facts a_w_stack f_w_wind, (a_w_told, .inl (dA 0, 315, .inl o3)), (a_w_facts, .inl (dA 0, 6, .inl o4)), (a_w_stack, .inl (dA 0, 64, .inl o5)), (a_m_deeds, .inl (dA 0, 9, .inl o6)), (a_m_ends, .inl (dA 0, 9, .inl o7)), (a_ord, .inl (dA 0, 2880, .inl b_ord)), (a_dep, .inl (dA 0, 2880, .inl b_dep)), (o8, .inl (dA 1, 2880, .inr (.inl o9))), (o10, .inl (dA 1, 2880, .inr (.inl o11)))] t) (va_A [zo_X8 a_o a_c a_m a_ord a_dep f_o_size a_k1 a_k2 f_o_rung f_o_whole f_o_result f_o_firstDeed, zo_X0 a_c f_c_top f_c_things a_c_bars a_c_gives a_c_rough f_c_startRung f_c_startThings f_c_startStrength f_c_startWind f_c_slips f_c_lines a_c_code f_c_coded f_c_tiresFrom f_c_tiresTo f_c_mayFrom f_c_mayTo, (a_c_bars, .inl (dA 0, 9, .inl b_c_bars)), (a_c_gives, .inl (dA 0, 9, .inl b_c_gives)), (a_c_rough, .inl (dA 0, 9, .inl b_c_rough)), (a_c_code, .inl (dA 0, 900, .inl b_c_code)), zo_X3 a_m a_c a_w a_m_deeds a_m_ends f_m_found, zo_X2 a_w a_c a_w_told a_w_facts a_w_stack f_w_wind, (a_w_told, .inl (dA 0, 315, .inl b_w_told)), (a_w_facts, .inl (dA 0, 6, .inl b_w_facts)), (a_w_stack, .inl (dA 0, 64, .inl b_w_stack)), (a_m_deeds, .inl (dA 0, 9, .inl b_m_deeds)), (a_m_ends, .inl (dA 0, 9, .inl b_m_ends)), (a_ord, .inl (dA 0, 2880, .inl b_ord)), (a_dep, .inl (dA 0, 2880, .inl b_dep)), (a_k1, .inl (dA 1, 2880, .inr (.inl b_k1))), (a_k2, .inl (dA 1, 2880, .inr (.inl b_k2)))] sz)) 0 0 (va_A [zo_X8 a_o a_c a_m a_ord a_dep f_o_size a_k1 a_k2 f_o_rung f_o_whole f_o_result f_o_firstDeed, zo_X0 a_c f_c_top f_c_things a_c_bars a_c_gives a_c_rough f_c_startRung f_c_startThings f_c_startStrength f_c_startWind f_c_slips f_c_lines a_c_code f_c_coded f_c_tiresFrom f_c_tiresTo f_c_mayFrom f_c_mayTo, (a_c_bars, .inl (dA 0, 9, .inl b_c_bars)), (a_c_gives, .inl (dA 0, 9, .inl b_c_gives)), (a_c_rough, .inl (dA 0, 9, .inl b_c_rough)), (a_c_code, .inl (dA 0, 900, .inl b_c_code)), zo_X3 a_m a_c a_w a_m_deeds a_m_ends f_m_found, zo_X2 a_w a_c a_w_told a_w_facts a_w_stack f_w_wind, (a_w_told, .inl (dA 0, 315, .inl b_w_told)), (a_w_facts, .inl (dA 0, 6, .inl b_w_facts)), (a_w_stack, .inl (dA 0, 64, .inl b_w_stack)), (a_m_deeds, .inl (dA 0, 9, .inl b_m_deeds)), (a_m_ends, .inl (dA 0, 9, .inl b_m_ends)), (a_ord, .inl (dA 0, 2880, .inl b_ord)), (a_dep, .inl (dA 0, 2880, .inl b_dep)), (a_k1, .inl (dA 1, 2880, .inr (.inl b_k1))), (a_k2, .inl (dA 1, 2880, .inr (.inl b_k2)))] sz) := by
  unfold zf_X8_reckonWithin at hf
  refine Met.ofW (cc := cX8_reckonWithin) (maxL := 3) (ret := none) (by decide) rfl ?_
  intro p e s m args below meth c s₁ B hml hv
  obtain ⟨rfl, ⟨hsz, hP, hK, hD0⟩, hZ⟩ := hv
  have hx := B.exec
  have hb := B.bytes
  have hr := B.returns
  have ht : ∀ w ∈ zq_T, w.before ([.ref a_o, .int p1] : List Value).toArray s = true := fun w hw => atoms_spec (ws := .code yX8_reckonWithin cX8_reckonWithin 3 none :: zq_T) B.pre w (List.mem_cons_of_mem _ hw)
  have hown : s.vm.findClass RX8 = some m.cls := findClass_of_methodNamed B.named
  have hlocks := B.notSynchronized
  subst hsz
  have hD := hD0.self (sz := s.heap.size)
  generalize hAe : va_A [zo_X8 a_o a_c a_m a_ord a_dep f_o_size a_k1 a_k2 f_o_rung f_o_whole f_o_result f_o_firstDeed, zo_X0 a_c f_c_top f_c_things a_c_bars a_c_gives a_c_rough f_c_startRung f_c_startThings f_c_startStrength f_c_startWind f_c_slips f_c_lines a_c_code f_c_coded f_c_tiresFrom f_c_tiresTo f_c_mayFrom f_c_mayTo, (a_c_bars, .inl (dA 0, 9, .inl b_c_bars)), (a_c_gives, .inl (dA 0, 9, .inl b_c_gives)), (a_c_rough, .inl (dA 0, 9, .inl b_c_rough)), (a_c_code, .inl (dA 0, 900, .inl b_c_code)), zo_X3 a_m a_c a_w a_m_deeds a_m_ends f_m_found, zo_X2 a_w a_c a_w_told a_w_facts a_w_stack f_w_wind, (a_w_told, .inl (dA 0, 315, .inl b_w_told)), (a_w_facts, .inl (dA 0, 6, .inl b_w_facts)), (a_w_stack, .inl (dA 0, 64, .inl b_w_stack)), (a_m_deeds, .inl (dA 0, 9, .inl b_m_deeds)), (a_m_ends, .inl (dA 0, 9, .inl b_m_ends)), (a_ord, .inl (dA 0, 2880, .inl b_ord)), (a_dep, .inl (dA 0, 2880, .inl b_dep)), (a_k1, .inl (dA 1, 2880, .inr (.inl b_k1))), (a_k2, .inl (dA 1, 2880, .inr (.inl b_k2)))] s.heap.size = A at hD hZ ⊢
  have hA : ∀ q : Nat, s.heap.size ≤ q → A q := fun q h => by rw [← hAe]; exact Or.inr h
  clear hAe hD0
  have hS : va_S A s.heap s.heap [] := va_S.rf
  have hl := lv_entry ([.ref a_o, .int p1]) (n := 3) (Nat.le_of_ble_eq_true rfl)
  rw [lg_entry_eq]
  generalize (lg_sl ([.ref a_o, .int p1]) ++ List.replicate (3 - (lg_sl ([.ref a_o, .int p1])).length) Slot.unset).toArray = ls at hl ⊢
  have hl : lv_has ls 3 [(0, .ref a_o), (1, .int p1)] := hl
  refine lv_iconst (v := (0 : Int32)) (pc := 0) hx hb dX8_reckonWithin_0 (by decide) ?_
  refine lv_istore_n (lv' := [(2, .int (0 : Int32)), (0, .ref a_o), (1, .int p1)]) (pc := 1) hx hb dX8_reckonWithin_1 rfl hl (by decide) rfl (fun ls hl => ?_)
  obtain ⟨g33, v24, v25, v26, a27, a28, a29, a30, a31, a32, hj, hf⟩ := zc_10 hf
  refine zj_join (pcJ := 52) (stk := []) (X := fun H locs ls => lv_has ls 3 [(0, .ref a_o)] ∧ va_P (dC, dI) zz_cls [zo_X8 a_o a_c a_m a_ord a_dep f_o_size a_k1 a_k2 f_o_rung f_o_whole f_o_result v25, zo_X0 a_c f_c_top f_c_things a_c_bars a_c_gives a_c_rough f_c_startRung f_c_startThings f_c_startStrength f_c_startWind f_c_slips f_c_lines a_c_code f_c_coded f_c_tiresFrom f_c_tiresTo f_c_mayFrom f_c_mayTo, (a_c_bars, .inl (dA 0, 9, .inl b_c_bars)), (a_c_gives, .inl (dA 0, 9, .inl b_c_gives)), (a_c_rough, .inl (dA 0, 9, .inl b_c_rough)), (a_c_code, .inl (dA 0, 900, .inl b_c_code)), zo_X3 a_m a_c a_w a_m_deeds a_m_ends v26, zo_X2 a_w a_c a_w_told a_w_facts a_w_stack f_w_wind, (a_w_told, .inl (dA 0, 315, .inl a27)), (a_w_facts, .inl (dA 0, 6, .inl a28)), (a_w_stack, .inl (dA 0, 64, .inl a29)), (a_m_deeds, .inl (dA 0, 9, .inl a30)), (a_m_ends, .inl (dA 0, 9, .inl a31)), (a_ord, .inl (dA 0, 2880, .inl b_ord)), (a_dep, .inl (dA 0, 2880, .inl b_dep)), (a_k1, .inl (dA 1, 2880, .inr (.inl b_k1))), (a_k2, .inl (dA 1, 2880, .inr (.inl a32)))] H ∧ va_D A [zo_X8 a_o a_c a_m a_ord a_dep f_o_size a_k1 a_k2 f_o_rung f_o_whole f_o_result v25, zo_X0 a_c f_c_top f_c_things a_c_bars a_c_gives a_c_rough f_c_startRung f_c_startThings f_c_startStrength f_c_startWind f_c_slips f_c_lines a_c_code f_c_coded f_c_tiresFrom f_c_tiresTo f_c_mayFrom f_c_mayTo, (a_c_bars, .inl (dA 0, 9, .inl b_c_bars)), (a_c_gives, .inl (dA 0, 9, .inl b_c_gives)), (a_c_rough, .inl (dA 0, 9, .inl b_c_rough)), (a_c_code, .inl (dA 0, 900, .inl b_c_code)), zo_X3 a_m a_c a_w a_m_deeds a_m_ends v26, zo_X2 a_w a_c a_w_told a_w_facts a_w_stack f_w_wind, (a_w_told, .inl (dA 0, 315, .inl a27)), (a_w_facts, .inl (dA 0, 6, .inl a28)), (a_w_stack, .inl (dA 0, 64, .inl a29)), (a_m_deeds, .inl (dA 0, 9, .inl a30)), (a_m_ends, .inl (dA 0, 9, .inl a31)), (a_ord, .inl (dA 0, 2880, .inl b_ord)), (a_dep, .inl (dA 0, 2880, .inl b_dep)), (a_k1, .inl (dA 1, 2880, .inr (.inl b_k1))), (a_k2, .inl (dA 1, 2880, .inr (.inl a32)))] ∧ va_S A s.heap H locs) (fun H locs ls hX => ?_) (fun E52 => ?_)
  · obtain ⟨hl, hP, hD, hS⟩ := hX
    clear hj
    refine lv_aload_n (pc := 52) hx hb dX8_reckonWithin_52 rfl (lv_at hl 0 rfl) ?_
    refine va_get (pc := 53) (D := (dC, dI)) (ci := 9) (v := .ref a_k1) (C := RX8) (T := TX8) (N := 11) hx hb ht zq_layX8 hown hK hP 0 rfl rfl 5 (by decide) (ht _ zq_539) (fun _ h9 => h9) rfl dX8_reckonWithin_53 ?_
    refine lv_astore_n (lv' := [(2, .ref a_k1), (0, .ref a_o)]) (pc := 56) hx hb dX8_reckonWithin_56 rfl hl (by decide) rfl (fun ls hl => ?_)
    refine lv_aload_n (pc := 57) hx hb dX8_reckonWithin_57 rfl (lv_at hl 1 rfl) ?_
    refine lv_aload_n (pc := 58) hx hb dX8_reckonWithin_58 rfl (lv_at hl 1 rfl) ?_
    refine va_get (pc := 59) (D := (dC, dI)) (ci := 9) (v := .ref a_k2) (C := RX8) (T := TX8) (N := 11) hx hb ht zq_layX8 hown hK hP 0 rfl rfl 6 (by decide) (ht _ zq_540) (fun _ h9 => h9) rfl dX8_reckonWithin_59 ?_
    refine va_put (pc := 62) (D := (dC, dI)) (ci := 9) (v := .ref a_k2) (ty := (.array .long)) (C := RX8) (T := TX8) (N := 11) hx hb ht zq_layX8 tyX8 tyX8_ok nmX8 hown hK hP hD hS 0 rfl rfl 5 (by decide) (ht _ zq_539) (fun _ h9 => h9) rfl (by decide +kernel) rfl rfl (Nat.le_of_ble_eq_true rfl) dX8_reckonWithin_62 (fun H locs hP hD hS => ?_)
    have hP : va_P (dC, dI) zz_cls [zo_X8 a_o a_c a_m a_ord a_dep f_o_size a_k2 a_k2 f_o_rung f_o_whole f_o_result v25, zo_X0 a_c f_c_top f_c_things a_c_bars a_c_gives a_c_rough f_c_startRung f_c_startThings f_c_startStrength f_c_startWind f_c_slips f_c_lines a_c_code f_c_coded f_c_tiresFrom f_c_tiresTo f_c_mayFrom f_c_mayTo, (a_c_bars, .inl (dA 0, 9, .inl b_c_bars)), (a_c_gives, .inl (dA 0, 9, .inl b_c_gives)), (a_c_rough, .inl (dA 0, 9, .inl b_c_rough)), (a_c_code, .inl (dA 0, 900, .inl b_c_code)), zo_X3 a_m a_c a_w a_m_deeds a_m_ends v26, zo_X2 a_w a_c a_w_told a_w_facts a_w_stack f_w_wind, (a_w_told, .inl (dA 0, 315, .inl a27)), (a_w_facts, .inl (dA 0, 6, .inl a28)), (a_w_stack, .inl (dA 0, 64, .inl a29)), (a_m_deeds, .inl (dA 0, 9, .inl a30)), (a_m_ends, .inl (dA 0, 9, .inl a31)), (a_ord, .inl (dA 0, 2880, .inl b_ord)), (a_dep, .inl (dA 0, 2880, .inl b_dep)), (a_k1, .inl (dA 1, 2880, .inr (.inl b_k1))), (a_k2, .inl (dA 1, 2880, .inr (.inl a32)))] H := hP
    have hD : va_D A [zo_X8 a_o a_c a_m a_ord a_dep f_o_size a_k2 a_k2 f_o_rung f_o_whole f_o_result v25, zo_X0 a_c f_c_top f_c_things a_c_bars a_c_gives a_c_rough f_c_startRung f_c_startThings f_c_startStrength f_c_startWind f_c_slips f_c_lines a_c_code f_c_coded f_c_tiresFrom f_c_tiresTo f_c_mayFrom f_c_mayTo, (a_c_bars, .inl (dA 0, 9, .inl b_c_bars)), (a_c_gives, .inl (dA 0, 9, .inl b_c_gives)), (a_c_rough, .inl (dA 0, 9, .inl b_c_rough)), (a_c_code, .inl (dA 0, 900, .inl b_c_code)), zo_X3 a_m a_c a_w a_m_deeds a_m_ends v26, zo_X2 a_w a_c a_w_told a_w_facts a_w_stack f_w_wind, (a_w_told, .inl (dA 0, 315, .inl a27)), (a_w_facts, .inl (dA 0, 6, .inl a28)), (a_w_stack, .inl (dA 0, 64, .inl a29)), (a_m_deeds, .inl (dA 0, 9, .inl a30)), (a_m_ends, .inl (dA 0, 9, .inl a31)), (a_ord, .inl (dA 0, 2880, .inl b_ord)), (a_dep, .inl (dA 0, 2880, .inl b_dep)), (a_k1, .inl (dA 1, 2880, .inr (.inl b_k1))), (a_k2, .inl (dA 1, 2880, .inr (.inl a32)))] := hD
    refine lv_aload_n (pc := 65) hx hb dX8_reckonWithin_65 rfl (lv_at hl 1 rfl) ?_
    refine lv_aload_n (pc := 66) hx hb dX8_reckonWithin_66 rfl (lv_at hl 0 rfl) ?_
    refine va_put (pc := 67) (D := (dC, dI)) (ci := 9) (v := .ref a_k1) (ty := (.array .long)) (C := RX8) (T := TX8) (N := 11) hx hb ht zq_layX8 tyX8 tyX8_ok nmX8 hown hK hP hD hS 0 rfl rfl 6 (by decide) (ht _ zq_540) (fun _ h9 => h9) rfl (by decide +kernel) rfl rfl (Nat.le_of_ble_eq_true rfl) dX8_reckonWithin_67 (fun H locs hP hD hS => ?_)
    have hP : va_P (dC, dI) zz_cls [zo_X8 a_o a_c a_m a_ord a_dep f_o_size a_k2 a_k1 f_o_rung f_o_whole f_o_result v25, zo_X0 a_c f_c_top f_c_things a_c_bars a_c_gives a_c_rough f_c_startRung f_c_startThings f_c_startStrength f_c_startWind f_c_slips f_c_lines a_c_code f_c_coded f_c_tiresFrom f_c_tiresTo f_c_mayFrom f_c_mayTo, (a_c_bars, .inl (dA 0, 9, .inl b_c_bars)), (a_c_gives, .inl (dA 0, 9, .inl b_c_gives)), (a_c_rough, .inl (dA 0, 9, .inl b_c_rough)), (a_c_code, .inl (dA 0, 900, .inl b_c_code)), zo_X3 a_m a_c a_w a_m_deeds a_m_ends v26, zo_X2 a_w a_c a_w_told a_w_facts a_w_stack f_w_wind, (a_w_told, .inl (dA 0, 315, .inl a27)), (a_w_facts, .inl (dA 0, 6, .inl a28)), (a_w_stack, .inl (dA 0, 64, .inl a29)), (a_m_deeds, .inl (dA 0, 9, .inl a30)), (a_m_ends, .inl (dA 0, 9, .inl a31)), (a_ord, .inl (dA 0, 2880, .inl b_ord)), (a_dep, .inl (dA 0, 2880, .inl b_dep)), (a_k1, .inl (dA 1, 2880, .inr (.inl b_k1))), (a_k2, .inl (dA 1, 2880, .inr (.inl a32)))] H := hP
    have hD : va_D A [zo_X8 a_o a_c a_m a_ord a_dep f_o_size a_k2 a_k1 f_o_rung f_o_whole f_o_result v25, zo_X0 a_c f_c_top f_c_things a_c_bars a_c_gives a_c_rough f_c_startRung f_c_startThings f_c_startStrength f_c_startWind f_c_slips f_c_lines a_c_code f_c_coded f_c_tiresFrom f_c_tiresTo f_c_mayFrom f_c_mayTo, (a_c_bars, .inl (dA 0, 9, .inl b_c_bars)), (a_c_gives, .inl (dA 0, 9, .inl b_c_gives)), (a_c_rough, .inl (dA 0, 9, .inl b_c_rough)), (a_c_code, .inl (dA 0, 900, .inl b_c_code)), zo_X3 a_m a_c a_w a_m_deeds a_m_ends v26, zo_X2 a_w a_c a_w_told a_w_facts a_w_stack f_w_wind, (a_w_told, .inl (dA 0, 315, .inl a27)), (a_w_facts, .inl (dA 0, 6, .inl a28)), (a_w_stack, .inl (dA 0, 64, .inl a29)), (a_m_deeds, .inl (dA 0, 9, .inl a30)), (a_m_ends, .inl (dA 0, 9, .inl a31)), (a_ord, .inl (dA 0, 2880, .inl b_ord)), (a_dep, .inl (dA 0, 2880, .inl b_dep)), (a_k1, .inl (dA 1, 2880, .inr (.inl b_k1))), (a_k2, .inl (dA 1, 2880, .inr (.inl a32)))] := hD
    obtain ⟨rfl, rfl, rfl, rfl, rfl, rfl, rfl, rfl, rfl, rfl, rfl⟩ := zi_11 hf
    exact W.vret (pc := 70) hx hb hr (fun t ht hW => ⟨⟨(), rfl, trivial, zz_Bi (by rw [ht]; exact hP.sub [0, 1, 2, 3, 4, 5, 6, 7, 8, 9, 10, 11, 12, 13, 14, 16, 15] rfl) (va_K.moved hW.alike hK) (hD.sub [0, 1, 2, 3, 4, 5, 6, 7, 8, 9, 10, 11, 12, 13, 14, 16, 15] (by decide) rfl)⟩, hS.F ht⟩) hS.2.2 dX8_reckonWithin_70
  clear hf
  refine zw_loop (pcH := 2) (X := fun v H locs ls => lv_has ls 3 [(0, .ref a_o), (1, .int p1), (2, .int v.1)] ∧ va_P (dC, dI) zz_cls [zo_X8 a_o a_c a_m a_ord a_dep f_o_size a_k1 a_k2 f_o_rung f_o_whole f_o_result v.2.1, zo_X0 a_c f_c_top f_c_things a_c_bars a_c_gives a_c_rough f_c_startRung f_c_startThings f_c_startStrength f_c_startWind f_c_slips f_c_lines a_c_code f_c_coded f_c_tiresFrom f_c_tiresTo f_c_mayFrom f_c_mayTo, (a_c_bars, .inl (dA 0, 9, .inl b_c_bars)), (a_c_gives, .inl (dA 0, 9, .inl b_c_gives)), (a_c_rough, .inl (dA 0, 9, .inl b_c_rough)), (a_c_code, .inl (dA 0, 900, .inl b_c_code)), zo_X3 a_m a_c a_w a_m_deeds a_m_ends v.2.2.1, zo_X2 a_w a_c a_w_told a_w_facts a_w_stack f_w_wind, (a_w_told, .inl (dA 0, 315, .inl v.2.2.2.1)), (a_w_facts, .inl (dA 0, 6, .inl v.2.2.2.2.1)), (a_w_stack, .inl (dA 0, 64, .inl v.2.2.2.2.2.1)), (a_m_deeds, .inl (dA 0, 9, .inl v.2.2.2.2.2.2.1)), (a_m_ends, .inl (dA 0, 9, .inl v.2.2.2.2.2.2.2.1)), (a_ord, .inl (dA 0, 2880, .inl b_ord)), (a_dep, .inl (dA 0, 2880, .inl b_dep)), (a_k1, .inl (dA 1, 2880, .inr (.inl b_k1))), (a_k2, .inl (dA 1, 2880, .inr (.inl v.2.2.2.2.2.2.2.2)))] H ∧ va_D A [zo_X8 a_o a_c a_m a_ord a_dep f_o_size a_k1 a_k2 f_o_rung f_o_whole f_o_result v.2.1, zo_X0 a_c f_c_top f_c_things a_c_bars a_c_gives a_c_rough f_c_startRung f_c_startThings f_c_startStrength f_c_startWind f_c_slips f_c_lines a_c_code f_c_coded f_c_tiresFrom f_c_tiresTo f_c_mayFrom f_c_mayTo, (a_c_bars, .inl (dA 0, 9, .inl b_c_bars)), (a_c_gives, .inl (dA 0, 9, .inl b_c_gives)), (a_c_rough, .inl (dA 0, 9, .inl b_c_rough)), (a_c_code, .inl (dA 0, 900, .inl b_c_code)), zo_X3 a_m a_c a_w a_m_deeds a_m_ends v.2.2.1, zo_X2 a_w a_c a_w_told a_w_facts a_w_stack f_w_wind, (a_w_told, .inl (dA 0, 315, .inl v.2.2.2.1)), (a_w_facts, .inl (dA 0, 6, .inl v.2.2.2.2.1)), (a_w_stack, .inl (dA 0, 64, .inl v.2.2.2.2.2.1)), (a_m_deeds, .inl (dA 0, 9, .inl v.2.2.2.2.2.2.1)), (a_m_ends, .inl (dA 0, 9, .inl v.2.2.2.2.2.2.2.1)), (a_ord, .inl (dA 0, 2880, .inl b_ord)), (a_dep, .inl (dA 0, 2880, .inl b_dep)), (a_k1, .inl (dA 1, 2880, .inr (.inl b_k1))), (a_k2, .inl (dA 1, 2880, .inr (.inl v.2.2.2.2.2.2.2.2)))] ∧ va_S A s.heap H locs) hj (fun v w hf ih ex H locs ls hX => ?_) _ _ _ ⟨lv_sub hl [1, 2, 0] rfl, hP, hD, hS⟩
  clear hj
  obtain ⟨v1, v2, v3, a4, a5, a6, a7, a8, a9⟩ := v
  obtain ⟨hl, hP, hD, hS⟩ := hX
  have hl : lv_has ls 3 [(0, .ref a_o), (1, .int p1), (2, .int v1)] := hl
  have hP : va_P (dC, dI) zz_cls [zo_X8 a_o a_c a_m a_ord a_dep f_o_size a_k1 a_k2 f_o_rung f_o_whole f_o_result v2, zo_X0 a_c f_c_top f_c_things a_c_bars a_c_gives a_c_rough f_c_startRung f_c_startThings f_c_startStrength f_c_startWind f_c_slips f_c_lines a_c_code f_c_coded f_c_tiresFrom f_c_tiresTo f_c_mayFrom f_c_mayTo, (a_c_bars, .inl (dA 0, 9, .inl b_c_bars)), (a_c_gives, .inl (dA 0, 9, .inl b_c_gives)), (a_c_rough, .inl (dA 0, 9, .inl b_c_rough)), (a_c_code, .inl (dA 0, 900, .inl b_c_code)), zo_X3 a_m a_c a_w a_m_deeds a_m_ends v3, zo_X2 a_w a_c a_w_told a_w_facts a_w_stack f_w_wind, (a_w_told, .inl (dA 0, 315, .inl a4)), (a_w_facts, .inl (dA 0, 6, .inl a5)), (a_w_stack, .inl (dA 0, 64, .inl a6)), (a_m_deeds, .inl (dA 0, 9, .inl a7)), (a_m_ends, .inl (dA 0, 9, .inl a8)), (a_ord, .inl (dA 0, 2880, .inl b_ord)), (a_dep, .inl (dA 0, 2880, .inl b_dep)), (a_k1, .inl (dA 1, 2880, .inr (.inl b_k1))), (a_k2, .inl (dA 1, 2880, .inr (.inl a9)))] H := hP
  have hD : va_D A [zo_X8 a_o a_c a_m a_ord a_dep f_o_size a_k1 a_k2 f_o_rung f_o_whole f_o_result v2, zo_X0 a_c f_c_top f_c_things a_c_bars a_c_gives a_c_rough f_c_startRung f_c_startThings f_c_startStrength f_c_startWind f_c_slips f_c_lines a_c_code f_c_coded f_c_tiresFrom f_c_tiresTo f_c_mayFrom f_c_mayTo, (a_c_bars, .inl (dA 0, 9, .inl b_c_bars)), (a_c_gives, .inl (dA 0, 9, .inl b_c_gives)), (a_c_rough, .inl (dA 0, 9, .inl b_c_rough)), (a_c_code, .inl (dA 0, 900, .inl b_c_code)), zo_X3 a_m a_c a_w a_m_deeds a_m_ends v3, zo_X2 a_w a_c a_w_told a_w_facts a_w_stack f_w_wind, (a_w_told, .inl (dA 0, 315, .inl a4)), (a_w_facts, .inl (dA 0, 6, .inl a5)), (a_w_stack, .inl (dA 0, 64, .inl a6)), (a_m_deeds, .inl (dA 0, 9, .inl a7)), (a_m_ends, .inl (dA 0, 9, .inl a8)), (a_ord, .inl (dA 0, 2880, .inl b_ord)), (a_dep, .inl (dA 0, 2880, .inl b_dep)), (a_k1, .inl (dA 1, 2880, .inr (.inl b_k1))), (a_k2, .inl (dA 1, 2880, .inr (.inl a9)))] := hD
  replace hf : zb_X8_reckonWithin_2 f_o_size b_ord b_dep p1 n f_o_rung f_o_whole f_c_top f_c_things f_c_slips f_c_tiresFrom f_c_tiresTo f_c_mayFrom f_c_mayTo b_c_bars b_c_gives b_c_rough b_c_code f_w_wind b_k1 v1 v2 v3 a4 a5 a6 a7 a8 a9 = some w := hf
  unfold zb_X8_reckonWithin_2 at hf
  refine lv_iload_n (pc := 2) hx hb dX8_reckonWithin_2 rfl (lv_at hl 2 rfl) ?_
  refine lv_aload_n (pc := 3) hx hb dX8_reckonWithin_3 rfl (lv_at hl 0 rfl) ?_
  refine va_get (pc := 4) (D := (dC, dI)) (ci := 9) (v := .int f_o_size) (C := RX8) (T := TX8) (N := 11) hx hb ht zq_layX8 hown hK hP 0 rfl rfl 4 (by decide) (ht _ zq_530) (fun _ h9 => h9) rfl dX8_reckonWithin_4 ?_
  refine lv_icmp_ge (tgt := 52) (pc := 7) hx hb dX8_reckonWithin_7 rfl (fun hc => ?_) (fun hc => ?_)
  · have hf := za_t hf hc
    obtain rfl := Option.some.inj hf
    obtain ⟨rfl, rfl, rfl, rfl, rfl, rfl, rfl, rfl, rfl, rfl⟩ := zp_10 (ex (show ¬ (1 : Nat) = 0 by decide))
    exact E52 _ _ _ ⟨lv_sub hl [0] rfl, hP, hD, hS⟩
  · have hf := za_f hf hc
    refine lv_aload_n (pc := 10) hx hb dX8_reckonWithin_10 rfl (lv_at hl 0 rfl) ?_
    refine va_get (pc := 11) (D := (dC, dI)) (ci := 9) (v := .ref a_dep) (C := RX8) (T := TX8) (N := 11) hx hb ht zq_layX8 hown hK hP 0 rfl rfl 3 (by decide) (ht _ zq_538) (fun _ h9 => h9) rfl dX8_reckonWithin_11 ?_
    refine lv_aload_n (pc := 14) hx hb dX8_reckonWithin_14 rfl (lv_at hl 0 rfl) ?_
    refine va_get (pc := 15) (D := (dC, dI)) (ci := 9) (v := .ref a_ord) (C := RX8) (T := TX8) (N := 11) hx hb ht zq_layX8 hown hK hP 0 rfl rfl 2 (by decide) (ht _ zq_537) (fun _ h9 => h9) rfl dX8_reckonWithin_15 ?_
    refine lv_iload_n (pc := 18) hx hb dX8_reckonWithin_18 rfl (lv_at hl 2 rfl) ?_
    obtain ⟨v10, hv10, hf⟩ := zc_1 hf
    refine zw_iald (pc := 19) hx hb hK hP 13 0 rfl rfl hv10 dX8_reckonWithin_19 ?_
    obtain ⟨v11, hv11, hf⟩ := zc_1 hf
    refine zw_iald (pc := 20) hx hb hK hP 14 0 rfl rfl hv11 dX8_reckonWithin_20 ?_
    refine lv_iload_n (pc := 21) hx hb dX8_reckonWithin_21 rfl (lv_at hl 1 rfl) ?_
    refine lv_icmp_gt (tgt := 52) (pc := 22) hx hb dX8_reckonWithin_22 rfl (fun hc => ?_) (fun hc => ?_)
    · have hf := za_t hf hc
      obtain rfl := Option.some.inj hf
      obtain ⟨rfl, rfl, rfl, rfl, rfl, rfl, rfl, rfl, rfl, rfl⟩ := zp_10 (ex (show ¬ (1 : Nat) = 0 by decide))
      exact E52 _ _ _ ⟨lv_sub hl [0] rfl, hP, hD, hS⟩
    · have hf := za_f hf hc
      refine lv_aload_n (pc := 25) hx hb dX8_reckonWithin_25 rfl (lv_at hl 0 rfl) ?_
      refine va_get (pc := 26) (D := (dC, dI)) (ci := 9) (v := .ref a_k2) (C := RX8) (T := TX8) (N := 11) hx hb ht zq_layX8 hown hK hP 0 rfl rfl 6 (by decide) (ht _ zq_540) (fun _ h9 => h9) rfl dX8_reckonWithin_26 ?_
      refine lv_aload_n (pc := 29) hx hb dX8_reckonWithin_29 rfl (lv_at hl 0 rfl) ?_
      refine va_get (pc := 30) (D := (dC, dI)) (ci := 9) (v := .ref a_ord) (C := RX8) (T := TX8) (N := 11) hx hb ht zq_layX8 hown hK hP 0 rfl rfl 2 (by decide) (ht _ zq_537) (fun _ h9 => h9) rfl dX8_reckonWithin_30 ?_
      refine lv_iload_n (pc := 33) hx hb dX8_reckonWithin_33 rfl (lv_at hl 2 rfl) ?_
      obtain ⟨v12, hv12, hf⟩ := zc_1 hf
      refine zw_iald (pc := 34) hx hb hK hP 13 0 rfl rfl hv12 dX8_reckonWithin_34 ?_
      refine lv_aload_n (pc := 35) hx hb dX8_reckonWithin_35 rfl (lv_at hl 0 rfl) ?_
      refine lv_aload_n (pc := 36) hx hb dX8_reckonWithin_36 rfl (lv_at hl 0 rfl) ?_
      refine va_get (pc := 37) (D := (dC, dI)) (ci := 9) (v := .ref a_ord) (C := RX8) (T := TX8) (N := 11) hx hb ht zq_layX8 hown hK hP 0 rfl rfl 2 (by decide) (ht _ zq_537) (fun _ h9 => h9) rfl dX8_reckonWithin_37 ?_
      refine lv_iload_n (pc := 40) hx hb dX8_reckonWithin_40 rfl (lv_at hl 2 rfl) ?_
      obtain ⟨v13, hv13, hf⟩ := zc_1 hf
      refine zw_iald (pc := 41) hx hb hK hP 13 0 rfl rfl hv13 dX8_reckonWithin_41 ?_
      obtain ⟨v14, v15, v16, a17, a18, a19, a20, a21, hv14, hf⟩ := zc_8 hf
      refine zx_Vl (pc := 42) (wc := [zo_X8 a_o a_c a_m a_ord a_dep f_o_size a_k1 a_k2 f_o_rung f_o_whole f_o_result v2, zo_X0 a_c f_c_top f_c_things a_c_bars a_c_gives a_c_rough f_c_startRung f_c_startThings f_c_startStrength f_c_startWind f_c_slips f_c_lines a_c_code f_c_coded f_c_tiresFrom f_c_tiresTo f_c_mayFrom f_c_mayTo, (a_c_bars, .inl (dA 0, 9, .inl b_c_bars)), (a_c_gives, .inl (dA 0, 9, .inl b_c_gives)), (a_c_rough, .inl (dA 0, 9, .inl b_c_rough)), (a_c_code, .inl (dA 0, 900, .inl b_c_code)), zo_X3 a_m a_c a_w a_m_deeds a_m_ends v3, zo_X2 a_w a_c a_w_told a_w_facts a_w_stack f_w_wind, (a_w_told, .inl (dA 0, 315, .inl a4)), (a_w_facts, .inl (dA 0, 6, .inl a5)), (a_w_stack, .inl (dA 0, 64, .inl a6)), (a_m_deeds, .inl (dA 0, 9, .inl a7)), (a_m_ends, .inl (dA 0, 9, .inl a8)), (a_k1, .inl (dA 1, 2880, .inr (.inl b_k1)))]) (wr := [(a_ord, .inl (dA 0, 2880, .inl b_ord)), (a_dep, .inl (dA 0, 2880, .inl b_dep)), (a_k2, .inl (dA 1, 2880, .inr (.inl a9)))]) (w1 := [zo_X8 a_o a_c a_m a_ord a_dep f_o_size a_k1 a_k2 f_o_rung f_o_whole f_o_result v15, zo_X0 a_c f_c_top f_c_things a_c_bars a_c_gives a_c_rough f_c_startRung f_c_startThings f_c_startStrength f_c_startWind f_c_slips f_c_lines a_c_code f_c_coded f_c_tiresFrom f_c_tiresTo f_c_mayFrom f_c_mayTo, (a_c_bars, .inl (dA 0, 9, .inl b_c_bars)), (a_c_gives, .inl (dA 0, 9, .inl b_c_gives)), (a_c_rough, .inl (dA 0, 9, .inl b_c_rough)), (a_c_code, .inl (dA 0, 900, .inl b_c_code)), zo_X3 a_m a_c a_w a_m_deeds a_m_ends v16, zo_X2 a_w a_c a_w_told a_w_facts a_w_stack f_w_wind, (a_w_told, .inl (dA 0, 315, .inl a17)), (a_w_facts, .inl (dA 0, 6, .inl a18)), (a_w_stack, .inl (dA 0, 64, .inl a19)), (a_m_deeds, .inl (dA 0, 9, .inl a20)), (a_m_ends, .inl (dA 0, 9, .inl a21)), (a_k1, .inl (dA 1, 2880, .inr (.inl b_k1)))]) (As := [.int v13]) (rest := [.int v12, .ref a_k2]) ⟨hx, hb, hml, hown, ht⟩ (zt_X8_likeliest l dC dI dA adK adV _ a_o a_c a_m a_ord a_dep a_k1 a_k2 a_c_bars a_c_gives a_c_rough a_c_code a_w a_m_deeds a_m_ends a_w_told a_w_facts a_w_stack n f_o_size f_o_rung f_o_whole f_o_result v2 f_c_top f_c_things f_c_startRung f_c_startThings f_c_startStrength f_c_startWind f_c_slips f_c_lines f_c_coded f_c_tiresFrom f_c_tiresTo f_c_mayFrom f_c_mayTo v3 f_w_wind b_c_bars b_c_gives b_c_rough b_c_code a4 a5 a6 a7 a8 b_k1 v13 v14 v15 v16 a17 a18 a19 a20 a21 hv14) (cwV 1 ht (zq_V zq_561 zq_562 zq_563 zq_549 zq_560) rfl rfl rfl zk_X8_likeliest ⟨Nat.le_of_ble_eq_true rfl, Nat.le_of_ble_eq_true rfl⟩) rfl rfl hZ hK hP hD hS hA [0, 1, 2, 3, 4, 5, 6, 7, 8, 9, 10, 11, 12, 15] [13, 14, 16] (by decide) (by decide) (by decide) rfl rfl rfl hl.1 (Nat.le_of_ble_eq_true rfl) dX8_reckonWithin_42 ⟨Nat.zero_le _, Nat.zero_le _⟩ rfl (fun H locs hP hD hS => ?_)
      have hP : va_P (dC, dI) zz_cls [(a_ord, .inl (dA 0, 2880, .inl b_ord)), (a_dep, .inl (dA 0, 2880, .inl b_dep)), (a_k2, .inl (dA 1, 2880, .inr (.inl a9))), zo_X8 a_o a_c a_m a_ord a_dep f_o_size a_k1 a_k2 f_o_rung f_o_whole f_o_result v15, zo_X0 a_c f_c_top f_c_things a_c_bars a_c_gives a_c_rough f_c_startRung f_c_startThings f_c_startStrength f_c_startWind f_c_slips f_c_lines a_c_code f_c_coded f_c_tiresFrom f_c_tiresTo f_c_mayFrom f_c_mayTo, (a_c_bars, .inl (dA 0, 9, .inl b_c_bars)), (a_c_gives, .inl (dA 0, 9, .inl b_c_gives)), (a_c_rough, .inl (dA 0, 9, .inl b_c_rough)), (a_c_code, .inl (dA 0, 900, .inl b_c_code)), zo_X3 a_m a_c a_w a_m_deeds a_m_ends v16, zo_X2 a_w a_c a_w_told a_w_facts a_w_stack f_w_wind, (a_w_told, .inl (dA 0, 315, .inl a17)), (a_w_facts, .inl (dA 0, 6, .inl a18)), (a_w_stack, .inl (dA 0, 64, .inl a19)), (a_m_deeds, .inl (dA 0, 9, .inl a20)), (a_m_ends, .inl (dA 0, 9, .inl a21)), (a_k1, .inl (dA 1, 2880, .inr (.inl b_k1)))] H := hP
      have hD : va_D A [(a_ord, .inl (dA 0, 2880, .inl b_ord)), (a_dep, .inl (dA 0, 2880, .inl b_dep)), (a_k2, .inl (dA 1, 2880, .inr (.inl a9))), zo_X8 a_o a_c a_m a_ord a_dep f_o_size a_k1 a_k2 f_o_rung f_o_whole f_o_result v15, zo_X0 a_c f_c_top f_c_things a_c_bars a_c_gives a_c_rough f_c_startRung f_c_startThings f_c_startStrength f_c_startWind f_c_slips f_c_lines a_c_code f_c_coded f_c_tiresFrom f_c_tiresTo f_c_mayFrom f_c_mayTo, (a_c_bars, .inl (dA 0, 9, .inl b_c_bars)), (a_c_gives, .inl (dA 0, 9, .inl b_c_gives)), (a_c_rough, .inl (dA 0, 9, .inl b_c_rough)), (a_c_code, .inl (dA 0, 900, .inl b_c_code)), zo_X3 a_m a_c a_w a_m_deeds a_m_ends v16, zo_X2 a_w a_c a_w_told a_w_facts a_w_stack f_w_wind, (a_w_told, .inl (dA 0, 315, .inl a17)), (a_w_facts, .inl (dA 0, 6, .inl a18)), (a_w_stack, .inl (dA 0, 64, .inl a19)), (a_m_deeds, .inl (dA 0, 9, .inl a20)), (a_m_ends, .inl (dA 0, 9, .inl a21)), (a_k1, .inl (dA 1, 2880, .inr (.inl b_k1)))] := hD
      obtain ⟨a22, ha22, hf⟩ := zc_1 hf
      refine zw_last (pc := 45) hx hb hK hP hD hS 2 1 rfl rfl ha22 dX8_reckonWithin_45 (fun H locs hP hD hS => ?_)
      have hP : va_P (dC, dI) zz_cls [(a_ord, .inl (dA 0, 2880, .inl b_ord)), (a_dep, .inl (dA 0, 2880, .inl b_dep)), (a_k2, .inl (dA 1, 2880, .inr (.inl a22))), zo_X8 a_o a_c a_m a_ord a_dep f_o_size a_k1 a_k2 f_o_rung f_o_whole f_o_result v15, zo_X0 a_c f_c_top f_c_things a_c_bars a_c_gives a_c_rough f_c_startRung f_c_startThings f_c_startStrength f_c_startWind f_c_slips f_c_lines a_c_code f_c_coded f_c_tiresFrom f_c_tiresTo f_c_mayFrom f_c_mayTo, (a_c_bars, .inl (dA 0, 9, .inl b_c_bars)), (a_c_gives, .inl (dA 0, 9, .inl b_c_gives)), (a_c_rough, .inl (dA 0, 9, .inl b_c_rough)), (a_c_code, .inl (dA 0, 900, .inl b_c_code)), zo_X3 a_m a_c a_w a_m_deeds a_m_ends v16, zo_X2 a_w a_c a_w_told a_w_facts a_w_stack f_w_wind, (a_w_told, .inl (dA 0, 315, .inl a17)), (a_w_facts, .inl (dA 0, 6, .inl a18)), (a_w_stack, .inl (dA 0, 64, .inl a19)), (a_m_deeds, .inl (dA 0, 9, .inl a20)), (a_m_ends, .inl (dA 0, 9, .inl a21)), (a_k1, .inl (dA 1, 2880, .inr (.inl b_k1)))] H := hP
      have hD : va_D A [(a_ord, .inl (dA 0, 2880, .inl b_ord)), (a_dep, .inl (dA 0, 2880, .inl b_dep)), (a_k2, .inl (dA 1, 2880, .inr (.inl a22))), zo_X8 a_o a_c a_m a_ord a_dep f_o_size a_k1 a_k2 f_o_rung f_o_whole f_o_result v15, zo_X0 a_c f_c_top f_c_things a_c_bars a_c_gives a_c_rough f_c_startRung f_c_startThings f_c_startStrength f_c_startWind f_c_slips f_c_lines a_c_code f_c_coded f_c_tiresFrom f_c_tiresTo f_c_mayFrom f_c_mayTo, (a_c_bars, .inl (dA 0, 9, .inl b_c_bars)), (a_c_gives, .inl (dA 0, 9, .inl b_c_gives)), (a_c_rough, .inl (dA 0, 9, .inl b_c_rough)), (a_c_code, .inl (dA 0, 900, .inl b_c_code)), zo_X3 a_m a_c a_w a_m_deeds a_m_ends v16, zo_X2 a_w a_c a_w_told a_w_facts a_w_stack f_w_wind, (a_w_told, .inl (dA 0, 315, .inl a17)), (a_w_facts, .inl (dA 0, 6, .inl a18)), (a_w_stack, .inl (dA 0, 64, .inl a19)), (a_m_deeds, .inl (dA 0, 9, .inl a20)), (a_m_ends, .inl (dA 0, 9, .inl a21)), (a_k1, .inl (dA 1, 2880, .inr (.inl b_k1)))] := hD
      obtain ⟨v23, hv23, hf⟩ := zc_1 hf
      refine lv_iinc (v := v23) (lv' := [(2, .int v23), (0, .ref a_o), (1, .int p1)]) (k := 2) (pc := 46) hx hb dX8_reckonWithin_46 hl rfl (Option.some.inj hv23) (by decide) rfl (fun ls hl => ?_)
      refine lv_goto (tgt := 2) (pc := 49) hx hb dX8_reckonWithin_49 rfl ?_
      obtain rfl := Option.some.inj hf
      exact ih rfl _ _ _ ⟨lv_sub hl [1, 2, 0] rfl, hP.sub [3, 4, 5, 6, 7, 8, 9, 10, 11, 12, 13, 14, 15, 0, 1, 16, 2] rfl, hD.sub [3, 4, 5, 6, 7, 8, 9, 10, 11, 12, 13, 14, 15, 0, 1, 16, 2] (by decide) rfl, hS⟩

def zb_X8_reckon_19 (p3 : Int32) (n : Nat) (v1 : Int32) (p2 : Int32) (f_c_top : Int32) (f_c_things : Int32) (f_c_slips : Int32) (f_c_tiresFrom : Int32) (f_c_tiresTo : Int32) (f_c_mayFrom : Int32) (f_c_mayTo : Int32) (b_c_bars : (Nat → Int32)) (b_c_gives : (Nat → Int32)) (b_c_rough : (Nat → Int32)) (b_c_code : (Nat → Int32)) (f_w_wind : Int32) (a9 : (Nat → Int32)) (a10 : (Nat → Int32)) (v12 : Nat) (v13 : Nat) (v14 : Int32) (v15 : Int64) (v16 : Int32) (v17 : Int32) (a18 : (Nat → Int32)) (a19 : (Nat → Int32)) (a20 : (Nat → Int32)) (a21 : (Nat → Int32)) (a22 : (Nat → Int32)) (a23 : (Nat → Int64)) (a24 : (Nat → Int64)) : Option (Nat × Nat × Nat × Int32 × Int64 × Int32 × Int32 × (Nat → Int32) × (Nat → Int32) × (Nat → Int32) × (Nat → Int32) × (Nat → Int32) × (Nat → Int64) × (Nat → Int64)) :=
  if p3 < v14 then
    some (1, v12, v13, v14, v15, v16, v17, a18, a19, a20, a21, a22, a23, a24)
  else
    zd_1 (some ((v15 * (10 : Int64)))) (fun v25 =>
    zd_11 (zf_X8_reckonWithin n v1 p2 v25 v16 f_c_top f_c_things f_c_slips f_c_tiresFrom f_c_tiresTo f_c_mayFrom f_c_mayTo b_c_bars b_c_gives b_c_rough b_c_code v17 f_w_wind a18 a19 a20 a21 a22 a9 a10 v12 a23 v13 a24 (p3 - v14)) (fun v26 v27 a28 a29 a30 a31 a32 v33 a34 v35 a36 =>
    zd_1 (some (v14 + (1 : Int32))) (fun v37 =>
    some (0, v33, v35, v37, v25, v26, v27, a28, a29, a30, a31, a32, a34, a36))))
def zf_X8_reckon (n : Nat) (f_o_size : Int32) (f_o_rung : Int32) (f_o_whole : Int64) (f_o_result : Int64) (f_o_firstDeed : Int32) (f_c_top : Int32) (f_c_things : Int32) (f_c_slips : Int32) (f_c_tiresFrom : Int32) (f_c_tiresTo : Int32) (f_c_mayFrom : Int32) (f_c_mayTo : Int32) (b_c_bars : (Nat → Int32)) (b_c_gives : (Nat → Int32)) (b_c_rough : (Nat → Int32)) (b_c_code : (Nat → Int32)) (f_m_found : Int32) (f_w_wind : Int32) (b_w_told : (Nat → Int32)) (b_w_facts : (Nat → Int32)) (b_w_stack : (Nat → Int32)) (b_m_deeds : (Nat → Int32)) (b_m_ends : (Nat → Int32)) (b_ord : (Nat → Int32)) (b_dep : (Nat → Int32)) (a_k1 : Nat) (b_k1 : (Nat → Int64)) (a_k2 : Nat) (b_k2 : (Nat → Int64)) (p1 : Int32) (p2 : Int32) (p3 : Int32) : Option (Int32 × Int32 × Int64 × Int64 × Int32 × Int32 × (Nat → Int32) × (Nat → Int32) × (Nat → Int32) × (Nat → Int32) × (Nat → Int32) × (Nat → Int32) × (Nat → Int32) × Nat × (Nat → Int64) × Nat × (Nat → Int64)) :=
  zd_11 (zf_X8_explore n f_o_size p2 f_o_firstDeed f_c_top f_c_things f_c_tiresFrom f_c_tiresTo f_c_mayFrom f_c_mayTo b_c_bars b_c_gives b_c_rough b_c_code f_m_found f_w_wind b_w_told b_w_facts b_w_stack b_m_deeds b_m_ends b_ord b_dep b_k1 p1 p3) (fun v1 v2 v3 a4 a5 a6 a7 a8 a9 a10 a11 =>
  zd_14 (za_it (fun v => zb_X8_reckon_19 p3 n v1 p2 f_c_top f_c_things f_c_slips f_c_tiresFrom f_c_tiresTo f_c_mayFrom f_c_mayTo b_c_bars b_c_gives b_c_rough b_c_code f_w_wind a9 a10 v.1 v.2.1 v.2.2.1 v.2.2.2.1 v.2.2.2.2.1 v.2.2.2.2.2.1 v.2.2.2.2.2.2.1 v.2.2.2.2.2.2.2.1 v.2.2.2.2.2.2.2.2.1 v.2.2.2.2.2.2.2.2.2.1 v.2.2.2.2.2.2.2.2.2.2.1 v.2.2.2.2.2.2.2.2.2.2.2.1 v.2.2.2.2.2.2.2.2.2.2.2.2) n (a_k1, a_k2, (1 : Int32), (1 : Int64), v2, v3, a4, a5, a6, a7, a8, a11, b_k2)) (fun g51 v38 v39 v40 v41 v42 v43 a44 a45 a46 a47 a48 a49 a50 =>
  zd_1 (za_ld a49 2880 p1) (fun v52 =>
  some (v1, p2, v41, v52, v42, v43, a44, a45, a46, a47, a48, a9, a10, v38, a49, v39, a50))))
theorem zk_X8_reckon : yX8_reckon.cls = RX8 ∧ yX8_reckon.cls ≠ "java/lang/invoke/MethodHandle" ∧ yX8_reckon.cls ≠ "java/lang/invoke/VarHandle" ∧ (parseMethodDescriptor yX8_reckon.desc).map (fun d => d.parameters.length) = some 3 := by decide +kernel
set_option maxHeartbeats 4000000 in
set_option maxRecDepth 100000 in
theorem zt_X8_reckon (l : Launch) (dC : Nat → ClassId) (dI : Nat → Nat → Nat) (dA : Nat → ClassId) (adK adV : Nat → Nat) (sz : Nat) (a_o : Nat) (a_c : Nat) (a_m : Nat) (a_ord : Nat) (a_dep : Nat) (a_k1 : Nat) (a_k2 : Nat) (a_c_bars : Nat) (a_c_gives : Nat) (a_c_rough : Nat) (a_c_code : Nat) (a_w : Nat) (a_m_deeds : Nat) (a_m_ends : Nat) (a_w_told : Nat) (a_w_facts : Nat) (a_w_stack : Nat) (n : Nat) (f_o_size : Int32) (f_o_rung : Int32) (f_o_whole : Int64) (f_o_result : Int64) (f_o_firstDeed : Int32) (f_c_top : Int32) (f_c_things : Int32) (f_c_startRung : Int32) (f_c_startThings : Int32) (f_c_startStrength : Int32) (f_c_startWind : Int32) (f_c_slips : Int32) (f_c_lines : Int32) (f_c_coded : Int32) (f_c_tiresFrom : Int32) (f_c_tiresTo : Int32) (f_c_mayFrom : Int32) (f_c_mayTo : Int32) (f_m_found : Int32) (f_w_wind : Int32) (b_c_bars : (Nat → Int32)) (b_c_gives : (Nat → Int32)) (b_c_rough : (Nat → Int32)) (b_c_code : (Nat → Int32)) (b_w_told : (Nat → Int32)) (b_w_facts : (Nat → Int32)) (b_w_stack : (Nat → Int32)) (b_m_deeds : (Nat → Int32)) (b_m_ends : (Nat → Int32)) (b_ord : (Nat → Int32)) (b_dep : (Nat → Int32)) (b_k1 : (Nat → Int64)) (b_k2 : (Nat → Int64)) (p1 : Int32) (p2 : Int32) (p3 : Int32) (o1 : Int32) (o2 : Int32) (o3 : Int64) (o4 : Int64) (o5 : Int32) (o6 : Int32) (o7 : (Nat → Int32)) (o8 : (Nat → Int32)) (o9 : (Nat → Int32)) (o10 : (Nat → Int32)) (o11 : (Nat → Int32)) (o12 : (Nat → Int32)) (o13 : (Nat → Int32)) (o14 : Nat) (o15 : (Nat → Int64)) (o16 : Nat) (o17 : (Nat → Int64)) (hf : zf_X8_reckon n f_o_size f_o_rung f_o_whole f_o_result f_o_firstDeed f_c_top f_c_things f_c_slips f_c_tiresFrom f_c_tiresTo f_c_mayFrom f_c_mayTo b_c_bars b_c_gives b_c_rough b_c_code f_m_found f_w_wind b_w_told b_w_facts b_w_stack b_m_deeds b_m_ends b_ord b_dep a_k1 b_k1 a_k2 b_k2 p1 p2 p3 = some (o1, o2, o3, o4, o5, o6, o7, o8, o9, o10, o11, o12, o13, o14, o15, o16, o17)) : Met l yX8_reckon (.code yX8_reckon cX8_reckon 5 none :: zq_T) ({ frames := 7, cells := 0, slots := 0, locals := 204 }) (va_Pc [.ref a_o, .int p1, .int p2, .int p3] (zx_M dC dI dA adK adV [zo_X8 a_o a_c a_m a_ord a_dep f_o_size a_k1 a_k2 f_o_rung f_o_whole f_o_result f_o_firstDeed, zo_X0 a_c f_c_top f_c_things a_c_bars a_c_gives a_c_rough f_c_startRung f_c_startThings f_c_startStrength f_c_startWind f_c_slips f_c_lines a_c_code f_c_coded f_c_tiresFrom f_c_tiresTo f_c_mayFrom f_c_mayTo, (a_c_bars, .inl (dA 0, 9, .inl b_c_bars)), (a_c_gives, .inl (dA 0, 9, .inl b_c_gives)), (a_c_rough, .inl (dA 0, 9, .inl b_c_rough)), (a_c_code, .inl (dA 0, 900, .inl b_c_code)), zo_X3 a_m a_c a_w a_m_deeds a_m_ends f_m_found, zo_X2 a_w a_c a_w_told a_w_facts a_w_stack f_w_wind, (a_w_told, .inl (dA 0, 315, .inl b_w_told)), (a_w_facts, .inl (dA 0, 6, .inl b_w_facts)), (a_w_stack, .inl (dA 0, 64, .inl b_w_stack)), (a_m_deeds, .inl (dA 0, 9, .inl b_m_deeds)), (a_m_ends, .inl (dA 0, 9, .inl b_m_ends)), (a_ord, .inl (dA 0, 2880, .inl b_ord)), (a_dep, .inl (dA 0, 2880, .inl b_dep)), (a_k1, .inl (dA 1, 2880, .inr (.inl b_k1))), (a_k2, .inl (dA 1, 2880, .inr (.inl b_k2)))] sz)) (va_Qv (fun _ : Unit => True) (fun _ t => zz_B dC dI dA (va_A [zo_X8 a_o a_c a_m a_ord a_dep f_o_size a_k1 a_k2 f_o_rung f_o_whole f_o_result f_o_firstDeed, zo_X0 a_c f_c_top f_c_things a_c_bars a_c_gives a_c_rough f_c_startRung f_c_startThings f_c_startStrength f_c_startWind f_c_slips f_c_lines a_c_code f_c_coded f_c_tiresFrom f_c_tiresTo f_c_mayFrom f_c_mayTo, (a_c_bars, .inl (dA 0, 9, .inl b_c_bars)), (a_c_gives, .inl (dA 0, 9, .inl b_c_gives)), (a_c_rough, .inl (dA 0, 9, .inl b_c_rough)), (a_c_code, .inl (dA 0, 900, .inl b_c_code)), zo_X3 a_m a_c a_w a_m_deeds a_m_ends f_m_found, zo_X2 a_w a_c a_w_told a_w_facts a_w_stack f_w_wind, (a_w_told, .inl (dA 0, 315, .inl b_w_told)), (a_w_facts, .inl (dA 0, 6, .inl b_w_facts)), (a_w_stack, .inl (dA 0, 64, .inl b_w_stack)), (a_m_deeds, .inl (dA 0, 9, .inl b_m_deeds)), (a_m_ends, .inl (dA 0, 9, .inl b_m_ends)), (a_ord, .inl (dA 0, 2880, .inl b_ord)), (a_dep, .inl (dA 0, 2880, .inl b_dep)), (a_k1, .inl (dA 1, 2880, .inr (.inl b_k1))), (a_k2, .inl (dA 1, 2880, .inr (.inl b_k2)))] sz) [zo_X8 a_o a_c a_m a_ord a_dep o1 o14 o16 o2 o3 o4 o5, zo_X0 a_c f_c_top f_c_things a_c_bars a_c_gives a_c_rough f_c_startRung f_c_startThings f_c_startStrength f_c_startWind f_c_slips f_c_lines a_c_code f_c_coded f_c_tiresFrom f_c_tiresTo f_c_mayFrom f_c_mayTo, (a_c_bars, .inl (dA 0, 9, .inl b_c_bars)), (a_c_gives, .inl (dA 0, 9, .inl b_c_gives)), (a_c_rough, .inl (dA 0, 9, .inl b_c_rough)), (a_c_code, .inl (dA 0, 900, .inl b_c_code)), zo_X3 a_m a_c a_w a_m_deeds a_m_ends o6, zo_X2 a_w a_c a_w_told a_w_facts a_w_stack f_w_wind, (a_w_told, .inl (dA 0, 315, .inl o7)), (a_w_facts, .inl (dA 0, 6, .inl o8)), (a_w_stack, .inl (dA 0, 64, .inl o9)), (a_m_deeds, .inl (dA 0, 9, .inl o10)), (a_m_ends, .inl (dA 0, 9, .inl o11)), (a_ord, .inl (dA 0, 2880, .inl o12)), (a_dep, .inl (dA 0, 2880, .inl o13)), (o14, .inl (dA 1, 2880, .inr (.inl o15))), (o16, .inl (dA 1, 2880, .inr (.inl o17)))] t) (va_A [zo_X8 a_o a_c a_m a_ord a_dep f_o_size a_k1 a_k2 f_o_rung f_o_whole f_o_result f_o_firstDeed, zo_X0 a_c f_c_top f_c_things a_c_bars a_c_gives a_c_rough f_c_startRung f_c_startThings f_c_startStrength f_c_startWind f_c_slips f_c_lines a_c_code f_c_coded f_c_tiresFrom f_c_tiresTo f_c_mayFrom f_c_mayTo, (a_c_bars, .inl (dA 0, 9, .inl b_c_bars)), (a_c_gives, .inl (dA 0, 9, .inl b_c_gives)), (a_c_rough, .inl (dA 0, 9, .inl b_c_rough)), (a_c_code, .inl (dA 0, 900, .inl b_c_code)), zo_X3 a_m a_c a_w a_m_deeds a_m_ends f_m_found, zo_X2 a_w a_c a_w_told a_w_facts a_w_stack f_w_wind, (a_w_told, .inl (dA 0, 315, .inl b_w_told)), (a_w_facts, .inl (dA 0, 6, .inl b_w_facts)), (a_w_stack, .inl (dA 0, 64, .inl b_w_stack)), (a_m_deeds, .inl (dA 0, 9, .inl b_m_deeds)), (a_m_ends, .inl (dA 0, 9, .inl b_m_ends)), (a_ord, .inl (dA 0, 2880, .inl b_ord)), (a_dep, .inl (dA 0, 2880, .inl b_dep)), (a_k1, .inl (dA 1, 2880, .inr (.inl b_k1))), (a_k2, .inl (dA 1, 2880, .inr (.inl b_k2)))] sz)) 0 0 (va_A [zo_X8 a_o a_c a_m a_ord a_dep f_o_size a_k1 a_k2 f_o_rung f_o_whole f_o_result f_o_firstDeed, zo_X0 a_c f_c_top f_c_things a_c_bars a_c_gives a_c_rough f_c_startRung f_c_startThings f_c_startStrength f_c_startWind f_c_slips f_c_lines a_c_code f_c_coded f_c_tiresFrom f_c_tiresTo f_c_mayFrom f_c_mayTo, (a_c_bars, .inl (dA 0, 9, .inl b_c_bars)), (a_c_gives, .inl (dA 0, 9, .inl b_c_gives)), (a_c_rough, .inl (dA 0, 9, .inl b_c_rough)), (a_c_code, .inl (dA 0, 900, .inl b_c_code)), zo_X3 a_m a_c a_w a_m_deeds a_m_ends f_m_found, zo_X2 a_w a_c a_w_told a_w_facts a_w_stack f_w_wind, (a_w_told, .inl (dA 0, 315, .inl b_w_told)), (a_w_facts, .inl (dA 0, 6, .inl b_w_facts)), (a_w_stack, .inl (dA 0, 64, .inl b_w_stack)), (a_m_deeds, .inl (dA 0, 9, .inl b_m_deeds)), (a_m_ends, .inl (dA 0, 9, .inl b_m_ends)), (a_ord, .inl (dA 0, 2880, .inl b_ord)), (a_dep, .inl (dA 0, 2880, .inl b_dep)), (a_k1, .inl (dA 1, 2880, .inr (.inl b_k1))), (a_k2, .inl (dA 1, 2880, .inr (.inl b_k2)))] sz) := by
  unfold zf_X8_reckon at hf
  refine Met.ofW (cc := cX8_reckon) (maxL := 5) (ret := none) (by decide) rfl ?_
  intro p e s m args below meth c s₁ B hml hv
  obtain ⟨rfl, ⟨hsz, hP, hK, hD0⟩, hZ⟩ := hv
  have hx := B.exec
  have hb := B.bytes
  have hr := B.returns
  have ht : ∀ w ∈ zq_T, w.before ([.ref a_o, .int p1, .int p2, .int p3] : List Value).toArray s = true := fun w hw => atoms_spec (ws := .code yX8_reckon cX8_reckon 5 none :: zq_T) B.pre w (List.mem_cons_of_mem _ hw)
  have hown : s.vm.findClass RX8 = some m.cls := findClass_of_methodNamed B.named
  have hlocks := B.notSynchronized
  subst hsz
  have hD := hD0.self (sz := s.heap.size)
  generalize hAe : va_A [zo_X8 a_o a_c a_m a_ord a_dep f_o_size a_k1 a_k2 f_o_rung f_o_whole f_o_result f_o_firstDeed, zo_X0 a_c f_c_top f_c_things a_c_bars a_c_gives a_c_rough f_c_startRung f_c_startThings f_c_startStrength f_c_startWind f_c_slips f_c_lines a_c_code f_c_coded f_c_tiresFrom f_c_tiresTo f_c_mayFrom f_c_mayTo, (a_c_bars, .inl (dA 0, 9, .inl b_c_bars)), (a_c_gives, .inl (dA 0, 9, .inl b_c_gives)), (a_c_rough, .inl (dA 0, 9, .inl b_c_rough)), (a_c_code, .inl (dA 0, 900, .inl b_c_code)), zo_X3 a_m a_c a_w a_m_deeds a_m_ends f_m_found, zo_X2 a_w a_c a_w_told a_w_facts a_w_stack f_w_wind, (a_w_told, .inl (dA 0, 315, .inl b_w_told)), (a_w_facts, .inl (dA 0, 6, .inl b_w_facts)), (a_w_stack, .inl (dA 0, 64, .inl b_w_stack)), (a_m_deeds, .inl (dA 0, 9, .inl b_m_deeds)), (a_m_ends, .inl (dA 0, 9, .inl b_m_ends)), (a_ord, .inl (dA 0, 2880, .inl b_ord)), (a_dep, .inl (dA 0, 2880, .inl b_dep)), (a_k1, .inl (dA 1, 2880, .inr (.inl b_k1))), (a_k2, .inl (dA 1, 2880, .inr (.inl b_k2)))] s.heap.size = A at hD hZ ⊢
  have hA : ∀ q : Nat, s.heap.size ≤ q → A q := fun q h => by rw [← hAe]; exact Or.inr h
  clear hAe hD0
  have hS : va_S A s.heap s.heap [] := va_S.rf
  have hl := lv_entry ([.ref a_o, .int p1, .int p2, .int p3]) (n := 5) (Nat.le_of_ble_eq_true rfl)
  rw [lg_entry_eq]
  generalize (lg_sl ([.ref a_o, .int p1, .int p2, .int p3]) ++ List.replicate (5 - (lg_sl ([.ref a_o, .int p1, .int p2, .int p3])).length) Slot.unset).toArray = ls at hl ⊢
  have hl : lv_has ls 5 [(0, .ref a_o), (1, .int p1), (2, .int p2), (3, .int p3)] := hl
  refine lv_aload_n (pc := 0) hx hb dX8_reckon_0 rfl (lv_at hl 0 rfl) ?_
  refine lv_iload_n (pc := 1) hx hb dX8_reckon_1 rfl (lv_at hl 2 rfl) ?_
  refine va_put (pc := 2) (D := (dC, dI)) (ci := 9) (v := .int p2) (ty := .int) (C := RX8) (T := TX8) (N := 11) hx hb ht zq_layX8 tyX8 tyX8_ok nmX8 hown hK hP hD hS 0 rfl rfl 7 (by decide) (ht _ zq_531) (fun _ h9 => h9) rfl (by decide +kernel) rfl rfl (Nat.le_of_ble_eq_true rfl) dX8_reckon_2 (fun H locs hP hD hS => ?_)
  have hP : va_P (dC, dI) zz_cls [zo_X8 a_o a_c a_m a_ord a_dep f_o_size a_k1 a_k2 p2 f_o_whole f_o_result f_o_firstDeed, zo_X0 a_c f_c_top f_c_things a_c_bars a_c_gives a_c_rough f_c_startRung f_c_startThings f_c_startStrength f_c_startWind f_c_slips f_c_lines a_c_code f_c_coded f_c_tiresFrom f_c_tiresTo f_c_mayFrom f_c_mayTo, (a_c_bars, .inl (dA 0, 9, .inl b_c_bars)), (a_c_gives, .inl (dA 0, 9, .inl b_c_gives)), (a_c_rough, .inl (dA 0, 9, .inl b_c_rough)), (a_c_code, .inl (dA 0, 900, .inl b_c_code)), zo_X3 a_m a_c a_w a_m_deeds a_m_ends f_m_found, zo_X2 a_w a_c a_w_told a_w_facts a_w_stack f_w_wind, (a_w_told, .inl (dA 0, 315, .inl b_w_told)), (a_w_facts, .inl (dA 0, 6, .inl b_w_facts)), (a_w_stack, .inl (dA 0, 64, .inl b_w_stack)), (a_m_deeds, .inl (dA 0, 9, .inl b_m_deeds)), (a_m_ends, .inl (dA 0, 9, .inl b_m_ends)), (a_ord, .inl (dA 0, 2880, .inl b_ord)), (a_dep, .inl (dA 0, 2880, .inl b_dep)), (a_k1, .inl (dA 1, 2880, .inr (.inl b_k1))), (a_k2, .inl (dA 1, 2880, .inr (.inl b_k2)))] H := hP
  have hD : va_D A [zo_X8 a_o a_c a_m a_ord a_dep f_o_size a_k1 a_k2 p2 f_o_whole f_o_result f_o_firstDeed, zo_X0 a_c f_c_top f_c_things a_c_bars a_c_gives a_c_rough f_c_startRung f_c_startThings f_c_startStrength f_c_startWind f_c_slips f_c_lines a_c_code f_c_coded f_c_tiresFrom f_c_tiresTo f_c_mayFrom f_c_mayTo, (a_c_bars, .inl (dA 0, 9, .inl b_c_bars)), (a_c_gives, .inl (dA 0, 9, .inl b_c_gives)), (a_c_rough, .inl (dA 0, 9, .inl b_c_rough)), (a_c_code, .inl (dA 0, 900, .inl b_c_code)), zo_X3 a_m a_c a_w a_m_deeds a_m_ends f_m_found, zo_X2 a_w a_c a_w_told a_w_facts a_w_stack f_w_wind, (a_w_told, .inl (dA 0, 315, .inl b_w_told)), (a_w_facts, .inl (dA 0, 6, .inl b_w_facts)), (a_w_stack, .inl (dA 0, 64, .inl b_w_stack)), (a_m_deeds, .inl (dA 0, 9, .inl b_m_deeds)), (a_m_ends, .inl (dA 0, 9, .inl b_m_ends)), (a_ord, .inl (dA 0, 2880, .inl b_ord)), (a_dep, .inl (dA 0, 2880, .inl b_dep)), (a_k1, .inl (dA 1, 2880, .inr (.inl b_k1))), (a_k2, .inl (dA 1, 2880, .inr (.inl b_k2)))] := hD
  refine lv_aload_n (pc := 5) hx hb dX8_reckon_5 rfl (lv_at hl 0 rfl) ?_
  refine lv_lconst (v := (1 : Int64)) (pc := 6) hx hb dX8_reckon_6 (by decide) ?_
  refine va_put (pc := 7) (D := (dC, dI)) (ci := 9) (v := .long (1 : Int64)) (ty := .long) (C := RX8) (T := TX8) (N := 11) hx hb ht zq_layX8 tyX8 tyX8_ok nmX8 hown hK hP hD hS 0 rfl rfl 8 (by decide) (ht _ zq_532) (fun _ h9 => h9) rfl (by decide +kernel) rfl rfl (Nat.le_of_ble_eq_true rfl) dX8_reckon_7 (fun H locs hP hD hS => ?_)
  have hP : va_P (dC, dI) zz_cls [zo_X8 a_o a_c a_m a_ord a_dep f_o_size a_k1 a_k2 p2 (1 : Int64) f_o_result f_o_firstDeed, zo_X0 a_c f_c_top f_c_things a_c_bars a_c_gives a_c_rough f_c_startRung f_c_startThings f_c_startStrength f_c_startWind f_c_slips f_c_lines a_c_code f_c_coded f_c_tiresFrom f_c_tiresTo f_c_mayFrom f_c_mayTo, (a_c_bars, .inl (dA 0, 9, .inl b_c_bars)), (a_c_gives, .inl (dA 0, 9, .inl b_c_gives)), (a_c_rough, .inl (dA 0, 9, .inl b_c_rough)), (a_c_code, .inl (dA 0, 900, .inl b_c_code)), zo_X3 a_m a_c a_w a_m_deeds a_m_ends f_m_found, zo_X2 a_w a_c a_w_told a_w_facts a_w_stack f_w_wind, (a_w_told, .inl (dA 0, 315, .inl b_w_told)), (a_w_facts, .inl (dA 0, 6, .inl b_w_facts)), (a_w_stack, .inl (dA 0, 64, .inl b_w_stack)), (a_m_deeds, .inl (dA 0, 9, .inl b_m_deeds)), (a_m_ends, .inl (dA 0, 9, .inl b_m_ends)), (a_ord, .inl (dA 0, 2880, .inl b_ord)), (a_dep, .inl (dA 0, 2880, .inl b_dep)), (a_k1, .inl (dA 1, 2880, .inr (.inl b_k1))), (a_k2, .inl (dA 1, 2880, .inr (.inl b_k2)))] H := hP
  have hD : va_D A [zo_X8 a_o a_c a_m a_ord a_dep f_o_size a_k1 a_k2 p2 (1 : Int64) f_o_result f_o_firstDeed, zo_X0 a_c f_c_top f_c_things a_c_bars a_c_gives a_c_rough f_c_startRung f_c_startThings f_c_startStrength f_c_startWind f_c_slips f_c_lines a_c_code f_c_coded f_c_tiresFrom f_c_tiresTo f_c_mayFrom f_c_mayTo, (a_c_bars, .inl (dA 0, 9, .inl b_c_bars)), (a_c_gives, .inl (dA 0, 9, .inl b_c_gives)), (a_c_rough, .inl (dA 0, 9, .inl b_c_rough)), (a_c_code, .inl (dA 0, 900, .inl b_c_code)), zo_X3 a_m a_c a_w a_m_deeds a_m_ends f_m_found, zo_X2 a_w a_c a_w_told a_w_facts a_w_stack f_w_wind, (a_w_told, .inl (dA 0, 315, .inl b_w_told)), (a_w_facts, .inl (dA 0, 6, .inl b_w_facts)), (a_w_stack, .inl (dA 0, 64, .inl b_w_stack)), (a_m_deeds, .inl (dA 0, 9, .inl b_m_deeds)), (a_m_ends, .inl (dA 0, 9, .inl b_m_ends)), (a_ord, .inl (dA 0, 2880, .inl b_ord)), (a_dep, .inl (dA 0, 2880, .inl b_dep)), (a_k1, .inl (dA 1, 2880, .inr (.inl b_k1))), (a_k2, .inl (dA 1, 2880, .inr (.inl b_k2)))] := hD
  refine lv_aload_n (pc := 10) hx hb dX8_reckon_10 rfl (lv_at hl 0 rfl) ?_
  refine lv_iload_n (pc := 11) hx hb dX8_reckon_11 rfl (lv_at hl 1 rfl) ?_
  refine lv_iload_n (pc := 12) hx hb dX8_reckon_12 rfl (lv_at hl 3 rfl) ?_
  obtain ⟨v1, v2, v3, a4, a5, a6, a7, a8, a9, a10, a11, hv1, hf⟩ := zc_11 hf
  refine zx_Vv (pc := 13) (wc := [zo_X8 a_o a_c a_m a_ord a_dep f_o_size a_k1 a_k2 p2 (1 : Int64) f_o_result f_o_firstDeed, zo_X0 a_c f_c_top f_c_things a_c_bars a_c_gives a_c_rough f_c_startRung f_c_startThings f_c_startStrength f_c_startWind f_c_slips f_c_lines a_c_code f_c_coded f_c_tiresFrom f_c_tiresTo f_c_mayFrom f_c_mayTo, (a_c_bars, .inl (dA 0, 9, .inl b_c_bars)), (a_c_gives, .inl (dA 0, 9, .inl b_c_gives)), (a_c_rough, .inl (dA 0, 9, .inl b_c_rough)), (a_c_code, .inl (dA 0, 900, .inl b_c_code)), zo_X3 a_m a_c a_w a_m_deeds a_m_ends f_m_found, zo_X2 a_w a_c a_w_told a_w_facts a_w_stack f_w_wind, (a_w_told, .inl (dA 0, 315, .inl b_w_told)), (a_w_facts, .inl (dA 0, 6, .inl b_w_facts)), (a_w_stack, .inl (dA 0, 64, .inl b_w_stack)), (a_m_deeds, .inl (dA 0, 9, .inl b_m_deeds)), (a_m_ends, .inl (dA 0, 9, .inl b_m_ends)), (a_ord, .inl (dA 0, 2880, .inl b_ord)), (a_dep, .inl (dA 0, 2880, .inl b_dep)), (a_k1, .inl (dA 1, 2880, .inr (.inl b_k1)))]) (wr := [(a_k2, .inl (dA 1, 2880, .inr (.inl b_k2)))]) (w1 := [zo_X8 a_o a_c a_m a_ord a_dep v1 a_k1 a_k2 p2 (1 : Int64) f_o_result v2, zo_X0 a_c f_c_top f_c_things a_c_bars a_c_gives a_c_rough f_c_startRung f_c_startThings f_c_startStrength f_c_startWind f_c_slips f_c_lines a_c_code f_c_coded f_c_tiresFrom f_c_tiresTo f_c_mayFrom f_c_mayTo, (a_c_bars, .inl (dA 0, 9, .inl b_c_bars)), (a_c_gives, .inl (dA 0, 9, .inl b_c_gives)), (a_c_rough, .inl (dA 0, 9, .inl b_c_rough)), (a_c_code, .inl (dA 0, 900, .inl b_c_code)), zo_X3 a_m a_c a_w a_m_deeds a_m_ends v3, zo_X2 a_w a_c a_w_told a_w_facts a_w_stack f_w_wind, (a_w_told, .inl (dA 0, 315, .inl a4)), (a_w_facts, .inl (dA 0, 6, .inl a5)), (a_w_stack, .inl (dA 0, 64, .inl a6)), (a_m_deeds, .inl (dA 0, 9, .inl a7)), (a_m_ends, .inl (dA 0, 9, .inl a8)), (a_ord, .inl (dA 0, 2880, .inl a9)), (a_dep, .inl (dA 0, 2880, .inl a10)), (a_k1, .inl (dA 1, 2880, .inr (.inl a11)))]) (As := [.int p1, .int p3]) (rest := []) ⟨hx, hb, hml, hown, ht⟩ (zt_X8_explore l dC dI dA adK adV _ a_o a_c a_m a_ord a_dep a_k1 a_k2 a_c_bars a_c_gives a_c_rough a_c_code a_w a_m_deeds a_m_ends a_w_told a_w_facts a_w_stack n f_o_size p2 (1 : Int64) f_o_result f_o_firstDeed f_c_top f_c_things f_c_startRung f_c_startThings f_c_startStrength f_c_startWind f_c_slips f_c_lines f_c_coded f_c_tiresFrom f_c_tiresTo f_c_mayFrom f_c_mayTo f_m_found f_w_wind b_c_bars b_c_gives b_c_rough b_c_code b_w_told b_w_facts b_w_stack b_m_deeds b_m_ends b_ord b_dep b_k1 p1 p3 v1 v2 v3 a4 a5 a6 a7 a8 a9 a10 a11 hv1) (cwV 2 ht (zq_V zq_565 zq_566 zq_567 zq_549 zq_557) rfl rfl rfl zk_X8_explore ⟨Nat.le_of_ble_eq_true rfl, Nat.le_of_ble_eq_true rfl⟩) rfl rfl hZ hK hP hD hS hA [0, 1, 2, 3, 4, 5, 6, 7, 8, 9, 10, 11, 12, 13, 14, 15] [16] (by decide) (by decide) (by decide) rfl rfl rfl hl.1 (Nat.le_of_ble_eq_true rfl) dX8_reckon_13 ⟨Nat.zero_le _, Nat.zero_le _⟩ rfl (fun H locs hP hD hS => ?_)
  have hP : va_P (dC, dI) zz_cls [(a_k2, .inl (dA 1, 2880, .inr (.inl b_k2))), zo_X8 a_o a_c a_m a_ord a_dep v1 a_k1 a_k2 p2 (1 : Int64) f_o_result v2, zo_X0 a_c f_c_top f_c_things a_c_bars a_c_gives a_c_rough f_c_startRung f_c_startThings f_c_startStrength f_c_startWind f_c_slips f_c_lines a_c_code f_c_coded f_c_tiresFrom f_c_tiresTo f_c_mayFrom f_c_mayTo, (a_c_bars, .inl (dA 0, 9, .inl b_c_bars)), (a_c_gives, .inl (dA 0, 9, .inl b_c_gives)), (a_c_rough, .inl (dA 0, 9, .inl b_c_rough)), (a_c_code, .inl (dA 0, 900, .inl b_c_code)), zo_X3 a_m a_c a_w a_m_deeds a_m_ends v3, zo_X2 a_w a_c a_w_told a_w_facts a_w_stack f_w_wind, (a_w_told, .inl (dA 0, 315, .inl a4)), (a_w_facts, .inl (dA 0, 6, .inl a5)), (a_w_stack, .inl (dA 0, 64, .inl a6)), (a_m_deeds, .inl (dA 0, 9, .inl a7)), (a_m_ends, .inl (dA 0, 9, .inl a8)), (a_ord, .inl (dA 0, 2880, .inl a9)), (a_dep, .inl (dA 0, 2880, .inl a10)), (a_k1, .inl (dA 1, 2880, .inr (.inl a11)))] H := hP
  have hD : va_D A [(a_k2, .inl (dA 1, 2880, .inr (.inl b_k2))), zo_X8 a_o a_c a_m a_ord a_dep v1 a_k1 a_k2 p2 (1 : Int64) f_o_result v2, zo_X0 a_c f_c_top f_c_things a_c_bars a_c_gives a_c_rough f_c_startRung f_c_startThings f_c_startStrength f_c_startWind f_c_slips f_c_lines a_c_code f_c_coded f_c_tiresFrom f_c_tiresTo f_c_mayFrom f_c_mayTo, (a_c_bars, .inl (dA 0, 9, .inl b_c_bars)), (a_c_gives, .inl (dA 0, 9, .inl b_c_gives)), (a_c_rough, .inl (dA 0, 9, .inl b_c_rough)), (a_c_code, .inl (dA 0, 900, .inl b_c_code)), zo_X3 a_m a_c a_w a_m_deeds a_m_ends v3, zo_X2 a_w a_c a_w_told a_w_facts a_w_stack f_w_wind, (a_w_told, .inl (dA 0, 315, .inl a4)), (a_w_facts, .inl (dA 0, 6, .inl a5)), (a_w_stack, .inl (dA 0, 64, .inl a6)), (a_m_deeds, .inl (dA 0, 9, .inl a7)), (a_m_ends, .inl (dA 0, 9, .inl a8)), (a_ord, .inl (dA 0, 2880, .inl a9)), (a_dep, .inl (dA 0, 2880, .inl a10)), (a_k1, .inl (dA 1, 2880, .inr (.inl a11)))] := hD
  refine lv_iconst (v := (1 : Int32)) (pc := 16) hx hb dX8_reckon_16 (by decide) ?_
  refine lv_istore (lv' := [(4, .int (1 : Int32)), (0, .ref a_o), (1, .int p1), (2, .int p2), (3, .int p3)]) (pc := 17) hx hb dX8_reckon_17 hl (by decide) rfl (fun ls hl => ?_)
  obtain ⟨g51, v38, v39, v40, v41, v42, v43, a44, a45, a46, a47, a48, a49, a50, hj, hf⟩ := zc_14 hf
  refine zj_join (pcJ := 51) (stk := []) (X := fun H locs ls => lv_has ls 5 [(0, .ref a_o), (1, .int p1)] ∧ va_P (dC, dI) zz_cls [zo_X8 a_o a_c a_m a_ord a_dep v1 v38 v39 p2 v41 f_o_result v42, zo_X0 a_c f_c_top f_c_things a_c_bars a_c_gives a_c_rough f_c_startRung f_c_startThings f_c_startStrength f_c_startWind f_c_slips f_c_lines a_c_code f_c_coded f_c_tiresFrom f_c_tiresTo f_c_mayFrom f_c_mayTo, (a_c_bars, .inl (dA 0, 9, .inl b_c_bars)), (a_c_gives, .inl (dA 0, 9, .inl b_c_gives)), (a_c_rough, .inl (dA 0, 9, .inl b_c_rough)), (a_c_code, .inl (dA 0, 900, .inl b_c_code)), zo_X3 a_m a_c a_w a_m_deeds a_m_ends v43, zo_X2 a_w a_c a_w_told a_w_facts a_w_stack f_w_wind, (a_w_told, .inl (dA 0, 315, .inl a44)), (a_w_facts, .inl (dA 0, 6, .inl a45)), (a_w_stack, .inl (dA 0, 64, .inl a46)), (a_m_deeds, .inl (dA 0, 9, .inl a47)), (a_m_ends, .inl (dA 0, 9, .inl a48)), (a_ord, .inl (dA 0, 2880, .inl a9)), (a_dep, .inl (dA 0, 2880, .inl a10)), (v38, .inl (dA 1, 2880, .inr (.inl a49))), (v39, .inl (dA 1, 2880, .inr (.inl a50)))] H ∧ va_D A [zo_X8 a_o a_c a_m a_ord a_dep v1 v38 v39 p2 v41 f_o_result v42, zo_X0 a_c f_c_top f_c_things a_c_bars a_c_gives a_c_rough f_c_startRung f_c_startThings f_c_startStrength f_c_startWind f_c_slips f_c_lines a_c_code f_c_coded f_c_tiresFrom f_c_tiresTo f_c_mayFrom f_c_mayTo, (a_c_bars, .inl (dA 0, 9, .inl b_c_bars)), (a_c_gives, .inl (dA 0, 9, .inl b_c_gives)), (a_c_rough, .inl (dA 0, 9, .inl b_c_rough)), (a_c_code, .inl (dA 0, 900, .inl b_c_code)), zo_X3 a_m a_c a_w a_m_deeds a_m_ends v43, zo_X2 a_w a_c a_w_told a_w_facts a_w_stack f_w_wind, (a_w_told, .inl (dA 0, 315, .inl a44)), (a_w_facts, .inl (dA 0, 6, .inl a45)), (a_w_stack, .inl (dA 0, 64, .inl a46)), (a_m_deeds, .inl (dA 0, 9, .inl a47)), (a_m_ends, .inl (dA 0, 9, .inl a48)), (a_ord, .inl (dA 0, 2880, .inl a9)), (a_dep, .inl (dA 0, 2880, .inl a10)), (v38, .inl (dA 1, 2880, .inr (.inl a49))), (v39, .inl (dA 1, 2880, .inr (.inl a50)))] ∧ va_S A s.heap H locs) (fun H locs ls hX => ?_) (fun E51 => ?_)
  · obtain ⟨hl, hP, hD, hS⟩ := hX
    clear hj
    refine lv_aload_n (pc := 51) hx hb dX8_reckon_51 rfl (lv_at hl 0 rfl) ?_
    refine lv_aload_n (pc := 52) hx hb dX8_reckon_52 rfl (lv_at hl 0 rfl) ?_
    refine va_get (pc := 53) (D := (dC, dI)) (ci := 9) (v := .ref v38) (C := RX8) (T := TX8) (N := 11) hx hb ht zq_layX8 hown hK hP 0 rfl rfl 5 (by decide) (ht _ zq_539) (fun _ h9 => h9) rfl dX8_reckon_53 ?_
    refine lv_iload_n (pc := 56) hx hb dX8_reckon_56 rfl (lv_at hl 1 rfl) ?_
    obtain ⟨v52, hv52, hf⟩ := zc_1 hf
    refine zw_lald (pc := 57) hx hb hK hP 15 1 rfl rfl hv52 dX8_reckon_57 ?_
    refine va_put (pc := 58) (D := (dC, dI)) (ci := 9) (v := .long v52) (ty := .long) (C := RX8) (T := TX8) (N := 11) hx hb ht zq_layX8 tyX8 tyX8_ok nmX8 hown hK hP hD hS 0 rfl rfl 9 (by decide) (ht _ zq_533) (fun _ h9 => h9) rfl (by decide +kernel) rfl rfl (Nat.le_of_ble_eq_true rfl) dX8_reckon_58 (fun H locs hP hD hS => ?_)
    have hP : va_P (dC, dI) zz_cls [zo_X8 a_o a_c a_m a_ord a_dep v1 v38 v39 p2 v41 v52 v42, zo_X0 a_c f_c_top f_c_things a_c_bars a_c_gives a_c_rough f_c_startRung f_c_startThings f_c_startStrength f_c_startWind f_c_slips f_c_lines a_c_code f_c_coded f_c_tiresFrom f_c_tiresTo f_c_mayFrom f_c_mayTo, (a_c_bars, .inl (dA 0, 9, .inl b_c_bars)), (a_c_gives, .inl (dA 0, 9, .inl b_c_gives)), (a_c_rough, .inl (dA 0, 9, .inl b_c_rough)), (a_c_code, .inl (dA 0, 900, .inl b_c_code)), zo_X3 a_m a_c a_w a_m_deeds a_m_ends v43, zo_X2 a_w a_c a_w_told a_w_facts a_w_stack f_w_wind, (a_w_told, .inl (dA 0, 315, .inl a44)), (a_w_facts, .inl (dA 0, 6, .inl a45)), (a_w_stack, .inl (dA 0, 64, .inl a46)), (a_m_deeds, .inl (dA 0, 9, .inl a47)), (a_m_ends, .inl (dA 0, 9, .inl a48)), (a_ord, .inl (dA 0, 2880, .inl a9)), (a_dep, .inl (dA 0, 2880, .inl a10)), (v38, .inl (dA 1, 2880, .inr (.inl a49))), (v39, .inl (dA 1, 2880, .inr (.inl a50)))] H := hP
    have hD : va_D A [zo_X8 a_o a_c a_m a_ord a_dep v1 v38 v39 p2 v41 v52 v42, zo_X0 a_c f_c_top f_c_things a_c_bars a_c_gives a_c_rough f_c_startRung f_c_startThings f_c_startStrength f_c_startWind f_c_slips f_c_lines a_c_code f_c_coded f_c_tiresFrom f_c_tiresTo f_c_mayFrom f_c_mayTo, (a_c_bars, .inl (dA 0, 9, .inl b_c_bars)), (a_c_gives, .inl (dA 0, 9, .inl b_c_gives)), (a_c_rough, .inl (dA 0, 9, .inl b_c_rough)), (a_c_code, .inl (dA 0, 900, .inl b_c_code)), zo_X3 a_m a_c a_w a_m_deeds a_m_ends v43, zo_X2 a_w a_c a_w_told a_w_facts a_w_stack f_w_wind, (a_w_told, .inl (dA 0, 315, .inl a44)), (a_w_facts, .inl (dA 0, 6, .inl a45)), (a_w_stack, .inl (dA 0, 64, .inl a46)), (a_m_deeds, .inl (dA 0, 9, .inl a47)), (a_m_ends, .inl (dA 0, 9, .inl a48)), (a_ord, .inl (dA 0, 2880, .inl a9)), (a_dep, .inl (dA 0, 2880, .inl a10)), (v38, .inl (dA 1, 2880, .inr (.inl a49))), (v39, .inl (dA 1, 2880, .inr (.inl a50)))] := hD
    obtain ⟨rfl, rfl, rfl, rfl, rfl, rfl, rfl, rfl, rfl, rfl, rfl, rfl, rfl, rfl, rfl, rfl, rfl⟩ := zi_17 hf
    exact W.vret (pc := 61) hx hb hr (fun t ht hW => ⟨⟨(), rfl, trivial, zz_Bi (by rw [ht]; exact hP) (va_K.moved hW.alike hK) (hD)⟩, hS.F ht⟩) hS.2.2 dX8_reckon_61
  clear hf
  refine zw_loop (pcH := 19) (X := fun v H locs ls => lv_has ls 5 [(0, .ref a_o), (1, .int p1), (3, .int p3), (4, .int v.2.2.1)] ∧ va_P (dC, dI) zz_cls [zo_X8 a_o a_c a_m a_ord a_dep v1 v.1 v.2.1 p2 v.2.2.2.1 f_o_result v.2.2.2.2.1, zo_X0 a_c f_c_top f_c_things a_c_bars a_c_gives a_c_rough f_c_startRung f_c_startThings f_c_startStrength f_c_startWind f_c_slips f_c_lines a_c_code f_c_coded f_c_tiresFrom f_c_tiresTo f_c_mayFrom f_c_mayTo, (a_c_bars, .inl (dA 0, 9, .inl b_c_bars)), (a_c_gives, .inl (dA 0, 9, .inl b_c_gives)), (a_c_rough, .inl (dA 0, 9, .inl b_c_rough)), (a_c_code, .inl (dA 0, 900, .inl b_c_code)), zo_X3 a_m a_c a_w a_m_deeds a_m_ends v.2.2.2.2.2.1, zo_X2 a_w a_c a_w_told a_w_facts a_w_stack f_w_wind, (a_w_told, .inl (dA 0, 315, .inl v.2.2.2.2.2.2.1)), (a_w_facts, .inl (dA 0, 6, .inl v.2.2.2.2.2.2.2.1)), (a_w_stack, .inl (dA 0, 64, .inl v.2.2.2.2.2.2.2.2.1)), (a_m_deeds, .inl (dA 0, 9, .inl v.2.2.2.2.2.2.2.2.2.1)), (a_m_ends, .inl (dA 0, 9, .inl v.2.2.2.2.2.2.2.2.2.2.1)), (a_ord, .inl (dA 0, 2880, .inl a9)), (a_dep, .inl (dA 0, 2880, .inl a10)), (v.1, .inl (dA 1, 2880, .inr (.inl v.2.2.2.2.2.2.2.2.2.2.2.1))), (v.2.1, .inl (dA 1, 2880, .inr (.inl v.2.2.2.2.2.2.2.2.2.2.2.2)))] H ∧ va_D A [zo_X8 a_o a_c a_m a_ord a_dep v1 v.1 v.2.1 p2 v.2.2.2.1 f_o_result v.2.2.2.2.1, zo_X0 a_c f_c_top f_c_things a_c_bars a_c_gives a_c_rough f_c_startRung f_c_startThings f_c_startStrength f_c_startWind f_c_slips f_c_lines a_c_code f_c_coded f_c_tiresFrom f_c_tiresTo f_c_mayFrom f_c_mayTo, (a_c_bars, .inl (dA 0, 9, .inl b_c_bars)), (a_c_gives, .inl (dA 0, 9, .inl b_c_gives)), (a_c_rough, .inl (dA 0, 9, .inl b_c_rough)), (a_c_code, .inl (dA 0, 900, .inl b_c_code)), zo_X3 a_m a_c a_w a_m_deeds a_m_ends v.2.2.2.2.2.1, zo_X2 a_w a_c a_w_told a_w_facts a_w_stack f_w_wind, (a_w_told, .inl (dA 0, 315, .inl v.2.2.2.2.2.2.1)), (a_w_facts, .inl (dA 0, 6, .inl v.2.2.2.2.2.2.2.1)), (a_w_stack, .inl (dA 0, 64, .inl v.2.2.2.2.2.2.2.2.1)), (a_m_deeds, .inl (dA 0, 9, .inl v.2.2.2.2.2.2.2.2.2.1)), (a_m_ends, .inl (dA 0, 9, .inl v.2.2.2.2.2.2.2.2.2.2.1)), (a_ord, .inl (dA 0, 2880, .inl a9)), (a_dep, .inl (dA 0, 2880, .inl a10)), (v.1, .inl (dA 1, 2880, .inr (.inl v.2.2.2.2.2.2.2.2.2.2.2.1))), (v.2.1, .inl (dA 1, 2880, .inr (.inl v.2.2.2.2.2.2.2.2.2.2.2.2)))] ∧ va_S A s.heap H locs) hj (fun v w hf ih ex H locs ls hX => ?_) _ _ _ ⟨lv_sub hl [1, 2, 4, 0] rfl, hP.sub [1, 2, 3, 4, 5, 6, 7, 8, 9, 10, 11, 12, 13, 14, 15, 16, 0] rfl, hD.sub [1, 2, 3, 4, 5, 6, 7, 8, 9, 10, 11, 12, 13, 14, 15, 16, 0] (by decide) rfl, hS⟩
  clear hj
  obtain ⟨v12, v13, v14, v15, v16, v17, a18, a19, a20, a21, a22, a23, a24⟩ := v
  obtain ⟨hl, hP, hD, hS⟩ := hX
  have hl : lv_has ls 5 [(0, .ref a_o), (1, .int p1), (3, .int p3), (4, .int v14)] := hl
  have hP : va_P (dC, dI) zz_cls [zo_X8 a_o a_c a_m a_ord a_dep v1 v12 v13 p2 v15 f_o_result v16, zo_X0 a_c f_c_top f_c_things a_c_bars a_c_gives a_c_rough f_c_startRung f_c_startThings f_c_startStrength f_c_startWind f_c_slips f_c_lines a_c_code f_c_coded f_c_tiresFrom f_c_tiresTo f_c_mayFrom f_c_mayTo, (a_c_bars, .inl (dA 0, 9, .inl b_c_bars)), (a_c_gives, .inl (dA 0, 9, .inl b_c_gives)), (a_c_rough, .inl (dA 0, 9, .inl b_c_rough)), (a_c_code, .inl (dA 0, 900, .inl b_c_code)), zo_X3 a_m a_c a_w a_m_deeds a_m_ends v17, zo_X2 a_w a_c a_w_told a_w_facts a_w_stack f_w_wind, (a_w_told, .inl (dA 0, 315, .inl a18)), (a_w_facts, .inl (dA 0, 6, .inl a19)), (a_w_stack, .inl (dA 0, 64, .inl a20)), (a_m_deeds, .inl (dA 0, 9, .inl a21)), (a_m_ends, .inl (dA 0, 9, .inl a22)), (a_ord, .inl (dA 0, 2880, .inl a9)), (a_dep, .inl (dA 0, 2880, .inl a10)), (v12, .inl (dA 1, 2880, .inr (.inl a23))), (v13, .inl (dA 1, 2880, .inr (.inl a24)))] H := hP
  have hD : va_D A [zo_X8 a_o a_c a_m a_ord a_dep v1 v12 v13 p2 v15 f_o_result v16, zo_X0 a_c f_c_top f_c_things a_c_bars a_c_gives a_c_rough f_c_startRung f_c_startThings f_c_startStrength f_c_startWind f_c_slips f_c_lines a_c_code f_c_coded f_c_tiresFrom f_c_tiresTo f_c_mayFrom f_c_mayTo, (a_c_bars, .inl (dA 0, 9, .inl b_c_bars)), (a_c_gives, .inl (dA 0, 9, .inl b_c_gives)), (a_c_rough, .inl (dA 0, 9, .inl b_c_rough)), (a_c_code, .inl (dA 0, 900, .inl b_c_code)), zo_X3 a_m a_c a_w a_m_deeds a_m_ends v17, zo_X2 a_w a_c a_w_told a_w_facts a_w_stack f_w_wind, (a_w_told, .inl (dA 0, 315, .inl a18)), (a_w_facts, .inl (dA 0, 6, .inl a19)), (a_w_stack, .inl (dA 0, 64, .inl a20)), (a_m_deeds, .inl (dA 0, 9, .inl a21)), (a_m_ends, .inl (dA 0, 9, .inl a22)), (a_ord, .inl (dA 0, 2880, .inl a9)), (a_dep, .inl (dA 0, 2880, .inl a10)), (v12, .inl (dA 1, 2880, .inr (.inl a23))), (v13, .inl (dA 1, 2880, .inr (.inl a24)))] := hD
  replace hf : zb_X8_reckon_19 p3 n v1 p2 f_c_top f_c_things f_c_slips f_c_tiresFrom f_c_tiresTo f_c_mayFrom f_c_mayTo b_c_bars b_c_gives b_c_rough b_c_code f_w_wind a9 a10 v12 v13 v14 v15 v16 v17 a18 a19 a20 a21 a22 a23 a24 = some w := hf
  unfold zb_X8_reckon_19 at hf
  refine lv_iload (pc := 19) hx hb dX8_reckon_19 (lv_at hl 3 rfl) ?_
  refine lv_iload_n (pc := 21) hx hb dX8_reckon_21 rfl (lv_at hl 2 rfl) ?_
  refine lv_icmp_gt (tgt := 51) (pc := 22) hx hb dX8_reckon_22 rfl (fun hc => ?_) (fun hc => ?_)
  · have hf := za_t hf hc
    obtain rfl := Option.some.inj hf
    obtain ⟨rfl, rfl, rfl, rfl, rfl, rfl, rfl, rfl, rfl, rfl, rfl, rfl, rfl, rfl⟩ := zp_14 (ex (show ¬ (1 : Nat) = 0 by decide))
    exact E51 _ _ _ ⟨lv_sub hl [0, 1] rfl, hP, hD, hS⟩
  · have hf := za_f hf hc
    refine lv_aload_n (pc := 25) hx hb dX8_reckon_25 rfl (lv_at hl 0 rfl) ?_
    refine lv_dup (pc := 26) hx hb dX8_reckon_26 rfl ?_
    refine va_get (pc := 27) (D := (dC, dI)) (ci := 9) (v := .long v15) (C := RX8) (T := TX8) (N := 11) hx hb ht zq_layX8 hown hK hP 0 rfl rfl 8 (by decide) (ht _ zq_532) (fun _ h9 => h9) rfl dX8_reckon_27 ?_
    refine lv_ldc2 (v := (10 : Int64)) (pc := 30) hx hb hown (ht _ zq_558) dX8_reckon_30 ?_
    refine lv_lmul (pc := 33) hx hb dX8_reckon_33 ?_
    obtain ⟨v25, hv25, hf⟩ := zc_1 hf
    refine zw_topl (hv25) ?_
    refine va_put (pc := 34) (D := (dC, dI)) (ci := 9) (v := .long v25) (ty := .long) (C := RX8) (T := TX8) (N := 11) hx hb ht zq_layX8 tyX8 tyX8_ok nmX8 hown hK hP hD hS 0 rfl rfl 8 (by decide) (ht _ zq_532) (fun _ h9 => h9) rfl (by decide +kernel) rfl rfl (Nat.le_of_ble_eq_true rfl) dX8_reckon_34 (fun H locs hP hD hS => ?_)
    have hP : va_P (dC, dI) zz_cls [zo_X8 a_o a_c a_m a_ord a_dep v1 v12 v13 p2 v25 f_o_result v16, zo_X0 a_c f_c_top f_c_things a_c_bars a_c_gives a_c_rough f_c_startRung f_c_startThings f_c_startStrength f_c_startWind f_c_slips f_c_lines a_c_code f_c_coded f_c_tiresFrom f_c_tiresTo f_c_mayFrom f_c_mayTo, (a_c_bars, .inl (dA 0, 9, .inl b_c_bars)), (a_c_gives, .inl (dA 0, 9, .inl b_c_gives)), (a_c_rough, .inl (dA 0, 9, .inl b_c_rough)), (a_c_code, .inl (dA 0, 900, .inl b_c_code)), zo_X3 a_m a_c a_w a_m_deeds a_m_ends v17, zo_X2 a_w a_c a_w_told a_w_facts a_w_stack f_w_wind, (a_w_told, .inl (dA 0, 315, .inl a18)), (a_w_facts, .inl (dA 0, 6, .inl a19)), (a_w_stack, .inl (dA 0, 64, .inl a20)), (a_m_deeds, .inl (dA 0, 9, .inl a21)), (a_m_ends, .inl (dA 0, 9, .inl a22)), (a_ord, .inl (dA 0, 2880, .inl a9)), (a_dep, .inl (dA 0, 2880, .inl a10)), (v12, .inl (dA 1, 2880, .inr (.inl a23))), (v13, .inl (dA 1, 2880, .inr (.inl a24)))] H := hP
    have hD : va_D A [zo_X8 a_o a_c a_m a_ord a_dep v1 v12 v13 p2 v25 f_o_result v16, zo_X0 a_c f_c_top f_c_things a_c_bars a_c_gives a_c_rough f_c_startRung f_c_startThings f_c_startStrength f_c_startWind f_c_slips f_c_lines a_c_code f_c_coded f_c_tiresFrom f_c_tiresTo f_c_mayFrom f_c_mayTo, (a_c_bars, .inl (dA 0, 9, .inl b_c_bars)), (a_c_gives, .inl (dA 0, 9, .inl b_c_gives)), (a_c_rough, .inl (dA 0, 9, .inl b_c_rough)), (a_c_code, .inl (dA 0, 900, .inl b_c_code)), zo_X3 a_m a_c a_w a_m_deeds a_m_ends v17, zo_X2 a_w a_c a_w_told a_w_facts a_w_stack f_w_wind, (a_w_told, .inl (dA 0, 315, .inl a18)), (a_w_facts, .inl (dA 0, 6, .inl a19)), (a_w_stack, .inl (dA 0, 64, .inl a20)), (a_m_deeds, .inl (dA 0, 9, .inl a21)), (a_m_ends, .inl (dA 0, 9, .inl a22)), (a_ord, .inl (dA 0, 2880, .inl a9)), (a_dep, .inl (dA 0, 2880, .inl a10)), (v12, .inl (dA 1, 2880, .inr (.inl a23))), (v13, .inl (dA 1, 2880, .inr (.inl a24)))] := hD
    refine lv_aload_n (pc := 37) hx hb dX8_reckon_37 rfl (lv_at hl 0 rfl) ?_
    refine lv_iload_n (pc := 38) hx hb dX8_reckon_38 rfl (lv_at hl 2 rfl) ?_
    refine lv_iload (pc := 39) hx hb dX8_reckon_39 (lv_at hl 3 rfl) ?_
    refine lv_isub (pc := 41) hx hb dX8_reckon_41 ?_
    obtain ⟨v26, v27, a28, a29, a30, a31, a32, v33, a34, v35, a36, hv26, hf⟩ := zc_11 hf
    refine zx_Vv (pc := 42) (wc := [zo_X8 a_o a_c a_m a_ord a_dep v1 v12 v13 p2 v25 f_o_result v16, zo_X0 a_c f_c_top f_c_things a_c_bars a_c_gives a_c_rough f_c_startRung f_c_startThings f_c_startStrength f_c_startWind f_c_slips f_c_lines a_c_code f_c_coded f_c_tiresFrom f_c_tiresTo f_c_mayFrom f_c_mayTo, (a_c_bars, .inl (dA 0, 9, .inl b_c_bars)), (a_c_gives, .inl (dA 0, 9, .inl b_c_gives)), (a_c_rough, .inl (dA 0, 9, .inl b_c_rough)), (a_c_code, .inl (dA 0, 900, .inl b_c_code)), zo_X3 a_m a_c a_w a_m_deeds a_m_ends v17, zo_X2 a_w a_c a_w_told a_w_facts a_w_stack f_w_wind, (a_w_told, .inl (dA 0, 315, .inl a18)), (a_w_facts, .inl (dA 0, 6, .inl a19)), (a_w_stack, .inl (dA 0, 64, .inl a20)), (a_m_deeds, .inl (dA 0, 9, .inl a21)), (a_m_ends, .inl (dA 0, 9, .inl a22)), (a_ord, .inl (dA 0, 2880, .inl a9)), (a_dep, .inl (dA 0, 2880, .inl a10)), (v12, .inl (dA 1, 2880, .inr (.inl a23))), (v13, .inl (dA 1, 2880, .inr (.inl a24)))]) (wr := []) (w1 := [zo_X8 a_o a_c a_m a_ord a_dep v1 v33 v35 p2 v25 f_o_result v26, zo_X0 a_c f_c_top f_c_things a_c_bars a_c_gives a_c_rough f_c_startRung f_c_startThings f_c_startStrength f_c_startWind f_c_slips f_c_lines a_c_code f_c_coded f_c_tiresFrom f_c_tiresTo f_c_mayFrom f_c_mayTo, (a_c_bars, .inl (dA 0, 9, .inl b_c_bars)), (a_c_gives, .inl (dA 0, 9, .inl b_c_gives)), (a_c_rough, .inl (dA 0, 9, .inl b_c_rough)), (a_c_code, .inl (dA 0, 900, .inl b_c_code)), zo_X3 a_m a_c a_w a_m_deeds a_m_ends v27, zo_X2 a_w a_c a_w_told a_w_facts a_w_stack f_w_wind, (a_w_told, .inl (dA 0, 315, .inl a28)), (a_w_facts, .inl (dA 0, 6, .inl a29)), (a_w_stack, .inl (dA 0, 64, .inl a30)), (a_m_deeds, .inl (dA 0, 9, .inl a31)), (a_m_ends, .inl (dA 0, 9, .inl a32)), (a_ord, .inl (dA 0, 2880, .inl a9)), (a_dep, .inl (dA 0, 2880, .inl a10)), (v33, .inl (dA 1, 2880, .inr (.inl a34))), (v35, .inl (dA 1, 2880, .inr (.inl a36)))]) (As := [.int (p3 - v14)]) (rest := []) ⟨hx, hb, hml, hown, ht⟩ (zt_X8_reckonWithin l dC dI dA adK adV _ a_o a_c a_m a_ord a_dep v12 v13 a_c_bars a_c_gives a_c_rough a_c_code a_w a_m_deeds a_m_ends a_w_told a_w_facts a_w_stack n v1 p2 v25 f_o_result v16 f_c_top f_c_things f_c_startRung f_c_startThings f_c_startStrength f_c_startWind f_c_slips f_c_lines f_c_coded f_c_tiresFrom f_c_tiresTo f_c_mayFrom f_c_mayTo v17 f_w_wind b_c_bars b_c_gives b_c_rough b_c_code a18 a19 a20 a21 a22 a9 a10 a23 a24 (p3 - v14) v26 v27 a28 a29 a30 a31 a32 v33 a34 v35 a36 hv26) (cwV 1 ht (zq_V zq_568 zq_569 zq_570 zq_549 zq_564) rfl rfl rfl zk_X8_reckonWithin ⟨Nat.le_of_ble_eq_true rfl, Nat.le_of_ble_eq_true rfl⟩) rfl rfl hZ hK hP hD hS hA [0, 1, 2, 3, 4, 5, 6, 7, 8, 9, 10, 11, 12, 13, 14, 15, 16] [] (by decide) (by decide) (by decide) rfl rfl rfl hl.1 (Nat.le_of_ble_eq_true rfl) dX8_reckon_42 ⟨Nat.zero_le _, Nat.zero_le _⟩ rfl (fun H locs hP hD hS => ?_)
    have hP : va_P (dC, dI) zz_cls [zo_X8 a_o a_c a_m a_ord a_dep v1 v33 v35 p2 v25 f_o_result v26, zo_X0 a_c f_c_top f_c_things a_c_bars a_c_gives a_c_rough f_c_startRung f_c_startThings f_c_startStrength f_c_startWind f_c_slips f_c_lines a_c_code f_c_coded f_c_tiresFrom f_c_tiresTo f_c_mayFrom f_c_mayTo, (a_c_bars, .inl (dA 0, 9, .inl b_c_bars)), (a_c_gives, .inl (dA 0, 9, .inl b_c_gives)), (a_c_rough, .inl (dA 0, 9, .inl b_c_rough)), (a_c_code, .inl (dA 0, 900, .inl b_c_code)), zo_X3 a_m a_c a_w a_m_deeds a_m_ends v27, zo_X2 a_w a_c a_w_told a_w_facts a_w_stack f_w_wind, (a_w_told, .inl (dA 0, 315, .inl a28)), (a_w_facts, .inl (dA 0, 6, .inl a29)), (a_w_stack, .inl (dA 0, 64, .inl a30)), (a_m_deeds, .inl (dA 0, 9, .inl a31)), (a_m_ends, .inl (dA 0, 9, .inl a32)), (a_ord, .inl (dA 0, 2880, .inl a9)), (a_dep, .inl (dA 0, 2880, .inl a10)), (v33, .inl (dA 1, 2880, .inr (.inl a34))), (v35, .inl (dA 1, 2880, .inr (.inl a36)))] H := hP
    have hD : va_D A [zo_X8 a_o a_c a_m a_ord a_dep v1 v33 v35 p2 v25 f_o_result v26, zo_X0 a_c f_c_top f_c_things a_c_bars a_c_gives a_c_rough f_c_startRung f_c_startThings f_c_startStrength f_c_startWind f_c_slips f_c_lines a_c_code f_c_coded f_c_tiresFrom f_c_tiresTo f_c_mayFrom f_c_mayTo, (a_c_bars, .inl (dA 0, 9, .inl b_c_bars)), (a_c_gives, .inl (dA 0, 9, .inl b_c_gives)), (a_c_rough, .inl (dA 0, 9, .inl b_c_rough)), (a_c_code, .inl (dA 0, 900, .inl b_c_code)), zo_X3 a_m a_c a_w a_m_deeds a_m_ends v27, zo_X2 a_w a_c a_w_told a_w_facts a_w_stack f_w_wind, (a_w_told, .inl (dA 0, 315, .inl a28)), (a_w_facts, .inl (dA 0, 6, .inl a29)), (a_w_stack, .inl (dA 0, 64, .inl a30)), (a_m_deeds, .inl (dA 0, 9, .inl a31)), (a_m_ends, .inl (dA 0, 9, .inl a32)), (a_ord, .inl (dA 0, 2880, .inl a9)), (a_dep, .inl (dA 0, 2880, .inl a10)), (v33, .inl (dA 1, 2880, .inr (.inl a34))), (v35, .inl (dA 1, 2880, .inr (.inl a36)))] := hD
    obtain ⟨v37, hv37, hf⟩ := zc_1 hf
    refine lv_iinc (v := v37) (lv' := [(4, .int v37), (0, .ref a_o), (1, .int p1), (3, .int p3)]) (k := 3) (pc := 45) hx hb dX8_reckon_45 hl rfl (Option.some.inj hv37) (by decide) rfl (fun ls hl => ?_)
    refine lv_goto (tgt := 19) (pc := 48) hx hb dX8_reckon_48 rfl ?_
    obtain rfl := Option.some.inj hf
    exact ih rfl _ _ _ ⟨lv_sub hl [1, 2, 3, 0] rfl, hP, hD, hS⟩

def zb_X8_commonDivisor_9 (v1 : Int64) (v2 : Int64) (v3 : Int32) : Option (Nat × Int64 × Int64 × Int32) :=
  if (100 : Int32) ≤ v3 then
    some (1, v1, v2, v3)
  else
    if (lg_cmp v2 (0 : Int64)) = 0 then
      some (1, v1, v2, v3)
    else
      zd_1 (za_nzl v2) (fun v4 =>
      zd_1 (some ((za_reml v1 v2))) (fun v5 =>
      zd_1 (some (v3 + (1 : Int32))) (fun v6 =>
      some (0, v2, v5, v6))))
def zf_X8_commonDivisor (n : Nat) (p0 : Int64) (p2 : Int64) : Option (Int64) :=
  zd_4 (za_it (fun v => zb_X8_commonDivisor_9 v.1 v.2.1 v.2.2) n (p2, p0, (0 : Int32))) (fun g10 v7 v8 v9 =>
  zd_1 (some ((if v7 < (1 : Int64) then (1 : Int64) else v7))) (fun v11 =>
  some v11))
theorem zk_X8_commonDivisor : yX8_commonDivisor.cls = RX8 ∧ yX8_commonDivisor.cls ≠ "java/lang/invoke/MethodHandle" ∧ yX8_commonDivisor.cls ≠ "java/lang/invoke/VarHandle" ∧ (parseMethodDescriptor yX8_commonDivisor.desc).map (fun d => d.parameters.length) = some 2 := by decide +kernel
set_option maxHeartbeats 4000000 in
set_option maxRecDepth 100000 in
theorem zt_X8_commonDivisor (l : Launch) (dC : Nat → ClassId) (dI : Nat → Nat → Nat) (dA : Nat → ClassId) (adK adV : Nat → Nat) (sz : Nat) (n : Nat) (p0 : Int64) (p2 : Int64) (r0 : Int64) (hf : zf_X8_commonDivisor n p0 p2 = some r0) : Met l yX8_commonDivisor (.code yX8_commonDivisor cX8_commonDivisor 11 (some .long) :: zq_T) ({ frames := 1, cells := 0, slots := 0, locals := 48 }) (va_Pc [.long p0, .long p2] (zx_M dC dI dA adK adV [] sz)) (va_Ql (fun (r : Int64) (_ : Unit) => r = r0) (fun _ t => zz_B dC dI dA (va_A [] sz) [] t) (va_A [] sz)) 0 0 (va_A [] sz) := by
  unfold zf_X8_commonDivisor at hf
  refine Met.ofW (cc := cX8_commonDivisor) (maxL := 11) (ret := (some .long)) (by decide) rfl ?_
  intro p e s m args below meth c s₁ B hml hv
  obtain ⟨rfl, ⟨hsz, hP, hK, hD0⟩, hZ⟩ := hv
  have hx := B.exec
  have hb := B.bytes
  have hr := B.returns
  have ht : ∀ w ∈ zq_T, w.before ([.long p0, .long p2] : List Value).toArray s = true := fun w hw => atoms_spec (ws := .code yX8_commonDivisor cX8_commonDivisor 11 (some .long) :: zq_T) B.pre w (List.mem_cons_of_mem _ hw)
  have hown : s.vm.findClass RX8 = some m.cls := findClass_of_methodNamed B.named
  have hlocks := B.notSynchronized
  subst hsz
  have hD := hD0.self (sz := s.heap.size)
  generalize hAe : va_A [] s.heap.size = A at hD hZ ⊢
  have hA : ∀ q : Nat, s.heap.size ≤ q → A q := fun q h => by rw [← hAe]; exact Or.inr h
  clear hAe hD0
  have hS : va_S A s.heap s.heap [] := va_S.rf
  have hl := lv_entry ([.long p0, .long p2]) (n := 11) (Nat.le_of_ble_eq_true rfl)
  rw [lg_entry_eq]
  generalize (lg_sl ([.long p0, .long p2]) ++ List.replicate (11 - (lg_sl ([.long p0, .long p2])).length) Slot.unset).toArray = ls at hl ⊢
  have hl : lv_has ls 11 [(0, .long p0), (2, .long p2)] := hl
  refine lv_lload_n (pc := 0) hx hb dX8_commonDivisor_0 rfl (lv_at hl 1 rfl) ?_
  refine lv_lstore (lv' := [(4, .long p2), (0, .long p0), (2, .long p2)]) (pc := 1) hx hb dX8_commonDivisor_1 hl (by decide) rfl (fun ls hl => ?_)
  refine lv_lload_n (pc := 3) hx hb dX8_commonDivisor_3 rfl (lv_at hl 1 rfl) ?_
  refine lv_lstore (lv' := [(6, .long p0), (4, .long p2), (0, .long p0), (2, .long p2)]) (pc := 4) hx hb dX8_commonDivisor_4 hl (by decide) rfl (fun ls hl => ?_)
  refine lv_iconst (v := (0 : Int32)) (pc := 6) hx hb dX8_commonDivisor_6 (by decide) ?_
  refine lv_istore (lv' := [(8, .int (0 : Int32)), (6, .long p0), (4, .long p2), (0, .long p0), (2, .long p2)]) (pc := 7) hx hb dX8_commonDivisor_7 hl (by decide) rfl (fun ls hl => ?_)
  obtain ⟨g10, v7, v8, v9, hj, hf⟩ := zc_4 hf
  refine zj_join (pcJ := 44) (stk := []) (X := fun H locs ls => lv_has ls 11 [(4, .long v7)] ∧ va_P (dC, dI) zz_cls [] H ∧ va_D A [] ∧ va_S A s.heap H locs) (fun H locs ls hX => ?_) (fun E44 => ?_)
  · obtain ⟨hl, hP, hD, hS⟩ := hX
    clear hj
    refine lv_lconst (v := (1 : Int64)) (pc := 44) hx hb dX8_commonDivisor_44 (by decide) ?_
    refine lv_lload (pc := 45) hx hb dX8_commonDivisor_45 (lv_at hl 0 rfl) ?_
    refine va_mmax_long (pc := 47) hx hb (hml.trans hl.1.symm) hown (ht _ zq_573) (ht _ zq_129) (ht _ zq_92) (ht _ zq_130) (Nat.le_of_ble_eq_true rfl) (Nat.le_of_ble_eq_true rfl) (Nat.zero_le _) (Nat.zero_le _) dX8_commonDivisor_47 ?_
    obtain ⟨v11, hv11, hf⟩ := zc_1 hf
    refine zw_topl (hv11) ?_
    obtain rfl := Option.some.inj hf
    exact W.lret (pc := 50) hx hb hr (fun t ht hW => ⟨⟨_, (), rfl, rfl, zz_Bi (by rw [ht]; exact hP) (va_K.moved hW.alike hK) (hD)⟩, hS.F ht⟩) hS.2.2 dX8_commonDivisor_50
  clear hf
  refine zw_loop (pcH := 9) (X := fun v H locs ls => lv_has ls 11 [(4, .long v.1), (6, .long v.2.1), (8, .int v.2.2)] ∧ va_P (dC, dI) zz_cls [] H ∧ va_D A [] ∧ va_S A s.heap H locs) hj (fun v w hf ih ex H locs ls hX => ?_) _ _ _ ⟨lv_sub hl [2, 1, 0] rfl, hP, hD, hS⟩
  clear hj
  obtain ⟨v1, v2, v3⟩ := v
  obtain ⟨hl, hP, hD, hS⟩ := hX
  have hl : lv_has ls 11 [(4, .long v1), (6, .long v2), (8, .int v3)] := hl
  have hP : va_P (dC, dI) zz_cls [] H := hP
  have hD : va_D A [] := hD
  replace hf : zb_X8_commonDivisor_9 v1 v2 v3 = some w := hf
  unfold zb_X8_commonDivisor_9 at hf
  refine lv_iload (pc := 9) hx hb dX8_commonDivisor_9 (lv_at hl 2 rfl) ?_
  refine lv_bipush (v := (100 : Int32)) (pc := 11) hx hb dX8_commonDivisor_11 (by decide) ?_
  refine lv_icmp_ge (tgt := 44) (pc := 13) hx hb dX8_commonDivisor_13 rfl (fun hc => ?_) (fun hc => ?_)
  · have hf := za_t hf hc
    obtain rfl := Option.some.inj hf
    obtain ⟨rfl, rfl, rfl, rfl⟩ := zp_4 (ex (show ¬ (1 : Nat) = 0 by decide))
    exact E44 _ _ _ ⟨lv_sub hl [0] rfl, hP, hD, hS⟩
  · have hf := za_f hf hc
    refine lv_lload (pc := 16) hx hb dX8_commonDivisor_16 (lv_at hl 1 rfl) ?_
    refine lv_lconst (v := (0 : Int64)) (pc := 18) hx hb dX8_commonDivisor_18 (by decide) ?_
    refine W.lcmp (pc := 19) hx hb dX8_commonDivisor_19 ?_
    refine lv_if_eq (tgt := 44) (pc := 20) hx hb dX8_commonDivisor_20 rfl (fun hc => ?_) (fun hc => ?_)
    · have hf := za_t hf hc
      obtain rfl := Option.some.inj hf
      obtain ⟨rfl, rfl, rfl, rfl⟩ := zp_4 (ex (show ¬ (1 : Nat) = 0 by decide))
      exact E44 _ _ _ ⟨lv_sub hl [0] rfl, hP, hD, hS⟩
    · have hf := za_f hf hc
      refine lv_lload (pc := 23) hx hb dX8_commonDivisor_23 (lv_at hl 0 rfl) ?_
      refine lv_lload (pc := 25) hx hb dX8_commonDivisor_25 (lv_at hl 1 rfl) ?_
      obtain ⟨v4, hv4, hf⟩ := zc_1 hf
      refine lv_lrem (pc := 27) hx hb dX8_commonDivisor_27 (za_nzls hv4).2 ?_
      obtain ⟨v5, hv5, hf⟩ := zc_1 hf
      refine zw_topl (hv5) ?_
      refine lv_lstore (lv' := [(9, .long v5), (4, .long v1), (6, .long v2), (8, .int v3)]) (pc := 28) hx hb dX8_commonDivisor_28 hl (by decide) rfl (fun ls hl => ?_)
      refine lv_lload (pc := 30) hx hb dX8_commonDivisor_30 (lv_at hl 2 rfl) ?_
      refine lv_lstore (lv' := [(4, .long v2), (9, .long v5), (6, .long v2), (8, .int v3)]) (pc := 32) hx hb dX8_commonDivisor_32 hl (by decide) rfl (fun ls hl => ?_)
      refine lv_lload (pc := 34) hx hb dX8_commonDivisor_34 (lv_at hl 1 rfl) ?_
      refine lv_lstore (lv' := [(6, .long v5), (4, .long v2), (9, .long v5), (8, .int v3)]) (pc := 36) hx hb dX8_commonDivisor_36 hl (by decide) rfl (fun ls hl => ?_)
      obtain ⟨v6, hv6, hf⟩ := zc_1 hf
      refine lv_iinc (v := v6) (lv' := [(8, .int v6), (6, .long v5), (4, .long v2), (9, .long v5)]) (k := 3) (pc := 38) hx hb dX8_commonDivisor_38 hl rfl (Option.some.inj hv6) (by decide) rfl (fun ls hl => ?_)
      refine lv_goto (tgt := 9) (pc := 41) hx hb dX8_commonDivisor_41 rfl ?_
      obtain rfl := Option.some.inj hf
      exact ih rfl _ _ _ ⟨lv_sub hl [2, 1, 0] rfl, hP, hD, hS⟩

def zf_X8_numerator (n : Nat) (f_o_whole : Int64) (f_o_result : Int64) : Option (Int32) :=
  zd_1 (zf_X8_commonDivisor n f_o_result f_o_whole) (fun v1 =>
  zd_1 (za_nzl v1) (fun v2 =>
  some (Int64.toInt32 (f_o_result / v1))))
theorem zk_X8_numerator : yX8_numerator.cls = RX8 ∧ yX8_numerator.cls ≠ "java/lang/invoke/MethodHandle" ∧ yX8_numerator.cls ≠ "java/lang/invoke/VarHandle" ∧ (parseMethodDescriptor yX8_numerator.desc).map (fun d => d.parameters.length) = some 0 := by decide +kernel
set_option maxHeartbeats 4000000 in
set_option maxRecDepth 100000 in
theorem zt_X8_numerator (l : Launch) (dC : Nat → ClassId) (dI : Nat → Nat → Nat) (dA : Nat → ClassId) (adK adV : Nat → Nat) (sz : Nat) (a_o : Nat) (a_c : Nat) (a_m : Nat) (a_ord : Nat) (a_dep : Nat) (a_k1 : Nat) (a_k2 : Nat) (n : Nat) (f_o_size : Int32) (f_o_rung : Int32) (f_o_whole : Int64) (f_o_result : Int64) (f_o_firstDeed : Int32) (r0 : Int32) (hf : zf_X8_numerator n f_o_whole f_o_result = some r0) : Met l yX8_numerator (.code yX8_numerator cX8_numerator 1 (some .int) :: zq_T) ({ frames := 2, cells := 0, slots := 0, locals := 78 }) (va_Pc [.ref a_o] (zx_M dC dI dA adK adV [zo_X8 a_o a_c a_m a_ord a_dep f_o_size a_k1 a_k2 f_o_rung f_o_whole f_o_result f_o_firstDeed] sz)) (va_Qi (fun (r : Int32) (_ : Unit) => r = r0) (fun _ t => zz_B dC dI dA (va_A [zo_X8 a_o a_c a_m a_ord a_dep f_o_size a_k1 a_k2 f_o_rung f_o_whole f_o_result f_o_firstDeed] sz) [zo_X8 a_o a_c a_m a_ord a_dep f_o_size a_k1 a_k2 f_o_rung f_o_whole f_o_result f_o_firstDeed] t) (va_A [zo_X8 a_o a_c a_m a_ord a_dep f_o_size a_k1 a_k2 f_o_rung f_o_whole f_o_result f_o_firstDeed] sz)) 0 0 (va_A [zo_X8 a_o a_c a_m a_ord a_dep f_o_size a_k1 a_k2 f_o_rung f_o_whole f_o_result f_o_firstDeed] sz) := by
  unfold zf_X8_numerator at hf
  refine Met.ofW (cc := cX8_numerator) (maxL := 1) (ret := (some .int)) (by decide) rfl ?_
  intro p e s m args below meth c s₁ B hml hv
  obtain ⟨rfl, ⟨hsz, hP, hK, hD0⟩, hZ⟩ := hv
  have hx := B.exec
  have hb := B.bytes
  have hr := B.returns
  have ht : ∀ w ∈ zq_T, w.before ([.ref a_o] : List Value).toArray s = true := fun w hw => atoms_spec (ws := .code yX8_numerator cX8_numerator 1 (some .int) :: zq_T) B.pre w (List.mem_cons_of_mem _ hw)
  have hown : s.vm.findClass RX8 = some m.cls := findClass_of_methodNamed B.named
  have hlocks := B.notSynchronized
  subst hsz
  have hD := hD0.self (sz := s.heap.size)
  generalize hAe : va_A [zo_X8 a_o a_c a_m a_ord a_dep f_o_size a_k1 a_k2 f_o_rung f_o_whole f_o_result f_o_firstDeed] s.heap.size = A at hD hZ ⊢
  have hA : ∀ q : Nat, s.heap.size ≤ q → A q := fun q h => by rw [← hAe]; exact Or.inr h
  clear hAe hD0
  have hS : va_S A s.heap s.heap [] := va_S.rf
  have hl := lv_entry ([.ref a_o]) (n := 1) (Nat.le_of_ble_eq_true rfl)
  rw [lg_entry_eq]
  generalize (lg_sl ([.ref a_o]) ++ List.replicate (1 - (lg_sl ([.ref a_o])).length) Slot.unset).toArray = ls at hl ⊢
  have hl : lv_has ls 1 [(0, .ref a_o)] := hl
  refine lv_aload_n (pc := 0) hx hb dX8_numerator_0 rfl (lv_at hl 0 rfl) ?_
  refine va_get (pc := 1) (D := (dC, dI)) (ci := 9) (v := .long f_o_result) (C := RX8) (T := TX8) (N := 11) hx hb ht zq_layX8 hown hK hP 0 rfl rfl 9 (by decide) (ht _ zq_533) (fun _ h9 => h9) rfl dX8_numerator_1 ?_
  refine lv_aload_n (pc := 4) hx hb dX8_numerator_4 rfl (lv_at hl 0 rfl) ?_
  refine va_get (pc := 5) (D := (dC, dI)) (ci := 9) (v := .long f_o_result) (C := RX8) (T := TX8) (N := 11) hx hb ht zq_layX8 hown hK hP 0 rfl rfl 9 (by decide) (ht _ zq_533) (fun _ h9 => h9) rfl dX8_numerator_5 ?_
  refine lv_aload_n (pc := 8) hx hb dX8_numerator_8 rfl (lv_at hl 0 rfl) ?_
  refine va_get (pc := 9) (D := (dC, dI)) (ci := 9) (v := .long f_o_whole) (C := RX8) (T := TX8) (N := 11) hx hb ht zq_layX8 hown hK hP 0 rfl rfl 8 (by decide) (ht _ zq_532) (fun _ h9 => h9) rfl dX8_numerator_9 ?_
  obtain ⟨v1, hv1, hf⟩ := zc_1 hf
  refine zx_Sl (pc := 12) (wc := []) (wr := [zo_X8 a_o a_c a_m a_ord a_dep f_o_size a_k1 a_k2 f_o_rung f_o_whole f_o_result f_o_firstDeed]) (w1 := []) (As := [.long f_o_result, .long f_o_whole]) (rest := [.long f_o_result]) ⟨hx, hb, hml, hown, ht⟩ (zt_X8_commonDivisor l dC dI dA adK adV _ n f_o_result f_o_whole v1 hv1) (cwS 2 ht (zq_S zq_575 zq_576 zq_549 zq_572) rfl rfl rfl zk_X8_commonDivisor ⟨Nat.le_of_ble_eq_true rfl, Nat.le_of_ble_eq_true rfl⟩) hZ hK hP hD hS hA [] [0] (by decide) (by decide) (by decide) rfl rfl rfl hl.1 (Nat.le_of_ble_eq_true rfl) dX8_numerator_12 ⟨Nat.zero_le _, Nat.zero_le _⟩ rfl (fun H locs hP hD hS => ?_)
  have hP : va_P (dC, dI) zz_cls [zo_X8 a_o a_c a_m a_ord a_dep f_o_size a_k1 a_k2 f_o_rung f_o_whole f_o_result f_o_firstDeed] H := hP
  have hD : va_D A [zo_X8 a_o a_c a_m a_ord a_dep f_o_size a_k1 a_k2 f_o_rung f_o_whole f_o_result f_o_firstDeed] := hD
  obtain ⟨v2, hv2, hf⟩ := zc_1 hf
  refine lv_ldiv (pc := 15) hx hb dX8_numerator_15 (za_nzls hv2).2 ?_
  refine lv_l2i (pc := 16) hx hb dX8_numerator_16 rfl ?_
  obtain rfl := Option.some.inj hf
  exact W.iret (pc := 17) hx hb hr (fun t ht hW => ⟨⟨_, (), rfl, rfl, zz_Bi (by rw [ht]; exact hP) (va_K.moved hW.alike hK) (hD)⟩, hS.F ht⟩) hS.2.2 dX8_numerator_17

def zf_X8_denominator (n : Nat) (f_o_whole : Int64) (f_o_result : Int64) : Option (Int32) :=
  zd_1 (zf_X8_commonDivisor n f_o_result f_o_whole) (fun v1 =>
  zd_1 (za_nzl v1) (fun v2 =>
  some (Int64.toInt32 (f_o_whole / v1))))
theorem zk_X8_denominator : yX8_denominator.cls = RX8 ∧ yX8_denominator.cls ≠ "java/lang/invoke/MethodHandle" ∧ yX8_denominator.cls ≠ "java/lang/invoke/VarHandle" ∧ (parseMethodDescriptor yX8_denominator.desc).map (fun d => d.parameters.length) = some 0 := by decide +kernel
set_option maxHeartbeats 4000000 in
set_option maxRecDepth 100000 in
theorem zt_X8_denominator (l : Launch) (dC : Nat → ClassId) (dI : Nat → Nat → Nat) (dA : Nat → ClassId) (adK adV : Nat → Nat) (sz : Nat) (a_o : Nat) (a_c : Nat) (a_m : Nat) (a_ord : Nat) (a_dep : Nat) (a_k1 : Nat) (a_k2 : Nat) (n : Nat) (f_o_size : Int32) (f_o_rung : Int32) (f_o_whole : Int64) (f_o_result : Int64) (f_o_firstDeed : Int32) (r0 : Int32) (hf : zf_X8_denominator n f_o_whole f_o_result = some r0) : Met l yX8_denominator (.code yX8_denominator cX8_denominator 1 (some .int) :: zq_T) ({ frames := 2, cells := 0, slots := 0, locals := 78 }) (va_Pc [.ref a_o] (zx_M dC dI dA adK adV [zo_X8 a_o a_c a_m a_ord a_dep f_o_size a_k1 a_k2 f_o_rung f_o_whole f_o_result f_o_firstDeed] sz)) (va_Qi (fun (r : Int32) (_ : Unit) => r = r0) (fun _ t => zz_B dC dI dA (va_A [zo_X8 a_o a_c a_m a_ord a_dep f_o_size a_k1 a_k2 f_o_rung f_o_whole f_o_result f_o_firstDeed] sz) [zo_X8 a_o a_c a_m a_ord a_dep f_o_size a_k1 a_k2 f_o_rung f_o_whole f_o_result f_o_firstDeed] t) (va_A [zo_X8 a_o a_c a_m a_ord a_dep f_o_size a_k1 a_k2 f_o_rung f_o_whole f_o_result f_o_firstDeed] sz)) 0 0 (va_A [zo_X8 a_o a_c a_m a_ord a_dep f_o_size a_k1 a_k2 f_o_rung f_o_whole f_o_result f_o_firstDeed] sz) := by
  unfold zf_X8_denominator at hf
  refine Met.ofW (cc := cX8_denominator) (maxL := 1) (ret := (some .int)) (by decide) rfl ?_
  intro p e s m args below meth c s₁ B hml hv
  obtain ⟨rfl, ⟨hsz, hP, hK, hD0⟩, hZ⟩ := hv
  have hx := B.exec
  have hb := B.bytes
  have hr := B.returns
  have ht : ∀ w ∈ zq_T, w.before ([.ref a_o] : List Value).toArray s = true := fun w hw => atoms_spec (ws := .code yX8_denominator cX8_denominator 1 (some .int) :: zq_T) B.pre w (List.mem_cons_of_mem _ hw)
  have hown : s.vm.findClass RX8 = some m.cls := findClass_of_methodNamed B.named
  have hlocks := B.notSynchronized
  subst hsz
  have hD := hD0.self (sz := s.heap.size)
  generalize hAe : va_A [zo_X8 a_o a_c a_m a_ord a_dep f_o_size a_k1 a_k2 f_o_rung f_o_whole f_o_result f_o_firstDeed] s.heap.size = A at hD hZ ⊢
  have hA : ∀ q : Nat, s.heap.size ≤ q → A q := fun q h => by rw [← hAe]; exact Or.inr h
  clear hAe hD0
  have hS : va_S A s.heap s.heap [] := va_S.rf
  have hl := lv_entry ([.ref a_o]) (n := 1) (Nat.le_of_ble_eq_true rfl)
  rw [lg_entry_eq]
  generalize (lg_sl ([.ref a_o]) ++ List.replicate (1 - (lg_sl ([.ref a_o])).length) Slot.unset).toArray = ls at hl ⊢
  have hl : lv_has ls 1 [(0, .ref a_o)] := hl
  refine lv_aload_n (pc := 0) hx hb dX8_denominator_0 rfl (lv_at hl 0 rfl) ?_
  refine va_get (pc := 1) (D := (dC, dI)) (ci := 9) (v := .long f_o_whole) (C := RX8) (T := TX8) (N := 11) hx hb ht zq_layX8 hown hK hP 0 rfl rfl 8 (by decide) (ht _ zq_532) (fun _ h9 => h9) rfl dX8_denominator_1 ?_
  refine lv_aload_n (pc := 4) hx hb dX8_denominator_4 rfl (lv_at hl 0 rfl) ?_
  refine va_get (pc := 5) (D := (dC, dI)) (ci := 9) (v := .long f_o_result) (C := RX8) (T := TX8) (N := 11) hx hb ht zq_layX8 hown hK hP 0 rfl rfl 9 (by decide) (ht _ zq_533) (fun _ h9 => h9) rfl dX8_denominator_5 ?_
  refine lv_aload_n (pc := 8) hx hb dX8_denominator_8 rfl (lv_at hl 0 rfl) ?_
  refine va_get (pc := 9) (D := (dC, dI)) (ci := 9) (v := .long f_o_whole) (C := RX8) (T := TX8) (N := 11) hx hb ht zq_layX8 hown hK hP 0 rfl rfl 8 (by decide) (ht _ zq_532) (fun _ h9 => h9) rfl dX8_denominator_9 ?_
  obtain ⟨v1, hv1, hf⟩ := zc_1 hf
  refine zx_Sl (pc := 12) (wc := []) (wr := [zo_X8 a_o a_c a_m a_ord a_dep f_o_size a_k1 a_k2 f_o_rung f_o_whole f_o_result f_o_firstDeed]) (w1 := []) (As := [.long f_o_result, .long f_o_whole]) (rest := [.long f_o_whole]) ⟨hx, hb, hml, hown, ht⟩ (zt_X8_commonDivisor l dC dI dA adK adV _ n f_o_result f_o_whole v1 hv1) (cwS 2 ht (zq_S zq_575 zq_576 zq_549 zq_572) rfl rfl rfl zk_X8_commonDivisor ⟨Nat.le_of_ble_eq_true rfl, Nat.le_of_ble_eq_true rfl⟩) hZ hK hP hD hS hA [] [0] (by decide) (by decide) (by decide) rfl rfl rfl hl.1 (Nat.le_of_ble_eq_true rfl) dX8_denominator_12 ⟨Nat.zero_le _, Nat.zero_le _⟩ rfl (fun H locs hP hD hS => ?_)
  have hP : va_P (dC, dI) zz_cls [zo_X8 a_o a_c a_m a_ord a_dep f_o_size a_k1 a_k2 f_o_rung f_o_whole f_o_result f_o_firstDeed] H := hP
  have hD : va_D A [zo_X8 a_o a_c a_m a_ord a_dep f_o_size a_k1 a_k2 f_o_rung f_o_whole f_o_result f_o_firstDeed] := hD
  obtain ⟨v2, hv2, hf⟩ := zc_1 hf
  refine lv_ldiv (pc := 15) hx hb dX8_denominator_15 (za_nzls hv2).2 ?_
  refine lv_l2i (pc := 16) hx hb dX8_denominator_16 rfl ?_
  obtain rfl := Option.some.inj hf
  exact W.iret (pc := 17) hx hb hr (fun t ht hW => ⟨⟨_, (), rfl, rfl, zz_Bi (by rw [ht]; exact hP) (va_K.moved hW.alike hK) (hD)⟩, hS.F ht⟩) hS.2.2 dX8_denominator_17

def zf_X9_make (n : Nat) (f_o_missing : Int32) (f_o_size : Int32) (f_o_sort : Int32) (b_o_numbers : (Nat → Int64)) (p1 : Int32) (p2 : Int32) : Option (Int32 × Int32 × Int32 × (Nat → Int64)) :=
  zd_1 (zf_J7_fill_d0a16 n 40 b_o_numbers (0 : Int64)) (fun a1 =>
  some ((0 : Int32), p2, p1, a1))
theorem zk_X9_make : yX9_make.cls = RX9 ∧ yX9_make.cls ≠ "java/lang/invoke/MethodHandle" ∧ yX9_make.cls ≠ "java/lang/invoke/VarHandle" ∧ (parseMethodDescriptor yX9_make.desc).map (fun d => d.parameters.length) = some 2 := by decide +kernel
set_option maxHeartbeats 4000000 in
set_option maxRecDepth 100000 in
theorem zt_X9_make (l : Launch) (dC : Nat → ClassId) (dI : Nat → Nat → Nat) (dA : Nat → ClassId) (adK adV : Nat → Nat) (sz : Nat) (a_o : Nat) (a_o_numbers : Nat) (n : Nat) (f_o_missing : Int32) (f_o_size : Int32) (f_o_sort : Int32) (b_o_numbers : (Nat → Int64)) (p1 : Int32) (p2 : Int32) (o1 : Int32) (o2 : Int32) (o3 : Int32) (o4 : (Nat → Int64)) (hf : zf_X9_make n f_o_missing f_o_size f_o_sort b_o_numbers p1 p2 = some (o1, o2, o3, o4)) : Met l yX9_make (.code yX9_make cX9_make 3 none :: zq_T) ({ frames := 1, cells := 0, slots := 0, locals := 24 }) (va_Pc [.ref a_o, .int p1, .int p2] (zx_M dC dI dA adK adV [zo_X9 a_o f_o_missing a_o_numbers f_o_size f_o_sort, (a_o_numbers, .inl (dA 1, 40, .inr (.inl b_o_numbers)))] sz)) (va_Qv (fun _ : Unit => True) (fun _ t => zz_B dC dI dA (va_A [zo_X9 a_o f_o_missing a_o_numbers f_o_size f_o_sort, (a_o_numbers, .inl (dA 1, 40, .inr (.inl b_o_numbers)))] sz) [zo_X9 a_o o1 a_o_numbers o2 o3, (a_o_numbers, .inl (dA 1, 40, .inr (.inl o4)))] t) (va_A [zo_X9 a_o f_o_missing a_o_numbers f_o_size f_o_sort, (a_o_numbers, .inl (dA 1, 40, .inr (.inl b_o_numbers)))] sz)) 0 0 (va_A [zo_X9 a_o f_o_missing a_o_numbers f_o_size f_o_sort, (a_o_numbers, .inl (dA 1, 40, .inr (.inl b_o_numbers)))] sz) := by
  unfold zf_X9_make at hf
  refine Met.ofW (cc := cX9_make) (maxL := 3) (ret := none) (by decide) rfl ?_
  intro p e s m args below meth c s₁ B hml hv
  obtain ⟨rfl, ⟨hsz, hP, hK, hD0⟩, hZ⟩ := hv
  have hx := B.exec
  have hb := B.bytes
  have hr := B.returns
  have ht : ∀ w ∈ zq_T, w.before ([.ref a_o, .int p1, .int p2] : List Value).toArray s = true := fun w hw => atoms_spec (ws := .code yX9_make cX9_make 3 none :: zq_T) B.pre w (List.mem_cons_of_mem _ hw)
  have hown : s.vm.findClass RX9 = some m.cls := findClass_of_methodNamed B.named
  have hlocks := B.notSynchronized
  subst hsz
  have hD := hD0.self (sz := s.heap.size)
  generalize hAe : va_A [zo_X9 a_o f_o_missing a_o_numbers f_o_size f_o_sort, (a_o_numbers, .inl (dA 1, 40, .inr (.inl b_o_numbers)))] s.heap.size = A at hD hZ ⊢
  have hA : ∀ q : Nat, s.heap.size ≤ q → A q := fun q h => by rw [← hAe]; exact Or.inr h
  clear hAe hD0
  have hS : va_S A s.heap s.heap [] := va_S.rf
  have hl := lv_entry ([.ref a_o, .int p1, .int p2]) (n := 3) (Nat.le_of_ble_eq_true rfl)
  rw [lg_entry_eq]
  generalize (lg_sl ([.ref a_o, .int p1, .int p2]) ++ List.replicate (3 - (lg_sl ([.ref a_o, .int p1, .int p2])).length) Slot.unset).toArray = ls at hl ⊢
  have hl : lv_has ls 3 [(0, .ref a_o), (1, .int p1), (2, .int p2)] := hl
  refine lv_aload_n (pc := 0) hx hb dX9_make_0 rfl (lv_at hl 0 rfl) ?_
  refine lv_iconst (v := (0 : Int32)) (pc := 1) hx hb dX9_make_1 (by decide) ?_
  refine va_put (pc := 2) (D := (dC, dI)) (ci := 10) (v := .int (0 : Int32)) (ty := .boolean) (C := RX9) (T := TX9) (N := 4) hx hb ht zq_layX9 tyX9 tyX9_ok nmX9 hown hK hP hD hS 0 rfl rfl 0 (by decide) (ht _ zq_580) (fun _ h9 => h9) rfl (by decide +kernel) rfl rfl (Nat.le_of_ble_eq_true rfl) dX9_make_2 (fun H locs hP hD hS => ?_)
  have hP : va_P (dC, dI) zz_cls [zo_X9 a_o (0 : Int32) a_o_numbers f_o_size f_o_sort, (a_o_numbers, .inl (dA 1, 40, .inr (.inl b_o_numbers)))] H := hP
  have hD : va_D A [zo_X9 a_o (0 : Int32) a_o_numbers f_o_size f_o_sort, (a_o_numbers, .inl (dA 1, 40, .inr (.inl b_o_numbers)))] := hD
  refine lv_aload_n (pc := 5) hx hb dX9_make_5 rfl (lv_at hl 0 rfl) ?_
  refine lv_iload_n (pc := 6) hx hb dX9_make_6 rfl (lv_at hl 1 rfl) ?_
  refine va_put (pc := 7) (D := (dC, dI)) (ci := 10) (v := .int p1) (ty := .int) (C := RX9) (T := TX9) (N := 4) hx hb ht zq_layX9 tyX9 tyX9_ok nmX9 hown hK hP hD hS 0 rfl rfl 3 (by decide) (ht _ zq_584) (fun _ h9 => h9) rfl (by decide +kernel) rfl rfl (Nat.le_of_ble_eq_true rfl) dX9_make_7 (fun H locs hP hD hS => ?_)
  have hP : va_P (dC, dI) zz_cls [zo_X9 a_o (0 : Int32) a_o_numbers f_o_size p1, (a_o_numbers, .inl (dA 1, 40, .inr (.inl b_o_numbers)))] H := hP
  have hD : va_D A [zo_X9 a_o (0 : Int32) a_o_numbers f_o_size p1, (a_o_numbers, .inl (dA 1, 40, .inr (.inl b_o_numbers)))] := hD
  refine lv_aload_n (pc := 10) hx hb dX9_make_10 rfl (lv_at hl 0 rfl) ?_
  refine lv_iload_n (pc := 11) hx hb dX9_make_11 rfl (lv_at hl 2 rfl) ?_
  refine va_put (pc := 12) (D := (dC, dI)) (ci := 10) (v := .int p2) (ty := .int) (C := RX9) (T := TX9) (N := 4) hx hb ht zq_layX9 tyX9 tyX9_ok nmX9 hown hK hP hD hS 0 rfl rfl 2 (by decide) (ht _ zq_583) (fun _ h9 => h9) rfl (by decide +kernel) rfl rfl (Nat.le_of_ble_eq_true rfl) dX9_make_12 (fun H locs hP hD hS => ?_)
  have hP : va_P (dC, dI) zz_cls [zo_X9 a_o (0 : Int32) a_o_numbers p2 p1, (a_o_numbers, .inl (dA 1, 40, .inr (.inl b_o_numbers)))] H := hP
  have hD : va_D A [zo_X9 a_o (0 : Int32) a_o_numbers p2 p1, (a_o_numbers, .inl (dA 1, 40, .inr (.inl b_o_numbers)))] := hD
  refine lv_aload_n (pc := 15) hx hb dX9_make_15 rfl (lv_at hl 0 rfl) ?_
  refine va_get (pc := 16) (D := (dC, dI)) (ci := 10) (v := .ref a_o_numbers) (C := RX9) (T := TX9) (N := 4) hx hb ht zq_layX9 hown hK hP 0 rfl rfl 1 (by decide) (ht _ zq_582) (fun _ h9 => h9) rfl dX9_make_16 ?_
  refine lv_lconst (v := (0 : Int64)) (pc := 19) hx hb dX9_make_19 (by decide) ?_
  obtain ⟨a1, ha1, hf⟩ := zc_1 hf
  refine zy_Tv (pc := 20) (wc := [(a_o_numbers, .inl (dA 1, 40, .inr (.inl b_o_numbers)))]) (wr := [zo_X9 a_o (0 : Int32) a_o_numbers p2 p1]) (w1 := [(a_o_numbers, .inl (dA 1, 40, .inr (.inl a1)))]) (As := [.ref a_o_numbers, .long (0 : Int64)]) (rest := []) ⟨hx, hb, hml, hown, ht⟩ (zt_J7_fill_d0a16 l dC dI dA adK adV _ a_o_numbers 40 n b_o_numbers (0 : Int64) a1 ha1) (va_cwS 2 ht (zq_X zq_586 zq_587 zq_25 zq_588) rfl rfl rfl zk_J7_fill_d0a16.2 ⟨Nat.le_of_ble_eq_true rfl, Nat.le_of_ble_eq_true rfl⟩) hK hP hD hS hA [1] [0] (by decide) (by decide) (by decide) rfl rfl rfl hl.1 (Nat.le_of_ble_eq_true rfl) dX9_make_20 ⟨Nat.zero_le _, Nat.zero_le _⟩ rfl (fun H locs hP hD hS => ?_)
  have hP : va_P (dC, dI) zz_cls [zo_X9 a_o (0 : Int32) a_o_numbers p2 p1, (a_o_numbers, .inl (dA 1, 40, .inr (.inl a1)))] H := hP
  have hD : va_D A [zo_X9 a_o (0 : Int32) a_o_numbers p2 p1, (a_o_numbers, .inl (dA 1, 40, .inr (.inl a1)))] := hD
  obtain ⟨rfl, rfl, rfl, rfl⟩ := zi_4 hf
  exact W.vret (pc := 23) hx hb hr (fun t ht hW => ⟨⟨(), rfl, trivial, zz_Bi (by rw [ht]; exact hP) (va_K.moved hW.alike hK) (hD)⟩, hS.F ht⟩) hS.2.2 dX9_make_23

def zf_X9_put (f_o_sort : Int32) (b_o_numbers : (Nat → Int64)) (p1 : Int32) (p2 : Int64) : Option (Int64 × (Nat → Int64)) :=
  zd_1 (
    if f_o_sort = (0 : Int32) then
      zd_1 (za_st b_o_numbers 40 p1 (Int32.toInt64 ((Int32.toInt8 (Int64.toInt32 p2)).toInt32))) (fun a1 =>
      some a1)
    else if f_o_sort = (1 : Int32) then
      zd_1 (za_st b_o_numbers 40 p1 (Int32.toInt64 ((Int32.toInt16 (Int64.toInt32 p2)).toInt32))) (fun a2 =>
      some a2)
    else if f_o_sort = (2 : Int32) then
      zd_1 (za_st b_o_numbers 40 p1 (Int32.toInt64 (Int64.toInt32 p2))) (fun a3 =>
      some a3)
    else
      zd_1 (za_st b_o_numbers 40 p1 p2) (fun a4 =>
      some a4)) (fun a5 =>
  zd_1 (za_ld a5 40 p1) (fun v6 =>
  some (v6, a5)))
theorem zk_X9_put : yX9_put.cls = RX9 ∧ yX9_put.cls ≠ "java/lang/invoke/MethodHandle" ∧ yX9_put.cls ≠ "java/lang/invoke/VarHandle" ∧ (parseMethodDescriptor yX9_put.desc).map (fun d => d.parameters.length) = some 2 := by decide +kernel
set_option maxHeartbeats 4000000 in
set_option maxRecDepth 100000 in
theorem zt_X9_put (l : Launch) (dC : Nat → ClassId) (dI : Nat → Nat → Nat) (dA : Nat → ClassId) (adK adV : Nat → Nat) (sz : Nat) (a_o : Nat) (a_o_numbers : Nat) (f_o_missing : Int32) (f_o_size : Int32) (f_o_sort : Int32) (b_o_numbers : (Nat → Int64)) (p1 : Int32) (p2 : Int64) (r0 : Int64) (o1 : (Nat → Int64)) (hf : zf_X9_put f_o_sort b_o_numbers p1 p2 = some (r0, o1)) : Met l yX9_put (.code yX9_put cX9_put 4 (some .long) :: zq_T) ({ frames := 0, cells := 0, slots := 0, locals := 0 }) (va_Pc [.ref a_o, .int p1, .long p2] (zx_M dC dI dA adK adV [zo_X9 a_o f_o_missing a_o_numbers f_o_size f_o_sort, (a_o_numbers, .inl (dA 1, 40, .inr (.inl b_o_numbers)))] sz)) (va_Ql (fun (r : Int64) (_ : Unit) => r = r0) (fun _ t => zz_B dC dI dA (va_A [zo_X9 a_o f_o_missing a_o_numbers f_o_size f_o_sort, (a_o_numbers, .inl (dA 1, 40, .inr (.inl b_o_numbers)))] sz) [zo_X9 a_o f_o_missing a_o_numbers f_o_size f_o_sort, (a_o_numbers, .inl (dA 1, 40, .inr (.inl o1)))] t) (va_A [zo_X9 a_o f_o_missing a_o_numbers f_o_size f_o_sort, (a_o_numbers, .inl (dA 1, 40, .inr (.inl b_o_numbers)))] sz)) 0 0 (va_A [zo_X9 a_o f_o_missing a_o_numbers f_o_size f_o_sort, (a_o_numbers, .inl (dA 1, 40, .inr (.inl b_o_numbers)))] sz) := by
  unfold zf_X9_put at hf
  refine Met.ofW (cc := cX9_put) (maxL := 4) (ret := (some .long)) (by decide) rfl ?_
  intro p e s m args below meth c s₁ B hml hv
  obtain ⟨rfl, ⟨hsz, hP, hK, hD0⟩, hZ⟩ := hv
  have hx := B.exec
  have hb := B.bytes
  have hr := B.returns
  have ht : ∀ w ∈ zq_T, w.before ([.ref a_o, .int p1, .long p2] : List Value).toArray s = true := fun w hw => atoms_spec (ws := .code yX9_put cX9_put 4 (some .long) :: zq_T) B.pre w (List.mem_cons_of_mem _ hw)
  have hown : s.vm.findClass RX9 = some m.cls := findClass_of_methodNamed B.named
  have hlocks := B.notSynchronized
  subst hsz
  have hD := hD0.self (sz := s.heap.size)
  generalize hAe : va_A [zo_X9 a_o f_o_missing a_o_numbers f_o_size f_o_sort, (a_o_numbers, .inl (dA 1, 40, .inr (.inl b_o_numbers)))] s.heap.size = A at hD hZ ⊢
  have hA : ∀ q : Nat, s.heap.size ≤ q → A q := fun q h => by rw [← hAe]; exact Or.inr h
  clear hAe hD0
  have hS : va_S A s.heap s.heap [] := va_S.rf
  have hl := lv_entry ([.ref a_o, .int p1, .long p2]) (n := 4) (Nat.le_of_ble_eq_true rfl)
  rw [lg_entry_eq]
  generalize (lg_sl ([.ref a_o, .int p1, .long p2]) ++ List.replicate (4 - (lg_sl ([.ref a_o, .int p1, .long p2])).length) Slot.unset).toArray = ls at hl ⊢
  have hl : lv_has ls 4 [(0, .ref a_o), (1, .int p1), (2, .long p2)] := hl
  refine lv_aload_n (pc := 0) hx hb dX9_put_0 rfl (lv_at hl 0 rfl) ?_
  refine va_get (pc := 1) (D := (dC, dI)) (ci := 10) (v := .int f_o_sort) (C := RX9) (T := TX9) (N := 4) hx hb ht zq_layX9 hown hK hP 0 rfl rfl 3 (by decide) (ht _ zq_584) (fun _ h9 => h9) rfl dX9_put_1 ?_
  obtain ⟨a5, hj, hf⟩ := zc_1 hf
  refine zj_join (pcJ := 77) (stk := []) (X := fun H locs ls => lv_has ls 4 [(0, .ref a_o), (1, .int p1)] ∧ va_P (dC, dI) zz_cls [zo_X9 a_o f_o_missing a_o_numbers f_o_size f_o_sort, (a_o_numbers, .inl (dA 1, 40, .inr (.inl a5)))] H ∧ va_D A [zo_X9 a_o f_o_missing a_o_numbers f_o_size f_o_sort, (a_o_numbers, .inl (dA 1, 40, .inr (.inl a5)))] ∧ va_S A s.heap H locs) (fun H locs ls hX => ?_) (fun J77 => ?_)
  · obtain ⟨hl, hP, hD, hS⟩ := hX
    clear hj
    refine lv_aload_n (pc := 77) hx hb dX9_put_77 rfl (lv_at hl 0 rfl) ?_
    refine va_get (pc := 78) (D := (dC, dI)) (ci := 10) (v := .ref a_o_numbers) (C := RX9) (T := TX9) (N := 4) hx hb ht zq_layX9 hown hK hP 0 rfl rfl 1 (by decide) (ht _ zq_582) (fun _ h9 => h9) rfl dX9_put_78 ?_
    refine lv_iload_n (pc := 81) hx hb dX9_put_81 rfl (lv_at hl 1 rfl) ?_
    obtain ⟨v6, hv6, hf⟩ := zc_1 hf
    refine zw_lald (pc := 82) hx hb hK hP 1 1 rfl rfl hv6 dX9_put_82 ?_
    obtain ⟨rfl, rfl⟩ := zi_2 hf
    exact W.lret (pc := 83) hx hb hr (fun t ht hW => ⟨⟨_, (), rfl, rfl, zz_Bi (by rw [ht]; exact hP) (va_K.moved hW.alike hK) (hD)⟩, hS.F ht⟩) hS.2.2 dX9_put_83
  · clear hf
    have hf := hj
    clear hj
    by_cases hc0 : f_o_sort = (0 : Int32)
    · have hf := za_t hf hc0
      refine lv_tableIn (tgt := 32) (off := 28) (pc := 4) hx hb dX9_put_4 (by rw [hc0]; decide) (by rw [hc0]; decide) (by rw [hc0]; decide) rfl ?_
      refine lv_aload_n (pc := 32) hx hb dX9_put_32 rfl (lv_at hl 0 rfl) ?_
      refine va_get (pc := 33) (D := (dC, dI)) (ci := 10) (v := .ref a_o_numbers) (C := RX9) (T := TX9) (N := 4) hx hb ht zq_layX9 hown hK hP 0 rfl rfl 1 (by decide) (ht _ zq_582) (fun _ h9 => h9) rfl dX9_put_33 ?_
      refine lv_iload_n (pc := 36) hx hb dX9_put_36 rfl (lv_at hl 1 rfl) ?_
      refine lv_lload_n (pc := 37) hx hb dX9_put_37 rfl (lv_at hl 2 rfl) ?_
      refine lv_l2i (pc := 38) hx hb dX9_put_38 rfl ?_
      refine lv_i2b (pc := 39) hx hb dX9_put_39 rfl ?_
      refine lv_i2l (pc := 40) hx hb dX9_put_40 rfl ?_
      obtain ⟨a1, ha1, hf⟩ := zc_1 hf
      refine zw_last (pc := 41) hx hb hK hP hD hS 1 1 rfl rfl ha1 dX9_put_41 (fun H locs hP hD hS => ?_)
      have hP : va_P (dC, dI) zz_cls [zo_X9 a_o f_o_missing a_o_numbers f_o_size f_o_sort, (a_o_numbers, .inl (dA 1, 40, .inr (.inl a1)))] H := hP
      have hD : va_D A [zo_X9 a_o f_o_missing a_o_numbers f_o_size f_o_sort, (a_o_numbers, .inl (dA 1, 40, .inr (.inl a1)))] := hD
      refine lv_goto (tgt := 77) (pc := 42) hx hb dX9_put_42 rfl ?_
      obtain rfl := Option.some.inj hf
      exact J77 _ _ _ ⟨lv_sub hl [0, 1] rfl, hP, hD, hS⟩
    have hf := za_f hf hc0
    by_cases hc1 : f_o_sort = (1 : Int32)
    · have hf := za_t hf hc1
      refine lv_tableIn (tgt := 45) (off := 41) (pc := 4) hx hb dX9_put_4 (by rw [hc1]; decide) (by rw [hc1]; decide) (by rw [hc1]; decide) rfl ?_
      refine lv_aload_n (pc := 45) hx hb dX9_put_45 rfl (lv_at hl 0 rfl) ?_
      refine va_get (pc := 46) (D := (dC, dI)) (ci := 10) (v := .ref a_o_numbers) (C := RX9) (T := TX9) (N := 4) hx hb ht zq_layX9 hown hK hP 0 rfl rfl 1 (by decide) (ht _ zq_582) (fun _ h9 => h9) rfl dX9_put_46 ?_
      refine lv_iload_n (pc := 49) hx hb dX9_put_49 rfl (lv_at hl 1 rfl) ?_
      refine lv_lload_n (pc := 50) hx hb dX9_put_50 rfl (lv_at hl 2 rfl) ?_
      refine lv_l2i (pc := 51) hx hb dX9_put_51 rfl ?_
      refine lv_i2s (pc := 52) hx hb dX9_put_52 rfl ?_
      refine lv_i2l (pc := 53) hx hb dX9_put_53 rfl ?_
      obtain ⟨a2, ha2, hf⟩ := zc_1 hf
      refine zw_last (pc := 54) hx hb hK hP hD hS 1 1 rfl rfl ha2 dX9_put_54 (fun H locs hP hD hS => ?_)
      have hP : va_P (dC, dI) zz_cls [zo_X9 a_o f_o_missing a_o_numbers f_o_size f_o_sort, (a_o_numbers, .inl (dA 1, 40, .inr (.inl a2)))] H := hP
      have hD : va_D A [zo_X9 a_o f_o_missing a_o_numbers f_o_size f_o_sort, (a_o_numbers, .inl (dA 1, 40, .inr (.inl a2)))] := hD
      refine lv_goto (tgt := 77) (pc := 55) hx hb dX9_put_55 rfl ?_
      obtain rfl := Option.some.inj hf
      exact J77 _ _ _ ⟨lv_sub hl [0, 1] rfl, hP, hD, hS⟩
    have hf := za_f hf hc1
    by_cases hc2 : f_o_sort = (2 : Int32)
    · have hf := za_t hf hc2
      refine lv_tableIn (tgt := 58) (off := 54) (pc := 4) hx hb dX9_put_4 (by rw [hc2]; decide) (by rw [hc2]; decide) (by rw [hc2]; decide) rfl ?_
      refine lv_aload_n (pc := 58) hx hb dX9_put_58 rfl (lv_at hl 0 rfl) ?_
      refine va_get (pc := 59) (D := (dC, dI)) (ci := 10) (v := .ref a_o_numbers) (C := RX9) (T := TX9) (N := 4) hx hb ht zq_layX9 hown hK hP 0 rfl rfl 1 (by decide) (ht _ zq_582) (fun _ h9 => h9) rfl dX9_put_59 ?_
      refine lv_iload_n (pc := 62) hx hb dX9_put_62 rfl (lv_at hl 1 rfl) ?_
      refine lv_lload_n (pc := 63) hx hb dX9_put_63 rfl (lv_at hl 2 rfl) ?_
      refine lv_l2i (pc := 64) hx hb dX9_put_64 rfl ?_
      refine lv_i2l (pc := 65) hx hb dX9_put_65 rfl ?_
      obtain ⟨a3, ha3, hf⟩ := zc_1 hf
      refine zw_last (pc := 66) hx hb hK hP hD hS 1 1 rfl rfl ha3 dX9_put_66 (fun H locs hP hD hS => ?_)
      have hP : va_P (dC, dI) zz_cls [zo_X9 a_o f_o_missing a_o_numbers f_o_size f_o_sort, (a_o_numbers, .inl (dA 1, 40, .inr (.inl a3)))] H := hP
      have hD : va_D A [zo_X9 a_o f_o_missing a_o_numbers f_o_size f_o_sort, (a_o_numbers, .inl (dA 1, 40, .inr (.inl a3)))] := hD
      refine lv_goto (tgt := 77) (pc := 67) hx hb dX9_put_67 rfl ?_
      obtain rfl := Option.some.inj hf
      exact J77 _ _ _ ⟨lv_sub hl [0, 1] rfl, hP, hD, hS⟩
    have hf := za_f hf hc2
    refine lv_tableOut (tgt := 70) (pc := 4) hx hb dX9_put_4 (by have q0 := lv_neT (a := 0) hc0 (by decide); have q1 := lv_neT (a := 1) hc1 (by decide); have q2 := lv_neT (a := 2) hc2 (by decide); omega) rfl ?_
    refine lv_aload_n (pc := 70) hx hb dX9_put_70 rfl (lv_at hl 0 rfl) ?_
    refine va_get (pc := 71) (D := (dC, dI)) (ci := 10) (v := .ref a_o_numbers) (C := RX9) (T := TX9) (N := 4) hx hb ht zq_layX9 hown hK hP 0 rfl rfl 1 (by decide) (ht _ zq_582) (fun _ h9 => h9) rfl dX9_put_71 ?_
    refine lv_iload_n (pc := 74) hx hb dX9_put_74 rfl (lv_at hl 1 rfl) ?_
    refine lv_lload_n (pc := 75) hx hb dX9_put_75 rfl (lv_at hl 2 rfl) ?_
    obtain ⟨a4, ha4, hf⟩ := zc_1 hf
    refine zw_last (pc := 76) hx hb hK hP hD hS 1 1 rfl rfl ha4 dX9_put_76 (fun H locs hP hD hS => ?_)
    have hP : va_P (dC, dI) zz_cls [zo_X9 a_o f_o_missing a_o_numbers f_o_size f_o_sort, (a_o_numbers, .inl (dA 1, 40, .inr (.inl a4)))] H := hP
    have hD : va_D A [zo_X9 a_o f_o_missing a_o_numbers f_o_size f_o_sort, (a_o_numbers, .inl (dA 1, 40, .inr (.inl a4)))] := hD
    obtain rfl := Option.some.inj hf
    exact J77 _ _ _ ⟨lv_sub hl [0, 1] rfl, hP, hD, hS⟩

def zf_X9_deedAt (b_o_numbers : (Nat → Int64)) (p1 : Int32) : Option (Int32) :=
  zd_1 (za_ld b_o_numbers 40 p1) (fun v1 =>
  if (lg_cmp v1 (0 : Int64)) < 0 then
    some (-1 : Int32)
  else
    if 0 ≤ (lg_cmp v1 (40 : Int64)) then
      some (-1 : Int32)
    else
      some (Int64.toInt32 v1))
theorem zk_X9_deedAt : yX9_deedAt.cls = RX9 ∧ yX9_deedAt.cls ≠ "java/lang/invoke/MethodHandle" ∧ yX9_deedAt.cls ≠ "java/lang/invoke/VarHandle" ∧ (parseMethodDescriptor yX9_deedAt.desc).map (fun d => d.parameters.length) = some 1 := by decide +kernel
set_option maxHeartbeats 4000000 in
set_option maxRecDepth 100000 in
theorem zt_X9_deedAt (l : Launch) (dC : Nat → ClassId) (dI : Nat → Nat → Nat) (dA : Nat → ClassId) (adK adV : Nat → Nat) (sz : Nat) (a_o : Nat) (a_o_numbers : Nat) (f_o_missing : Int32) (f_o_size : Int32) (f_o_sort : Int32) (b_o_numbers : (Nat → Int64)) (p1 : Int32) (r0 : Int32) (hf : zf_X9_deedAt b_o_numbers p1 = some r0) : Met l yX9_deedAt (.code yX9_deedAt cX9_deedAt 4 (some .int) :: zq_T) ({ frames := 0, cells := 0, slots := 0, locals := 0 }) (va_Pc [.ref a_o, .int p1] (zx_M dC dI dA adK adV [zo_X9 a_o f_o_missing a_o_numbers f_o_size f_o_sort, (a_o_numbers, .inl (dA 1, 40, .inr (.inl b_o_numbers)))] sz)) (va_Qi (fun (r : Int32) (_ : Unit) => r = r0) (fun _ t => zz_B dC dI dA (va_A [zo_X9 a_o f_o_missing a_o_numbers f_o_size f_o_sort, (a_o_numbers, .inl (dA 1, 40, .inr (.inl b_o_numbers)))] sz) [zo_X9 a_o f_o_missing a_o_numbers f_o_size f_o_sort, (a_o_numbers, .inl (dA 1, 40, .inr (.inl b_o_numbers)))] t) (va_A [zo_X9 a_o f_o_missing a_o_numbers f_o_size f_o_sort, (a_o_numbers, .inl (dA 1, 40, .inr (.inl b_o_numbers)))] sz)) 0 0 (va_A [zo_X9 a_o f_o_missing a_o_numbers f_o_size f_o_sort, (a_o_numbers, .inl (dA 1, 40, .inr (.inl b_o_numbers)))] sz) := by
  unfold zf_X9_deedAt at hf
  refine Met.ofW (cc := cX9_deedAt) (maxL := 4) (ret := (some .int)) (by decide) rfl ?_
  intro p e s m args below meth c s₁ B hml hv
  obtain ⟨rfl, ⟨hsz, hP, hK, hD0⟩, hZ⟩ := hv
  have hx := B.exec
  have hb := B.bytes
  have hr := B.returns
  have ht : ∀ w ∈ zq_T, w.before ([.ref a_o, .int p1] : List Value).toArray s = true := fun w hw => atoms_spec (ws := .code yX9_deedAt cX9_deedAt 4 (some .int) :: zq_T) B.pre w (List.mem_cons_of_mem _ hw)
  have hown : s.vm.findClass RX9 = some m.cls := findClass_of_methodNamed B.named
  have hlocks := B.notSynchronized
  subst hsz
  have hD := hD0.self (sz := s.heap.size)
  generalize hAe : va_A [zo_X9 a_o f_o_missing a_o_numbers f_o_size f_o_sort, (a_o_numbers, .inl (dA 1, 40, .inr (.inl b_o_numbers)))] s.heap.size = A at hD hZ ⊢
  have hA : ∀ q : Nat, s.heap.size ≤ q → A q := fun q h => by rw [← hAe]; exact Or.inr h
  clear hAe hD0
  have hS : va_S A s.heap s.heap [] := va_S.rf
  have hl := lv_entry ([.ref a_o, .int p1]) (n := 4) (Nat.le_of_ble_eq_true rfl)
  rw [lg_entry_eq]
  generalize (lg_sl ([.ref a_o, .int p1]) ++ List.replicate (4 - (lg_sl ([.ref a_o, .int p1])).length) Slot.unset).toArray = ls at hl ⊢
  have hl : lv_has ls 4 [(0, .ref a_o), (1, .int p1)] := hl
  refine lv_aload_n (pc := 0) hx hb dX9_deedAt_0 rfl (lv_at hl 0 rfl) ?_
  refine va_get (pc := 1) (D := (dC, dI)) (ci := 10) (v := .ref a_o_numbers) (C := RX9) (T := TX9) (N := 4) hx hb ht zq_layX9 hown hK hP 0 rfl rfl 1 (by decide) (ht _ zq_582) (fun _ h9 => h9) rfl dX9_deedAt_1 ?_
  refine lv_iload_n (pc := 4) hx hb dX9_deedAt_4 rfl (lv_at hl 1 rfl) ?_
  obtain ⟨v1, hv1, hf⟩ := zc_1 hf
  refine zw_lald (pc := 5) hx hb hK hP 1 1 rfl rfl hv1 dX9_deedAt_5 ?_
  refine lv_lstore_n (lv' := [(2, .long v1), (0, .ref a_o), (1, .int p1)]) (pc := 6) hx hb dX9_deedAt_6 rfl hl (by decide) rfl (fun ls hl => ?_)
  refine lv_lload_n (pc := 7) hx hb dX9_deedAt_7 rfl (lv_at hl 0 rfl) ?_
  refine lv_lconst (v := (0 : Int64)) (pc := 8) hx hb dX9_deedAt_8 (by decide) ?_
  refine W.lcmp (pc := 9) hx hb dX9_deedAt_9 ?_
  refine lv_if_lt (tgt := 26) (pc := 10) hx hb dX9_deedAt_10 rfl (fun hc => ?_) (fun hc => ?_)
  · have hf := za_t hf hc
    refine lv_iconst (v := (-1 : Int32)) (pc := 26) hx hb dX9_deedAt_26 (by decide) ?_
    obtain rfl := Option.some.inj hf
    exact W.iret (pc := 27) hx hb hr (fun t ht hW => ⟨⟨_, (), rfl, rfl, zz_Bi (by rw [ht]; exact hP) (va_K.moved hW.alike hK) (hD)⟩, hS.F ht⟩) hS.2.2 dX9_deedAt_27
  · have hf := za_f hf hc
    refine lv_lload_n (pc := 13) hx hb dX9_deedAt_13 rfl (lv_at hl 0 rfl) ?_
    refine lv_ldc2 (v := (40 : Int64)) (pc := 14) hx hb hown (ht _ zq_591) dX9_deedAt_14 ?_
    refine W.lcmp (pc := 17) hx hb dX9_deedAt_17 ?_
    refine lv_if_ge (tgt := 26) (pc := 18) hx hb dX9_deedAt_18 rfl (fun hc => ?_) (fun hc => ?_)
    · have hf := za_t hf hc
      refine lv_iconst (v := (-1 : Int32)) (pc := 26) hx hb dX9_deedAt_26 (by decide) ?_
      obtain rfl := Option.some.inj hf
      exact W.iret (pc := 27) hx hb hr (fun t ht hW => ⟨⟨_, (), rfl, rfl, zz_Bi (by rw [ht]; exact hP) (va_K.moved hW.alike hK) (hD)⟩, hS.F ht⟩) hS.2.2 dX9_deedAt_27
    · have hf := za_f hf hc
      refine lv_lload_n (pc := 21) hx hb dX9_deedAt_21 rfl (lv_at hl 0 rfl) ?_
      refine lv_l2i (pc := 22) hx hb dX9_deedAt_22 rfl ?_
      refine lv_goto (tgt := 27) (pc := 23) hx hb dX9_deedAt_23 rfl ?_
      obtain rfl := Option.some.inj hf
      exact W.iret (pc := 27) hx hb hr (fun t ht hW => ⟨⟨_, (), rfl, rfl, zz_Bi (by rw [ht]; exact hP) (va_K.moved hW.alike hK) (hD)⟩, hS.F ht⟩) hS.2.2 dX9_deedAt_27

def zb_X10_tapeInt_3 (p1 : Int32) (v1 : Int32) (v2 : Int32) (a3 : (Nat → Int32)) : Option (Nat × Int32 × Int32 × (Nat → Int32)) :=
  if v1 < 0 then
    some (1, v1, v2, a3)
  else
    if (900 : Int32) ≤ v2 then
      some (1, v1, v2, a3)
    else
      zd_1 (some (((Int32.toUInt32 p1 >>> (Int32.toUInt32 v1 &&& Int32.toUInt32 31)).toInt32))) (fun v4 =>
      zd_1 (za_st a3 900 v2 (v4 &&& (255 : Int32))) (fun a5 =>
      zd_1 (some ((v2 + (1 : Int32)))) (fun v6 =>
      zd_1 (some (v1 + (-8 : Int32))) (fun v7 =>
      some (0, v7, v6, a5)))))
def zf_X10_tapeInt (n : Nat) (f_o_taped : Int32) (b_tape : (Nat → Int32)) (p1 : Int32) : Option (Int32 × (Nat → Int32)) :=
  zd_4 (za_it (fun v => zb_X10_tapeInt_3 p1 v.1 v.2.1 v.2.2) n ((24 : Int32), f_o_taped, b_tape)) (fun g11 v8 v9 a10 =>
  some (v9, a10))
theorem zk_X10_tapeInt : yX10_tapeInt.cls = RX10 ∧ yX10_tapeInt.cls ≠ "java/lang/invoke/MethodHandle" ∧ yX10_tapeInt.cls ≠ "java/lang/invoke/VarHandle" ∧ (parseMethodDescriptor yX10_tapeInt.desc).map (fun d => d.parameters.length) = some 1 := by decide +kernel
set_option maxHeartbeats 4000000 in
set_option maxRecDepth 100000 in
theorem zt_X10_tapeInt (l : Launch) (dC : Nat → ClassId) (dI : Nat → Nat → Nat) (dA : Nat → ClassId) (adK adV : Nat → Nat) (sz : Nat) (a_o : Nat) (a_tape : Nat) (a_c : Nat) (a_sp : Nat) (a_rd : Nat) (a_now : Nat) (a_tri : Nat) (a_pasts : Nat) (a_trayss : Nat) (a_ics : Nat) (a_ips : Nat) (a_w : Nat) (a_m : Nat) (a_g : Nat) (a_rw : Nat) (a_sl : Nat) (a_sh : Nat) (n : Nat) (f_o_taped : Int32) (f_o_undoable : Int32) (b_tape : (Nat → Int32)) (p1 : Int32) (o1 : Int32) (o2 : (Nat → Int32)) (hf : zf_X10_tapeInt n f_o_taped b_tape p1 = some (o1, o2)) : Met l yX10_tapeInt (.code yX10_tapeInt cX10_tapeInt 3 none :: zq_T) ({ frames := 0, cells := 0, slots := 0, locals := 0 }) (va_Pc [.ref a_o, .int p1] (zx_M dC dI dA adK adV [zo_X10 a_o a_tape f_o_taped a_c a_sp a_rd a_now a_tri a_pasts f_o_undoable a_trayss a_ics a_ips a_w a_m a_g a_rw a_sl a_sh, (a_tape, .inl (dA 0, 900, .inl b_tape))] sz)) (va_Qv (fun _ : Unit => True) (fun _ t => zz_B dC dI dA (va_A [zo_X10 a_o a_tape f_o_taped a_c a_sp a_rd a_now a_tri a_pasts f_o_undoable a_trayss a_ics a_ips a_w a_m a_g a_rw a_sl a_sh, (a_tape, .inl (dA 0, 900, .inl b_tape))] sz) [zo_X10 a_o a_tape o1 a_c a_sp a_rd a_now a_tri a_pasts f_o_undoable a_trayss a_ics a_ips a_w a_m a_g a_rw a_sl a_sh, (a_tape, .inl (dA 0, 900, .inl o2))] t) (va_A [zo_X10 a_o a_tape f_o_taped a_c a_sp a_rd a_now a_tri a_pasts f_o_undoable a_trayss a_ics a_ips a_w a_m a_g a_rw a_sl a_sh, (a_tape, .inl (dA 0, 900, .inl b_tape))] sz)) 0 0 (va_A [zo_X10 a_o a_tape f_o_taped a_c a_sp a_rd a_now a_tri a_pasts f_o_undoable a_trayss a_ics a_ips a_w a_m a_g a_rw a_sl a_sh, (a_tape, .inl (dA 0, 900, .inl b_tape))] sz) := by
  unfold zf_X10_tapeInt at hf
  refine Met.ofW (cc := cX10_tapeInt) (maxL := 3) (ret := none) (by decide) rfl ?_
  intro p e s m args below meth c s₁ B hml hv
  obtain ⟨rfl, ⟨hsz, hP, hK, hD0⟩, hZ⟩ := hv
  have hx := B.exec
  have hb := B.bytes
  have hr := B.returns
  have ht : ∀ w ∈ zq_T, w.before ([.ref a_o, .int p1] : List Value).toArray s = true := fun w hw => atoms_spec (ws := .code yX10_tapeInt cX10_tapeInt 3 none :: zq_T) B.pre w (List.mem_cons_of_mem _ hw)
  have hown : s.vm.findClass RX10 = some m.cls := findClass_of_methodNamed B.named
  have hlocks := B.notSynchronized
  subst hsz
  have hD := hD0.self (sz := s.heap.size)
  generalize hAe : va_A [zo_X10 a_o a_tape f_o_taped a_c a_sp a_rd a_now a_tri a_pasts f_o_undoable a_trayss a_ics a_ips a_w a_m a_g a_rw a_sl a_sh, (a_tape, .inl (dA 0, 900, .inl b_tape))] s.heap.size = A at hD hZ ⊢
  have hA : ∀ q : Nat, s.heap.size ≤ q → A q := fun q h => by rw [← hAe]; exact Or.inr h
  clear hAe hD0
  have hS : va_S A s.heap s.heap [] := va_S.rf
  have hl := lv_entry ([.ref a_o, .int p1]) (n := 3) (Nat.le_of_ble_eq_true rfl)
  rw [lg_entry_eq]
  generalize (lg_sl ([.ref a_o, .int p1]) ++ List.replicate (3 - (lg_sl ([.ref a_o, .int p1])).length) Slot.unset).toArray = ls at hl ⊢
  have hl : lv_has ls 3 [(0, .ref a_o), (1, .int p1)] := hl
  refine lv_bipush (v := (24 : Int32)) (pc := 0) hx hb dX10_tapeInt_0 (by decide) ?_
  refine lv_istore_n (lv' := [(2, .int (24 : Int32)), (0, .ref a_o), (1, .int p1)]) (pc := 2) hx hb dX10_tapeInt_2 rfl hl (by decide) rfl (fun ls hl => ?_)
  obtain ⟨g11, v8, v9, a10, hj, hf⟩ := zc_4 hf
  refine zj_join (pcJ := 49) (stk := []) (X := fun H locs ls => lv_has ls 3 [] ∧ va_P (dC, dI) zz_cls [zo_X10 a_o a_tape v9 a_c a_sp a_rd a_now a_tri a_pasts f_o_undoable a_trayss a_ics a_ips a_w a_m a_g a_rw a_sl a_sh, (a_tape, .inl (dA 0, 900, .inl a10))] H ∧ va_D A [zo_X10 a_o a_tape v9 a_c a_sp a_rd a_now a_tri a_pasts f_o_undoable a_trayss a_ics a_ips a_w a_m a_g a_rw a_sl a_sh, (a_tape, .inl (dA 0, 900, .inl a10))] ∧ va_S A s.heap H locs) (fun H locs ls hX => ?_) (fun E49 => ?_)
  · obtain ⟨hl, hP, hD, hS⟩ := hX
    clear hj
    obtain ⟨rfl, rfl⟩ := zi_2 hf
    exact W.vret (pc := 49) hx hb hr (fun t ht hW => ⟨⟨(), rfl, trivial, zz_Bi (by rw [ht]; exact hP) (va_K.moved hW.alike hK) (hD)⟩, hS.F ht⟩) hS.2.2 dX10_tapeInt_49
  clear hf
  refine zw_loop (pcH := 3) (X := fun v H locs ls => lv_has ls 3 [(0, .ref a_o), (1, .int p1), (2, .int v.1)] ∧ va_P (dC, dI) zz_cls [zo_X10 a_o a_tape v.2.1 a_c a_sp a_rd a_now a_tri a_pasts f_o_undoable a_trayss a_ics a_ips a_w a_m a_g a_rw a_sl a_sh, (a_tape, .inl (dA 0, 900, .inl v.2.2))] H ∧ va_D A [zo_X10 a_o a_tape v.2.1 a_c a_sp a_rd a_now a_tri a_pasts f_o_undoable a_trayss a_ics a_ips a_w a_m a_g a_rw a_sl a_sh, (a_tape, .inl (dA 0, 900, .inl v.2.2))] ∧ va_S A s.heap H locs) hj (fun v w hf ih ex H locs ls hX => ?_) _ _ _ ⟨lv_sub hl [1, 2, 0] rfl, hP, hD, hS⟩
  clear hj
  obtain ⟨v1, v2, a3⟩ := v
  obtain ⟨hl, hP, hD, hS⟩ := hX
  have hl : lv_has ls 3 [(0, .ref a_o), (1, .int p1), (2, .int v1)] := hl
  have hP : va_P (dC, dI) zz_cls [zo_X10 a_o a_tape v2 a_c a_sp a_rd a_now a_tri a_pasts f_o_undoable a_trayss a_ics a_ips a_w a_m a_g a_rw a_sl a_sh, (a_tape, .inl (dA 0, 900, .inl a3))] H := hP
  have hD : va_D A [zo_X10 a_o a_tape v2 a_c a_sp a_rd a_now a_tri a_pasts f_o_undoable a_trayss a_ics a_ips a_w a_m a_g a_rw a_sl a_sh, (a_tape, .inl (dA 0, 900, .inl a3))] := hD
  replace hf : zb_X10_tapeInt_3 p1 v1 v2 a3 = some w := hf
  unfold zb_X10_tapeInt_3 at hf
  refine lv_iload_n (pc := 3) hx hb dX10_tapeInt_3 rfl (lv_at hl 2 rfl) ?_
  refine lv_if_lt (tgt := 49) (pc := 4) hx hb dX10_tapeInt_4 rfl (fun hc => ?_) (fun hc => ?_)
  · have hf := za_t hf hc
    obtain rfl := Option.some.inj hf
    obtain ⟨rfl, rfl, rfl, rfl⟩ := zp_4 (ex (show ¬ (1 : Nat) = 0 by decide))
    exact E49 _ _ _ ⟨lv_sub hl [] rfl, hP, hD, hS⟩
  · have hf := za_f hf hc
    refine lv_aload_n (pc := 7) hx hb dX10_tapeInt_7 rfl (lv_at hl 0 rfl) ?_
    refine va_get (pc := 8) (D := (dC, dI)) (ci := 11) (v := .int v2) (C := RX10) (T := TX10) (N := 18) hx hb ht zq_layX10 hown hK hP 0 rfl rfl 1 (by decide) (ht _ zq_594) (fun _ h9 => h9) rfl dX10_tapeInt_8 ?_
    refine lv_sipush (v := (900 : Int32)) (pc := 11) hx hb dX10_tapeInt_11 (by decide) ?_
    refine lv_icmp_ge (tgt := 49) (pc := 14) hx hb dX10_tapeInt_14 rfl (fun hc => ?_) (fun hc => ?_)
    · have hf := za_t hf hc
      obtain rfl := Option.some.inj hf
      obtain ⟨rfl, rfl, rfl, rfl⟩ := zp_4 (ex (show ¬ (1 : Nat) = 0 by decide))
      exact E49 _ _ _ ⟨lv_sub hl [] rfl, hP, hD, hS⟩
    · have hf := za_f hf hc
      refine lv_aload_n (pc := 17) hx hb dX10_tapeInt_17 rfl (lv_at hl 0 rfl) ?_
      refine va_get (pc := 18) (D := (dC, dI)) (ci := 11) (v := .ref a_tape) (C := RX10) (T := TX10) (N := 18) hx hb ht zq_layX10 hown hK hP 0 rfl rfl 0 (by decide) (ht _ zq_593) (fun _ h9 => h9) rfl dX10_tapeInt_18 ?_
      refine lv_aload_n (pc := 21) hx hb dX10_tapeInt_21 rfl (lv_at hl 0 rfl) ?_
      refine va_get (pc := 22) (D := (dC, dI)) (ci := 11) (v := .int v2) (C := RX10) (T := TX10) (N := 18) hx hb ht zq_layX10 hown hK hP 0 rfl rfl 1 (by decide) (ht _ zq_594) (fun _ h9 => h9) rfl dX10_tapeInt_22 ?_
      refine lv_iload_n (pc := 25) hx hb dX10_tapeInt_25 rfl (lv_at hl 1 rfl) ?_
      refine lv_iload_n (pc := 26) hx hb dX10_tapeInt_26 rfl (lv_at hl 2 rfl) ?_
      refine lv_iushr (pc := 27) hx hb dX10_tapeInt_27 rfl ?_
      obtain ⟨v4, hv4, hf⟩ := zc_1 hf
      refine zw_top (hv4) ?_
      refine lv_sipush (v := (255 : Int32)) (pc := 28) hx hb dX10_tapeInt_28 (by decide) ?_
      refine lv_iand (pc := 31) hx hb dX10_tapeInt_31 ?_
      obtain ⟨a5, ha5, hf⟩ := zc_1 hf
      refine zw_iast (pc := 32) hx hb hK hP hD hS 1 0 rfl rfl ha5 dX10_tapeInt_32 (fun H locs hP hD hS => ?_)
      have hP : va_P (dC, dI) zz_cls [zo_X10 a_o a_tape v2 a_c a_sp a_rd a_now a_tri a_pasts f_o_undoable a_trayss a_ics a_ips a_w a_m a_g a_rw a_sl a_sh, (a_tape, .inl (dA 0, 900, .inl a5))] H := hP
      have hD : va_D A [zo_X10 a_o a_tape v2 a_c a_sp a_rd a_now a_tri a_pasts f_o_undoable a_trayss a_ics a_ips a_w a_m a_g a_rw a_sl a_sh, (a_tape, .inl (dA 0, 900, .inl a5))] := hD
      refine lv_aload_n (pc := 33) hx hb dX10_tapeInt_33 rfl (lv_at hl 0 rfl) ?_
      refine lv_dup (pc := 34) hx hb dX10_tapeInt_34 rfl ?_
      refine va_get (pc := 35) (D := (dC, dI)) (ci := 11) (v := .int v2) (C := RX10) (T := TX10) (N := 18) hx hb ht zq_layX10 hown hK hP 0 rfl rfl 1 (by decide) (ht _ zq_594) (fun _ h9 => h9) rfl dX10_tapeInt_35 ?_
      refine lv_iconst (v := (1 : Int32)) (pc := 38) hx hb dX10_tapeInt_38 (by decide) ?_
      refine lv_iadd (pc := 39) hx hb dX10_tapeInt_39 ?_
      obtain ⟨v6, hv6, hf⟩ := zc_1 hf
      refine zw_top (hv6) ?_
      refine va_put (pc := 40) (D := (dC, dI)) (ci := 11) (v := .int v6) (ty := .int) (C := RX10) (T := TX10) (N := 18) hx hb ht zq_layX10 tyX10 tyX10_ok nmX10 hown hK hP hD hS 0 rfl rfl 1 (by decide) (ht _ zq_594) (fun _ h9 => h9) rfl (by decide +kernel) rfl rfl (Nat.le_of_ble_eq_true rfl) dX10_tapeInt_40 (fun H locs hP hD hS => ?_)
      have hP : va_P (dC, dI) zz_cls [zo_X10 a_o a_tape v6 a_c a_sp a_rd a_now a_tri a_pasts f_o_undoable a_trayss a_ics a_ips a_w a_m a_g a_rw a_sl a_sh, (a_tape, .inl (dA 0, 900, .inl a5))] H := hP
      have hD : va_D A [zo_X10 a_o a_tape v6 a_c a_sp a_rd a_now a_tri a_pasts f_o_undoable a_trayss a_ics a_ips a_w a_m a_g a_rw a_sl a_sh, (a_tape, .inl (dA 0, 900, .inl a5))] := hD
      obtain ⟨v7, hv7, hf⟩ := zc_1 hf
      refine lv_iinc (v := v7) (lv' := [(2, .int v7), (0, .ref a_o), (1, .int p1)]) (k := 2) (pc := 43) hx hb dX10_tapeInt_43 hl rfl (Option.some.inj hv7) (by decide) rfl (fun ls hl => ?_)
      refine lv_goto (tgt := 3) (pc := 46) hx hb dX10_tapeInt_46 rfl ?_
      obtain rfl := Option.some.inj hf
      exact ih rfl _ _ _ ⟨lv_sub hl [1, 2, 0] rfl, hP, hD, hS⟩

def zf_X10_feed (n : Nat) (f_o_taped : Int32) (b_tape : (Nat → Int32)) (p1 : Int32) (p2 : Int32) (p3 : Int32) (p4 : Int32) (p5 : Int32) : Option (Int32 × Int32 × (Nat → Int32)) :=
  if (f_o_taped + (20 : Int32)) ≤ (900 : Int32) then
    zd_2 (zf_X10_tapeInt n f_o_taped b_tape p1) (fun v1 a2 =>
    zd_2 (zf_X10_tapeInt n v1 a2 p2) (fun v3 a4 =>
    zd_2 (zf_X10_tapeInt n v3 a4 p3) (fun v5 a6 =>
    zd_2 (zf_X10_tapeInt n v5 a6 p4) (fun v7 a8 =>
    zd_2 (zf_X10_tapeInt n v7 a8 p5) (fun v9 a10 =>
    some (v9, v9, a10))))))
  else
    some ((-5 : Int32), f_o_taped, b_tape)
theorem zk_X10_feed : yX10_feed.cls = RX10 ∧ yX10_feed.cls ≠ "java/lang/invoke/MethodHandle" ∧ yX10_feed.cls ≠ "java/lang/invoke/VarHandle" ∧ (parseMethodDescriptor yX10_feed.desc).map (fun d => d.parameters.length) = some 5 := by decide +kernel
set_option maxHeartbeats 4000000 in
set_option maxRecDepth 100000 in
theorem zt_X10_feed (l : Launch) (dC : Nat → ClassId) (dI : Nat → Nat → Nat) (dA : Nat → ClassId) (adK adV : Nat → Nat) (sz : Nat) (a_o : Nat) (a_tape : Nat) (a_c : Nat) (a_sp : Nat) (a_rd : Nat) (a_now : Nat) (a_tri : Nat) (a_pasts : Nat) (a_trayss : Nat) (a_ics : Nat) (a_ips : Nat) (a_w : Nat) (a_m : Nat) (a_g : Nat) (a_rw : Nat) (a_sl : Nat) (a_sh : Nat) (n : Nat) (f_o_taped : Int32) (f_o_undoable : Int32) (b_tape : (Nat → Int32)) (p1 : Int32) (p2 : Int32) (p3 : Int32) (p4 : Int32) (p5 : Int32) (r0 : Int32) (o1 : Int32) (o2 : (Nat → Int32)) (hf : zf_X10_feed n f_o_taped b_tape p1 p2 p3 p4 p5 = some (r0, o1, o2)) : Met l yX10_feed (.code yX10_feed cX10_feed 6 (some .int) :: zq_T) ({ frames := 1, cells := 0, slots := 0, locals := 22 }) (va_Pc [.ref a_o, .int p1, .int p2, .int p3, .int p4, .int p5] (zx_M dC dI dA adK adV [zo_X10 a_o a_tape f_o_taped a_c a_sp a_rd a_now a_tri a_pasts f_o_undoable a_trayss a_ics a_ips a_w a_m a_g a_rw a_sl a_sh, (a_tape, .inl (dA 0, 900, .inl b_tape))] sz)) (va_Qi (fun (r : Int32) (_ : Unit) => r = r0) (fun _ t => zz_B dC dI dA (va_A [zo_X10 a_o a_tape f_o_taped a_c a_sp a_rd a_now a_tri a_pasts f_o_undoable a_trayss a_ics a_ips a_w a_m a_g a_rw a_sl a_sh, (a_tape, .inl (dA 0, 900, .inl b_tape))] sz) [zo_X10 a_o a_tape o1 a_c a_sp a_rd a_now a_tri a_pasts f_o_undoable a_trayss a_ics a_ips a_w a_m a_g a_rw a_sl a_sh, (a_tape, .inl (dA 0, 900, .inl o2))] t) (va_A [zo_X10 a_o a_tape f_o_taped a_c a_sp a_rd a_now a_tri a_pasts f_o_undoable a_trayss a_ics a_ips a_w a_m a_g a_rw a_sl a_sh, (a_tape, .inl (dA 0, 900, .inl b_tape))] sz)) 0 0 (va_A [zo_X10 a_o a_tape f_o_taped a_c a_sp a_rd a_now a_tri a_pasts f_o_undoable a_trayss a_ics a_ips a_w a_m a_g a_rw a_sl a_sh, (a_tape, .inl (dA 0, 900, .inl b_tape))] sz) := by
  unfold zf_X10_feed at hf
  refine Met.ofW (cc := cX10_feed) (maxL := 6) (ret := (some .int)) (by decide) rfl ?_
  intro p e s m args below meth c s₁ B hml hv
  obtain ⟨rfl, ⟨hsz, hP, hK, hD0⟩, hZ⟩ := hv
  have hx := B.exec
  have hb := B.bytes
  have hr := B.returns
  have ht : ∀ w ∈ zq_T, w.before ([.ref a_o, .int p1, .int p2, .int p3, .int p4, .int p5] : List Value).toArray s = true := fun w hw => atoms_spec (ws := .code yX10_feed cX10_feed 6 (some .int) :: zq_T) B.pre w (List.mem_cons_of_mem _ hw)
  have hown : s.vm.findClass RX10 = some m.cls := findClass_of_methodNamed B.named
  have hlocks := B.notSynchronized
  subst hsz
  have hD := hD0.self (sz := s.heap.size)
  generalize hAe : va_A [zo_X10 a_o a_tape f_o_taped a_c a_sp a_rd a_now a_tri a_pasts f_o_undoable a_trayss a_ics a_ips a_w a_m a_g a_rw a_sl a_sh, (a_tape, .inl (dA 0, 900, .inl b_tape))] s.heap.size = A at hD hZ ⊢
  have hA : ∀ q : Nat, s.heap.size ≤ q → A q := fun q h => by rw [← hAe]; exact Or.inr h
  clear hAe hD0
  have hS : va_S A s.heap s.heap [] := va_S.rf
  have hl := lv_entry ([.ref a_o, .int p1, .int p2, .int p3, .int p4, .int p5]) (n := 6) (Nat.le_of_ble_eq_true rfl)
  rw [lg_entry_eq]
  generalize (lg_sl ([.ref a_o, .int p1, .int p2, .int p3, .int p4, .int p5]) ++ List.replicate (6 - (lg_sl ([.ref a_o, .int p1, .int p2, .int p3, .int p4, .int p5])).length) Slot.unset).toArray = ls at hl ⊢
  have hl : lv_has ls 6 [(0, .ref a_o), (1, .int p1), (2, .int p2), (3, .int p3), (4, .int p4), (5, .int p5)] := hl
  refine lv_aload_n (pc := 0) hx hb dX10_feed_0 rfl (lv_at hl 0 rfl) ?_
  refine va_get (pc := 1) (D := (dC, dI)) (ci := 11) (v := .int f_o_taped) (C := RX10) (T := TX10) (N := 18) hx hb ht zq_layX10 hown hK hP 0 rfl rfl 1 (by decide) (ht _ zq_594) (fun _ h9 => h9) rfl dX10_feed_1 ?_
  refine lv_bipush (v := (20 : Int32)) (pc := 4) hx hb dX10_feed_4 (by decide) ?_
  refine lv_iadd (pc := 6) hx hb dX10_feed_6 ?_
  refine lv_sipush (v := (900 : Int32)) (pc := 7) hx hb dX10_feed_7 (by decide) ?_
  refine lv_icmp_le (tgt := 16) (pc := 10) hx hb dX10_feed_10 rfl (fun hc => ?_) (fun hc => ?_)
  · have hf := za_t hf hc
    refine lv_aload_n (pc := 16) hx hb dX10_feed_16 rfl (lv_at hl 0 rfl) ?_
    refine lv_iload_n (pc := 17) hx hb dX10_feed_17 rfl (lv_at hl 1 rfl) ?_
    obtain ⟨v1, a2, hv1, hf⟩ := zc_2 hf
    refine zx_Vv (pc := 18) (wc := [zo_X10 a_o a_tape f_o_taped a_c a_sp a_rd a_now a_tri a_pasts f_o_undoable a_trayss a_ics a_ips a_w a_m a_g a_rw a_sl a_sh, (a_tape, .inl (dA 0, 900, .inl b_tape))]) (wr := []) (w1 := [zo_X10 a_o a_tape v1 a_c a_sp a_rd a_now a_tri a_pasts f_o_undoable a_trayss a_ics a_ips a_w a_m a_g a_rw a_sl a_sh, (a_tape, .inl (dA 0, 900, .inl a2))]) (As := [.int p1]) (rest := []) ⟨hx, hb, hml, hown, ht⟩ (zt_X10_tapeInt l dC dI dA adK adV _ a_o a_tape a_c a_sp a_rd a_now a_tri a_pasts a_trayss a_ics a_ips a_w a_m a_g a_rw a_sl a_sh n f_o_taped f_o_undoable b_tape p1 v1 a2 hv1) (cwV 1 ht (zq_V zq_657 zq_658 zq_659 zq_58 zq_655) rfl rfl rfl zk_X10_tapeInt ⟨Nat.le_of_ble_eq_true rfl, Nat.le_of_ble_eq_true rfl⟩) rfl rfl hZ hK hP hD hS hA [0, 1] [] (by decide) (by decide) (by decide) rfl rfl rfl hl.1 (Nat.le_of_ble_eq_true rfl) dX10_feed_18 ⟨Nat.zero_le _, Nat.zero_le _⟩ rfl (fun H locs hP hD hS => ?_)
    have hP : va_P (dC, dI) zz_cls [zo_X10 a_o a_tape v1 a_c a_sp a_rd a_now a_tri a_pasts f_o_undoable a_trayss a_ics a_ips a_w a_m a_g a_rw a_sl a_sh, (a_tape, .inl (dA 0, 900, .inl a2))] H := hP
    have hD : va_D A [zo_X10 a_o a_tape v1 a_c a_sp a_rd a_now a_tri a_pasts f_o_undoable a_trayss a_ics a_ips a_w a_m a_g a_rw a_sl a_sh, (a_tape, .inl (dA 0, 900, .inl a2))] := hD
    refine lv_aload_n (pc := 21) hx hb dX10_feed_21 rfl (lv_at hl 0 rfl) ?_
    refine lv_iload_n (pc := 22) hx hb dX10_feed_22 rfl (lv_at hl 2 rfl) ?_
    obtain ⟨v3, a4, hv3, hf⟩ := zc_2 hf
    refine zx_Vv (pc := 23) (wc := [zo_X10 a_o a_tape v1 a_c a_sp a_rd a_now a_tri a_pasts f_o_undoable a_trayss a_ics a_ips a_w a_m a_g a_rw a_sl a_sh, (a_tape, .inl (dA 0, 900, .inl a2))]) (wr := []) (w1 := [zo_X10 a_o a_tape v3 a_c a_sp a_rd a_now a_tri a_pasts f_o_undoable a_trayss a_ics a_ips a_w a_m a_g a_rw a_sl a_sh, (a_tape, .inl (dA 0, 900, .inl a4))]) (As := [.int p2]) (rest := []) ⟨hx, hb, hml, hown, ht⟩ (zt_X10_tapeInt l dC dI dA adK adV _ a_o a_tape a_c a_sp a_rd a_now a_tri a_pasts a_trayss a_ics a_ips a_w a_m a_g a_rw a_sl a_sh n v1 f_o_undoable a2 p2 v3 a4 hv3) (cwV 1 ht (zq_V zq_657 zq_658 zq_659 zq_58 zq_655) rfl rfl rfl zk_X10_tapeInt ⟨Nat.le_of_ble_eq_true rfl, Nat.le_of_ble_eq_true rfl⟩) rfl rfl hZ hK hP hD hS hA [0, 1] [] (by decide) (by decide) (by decide) rfl rfl rfl hl.1 (Nat.le_of_ble_eq_true rfl) dX10_feed_23 ⟨Nat.zero_le _, Nat.zero_le _⟩ rfl (fun H locs hP hD hS => ?_)
    have hP : va_P (dC, dI) zz_cls [zo_X10 a_o a_tape v3 a_c a_sp a_rd a_now a_tri a_pasts f_o_undoable a_trayss a_ics a_ips a_w a_m a_g a_rw a_sl a_sh, (a_tape, .inl (dA 0, 900, .inl a4))] H := hP
    have hD : va_D A [zo_X10 a_o a_tape v3 a_c a_sp a_rd a_now a_tri a_pasts f_o_undoable a_trayss a_ics a_ips a_w a_m a_g a_rw a_sl a_sh, (a_tape, .inl (dA 0, 900, .inl a4))] := hD
    refine lv_aload_n (pc := 26) hx hb dX10_feed_26 rfl (lv_at hl 0 rfl) ?_
    refine lv_iload_n (pc := 27) hx hb dX10_feed_27 rfl (lv_at hl 3 rfl) ?_
    obtain ⟨v5, a6, hv5, hf⟩ := zc_2 hf
    refine zx_Vv (pc := 28) (wc := [zo_X10 a_o a_tape v3 a_c a_sp a_rd a_now a_tri a_pasts f_o_undoable a_trayss a_ics a_ips a_w a_m a_g a_rw a_sl a_sh, (a_tape, .inl (dA 0, 900, .inl a4))]) (wr := []) (w1 := [zo_X10 a_o a_tape v5 a_c a_sp a_rd a_now a_tri a_pasts f_o_undoable a_trayss a_ics a_ips a_w a_m a_g a_rw a_sl a_sh, (a_tape, .inl (dA 0, 900, .inl a6))]) (As := [.int p3]) (rest := []) ⟨hx, hb, hml, hown, ht⟩ (zt_X10_tapeInt l dC dI dA adK adV _ a_o a_tape a_c a_sp a_rd a_now a_tri a_pasts a_trayss a_ics a_ips a_w a_m a_g a_rw a_sl a_sh n v3 f_o_undoable a4 p3 v5 a6 hv5) (cwV 1 ht (zq_V zq_657 zq_658 zq_659 zq_58 zq_655) rfl rfl rfl zk_X10_tapeInt ⟨Nat.le_of_ble_eq_true rfl, Nat.le_of_ble_eq_true rfl⟩) rfl rfl hZ hK hP hD hS hA [0, 1] [] (by decide) (by decide) (by decide) rfl rfl rfl hl.1 (Nat.le_of_ble_eq_true rfl) dX10_feed_28 ⟨Nat.zero_le _, Nat.zero_le _⟩ rfl (fun H locs hP hD hS => ?_)
    have hP : va_P (dC, dI) zz_cls [zo_X10 a_o a_tape v5 a_c a_sp a_rd a_now a_tri a_pasts f_o_undoable a_trayss a_ics a_ips a_w a_m a_g a_rw a_sl a_sh, (a_tape, .inl (dA 0, 900, .inl a6))] H := hP
    have hD : va_D A [zo_X10 a_o a_tape v5 a_c a_sp a_rd a_now a_tri a_pasts f_o_undoable a_trayss a_ics a_ips a_w a_m a_g a_rw a_sl a_sh, (a_tape, .inl (dA 0, 900, .inl a6))] := hD
    refine lv_aload_n (pc := 31) hx hb dX10_feed_31 rfl (lv_at hl 0 rfl) ?_
    refine lv_iload (pc := 32) hx hb dX10_feed_32 (lv_at hl 4 rfl) ?_
    obtain ⟨v7, a8, hv7, hf⟩ := zc_2 hf
    refine zx_Vv (pc := 34) (wc := [zo_X10 a_o a_tape v5 a_c a_sp a_rd a_now a_tri a_pasts f_o_undoable a_trayss a_ics a_ips a_w a_m a_g a_rw a_sl a_sh, (a_tape, .inl (dA 0, 900, .inl a6))]) (wr := []) (w1 := [zo_X10 a_o a_tape v7 a_c a_sp a_rd a_now a_tri a_pasts f_o_undoable a_trayss a_ics a_ips a_w a_m a_g a_rw a_sl a_sh, (a_tape, .inl (dA 0, 900, .inl a8))]) (As := [.int p4]) (rest := []) ⟨hx, hb, hml, hown, ht⟩ (zt_X10_tapeInt l dC dI dA adK adV _ a_o a_tape a_c a_sp a_rd a_now a_tri a_pasts a_trayss a_ics a_ips a_w a_m a_g a_rw a_sl a_sh n v5 f_o_undoable a6 p4 v7 a8 hv7) (cwV 1 ht (zq_V zq_657 zq_658 zq_659 zq_58 zq_655) rfl rfl rfl zk_X10_tapeInt ⟨Nat.le_of_ble_eq_true rfl, Nat.le_of_ble_eq_true rfl⟩) rfl rfl hZ hK hP hD hS hA [0, 1] [] (by decide) (by decide) (by decide) rfl rfl rfl hl.1 (Nat.le_of_ble_eq_true rfl) dX10_feed_34 ⟨Nat.zero_le _, Nat.zero_le _⟩ rfl (fun H locs hP hD hS => ?_)
    have hP : va_P (dC, dI) zz_cls [zo_X10 a_o a_tape v7 a_c a_sp a_rd a_now a_tri a_pasts f_o_undoable a_trayss a_ics a_ips a_w a_m a_g a_rw a_sl a_sh, (a_tape, .inl (dA 0, 900, .inl a8))] H := hP
    have hD : va_D A [zo_X10 a_o a_tape v7 a_c a_sp a_rd a_now a_tri a_pasts f_o_undoable a_trayss a_ics a_ips a_w a_m a_g a_rw a_sl a_sh, (a_tape, .inl (dA 0, 900, .inl a8))] := hD
    refine lv_aload_n (pc := 37) hx hb dX10_feed_37 rfl (lv_at hl 0 rfl) ?_
    refine lv_iload (pc := 38) hx hb dX10_feed_38 (lv_at hl 5 rfl) ?_
    obtain ⟨v9, a10, hv9, hf⟩ := zc_2 hf
    refine zx_Vv (pc := 40) (wc := [zo_X10 a_o a_tape v7 a_c a_sp a_rd a_now a_tri a_pasts f_o_undoable a_trayss a_ics a_ips a_w a_m a_g a_rw a_sl a_sh, (a_tape, .inl (dA 0, 900, .inl a8))]) (wr := []) (w1 := [zo_X10 a_o a_tape v9 a_c a_sp a_rd a_now a_tri a_pasts f_o_undoable a_trayss a_ics a_ips a_w a_m a_g a_rw a_sl a_sh, (a_tape, .inl (dA 0, 900, .inl a10))]) (As := [.int p5]) (rest := []) ⟨hx, hb, hml, hown, ht⟩ (zt_X10_tapeInt l dC dI dA adK adV _ a_o a_tape a_c a_sp a_rd a_now a_tri a_pasts a_trayss a_ics a_ips a_w a_m a_g a_rw a_sl a_sh n v7 f_o_undoable a8 p5 v9 a10 hv9) (cwV 1 ht (zq_V zq_657 zq_658 zq_659 zq_58 zq_655) rfl rfl rfl zk_X10_tapeInt ⟨Nat.le_of_ble_eq_true rfl, Nat.le_of_ble_eq_true rfl⟩) rfl rfl hZ hK hP hD hS hA [0, 1] [] (by decide) (by decide) (by decide) rfl rfl rfl hl.1 (Nat.le_of_ble_eq_true rfl) dX10_feed_40 ⟨Nat.zero_le _, Nat.zero_le _⟩ rfl (fun H locs hP hD hS => ?_)
    have hP : va_P (dC, dI) zz_cls [zo_X10 a_o a_tape v9 a_c a_sp a_rd a_now a_tri a_pasts f_o_undoable a_trayss a_ics a_ips a_w a_m a_g a_rw a_sl a_sh, (a_tape, .inl (dA 0, 900, .inl a10))] H := hP
    have hD : va_D A [zo_X10 a_o a_tape v9 a_c a_sp a_rd a_now a_tri a_pasts f_o_undoable a_trayss a_ics a_ips a_w a_m a_g a_rw a_sl a_sh, (a_tape, .inl (dA 0, 900, .inl a10))] := hD
    refine lv_aload_n (pc := 43) hx hb dX10_feed_43 rfl (lv_at hl 0 rfl) ?_
    refine va_get (pc := 44) (D := (dC, dI)) (ci := 11) (v := .int v9) (C := RX10) (T := TX10) (N := 18) hx hb ht zq_layX10 hown hK hP 0 rfl rfl 1 (by decide) (ht _ zq_594) (fun _ h9 => h9) rfl dX10_feed_44 ?_
    obtain ⟨rfl, rfl, rfl⟩ := zi_3 hf
    exact W.iret (pc := 47) hx hb hr (fun t ht hW => ⟨⟨_, (), rfl, rfl, zz_Bi (by rw [ht]; exact hP) (va_K.moved hW.alike hK) (hD)⟩, hS.F ht⟩) hS.2.2 dX10_feed_47
  · have hf := za_f hf hc
    refine lv_bipush (v := (-5 : Int32)) (pc := 13) hx hb dX10_feed_13 (by decide) ?_
    obtain ⟨rfl, rfl, rfl⟩ := zi_3 hf
    exact W.iret (pc := 15) hx hb hr (fun t ht hW => ⟨⟨_, (), rfl, rfl, zz_Bi (by rw [ht]; exact hP) (va_K.moved hW.alike hK) (hD)⟩, hS.F ht⟩) hS.2.2 dX10_feed_15

def zf_X10_settle (n : Nat) (f_now_wind : Int32) (f_w_wind : Int32) (b_w_told : (Nat → Int32)) (f_g_known : Int32) : Option (Int32 × (Nat → Int32) × Int32) :=
  zd_2 (zf_X2_useWind n f_w_wind b_w_told f_now_wind) (fun v1 a2 =>
  zd_1 (zf_X1_forget f_g_known) (fun v3 =>
  some (v1, a2, v3)))
theorem zk_X10_settle : yX10_settle.cls = RX10 ∧ yX10_settle.cls ≠ "java/lang/invoke/MethodHandle" ∧ yX10_settle.cls ≠ "java/lang/invoke/VarHandle" ∧ (parseMethodDescriptor yX10_settle.desc).map (fun d => d.parameters.length) = some 0 := by decide +kernel
set_option maxHeartbeats 4000000 in
set_option maxRecDepth 100000 in
theorem zt_X10_settle (l : Launch) (dC : Nat → ClassId) (dI : Nat → Nat → Nat) (dA : Nat → ClassId) (adK adV : Nat → Nat) (sz : Nat) (a_o : Nat) (a_tape : Nat) (a_c : Nat) (a_sp : Nat) (a_rd : Nat) (a_now : Nat) (a_tri : Nat) (a_pasts : Nat) (a_trayss : Nat) (a_ics : Nat) (a_ips : Nat) (a_w : Nat) (a_m : Nat) (a_g : Nat) (a_rw : Nat) (a_sl : Nat) (a_sh : Nat) (a_w_told : Nat) (a_w_facts : Nat) (a_w_stack : Nat) (a_g_order : Nat) (a_g_depth : Nat) (a_g_from : Nat) (n : Nat) (f_o_taped : Int32) (f_o_undoable : Int32) (f_now_stand : Int32) (f_now_wind : Int32) (f_now_deeds : Int32) (f_w_wind : Int32) (f_g_size : Int32) (f_g_known : Int32) (b_w_told : (Nat → Int32)) (o1 : Int32) (o2 : (Nat → Int32)) (o3 : Int32) (hf : zf_X10_settle n f_now_wind f_w_wind b_w_told f_g_known = some (o1, o2, o3)) : Met l yX10_settle (.code yX10_settle cX10_settle 1 none :: zq_T) ({ frames := 3, cells := 0, slots := 0, locals := 64 }) (va_Pc [.ref a_o] (zx_M dC dI dA adK adV [zo_X10 a_o a_tape f_o_taped a_c a_sp a_rd a_now a_tri a_pasts f_o_undoable a_trayss a_ics a_ips a_w a_m a_g a_rw a_sl a_sh, zo_X4 a_now f_now_stand f_now_wind f_now_deeds, zo_X2 a_w a_c a_w_told a_w_facts a_w_stack f_w_wind, (a_w_told, .inl (dA 0, 315, .inl b_w_told)), zo_X1 a_g a_m a_g_order a_g_depth a_g_from f_g_size f_g_known] sz)) (va_Qv (fun _ : Unit => True) (fun _ t => zz_B dC dI dA (va_A [zo_X10 a_o a_tape f_o_taped a_c a_sp a_rd a_now a_tri a_pasts f_o_undoable a_trayss a_ics a_ips a_w a_m a_g a_rw a_sl a_sh, zo_X4 a_now f_now_stand f_now_wind f_now_deeds, zo_X2 a_w a_c a_w_told a_w_facts a_w_stack f_w_wind, (a_w_told, .inl (dA 0, 315, .inl b_w_told)), zo_X1 a_g a_m a_g_order a_g_depth a_g_from f_g_size f_g_known] sz) [zo_X10 a_o a_tape f_o_taped a_c a_sp a_rd a_now a_tri a_pasts f_o_undoable a_trayss a_ics a_ips a_w a_m a_g a_rw a_sl a_sh, zo_X4 a_now f_now_stand f_now_wind f_now_deeds, zo_X2 a_w a_c a_w_told a_w_facts a_w_stack o1, (a_w_told, .inl (dA 0, 315, .inl o2)), zo_X1 a_g a_m a_g_order a_g_depth a_g_from f_g_size o3] t) (va_A [zo_X10 a_o a_tape f_o_taped a_c a_sp a_rd a_now a_tri a_pasts f_o_undoable a_trayss a_ics a_ips a_w a_m a_g a_rw a_sl a_sh, zo_X4 a_now f_now_stand f_now_wind f_now_deeds, zo_X2 a_w a_c a_w_told a_w_facts a_w_stack f_w_wind, (a_w_told, .inl (dA 0, 315, .inl b_w_told)), zo_X1 a_g a_m a_g_order a_g_depth a_g_from f_g_size f_g_known] sz)) 0 0 (va_A [zo_X10 a_o a_tape f_o_taped a_c a_sp a_rd a_now a_tri a_pasts f_o_undoable a_trayss a_ics a_ips a_w a_m a_g a_rw a_sl a_sh, zo_X4 a_now f_now_stand f_now_wind f_now_deeds, zo_X2 a_w a_c a_w_told a_w_facts a_w_stack f_w_wind, (a_w_told, .inl (dA 0, 315, .inl b_w_told)), zo_X1 a_g a_m a_g_order a_g_depth a_g_from f_g_size f_g_known] sz) := by
  unfold zf_X10_settle at hf
  refine Met.ofW (cc := cX10_settle) (maxL := 1) (ret := none) (by decide) rfl ?_
  intro p e s m args below meth c s₁ B hml hv
  obtain ⟨rfl, ⟨hsz, hP, hK, hD0⟩, hZ⟩ := hv
  have hx := B.exec
  have hb := B.bytes
  have hr := B.returns
  have ht : ∀ w ∈ zq_T, w.before ([.ref a_o] : List Value).toArray s = true := fun w hw => atoms_spec (ws := .code yX10_settle cX10_settle 1 none :: zq_T) B.pre w (List.mem_cons_of_mem _ hw)
  have hown : s.vm.findClass RX10 = some m.cls := findClass_of_methodNamed B.named
  have hlocks := B.notSynchronized
  subst hsz
  have hD := hD0.self (sz := s.heap.size)
  generalize hAe : va_A [zo_X10 a_o a_tape f_o_taped a_c a_sp a_rd a_now a_tri a_pasts f_o_undoable a_trayss a_ics a_ips a_w a_m a_g a_rw a_sl a_sh, zo_X4 a_now f_now_stand f_now_wind f_now_deeds, zo_X2 a_w a_c a_w_told a_w_facts a_w_stack f_w_wind, (a_w_told, .inl (dA 0, 315, .inl b_w_told)), zo_X1 a_g a_m a_g_order a_g_depth a_g_from f_g_size f_g_known] s.heap.size = A at hD hZ ⊢
  have hA : ∀ q : Nat, s.heap.size ≤ q → A q := fun q h => by rw [← hAe]; exact Or.inr h
  clear hAe hD0
  have hS : va_S A s.heap s.heap [] := va_S.rf
  have hl := lv_entry ([.ref a_o]) (n := 1) (Nat.le_of_ble_eq_true rfl)
  rw [lg_entry_eq]
  generalize (lg_sl ([.ref a_o]) ++ List.replicate (1 - (lg_sl ([.ref a_o])).length) Slot.unset).toArray = ls at hl ⊢
  have hl : lv_has ls 1 [(0, .ref a_o)] := hl
  refine lv_aload_n (pc := 0) hx hb dX10_settle_0 rfl (lv_at hl 0 rfl) ?_
  refine va_get (pc := 1) (D := (dC, dI)) (ci := 11) (v := .ref a_w) (C := RX10) (T := TX10) (N := 18) hx hb ht zq_layX10 hown hK hP 0 rfl rfl 12 (by decide) (ht _ zq_615) (fun _ h9 => h9) rfl dX10_settle_1 ?_
  refine lv_aload_n (pc := 4) hx hb dX10_settle_4 rfl (lv_at hl 0 rfl) ?_
  refine va_get (pc := 5) (D := (dC, dI)) (ci := 11) (v := .ref a_now) (C := RX10) (T := TX10) (N := 18) hx hb ht zq_layX10 hown hK hP 0 rfl rfl 5 (by decide) (ht _ zq_605) (fun _ h9 => h9) rfl dX10_settle_5 ?_
  refine va_get (pc := 8) (D := (dC, dI)) (ci := 5) (v := .int f_now_wind) (C := RX4) (T := TX4) (N := 3) hx hb ht zq_layX4 hown hK hP 1 rfl rfl 1 (by decide) (ht _ zq_660) (fun _ h9 => h9) rfl dX10_settle_8 ?_
  obtain ⟨v1, a2, hv1, hf⟩ := zc_2 hf
  refine zx_Vv (pc := 11) (wc := [zo_X2 a_w a_c a_w_told a_w_facts a_w_stack f_w_wind, (a_w_told, .inl (dA 0, 315, .inl b_w_told))]) (wr := [zo_X10 a_o a_tape f_o_taped a_c a_sp a_rd a_now a_tri a_pasts f_o_undoable a_trayss a_ics a_ips a_w a_m a_g a_rw a_sl a_sh, zo_X4 a_now f_now_stand f_now_wind f_now_deeds, zo_X1 a_g a_m a_g_order a_g_depth a_g_from f_g_size f_g_known]) (w1 := [zo_X2 a_w a_c a_w_told a_w_facts a_w_stack v1, (a_w_told, .inl (dA 0, 315, .inl a2))]) (As := [.int f_now_wind]) (rest := []) ⟨hx, hb, hml, hown, ht⟩ (zt_X2_useWind l dC dI dA adK adV _ a_w a_c a_w_told a_w_facts a_w_stack n f_w_wind b_w_told f_now_wind v1 a2 hv1) (cwV 1 ht (zq_V zq_661 zq_662 zq_663 zq_81 zq_167) rfl rfl rfl zk_X2_useWind ⟨Nat.le_of_ble_eq_true rfl, Nat.le_of_ble_eq_true rfl⟩) rfl rfl hZ hK hP hD hS hA [2, 3] [0, 1, 4] (by decide) (by decide) (by decide) rfl rfl rfl hl.1 (Nat.le_of_ble_eq_true rfl) dX10_settle_11 ⟨Nat.zero_le _, Nat.zero_le _⟩ rfl (fun H locs hP hD hS => ?_)
  have hP : va_P (dC, dI) zz_cls [zo_X10 a_o a_tape f_o_taped a_c a_sp a_rd a_now a_tri a_pasts f_o_undoable a_trayss a_ics a_ips a_w a_m a_g a_rw a_sl a_sh, zo_X4 a_now f_now_stand f_now_wind f_now_deeds, zo_X1 a_g a_m a_g_order a_g_depth a_g_from f_g_size f_g_known, zo_X2 a_w a_c a_w_told a_w_facts a_w_stack v1, (a_w_told, .inl (dA 0, 315, .inl a2))] H := hP
  have hD : va_D A [zo_X10 a_o a_tape f_o_taped a_c a_sp a_rd a_now a_tri a_pasts f_o_undoable a_trayss a_ics a_ips a_w a_m a_g a_rw a_sl a_sh, zo_X4 a_now f_now_stand f_now_wind f_now_deeds, zo_X1 a_g a_m a_g_order a_g_depth a_g_from f_g_size f_g_known, zo_X2 a_w a_c a_w_told a_w_facts a_w_stack v1, (a_w_told, .inl (dA 0, 315, .inl a2))] := hD
  refine lv_aload_n (pc := 14) hx hb dX10_settle_14 rfl (lv_at hl 0 rfl) ?_
  refine va_get (pc := 15) (D := (dC, dI)) (ci := 11) (v := .ref a_g) (C := RX10) (T := TX10) (N := 18) hx hb ht zq_layX10 hown hK hP 0 rfl rfl 14 (by decide) (ht _ zq_621) (fun _ h9 => h9) rfl dX10_settle_15 ?_
  obtain ⟨v3, hv3, hf⟩ := zc_1 hf
  refine zx_Vv (pc := 18) (wc := [zo_X1 a_g a_m a_g_order a_g_depth a_g_from f_g_size f_g_known]) (wr := [zo_X10 a_o a_tape f_o_taped a_c a_sp a_rd a_now a_tri a_pasts f_o_undoable a_trayss a_ics a_ips a_w a_m a_g a_rw a_sl a_sh, zo_X4 a_now f_now_stand f_now_wind f_now_deeds, zo_X2 a_w a_c a_w_told a_w_facts a_w_stack v1, (a_w_told, .inl (dA 0, 315, .inl a2))]) (w1 := [zo_X1 a_g a_m a_g_order a_g_depth a_g_from f_g_size v3]) (As := []) (rest := []) ⟨hx, hb, hml, hown, ht⟩ (zt_X1_forget l dC dI dA adK adV _ a_g a_m a_g_order a_g_depth a_g_from f_g_size f_g_known v3 hv3) (cwV 0 ht (zq_V zq_664 zq_665 zq_666 zq_142 zq_45) rfl rfl rfl zk_X1_forget ⟨Nat.le_of_ble_eq_true rfl, Nat.le_of_ble_eq_true rfl⟩) rfl rfl hZ hK hP hD hS hA [2] [0, 1, 3, 4] (by decide) (by decide) (by decide) rfl rfl rfl hl.1 (Nat.le_of_ble_eq_true rfl) dX10_settle_18 ⟨Nat.zero_le _, Nat.zero_le _⟩ rfl (fun H locs hP hD hS => ?_)
  have hP : va_P (dC, dI) zz_cls [zo_X10 a_o a_tape f_o_taped a_c a_sp a_rd a_now a_tri a_pasts f_o_undoable a_trayss a_ics a_ips a_w a_m a_g a_rw a_sl a_sh, zo_X4 a_now f_now_stand f_now_wind f_now_deeds, zo_X2 a_w a_c a_w_told a_w_facts a_w_stack v1, (a_w_told, .inl (dA 0, 315, .inl a2)), zo_X1 a_g a_m a_g_order a_g_depth a_g_from f_g_size v3] H := hP
  have hD : va_D A [zo_X10 a_o a_tape f_o_taped a_c a_sp a_rd a_now a_tri a_pasts f_o_undoable a_trayss a_ics a_ips a_w a_m a_g a_rw a_sl a_sh, zo_X4 a_now f_now_stand f_now_wind f_now_deeds, zo_X2 a_w a_c a_w_told a_w_facts a_w_stack v1, (a_w_told, .inl (dA 0, 315, .inl a2)), zo_X1 a_g a_m a_g_order a_g_depth a_g_from f_g_size v3] := hD
  obtain ⟨rfl, rfl, rfl⟩ := zi_3 hf
  exact W.vret (pc := 21) hx hb hr (fun t ht hW => ⟨⟨(), rfl, trivial, zz_Bi (by rw [ht]; exact hP) (va_K.moved hW.alike hK) (hD)⟩, hS.F ht⟩) hS.2.2 dX10_settle_21

def zf_X10_startAnew (n : Nat) (f_o_undoable : Int32) (f_now_wind : Int32) (f_w_wind : Int32) (b_w_told : (Nat → Int32)) (f_g_known : Int32) : Option (Int32 × Int32 × (Nat → Int32) × Int32) :=
  zd_1 (zf_X2_forget n b_w_told) (fun a1 =>
  zd_3 (zf_X10_settle n f_now_wind f_w_wind a1 f_g_known) (fun v2 a3 v4 =>
  some ((0 : Int32), v2, a3, v4)))
theorem zk_X10_startAnew : yX10_startAnew.cls = RX10 ∧ yX10_startAnew.cls ≠ "java/lang/invoke/MethodHandle" ∧ yX10_startAnew.cls ≠ "java/lang/invoke/VarHandle" ∧ (parseMethodDescriptor yX10_startAnew.desc).map (fun d => d.parameters.length) = some 0 := by decide +kernel
set_option maxHeartbeats 4000000 in
set_option maxRecDepth 100000 in
theorem zt_X10_startAnew (l : Launch) (dC : Nat → ClassId) (dI : Nat → Nat → Nat) (dA : Nat → ClassId) (adK adV : Nat → Nat) (sz : Nat) (a_o : Nat) (a_tape : Nat) (a_c : Nat) (a_sp : Nat) (a_rd : Nat) (a_now : Nat) (a_tri : Nat) (a_pasts : Nat) (a_trayss : Nat) (a_ics : Nat) (a_ips : Nat) (a_w : Nat) (a_m : Nat) (a_g : Nat) (a_rw : Nat) (a_sl : Nat) (a_sh : Nat) (a_w_told : Nat) (a_w_facts : Nat) (a_w_stack : Nat) (a_g_order : Nat) (a_g_depth : Nat) (a_g_from : Nat) (n : Nat) (f_o_taped : Int32) (f_o_undoable : Int32) (f_now_stand : Int32) (f_now_wind : Int32) (f_now_deeds : Int32) (f_w_wind : Int32) (f_g_size : Int32) (f_g_known : Int32) (b_w_told : (Nat → Int32)) (o1 : Int32) (o2 : Int32) (o3 : (Nat → Int32)) (o4 : Int32) (hf : zf_X10_startAnew n f_o_undoable f_now_wind f_w_wind b_w_told f_g_known = some (o1, o2, o3, o4)) : Met l yX10_startAnew (.code yX10_startAnew cX10_startAnew 1 none :: zq_T) ({ frames := 4, cells := 0, slots := 0, locals := 84 }) (va_Pc [.ref a_o] (zx_M dC dI dA adK adV [zo_X10 a_o a_tape f_o_taped a_c a_sp a_rd a_now a_tri a_pasts f_o_undoable a_trayss a_ics a_ips a_w a_m a_g a_rw a_sl a_sh, zo_X4 a_now f_now_stand f_now_wind f_now_deeds, zo_X2 a_w a_c a_w_told a_w_facts a_w_stack f_w_wind, (a_w_told, .inl (dA 0, 315, .inl b_w_told)), zo_X1 a_g a_m a_g_order a_g_depth a_g_from f_g_size f_g_known] sz)) (va_Qv (fun _ : Unit => True) (fun _ t => zz_B dC dI dA (va_A [zo_X10 a_o a_tape f_o_taped a_c a_sp a_rd a_now a_tri a_pasts f_o_undoable a_trayss a_ics a_ips a_w a_m a_g a_rw a_sl a_sh, zo_X4 a_now f_now_stand f_now_wind f_now_deeds, zo_X2 a_w a_c a_w_told a_w_facts a_w_stack f_w_wind, (a_w_told, .inl (dA 0, 315, .inl b_w_told)), zo_X1 a_g a_m a_g_order a_g_depth a_g_from f_g_size f_g_known] sz) [zo_X10 a_o a_tape f_o_taped a_c a_sp a_rd a_now a_tri a_pasts o1 a_trayss a_ics a_ips a_w a_m a_g a_rw a_sl a_sh, zo_X4 a_now f_now_stand f_now_wind f_now_deeds, zo_X2 a_w a_c a_w_told a_w_facts a_w_stack o2, (a_w_told, .inl (dA 0, 315, .inl o3)), zo_X1 a_g a_m a_g_order a_g_depth a_g_from f_g_size o4] t) (va_A [zo_X10 a_o a_tape f_o_taped a_c a_sp a_rd a_now a_tri a_pasts f_o_undoable a_trayss a_ics a_ips a_w a_m a_g a_rw a_sl a_sh, zo_X4 a_now f_now_stand f_now_wind f_now_deeds, zo_X2 a_w a_c a_w_told a_w_facts a_w_stack f_w_wind, (a_w_told, .inl (dA 0, 315, .inl b_w_told)), zo_X1 a_g a_m a_g_order a_g_depth a_g_from f_g_size f_g_known] sz)) 0 0 (va_A [zo_X10 a_o a_tape f_o_taped a_c a_sp a_rd a_now a_tri a_pasts f_o_undoable a_trayss a_ics a_ips a_w a_m a_g a_rw a_sl a_sh, zo_X4 a_now f_now_stand f_now_wind f_now_deeds, zo_X2 a_w a_c a_w_told a_w_facts a_w_stack f_w_wind, (a_w_told, .inl (dA 0, 315, .inl b_w_told)), zo_X1 a_g a_m a_g_order a_g_depth a_g_from f_g_size f_g_known] sz) := by
  unfold zf_X10_startAnew at hf
  refine Met.ofW (cc := cX10_startAnew) (maxL := 1) (ret := none) (by decide) rfl ?_
  intro p e s m args below meth c s₁ B hml hv
  obtain ⟨rfl, ⟨hsz, hP, hK, hD0⟩, hZ⟩ := hv
  have hx := B.exec
  have hb := B.bytes
  have hr := B.returns
  have ht : ∀ w ∈ zq_T, w.before ([.ref a_o] : List Value).toArray s = true := fun w hw => atoms_spec (ws := .code yX10_startAnew cX10_startAnew 1 none :: zq_T) B.pre w (List.mem_cons_of_mem _ hw)
  have hown : s.vm.findClass RX10 = some m.cls := findClass_of_methodNamed B.named
  have hlocks := B.notSynchronized
  subst hsz
  have hD := hD0.self (sz := s.heap.size)
  generalize hAe : va_A [zo_X10 a_o a_tape f_o_taped a_c a_sp a_rd a_now a_tri a_pasts f_o_undoable a_trayss a_ics a_ips a_w a_m a_g a_rw a_sl a_sh, zo_X4 a_now f_now_stand f_now_wind f_now_deeds, zo_X2 a_w a_c a_w_told a_w_facts a_w_stack f_w_wind, (a_w_told, .inl (dA 0, 315, .inl b_w_told)), zo_X1 a_g a_m a_g_order a_g_depth a_g_from f_g_size f_g_known] s.heap.size = A at hD hZ ⊢
  have hA : ∀ q : Nat, s.heap.size ≤ q → A q := fun q h => by rw [← hAe]; exact Or.inr h
  clear hAe hD0
  have hS : va_S A s.heap s.heap [] := va_S.rf
  have hl := lv_entry ([.ref a_o]) (n := 1) (Nat.le_of_ble_eq_true rfl)
  rw [lg_entry_eq]
  generalize (lg_sl ([.ref a_o]) ++ List.replicate (1 - (lg_sl ([.ref a_o])).length) Slot.unset).toArray = ls at hl ⊢
  have hl : lv_has ls 1 [(0, .ref a_o)] := hl
  refine lv_aload_n (pc := 0) hx hb dX10_startAnew_0 rfl (lv_at hl 0 rfl) ?_
  refine lv_iconst (v := (0 : Int32)) (pc := 1) hx hb dX10_startAnew_1 (by decide) ?_
  refine va_put (pc := 2) (D := (dC, dI)) (ci := 11) (v := .int (0 : Int32)) (ty := .int) (C := RX10) (T := TX10) (N := 18) hx hb ht zq_layX10 tyX10 tyX10_ok nmX10 hown hK hP hD hS 0 rfl rfl 8 (by decide) (ht _ zq_608) (fun _ h9 => h9) rfl (by decide +kernel) rfl rfl (Nat.le_of_ble_eq_true rfl) dX10_startAnew_2 (fun H locs hP hD hS => ?_)
  have hP : va_P (dC, dI) zz_cls [zo_X10 a_o a_tape f_o_taped a_c a_sp a_rd a_now a_tri a_pasts (0 : Int32) a_trayss a_ics a_ips a_w a_m a_g a_rw a_sl a_sh, zo_X4 a_now f_now_stand f_now_wind f_now_deeds, zo_X2 a_w a_c a_w_told a_w_facts a_w_stack f_w_wind, (a_w_told, .inl (dA 0, 315, .inl b_w_told)), zo_X1 a_g a_m a_g_order a_g_depth a_g_from f_g_size f_g_known] H := hP
  have hD : va_D A [zo_X10 a_o a_tape f_o_taped a_c a_sp a_rd a_now a_tri a_pasts (0 : Int32) a_trayss a_ics a_ips a_w a_m a_g a_rw a_sl a_sh, zo_X4 a_now f_now_stand f_now_wind f_now_deeds, zo_X2 a_w a_c a_w_told a_w_facts a_w_stack f_w_wind, (a_w_told, .inl (dA 0, 315, .inl b_w_told)), zo_X1 a_g a_m a_g_order a_g_depth a_g_from f_g_size f_g_known] := hD
  refine lv_aload_n (pc := 5) hx hb dX10_startAnew_5 rfl (lv_at hl 0 rfl) ?_
  refine va_get (pc := 6) (D := (dC, dI)) (ci := 11) (v := .ref a_w) (C := RX10) (T := TX10) (N := 18) hx hb ht zq_layX10 hown hK hP 0 rfl rfl 12 (by decide) (ht _ zq_615) (fun _ h9 => h9) rfl dX10_startAnew_6 ?_
  obtain ⟨a1, ha1, hf⟩ := zc_1 hf
  refine zx_Vv (pc := 9) (wc := [zo_X2 a_w a_c a_w_told a_w_facts a_w_stack f_w_wind, (a_w_told, .inl (dA 0, 315, .inl b_w_told))]) (wr := [zo_X10 a_o a_tape f_o_taped a_c a_sp a_rd a_now a_tri a_pasts (0 : Int32) a_trayss a_ics a_ips a_w a_m a_g a_rw a_sl a_sh, zo_X4 a_now f_now_stand f_now_wind f_now_deeds, zo_X1 a_g a_m a_g_order a_g_depth a_g_from f_g_size f_g_known]) (w1 := [zo_X2 a_w a_c a_w_told a_w_facts a_w_stack f_w_wind, (a_w_told, .inl (dA 0, 315, .inl a1))]) (As := []) (rest := []) ⟨hx, hb, hml, hown, ht⟩ (zt_X2_forget l dC dI dA adK adV _ a_w a_c a_w_told a_w_facts a_w_stack n f_w_wind b_w_told a1 ha1) (cwV 0 ht (zq_V zq_668 zq_165 zq_166 zq_81 zq_160) rfl rfl rfl zk_X2_forget ⟨Nat.le_of_ble_eq_true rfl, Nat.le_of_ble_eq_true rfl⟩) rfl rfl hZ hK hP hD hS hA [2, 3] [0, 1, 4] (by decide) (by decide) (by decide) rfl rfl rfl hl.1 (Nat.le_of_ble_eq_true rfl) dX10_startAnew_9 ⟨Nat.zero_le _, Nat.zero_le _⟩ rfl (fun H locs hP hD hS => ?_)
  have hP : va_P (dC, dI) zz_cls [zo_X10 a_o a_tape f_o_taped a_c a_sp a_rd a_now a_tri a_pasts (0 : Int32) a_trayss a_ics a_ips a_w a_m a_g a_rw a_sl a_sh, zo_X4 a_now f_now_stand f_now_wind f_now_deeds, zo_X1 a_g a_m a_g_order a_g_depth a_g_from f_g_size f_g_known, zo_X2 a_w a_c a_w_told a_w_facts a_w_stack f_w_wind, (a_w_told, .inl (dA 0, 315, .inl a1))] H := hP
  have hD : va_D A [zo_X10 a_o a_tape f_o_taped a_c a_sp a_rd a_now a_tri a_pasts (0 : Int32) a_trayss a_ics a_ips a_w a_m a_g a_rw a_sl a_sh, zo_X4 a_now f_now_stand f_now_wind f_now_deeds, zo_X1 a_g a_m a_g_order a_g_depth a_g_from f_g_size f_g_known, zo_X2 a_w a_c a_w_told a_w_facts a_w_stack f_w_wind, (a_w_told, .inl (dA 0, 315, .inl a1))] := hD
  refine lv_aload_n (pc := 12) hx hb dX10_startAnew_12 rfl (lv_at hl 0 rfl) ?_
  obtain ⟨v2, a3, v4, hv2, hf⟩ := zc_3 hf
  refine zx_Vv (pc := 13) (wc := [zo_X10 a_o a_tape f_o_taped a_c a_sp a_rd a_now a_tri a_pasts (0 : Int32) a_trayss a_ics a_ips a_w a_m a_g a_rw a_sl a_sh, zo_X4 a_now f_now_stand f_now_wind f_now_deeds, zo_X2 a_w a_c a_w_told a_w_facts a_w_stack f_w_wind, (a_w_told, .inl (dA 0, 315, .inl a1)), zo_X1 a_g a_m a_g_order a_g_depth a_g_from f_g_size f_g_known]) (wr := []) (w1 := [zo_X10 a_o a_tape f_o_taped a_c a_sp a_rd a_now a_tri a_pasts (0 : Int32) a_trayss a_ics a_ips a_w a_m a_g a_rw a_sl a_sh, zo_X4 a_now f_now_stand f_now_wind f_now_deeds, zo_X2 a_w a_c a_w_told a_w_facts a_w_stack v2, (a_w_told, .inl (dA 0, 315, .inl a3)), zo_X1 a_g a_m a_g_order a_g_depth a_g_from f_g_size v4]) (As := []) (rest := []) ⟨hx, hb, hml, hown, ht⟩ (zt_X10_settle l dC dI dA adK adV _ a_o a_tape a_c a_sp a_rd a_now a_tri a_pasts a_trayss a_ics a_ips a_w a_m a_g a_rw a_sl a_sh a_w_told a_w_facts a_w_stack a_g_order a_g_depth a_g_from n f_o_taped (0 : Int32) f_now_stand f_now_wind f_now_deeds f_w_wind f_g_size f_g_known a1 v2 a3 v4 hv2) (cwV 0 ht (zq_V zq_669 zq_670 zq_671 zq_58 zq_667) rfl rfl rfl zk_X10_settle ⟨Nat.le_of_ble_eq_true rfl, Nat.le_of_ble_eq_true rfl⟩) rfl rfl hZ hK hP hD hS hA [0, 1, 3, 4, 2] [] (by decide) (by decide) (by decide) rfl rfl rfl hl.1 (Nat.le_of_ble_eq_true rfl) dX10_startAnew_13 ⟨Nat.zero_le _, Nat.zero_le _⟩ rfl (fun H locs hP hD hS => ?_)
  have hP : va_P (dC, dI) zz_cls [zo_X10 a_o a_tape f_o_taped a_c a_sp a_rd a_now a_tri a_pasts (0 : Int32) a_trayss a_ics a_ips a_w a_m a_g a_rw a_sl a_sh, zo_X4 a_now f_now_stand f_now_wind f_now_deeds, zo_X2 a_w a_c a_w_told a_w_facts a_w_stack v2, (a_w_told, .inl (dA 0, 315, .inl a3)), zo_X1 a_g a_m a_g_order a_g_depth a_g_from f_g_size v4] H := hP
  have hD : va_D A [zo_X10 a_o a_tape f_o_taped a_c a_sp a_rd a_now a_tri a_pasts (0 : Int32) a_trayss a_ics a_ips a_w a_m a_g a_rw a_sl a_sh, zo_X4 a_now f_now_stand f_now_wind f_now_deeds, zo_X2 a_w a_c a_w_told a_w_facts a_w_stack v2, (a_w_told, .inl (dA 0, 315, .inl a3)), zo_X1 a_g a_m a_g_order a_g_depth a_g_from f_g_size v4] := hD
  obtain ⟨rfl, rfl, rfl, rfl⟩ := zi_4 hf
  exact W.vret (pc := 16) hx hb hr (fun t ht hW => ⟨⟨(), rfl, trivial, zz_Bi (by rw [ht]; exact hP) (va_K.moved hW.alike hK) (hD)⟩, hS.F ht⟩) hS.2.2 dX10_startAnew_16

def zf_X10_fault (f_rd_fault : Int32) (f_rd_place : Int32) (p1 : Int32) : Option (Int32) :=
  if p1 = 0 then
    some f_rd_fault
  else
    if p1 = (1 : Int32) then
      some f_rd_place
    else
      some (-1 : Int32)
theorem zk_X10_fault : yX10_fault.cls = RX10 ∧ yX10_fault.cls ≠ "java/lang/invoke/MethodHandle" ∧ yX10_fault.cls ≠ "java/lang/invoke/VarHandle" ∧ (parseMethodDescriptor yX10_fault.desc).map (fun d => d.parameters.length) = some 1 := by decide +kernel
set_option maxHeartbeats 4000000 in
set_option maxRecDepth 100000 in
theorem zt_X10_fault (l : Launch) (dC : Nat → ClassId) (dI : Nat → Nat → Nat) (dA : Nat → ClassId) (adK adV : Nat → Nat) (sz : Nat) (a_o : Nat) (a_tape : Nat) (a_c : Nat) (a_sp : Nat) (a_rd : Nat) (a_now : Nat) (a_tri : Nat) (a_pasts : Nat) (a_trayss : Nat) (a_ics : Nat) (a_ips : Nat) (a_w : Nat) (a_m : Nat) (a_g : Nat) (a_rw : Nat) (a_sl : Nat) (a_sh : Nat) (f_o_taped : Int32) (f_o_undoable : Int32) (f_rd_length : Int32) (f_rd_start : Int32) (f_rd_end : Int32) (f_rd_kind : Int32) (f_rd_value : Int32) (f_rd_inMay : Int32) (f_rd_fault : Int32) (f_rd_place : Int32) (w_rd_cliff : Value) (p1 : Int32) (r0 : Int32) (hf : zf_X10_fault f_rd_fault f_rd_place p1 = some r0) : Met l yX10_fault (.code yX10_fault cX10_fault 2 (some .int) :: zq_T) ({ frames := 0, cells := 0, slots := 0, locals := 0 }) (va_Pc [.ref a_o, .int p1] (zx_M dC dI dA adK adV [zo_X10 a_o a_tape f_o_taped a_c a_sp a_rd a_now a_tri a_pasts f_o_undoable a_trayss a_ics a_ips a_w a_m a_g a_rw a_sl a_sh, zo_X5 a_rd a_tape f_rd_length f_rd_start f_rd_end f_rd_kind f_rd_value w_rd_cliff f_rd_inMay f_rd_fault f_rd_place] sz)) (va_Qi (fun (r : Int32) (_ : Unit) => r = r0) (fun _ t => zz_B dC dI dA (va_A [zo_X10 a_o a_tape f_o_taped a_c a_sp a_rd a_now a_tri a_pasts f_o_undoable a_trayss a_ics a_ips a_w a_m a_g a_rw a_sl a_sh, zo_X5 a_rd a_tape f_rd_length f_rd_start f_rd_end f_rd_kind f_rd_value w_rd_cliff f_rd_inMay f_rd_fault f_rd_place] sz) [zo_X10 a_o a_tape f_o_taped a_c a_sp a_rd a_now a_tri a_pasts f_o_undoable a_trayss a_ics a_ips a_w a_m a_g a_rw a_sl a_sh, zo_X5 a_rd a_tape f_rd_length f_rd_start f_rd_end f_rd_kind f_rd_value w_rd_cliff f_rd_inMay f_rd_fault f_rd_place] t) (va_A [zo_X10 a_o a_tape f_o_taped a_c a_sp a_rd a_now a_tri a_pasts f_o_undoable a_trayss a_ics a_ips a_w a_m a_g a_rw a_sl a_sh, zo_X5 a_rd a_tape f_rd_length f_rd_start f_rd_end f_rd_kind f_rd_value w_rd_cliff f_rd_inMay f_rd_fault f_rd_place] sz)) 0 0 (va_A [zo_X10 a_o a_tape f_o_taped a_c a_sp a_rd a_now a_tri a_pasts f_o_undoable a_trayss a_ics a_ips a_w a_m a_g a_rw a_sl a_sh, zo_X5 a_rd a_tape f_rd_length f_rd_start f_rd_end f_rd_kind f_rd_value w_rd_cliff f_rd_inMay f_rd_fault f_rd_place] sz) := by
  unfold zf_X10_fault at hf
  refine Met.ofW (cc := cX10_fault) (maxL := 2) (ret := (some .int)) (by decide) rfl ?_
  intro p e s m args below meth c s₁ B hml hv
  obtain ⟨rfl, ⟨hsz, hP, hK, hD0⟩, hZ⟩ := hv
  have hx := B.exec
  have hb := B.bytes
  have hr := B.returns
  have ht : ∀ w ∈ zq_T, w.before ([.ref a_o, .int p1] : List Value).toArray s = true := fun w hw => atoms_spec (ws := .code yX10_fault cX10_fault 2 (some .int) :: zq_T) B.pre w (List.mem_cons_of_mem _ hw)
  have hown : s.vm.findClass RX10 = some m.cls := findClass_of_methodNamed B.named
  have hlocks := B.notSynchronized
  subst hsz
  have hD := hD0.self (sz := s.heap.size)
  generalize hAe : va_A [zo_X10 a_o a_tape f_o_taped a_c a_sp a_rd a_now a_tri a_pasts f_o_undoable a_trayss a_ics a_ips a_w a_m a_g a_rw a_sl a_sh, zo_X5 a_rd a_tape f_rd_length f_rd_start f_rd_end f_rd_kind f_rd_value w_rd_cliff f_rd_inMay f_rd_fault f_rd_place] s.heap.size = A at hD hZ ⊢
  have hA : ∀ q : Nat, s.heap.size ≤ q → A q := fun q h => by rw [← hAe]; exact Or.inr h
  clear hAe hD0
  have hS : va_S A s.heap s.heap [] := va_S.rf
  have hl := lv_entry ([.ref a_o, .int p1]) (n := 2) (Nat.le_of_ble_eq_true rfl)
  rw [lg_entry_eq]
  generalize (lg_sl ([.ref a_o, .int p1]) ++ List.replicate (2 - (lg_sl ([.ref a_o, .int p1])).length) Slot.unset).toArray = ls at hl ⊢
  have hl : lv_has ls 2 [(0, .ref a_o), (1, .int p1)] := hl
  refine lv_iload_n (pc := 0) hx hb dX10_fault_0 rfl (lv_at hl 1 rfl) ?_
  refine lv_if_ne (tgt := 12) (pc := 1) hx hb dX10_fault_1 rfl (fun hc => ?_) (fun hc => ?_)
  · have hf := za_f hf hc
    refine lv_iload_n (pc := 12) hx hb dX10_fault_12 rfl (lv_at hl 1 rfl) ?_
    refine lv_iconst (v := (1 : Int32)) (pc := 13) hx hb dX10_fault_13 (by decide) ?_
    refine lv_icmp_ne (tgt := 27) (pc := 14) hx hb dX10_fault_14 rfl (fun hc => ?_) (fun hc => ?_)
    · have hf := za_f hf hc
      refine lv_iconst (v := (-1 : Int32)) (pc := 27) hx hb dX10_fault_27 (by decide) ?_
      obtain rfl := Option.some.inj hf
      exact W.iret (pc := 28) hx hb hr (fun t ht hW => ⟨⟨_, (), rfl, rfl, zz_Bi (by rw [ht]; exact hP) (va_K.moved hW.alike hK) (hD)⟩, hS.F ht⟩) hS.2.2 dX10_fault_28
    · have hf := za_t hf hc
      refine lv_aload_n (pc := 17) hx hb dX10_fault_17 rfl (lv_at hl 0 rfl) ?_
      refine va_get (pc := 18) (D := (dC, dI)) (ci := 11) (v := .ref a_rd) (C := RX10) (T := TX10) (N := 18) hx hb ht zq_layX10 hown hK hP 0 rfl rfl 4 (by decide) (ht _ zq_601) (fun _ h9 => h9) rfl dX10_fault_18 ?_
      refine va_get (pc := 21) (D := (dC, dI)) (ci := 6) (v := .int f_rd_place) (C := RX5) (T := TX5) (N := 10) hx hb ht zq_layX5 hown hK hP 1 rfl rfl 9 (by decide) (ht _ zq_686) (fun _ h9 => h9) rfl dX10_fault_21 ?_
      refine lv_goto (tgt := 28) (pc := 24) hx hb dX10_fault_24 rfl ?_
      obtain rfl := Option.some.inj hf
      exact W.iret (pc := 28) hx hb hr (fun t ht hW => ⟨⟨_, (), rfl, rfl, zz_Bi (by rw [ht]; exact hP) (va_K.moved hW.alike hK) (hD)⟩, hS.F ht⟩) hS.2.2 dX10_fault_28
  · have hf := za_t hf hc
    refine lv_aload_n (pc := 4) hx hb dX10_fault_4 rfl (lv_at hl 0 rfl) ?_
    refine va_get (pc := 5) (D := (dC, dI)) (ci := 11) (v := .ref a_rd) (C := RX10) (T := TX10) (N := 18) hx hb ht zq_layX10 hown hK hP 0 rfl rfl 4 (by decide) (ht _ zq_601) (fun _ h9 => h9) rfl dX10_fault_5 ?_
    refine va_get (pc := 8) (D := (dC, dI)) (ci := 6) (v := .int f_rd_fault) (C := RX5) (T := TX5) (N := 10) hx hb ht zq_layX5 hown hK hP 1 rfl rfl 8 (by decide) (ht _ zq_673) (fun _ h9 => h9) rfl dX10_fault_8 ?_
    obtain rfl := Option.some.inj hf
    exact W.iret (pc := 11) hx hb hr (fun t ht hW => ⟨⟨_, (), rfl, rfl, zz_Bi (by rw [ht]; exact hP) (va_K.moved hW.alike hK) (hD)⟩, hS.F ht⟩) hS.2.2 dX10_fault_11

def zf_X10_hole (f_c_top : Int32) (b_c_bars : (Nat → Int32)) (b_c_gives : (Nat → Int32)) (b_c_rough : (Nat → Int32)) (p1 : Int32) (p2 : Int32) : Option (Int32) :=
  zd_1 (zf_X0_isRung f_c_top p1) (fun v1 =>
  if v1 = 0 then
    some (-2 : Int32)
  else
    if p2 = (0 : Int32) then
      zd_1 (za_ld b_c_bars 9 p1) (fun v2 =>
      some v2)
    else if p2 = (1 : Int32) then
      zd_1 (za_ld b_c_gives 9 p1) (fun v3 =>
      some v3)
    else if p2 = (2 : Int32) then
      zd_1 (za_ld b_c_rough 9 p1) (fun v4 =>
      some v4)
    else
      some (-2 : Int32))
theorem zk_X10_hole : yX10_hole.cls = RX10 ∧ yX10_hole.cls ≠ "java/lang/invoke/MethodHandle" ∧ yX10_hole.cls ≠ "java/lang/invoke/VarHandle" ∧ (parseMethodDescriptor yX10_hole.desc).map (fun d => d.parameters.length) = some 2 := by decide +kernel
set_option maxHeartbeats 4000000 in
set_option maxRecDepth 100000 in
theorem zt_X10_hole (l : Launch) (dC : Nat → ClassId) (dI : Nat → Nat → Nat) (dA : Nat → ClassId) (adK adV : Nat → Nat) (sz : Nat) (a_o : Nat) (a_tape : Nat) (a_c : Nat) (a_sp : Nat) (a_rd : Nat) (a_now : Nat) (a_tri : Nat) (a_pasts : Nat) (a_trayss : Nat) (a_ics : Nat) (a_ips : Nat) (a_w : Nat) (a_m : Nat) (a_g : Nat) (a_rw : Nat) (a_sl : Nat) (a_sh : Nat) (a_c_bars : Nat) (a_c_gives : Nat) (a_c_rough : Nat) (a_c_code : Nat) (f_o_taped : Int32) (f_o_undoable : Int32) (f_c_top : Int32) (f_c_things : Int32) (f_c_startRung : Int32) (f_c_startThings : Int32) (f_c_startStrength : Int32) (f_c_startWind : Int32) (f_c_slips : Int32) (f_c_lines : Int32) (f_c_coded : Int32) (f_c_tiresFrom : Int32) (f_c_tiresTo : Int32) (f_c_mayFrom : Int32) (f_c_mayTo : Int32) (b_c_bars : (Nat → Int32)) (b_c_gives : (Nat → Int32)) (b_c_rough : (Nat → Int32)) (p1 : Int32) (p2 : Int32) (r0 : Int32) (hf : zf_X10_hole f_c_top b_c_bars b_c_gives b_c_rough p1 p2 = some r0) : Met l yX10_hole (.code yX10_hole cX10_hole 3 (some .int) :: zq_T) ({ frames := 1, cells := 0, slots := 0, locals := 21 }) (va_Pc [.ref a_o, .int p1, .int p2] (zx_M dC dI dA adK adV [zo_X10 a_o a_tape f_o_taped a_c a_sp a_rd a_now a_tri a_pasts f_o_undoable a_trayss a_ics a_ips a_w a_m a_g a_rw a_sl a_sh, zo_X0 a_c f_c_top f_c_things a_c_bars a_c_gives a_c_rough f_c_startRung f_c_startThings f_c_startStrength f_c_startWind f_c_slips f_c_lines a_c_code f_c_coded f_c_tiresFrom f_c_tiresTo f_c_mayFrom f_c_mayTo, (a_c_bars, .inl (dA 0, 9, .inl b_c_bars)), (a_c_gives, .inl (dA 0, 9, .inl b_c_gives)), (a_c_rough, .inl (dA 0, 9, .inl b_c_rough))] sz)) (va_Qi (fun (r : Int32) (_ : Unit) => r = r0) (fun _ t => zz_B dC dI dA (va_A [zo_X10 a_o a_tape f_o_taped a_c a_sp a_rd a_now a_tri a_pasts f_o_undoable a_trayss a_ics a_ips a_w a_m a_g a_rw a_sl a_sh, zo_X0 a_c f_c_top f_c_things a_c_bars a_c_gives a_c_rough f_c_startRung f_c_startThings f_c_startStrength f_c_startWind f_c_slips f_c_lines a_c_code f_c_coded f_c_tiresFrom f_c_tiresTo f_c_mayFrom f_c_mayTo, (a_c_bars, .inl (dA 0, 9, .inl b_c_bars)), (a_c_gives, .inl (dA 0, 9, .inl b_c_gives)), (a_c_rough, .inl (dA 0, 9, .inl b_c_rough))] sz) [zo_X10 a_o a_tape f_o_taped a_c a_sp a_rd a_now a_tri a_pasts f_o_undoable a_trayss a_ics a_ips a_w a_m a_g a_rw a_sl a_sh, zo_X0 a_c f_c_top f_c_things a_c_bars a_c_gives a_c_rough f_c_startRung f_c_startThings f_c_startStrength f_c_startWind f_c_slips f_c_lines a_c_code f_c_coded f_c_tiresFrom f_c_tiresTo f_c_mayFrom f_c_mayTo, (a_c_bars, .inl (dA 0, 9, .inl b_c_bars)), (a_c_gives, .inl (dA 0, 9, .inl b_c_gives)), (a_c_rough, .inl (dA 0, 9, .inl b_c_rough))] t) (va_A [zo_X10 a_o a_tape f_o_taped a_c a_sp a_rd a_now a_tri a_pasts f_o_undoable a_trayss a_ics a_ips a_w a_m a_g a_rw a_sl a_sh, zo_X0 a_c f_c_top f_c_things a_c_bars a_c_gives a_c_rough f_c_startRung f_c_startThings f_c_startStrength f_c_startWind f_c_slips f_c_lines a_c_code f_c_coded f_c_tiresFrom f_c_tiresTo f_c_mayFrom f_c_mayTo, (a_c_bars, .inl (dA 0, 9, .inl b_c_bars)), (a_c_gives, .inl (dA 0, 9, .inl b_c_gives)), (a_c_rough, .inl (dA 0, 9, .inl b_c_rough))] sz)) 0 0 (va_A [zo_X10 a_o a_tape f_o_taped a_c a_sp a_rd a_now a_tri a_pasts f_o_undoable a_trayss a_ics a_ips a_w a_m a_g a_rw a_sl a_sh, zo_X0 a_c f_c_top f_c_things a_c_bars a_c_gives a_c_rough f_c_startRung f_c_startThings f_c_startStrength f_c_startWind f_c_slips f_c_lines a_c_code f_c_coded f_c_tiresFrom f_c_tiresTo f_c_mayFrom f_c_mayTo, (a_c_bars, .inl (dA 0, 9, .inl b_c_bars)), (a_c_gives, .inl (dA 0, 9, .inl b_c_gives)), (a_c_rough, .inl (dA 0, 9, .inl b_c_rough))] sz) := by
  unfold zf_X10_hole at hf
  refine Met.ofW (cc := cX10_hole) (maxL := 3) (ret := (some .int)) (by decide) rfl ?_
  intro p e s m args below meth c s₁ B hml hv
  obtain ⟨rfl, ⟨hsz, hP, hK, hD0⟩, hZ⟩ := hv
  have hx := B.exec
  have hb := B.bytes
  have hr := B.returns
  have ht : ∀ w ∈ zq_T, w.before ([.ref a_o, .int p1, .int p2] : List Value).toArray s = true := fun w hw => atoms_spec (ws := .code yX10_hole cX10_hole 3 (some .int) :: zq_T) B.pre w (List.mem_cons_of_mem _ hw)
  have hown : s.vm.findClass RX10 = some m.cls := findClass_of_methodNamed B.named
  have hlocks := B.notSynchronized
  subst hsz
  have hD := hD0.self (sz := s.heap.size)
  generalize hAe : va_A [zo_X10 a_o a_tape f_o_taped a_c a_sp a_rd a_now a_tri a_pasts f_o_undoable a_trayss a_ics a_ips a_w a_m a_g a_rw a_sl a_sh, zo_X0 a_c f_c_top f_c_things a_c_bars a_c_gives a_c_rough f_c_startRung f_c_startThings f_c_startStrength f_c_startWind f_c_slips f_c_lines a_c_code f_c_coded f_c_tiresFrom f_c_tiresTo f_c_mayFrom f_c_mayTo, (a_c_bars, .inl (dA 0, 9, .inl b_c_bars)), (a_c_gives, .inl (dA 0, 9, .inl b_c_gives)), (a_c_rough, .inl (dA 0, 9, .inl b_c_rough))] s.heap.size = A at hD hZ ⊢
  have hA : ∀ q : Nat, s.heap.size ≤ q → A q := fun q h => by rw [← hAe]; exact Or.inr h
  clear hAe hD0
  have hS : va_S A s.heap s.heap [] := va_S.rf
  have hl := lv_entry ([.ref a_o, .int p1, .int p2]) (n := 3) (Nat.le_of_ble_eq_true rfl)
  rw [lg_entry_eq]
  generalize (lg_sl ([.ref a_o, .int p1, .int p2]) ++ List.replicate (3 - (lg_sl ([.ref a_o, .int p1, .int p2])).length) Slot.unset).toArray = ls at hl ⊢
  have hl : lv_has ls 3 [(0, .ref a_o), (1, .int p1), (2, .int p2)] := hl
  refine lv_aload_n (pc := 0) hx hb dX10_hole_0 rfl (lv_at hl 0 rfl) ?_
  refine va_get (pc := 1) (D := (dC, dI)) (ci := 11) (v := .ref a_c) (C := RX10) (T := TX10) (N := 18) hx hb ht zq_layX10 hown hK hP 0 rfl rfl 2 (by decide) (ht _ zq_597) (fun _ h9 => h9) rfl dX10_hole_1 ?_
  refine lv_iload_n (pc := 4) hx hb dX10_hole_4 rfl (lv_at hl 1 rfl) ?_
  obtain ⟨v1, hv1, hf⟩ := zc_1 hf
  refine zx_Vi (pc := 5) (wc := [zo_X0 a_c f_c_top f_c_things a_c_bars a_c_gives a_c_rough f_c_startRung f_c_startThings f_c_startStrength f_c_startWind f_c_slips f_c_lines a_c_code f_c_coded f_c_tiresFrom f_c_tiresTo f_c_mayFrom f_c_mayTo]) (wr := [zo_X10 a_o a_tape f_o_taped a_c a_sp a_rd a_now a_tri a_pasts f_o_undoable a_trayss a_ics a_ips a_w a_m a_g a_rw a_sl a_sh, (a_c_bars, .inl (dA 0, 9, .inl b_c_bars)), (a_c_gives, .inl (dA 0, 9, .inl b_c_gives)), (a_c_rough, .inl (dA 0, 9, .inl b_c_rough))]) (w1 := [zo_X0 a_c f_c_top f_c_things a_c_bars a_c_gives a_c_rough f_c_startRung f_c_startThings f_c_startStrength f_c_startWind f_c_slips f_c_lines a_c_code f_c_coded f_c_tiresFrom f_c_tiresTo f_c_mayFrom f_c_mayTo]) (As := [.int p1]) (rest := []) ⟨hx, hb, hml, hown, ht⟩ (zt_X0_isRung l dC dI dA adK adV _ a_c a_c_bars a_c_gives a_c_rough a_c_code f_c_top f_c_things f_c_startRung f_c_startThings f_c_startStrength f_c_startWind f_c_slips f_c_lines f_c_coded f_c_tiresFrom f_c_tiresTo f_c_mayFrom f_c_mayTo p1 v1 hv1) (cwV 1 ht (zq_V zq_691 zq_75 zq_76 zq_77 zq_32) rfl rfl rfl zk_X0_isRung ⟨Nat.le_of_ble_eq_true rfl, Nat.le_of_ble_eq_true rfl⟩) rfl rfl hZ hK hP hD hS hA [1] [0, 2, 3, 4] (by decide) (by decide) (by decide) rfl rfl rfl hl.1 (Nat.le_of_ble_eq_true rfl) dX10_hole_5 ⟨Nat.zero_le _, Nat.zero_le _⟩ rfl (fun H locs hP hD hS => ?_)
  have hP : va_P (dC, dI) zz_cls [zo_X10 a_o a_tape f_o_taped a_c a_sp a_rd a_now a_tri a_pasts f_o_undoable a_trayss a_ics a_ips a_w a_m a_g a_rw a_sl a_sh, (a_c_bars, .inl (dA 0, 9, .inl b_c_bars)), (a_c_gives, .inl (dA 0, 9, .inl b_c_gives)), (a_c_rough, .inl (dA 0, 9, .inl b_c_rough)), zo_X0 a_c f_c_top f_c_things a_c_bars a_c_gives a_c_rough f_c_startRung f_c_startThings f_c_startStrength f_c_startWind f_c_slips f_c_lines a_c_code f_c_coded f_c_tiresFrom f_c_tiresTo f_c_mayFrom f_c_mayTo] H := hP
  have hD : va_D A [zo_X10 a_o a_tape f_o_taped a_c a_sp a_rd a_now a_tri a_pasts f_o_undoable a_trayss a_ics a_ips a_w a_m a_g a_rw a_sl a_sh, (a_c_bars, .inl (dA 0, 9, .inl b_c_bars)), (a_c_gives, .inl (dA 0, 9, .inl b_c_gives)), (a_c_rough, .inl (dA 0, 9, .inl b_c_rough)), zo_X0 a_c f_c_top f_c_things a_c_bars a_c_gives a_c_rough f_c_startRung f_c_startThings f_c_startStrength f_c_startWind f_c_slips f_c_lines a_c_code f_c_coded f_c_tiresFrom f_c_tiresTo f_c_mayFrom f_c_mayTo] := hD
  refine lv_if_ne (tgt := 14) (pc := 8) hx hb dX10_hole_8 rfl (fun hc => ?_) (fun hc => ?_)
  · have hf := za_f hf hc
    refine lv_iload_n (pc := 14) hx hb dX10_hole_14 rfl (lv_at hl 2 rfl) ?_
    by_cases hc0 : p2 = (0 : Int32)
    · have hf := za_t hf hc0
      refine lv_tableIn (tgt := 40) (off := 25) (pc := 15) hx hb dX10_hole_15 (by rw [hc0]; decide) (by rw [hc0]; decide) (by rw [hc0]; decide) rfl ?_
      refine lv_aload_n (pc := 40) hx hb dX10_hole_40 rfl (lv_at hl 0 rfl) ?_
      refine va_get (pc := 41) (D := (dC, dI)) (ci := 11) (v := .ref a_c) (C := RX10) (T := TX10) (N := 18) hx hb ht zq_layX10 hown hK hP 0 rfl rfl 2 (by decide) (ht _ zq_597) (fun _ h9 => h9) rfl dX10_hole_41 ?_
      refine va_get (pc := 44) (D := (dC, dI)) (ci := 1) (v := .ref a_c_bars) (C := RX0) (T := TX0) (N := 17) hx hb ht zq_layX0 hown hK hP 4 rfl rfl 2 (by decide) (ht _ zq_688) (fun _ h9 => h9) rfl dX10_hole_44 ?_
      refine lv_iload_n (pc := 47) hx hb dX10_hole_47 rfl (lv_at hl 1 rfl) ?_
      obtain ⟨v2, hv2, hf⟩ := zc_1 hf
      refine zw_iald (pc := 48) hx hb hK hP 1 0 rfl rfl hv2 dX10_hole_48 ?_
      obtain rfl := Option.some.inj hf
      exact W.iret (pc := 49) hx hb hr (fun t ht hW => ⟨⟨_, (), rfl, rfl, zz_Bi (by rw [ht]; exact hP.sub [0, 4, 1, 2, 3] rfl) (va_K.moved hW.alike hK) (hD.sub [0, 4, 1, 2, 3] (by decide) rfl)⟩, hS.F ht⟩) hS.2.2 dX10_hole_49
    have hf := za_f hf hc0
    by_cases hc1 : p2 = (1 : Int32)
    · have hf := za_t hf hc1
      refine lv_tableIn (tgt := 50) (off := 35) (pc := 15) hx hb dX10_hole_15 (by rw [hc1]; decide) (by rw [hc1]; decide) (by rw [hc1]; decide) rfl ?_
      refine lv_aload_n (pc := 50) hx hb dX10_hole_50 rfl (lv_at hl 0 rfl) ?_
      refine va_get (pc := 51) (D := (dC, dI)) (ci := 11) (v := .ref a_c) (C := RX10) (T := TX10) (N := 18) hx hb ht zq_layX10 hown hK hP 0 rfl rfl 2 (by decide) (ht _ zq_597) (fun _ h9 => h9) rfl dX10_hole_51 ?_
      refine va_get (pc := 54) (D := (dC, dI)) (ci := 1) (v := .ref a_c_gives) (C := RX0) (T := TX0) (N := 17) hx hb ht zq_layX0 hown hK hP 4 rfl rfl 3 (by decide) (ht _ zq_689) (fun _ h9 => h9) rfl dX10_hole_54 ?_
      refine lv_iload_n (pc := 57) hx hb dX10_hole_57 rfl (lv_at hl 1 rfl) ?_
      obtain ⟨v3, hv3, hf⟩ := zc_1 hf
      refine zw_iald (pc := 58) hx hb hK hP 2 0 rfl rfl hv3 dX10_hole_58 ?_
      obtain rfl := Option.some.inj hf
      exact W.iret (pc := 59) hx hb hr (fun t ht hW => ⟨⟨_, (), rfl, rfl, zz_Bi (by rw [ht]; exact hP.sub [0, 4, 1, 2, 3] rfl) (va_K.moved hW.alike hK) (hD.sub [0, 4, 1, 2, 3] (by decide) rfl)⟩, hS.F ht⟩) hS.2.2 dX10_hole_59
    have hf := za_f hf hc1
    by_cases hc2 : p2 = (2 : Int32)
    · have hf := za_t hf hc2
      refine lv_tableIn (tgt := 60) (off := 45) (pc := 15) hx hb dX10_hole_15 (by rw [hc2]; decide) (by rw [hc2]; decide) (by rw [hc2]; decide) rfl ?_
      refine lv_aload_n (pc := 60) hx hb dX10_hole_60 rfl (lv_at hl 0 rfl) ?_
      refine va_get (pc := 61) (D := (dC, dI)) (ci := 11) (v := .ref a_c) (C := RX10) (T := TX10) (N := 18) hx hb ht zq_layX10 hown hK hP 0 rfl rfl 2 (by decide) (ht _ zq_597) (fun _ h9 => h9) rfl dX10_hole_61 ?_
      refine va_get (pc := 64) (D := (dC, dI)) (ci := 1) (v := .ref a_c_rough) (C := RX0) (T := TX0) (N := 17) hx hb ht zq_layX0 hown hK hP 4 rfl rfl 4 (by decide) (ht _ zq_690) (fun _ h9 => h9) rfl dX10_hole_64 ?_
      refine lv_iload_n (pc := 67) hx hb dX10_hole_67 rfl (lv_at hl 1 rfl) ?_
      obtain ⟨v4, hv4, hf⟩ := zc_1 hf
      refine zw_iald (pc := 68) hx hb hK hP 3 0 rfl rfl hv4 dX10_hole_68 ?_
      obtain rfl := Option.some.inj hf
      exact W.iret (pc := 69) hx hb hr (fun t ht hW => ⟨⟨_, (), rfl, rfl, zz_Bi (by rw [ht]; exact hP.sub [0, 4, 1, 2, 3] rfl) (va_K.moved hW.alike hK) (hD.sub [0, 4, 1, 2, 3] (by decide) rfl)⟩, hS.F ht⟩) hS.2.2 dX10_hole_69
    have hf := za_f hf hc2
    refine lv_tableOut (tgt := 70) (pc := 15) hx hb dX10_hole_15 (by have q0 := lv_neT (a := 0) hc0 (by decide); have q1 := lv_neT (a := 1) hc1 (by decide); have q2 := lv_neT (a := 2) hc2 (by decide); omega) rfl ?_
    refine lv_bipush (v := (-2 : Int32)) (pc := 70) hx hb dX10_hole_70 (by decide) ?_
    obtain rfl := Option.some.inj hf
    exact W.iret (pc := 72) hx hb hr (fun t ht hW => ⟨⟨_, (), rfl, rfl, zz_Bi (by rw [ht]; exact hP.sub [0, 4, 1, 2, 3] rfl) (va_K.moved hW.alike hK) (hD.sub [0, 4, 1, 2, 3] (by decide) rfl)⟩, hS.F ht⟩) hS.2.2 dX10_hole_72
  · have hf := za_t hf hc
    refine lv_bipush (v := (-2 : Int32)) (pc := 11) hx hb dX10_hole_11 (by decide) ?_
    obtain rfl := Option.some.inj hf
    exact W.iret (pc := 13) hx hb hr (fun t ht hW => ⟨⟨_, (), rfl, rfl, zz_Bi (by rw [ht]; exact hP.sub [0, 4, 1, 2, 3] rfl) (va_K.moved hW.alike hK) (hD.sub [0, 4, 1, 2, 3] (by decide) rfl)⟩, hS.F ht⟩) hS.2.2 dX10_hole_13

def zf_X10_why (n : Nat) (f_c_top : Int32) (f_c_things : Int32) (f_c_tiresFrom : Int32) (f_c_tiresTo : Int32) (f_c_mayFrom : Int32) (f_c_mayTo : Int32) (b_c_bars : (Nat → Int32)) (b_c_gives : (Nat → Int32)) (b_c_rough : (Nat → Int32)) (b_c_code : (Nat → Int32)) (f_now_stand : Int32) (f_w_wind : Int32) (b_w_told : (Nat → Int32)) (b_w_facts : (Nat → Int32)) (b_w_stack : (Nat → Int32)) (p1 : Int32) : Option (Int32 × (Nat → Int32) × (Nat → Int32) × (Nat → Int32)) :=
  zd_4 (zf_X3_refusal n f_c_top f_c_things f_c_tiresFrom f_c_tiresTo f_c_mayFrom f_c_mayTo b_c_bars b_c_gives b_c_rough b_c_code f_w_wind b_w_told b_w_facts b_w_stack f_now_stand p1) (fun v1 a2 a3 a4 =>
  some (v1, a2, a3, a4))
theorem zk_X10_why : yX10_why.cls = RX10 ∧ yX10_why.cls ≠ "java/lang/invoke/MethodHandle" ∧ yX10_why.cls ≠ "java/lang/invoke/VarHandle" ∧ (parseMethodDescriptor yX10_why.desc).map (fun d => d.parameters.length) = some 1 := by decide +kernel
set_option maxHeartbeats 4000000 in
set_option maxRecDepth 100000 in
theorem zt_X10_why (l : Launch) (dC : Nat → ClassId) (dI : Nat → Nat → Nat) (dA : Nat → ClassId) (adK adV : Nat → Nat) (sz : Nat) (a_o : Nat) (a_tape : Nat) (a_c : Nat) (a_sp : Nat) (a_rd : Nat) (a_now : Nat) (a_tri : Nat) (a_pasts : Nat) (a_trayss : Nat) (a_ics : Nat) (a_ips : Nat) (a_w : Nat) (a_m : Nat) (a_g : Nat) (a_rw : Nat) (a_sl : Nat) (a_sh : Nat) (a_c_bars : Nat) (a_c_gives : Nat) (a_c_rough : Nat) (a_c_code : Nat) (a_w_told : Nat) (a_w_facts : Nat) (a_w_stack : Nat) (a_m_deeds : Nat) (a_m_ends : Nat) (n : Nat) (f_o_taped : Int32) (f_o_undoable : Int32) (f_c_top : Int32) (f_c_things : Int32) (f_c_startRung : Int32) (f_c_startThings : Int32) (f_c_startStrength : Int32) (f_c_startWind : Int32) (f_c_slips : Int32) (f_c_lines : Int32) (f_c_coded : Int32) (f_c_tiresFrom : Int32) (f_c_tiresTo : Int32) (f_c_mayFrom : Int32) (f_c_mayTo : Int32) (f_now_stand : Int32) (f_now_wind : Int32) (f_now_deeds : Int32) (f_w_wind : Int32) (f_m_found : Int32) (b_c_bars : (Nat → Int32)) (b_c_gives : (Nat → Int32)) (b_c_rough : (Nat → Int32)) (b_c_code : (Nat → Int32)) (b_w_told : (Nat → Int32)) (b_w_facts : (Nat → Int32)) (b_w_stack : (Nat → Int32)) (p1 : Int32) (r0 : Int32) (o1 : (Nat → Int32)) (o2 : (Nat → Int32)) (o3 : (Nat → Int32)) (hf : zf_X10_why n f_c_top f_c_things f_c_tiresFrom f_c_tiresTo f_c_mayFrom f_c_mayTo b_c_bars b_c_gives b_c_rough b_c_code f_now_stand f_w_wind b_w_told b_w_facts b_w_stack p1 = some (r0, o1, o2, o3)) : Met l yX10_why (.code yX10_why cX10_why 2 (some .int) :: zq_T) ({ frames := 5, cells := 0, slots := 0, locals := 153 }) (va_Pc [.ref a_o, .int p1] (zx_M dC dI dA adK adV [zo_X10 a_o a_tape f_o_taped a_c a_sp a_rd a_now a_tri a_pasts f_o_undoable a_trayss a_ics a_ips a_w a_m a_g a_rw a_sl a_sh, zo_X0 a_c f_c_top f_c_things a_c_bars a_c_gives a_c_rough f_c_startRung f_c_startThings f_c_startStrength f_c_startWind f_c_slips f_c_lines a_c_code f_c_coded f_c_tiresFrom f_c_tiresTo f_c_mayFrom f_c_mayTo, (a_c_bars, .inl (dA 0, 9, .inl b_c_bars)), (a_c_gives, .inl (dA 0, 9, .inl b_c_gives)), (a_c_rough, .inl (dA 0, 9, .inl b_c_rough)), (a_c_code, .inl (dA 0, 900, .inl b_c_code)), zo_X4 a_now f_now_stand f_now_wind f_now_deeds, zo_X2 a_w a_c a_w_told a_w_facts a_w_stack f_w_wind, (a_w_told, .inl (dA 0, 315, .inl b_w_told)), (a_w_facts, .inl (dA 0, 6, .inl b_w_facts)), (a_w_stack, .inl (dA 0, 64, .inl b_w_stack)), zo_X3 a_m a_c a_w a_m_deeds a_m_ends f_m_found] sz)) (va_Qi (fun (r : Int32) (_ : Unit) => r = r0) (fun _ t => zz_B dC dI dA (va_A [zo_X10 a_o a_tape f_o_taped a_c a_sp a_rd a_now a_tri a_pasts f_o_undoable a_trayss a_ics a_ips a_w a_m a_g a_rw a_sl a_sh, zo_X0 a_c f_c_top f_c_things a_c_bars a_c_gives a_c_rough f_c_startRung f_c_startThings f_c_startStrength f_c_startWind f_c_slips f_c_lines a_c_code f_c_coded f_c_tiresFrom f_c_tiresTo f_c_mayFrom f_c_mayTo, (a_c_bars, .inl (dA 0, 9, .inl b_c_bars)), (a_c_gives, .inl (dA 0, 9, .inl b_c_gives)), (a_c_rough, .inl (dA 0, 9, .inl b_c_rough)), (a_c_code, .inl (dA 0, 900, .inl b_c_code)), zo_X4 a_now f_now_stand f_now_wind f_now_deeds, zo_X2 a_w a_c a_w_told a_w_facts a_w_stack f_w_wind, (a_w_told, .inl (dA 0, 315, .inl b_w_told)), (a_w_facts, .inl (dA 0, 6, .inl b_w_facts)), (a_w_stack, .inl (dA 0, 64, .inl b_w_stack)), zo_X3 a_m a_c a_w a_m_deeds a_m_ends f_m_found] sz) [zo_X10 a_o a_tape f_o_taped a_c a_sp a_rd a_now a_tri a_pasts f_o_undoable a_trayss a_ics a_ips a_w a_m a_g a_rw a_sl a_sh, zo_X0 a_c f_c_top f_c_things a_c_bars a_c_gives a_c_rough f_c_startRung f_c_startThings f_c_startStrength f_c_startWind f_c_slips f_c_lines a_c_code f_c_coded f_c_tiresFrom f_c_tiresTo f_c_mayFrom f_c_mayTo, (a_c_bars, .inl (dA 0, 9, .inl b_c_bars)), (a_c_gives, .inl (dA 0, 9, .inl b_c_gives)), (a_c_rough, .inl (dA 0, 9, .inl b_c_rough)), (a_c_code, .inl (dA 0, 900, .inl b_c_code)), zo_X4 a_now f_now_stand f_now_wind f_now_deeds, zo_X2 a_w a_c a_w_told a_w_facts a_w_stack f_w_wind, (a_w_told, .inl (dA 0, 315, .inl o1)), (a_w_facts, .inl (dA 0, 6, .inl o2)), (a_w_stack, .inl (dA 0, 64, .inl o3)), zo_X3 a_m a_c a_w a_m_deeds a_m_ends f_m_found] t) (va_A [zo_X10 a_o a_tape f_o_taped a_c a_sp a_rd a_now a_tri a_pasts f_o_undoable a_trayss a_ics a_ips a_w a_m a_g a_rw a_sl a_sh, zo_X0 a_c f_c_top f_c_things a_c_bars a_c_gives a_c_rough f_c_startRung f_c_startThings f_c_startStrength f_c_startWind f_c_slips f_c_lines a_c_code f_c_coded f_c_tiresFrom f_c_tiresTo f_c_mayFrom f_c_mayTo, (a_c_bars, .inl (dA 0, 9, .inl b_c_bars)), (a_c_gives, .inl (dA 0, 9, .inl b_c_gives)), (a_c_rough, .inl (dA 0, 9, .inl b_c_rough)), (a_c_code, .inl (dA 0, 900, .inl b_c_code)), zo_X4 a_now f_now_stand f_now_wind f_now_deeds, zo_X2 a_w a_c a_w_told a_w_facts a_w_stack f_w_wind, (a_w_told, .inl (dA 0, 315, .inl b_w_told)), (a_w_facts, .inl (dA 0, 6, .inl b_w_facts)), (a_w_stack, .inl (dA 0, 64, .inl b_w_stack)), zo_X3 a_m a_c a_w a_m_deeds a_m_ends f_m_found] sz)) 0 0 (va_A [zo_X10 a_o a_tape f_o_taped a_c a_sp a_rd a_now a_tri a_pasts f_o_undoable a_trayss a_ics a_ips a_w a_m a_g a_rw a_sl a_sh, zo_X0 a_c f_c_top f_c_things a_c_bars a_c_gives a_c_rough f_c_startRung f_c_startThings f_c_startStrength f_c_startWind f_c_slips f_c_lines a_c_code f_c_coded f_c_tiresFrom f_c_tiresTo f_c_mayFrom f_c_mayTo, (a_c_bars, .inl (dA 0, 9, .inl b_c_bars)), (a_c_gives, .inl (dA 0, 9, .inl b_c_gives)), (a_c_rough, .inl (dA 0, 9, .inl b_c_rough)), (a_c_code, .inl (dA 0, 900, .inl b_c_code)), zo_X4 a_now f_now_stand f_now_wind f_now_deeds, zo_X2 a_w a_c a_w_told a_w_facts a_w_stack f_w_wind, (a_w_told, .inl (dA 0, 315, .inl b_w_told)), (a_w_facts, .inl (dA 0, 6, .inl b_w_facts)), (a_w_stack, .inl (dA 0, 64, .inl b_w_stack)), zo_X3 a_m a_c a_w a_m_deeds a_m_ends f_m_found] sz) := by
  unfold zf_X10_why at hf
  refine Met.ofW (cc := cX10_why) (maxL := 2) (ret := (some .int)) (by decide) rfl ?_
  intro p e s m args below meth c s₁ B hml hv
  obtain ⟨rfl, ⟨hsz, hP, hK, hD0⟩, hZ⟩ := hv
  have hx := B.exec
  have hb := B.bytes
  have hr := B.returns
  have ht : ∀ w ∈ zq_T, w.before ([.ref a_o, .int p1] : List Value).toArray s = true := fun w hw => atoms_spec (ws := .code yX10_why cX10_why 2 (some .int) :: zq_T) B.pre w (List.mem_cons_of_mem _ hw)
  have hown : s.vm.findClass RX10 = some m.cls := findClass_of_methodNamed B.named
  have hlocks := B.notSynchronized
  subst hsz
  have hD := hD0.self (sz := s.heap.size)
  generalize hAe : va_A [zo_X10 a_o a_tape f_o_taped a_c a_sp a_rd a_now a_tri a_pasts f_o_undoable a_trayss a_ics a_ips a_w a_m a_g a_rw a_sl a_sh, zo_X0 a_c f_c_top f_c_things a_c_bars a_c_gives a_c_rough f_c_startRung f_c_startThings f_c_startStrength f_c_startWind f_c_slips f_c_lines a_c_code f_c_coded f_c_tiresFrom f_c_tiresTo f_c_mayFrom f_c_mayTo, (a_c_bars, .inl (dA 0, 9, .inl b_c_bars)), (a_c_gives, .inl (dA 0, 9, .inl b_c_gives)), (a_c_rough, .inl (dA 0, 9, .inl b_c_rough)), (a_c_code, .inl (dA 0, 900, .inl b_c_code)), zo_X4 a_now f_now_stand f_now_wind f_now_deeds, zo_X2 a_w a_c a_w_told a_w_facts a_w_stack f_w_wind, (a_w_told, .inl (dA 0, 315, .inl b_w_told)), (a_w_facts, .inl (dA 0, 6, .inl b_w_facts)), (a_w_stack, .inl (dA 0, 64, .inl b_w_stack)), zo_X3 a_m a_c a_w a_m_deeds a_m_ends f_m_found] s.heap.size = A at hD hZ ⊢
  have hA : ∀ q : Nat, s.heap.size ≤ q → A q := fun q h => by rw [← hAe]; exact Or.inr h
  clear hAe hD0
  have hS : va_S A s.heap s.heap [] := va_S.rf
  have hl := lv_entry ([.ref a_o, .int p1]) (n := 2) (Nat.le_of_ble_eq_true rfl)
  rw [lg_entry_eq]
  generalize (lg_sl ([.ref a_o, .int p1]) ++ List.replicate (2 - (lg_sl ([.ref a_o, .int p1])).length) Slot.unset).toArray = ls at hl ⊢
  have hl : lv_has ls 2 [(0, .ref a_o), (1, .int p1)] := hl
  refine lv_aload_n (pc := 0) hx hb dX10_why_0 rfl (lv_at hl 0 rfl) ?_
  refine va_get (pc := 1) (D := (dC, dI)) (ci := 11) (v := .ref a_m) (C := RX10) (T := TX10) (N := 18) hx hb ht zq_layX10 hown hK hP 0 rfl rfl 13 (by decide) (ht _ zq_618) (fun _ h9 => h9) rfl dX10_why_1 ?_
  refine lv_aload_n (pc := 4) hx hb dX10_why_4 rfl (lv_at hl 0 rfl) ?_
  refine va_get (pc := 5) (D := (dC, dI)) (ci := 11) (v := .ref a_now) (C := RX10) (T := TX10) (N := 18) hx hb ht zq_layX10 hown hK hP 0 rfl rfl 5 (by decide) (ht _ zq_605) (fun _ h9 => h9) rfl dX10_why_5 ?_
  refine va_get (pc := 8) (D := (dC, dI)) (ci := 5) (v := .int f_now_stand) (C := RX4) (T := TX4) (N := 3) hx hb ht zq_layX4 hown hK hP 6 rfl rfl 0 (by decide) (ht _ zq_692) (fun _ h9 => h9) rfl dX10_why_8 ?_
  refine lv_iload_n (pc := 11) hx hb dX10_why_11 rfl (lv_at hl 1 rfl) ?_
  obtain ⟨v1, a2, a3, a4, hv1, hf⟩ := zc_4 hf
  refine zx_Vi (pc := 12) (wc := [zo_X3 a_m a_c a_w a_m_deeds a_m_ends f_m_found, zo_X0 a_c f_c_top f_c_things a_c_bars a_c_gives a_c_rough f_c_startRung f_c_startThings f_c_startStrength f_c_startWind f_c_slips f_c_lines a_c_code f_c_coded f_c_tiresFrom f_c_tiresTo f_c_mayFrom f_c_mayTo, (a_c_bars, .inl (dA 0, 9, .inl b_c_bars)), (a_c_gives, .inl (dA 0, 9, .inl b_c_gives)), (a_c_rough, .inl (dA 0, 9, .inl b_c_rough)), (a_c_code, .inl (dA 0, 900, .inl b_c_code)), zo_X2 a_w a_c a_w_told a_w_facts a_w_stack f_w_wind, (a_w_told, .inl (dA 0, 315, .inl b_w_told)), (a_w_facts, .inl (dA 0, 6, .inl b_w_facts)), (a_w_stack, .inl (dA 0, 64, .inl b_w_stack))]) (wr := [zo_X10 a_o a_tape f_o_taped a_c a_sp a_rd a_now a_tri a_pasts f_o_undoable a_trayss a_ics a_ips a_w a_m a_g a_rw a_sl a_sh, zo_X4 a_now f_now_stand f_now_wind f_now_deeds]) (w1 := [zo_X3 a_m a_c a_w a_m_deeds a_m_ends f_m_found, zo_X0 a_c f_c_top f_c_things a_c_bars a_c_gives a_c_rough f_c_startRung f_c_startThings f_c_startStrength f_c_startWind f_c_slips f_c_lines a_c_code f_c_coded f_c_tiresFrom f_c_tiresTo f_c_mayFrom f_c_mayTo, (a_c_bars, .inl (dA 0, 9, .inl b_c_bars)), (a_c_gives, .inl (dA 0, 9, .inl b_c_gives)), (a_c_rough, .inl (dA 0, 9, .inl b_c_rough)), (a_c_code, .inl (dA 0, 900, .inl b_c_code)), zo_X2 a_w a_c a_w_told a_w_facts a_w_stack f_w_wind, (a_w_told, .inl (dA 0, 315, .inl a2)), (a_w_facts, .inl (dA 0, 6, .inl a3)), (a_w_stack, .inl (dA 0, 64, .inl a4))]) (As := [.int f_now_stand, .int p1]) (rest := []) ⟨hx, hb, hml, hown, ht⟩ (zt_X3_refusal l dC dI dA adK adV _ a_m a_c a_w a_m_deeds a_m_ends a_c_bars a_c_gives a_c_rough a_c_code a_w_told a_w_facts a_w_stack n f_m_found f_c_top f_c_things f_c_startRung f_c_startThings f_c_startStrength f_c_startWind f_c_slips f_c_lines f_c_coded f_c_tiresFrom f_c_tiresTo f_c_mayFrom f_c_mayTo f_w_wind b_c_bars b_c_gives b_c_rough b_c_code b_w_told b_w_facts b_w_stack f_now_stand p1 v1 a2 a3 a4 hv1) (cwV 2 ht (zq_V zq_693 zq_181 zq_182 zq_50 zq_177) rfl rfl rfl zk_X3_refusal ⟨Nat.le_of_ble_eq_true rfl, Nat.le_of_ble_eq_true rfl⟩) rfl rfl hZ hK hP hD hS hA [11, 1, 2, 3, 4, 5, 7, 8, 9, 10] [0, 6] (by decide) (by decide) (by decide) rfl rfl rfl hl.1 (Nat.le_of_ble_eq_true rfl) dX10_why_12 ⟨Nat.zero_le _, Nat.zero_le _⟩ rfl (fun H locs hP hD hS => ?_)
  have hP : va_P (dC, dI) zz_cls [zo_X10 a_o a_tape f_o_taped a_c a_sp a_rd a_now a_tri a_pasts f_o_undoable a_trayss a_ics a_ips a_w a_m a_g a_rw a_sl a_sh, zo_X4 a_now f_now_stand f_now_wind f_now_deeds, zo_X3 a_m a_c a_w a_m_deeds a_m_ends f_m_found, zo_X0 a_c f_c_top f_c_things a_c_bars a_c_gives a_c_rough f_c_startRung f_c_startThings f_c_startStrength f_c_startWind f_c_slips f_c_lines a_c_code f_c_coded f_c_tiresFrom f_c_tiresTo f_c_mayFrom f_c_mayTo, (a_c_bars, .inl (dA 0, 9, .inl b_c_bars)), (a_c_gives, .inl (dA 0, 9, .inl b_c_gives)), (a_c_rough, .inl (dA 0, 9, .inl b_c_rough)), (a_c_code, .inl (dA 0, 900, .inl b_c_code)), zo_X2 a_w a_c a_w_told a_w_facts a_w_stack f_w_wind, (a_w_told, .inl (dA 0, 315, .inl a2)), (a_w_facts, .inl (dA 0, 6, .inl a3)), (a_w_stack, .inl (dA 0, 64, .inl a4))] H := hP
  have hD : va_D A [zo_X10 a_o a_tape f_o_taped a_c a_sp a_rd a_now a_tri a_pasts f_o_undoable a_trayss a_ics a_ips a_w a_m a_g a_rw a_sl a_sh, zo_X4 a_now f_now_stand f_now_wind f_now_deeds, zo_X3 a_m a_c a_w a_m_deeds a_m_ends f_m_found, zo_X0 a_c f_c_top f_c_things a_c_bars a_c_gives a_c_rough f_c_startRung f_c_startThings f_c_startStrength f_c_startWind f_c_slips f_c_lines a_c_code f_c_coded f_c_tiresFrom f_c_tiresTo f_c_mayFrom f_c_mayTo, (a_c_bars, .inl (dA 0, 9, .inl b_c_bars)), (a_c_gives, .inl (dA 0, 9, .inl b_c_gives)), (a_c_rough, .inl (dA 0, 9, .inl b_c_rough)), (a_c_code, .inl (dA 0, 900, .inl b_c_code)), zo_X2 a_w a_c a_w_told a_w_facts a_w_stack f_w_wind, (a_w_told, .inl (dA 0, 315, .inl a2)), (a_w_facts, .inl (dA 0, 6, .inl a3)), (a_w_stack, .inl (dA 0, 64, .inl a4))] := hD
  obtain ⟨rfl, rfl, rfl, rfl⟩ := zi_4 hf
  exact W.iret (pc := 15) hx hb hr (fun t ht hW => ⟨⟨_, (), rfl, rfl, zz_Bi (by rw [ht]; exact hP.sub [0, 3, 4, 5, 6, 7, 1, 8, 9, 10, 11, 2] rfl) (va_K.moved hW.alike hK) (hD.sub [0, 3, 4, 5, 6, 7, 1, 8, 9, 10, 11, 2] (by decide) rfl)⟩, hS.F ht⟩) hS.2.2 dX10_why_15

def zf_X10_by (n : Nat) (f_c_top : Int32) (f_c_things : Int32) (f_c_tiresFrom : Int32) (f_c_tiresTo : Int32) (f_c_mayFrom : Int32) (f_c_mayTo : Int32) (b_c_bars : (Nat → Int32)) (b_c_gives : (Nat → Int32)) (b_c_rough : (Nat → Int32)) (b_c_code : (Nat → Int32)) (f_now_stand : Int32) (f_w_wind : Int32) (b_w_told : (Nat → Int32)) (b_w_facts : (Nat → Int32)) (b_w_stack : (Nat → Int32)) (p1 : Int32) (p2 : Int32) : Option (Int32 × (Nat → Int32) × (Nat → Int32) × (Nat → Int32)) :=
  if p2 < 0 then
    some ((-2 : Int32), b_w_told, b_w_facts, b_w_stack)
  else
    if p2 ≤ (2 : Int32) then
      zd_4 (zf_X3_after n f_c_top f_c_things f_c_tiresFrom f_c_tiresTo f_c_mayFrom f_c_mayTo b_c_bars b_c_gives b_c_rough b_c_code f_w_wind b_w_told b_w_facts b_w_stack f_now_stand p1) (fun v1 a2 a3 a4 =>
      if v1 = (-1 : Int32) then
        some ((-5 : Int32), a2, a3, a4)
      else
        if p2 = 0 then
          zd_1 (zf_X10_rungOf v1) (fun v5 =>
          some (v5, a2, a3, a4))
        else
          if p2 = (1 : Int32) then
            zd_1 (zf_X10_thingsOf v1) (fun v6 =>
            some (v6, a2, a3, a4))
          else
            zd_1 (zf_X10_strengthOf v1) (fun v7 =>
            some (v7, a2, a3, a4)))
    else
      some ((-2 : Int32), b_w_told, b_w_facts, b_w_stack)
theorem zk_X10_by : yX10_by.cls = RX10 ∧ yX10_by.cls ≠ "java/lang/invoke/MethodHandle" ∧ yX10_by.cls ≠ "java/lang/invoke/VarHandle" ∧ (parseMethodDescriptor yX10_by.desc).map (fun d => d.parameters.length) = some 2 := by decide +kernel
set_option maxHeartbeats 4000000 in
set_option maxRecDepth 100000 in
theorem zt_X10_by (l : Launch) (dC : Nat → ClassId) (dI : Nat → Nat → Nat) (dA : Nat → ClassId) (adK adV : Nat → Nat) (sz : Nat) (a_o : Nat) (a_tape : Nat) (a_c : Nat) (a_sp : Nat) (a_rd : Nat) (a_now : Nat) (a_tri : Nat) (a_pasts : Nat) (a_trayss : Nat) (a_ics : Nat) (a_ips : Nat) (a_w : Nat) (a_m : Nat) (a_g : Nat) (a_rw : Nat) (a_sl : Nat) (a_sh : Nat) (a_c_bars : Nat) (a_c_gives : Nat) (a_c_rough : Nat) (a_c_code : Nat) (a_w_told : Nat) (a_w_facts : Nat) (a_w_stack : Nat) (a_m_deeds : Nat) (a_m_ends : Nat) (n : Nat) (f_o_taped : Int32) (f_o_undoable : Int32) (f_c_top : Int32) (f_c_things : Int32) (f_c_startRung : Int32) (f_c_startThings : Int32) (f_c_startStrength : Int32) (f_c_startWind : Int32) (f_c_slips : Int32) (f_c_lines : Int32) (f_c_coded : Int32) (f_c_tiresFrom : Int32) (f_c_tiresTo : Int32) (f_c_mayFrom : Int32) (f_c_mayTo : Int32) (f_now_stand : Int32) (f_now_wind : Int32) (f_now_deeds : Int32) (f_w_wind : Int32) (f_m_found : Int32) (b_c_bars : (Nat → Int32)) (b_c_gives : (Nat → Int32)) (b_c_rough : (Nat → Int32)) (b_c_code : (Nat → Int32)) (b_w_told : (Nat → Int32)) (b_w_facts : (Nat → Int32)) (b_w_stack : (Nat → Int32)) (p1 : Int32) (p2 : Int32) (r0 : Int32) (o1 : (Nat → Int32)) (o2 : (Nat → Int32)) (o3 : (Nat → Int32)) (hf : zf_X10_by n f_c_top f_c_things f_c_tiresFrom f_c_tiresTo f_c_mayFrom f_c_mayTo b_c_bars b_c_gives b_c_rough b_c_code f_now_stand f_w_wind b_w_told b_w_facts b_w_stack p1 p2 = some (r0, o1, o2, o3)) : Met l yX10_by (.code yX10_by cX10_by 4 (some .int) :: zq_T) ({ frames := 6, cells := 0, slots := 0, locals := 176 }) (va_Pc [.ref a_o, .int p1, .int p2] (zx_M dC dI dA adK adV [zo_X10 a_o a_tape f_o_taped a_c a_sp a_rd a_now a_tri a_pasts f_o_undoable a_trayss a_ics a_ips a_w a_m a_g a_rw a_sl a_sh, zo_X0 a_c f_c_top f_c_things a_c_bars a_c_gives a_c_rough f_c_startRung f_c_startThings f_c_startStrength f_c_startWind f_c_slips f_c_lines a_c_code f_c_coded f_c_tiresFrom f_c_tiresTo f_c_mayFrom f_c_mayTo, (a_c_bars, .inl (dA 0, 9, .inl b_c_bars)), (a_c_gives, .inl (dA 0, 9, .inl b_c_gives)), (a_c_rough, .inl (dA 0, 9, .inl b_c_rough)), (a_c_code, .inl (dA 0, 900, .inl b_c_code)), zo_X4 a_now f_now_stand f_now_wind f_now_deeds, zo_X2 a_w a_c a_w_told a_w_facts a_w_stack f_w_wind, (a_w_told, .inl (dA 0, 315, .inl b_w_told)), (a_w_facts, .inl (dA 0, 6, .inl b_w_facts)), (a_w_stack, .inl (dA 0, 64, .inl b_w_stack)), zo_X3 a_m a_c a_w a_m_deeds a_m_ends f_m_found] sz)) (va_Qi (fun (r : Int32) (_ : Unit) => r = r0) (fun _ t => zz_B dC dI dA (va_A [zo_X10 a_o a_tape f_o_taped a_c a_sp a_rd a_now a_tri a_pasts f_o_undoable a_trayss a_ics a_ips a_w a_m a_g a_rw a_sl a_sh, zo_X0 a_c f_c_top f_c_things a_c_bars a_c_gives a_c_rough f_c_startRung f_c_startThings f_c_startStrength f_c_startWind f_c_slips f_c_lines a_c_code f_c_coded f_c_tiresFrom f_c_tiresTo f_c_mayFrom f_c_mayTo, (a_c_bars, .inl (dA 0, 9, .inl b_c_bars)), (a_c_gives, .inl (dA 0, 9, .inl b_c_gives)), (a_c_rough, .inl (dA 0, 9, .inl b_c_rough)), (a_c_code, .inl (dA 0, 900, .inl b_c_code)), zo_X4 a_now f_now_stand f_now_wind f_now_deeds, zo_X2 a_w a_c a_w_told a_w_facts a_w_stack f_w_wind, (a_w_told, .inl (dA 0, 315, .inl b_w_told)), (a_w_facts, .inl (dA 0, 6, .inl b_w_facts)), (a_w_stack, .inl (dA 0, 64, .inl b_w_stack)), zo_X3 a_m a_c a_w a_m_deeds a_m_ends f_m_found] sz) [zo_X10 a_o a_tape f_o_taped a_c a_sp a_rd a_now a_tri a_pasts f_o_undoable a_trayss a_ics a_ips a_w a_m a_g a_rw a_sl a_sh, zo_X0 a_c f_c_top f_c_things a_c_bars a_c_gives a_c_rough f_c_startRung f_c_startThings f_c_startStrength f_c_startWind f_c_slips f_c_lines a_c_code f_c_coded f_c_tiresFrom f_c_tiresTo f_c_mayFrom f_c_mayTo, (a_c_bars, .inl (dA 0, 9, .inl b_c_bars)), (a_c_gives, .inl (dA 0, 9, .inl b_c_gives)), (a_c_rough, .inl (dA 0, 9, .inl b_c_rough)), (a_c_code, .inl (dA 0, 900, .inl b_c_code)), zo_X4 a_now f_now_stand f_now_wind f_now_deeds, zo_X2 a_w a_c a_w_told a_w_facts a_w_stack f_w_wind, (a_w_told, .inl (dA 0, 315, .inl o1)), (a_w_facts, .inl (dA 0, 6, .inl o2)), (a_w_stack, .inl (dA 0, 64, .inl o3)), zo_X3 a_m a_c a_w a_m_deeds a_m_ends f_m_found] t) (va_A [zo_X10 a_o a_tape f_o_taped a_c a_sp a_rd a_now a_tri a_pasts f_o_undoable a_trayss a_ics a_ips a_w a_m a_g a_rw a_sl a_sh, zo_X0 a_c f_c_top f_c_things a_c_bars a_c_gives a_c_rough f_c_startRung f_c_startThings f_c_startStrength f_c_startWind f_c_slips f_c_lines a_c_code f_c_coded f_c_tiresFrom f_c_tiresTo f_c_mayFrom f_c_mayTo, (a_c_bars, .inl (dA 0, 9, .inl b_c_bars)), (a_c_gives, .inl (dA 0, 9, .inl b_c_gives)), (a_c_rough, .inl (dA 0, 9, .inl b_c_rough)), (a_c_code, .inl (dA 0, 900, .inl b_c_code)), zo_X4 a_now f_now_stand f_now_wind f_now_deeds, zo_X2 a_w a_c a_w_told a_w_facts a_w_stack f_w_wind, (a_w_told, .inl (dA 0, 315, .inl b_w_told)), (a_w_facts, .inl (dA 0, 6, .inl b_w_facts)), (a_w_stack, .inl (dA 0, 64, .inl b_w_stack)), zo_X3 a_m a_c a_w a_m_deeds a_m_ends f_m_found] sz)) 0 0 (va_A [zo_X10 a_o a_tape f_o_taped a_c a_sp a_rd a_now a_tri a_pasts f_o_undoable a_trayss a_ics a_ips a_w a_m a_g a_rw a_sl a_sh, zo_X0 a_c f_c_top f_c_things a_c_bars a_c_gives a_c_rough f_c_startRung f_c_startThings f_c_startStrength f_c_startWind f_c_slips f_c_lines a_c_code f_c_coded f_c_tiresFrom f_c_tiresTo f_c_mayFrom f_c_mayTo, (a_c_bars, .inl (dA 0, 9, .inl b_c_bars)), (a_c_gives, .inl (dA 0, 9, .inl b_c_gives)), (a_c_rough, .inl (dA 0, 9, .inl b_c_rough)), (a_c_code, .inl (dA 0, 900, .inl b_c_code)), zo_X4 a_now f_now_stand f_now_wind f_now_deeds, zo_X2 a_w a_c a_w_told a_w_facts a_w_stack f_w_wind, (a_w_told, .inl (dA 0, 315, .inl b_w_told)), (a_w_facts, .inl (dA 0, 6, .inl b_w_facts)), (a_w_stack, .inl (dA 0, 64, .inl b_w_stack)), zo_X3 a_m a_c a_w a_m_deeds a_m_ends f_m_found] sz) := by
  unfold zf_X10_by at hf
  refine Met.ofW (cc := cX10_by) (maxL := 4) (ret := (some .int)) (by decide) rfl ?_
  intro p e s m args below meth c s₁ B hml hv
  obtain ⟨rfl, ⟨hsz, hP, hK, hD0⟩, hZ⟩ := hv
  have hx := B.exec
  have hb := B.bytes
  have hr := B.returns
  have ht : ∀ w ∈ zq_T, w.before ([.ref a_o, .int p1, .int p2] : List Value).toArray s = true := fun w hw => atoms_spec (ws := .code yX10_by cX10_by 4 (some .int) :: zq_T) B.pre w (List.mem_cons_of_mem _ hw)
  have hown : s.vm.findClass RX10 = some m.cls := findClass_of_methodNamed B.named
  have hlocks := B.notSynchronized
  subst hsz
  have hD := hD0.self (sz := s.heap.size)
  generalize hAe : va_A [zo_X10 a_o a_tape f_o_taped a_c a_sp a_rd a_now a_tri a_pasts f_o_undoable a_trayss a_ics a_ips a_w a_m a_g a_rw a_sl a_sh, zo_X0 a_c f_c_top f_c_things a_c_bars a_c_gives a_c_rough f_c_startRung f_c_startThings f_c_startStrength f_c_startWind f_c_slips f_c_lines a_c_code f_c_coded f_c_tiresFrom f_c_tiresTo f_c_mayFrom f_c_mayTo, (a_c_bars, .inl (dA 0, 9, .inl b_c_bars)), (a_c_gives, .inl (dA 0, 9, .inl b_c_gives)), (a_c_rough, .inl (dA 0, 9, .inl b_c_rough)), (a_c_code, .inl (dA 0, 900, .inl b_c_code)), zo_X4 a_now f_now_stand f_now_wind f_now_deeds, zo_X2 a_w a_c a_w_told a_w_facts a_w_stack f_w_wind, (a_w_told, .inl (dA 0, 315, .inl b_w_told)), (a_w_facts, .inl (dA 0, 6, .inl b_w_facts)), (a_w_stack, .inl (dA 0, 64, .inl b_w_stack)), zo_X3 a_m a_c a_w a_m_deeds a_m_ends f_m_found] s.heap.size = A at hD hZ ⊢
  have hA : ∀ q : Nat, s.heap.size ≤ q → A q := fun q h => by rw [← hAe]; exact Or.inr h
  clear hAe hD0
  have hS : va_S A s.heap s.heap [] := va_S.rf
  have hl := lv_entry ([.ref a_o, .int p1, .int p2]) (n := 4) (Nat.le_of_ble_eq_true rfl)
  rw [lg_entry_eq]
  generalize (lg_sl ([.ref a_o, .int p1, .int p2]) ++ List.replicate (4 - (lg_sl ([.ref a_o, .int p1, .int p2])).length) Slot.unset).toArray = ls at hl ⊢
  have hl : lv_has ls 4 [(0, .ref a_o), (1, .int p1), (2, .int p2)] := hl
  refine lv_iload_n (pc := 0) hx hb dX10_by_0 rfl (lv_at hl 2 rfl) ?_
  refine lv_if_lt (tgt := 9) (pc := 1) hx hb dX10_by_1 rfl (fun hc => ?_) (fun hc => ?_)
  · have hf := za_t hf hc
    refine lv_bipush (v := (-2 : Int32)) (pc := 9) hx hb dX10_by_9 (by decide) ?_
    obtain ⟨rfl, rfl, rfl, rfl⟩ := zi_4 hf
    exact W.iret (pc := 11) hx hb hr (fun t ht hW => ⟨⟨_, (), rfl, rfl, zz_Bi (by rw [ht]; exact hP) (va_K.moved hW.alike hK) (hD)⟩, hS.F ht⟩) hS.2.2 dX10_by_11
  · have hf := za_f hf hc
    refine lv_iload_n (pc := 4) hx hb dX10_by_4 rfl (lv_at hl 2 rfl) ?_
    refine lv_iconst (v := (2 : Int32)) (pc := 5) hx hb dX10_by_5 (by decide) ?_
    refine lv_icmp_le (tgt := 12) (pc := 6) hx hb dX10_by_6 rfl (fun hc => ?_) (fun hc => ?_)
    · have hf := za_t hf hc
      refine lv_aload_n (pc := 12) hx hb dX10_by_12 rfl (lv_at hl 0 rfl) ?_
      refine va_get (pc := 13) (D := (dC, dI)) (ci := 11) (v := .ref a_m) (C := RX10) (T := TX10) (N := 18) hx hb ht zq_layX10 hown hK hP 0 rfl rfl 13 (by decide) (ht _ zq_618) (fun _ h9 => h9) rfl dX10_by_13 ?_
      refine lv_aload_n (pc := 16) hx hb dX10_by_16 rfl (lv_at hl 0 rfl) ?_
      refine va_get (pc := 17) (D := (dC, dI)) (ci := 11) (v := .ref a_now) (C := RX10) (T := TX10) (N := 18) hx hb ht zq_layX10 hown hK hP 0 rfl rfl 5 (by decide) (ht _ zq_605) (fun _ h9 => h9) rfl dX10_by_17 ?_
      refine va_get (pc := 20) (D := (dC, dI)) (ci := 5) (v := .int f_now_stand) (C := RX4) (T := TX4) (N := 3) hx hb ht zq_layX4 hown hK hP 6 rfl rfl 0 (by decide) (ht _ zq_692) (fun _ h9 => h9) rfl dX10_by_20 ?_
      refine lv_iload_n (pc := 23) hx hb dX10_by_23 rfl (lv_at hl 1 rfl) ?_
      obtain ⟨v1, a2, a3, a4, hv1, hf⟩ := zc_4 hf
      refine zx_Vi (pc := 24) (wc := [zo_X3 a_m a_c a_w a_m_deeds a_m_ends f_m_found, zo_X0 a_c f_c_top f_c_things a_c_bars a_c_gives a_c_rough f_c_startRung f_c_startThings f_c_startStrength f_c_startWind f_c_slips f_c_lines a_c_code f_c_coded f_c_tiresFrom f_c_tiresTo f_c_mayFrom f_c_mayTo, (a_c_bars, .inl (dA 0, 9, .inl b_c_bars)), (a_c_gives, .inl (dA 0, 9, .inl b_c_gives)), (a_c_rough, .inl (dA 0, 9, .inl b_c_rough)), (a_c_code, .inl (dA 0, 900, .inl b_c_code)), zo_X2 a_w a_c a_w_told a_w_facts a_w_stack f_w_wind, (a_w_told, .inl (dA 0, 315, .inl b_w_told)), (a_w_facts, .inl (dA 0, 6, .inl b_w_facts)), (a_w_stack, .inl (dA 0, 64, .inl b_w_stack))]) (wr := [zo_X10 a_o a_tape f_o_taped a_c a_sp a_rd a_now a_tri a_pasts f_o_undoable a_trayss a_ics a_ips a_w a_m a_g a_rw a_sl a_sh, zo_X4 a_now f_now_stand f_now_wind f_now_deeds]) (w1 := [zo_X3 a_m a_c a_w a_m_deeds a_m_ends f_m_found, zo_X0 a_c f_c_top f_c_things a_c_bars a_c_gives a_c_rough f_c_startRung f_c_startThings f_c_startStrength f_c_startWind f_c_slips f_c_lines a_c_code f_c_coded f_c_tiresFrom f_c_tiresTo f_c_mayFrom f_c_mayTo, (a_c_bars, .inl (dA 0, 9, .inl b_c_bars)), (a_c_gives, .inl (dA 0, 9, .inl b_c_gives)), (a_c_rough, .inl (dA 0, 9, .inl b_c_rough)), (a_c_code, .inl (dA 0, 900, .inl b_c_code)), zo_X2 a_w a_c a_w_told a_w_facts a_w_stack f_w_wind, (a_w_told, .inl (dA 0, 315, .inl a2)), (a_w_facts, .inl (dA 0, 6, .inl a3)), (a_w_stack, .inl (dA 0, 64, .inl a4))]) (As := [.int f_now_stand, .int p1]) (rest := []) ⟨hx, hb, hml, hown, ht⟩ (zt_X3_after l dC dI dA adK adV _ a_m a_c a_w a_m_deeds a_m_ends a_c_bars a_c_gives a_c_rough a_c_code a_w_told a_w_facts a_w_stack n f_m_found f_c_top f_c_things f_c_startRung f_c_startThings f_c_startStrength f_c_startWind f_c_slips f_c_lines f_c_coded f_c_tiresFrom f_c_tiresTo f_c_mayFrom f_c_mayTo f_w_wind b_c_bars b_c_gives b_c_rough b_c_code b_w_told b_w_facts b_w_stack f_now_stand p1 v1 a2 a3 a4 hv1) (cwV 2 ht (zq_V zq_695 zq_696 zq_697 zq_50 zq_186) rfl rfl rfl zk_X3_after ⟨Nat.le_of_ble_eq_true rfl, Nat.le_of_ble_eq_true rfl⟩) rfl rfl hZ hK hP hD hS hA [11, 1, 2, 3, 4, 5, 7, 8, 9, 10] [0, 6] (by decide) (by decide) (by decide) rfl rfl rfl hl.1 (Nat.le_of_ble_eq_true rfl) dX10_by_24 ⟨Nat.zero_le _, Nat.zero_le _⟩ rfl (fun H locs hP hD hS => ?_)
      have hP : va_P (dC, dI) zz_cls [zo_X10 a_o a_tape f_o_taped a_c a_sp a_rd a_now a_tri a_pasts f_o_undoable a_trayss a_ics a_ips a_w a_m a_g a_rw a_sl a_sh, zo_X4 a_now f_now_stand f_now_wind f_now_deeds, zo_X3 a_m a_c a_w a_m_deeds a_m_ends f_m_found, zo_X0 a_c f_c_top f_c_things a_c_bars a_c_gives a_c_rough f_c_startRung f_c_startThings f_c_startStrength f_c_startWind f_c_slips f_c_lines a_c_code f_c_coded f_c_tiresFrom f_c_tiresTo f_c_mayFrom f_c_mayTo, (a_c_bars, .inl (dA 0, 9, .inl b_c_bars)), (a_c_gives, .inl (dA 0, 9, .inl b_c_gives)), (a_c_rough, .inl (dA 0, 9, .inl b_c_rough)), (a_c_code, .inl (dA 0, 900, .inl b_c_code)), zo_X2 a_w a_c a_w_told a_w_facts a_w_stack f_w_wind, (a_w_told, .inl (dA 0, 315, .inl a2)), (a_w_facts, .inl (dA 0, 6, .inl a3)), (a_w_stack, .inl (dA 0, 64, .inl a4))] H := hP
      have hD : va_D A [zo_X10 a_o a_tape f_o_taped a_c a_sp a_rd a_now a_tri a_pasts f_o_undoable a_trayss a_ics a_ips a_w a_m a_g a_rw a_sl a_sh, zo_X4 a_now f_now_stand f_now_wind f_now_deeds, zo_X3 a_m a_c a_w a_m_deeds a_m_ends f_m_found, zo_X0 a_c f_c_top f_c_things a_c_bars a_c_gives a_c_rough f_c_startRung f_c_startThings f_c_startStrength f_c_startWind f_c_slips f_c_lines a_c_code f_c_coded f_c_tiresFrom f_c_tiresTo f_c_mayFrom f_c_mayTo, (a_c_bars, .inl (dA 0, 9, .inl b_c_bars)), (a_c_gives, .inl (dA 0, 9, .inl b_c_gives)), (a_c_rough, .inl (dA 0, 9, .inl b_c_rough)), (a_c_code, .inl (dA 0, 900, .inl b_c_code)), zo_X2 a_w a_c a_w_told a_w_facts a_w_stack f_w_wind, (a_w_told, .inl (dA 0, 315, .inl a2)), (a_w_facts, .inl (dA 0, 6, .inl a3)), (a_w_stack, .inl (dA 0, 64, .inl a4))] := hD
      refine lv_istore_n (lv' := [(3, .int v1), (0, .ref a_o), (1, .int p1), (2, .int p2)]) (pc := 27) hx hb dX10_by_27 rfl hl (by decide) rfl (fun ls hl => ?_)
      refine lv_iload_n (pc := 28) hx hb dX10_by_28 rfl (lv_at hl 0 rfl) ?_
      refine lv_iconst (v := (-1 : Int32)) (pc := 29) hx hb dX10_by_29 (by decide) ?_
      refine lv_icmp_ne (tgt := 36) (pc := 30) hx hb dX10_by_30 rfl (fun hc => ?_) (fun hc => ?_)
      · have hf := za_f hf hc
        refine lv_iload_n (pc := 36) hx hb dX10_by_36 rfl (lv_at hl 3 rfl) ?_
        refine lv_if_ne (tgt := 45) (pc := 37) hx hb dX10_by_37 rfl (fun hc => ?_) (fun hc => ?_)
        · have hf := za_f hf hc
          refine lv_iload_n (pc := 45) hx hb dX10_by_45 rfl (lv_at hl 3 rfl) ?_
          refine lv_iconst (v := (1 : Int32)) (pc := 46) hx hb dX10_by_46 (by decide) ?_
          refine lv_icmp_ne (tgt := 57) (pc := 47) hx hb dX10_by_47 rfl (fun hc => ?_) (fun hc => ?_)
          · have hf := za_f hf hc
            refine lv_iload_n (pc := 57) hx hb dX10_by_57 rfl (lv_at hl 0 rfl) ?_
            obtain ⟨v7, hv7, hf⟩ := zc_1 hf
            refine zx_Si (pc := 58) (wc := []) (wr := [zo_X10 a_o a_tape f_o_taped a_c a_sp a_rd a_now a_tri a_pasts f_o_undoable a_trayss a_ics a_ips a_w a_m a_g a_rw a_sl a_sh, zo_X4 a_now f_now_stand f_now_wind f_now_deeds, zo_X3 a_m a_c a_w a_m_deeds a_m_ends f_m_found, zo_X0 a_c f_c_top f_c_things a_c_bars a_c_gives a_c_rough f_c_startRung f_c_startThings f_c_startStrength f_c_startWind f_c_slips f_c_lines a_c_code f_c_coded f_c_tiresFrom f_c_tiresTo f_c_mayFrom f_c_mayTo, (a_c_bars, .inl (dA 0, 9, .inl b_c_bars)), (a_c_gives, .inl (dA 0, 9, .inl b_c_gives)), (a_c_rough, .inl (dA 0, 9, .inl b_c_rough)), (a_c_code, .inl (dA 0, 900, .inl b_c_code)), zo_X2 a_w a_c a_w_told a_w_facts a_w_stack f_w_wind, (a_w_told, .inl (dA 0, 315, .inl a2)), (a_w_facts, .inl (dA 0, 6, .inl a3)), (a_w_stack, .inl (dA 0, 64, .inl a4))]) (w1 := []) (As := [.int v1]) (rest := []) ⟨hx, hb, hml, hown, ht⟩ (zt_X10_strengthOf l dC dI dA adK adV _ v1 v7 hv7) (cwS 1 ht (zq_S zq_700 zq_62 zq_58 zq_63) rfl rfl rfl zk_X10_strengthOf ⟨Nat.le_of_ble_eq_true rfl, Nat.le_of_ble_eq_true rfl⟩) hZ hK hP hD hS hA [] [0, 1, 2, 3, 4, 5, 6, 7, 8, 9, 10, 11] (by decide) (by decide) (by decide) rfl rfl rfl hl.1 (Nat.le_of_ble_eq_true rfl) dX10_by_58 ⟨Nat.zero_le _, Nat.zero_le _⟩ rfl (fun H locs hP hD hS => ?_)
            have hP : va_P (dC, dI) zz_cls [zo_X10 a_o a_tape f_o_taped a_c a_sp a_rd a_now a_tri a_pasts f_o_undoable a_trayss a_ics a_ips a_w a_m a_g a_rw a_sl a_sh, zo_X4 a_now f_now_stand f_now_wind f_now_deeds, zo_X3 a_m a_c a_w a_m_deeds a_m_ends f_m_found, zo_X0 a_c f_c_top f_c_things a_c_bars a_c_gives a_c_rough f_c_startRung f_c_startThings f_c_startStrength f_c_startWind f_c_slips f_c_lines a_c_code f_c_coded f_c_tiresFrom f_c_tiresTo f_c_mayFrom f_c_mayTo, (a_c_bars, .inl (dA 0, 9, .inl b_c_bars)), (a_c_gives, .inl (dA 0, 9, .inl b_c_gives)), (a_c_rough, .inl (dA 0, 9, .inl b_c_rough)), (a_c_code, .inl (dA 0, 900, .inl b_c_code)), zo_X2 a_w a_c a_w_told a_w_facts a_w_stack f_w_wind, (a_w_told, .inl (dA 0, 315, .inl a2)), (a_w_facts, .inl (dA 0, 6, .inl a3)), (a_w_stack, .inl (dA 0, 64, .inl a4))] H := hP
            have hD : va_D A [zo_X10 a_o a_tape f_o_taped a_c a_sp a_rd a_now a_tri a_pasts f_o_undoable a_trayss a_ics a_ips a_w a_m a_g a_rw a_sl a_sh, zo_X4 a_now f_now_stand f_now_wind f_now_deeds, zo_X3 a_m a_c a_w a_m_deeds a_m_ends f_m_found, zo_X0 a_c f_c_top f_c_things a_c_bars a_c_gives a_c_rough f_c_startRung f_c_startThings f_c_startStrength f_c_startWind f_c_slips f_c_lines a_c_code f_c_coded f_c_tiresFrom f_c_tiresTo f_c_mayFrom f_c_mayTo, (a_c_bars, .inl (dA 0, 9, .inl b_c_bars)), (a_c_gives, .inl (dA 0, 9, .inl b_c_gives)), (a_c_rough, .inl (dA 0, 9, .inl b_c_rough)), (a_c_code, .inl (dA 0, 900, .inl b_c_code)), zo_X2 a_w a_c a_w_told a_w_facts a_w_stack f_w_wind, (a_w_told, .inl (dA 0, 315, .inl a2)), (a_w_facts, .inl (dA 0, 6, .inl a3)), (a_w_stack, .inl (dA 0, 64, .inl a4))] := hD
            obtain ⟨rfl, rfl, rfl, rfl⟩ := zi_4 hf
            exact W.iret (pc := 61) hx hb hr (fun t ht hW => ⟨⟨_, (), rfl, rfl, zz_Bi (by rw [ht]; exact hP.sub [0, 3, 4, 5, 6, 7, 1, 8, 9, 10, 11, 2] rfl) (va_K.moved hW.alike hK) (hD.sub [0, 3, 4, 5, 6, 7, 1, 8, 9, 10, 11, 2] (by decide) rfl)⟩, hS.F ht⟩) hS.2.2 dX10_by_61
          · have hf := za_t hf hc
            refine lv_iload_n (pc := 50) hx hb dX10_by_50 rfl (lv_at hl 0 rfl) ?_
            obtain ⟨v6, hv6, hf⟩ := zc_1 hf
            refine zx_Si (pc := 51) (wc := []) (wr := [zo_X10 a_o a_tape f_o_taped a_c a_sp a_rd a_now a_tri a_pasts f_o_undoable a_trayss a_ics a_ips a_w a_m a_g a_rw a_sl a_sh, zo_X4 a_now f_now_stand f_now_wind f_now_deeds, zo_X3 a_m a_c a_w a_m_deeds a_m_ends f_m_found, zo_X0 a_c f_c_top f_c_things a_c_bars a_c_gives a_c_rough f_c_startRung f_c_startThings f_c_startStrength f_c_startWind f_c_slips f_c_lines a_c_code f_c_coded f_c_tiresFrom f_c_tiresTo f_c_mayFrom f_c_mayTo, (a_c_bars, .inl (dA 0, 9, .inl b_c_bars)), (a_c_gives, .inl (dA 0, 9, .inl b_c_gives)), (a_c_rough, .inl (dA 0, 9, .inl b_c_rough)), (a_c_code, .inl (dA 0, 900, .inl b_c_code)), zo_X2 a_w a_c a_w_told a_w_facts a_w_stack f_w_wind, (a_w_told, .inl (dA 0, 315, .inl a2)), (a_w_facts, .inl (dA 0, 6, .inl a3)), (a_w_stack, .inl (dA 0, 64, .inl a4))]) (w1 := []) (As := [.int v1]) (rest := []) ⟨hx, hb, hml, hown, ht⟩ (zt_X10_thingsOf l dC dI dA adK adV _ v1 v6 hv6) (cwS 1 ht (zq_S zq_699 zq_60 zq_58 zq_61) rfl rfl rfl zk_X10_thingsOf ⟨Nat.le_of_ble_eq_true rfl, Nat.le_of_ble_eq_true rfl⟩) hZ hK hP hD hS hA [] [0, 1, 2, 3, 4, 5, 6, 7, 8, 9, 10, 11] (by decide) (by decide) (by decide) rfl rfl rfl hl.1 (Nat.le_of_ble_eq_true rfl) dX10_by_51 ⟨Nat.zero_le _, Nat.zero_le _⟩ rfl (fun H locs hP hD hS => ?_)
            have hP : va_P (dC, dI) zz_cls [zo_X10 a_o a_tape f_o_taped a_c a_sp a_rd a_now a_tri a_pasts f_o_undoable a_trayss a_ics a_ips a_w a_m a_g a_rw a_sl a_sh, zo_X4 a_now f_now_stand f_now_wind f_now_deeds, zo_X3 a_m a_c a_w a_m_deeds a_m_ends f_m_found, zo_X0 a_c f_c_top f_c_things a_c_bars a_c_gives a_c_rough f_c_startRung f_c_startThings f_c_startStrength f_c_startWind f_c_slips f_c_lines a_c_code f_c_coded f_c_tiresFrom f_c_tiresTo f_c_mayFrom f_c_mayTo, (a_c_bars, .inl (dA 0, 9, .inl b_c_bars)), (a_c_gives, .inl (dA 0, 9, .inl b_c_gives)), (a_c_rough, .inl (dA 0, 9, .inl b_c_rough)), (a_c_code, .inl (dA 0, 900, .inl b_c_code)), zo_X2 a_w a_c a_w_told a_w_facts a_w_stack f_w_wind, (a_w_told, .inl (dA 0, 315, .inl a2)), (a_w_facts, .inl (dA 0, 6, .inl a3)), (a_w_stack, .inl (dA 0, 64, .inl a4))] H := hP
            have hD : va_D A [zo_X10 a_o a_tape f_o_taped a_c a_sp a_rd a_now a_tri a_pasts f_o_undoable a_trayss a_ics a_ips a_w a_m a_g a_rw a_sl a_sh, zo_X4 a_now f_now_stand f_now_wind f_now_deeds, zo_X3 a_m a_c a_w a_m_deeds a_m_ends f_m_found, zo_X0 a_c f_c_top f_c_things a_c_bars a_c_gives a_c_rough f_c_startRung f_c_startThings f_c_startStrength f_c_startWind f_c_slips f_c_lines a_c_code f_c_coded f_c_tiresFrom f_c_tiresTo f_c_mayFrom f_c_mayTo, (a_c_bars, .inl (dA 0, 9, .inl b_c_bars)), (a_c_gives, .inl (dA 0, 9, .inl b_c_gives)), (a_c_rough, .inl (dA 0, 9, .inl b_c_rough)), (a_c_code, .inl (dA 0, 900, .inl b_c_code)), zo_X2 a_w a_c a_w_told a_w_facts a_w_stack f_w_wind, (a_w_told, .inl (dA 0, 315, .inl a2)), (a_w_facts, .inl (dA 0, 6, .inl a3)), (a_w_stack, .inl (dA 0, 64, .inl a4))] := hD
            refine lv_goto (tgt := 61) (pc := 54) hx hb dX10_by_54 rfl ?_
            obtain ⟨rfl, rfl, rfl, rfl⟩ := zi_4 hf
            exact W.iret (pc := 61) hx hb hr (fun t ht hW => ⟨⟨_, (), rfl, rfl, zz_Bi (by rw [ht]; exact hP.sub [0, 3, 4, 5, 6, 7, 1, 8, 9, 10, 11, 2] rfl) (va_K.moved hW.alike hK) (hD.sub [0, 3, 4, 5, 6, 7, 1, 8, 9, 10, 11, 2] (by decide) rfl)⟩, hS.F ht⟩) hS.2.2 dX10_by_61
        · have hf := za_t hf hc
          refine lv_iload_n (pc := 40) hx hb dX10_by_40 rfl (lv_at hl 0 rfl) ?_
          obtain ⟨v5, hv5, hf⟩ := zc_1 hf
          refine zx_Si (pc := 41) (wc := []) (wr := [zo_X10 a_o a_tape f_o_taped a_c a_sp a_rd a_now a_tri a_pasts f_o_undoable a_trayss a_ics a_ips a_w a_m a_g a_rw a_sl a_sh, zo_X4 a_now f_now_stand f_now_wind f_now_deeds, zo_X3 a_m a_c a_w a_m_deeds a_m_ends f_m_found, zo_X0 a_c f_c_top f_c_things a_c_bars a_c_gives a_c_rough f_c_startRung f_c_startThings f_c_startStrength f_c_startWind f_c_slips f_c_lines a_c_code f_c_coded f_c_tiresFrom f_c_tiresTo f_c_mayFrom f_c_mayTo, (a_c_bars, .inl (dA 0, 9, .inl b_c_bars)), (a_c_gives, .inl (dA 0, 9, .inl b_c_gives)), (a_c_rough, .inl (dA 0, 9, .inl b_c_rough)), (a_c_code, .inl (dA 0, 900, .inl b_c_code)), zo_X2 a_w a_c a_w_told a_w_facts a_w_stack f_w_wind, (a_w_told, .inl (dA 0, 315, .inl a2)), (a_w_facts, .inl (dA 0, 6, .inl a3)), (a_w_stack, .inl (dA 0, 64, .inl a4))]) (w1 := []) (As := [.int v1]) (rest := []) ⟨hx, hb, hml, hown, ht⟩ (zt_X10_rungOf l dC dI dA adK adV _ v1 v5 hv5) (cwS 1 ht (zq_S zq_698 zq_57 zq_58 zq_59) rfl rfl rfl zk_X10_rungOf ⟨Nat.le_of_ble_eq_true rfl, Nat.le_of_ble_eq_true rfl⟩) hZ hK hP hD hS hA [] [0, 1, 2, 3, 4, 5, 6, 7, 8, 9, 10, 11] (by decide) (by decide) (by decide) rfl rfl rfl hl.1 (Nat.le_of_ble_eq_true rfl) dX10_by_41 ⟨Nat.zero_le _, Nat.zero_le _⟩ rfl (fun H locs hP hD hS => ?_)
          have hP : va_P (dC, dI) zz_cls [zo_X10 a_o a_tape f_o_taped a_c a_sp a_rd a_now a_tri a_pasts f_o_undoable a_trayss a_ics a_ips a_w a_m a_g a_rw a_sl a_sh, zo_X4 a_now f_now_stand f_now_wind f_now_deeds, zo_X3 a_m a_c a_w a_m_deeds a_m_ends f_m_found, zo_X0 a_c f_c_top f_c_things a_c_bars a_c_gives a_c_rough f_c_startRung f_c_startThings f_c_startStrength f_c_startWind f_c_slips f_c_lines a_c_code f_c_coded f_c_tiresFrom f_c_tiresTo f_c_mayFrom f_c_mayTo, (a_c_bars, .inl (dA 0, 9, .inl b_c_bars)), (a_c_gives, .inl (dA 0, 9, .inl b_c_gives)), (a_c_rough, .inl (dA 0, 9, .inl b_c_rough)), (a_c_code, .inl (dA 0, 900, .inl b_c_code)), zo_X2 a_w a_c a_w_told a_w_facts a_w_stack f_w_wind, (a_w_told, .inl (dA 0, 315, .inl a2)), (a_w_facts, .inl (dA 0, 6, .inl a3)), (a_w_stack, .inl (dA 0, 64, .inl a4))] H := hP
          have hD : va_D A [zo_X10 a_o a_tape f_o_taped a_c a_sp a_rd a_now a_tri a_pasts f_o_undoable a_trayss a_ics a_ips a_w a_m a_g a_rw a_sl a_sh, zo_X4 a_now f_now_stand f_now_wind f_now_deeds, zo_X3 a_m a_c a_w a_m_deeds a_m_ends f_m_found, zo_X0 a_c f_c_top f_c_things a_c_bars a_c_gives a_c_rough f_c_startRung f_c_startThings f_c_startStrength f_c_startWind f_c_slips f_c_lines a_c_code f_c_coded f_c_tiresFrom f_c_tiresTo f_c_mayFrom f_c_mayTo, (a_c_bars, .inl (dA 0, 9, .inl b_c_bars)), (a_c_gives, .inl (dA 0, 9, .inl b_c_gives)), (a_c_rough, .inl (dA 0, 9, .inl b_c_rough)), (a_c_code, .inl (dA 0, 900, .inl b_c_code)), zo_X2 a_w a_c a_w_told a_w_facts a_w_stack f_w_wind, (a_w_told, .inl (dA 0, 315, .inl a2)), (a_w_facts, .inl (dA 0, 6, .inl a3)), (a_w_stack, .inl (dA 0, 64, .inl a4))] := hD
          obtain ⟨rfl, rfl, rfl, rfl⟩ := zi_4 hf
          exact W.iret (pc := 44) hx hb hr (fun t ht hW => ⟨⟨_, (), rfl, rfl, zz_Bi (by rw [ht]; exact hP.sub [0, 3, 4, 5, 6, 7, 1, 8, 9, 10, 11, 2] rfl) (va_K.moved hW.alike hK) (hD.sub [0, 3, 4, 5, 6, 7, 1, 8, 9, 10, 11, 2] (by decide) rfl)⟩, hS.F ht⟩) hS.2.2 dX10_by_44
      · have hf := za_t hf hc
        refine lv_bipush (v := (-5 : Int32)) (pc := 33) hx hb dX10_by_33 (by decide) ?_
        obtain ⟨rfl, rfl, rfl, rfl⟩ := zi_4 hf
        exact W.iret (pc := 35) hx hb hr (fun t ht hW => ⟨⟨_, (), rfl, rfl, zz_Bi (by rw [ht]; exact hP.sub [0, 3, 4, 5, 6, 7, 1, 8, 9, 10, 11, 2] rfl) (va_K.moved hW.alike hK) (hD.sub [0, 3, 4, 5, 6, 7, 1, 8, 9, 10, 11, 2] (by decide) rfl)⟩, hS.F ht⟩) hS.2.2 dX10_by_35
    · have hf := za_f hf hc
      refine lv_bipush (v := (-2 : Int32)) (pc := 9) hx hb dX10_by_9 (by decide) ?_
      obtain ⟨rfl, rfl, rfl, rfl⟩ := zi_4 hf
      exact W.iret (pc := 11) hx hb hr (fun t ht hW => ⟨⟨_, (), rfl, rfl, zz_Bi (by rw [ht]; exact hP) (va_K.moved hW.alike hK) (hD)⟩, hS.F ht⟩) hS.2.2 dX10_by_11
